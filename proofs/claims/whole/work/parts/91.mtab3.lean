/-! The reference reads a line of a table, all forms. -/
section MTAB3
variable {d : Nat} {D D0 : xD} {t : Nat × (Nat → Nat)} {p p1 : Nat} {q : qS} {F : Option (Nat × Nat)}
theorem lnLaw_1 {w m : Nat} (hm : mw w = m) (c : cN t m (tE t p) = m) : lnLaw t q p1 p w = if tK t (nx t (tE t p) m) ≠ 2 then .inl (tS t (nx t (tE t p) m)) else .inr (tlLaw q w (tV t p1) (tS t p1) (tV t (tE t p)) (tS t (tE t p)), tE t (nx t (tE t p) m)) := by
  rw [lnLaw_e, hm, c, if_neg (Nat.lt_irrefl m)]
theorem c_M_lawLine {P : Int32 → xD → Prop} (R : mrd D0 t 0 q) (hv : vOK 0 q) (W : mwl D0 D t q.1 p1) (hgd : D.1 325 25 = 1) (hL : lnS t 0 q p = lnRest t q p p1 7)
    (h0 : ∀ b D', mF 336 338 11 26 D0 D' → lnS t 0 q p = .inl b → D'.1 325 17 = nI b → P 0 D')
    (h1 : ∀ q' pp D', mF 336 338 11 26 D0 D' → (tK t pp ≠ 2 → lnS t 0 q p = .inl (tS t pp)) → (tK t pp = 2 → lnS t 0 q p = .inr (q', tE t pp)) → mrd D' t 0 q' → vOK 0 q' → mtk D' t pp → fB q'.1 (tS t pp) → P 1 D') : xCi (d + 5) m_M_lawLine [.ref 325] D P := by
  have l12 : xl (325 + 12) = 4 := cl_13_21 xk_M
  have i12 : vp_in (0 : Int32) (xl (325 + 12)) := by rw [l12]; exact vp_in_nI (n := 0) (by omega) (by omega)
  have i12' : vp_in (1 : Int32) (xl (325 + 12)) := by rw [l12]; exact vp_in_nI (n := 1) (by omega) (by omega)
  have k01 : ((1 : Int32) : Int32).toNatClampNeg = 1 := by decide
  have l7 : lsN 7 = 1 := rfl
  have m7 : msN 7 = 1 := by unfold msN; rw [if_neg (by omega)]; rfl
  have r6 := R.2.2.2.2.2.1
  have r7 := R.2.2.2.2.2.2.1
  refine xCi_of y_M_lawLine (Nat.le_of_ble_eq_true rfl) (s_M_lawLine_0 xk_M ?_)
  refine wl_take (k := 0) (lo := 0) (hi := 5) W (by omega) (by omega) (by omega) (fun c D' o f17 => z0' ⟨_, rfl, h0 _ D' (o.m (by omega) (by omega)) (hL.trans (lnRest_0 (by decide) c)) f17⟩) (fun c hv1 hS D1 W1 v1 g1 => z1' ⟨i12, c_M_greater (fun D5 e5 => ?_)⟩)
  obtain ⟨w1, w2, w3, w4, w5, w6⟩ := W1
  have c1 : cN t (msN 7) p1 = 1 := by rw [m7]; show (if tK t p1 = 1 then 0 + 1 else 0) = 1; rw [if_pos c]
  have nl : ¬ cN t (msN 7) p1 < lsN 7 := by omega
  have ex : nx t p1 (cN t (msN 7) p1) = tE t p1 := by rw [c1]; rfl
  have hg := hv.2
  have e0 : D1.1 (325 + 12) 0 = nI (tV t p1) := by rw [show D1.1 (325 + 12) 0 = D1.1 337 0 from rfl, v1, if_pos rfl]
  obtain ⟨o5, f5⟩ := mf e5
  rw [k00, e0, w2 22 (by omega) (by omega), r6, grt (by omega) (by omega)] at f5
  generalize hp2 : tE t p1 = p2 at w5 w6 ex
  have k5 : mtk D5 t p2 := mtk_fr w5 o5 (by omega) (by rw [e5])
  have T5 := w3.fr o5 (by omega) (by omega)
  have m5 : mFlt D5 (chk q.1 (tV t p1) 0 5 (tS t p1)) := w4.fr o5 (by omega)
  have o05 : mF 336 338 11 26 D0 D5 := (w1.m (by omega) (by omega)).trans (o5.m (by omega) (by omega))
  have s5 : D5.1 336 = D0.1 336 := by rw [(o5.1 336 (by omega) (by omega)).1, (w1.1 336 (by omega) (by omega)).1]
  have g5 : D5.1 325 25 = if 0 ≤ tV t p1 ∧ tV t p1 ≤ 5 then 1 else 0 := by rw [o5.2 25 (by omega), g1, hgd]
  have h523 : D5.1 325 23 = nI q.2.2.2 - 1 := by rw [o5.2 23 (by omega), w2 23 (by omega) (by omega)]; exact r7
  have r50 : D5.1 337 0 = nI (tV t p1) := by rw [(o5.1 337 (by omega) (by omega)).1]; exact e0
  -- behind the word
  have body : ∀ x1 : Int64, xPf (d + 5) m_M_lawLine 95 [(0, .ref 325), (1, .long x1)] [.int (oI (look (wIx t p2) lawF))] D5 (fun r D' => ∃ v, r = some (.int v) ∧ P v D') := by
    intro x1
    have el := look_is (t := t) (p := p2) lawF_21
    cases hw : look (wIx t p2) lawF with
    | none =>
      refine s_M_lawLine_95 xk_M ⟨fun z => absurd rfl z, fun _ => c_M_fails k5 (fun D2 o2 f2 => ⟨Or.inl rfl, _, rfl, h0 _ D2 (o05.trans (o2.m (by omega) (by omega))) ?_ f2⟩)⟩
      rw [hL, lnRest_70 nl (by rw [ex, el]; exact hw), ex]
    | some w =>
      rw [hw] at el
      have w4' : w < 4 := law_ok (ifs_some el).2
      have eL : lnS t 0 q p = lnLaw t q p1 p2 w := by rw [hL, lnRest_71 nl (by rw [ex]; exact el), ex]
      have ow : oI (some w) = nI w := rfl
      rw [ow]
      refine s_M_lawLine_95 xk_M ⟨fun _ => ?_, fun z => absurd ((oI_iff (r := some w) (fun p' e => by cases e; omega)).mp z) (fun y => by cases y)⟩
      refine c_M_token T5 (p := tE t p2) k5.2.2.1 (tE_le k5.1) (fun D6 o6 T6 k6 => ⟨i12', fun D2 e2 => ?_⟩)
      obtain ⟨o2, v2⟩ := ma (by omega) e2
      have v2' : ∀ j, D2.1 337 j = if j = 1 then -1 else D6.1 337 j := v2
      have o52 : mF 337 338 11 17 D5 D2 := (o6.m (by omega) (by omega)).trans (o2.m (by omega) (by omega))
      have k2 : mtk D2 t (tE t p2) := mtk_fr k6 o2 (by omega) (by rw [e2])
      have T2 := T6.fr o2 (by omega) (by omega)
      have m2 : mFlt D2 (chk q.1 (tV t p1) 0 5 (tS t p1)) := m5.fr o52 (by omega)
      have o02 : mF 336 338 11 26 D0 D2 := o05.trans (o52.m (by omega) (by omega))
      have s2 : D2.1 336 = D0.1 336 := by rw [(o52.1 336 (by omega) (by omega)).1]; exact s5
      have g2 : D2.1 325 25 = if 0 ≤ tV t p1 ∧ tV t p1 ≤ 5 then 1 else 0 := by rw [o52.2 25 (by omega)]; exact g5
      have r20 : D2.1 337 0 = nI (tV t p1) := by rw [v2', if_neg (by omega), (o6.1 337 (by omega) (by omega)).1]; exact r50
      have f22 : D2.1 325 22 = nI (if q.2.2.1 < tV t p1 + 1 then tV t p1 + 1 else q.2.2.1) - 1 := by rw [o52.2 22 (by omega)]; exact f5
      have f23 : D2.1 325 23 = nI q.2.2.2 - 1 := by rw [o52.2 23 (by omega)]; exact h523
      have t23 : tS t p2 < tS t (tE t p2) := tS_lt (by have := (ifs_some el).1; omega)
      have e1 : nI w = (1 : Int32) ↔ w = 1 := nI_eq (b := 1) (by omega) (by omega)
      have e2' : nI w = (2 : Int32) ↔ w = 2 := nI_eq (b := 2) (by omega) (by omega)
      have two : (w = 1 ∨ w = 2) → xCi (d + 4) m_M_take [.ref 325, .int (1 : Int32), .int (0 : Int32), .int (12 : Int32)] D2 (fun r4 D3 => (¬ r4 = 0 → vp_in (1 : Int32) (xl (325 + 12)) ∧ xCi (d + 4) m_M_greater [.int (D3.1 325 23), .int (D3.1 (325 + 12) ((1 : Int32) : Int32).toNatClampNeg)] D3 (fun r6 D5 => ∀ D7 : xD, D7 = (xu D5.1 325 23 r6, D5.2) → ((D7.1 325 25) = 0 → ∃ v, some (Value.int (1 : Int32)) = some (.int v) ∧ P v D7) ∧ (¬ (D7.1 325 25) = 0 → vp_in (0 : Int32) (xl (325 + 12)) ∧ vp_in (((6 : Int32) + ((7 : Int32) * (D7.1 (325 + 12) ((0 : Int32) : Int32).toNatClampNeg))) + (4 : Int32)) (xl (325 + 11)) ∧ ∀ D8 : xD, D8 = (xu D7.1 (325 + 11) (((6 : Int32) + ((7 : Int32) * (D7.1 (325 + 12) ((0 : Int32) : Int32).toNatClampNeg))) + (4 : Int32) : Int32).toNatClampNeg (nI w), D7.2) → vp_in (0 : Int32) (xl (325 + 12)) ∧ vp_in (1 : Int32) (xl (325 + 12)) ∧ vp_in (((6 : Int32) + ((7 : Int32) * (D8.1 (325 + 12) ((0 : Int32) : Int32).toNatClampNeg))) + (5 : Int32)) (xl (325 + 11)) ∧ ∀ D9 : xD, D9 = (xu D8.1 (325 + 11) (((6 : Int32) + ((7 : Int32) * (D8.1 (325 + 12) ((0 : Int32) : Int32).toNatClampNeg))) + (5 : Int32) : Int32).toNatClampNeg (D8.1 (325 + 12) ((1 : Int32) : Int32).toNatClampNeg), D8.2) → ∃ v, some (Value.int (1 : Int32)) = some (.int v) ∧ P v D9))) ∧ (r4 = 0 → ∃ v, some (Value.int (0 : Int32)) = some (.int v) ∧ P v D3)) := by
        intro w12
        have mw1 : mw w = 1 := if_pos w12
        refine c_M_take (k := 1) (lo := 0) (hi := 12) T2 k2 m2 (by omega) (by omega) (by omega) (fun cc D' o f17 => z0' ⟨_, rfl, h0 _ D' (o02.trans (o.m (by omega) (by omega))) ?_ f17⟩) (fun cc hvn hSn D3 o3 g3 T3 k3 m3 v3 gg => z1' ⟨i12', c_M_greater (fun D7 e7 => ?_)⟩)
        · have c0 : cN t (mw w) (tE t p2) = 0 := by rw [mw1]; show (if tK t (tE t p2) = 1 then 0 + 1 else 0) = 0; rw [if_neg cc]
          rw [eL, lnLaw_e, c0, if_pos (by omega)]; rfl
        · have c11 : cN t 1 (tE t p2) = 1 := by show (if tK t (tE t p2) = 1 then 0 + 1 else 0) = 1; rw [if_pos cc]
          have eR := eL.trans (lnLaw_1 (q := q) (p1 := p1) mw1 c11)
          obtain ⟨o7, f7⟩ := mf e7
          have e31 : D3.1 (325 + 12) 1 = nI (tV t (tE t p2)) := by rw [show D3.1 (325 + 12) 1 = D3.1 337 1 from rfl, v3, if_pos rfl]
          rw [k01, e31, g3 23 (by omega) (by omega), f23, grt (by omega) (by omega)] at f7
          have fb1 : fB (chk q.1 (tV t p1) 0 5 (tS t p1)) (tS t (tE t p2)) := w6.mono (by omega)
          rw [chkL_chk fb1] at m3
          have q1e : (tlLaw q w (tV t p1) (tS t p1) (tV t (tE t p2)) (tS t (tE t p2))).1 = chk (chk q.1 (tV t p1) 0 5 (tS t p1)) (tV t (tE t p2)) 0 12 (tS t (tE t p2)) := by unfold tlLaw; rw [if_pos w12]
          have q2e : (tlLaw q w (tV t p1) (tS t p1) (tV t (tE t p2)) (tS t (tE t p2))).2.2.1 = (if q.2.2.1 < tV t p1 + 1 then tV t p1 + 1 else q.2.2.1) := by unfold tlLaw; rw [if_pos w12]
          have q3e : (tlLaw q w (tV t p1) (tS t p1) (tV t (tE t p2)) (tS t (tE t p2))).2.2.2 = (if q.2.2.2 < tV t (tE t p2) + 1 then tV t (tE t p2) + 1 else q.2.2.2) := by unfold tlLaw; rw [if_pos w12]
          refine law_fin (n := tV t p1) (pl := tS t p1) (n1 := tV t (tE t p2)) (pl1 := tS t (tE t p2)) (pp := tE t (tE t p2)) (kd := nI (tV t (tE t p2))) R w4' hv1 (o02.trans ((o3.m (by omega) (by omega)).trans (o7.m (by omega) (by omega)))) (by rw [(o7.1 336 (by omega) (by omega)).1, (o3.1 336 (by omega) (by omega)).1]; exact s2) (T3.fr o7 (by omega) (by omega)) (by rw [q1e]; exact m3.fr o7 (by omega)) (mtk_fr k3 o7 (by omega) (by rw [e7])) ?_ ?_ ?_ ?_ (by rw [if_pos w12]) ?_ (fun D' o R' k' => h1 _ _ D' o (fun z => by rw [eR]; exact if_pos z) (fun z => by rw [eR]; exact if_neg (not_not_intro z)) R' (vOK_law w4' hv1 (fun _ => hvn) hv) k' ?_)
          · rw [q2e, o7.2 22 (by omega), g3 22 (by omega) (by omega)]; exact f22
          · rw [q3e]; exact f7
          · rw [(o7.1 337 (by omega) (by omega)).1, v3, if_neg (by omega)]; exact r20
          · rw [(o7.1 337 (by omega) (by omega)).1]; exact e31
          · rw [o7.2 25 (by omega), gg, g2]
            by_cases a : tV t p1 ≤ 5
            · rw [if_pos (show 0 ≤ tV t p1 ∧ tV t p1 ≤ 5 from ⟨Nat.zero_le _, a⟩)]
              by_cases b : tV t (tE t p2) ≤ 12
              · rw [if_pos ⟨Nat.zero_le _, b⟩, if_pos ⟨a, fun _ => b⟩]
              · rw [if_neg (fun y => b y.2), if_neg (fun y => b (y.2 w12))]
            · rw [if_neg (show ¬ (0 ≤ tV t p1 ∧ tV t p1 ≤ 5) from fun y => a y.2), if_neg (show ¬ (tV t p1 ≤ 5 ∧ (w = 1 ∨ w = 2 → tV t (tE t p2) ≤ 12)) from fun y => a y.1)]
              split <;> rfl
          · have := tS_lt (t := t) (p := tE t p2) (by omega)
            rw [q1e]
            exact chk_fB (fb1.mono (by omega)) this
      rw [e1, e2']
      refine ⟨fun a => two (Or.inl a), fun a => ⟨fun b => ?_, fun b => two (Or.inr b)⟩⟩
      have w12 : ¬ (w = 1 ∨ w = 2) := by omega
      have mw0 : mw w = 0 := if_neg w12
      have eR := eL.trans (lnLaw_1 (q := q) (p1 := p1) (p := p2) mw0 rfl)
      have q1e : (tlLaw q w (tV t p1) (tS t p1) (tV t (tE t p2)) (tS t (tE t p2))).1 = chk q.1 (tV t p1) 0 5 (tS t p1) := by unfold tlLaw; rw [if_neg w12]
      have q2e : (tlLaw q w (tV t p1) (tS t p1) (tV t (tE t p2)) (tS t (tE t p2))).2.2.1 = (if q.2.2.1 < tV t p1 + 1 then tV t p1 + 1 else q.2.2.1) := by unfold tlLaw; rw [if_neg w12]
      have q3e : (tlLaw q w (tV t p1) (tS t p1) (tV t (tE t p2)) (tS t (tE t p2))).2.2.2 = q.2.2.2 := by unfold tlLaw; rw [if_neg w12]
      refine law_fin (n := tV t p1) (pl := tS t p1) (n1 := tV t (tE t p2)) (pl1 := tS t (tE t p2)) (pp := tE t p2) (kd := -1) R w4' hv1 o02 s2 T2 (by rw [q1e]; exact m2) k2 (by rw [q2e]; exact f22) (by rw [q3e]; exact f23) r20 (by rw [v2', if_pos rfl]) (by rw [if_neg w12]) ?_ (fun D' o R' k' => h1 _ _ D' o (fun z => by rw [eR]; exact if_pos z) (fun z => by rw [eR]; exact if_neg (not_not_intro z)) R' (vOK_law w4' hv1 (fun y => absurd y w12) hv) k' (by rw [q1e]; exact w6.mono (by omega)))
      rw [g2]
      by_cases a : tV t p1 ≤ 5
      · rw [if_pos ⟨Nat.zero_le _, a⟩, if_pos ⟨a, fun y => absurd y w12⟩]
      · rw [if_neg (fun y => a y.2), if_neg (fun y => a y.1)]
  have e14 : D5.1 325 14 = (2 : Int32) ↔ tK t p2 = 0 := by
    rw [k5.2.2.2.1]
    refine (nI_eq (b := 2) (by unfold srt; split <;> (try split) <;> (try split) <;> (try split) <;> omega) (by omega)).trans ?_
    unfold srt
    split
    · omega
    · split
      · omega
      · split
        · omega
        · split <;> omega
  rw [e14]
  refine ⟨fun z => ?_, fun z => ?_⟩
  · have ew : (0 : Int64) = wd0 t p2 := by unfold wd0; rw [if_neg z]
    rw [ew]
    exact law_tree (X := fun xs => xPf (d + 5) m_M_lawLine 95 [(0, .ref 325), (1, .long (wd0 t p2))] [.int xs] D5 (fun r D' => ∃ v, r = some (.int v) ∧ P v D')) (body _)
  · have ew : D5.2 325 16 = wd0 t p2 := by unfold wd0; rw [if_pos z]; exact k5.2.2.2.2.2 z
    rw [ew]
    exact law_tree (X := fun xs => xPf (d + 5) m_M_lawLine 95 [(0, .ref 325), (1, .long (wd0 t p2))] [.int xs] D5 (fun r D' => ∃ v, r = some (.int v) ∧ P v D')) (body _)
theorem c_M_plainOf {P : Int32 → xD → Prop} (h : P (oI (look (wIx t p) [(0, 0), (1, 1), (2, 2), (3, 3), (4, 4)])) D) : xCi (d + 1) m_M_plainOf [.long (wd0 t p)] D P := by
  refine xCi_of y_M_plainOf (Nat.le_of_ble_eq_true rfl) (s_M_plainOf_0 ?_)
  rw [cc_0, cc_1, cc_2, cc_3, cc_4, wIx_cmp (by omega), wIx_cmp (by omega), wIx_cmp (by omega), wIx_cmp (by omega), wIx_cmp (by omega)]
  refine ⟨fun a => ⟨fun b => ⟨fun c => ⟨fun e => ⟨fun f => ⟨_, rfl, ?_⟩, fun f => ⟨_, rfl, ?_⟩⟩, fun e => ⟨_, rfl, ?_⟩⟩, fun c => ⟨_, rfl, ?_⟩⟩, fun b => ⟨_, rfl, ?_⟩⟩, fun a => ⟨_, rfl, ?_⟩⟩
  · cases hw : wIx t p with
    | none => rw [hw] at h; exact h
    | some k =>
      rw [hw] at a b c e f h
      have ne : ∀ j, ¬ some k = some j → ¬ k = j := fun j y z => y (by rw [z])
      rw [look, if_neg (ne _ a), look, if_neg (ne _ b), look, if_neg (ne _ c), look, if_neg (ne _ e), look, if_neg (ne _ f)] at h
      exact h
  · rw [f] at h; exact h
  · rw [e] at h; exact h
  · rw [c] at h; exact h
  · rw [b] at h; exact h
  · rw [a] at h; exact h
end MTAB3
