/-! The reference reads a PERSON, a LAW. -/
theorem mtk_fr {D D' : xD} {lo hi f g : Nat} {t : Nat × (Nat → Nat)} {p : Nat} (h : mtk D t p) (o : mF lo hi f g D D') (r : 15 < f ∨ g ≤ 11) (e : D'.2 325 16 = D.2 325 16) : mtk D' t p :=
  ⟨h.1, by rw [o.2 13 (by omega)]; exact h.2.1, by rw [o.2 11 (by omega)]; exact h.2.2.1, by rw [o.2 14 (by omega)]; exact h.2.2.2.1, fun y => by rw [o.2 15 (by omega)]; exact h.2.2.2.2.1 y, fun y => by rw [e]; exact h.2.2.2.2.2 y⟩
theorem law_tree {t : Nat × (Nat → Nat)} {p : Nat} {X : Int32 → Prop} (h : X (oI (look (wIx t p) lawF))) :
    (¬ (lg_cmp (wd0 t p) (1836020596 : Int64)) = 0 → (¬ (lg_cmp (wd0 t p) (6383981 : Int64)) = 0 → (¬ (lg_cmp (wd0 t p) (1801807216 : Int64)) = 0 → (¬ (lg_cmp (wd0 t p) (474148660594 : Int64)) = 0 → X (-1 : Int32)) ∧ ((lg_cmp (wd0 t p) (474148660594 : Int64)) = 0 → X (3 : Int32))) ∧ ((lg_cmp (wd0 t p) (1801807216 : Int64)) = 0 → X (2 : Int32))) ∧ ((lg_cmp (wd0 t p) (6383981 : Int64)) = 0 → X (1 : Int32))) ∧ ((lg_cmp (wd0 t p) (1836020596 : Int64)) = 0 → X (0 : Int32)) := by
  rw [cc_17, cc_18, cc_19, cc_20, wIx_cmp (by omega), wIx_cmp (by omega), wIx_cmp (by omega), wIx_cmp (by omega)]
  have e0 : lawF = [(17, 0), (18, 1), (19, 2), (20, 3)] := rfl
  rw [e0] at h
  refine ⟨fun a => ⟨fun b => ⟨fun c => ⟨fun e => ?_, fun e => ?_⟩, fun c => ?_⟩, fun b => ?_⟩, fun a => ?_⟩
  · cases hw : wIx t p with
    | none => rw [hw] at h; exact h
    | some k =>
      rw [hw] at a b c e h
      have ne : ∀ j, ¬ some k = some j → ¬ k = j := fun j y z => y (by rw [z])
      rw [look, if_neg (ne _ a), look, if_neg (ne _ b), look, if_neg (ne _ c), look, if_neg (ne _ e)] at h
      exact h
  · rw [e] at h; exact h
  · rw [c] at h; exact h
  · rw [b] at h; exact h
  · rw [a] at h; exact h
section MTAB2
variable {d : Nat} {D D0 : xD} {t : Nat × (Nat → Nat)} {p p1 : Nat} {q : qS} {F : Option (Nat × Nat)}
/-- PERSON -/
theorem ml_person {P : Int32 → xD → Prop} (R : mrd D0 t 0 q) (hv : vOK 0 q) (W : mwl D0 D t (if tN q.2.1 5 < 6 then q.1 else nt q.1 3 (tS t p)) p1) (hL : lnS t 0 q p = lnRest t q p p1 5)
    (h0 : ∀ b D', mF 336 338 11 26 D0 D' → lnS t 0 q p = .inl b → D'.1 325 17 = nI b → P 0 D')
    (h1 : ∀ q' pp D', mF 336 338 11 26 D0 D' → (tK t pp ≠ 2 → lnS t 0 q p = .inl (tS t pp)) → (tK t pp = 2 → lnS t 0 q p = .inr (q', tE t pp)) → mrd D' t 0 q' → vOK 0 q' → mtk D' t pp → fB q'.1 (tS t pp) → P 1 D') : xCi (d + 5) m_M_personLine [.ref 325] D P := by
  have l11 : xl (325 + 11) = 121 := cl_13_20 xk_M
  have l12 : xl (325 + 12) = 4 := cl_13_21 xk_M
  have hl : lsN 5 = 4 := rfl
  have hm : msN 5 = 4 := by unfold msN; rw [if_neg (by omega)]; rfl
  have stop : ∀ k, k < 4 → (∀ i, i < k → tK t (nx t p1 i) = 1) → tK t (nx t p1 k) ≠ 1 → lnS t 0 q p = .inl (tS t (nx t p1 k)) := fun k hk a b => by
    have e : cN t (msN 5) p1 = k := by rw [hm]; exact cN_stop a b hk
    rw [hL, lnRest_s (by omega), e]
  obtain ⟨r1, r2, r3, r4, r5, r6, r7, r8⟩ := R
  have hc5 := r5.1 rfl
  refine xCi_of y_M_personLine (Nat.le_of_ble_eq_true rfl) (s_M_personLine_0 xk_M ?_)
  refine wl_take (k := 0) (lo := 1) (hi := 9) W (by omega) (by omega) (by omega) (fun c D' o f17 => z0 ⟨_, rfl, h0 _ D' (o.m (by omega) (by omega)) (stop 0 (by omega) (fun i hi => absurd hi (Nat.not_lt_zero _)) c) f17⟩) (fun c0 hv0 hS0 D1 W1 v1 g1 => z1 ?_)
  refine wl_take (k := 1) (lo := 1) (hi := 9) W1 (by omega) (by omega) (by omega) (fun c D' o f17 => z0 ⟨_, rfl, h0 _ D' (o.m (by omega) (by omega)) (stop 1 (by omega) (fun i hi => by rw [show i = 0 by omega]; exact c0) c) f17⟩) (fun c1 hv1 hS1 D2 W2 v2 g2 => z1 ?_)
  refine wl_take (k := 2) (lo := 0) (hi := 9) W2 (by omega) (by omega) (by omega) (fun c D' o f17 => z0 ⟨_, rfl, h0 _ D' (o.m (by omega) (by omega)) (stop 2 (by omega) (fun i hi => by rcases (show i = 0 ∨ i = 1 by omega) with rfl | rfl; exact c0; exact c1) c) f17⟩) (fun c2 hv2 hS2 D3 W3 v3 g3 => z1 ?_)
  refine wl_take (k := 3) (lo := 0) (hi := 20) W3 (by omega) (by omega) (by omega) (fun c D' o f17 => z0' ⟨_, rfl, h0 _ D' (o.m (by omega) (by omega)) (stop 3 (by omega) (fun i hi => by rcases (show i = 0 ∨ i = 1 ∨ i = 2 by omega) with rfl | rfl | rfl; exact c0; exact c1; exact c2) c) f17⟩) (fun c3 hv3 hS3 D4 W4 v4 g4 => z1' ?_)
  have call : ∀ i, i < 4 → tK t (nx t p1 i) = 1 := fun i hi => by rcases (show i = 0 ∨ i = 1 ∨ i = 2 ∨ i = 3 by omega) with rfl | rfl | rfl | rfl; exact c0; exact c1; exact c2; exact c3
  have e4 : cN t (msN 5) p1 = 4 := by rw [hm]; exact cN_full call
  have eR := hL.trans (lnRest_n (q := q) (p := p) (show ¬ cN t (msN 5) p1 < lsN 5 by omega) (by omega))
  rw [e4] at eR
  have et : tl q 5 (tS t p) (fun i => tV t (nx t p1 i)) (fun i => tS t (nx t p1 i)) 4 = tlPer q (tS t p) (fun i => tV t (nx t p1 i)) (fun i => tS t (nx t p1 i)) := by unfold tl; rw [if_neg (by omega), if_pos rfl]
  rw [et] at eR
  obtain ⟨w1, w2, w3, w4, w5, w6⟩ := W4
  have vq : vOK 0 (tlPer q (tS t p) (fun i => tV t (nx t p1 i)) (fun i => tS t (nx t p1 i))) := by
    have := vOK_tl (q := q) (s := 0) (f := 5) (first := tS t p) (c := 4) (V := fun i => tV t (nx t p1 i)) (P := fun i => tS t (nx t p1 i)) (Or.inl ⟨rfl, by omega⟩) (by omega) hv0 hv
    rw [et] at this; exact this
  have hV : ∀ i, i < 4 → D4.1 337 i = nI (tV t (nx t p1 i)) := fun i hi => by
    rcases (show i = 0 ∨ i = 1 ∨ i = 2 ∨ i = 3 by omega) with rfl | rfl | rfl | rfl
    · rw [v4, if_neg (by omega), v3, if_neg (by omega), v2, if_neg (by omega), v1, if_pos rfl]; rfl
    · rw [v4, if_neg (by omega), v3, if_neg (by omega), v2, if_pos rfl]; rfl
    · rw [v4, if_neg (by omega), v3, if_pos rfl]; rfl
    · rw [v4, if_pos rfl]; rfl
  have s4 : D4.1 336 = D0.1 336 := (w1.1 336 (by omega) (by omega)).1
  have t5 : D4.1 (325 + 11) 5 = nI (tN q.2.1 5) := by
    rw [show D4.1 (325 + 11) 5 = D4.1 336 5 from rfl, s4, r4.1 rfl]; exact hc5.1
  have k05 : ((5 : Int32) : Int32).toNatClampNeg = 5 := by decide
  rw [k05, t5]
  have fin : ∀ D', mF 336 337 0 0 D4 D' → D'.2 325 16 = D4.2 325 16 → D'.1 336 5 = (tlPer q (tS t p) (fun i => tV t (nx t p1 i)) (fun i => tS t (nx t p1 i))).2.1 5 → ((tlPer q (tS t p) (fun i => tV t (nx t p1 i)) (fun i => tS t (nx t p1 i))).1 = none → ∀ i, i < wS 0 → D'.1 336 i = (tlPer q (tS t p) (fun i => tV t (nx t p1 i)) (fun i => tS t (nx t p1 i))).2.1 i) → cOK 0 (tlPer q (tS t p) (fun i => tV t (nx t p1 i)) (fun i => tS t (nx t p1 i))).2.1 → P 1 D' := by
    intro D' o e16 a5 aT aC
    refine h1 (tlPer q (tS t p) (fun i => tV t (nx t p1 i)) (fun i => tS t (nx t p1 i))) (nx t p1 4) D' ((w1.m (by omega) (by omega)).trans (o.m (by omega) (by omega))) (fun z => by rw [eR, if_pos z]) (fun z => by rw [eR, if_neg (not_not_intro z)]) ⟨w3.fr o (by omega) (by omega), w4.fr o (by omega), aT, mCn_0 a5, aC, ?_, ?_, fun e => by omega⟩ vq (mtk_fr w5 o (by omega) e16) w6
    · rw [o.2 22 (by omega), w2 22 (by omega) (by omega)]; exact r6
    · rw [o.2 23 (by omega), w2 23 (by omega) (by omega)]; exact r7
  refine ⟨by rw [l11]; exact vp_in_nI (n := 5) (by omega) (by omega), fun c6 => ⟨_, rfl, ?_⟩, fun c6 => ?_⟩
  · have n6 : ¬ tN q.2.1 5 < 6 := by have := (nI_leI (a := 6) (by omega) (by omega)).mp c6; omega
    have eξ : (tlPer q (tS t p) (fun i => tV t (nx t p1 i)) (fun i => tS t (nx t p1 i))).2.1 = q.2.1 := by unfold tlPer; rw [if_neg n6, if_neg n6]
    refine fin D4 mF.rfl' rfl (by rw [eξ, s4]; exact r4.1 rfl) (fun hn => ?_) (by rw [eξ]; exact r5)
    exfalso
    have hn : chk (chk (chk (chk (if tN q.2.1 5 < 6 then q.1 else nt q.1 3 (tS t p)) _ 1 9 _) _ 1 9 _) _ 0 9 _) _ 0 20 _ = none := hn
    have := (chk_none (chk_none (chk_none (chk_none hn).1).1).1).1
    rw [if_neg n6] at this
    exact nt_some _ _ _ this
  · have n6 : tN q.2.1 5 < 6 := Nat.lt_of_not_le (fun y => c6 (nI_le (a := 6) y (by omega)))
    have eξ : (tlPer q (tS t p) (fun i => tV t (nx t p1 i)) (fun i => tS t (nx t p1 i))).2.1 = tSet (tSet (tSet (tSet (tSet q.2.1 (6 + 7 * tN q.2.1 5 + 0) (nI (tV t (nx t p1 0)))) (6 + 7 * tN q.2.1 5 + 1) (nI (tV t (nx t p1 1)))) (6 + 7 * tN q.2.1 5 + 2) (nI (tV t (nx t p1 2)))) (6 + 7 * tN q.2.1 5 + 3) (nI (tV t (nx t p1 3)))) 5 (nI (tN q.2.1 5 + 1)) := by unfold tlPer; rw [if_pos n6, if_pos n6]
    have e0 : D4.1 336 5 = nI (tN q.2.1 5) := t5
    generalize hN : tN q.2.1 5 = N at *
    have key : ∀ m i, i + m = 4 → ∀ D', mF 336 337 0 0 D4 D' → D'.2 325 16 = D4.2 325 16 → (∀ j, D'.1 336 j = if 6 + 7 * N ≤ j ∧ j < 6 + 7 * N + i then nI (tV t (nx t p1 (j - (6 + 7 * N)))) else D4.1 336 j) → xPf (d + 5) m_M_personLine 59 [(0, .ref 325), (1, .int (nI i))] [] D' (fun r D' => ∃ v, r = some (.int v) ∧ P v D') := by
      intro m
      induction m with
      | zero =>
        intro i hi D' o e16 a
        have a5 : D'.1 (325 + 11) 5 = nI N := by rw [show D'.1 (325 + 11) 5 = D'.1 336 5 from rfl, a, if_neg (by omega)]; exact e0
        refine s_M_personLine_59 xk_M ⟨fun _ => ?_, fun z => absurd (nI_le (a := 4) (by omega) (by omega)) z⟩
        rw [k05, a5, l11, nI_1]
        refine ⟨vp_in_nI (n := 5) (by omega) (by omega), vp_in_nI (n := 5) (by omega) (by omega), fun D5 e5 => ⟨_, rfl, ?_⟩⟩
        obtain ⟨o5, v5⟩ := ma (by omega) e5
        have v5' : ∀ j, D5.1 336 j = if j = 5 then nI (N + 1) else D'.1 336 j := v5
        refine fin D5 (o.trans (o5.m (by omega) (by omega))) (by rw [e5]; exact e16) (by rw [v5', if_pos rfl, eξ, tSet_at, if_pos rfl]) (fun hn j hj => ?_) ?_
        · have hq : q.1 = none := by
            have hn : chk (chk (chk (chk (if tN q.2.1 5 < 6 then q.1 else nt q.1 3 (tS t p)) _ 1 9 _) _ 1 9 _) _ 0 9 _) _ 0 20 _ = none := hn
            have := (chk_none (chk_none (chk_none (chk_none hn).1).1).1).1
            rw [hN, if_pos n6] at this
            exact this
          rw [v5', eξ, a, s4, r3 hq j hj, tSet_at, tSet_at, tSet_at, tSet_at, tSet_at, show i = 4 by omega]
          by_cases z5 : j = 5
          · rw [if_pos z5, if_pos z5]
          · rw [if_neg z5, if_neg z5]
            by_cases y3 : j = 6 + 7 * N + 3
            · rw [if_pos (by omega), if_pos y3, show j - (6 + 7 * N) = 3 by omega]
            · rw [if_neg y3]
              by_cases y2 : j = 6 + 7 * N + 2
              · rw [if_pos (by omega), if_pos y2, show j - (6 + 7 * N) = 2 by omega]
              · rw [if_neg y2]
                by_cases y1 : j = 6 + 7 * N + 1
                · rw [if_pos (by omega), if_pos y1, show j - (6 + 7 * N) = 1 by omega]
                · rw [if_neg y1]
                  by_cases y0 : j = 6 + 7 * N + 0
                  · rw [if_pos (by omega), if_pos y0, show j - (6 + 7 * N) = 0 by omega]
                  · rw [if_neg y0, if_neg (by omega)]
        · rw [eξ]
          have nn : tN (tSet (tSet (tSet (tSet (tSet q.2.1 (6 + 7 * N + 0) (nI (tV t (nx t p1 0)))) (6 + 7 * N + 1) (nI (tV t (nx t p1 1)))) (6 + 7 * N + 2) (nI (tV t (nx t p1 2)))) (6 + 7 * N + 3) (nI (tV t (nx t p1 3)))) 5 (nI (N + 1))) 5 = N + 1 := by rw [tSet_N, if_pos rfl, nI_clamp (by omega)]
          exact cOK_0 (by rw [nn, tSet_at, if_pos rfl]) (by rw [nn]; omega)
      | succ m ih =>
        intro i hi D' o e16 a
        have a5 : D'.1 (325 + 11) 5 = nI N := by rw [show D'.1 (325 + 11) 5 = D'.1 336 5 from rfl, a, if_neg (by omega)]; exact e0
        have ar : D'.1 (325 + 12) i = nI (tV t (nx t p1 i)) := by rw [(o.1 (325 + 12) (by omega) (by omega)).1]; exact hV i (by omega)
        refine s_M_personLine_59 xk_M ⟨fun z => absurd z (nI_ge (a := i) (b := 4) (by omega) (by omega)), fun _ => ?_⟩
        rw [k05, a5, show (7 : Int32) * nI N = nI (7 * N) from pk_mul 7 _, show (6 : Int32) + nI (7 * N) = nI (6 + 7 * N) from nI_add 6 _, nI_add, l11, l12, nI_clamp (by omega), nI_clamp (by omega), ar, nI_1 i]
        refine ⟨vp_in_nI (n := 5) (by omega) (by omega), vp_in_nI (by omega) (by omega), vp_in_nI (by omega) (by omega), fun D5 e5 => ?_⟩
        obtain ⟨o5, v5⟩ := ma (by omega) e5
        have v5' : ∀ j, D5.1 336 j = if j = 6 + 7 * N + i then nI (tV t (nx t p1 i)) else D'.1 336 j := v5
        refine ih (i + 1) (by omega) D5 (o.trans (o5.m (by omega) (by omega))) (by rw [e5]; exact e16) (fun j => ?_)
        rw [v5']
        by_cases z : j = 6 + 7 * N + i
        · rw [if_pos z, if_pos (by omega), show j - (6 + 7 * N) = i by omega]
        · rw [if_neg z, a]
          by_cases y : 6 + 7 * N ≤ j ∧ j < 6 + 7 * N + i
          · rw [if_pos y, if_pos (by omega)]
          · rw [if_neg y, if_neg (by omega)]
    exact key 4 0 (by omega) D4 mF.rfl' rfl (fun j => by rw [if_neg (by omega)])
/-- a LAW is told -/
theorem law_fin {P : Int32 → xD → Prop} {D7 : xD} {w n pl n1 pl1 pp : Nat} {kd : Int32} (R : mrd D0 t 0 q) (hw : w < 4) (hn : n < 100) (ho : mF 336 338 11 26 D0 D7) (s7 : D7.1 336 = D0.1 336) (T : mtp D7 t) (m : mFlt D7 (tlLaw q w n pl n1 pl1).1) (k : mtk D7 t pp) (g22 : D7.1 325 22 = nI (tlLaw q w n pl n1 pl1).2.2.1 - 1) (g23 : D7.1 325 23 = nI (tlLaw q w n pl n1 pl1).2.2.2 - 1)
    (hr0 : D7.1 337 0 = nI n) (hr1 : D7.1 337 1 = kd) (hkd : kd = if w = 1 ∨ w = 2 then nI n1 else -1) (hgd : D7.1 325 25 = if n ≤ 5 ∧ (w = 1 ∨ w = 2 → n1 ≤ 12) then 1 else 0)
    (h1 : ∀ D', mF 336 338 11 26 D0 D' → mrd D' t 0 (tlLaw q w n pl n1 pl1) → mtk D' t pp → P 1 D') :
    ((D7.1 325 25) = 0 → ∃ v, some (Value.int (1 : Int32)) = some (.int v) ∧ P v D7) ∧ (¬ (D7.1 325 25) = 0 → vp_in (0 : Int32) (xl (325 + 12)) ∧ vp_in (((6 : Int32) + ((7 : Int32) * (D7.1 (325 + 12) ((0 : Int32) : Int32).toNatClampNeg))) + (4 : Int32)) (xl (325 + 11)) ∧ ∀ D8 : xD, D8 = (xu D7.1 (325 + 11) (((6 : Int32) + ((7 : Int32) * (D7.1 (325 + 12) ((0 : Int32) : Int32).toNatClampNeg))) + (4 : Int32) : Int32).toNatClampNeg (nI w), D7.2) → vp_in (0 : Int32) (xl (325 + 12)) ∧ vp_in (1 : Int32) (xl (325 + 12)) ∧ vp_in (((6 : Int32) + ((7 : Int32) * (D8.1 (325 + 12) ((0 : Int32) : Int32).toNatClampNeg))) + (5 : Int32)) (xl (325 + 11)) ∧ ∀ D9 : xD, D9 = (xu D8.1 (325 + 11) (((6 : Int32) + ((7 : Int32) * (D8.1 (325 + 12) ((0 : Int32) : Int32).toNatClampNeg))) + (5 : Int32) : Int32).toNatClampNeg (D8.1 (325 + 12) ((1 : Int32) : Int32).toNatClampNeg), D8.2) → ∃ v, some (Value.int (1 : Int32)) = some (.int v) ∧ P v D9) := by
  have l11 : xl (325 + 11) = 121 := cl_13_20 xk_M
  have l12 : xl (325 + 12) = 4 := cl_13_21 xk_M
  have k01 : ((1 : Int32) : Int32).toNatClampNeg = 1 := by decide
  obtain ⟨r1, r2, r3, r4, r5, r6, r7, r8⟩ := R
  have hc5 := r5.1 rfl
  have x5 : (tlLaw q w n pl n1 pl1).2.1 5 = q.2.1 5 := by
    unfold tlLaw
    split
    · show tSetP (tSetP (tSetP q.2.1 n 4 (nI w)) n 5 (-1)) n 5 (nI n1) 5 = _
      rw [tSetP_5, tSetP_5, tSetP_5]
    · show tSetP (tSetP q.2.1 n 4 (nI w)) n 5 (-1) 5 = _
      rw [tSetP_5, tSetP_5]
  have N5 : tN (tlLaw q w n pl n1 pl1).2.1 5 = tN q.2.1 5 := by unfold tN; rw [x5]
  have cok : cOK 0 (tlLaw q w n pl n1 pl1).2.1 := cOK_0 (by rw [N5, x5]; exact hc5.1) (by rw [N5]; exact hc5.2)
  have nn : (tlLaw q w n pl n1 pl1).1 = none → q.1 = none ∧ n ≤ 5 ∧ (w = 1 ∨ w = 2 → n1 ≤ 12) := by
    intro e
    unfold tlLaw at e
    by_cases c : w = 1 ∨ w = 2
    · rw [if_pos c] at e
      obtain ⟨a, -, b⟩ := chk_none e
      obtain ⟨a, -, b'⟩ := chk_none a
      exact ⟨a, b', fun _ => b⟩
    · rw [if_neg c] at e
      obtain ⟨a, -, b⟩ := chk_none e
      exact ⟨a, b, fun y => absurd y c⟩
  have told : n < 6 → ∀ j, (tlLaw q w n pl n1 pl1).2.1 j = if j = 6 + 7 * n + 5 then kd else if j = 6 + 7 * n + 4 then nI w else q.2.1 j := by
    intro h6 j
    unfold tlLaw
    by_cases c : w = 1 ∨ w = 2
    · rw [if_pos c]
      rw [if_pos c] at hkd
      show tSetP (tSetP (tSetP q.2.1 n 4 (nI w)) n 5 (-1)) n 5 (nI n1) j = _
      unfold tSetP
      rw [if_pos h6, if_pos h6, if_pos h6, tSet_at, tSet_at, tSet_at, hkd]
      by_cases z : j = 6 + 7 * n + 5
      · rw [if_pos z, if_pos z]
      · rw [if_neg z, if_neg z, if_neg z]
    · rw [if_neg c]
      rw [if_neg c] at hkd
      show tSetP (tSetP q.2.1 n 4 (nI w)) n 5 (-1) j = _
      unfold tSetP
      rw [if_pos h6, if_pos h6, tSet_at, tSet_at, hkd]
  rw [hgd]
  by_cases g : n ≤ 5 ∧ (w = 1 ∨ w = 2 → n1 ≤ 12)
  · rw [if_pos g]
    refine z1 ?_
    have e0 : D7.1 (325 + 12) 0 = nI n := hr0
    rw [k00, k01, e0, show (7 : Int32) * nI n = nI (7 * n) from pk_mul 7 _, show (6 : Int32) + nI (7 * n) = nI (6 + 7 * n) from nI_add 6 _, show nI (6 + 7 * n) + (4 : Int32) = nI (6 + 7 * n + 4) from nI_add _ 4, l11, l12, nI_clamp (by omega)]
    refine ⟨vp_in_nI (n := 0) (by omega) (by omega), vp_in_nI (by omega) (by omega), fun D8 e8 => ?_⟩
    obtain ⟨o8, v8⟩ := ma (by omega) e8
    have v8' : ∀ j, D8.1 336 j = if j = 6 + 7 * n + 4 then nI w else D7.1 336 j := v8
    have e80 : D8.1 (325 + 12) 0 = nI n := by rw [(o8.1 (325 + 12) (by omega) (by omega)).1]; exact hr0
    have e81 : D8.1 (325 + 12) 1 = kd := by rw [(o8.1 (325 + 12) (by omega) (by omega)).1]; exact hr1
    rw [e80, e81, show (7 : Int32) * nI n = nI (7 * n) from pk_mul 7 _, show (6 : Int32) + nI (7 * n) = nI (6 + 7 * n) from nI_add 6 _, show nI (6 + 7 * n) + (5 : Int32) = nI (6 + 7 * n + 5) from nI_add _ 5, nI_clamp (by omega)]
    refine ⟨vp_in_nI (n := 0) (by omega) (by omega), vp_in_nI (n := 1) (by omega) (by omega), vp_in_nI (by omega) (by omega), fun D9 e9 => ⟨_, rfl, ?_⟩⟩
    obtain ⟨o9, v9⟩ := ma (by omega) e9
    have v9' : ∀ j, D9.1 336 j = if j = 6 + 7 * n + 5 then kd else D8.1 336 j := v9
    have o89 : mF 336 337 0 0 D7 D9 := (o8.m (by omega) (by omega)).trans (o9.m (by omega) (by omega))
    have e16 : D9.2 325 16 = D7.2 325 16 := by rw [e9, e8]
    refine h1 D9 (ho.trans (o89.m (by omega) (by omega))) ⟨T.fr o89 (by omega) (by omega), m.fr o89 (by omega), fun e i hi => ?_, mCn_0 ?_, cok, by rw [o89.2 22 (by omega)]; exact g22, by rw [o89.2 23 (by omega)]; exact g23, fun e => by omega⟩ (mtk_fr k o89 (by omega) e16)
    · obtain ⟨a, b, -⟩ := nn e
      rw [v9', v8', s7, r3 a i hi, told (by omega)]
    · rw [v9', if_neg (by omega), v8', if_neg (by omega), s7, r4.1 rfl, x5]
  · rw [if_neg g]
    refine z0 ⟨_, rfl, h1 D7 ho ⟨T, m, fun e => ?_, mCn_0 ?_, cok, g22, g23, fun e => by omega⟩ k⟩
    · obtain ⟨a, b, c⟩ := nn e
      exact absurd ⟨b, c⟩ g
    · rw [s7, r4.1 rfl, x5]
end MTAB2
