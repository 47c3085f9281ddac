/-! The reference reads a deed. -/
theorem lkD : ∀ k, k < 5 → look (some (9 + k)) [(9, 0), (10, 1), (11, 2), (12, 3), (13, 4)] = some k := by decide
theorem lkD2 : ∀ k, k < 5 → look (some (9 + k)) (lnF 2) = some (20 + k) := by decide
theorem lkD' : ∀ k, k < 21 → (k < 9 ∨ 14 ≤ k) → look (some k) [(9, 0), (10, 1), (11, 2), (12, 3), (13, 4)] = none := by decide
theorem lkD2' : ∀ k, k < 21 → (k < 9 ∨ 14 ≤ k) → look (some k) (lnF 2) = none := by decide
section MBOOK
variable {d : Nat} {D D0 : xD} {t : Nat × (Nat → Nat)} {p p1 : Nat} {q : qS}
theorem c_M_deedBy {P : Int32 → xD → Prop} (h : P (oI (look (wIx t p) [(9, 0), (10, 1), (11, 2), (12, 3), (13, 4)])) D) : xCi (d + 1) m_M_deedBy [.long (wd0 t p)] D P := by
  refine xCi_of y_M_deedBy (Nat.le_of_ble_eq_true rfl) (s_M_deedBy_0 ?_)
  rw [cc_9, cc_10, cc_11, cc_12, cc_13, wIx_cmp (by omega), wIx_cmp (by omega), wIx_cmp (by omega), wIx_cmp (by omega), wIx_cmp (by omega)]
  refine ⟨fun a => ⟨fun b => ⟨fun c => ⟨fun e => ⟨fun f => ⟨_, rfl, ?_⟩, fun f => ⟨_, rfl, ?_⟩⟩, fun e => ⟨_, rfl, ?_⟩⟩, fun c => ⟨_, rfl, ?_⟩⟩, fun b => ⟨_, rfl, ?_⟩⟩, fun a => ⟨_, rfl, ?_⟩⟩
  · cases hw : wIx t p with
    | none => rw [hw] at h; exact h
    | some k =>
      rw [hw] at a b c e f h
      have ne : ∀ j, ¬ some k = some j → ¬ k = j := fun j y z => y (by rw [z])
      rw [look, if_neg (ne _ a), look, if_neg (ne _ b), look, if_neg (ne _ c), look, if_neg (ne _ e), look, if_neg (ne _ f)] at h
      exact h
  · rw [f] at h; exact h
  · rw [e] at h; exact h
  · rw [c] at h; exact h
  · rw [b] at h; exact h
  · rw [a] at h; exact h
/-- the deed is told -/
theorem bk_fin {P : Int32 → xD → Prop} {x1 : Int64} {x3 kd : Int32} {deed c pp : Nat} {V Q : Nat → Nat} (hd : deed < 5) (hV0 : V 0 < 100) (R : mrd D0 t 2 q) (hv : vOK 2 q) (o : mF 337 338 11 26 D0 D) (k20 : ∀ j, 20 ≤ j → j < 25 → D.1 325 j = D0.1 325 j) (T : mtp D t) (m : mFlt D (tlDeed q deed (tS t p) V Q).1) (k : mtk D t pp) (fb : fB (tlDeed q deed (tS t p) V Q).1 (tS t pp))
    (hr0 : D.1 337 0 = nI (V 0)) (hr1 : D.1 337 1 = kd) (hkd : kd = if deed = 1 then nI (V 1) else -1) (et : tl q (20 + deed) (tS t p) V Q c = tlDeed q deed (tS t p) V Q)
    (h1 : ∀ D', mF 336 338 11 26 D0 D' → mrd D' t 2 (tlDeed q deed (tS t p) V Q) → vOK 2 (tlDeed q deed (tS t p) V Q) → mtk D' t pp → fB (tlDeed q deed (tS t p) V Q).1 (tS t pp) → P 1 D') :
    xPf (d + 6) m_M_bookLine 86 [(0, .ref 325), (1, .long x1), (3, .int x3), (4, .int (nI deed))] [] D (fun r D' => ∃ v, r = some (.int v) ∧ P v D') := by
  have l11 : xl (325 + 11) = 121 := cl_13_20 xk_M
  have l12 : xl (325 + 12) = 4 := cl_13_21 xk_M
  have i11 : vp_in (0 : Int32) (xl (325 + 11)) := by rw [l11]; exact vp_in_nI (n := 0) (by omega) (by omega)
  have i12 : vp_in (0 : Int32) (xl (325 + 12)) := by rw [l12]; exact vp_in_nI (n := 0) (by omega) (by omega)
  have k01 : ((1 : Int32) : Int32).toNatClampNeg = 1 := by decide
  obtain ⟨r1, r2, r3, r4, r5, r6, r7, r8⟩ := R
  have hc := r5.2.2.1 rfl
  have s1 : D.1 336 = D0.1 336 := (o.1 336 (by omega) (by omega)).1
  have cn : D.1 (325 + 11) 0 = nI (tN q.2.1 0) := by rw [show D.1 (325 + 11) 0 = D.1 336 0 from rfl, s1, r4.2.1 (by omega)]; exact hc.1
  have vq : vOK 2 (tlDeed q deed (tS t p) V Q) := by
    have := vOK_tl (q := q) (s := 2) (f := 20 + deed) (first := tS t p) (c := c) (V := V) (P := Q) (Or.inr (Or.inr (Or.inl ⟨rfl, by omega, by omega⟩))) (by omega) hV0 hv
    rw [et] at this; exact this
  have nn : (tlDeed q deed (tS t p) V Q).1 = none → q.1 = none ∧ tN q.2.1 0 < 40 := by
    intro e
    have e : (if deed = 1 then chk (chk (if tN q.2.1 0 < 40 then q.1 else nt q.1 3 (tS t p)) (V 0) 0 5 (Q 0)) (V 1) 0 12 (Q 1) else if deed = 4 then chk (if tN q.2.1 0 < 40 then q.1 else nt q.1 3 (tS t p)) (V 0) 1 9 (Q 0) else chk (if tN q.2.1 0 < 40 then q.1 else nt q.1 3 (tS t p)) (V 0) 0 5 (Q 0)) = none := e
    have b : (if tN q.2.1 0 < 40 then q.1 else nt q.1 3 (tS t p)) = none := by
      split at e
      · exact (chk_none (chk_none e).1).1
      · split at e
        · exact (chk_none e).1
        · exact (chk_none e).1
    by_cases z : tN q.2.1 0 < 40
    · rw [if_pos z] at b; exact ⟨b, z⟩
    · rw [if_neg z] at b; exact absurd b (nt_some _ _ _)
  refine s_M_bookLine_86 xk_M ?_
  rw [k00, k01, cn]
  refine ⟨i11, fun z => ⟨_, rfl, ?_⟩, fun z => ?_⟩
  · have n40 : ¬ tN q.2.1 0 < 40 := by have := (nI_leI (a := 40) (by omega) (by omega)).mp z; omega
    have ex : (tlDeed q deed (tS t p) V Q).2 = q.2 := Prod.ext (if_neg n40) rfl
    refine h1 D (o.m (by omega) (by omega)) ⟨T, m, fun e => absurd (nn e).2 n40, ⟨fun e => by omega, fun e => by rw [s1, ex]; exact r4.2.1 e, fun e => by omega⟩, by rw [ex]; exact r5, by rw [k20 22 (by omega) (by omega), ex]; exact r6, by rw [k20 23 (by omega) (by omega), ex]; exact r7, fun e => by omega⟩ vq k fb
  · have n40 : tN q.2.1 0 < 40 := Nat.lt_of_not_le (fun y => z (nI_le (a := 40) y (by omega)))
    generalize hN : tN q.2.1 0 = N at *
    have ex : (tlDeed q deed (tS t p) V Q).2.1 = tSet (tSet (tSet (tSet q.2.1 (1 + 3 * N) (nI deed)) (1 + 3 * N + 1) (nI (V 0))) (1 + 3 * N + 2) (if deed = 1 then nI (V 1) else -1)) 0 (nI (N + 1)) := by unfold tlDeed; rw [hN]; exact if_pos n40
    have eg : (tlDeed q deed (tS t p) V Q).2.2 = q.2.2 := rfl
    have ix1 : ∀ a : Nat, Int32.ofNat a + (3 : Int32) * nI N = nI (a + 3 * N) := fun a => by rw [show (3 : Int32) * nI N = nI (3 * N) from pk_mul 3 _]; exact nI_add a _
    rw [show (1 : Int32) + (3 : Int32) * nI N = nI (1 + 3 * N) from ix1 1, l11, nI_clamp (by omega)]
    refine ⟨by rw [← l11]; exact i11, vp_in_nI (by omega) (by omega), fun D1 e1 => ?_⟩
    obtain ⟨o1, v1⟩ := ma (by omega) e1
    have v1' : ∀ j, D1.1 336 j = if j = 1 + 3 * N then nI deed else D.1 336 j := v1
    have c1 : D1.1 (325 + 11) 0 = nI N := by rw [show D1.1 (325 + 11) 0 = D1.1 336 0 from rfl, v1', if_neg (by omega)]; exact cn
    have a10 : D1.1 (325 + 12) 0 = nI (V 0) := by rw [(o1.1 (325 + 12) (by omega) (by omega)).1]; exact hr0
    rw [c1, a10, show (2 : Int32) + (3 : Int32) * nI N = nI (2 + 3 * N) from ix1 2, nI_clamp (by omega)]
    refine ⟨by rw [← l11]; exact i11, i12, vp_in_nI (by omega) (by omega), fun D2 e2 => ?_⟩
    obtain ⟨o2, v2⟩ := ma (by omega) e2
    have v2' : ∀ j, D2.1 336 j = if j = 2 + 3 * N then nI (V 0) else D1.1 336 j := v2
    have c2 : D2.1 (325 + 11) 0 = nI N := by rw [show D2.1 (325 + 11) 0 = D2.1 336 0 from rfl, v2', if_neg (by omega)]; exact c1
    have a21 : D2.1 (325 + 12) 1 = kd := by rw [(o2.1 (325 + 12) (by omega) (by omega)).1, (o1.1 (325 + 12) (by omega) (by omega)).1]; exact hr1
    rw [c2, a21, show (3 : Int32) + (3 : Int32) * nI N = nI (3 + 3 * N) from ix1 3, nI_clamp (by omega)]
    refine ⟨by rw [← l11]; exact i11, by rw [l12]; exact vp_in_nI (n := 1) (by omega) (by omega), vp_in_nI (by omega) (by omega), fun D3 e3 => ?_⟩
    obtain ⟨o3, v3⟩ := ma (by omega) e3
    have v3' : ∀ j, D3.1 336 j = if j = 3 + 3 * N then kd else D2.1 336 j := v3
    have c3 : D3.1 (325 + 11) 0 = nI N := by rw [show D3.1 (325 + 11) 0 = D3.1 336 0 from rfl, v3', if_neg (by omega)]; exact c2
    rw [c3, nI_1]
    refine ⟨by rw [← l11]; exact i11, by rw [← l11]; exact i11, fun D4 e4 => ⟨_, rfl, ?_⟩⟩
    obtain ⟨o4, v4⟩ := ma (by omega) e4
    have v4' : ∀ j, D4.1 336 j = if j = 0 then nI (N + 1) else D3.1 336 j := v4
    have o14 : mF 336 337 0 0 D D4 := (o1.m (by omega) (by omega)).trans ((o2.m (by omega) (by omega)).trans ((o3.m (by omega) (by omega)).trans (o4.m (by omega) (by omega))))
    have n0 : tN (tlDeed q deed (tS t p) V Q).2.1 0 = N + 1 := by rw [ex, tSet_N, if_pos rfl, nI_clamp (by omega)]
    have x0 : (tlDeed q deed (tS t p) V Q).2.1 0 = nI (N + 1) := by rw [ex, tSet_at, if_pos rfl]
    refine h1 D4 ((o.m (by omega) (by omega)).trans (o14.m (by omega) (by omega))) ⟨T.fr o14 (by omega) (by omega), m.fr o14 (by omega), fun e j hj => ?_, ⟨fun e => by omega, fun _ => by rw [v4', if_pos rfl, x0], fun e => by omega⟩, ⟨fun e => by omega, fun e => by omega, fun _ => ⟨by rw [n0, x0], by rw [n0]; omega⟩, fun e => by omega, fun e => by omega⟩, by rw [o14.2 22 (by omega), k20 22 (by omega) (by omega), eg]; exact r6, by rw [o14.2 23 (by omega), k20 23 (by omega) (by omega), eg]; exact r7, fun e => by omega⟩ vq (mtk_fr k o14 (by omega) (by rw [e4, e3, e2, e1])) fb
    rw [v4', v3', v2', v1', s1, r3 (nn e).1 j hj, ex, tSet_at, tSet_at, tSet_at, tSet_at, ← hkd]
    by_cases z0' : j = 0
    · rw [if_pos z0', if_pos z0']
    · rw [if_neg z0', if_neg z0']
      by_cases z3 : j = 3 + 3 * N
      · rw [if_pos z3, if_pos (by omega)]
      · rw [if_neg z3, if_neg (show ¬ j = 1 + 3 * N + 2 by omega)]
        by_cases z2 : j = 2 + 3 * N
        · rw [if_pos z2, if_pos (by omega)]
        · rw [if_neg z2, if_neg (show ¬ j = 1 + 3 * N + 1 by omega)]
theorem c_M_bookLine {P : Int32 → xD → Prop} (R : mrd D t 2 q) (hv : vOK 2 q) (hk : mtk D t p) (hB : fB q.1 (tS t p))
    (h0 : ∀ b D', mF 336 338 11 26 D D' → lnS t 2 q p = .inl b → D'.1 325 17 = nI b → P 0 D')
    (h1 : ∀ q' pp D', mF 336 338 11 26 D D' → (tK t pp ≠ 2 → lnS t 2 q p = .inl (tS t pp)) → (tK t pp = 2 → lnS t 2 q p = .inr (q', tE t pp)) → mrd D' t 2 q' → vOK 2 q' → mtk D' t pp → fB q'.1 (tS t pp) → P 1 D') : xCi (d + 6) m_M_bookLine [.ref 325, .long (wd0 t p), .int (nI (tS t p))] D P := by
  have l12 : xl (325 + 12) = 4 := cl_13_21 xk_M
  have k01 : ((1 : Int32) : Int32).toNatClampNeg = 1 := by decide
  have W := mwl_0 R hk hB
  refine xCi_of y_M_bookLine (Nat.le_of_ble_eq_true rfl) (s_M_bookLine_0 xk_M (c_M_deedBy ?_))
  have fail : look (wIx t p) [(9, 0), (10, 1), (11, 2), (12, 3), (13, 4)] = none → look (wIx t p) (lnF 2) = none → oI (look (wIx t p) [(9, 0), (10, 1), (11, 2), (12, 3), (13, 4)]) = (-1 : Int32) ∧ xCi (d + 5) m_M_fails [.ref 325] D (fun r8 D7 => (r8 = 0 ∨ r8 = 1) ∧ ∃ v, some (Value.int r8) = some (.int v) ∧ P v D7) :=
    fun e1 e2 => ⟨by rw [e1]; rfl, wl_fails W (fun D' o f => ⟨Or.inl rfl, _, rfl, h0 _ D' (o.m (by omega) (by omega)) (lnS_none (by omega) e2) f⟩)⟩
  by_cases hw : ∃ deed, deed < 5 ∧ wIx t p = some (9 + deed)
  · obtain ⟨deed, hd, hW⟩ := hw
    have hL : lnS t 2 q p = lnRest t q p (tE t p) (20 + deed) := lnS_look (by omega) (by rw [hW]; exact lkD2 deed hd)
    rw [hW, lkD deed hd]
    have ok : oI (some deed) = nI deed := rfl
    rw [ok]
    refine ⟨fun _ => ?_, fun z => absurd ((oI_iff (r := some deed) (fun p' e => by cases e; omega)).mp z) (fun y => by cases y)⟩
    have hc := R.2.2.2.2.1.2.2.1 rfl
    have t0 : D.1 336 0 = nI (tN q.2.1 0) := by rw [R.2.2.2.1.2.1 (by omega)]; exact hc.1
    have hlt : tS t p < tS t (tE t p) := tS_lt (by have := (wIx_some.mp hW).2.1; omega)
    refine wl_full (c := 0) (most := 40) W (by omega) t0 hc.2 (by omega) (fun D2 o2 m2 _ => ?_)
    rw [lt'_nt hB] at m2
    refine c_M_token (R.1.fr o2 (by omega) (by omega)) (p := tE t p) (by rw [o2.2 11 (by omega)]; exact hk.2.2.1) (tE_le hk.1) (fun D3 o3 T3 k3 => ⟨by rw [l12]; exact vp_in_nI (n := 1) (by omega) (by omega), fun D5 e5 => ?_⟩)
    obtain ⟨o5, v5⟩ := ma (by omega) e5
    generalize hF1 : (if tN q.2.1 0 < 40 then q.1 else nt q.1 3 (tS t p)) = F1 at m2
    have fb1 : fB F1 (tS t (tE t p)) := by
      rw [← hF1]
      split
      · exact hB.mono (by omega)
      · exact nt_fB (hB.mono (by omega)) hlt
    have W5 : mwl D D5 t F1 (tE t p) := ⟨(o2.m (by omega) (by omega)).trans ((o3.m (by omega) (by omega)).trans (o5.m (by omega) (by omega))), fun j a b => by rw [o5.2 j (by omega), o3.2 j (by omega), o2.2 j (by omega)], T3.fr o5 (by omega) (by omega), (m2.fr o3 (by omega)).fr o5 (by omega), mtk_fr k3 o5 (by omega) (by rw [e5]), fb1⟩
    have r51 : D5.1 337 1 = -1 := by have := v5 1; rw [k01, if_pos rfl] at this; exact this
    have nI4 : nI deed = (4 : Int32) ↔ deed = 4 := nI_eq (b := 4) (by omega) (by omega)
    have nI1 : nI deed = (1 : Int32) ↔ deed = 1 := nI_eq (b := 1) (by omega) (by omega)
    have l20 : lsN (20 + deed) = if deed = 1 then 2 else 1 := by
      unfold lsN
      rw [if_neg (by omega)]
      by_cases z : deed = 1
      · rw [if_pos (by omega), if_pos z]
      · rw [if_neg (by omega), if_neg z]
    have m20 : msN (20 + deed) = if deed = 1 then 2 else 1 := by unfold msN; rw [if_neg (by omega)]; exact l20
    have et : ∀ V Q c, tl q (20 + deed) (tS t p) V Q c = tlDeed q deed (tS t p) V Q := fun V Q c => by unfold tl; rw [if_neg (by omega), if_neg (by omega), if_neg (by omega), if_neg (by omega), if_neg (by omega), if_neg (by omega), if_neg (by omega), Nat.add_sub_cancel_left]
    have leaf : ∀ lo hi, lo = (if deed = 4 then 1 else 0) → hi = (if deed = 4 then 9 else 5) → xCi (d + 5) m_M_take [.ref 325, .int (nI 0), .int (nI lo), .int (nI hi)] D5 (fun r7 D6 => (r7 = 0 → ∃ v, some (Value.int (0 : Int32)) = some (.int v) ∧ P v D6) ∧ (¬ r7 = 0 → (¬ nI deed = (1 : Int32) → xPf (d + 6) m_M_bookLine 86 [(0, .ref 325), (1, .long (wd0 t p)), (3, .int (nI (tS t p))), (4, .int (nI deed))] [] D6 (fun r D' => ∃ v, r = some (.int v) ∧ P v D')) ∧ (nI deed = (1 : Int32) → xCi (d + 5) m_M_take [.ref 325, .int (1 : Int32), .int (0 : Int32), .int (12 : Int32)] D6 (fun r9 D8 => (¬ r9 = 0 → xPf (d + 6) m_M_bookLine 86 [(0, .ref 325), (1, .long (wd0 t p)), (3, .int (nI (tS t p))), (4, .int (nI deed))] [] D8 (fun r D' => ∃ v, r = some (.int v) ∧ P v D')) ∧ (r9 = 0 → ∃ v, some (Value.int (0 : Int32)) = some (.int v) ∧ P v D8))))) := by
      intro lo hi hlo hhi
      have b1 : lo ≤ 1 ∧ hi ≤ 9 := by rw [hlo, hhi]; split <;> omega
      refine wl_take (k := 0) W5 (by omega) (by omega) (by omega) (fun c D' o f17 => z0 ⟨_, rfl, h0 _ D' (o.m (by omega) (by omega)) (hL.trans (lnRest_0 (by rw [l20]; split <;> omega) c)) f17⟩) (fun c0 hv0 hS0 D6 W6 v6 g6 => z1 ?_)
      rw [nI1]
      refine ⟨fun z => ?_, fun z => ?_⟩
      · rw [if_neg z] at l20 m20
        have eR := hL.trans (lnRest_1 (q := q) (p := p) m20 l20 (by omega) c0)
        rw [et] at eR
        obtain ⟨w1, w2, w3, w4, w5, w6⟩ := W6
        have eF : (tlDeed q deed (tS t p) (fun i => tV t (nx t (tE t p) i)) (fun i => tS t (nx t (tE t p) i))).1 = chk F1 (tV t (tE t p)) lo hi (tS t (tE t p)) := by
          show (if deed = 1 then _ else if deed = 4 then chk (if tN q.2.1 0 < 40 then q.1 else nt q.1 3 (tS t p)) (tV t (tE t p)) 1 9 (tS t (tE t p)) else chk (if tN q.2.1 0 < 40 then q.1 else nt q.1 3 (tS t p)) (tV t (tE t p)) 0 5 (tS t (tE t p))) = _
          rw [if_neg z, hF1, hlo, hhi]
          by_cases y : deed = 4
          · rw [if_pos y, if_pos y, if_pos y]
          · rw [if_neg y, if_neg y, if_neg y]
        exact bk_fin (c := 1) (kd := -1) hd hv0 R hv w1 w2 w3 (by rw [eF]; exact w4) w5 (by rw [eF]; exact w6) (by rw [v6, if_pos rfl]; rfl) (by rw [v6, if_neg (by omega)]; exact r51) (by rw [if_neg z]) (et _ _ 1) (fun D' o R' v' k' b' => h1 _ _ D' o (fun y => by rw [eR]; exact if_pos y) (fun y => by rw [eR]; exact if_neg (not_not_intro y)) R' v' k' b')
      · have n4 : ¬ deed = 4 := by omega
        rw [if_pos z] at l20 m20
        rw [if_neg n4] at hlo hhi
        refine wl_take (k := 1) (lo := 0) (hi := 12) W6 (by omega) (by omega) (by omega) (fun c D' o f17 => z0' ⟨_, rfl, h0 _ D' (o.m (by omega) (by omega)) ?_ f17⟩) (fun c1 hv1 hS1 D8 W8 v8 g8 => z1' ?_)
        · have ec : cN t (msN (20 + deed)) (tE t p) = 1 := by rw [m20]; exact cN_stop (k := 1) (fun i hi => by rw [show i = 0 by omega]; exact c0) c (by omega)
          rw [hL, lnRest_s (by omega), ec]; rfl
        · have ec : cN t (msN (20 + deed)) (tE t p) = 2 := by rw [m20]; exact cN_full (fun i hi => by rcases (show i = 0 ∨ i = 1 by omega) with rfl | rfl; exact c0; exact c1)
          have eR := hL.trans (lnRest_n (q := q) (p := p) (show ¬ cN t (msN (20 + deed)) (tE t p) < lsN (20 + deed) by omega) (by omega))
          rw [ec, et] at eR
          obtain ⟨w1, w2, w3, w4, w5, w6⟩ := W8
          have eF : (tlDeed q deed (tS t p) (fun i => tV t (nx t (tE t p) i)) (fun i => tS t (nx t (tE t p) i))).1 = chk (chk F1 (tV t (tE t p)) lo hi (tS t (tE t p))) (tV t (tE t (tE t p))) 0 12 (tS t (tE t (tE t p))) := by
            show (if deed = 1 then chk (chk (if tN q.2.1 0 < 40 then q.1 else nt q.1 3 (tS t p)) (tV t (tE t p)) 0 5 (tS t (tE t p))) (tV t (tE t (tE t p))) 0 12 (tS t (tE t (tE t p))) else _) = _
            rw [if_pos z, hF1, hlo, hhi]
          exact bk_fin (c := 2) (kd := nI (tV t (tE t (tE t p)))) hd hv0 R hv w1 w2 w3 (by rw [eF]; exact w4) w5 (by rw [eF]; exact w6) (by rw [v8, if_neg (by omega), v6, if_pos rfl]; rfl) (by rw [v8, if_pos rfl]) (by rw [if_pos z]; rfl) (et _ _ 2) (fun D' o R' v' k' b' => h1 _ _ D' o (fun y => by rw [eR]; exact if_pos y) (fun y => by rw [eR]; exact if_neg (not_not_intro y)) R' v' k' b')
    rw [nI4]
    exact ⟨fun z => ⟨fun _ => leaf 0 5 (by rw [if_neg z]) (by rw [if_neg z]), fun y => absurd y z⟩, fun z => ⟨fun y => absurd z y, fun _ => leaf 1 9 (by rw [if_pos z]) (by rw [if_pos z])⟩⟩
  · have e1 : look (wIx t p) [(9, 0), (10, 1), (11, 2), (12, 3), (13, 4)] = none ∧ look (wIx t p) (lnF 2) = none := by
      cases hW : wIx t p with
      | none => exact ⟨rfl, rfl⟩
      | some k =>
        have k21 := (wIx_some.mp hW).1
        have : k < 9 ∨ 14 ≤ k := by
          by_cases a : k < 9
          · exact Or.inl a
          · by_cases b : 14 ≤ k
            · exact Or.inr b
            · exact absurd ⟨k - 9, by omega, by rw [hW]; congr 1; omega⟩ hw
        exact ⟨lkD' k k21 this, lkD2' k k21 this⟩
    obtain ⟨f1, f2⟩ := fail e1.1 e1.2
    rw [f1]
    exact ⟨fun z => absurd rfl z, fun _ => f2⟩
end MBOOK
