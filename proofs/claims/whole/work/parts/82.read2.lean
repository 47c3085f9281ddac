/-! The Reader reads a text to its end. -/
section CLEAR
variable {d : Nat} {D : xD} {t : Nat}
theorem c_Sheet_clear {P : xD → Prop} {b s : Nat} (k0 : xk b = 3) (hs : s < 5) (h : ∀ D', xOut (b + 1) (b + 19) D D' → clR D' b s (q0 s).2.1 → P D') : xCv (d + 4) m_Sheet_clear [.ref b] D P := by
  have k14 : xk (b + 14) = 5 := ck_3_5 k0
  refine xCv_of y_Sheet_clear (Nat.le_of_ble_eq_true rfl) (s_Sheet_clear_0 k0 (c_Table_clear (ck_3_0 k0) (fun D1 o1 w1 => c_clear (ck_3_1 k0) (fun D2 o2 w2 => c_clear (ck_3_2 k0) (fun D3 o3 w3 => c_clear (ck_3_3 k0) (fun D4 o4 w4 => c_clear (ck_3_4 k0) (fun D5 o5 w5 => ?_)))))))
  refine xCv_of y_Film_clear (Nat.le_of_ble_eq_true rfl) (s_Film_clear_0 k14 (c_clear (ck_5_0 k14) (fun D6 o6 w6 => c_clear (ck_5_1 k14) (fun D7 o7 w7 => ⟨rfl, rfl, ?_⟩))))
  refine h D7 ((o1.mono (by omega) (by omega)).trans ((o2.mono (by omega) (by omega)).trans ((o3.mono (by omega) (by omega)).trans ((o4.mono (by omega) (by omega)).trans ((o5.mono (by omega) (by omega)).trans ((o6.mono (by omega) (by omega)).trans (o7.mono (by omega) (by omega)))))))) ?_
  have N : ∀ j, tN (fun _ => (0 : Int32)) j = 0 := fun j => rfl
  have L : lenOK s (q0 s).2.1 := by
    refine ⟨fun e => ?_, fun e => ?_, fun e => ?_, fun e => ?_, fun e => ?_⟩
    · subst e; exact ⟨rfl, Nat.zero_le _⟩
    · subst e; exact ⟨rfl, Nat.zero_le _⟩
    · subst e; exact ⟨rfl, Nat.zero_le _⟩
    · subst e; exact ⟨rfl, Nat.zero_le _, rfl, Nat.zero_le _⟩
    · subst e; exact ⟨rfl, Nat.zero_le _, fun k hk => absurd hk (Nat.not_lt_zero _)⟩
  refine ⟨fun e => ?_, fun e => ?_, L⟩
  · subst e
    exact (((((w1.out o2 (by omega)).out o3 (by omega)).out o4 (by omega)).out o5 (by omega)).out o6 (by omega)).out o7 (by omega)
  · have eq : (q0 s).2.1 = fun _ => 0 := if_neg e
    rw [eq]
    have g2 := ((((w2.out o3 (by omega)).out o4 (by omega)).out o5 (by omega)).out o6 (by omega)).out o7 (by omega)
    have g3 := (((w3.out o4 (by omega)).out o5 (by omega)).out o6 (by omega)).out o7 (by omega)
    have g4 := ((w4.out o5 (by omega)).out o6 (by omega)).out o7 (by omega)
    have g5 := (w5.out o6 (by omega)).out o7 (by omega)
    have g6 := w6.out o7 (by omega)
    refine ⟨fun y => absurd y e, fun _ => ⟨g2, fun i hi => absurd hi (Nat.not_lt_zero _)⟩, fun _ => ⟨g3, fun i hi => absurd hi (Nat.not_lt_zero _)⟩, fun _ => ⟨g4, fun i hi => absurd hi (Nat.not_lt_zero _), g5, fun i hi => absurd hi (Nat.not_lt_zero _)⟩, fun _ => ⟨k14, g6, w7, fun k hk => absurd hk (Nat.not_lt_zero _)⟩⟩
end CLEAR
section READ2
variable {d : Nat} {D : xD} {a s p : Nat} {t : Nat × (Nat → Nat)} {q : qS}
theorem c_kindsRaw {Q : Int32 → xD → Prop} {t : Nat} (k0 : xk t = 4) (r1 : rS D (t + 1) 6) (h : Q (D.1 (t + 2) 0) D) : xCi (d + 2) m_Table_kinds [.ref t] D Q :=
  xCi_of y_Table_kinds (Nat.le_of_ble_eq_true rfl) (s_Table_kinds_0 k0 (c_get (i := 0) r1 (by omega) ⟨_, rfl, h⟩))
theorem c_packRaw {Q : Int32 → xD → Prop} {t : Nat} (k0 : xk t = 4) (r1 : rS D (t + 1) 6) (h : Q (D.1 (t + 2) 0 * D.1 (t + 2) 1) D) : xCi (d + 3) m_Table_pack [.ref t] D Q :=
  xCi_of y_Table_pack (Nat.le_of_ble_eq_true rfl) (s_Table_pack_0 k0 (c_kindsRaw k0 r1 (c_get (i := 1) r1 (by omega) ⟨_, rfl, h⟩)))
theorem c_allRaw {Q : Int32 → xD → Prop} {t : Nat} (k0 : xk t = 4) (r1 : rS D (t + 1) 6) (h : Q (D.1 (t + 2) 5 * D.1 (t + 2) 2) D) : xCi (d + 3) m_Table_allHold [.ref t] D Q :=
  xCi_of y_Table_allHold (Nat.le_of_ble_eq_true rfl) (s_Table_allHold_0 k0 (c_peopleRaw k0 r1 (xCi_of y_Table_alike (Nat.le_of_ble_eq_true rfl) (s_Table_alike_0 k0 (c_get (i := 2) r1 (by omega) ⟨_, rfl, ⟨_, rfl, h⟩⟩)))))
theorem sub1_le {n g : Nat} (hn : n < 2 ^ 20) (hg : g < 2 ^ 20) : nI n ≤ nI g - (1 : Int32) ↔ n < g := by
  rw [← Int32.not_lt, ← aI_s n, aI_lt (by omega) (by omega)]
  omega
theorem c_stands {P : Int32 → xD → Prop} (hq : rdQ D a 0 q) (hv : vOK 0 q) (h1 : (q.1 = none → stands q) → P 1 D) (h0 : (q.1 = none → ¬ stands q) → P 0 D) : xCi (d + 4) m_Reader_stands [.ref a] D P := by
  obtain ⟨r1, r2, r3, r4, r5, r6, r7, r8⟩ := hq
  have tq := r7.1 rfl
  have k4 : xk (a + 3 + 1) = 4 := tq.1
  have rr := tq.2.1
  have V : ∀ j, j < 6 → D.1 (a + 3 + 1 + 2) j = q.2.1 j := tq.2.2.2.1
  have B : q.1 = none → (∀ j, j < 6 → q.2.1 j = nI (tN q.2.1 j)) ∧ tN q.2.1 0 ≤ 13 ∧ tN q.2.1 1 ≤ 4 ∧ tN q.2.1 2 ≤ 4 ∧ tN q.2.1 5 ≤ 6 := fun e => by
    obtain ⟨a1, a2, a3, a4, a5, a6, a7, -⟩ := (hv.1 e).1 rfl
    exact ⟨a1, a2.2, a3.2, a4.2, a7⟩
  have hg := hv.2
  refine xCi_of y_Reader_stands (Nat.le_of_ble_eq_true rfl) (s_Reader_stands_0 r1 (c_peopleRaw k4 rr ?_))
  rw [V 5 (by omega), r5]
  refine ⟨fun c => ⟨_, rfl, h0 (fun e y => ?_)⟩, fun c => c_peopleRaw k4 rr ?_⟩
  · obtain ⟨b0, b1, b2, b3, b4⟩ := B e
    rw [b0 5 (by omega)] at c
    have := (nI_ltI (b := 2) (by omega) (by omega)).mp c
    have := y.1; omega
  · rw [V 5 (by omega), r6]
    refine ⟨fun c1 => ⟨_, rfl, h0 (fun e y => ?_)⟩, fun c1 => c_kindsRaw k4 rr ?_⟩
    · obtain ⟨b0, b1, b2, b3, b4⟩ := B e
      rw [b0 5 (by omega)] at c1
      have := (sub1_le (by omega) (by omega)).mp c1
      have := y.2.1; omega
    · rw [V 0 (by omega)]
      refine ⟨fun c2 => ⟨_, rfl, h0 (fun e y => ?_)⟩, fun c2 => c_packRaw k4 rr (c_allRaw k4 rr ?_)⟩
      · obtain ⟨b0, b1, b2, b3, b4⟩ := B e
        rw [b0 0 (by omega)] at c2
        have := (sub1_le (by omega) (by omega)).mp c2
        have := y.2.2.1; omega
      · rw [V 0 (by omega), V 1 (by omega), V 2 (by omega), V 5 (by omega)]
        have m1 : q.1 = none → tN q.2.1 0 * tN q.2.1 1 ≤ 13 * 4 ∧ tN q.2.1 5 * tN q.2.1 2 ≤ 6 * 4 := fun e => by
          obtain ⟨b0, b1, b2, b3, b4⟩ := B e
          exact ⟨Nat.mul_le_mul b1 b2, Nat.mul_le_mul b4 b3⟩
        refine ⟨fun c3 => ⟨_, rfl, h0 (fun e y => ?_)⟩, fun c3 => ⟨_, rfl, h1 (fun e => ?_)⟩⟩
        · obtain ⟨b0, b1, b2, b3, b4⟩ := B e
          have := m1 e
          rw [b0 0 (by omega), b0 1 (by omega), b0 2 (by omega), b0 5 (by omega), pk_mul, pk_mul] at c3
          have := (nI_leI (by omega) (by omega)).mp c3
          have := y.2.2.2; omega
        · obtain ⟨b0, b1, b2, b3, b4⟩ := B e
          have := m1 e
          rw [b0 5 (by omega)] at c c1
          rw [b0 0 (by omega)] at c2
          rw [b0 0 (by omega), b0 1 (by omega), b0 2 (by omega), b0 5 (by omega), pk_mul, pk_mul] at c3
          refine ⟨Nat.le_of_not_lt (fun z => c (nI_lt (b := 2) z (by omega))), Nat.le_of_not_lt (fun z => c1 ((sub1_le (by omega) (by omega)).mpr z)), Nat.le_of_not_lt (fun z => c2 ((sub1_le (by omega) (by omega)).mpr z)), Nat.lt_of_not_le (fun z => c3 (nI_le z (by omega)))⟩
theorem rd_l {t : Nat × (Nat → Nat)} {s b : Nat} (h : rdS t s tSix (q0 s) 0 = .inl b) : rd t s = (some (1, b), fun _ => 0) := by unfold rd; rw [h]
theorem rd_r {t : Nat × (Nat → Nat)} {s : Nat} {q : qS} (h : rdS t s tSix (q0 s) 0 = .inr q) : rd t s = ((rdEnd t s q).1, q.2.1) := by unfold rd; rw [h]
theorem rdS_3 {t : Nat × (Nat → Nat)} {s F p : Nat} {q : qS} (h : tK t p = 3) : rdS t s (F + 1) q p = .inr q := by unfold rdS; exact if_pos h
theorem rdS_l {t : Nat × (Nat → Nat)} {s F p b : Nat} {q : qS} (h : tK t p ≠ 3) (e : lnS t s q p = .inl b) : rdS t s (F + 1) q p = .inl b := by rw [rdS, if_neg h, e]
theorem rdS_r {t : Nat × (Nat → Nat)} {s F p p' : Nat} {q q' : qS} (h : tK t p ≠ 3) (e : lnS t s q p = .inr (q', p')) : rdS t s (F + 1) q p = rdS t s F q' p' := by rw [rdS, if_neg h, e]
/-- the text that the Reader at a has read: of sort s -/
def rdD (D : xD) (a s : Nat) (r : Option (Nat × Nat) × (Nat → Int32)) : Prop := D.1 a 9 = fI r.1 ∧ D.1 a 10 = fP r.1 ∧ (r.1 = none → shR D (a + 3) s r.2 ∧ txOK s r.2) ∧ fOKk r.1
theorem rd_shR {D : xD} {a s : Nat} {q : qS} (hq : rdQ D a s q) : shR D (a + 3) s q.2.1 := by
  obtain ⟨c1, c2, c3⟩ := hq.2.2.2.2.2.2.1
  by_cases e : s = 0
  · exact ⟨fun _ => (c1 e).tR (c3.1 e).2, fun y => by omega, fun y => by omega, fun y => by omega, fun y => by omega⟩
  · exact c2 e
theorem c_read {Q : xD → Prop} {b n : Nat} {v : Nat → Nat} (k0 : xk a = 6) (hs : s < 5) (hb : rS D b n) (hn : n ≤ 600) (hv : ∀ j, j < n → D.1 (b + 1) j = nI (v j) ∧ v j < 256) (h : ∀ D', xOut a (a + 26) D D' → rdD D' a s (rd (n, v) s) → Q D') : xCv (d + 10) m_Reader_read [.ref a, .ref b, .int (nI s)] D Q := by
  have l2 : xl (a + 1 + 1) = 600 := cl_6_0 k0
  have k2 : xk b = 2 := hb.2.2
  have e6 := tSix_is
  have zs : nI s = 0 ↔ s = 0 := nI_eq (b := 0) (by omega) (by omega)
  refine xCv_of y_Reader_read (Nat.le_of_ble_eq_true rfl) (s_Reader_read_0 k0 k2 ?_)
  refine c_rcopy (ck_6_0 k0) hb (by omega) (fun D1 o1 w1 v1 => c_Sheet_clear (ck_6_1 k0) hs (fun D2 o2 w2 D3 e3 D4 e4 D5 e5 D6 e6' D7 e7 D8 e8 => ?_))
  obtain ⟨o3, f3⟩ := fld e3
  obtain ⟨o4, f4⟩ := fld e4
  obtain ⟨o5, f5⟩ := fld e5
  obtain ⟨o6, f6⟩ := fld e6'
  obtain ⟨o7, f7⟩ := fld e7
  obtain ⟨o8, f8⟩ := fld e8
  have o28 : xOut a (a + 1) D2 D8 := o3.trans (o4.trans (o5.trans (o6.trans (o7.trans o8))))
  have f28 : ∀ j, D8.1 a j = if j = 12 then -1 else if j = 11 then -1 else if j = 10 then -1 else if j = 9 then 0 else if j = 8 then 0 else if j = 6 then 0 else D2.1 a j := fun j => by rw [f8, f7, f6, f5, f4, f3]
  have R1 : rdT D1 a (n, v) := ⟨k0, w1, hn, fun j hj => by rw [show a + 2 = a + 1 + 1 by omega, v1 j hj]; exact hv j hj⟩
  have R8 : rdT D8 a (n, v) := (R1.out o2 (by omega)).out o28 (by omega)
  have c8 : clR D8 (a + 3) s (q0 s).2.1 := w2.out o28 (by omega)
  have q8 : rdQ D8 a s (q0 s) := ⟨k0, by rw [f28]; rfl, by rw [f28]; rfl, by rw [f28]; rfl, by rw [f28]; rfl, by rw [f28]; rfl, c8, fun k p e => by cases e⟩
  have o08 : xOut a (a + 26) D D8 := (o1.mono (by omega) (by omega)).trans ((o2.mono (by omega) (by omega)).trans (o28.mono (by omega) (by omega)))
  have vbr : ∀ b' i D', rdS (n, v) s tSix (q0 s) 0 = .inl b' → xOut a (a + 26) D D' → brR D' a b' → xPf (d + 10) m_Reader_read 51 [(0, .ref a), (1, .ref b), (2, .int (nI s)), (3, .int (nI i))] [] D' (fun r D' => r = none ∧ Q D') := by
    intro b' i D' e o hb'
    have nz : ¬ D'.1 a 8 = 0 := by rw [hb'.1]; decide
    have fin : Q D' := h D' o ⟨by rw [rd_l e]; exact hb'.2.1, by rw [rd_l e]; exact hb'.2.2, fun y => (by rw [rd_l e] at y; cases y), fun k p y => (by rw [rd_l e] at y; cases y; omega)⟩
    exact s_Reader_read_51 k0 k2 ⟨fun _ => ⟨fun _ => ⟨rfl, fin⟩, fun _ => ⟨fun _ => ⟨rfl, fin⟩, fun z => absurd z nz⟩⟩, fun _ => ⟨fun _ => ⟨fun _ => ⟨rfl, fin⟩, fun _ => ⟨fun _ => ⟨rfl, fin⟩, fun z => absurd z nz⟩⟩, fun _ => ⟨fun _ => ⟨fun _ => ⟨rfl, fin⟩, fun _ => ⟨fun _ => ⟨rfl, fin⟩, fun z => absurd z nz⟩⟩, fun z => absurd z nz⟩⟩⟩
  have fin : ∀ q' D', rdS (n, v) s tSix (q0 s) 0 = .inr q' → xOut a (a + 26) D D' → rdT D' a (n, v) → rdQ D' a s q' → vOK s q' →
      (¬ nI s = 0 → (none : Option Value) = none ∧ Q D') ∧ (nI s = 0 → (¬ (D'.1 a 8) = 0 → (none : Option Value) = none ∧ Q D') ∧ ((D'.1 a 8) = 0 → xCi (d + 9) m_Reader_stands [.ref a] D' (fun r2 D1 => (¬ r2 = 0 → (none : Option Value) = none ∧ Q D1) ∧ (r2 = 0 → xCi (d + 9) m_Row_size [.ref (a + 1)] D1 (fun r4 D3 => xCv (d + 9) m_Reader_note [.ref a, .int (4 : Int32), .int r4] D3 (fun D5 => (none : Option Value) = none ∧ Q D5)))))) := by
    intro q' D' e o R' hq' hv'
    refine ⟨fun c => ⟨rfl, h D' o ?_⟩, fun c => ?_⟩
    · have ns : s ≠ 0 := fun y => c (zs.mpr y)
      have eE : rdEnd (n, v) s q' = q' := by unfold rdEnd; rw [if_neg ns]
      refine ⟨by rw [rd_r e, eE]; exact hq'.2.2.1, by rw [rd_r e, eE]; exact hq'.2.2.2.1, fun y => ?_, by rw [rd_r e, eE]; exact hq'.2.2.2.2.2.2.2⟩
      rw [rd_r e] at y ⊢
      exact ⟨rd_shR hq', txOK_of hv'.1 y⟩
    · have s0 := zs.mp c
      subst s0
      refine ⟨fun z => absurd hq'.2.1 z, fun _ => c_stands hq' hv' (fun st => ⟨fun _ => ⟨rfl, h D' o ?_⟩, fun z => absurd z (by decide)⟩) (fun st => ⟨fun z => absurd rfl z, fun _ => c_Row_size R'.2.1 (c_note (kk := 4) hq' (by omega) (fun D5 o5 R5 => ⟨rfl, h D5 (o.trans (o5.out.mono (by omega) (by omega))) ?_⟩))⟩)⟩
      · have eE : (rdEnd (n, v) 0 q').1 = q'.1 := by
          show (if 0 = 0 then cif (stands q') q'.1 (nt q'.1 4 n) else q'.1) = q'.1
          rw [if_pos rfl]
          by_cases sq : stands q'
          · exact cif_t sq
          · rw [cif_f sq]
            cases hF : q'.1 with
            | none => exact absurd (st hF) sq
            | some f => rfl
        refine ⟨by rw [rd_r e, eE]; exact hq'.2.2.1, by rw [rd_r e, eE]; exact hq'.2.2.2.1, fun y => ?_, by rw [rd_r e, eE]; exact hq'.2.2.2.2.2.2.2⟩
        rw [rd_r e] at y ⊢
        exact ⟨rd_shR hq', txOK_of hv'.1 y⟩
      · have eE : (rdEnd (n, v) 0 q').1 = nt q'.1 4 n := by
          show (if 0 = 0 then cif (stands q') q'.1 (nt q'.1 4 n) else q'.1) = nt q'.1 4 n
          rw [if_pos rfl]
          by_cases sq : stands q'
          · rw [cif_t sq]
            cases hF : q'.1 with
            | none => exact absurd sq (st hF)
            | some f => rfl
          · exact cif_f sq
        refine ⟨by rw [rd_r e, eE]; exact R5.2.2.1, by rw [rd_r e, eE]; exact R5.2.2.2.1, fun y => ?_, by rw [rd_r e, eE]; exact R5.2.2.2.2.2.2.2⟩
        rw [rd_r e, eE] at y
        exact absurd y (nt_some _ _ _)
  have key : ∀ F i, i + F = tSix → ∀ q' p' D', rdS (n, v) s tSix (q0 s) 0 = rdS (n, v) s F q' p' → xOut a (a + 26) D D' → rdT D' a (n, v) → rdQ D' a s q' → vOK s q' → tkR D' a (n, v) p' → xPf (d + 10) m_Reader_read 51 [(0, .ref a), (1, .ref b), (2, .int (nI s)), (3, .int (nI i))] [] D' (fun r D' => r = none ∧ Q D') := by
    intro F
    induction F with
    | zero =>
      intro i hi q' p' D' e o R' hq' hv' hk'
      refine s_Reader_read_51 k0 k2 ?_
      rw [tSix_i]
      exact ⟨fun _ => fin q' D' e o R' hq' hv', fun z => absurd (nI_le (by omega) (by omega)) z⟩
    | succ F ih =>
      intro i hi q' p' D' e o R' hq' hv' hk'
      have e3 : D'.1 a 4 = (3 : Int32) ↔ tK (n, v) p' = 3 := by rw [hk'.2.1]; exact nI_eq (b := 3) (by have := tK_lt (n, v) p'; omega) (by omega)
      refine s_Reader_read_51 k0 k2 ?_
      rw [tSix_i, e3]
      refine ⟨fun z => absurd z (nI_ge (by omega) (by omega)), fun _ => ⟨fun c => fin q' D' (by rw [e, rdS_3 c]) o R' hq' hv', fun c => ⟨fun z => absurd hq'.2.1 z, fun _ => c_readLine hs R' hq' hv' hk' (fun b' D2 o2 R2 e2 b2 => ?_) (fun q2 p2 D2 o2 R2 e2 hq2 hv2 hk2 => ?_)⟩⟩⟩
      · rw [nI_1 i]
        exact vbr b' (i + 1) D2 (by rw [e, rdS_l c e2]) (o.trans o2) b2
      · rw [nI_1 i]
        exact ih (i + 1) (by omega) q2 p2 D2 (by rw [e, rdS_r c e2]) (o.trans o2) R2 hq2 hv2 hk2
  refine c_step (p := 0) R8 (by rw [f28]; rfl) (Nat.zero_le _) (fun D9 o9 a1 a2 a3 a4 => ?_)
  exact key tSix 0 (Nat.zero_add _) (q0 s) 0 D9 rfl (o08.trans (o9.mono (by omega) (by omega))) (R8.out o9 (by omega)) (q8.fr (rdF.fld o9) (fun j hj => a4 j (by omega))) (vOK_0 hs) ⟨Nat.zero_le _, a1, a2, a3⟩
end READ2
