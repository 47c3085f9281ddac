/-! What a line tells, on: KINDS, deeds, FRAMES. -/
theorem tSet_ne {τ : Nat → Int32} {i j : Nat} {v : Int32} (h : i ≠ j) : tSet τ j v i = τ i := if_neg h
section TELL2
variable {d : Nat} {D : xD} {a s k : Nat} {q : qS} {V P : Nat → Nat}
theorem nt_2 (F : Option (Nat × Nat)) (x : (Nat → Int32) × Nat × Nat) (k p : Nat) : ((nt F k p, x) : qS) = (nt F k p, x.1, x.2.1, x.2.2) := rfl
/-- a list of KINDS that is told: its sort, where it stands on the sheet, where its length, where it begins, how long it may be -/
def klR (s off c from' most : Nat) : Prop := (s = 1 ∧ off = 6 ∧ c = 0 ∧ from' = 1 ∧ most = 52) ∨ (s = 3 ∧ off = 10 ∧ c = 0 ∧ from' = 2 ∧ most = 4) ∨ (s = 3 ∧ off = 12 ∧ c = 1 ∧ from' = 6 ∧ most = 48)
theorem kl_get {b off c from' most : Nat} {ξ : Nat → Int32} (hk : klR s off c from' most) (h : clR D b s ξ) : rS D (b + off) (tN ξ c) ∧ tN ξ c ≤ most ∧ xl (b + off + 1) = most ∧ xk b = 3 → rS D (b + off) (tN ξ c) := fun z => z.1
theorem kl_row {b off c from' most : Nat} {ξ : Nat → Int32} (kb : xk b = 3) (hk : klR s off c from' most) (h : clR D b s ξ) : rS D (b + off) (tN ξ c) ∧ tN ξ c ≤ most ∧ xl (b + off + 1) = most ∧ ξ c = nI (tN ξ c) := by
  obtain ⟨h0, h1, h2, h3, h4, h5, h6⟩ := h
  rcases hk with ⟨rfl, rfl, rfl, rfl, rfl⟩ | ⟨rfl, rfl, rfl, rfl, rfl⟩ | ⟨rfl, rfl, rfl, rfl, rfl⟩
  · obtain ⟨l1, l2⟩ := h3 rfl
    exact ⟨((h1 (by omega)).2.1 rfl).1, l2, cl_3_1 kb, l1⟩
  · obtain ⟨l1, l2, l3, l4⟩ := h5 rfl
    exact ⟨((h1 (by omega)).2.2.2.1 rfl).1, l2, cl_3_3 kb, l1⟩
  · obtain ⟨l1, l2, l3, l4⟩ := h5 rfl
    exact ⟨((h1 (by omega)).2.2.2.1 rfl).2.2.1, l4, cl_3_4 kb, l3⟩
theorem kl_push {D' : xD} {b off c from' most v : Nat} {ξ : Nat → Int32} (kb : xk b = 3) (hk : klR s off c from' most) (h : clR D b s ξ) (hlt : tN ξ c < most) (o : xOut (b + off) (b + off + 2) D D') (w : rS D' (b + off) (tN ξ c + 1)) (hv : ∀ j, D'.1 (b + off + 1) j = if j = tN ξ c then nI v else D.1 (b + off + 1) j) : clR D' b s (tSet (tSet ξ (from' + tN ξ c) (nI v)) c (nI (tN ξ c + 1))) := by
  obtain ⟨h0, h1, h2, h3, h4, h5, h6⟩ := h
  rcases hk with ⟨rfl, rfl, rfl, rfl, rfl⟩ | ⟨rfl, rfl, rfl, rfl, rfl⟩ | ⟨rfl, rfl, rfl, rfl, rfl⟩
  · obtain ⟨l1, l2⟩ := h3 rfl
    obtain ⟨g1, g2⟩ := (h1 (by omega)).2.1 rfl
    have e0 : tN (tSet (tSet ξ (1 + tN ξ 0) (nI v)) 0 (nI (tN ξ 0 + 1))) 0 = tN ξ 0 + 1 := by rw [tSet_N, if_pos rfl, nI_clamp (by omega)]
    refine ⟨fun e => by omega, fun _ => ⟨fun e => by omega, fun _ => ⟨by rw [e0]; exact w, fun i hi => ?_⟩, fun e => by omega, fun e => by omega, fun e => by omega⟩, fun e => by omega, fun _ => ⟨by rw [e0, tSet_at, if_pos rfl], by rw [e0]; omega⟩, fun e => by omega, fun e => by omega, fun e => by omega⟩
    rw [e0] at hi
    rw [show b + 7 = b + 6 + 1 by omega, hv, tSet_ne (by omega), tSet_at]
    by_cases z : i = tN ξ 0
    · rw [if_pos z, if_pos (by omega)]
    · rw [if_neg z, if_neg (by omega)]; exact g2 i (by omega)
  · obtain ⟨l1, l2, l3, l4⟩ := h5 rfl
    obtain ⟨g1, g2, g3, g4⟩ := (h1 (by omega)).2.2.2.1 rfl
    have e0 : tN (tSet (tSet ξ (2 + tN ξ 0) (nI v)) 0 (nI (tN ξ 0 + 1))) 0 = tN ξ 0 + 1 := by rw [tSet_N, if_pos rfl, nI_clamp (by omega)]
    have e1 : tN (tSet (tSet ξ (2 + tN ξ 0) (nI v)) 0 (nI (tN ξ 0 + 1))) 1 = tN ξ 1 := by rw [tSet_N, if_neg (by omega), tSet_N, if_neg (by omega)]
    refine ⟨fun e => by omega, fun _ => ⟨fun e => by omega, fun e => by omega, fun e => by omega, fun _ => ⟨by rw [e0]; exact w, fun i hi => ?_, by rw [e1]; exact g3.out o (by omega), fun i hi => ?_⟩, fun e => by omega⟩, fun e => by omega, fun e => by omega, fun e => by omega, fun _ => ⟨by rw [e0, tSet_at, if_pos rfl], by rw [e0]; omega, by rw [e1, tSet_ne (by omega), tSet_ne (by omega)]; exact l3, by rw [e1]; exact l4⟩, fun e => by omega⟩
    · rw [e0] at hi
      rw [show b + 11 = b + 10 + 1 by omega, hv, tSet_ne (by omega), tSet_at]
      by_cases z : i = tN ξ 0
      · rw [if_pos z, if_pos (by omega)]
      · rw [if_neg z, if_neg (by omega)]; exact g2 i (by omega)
    · rw [e1] at hi
      rw [o.1 _ (by omega), tSet_ne (by omega), tSet_ne (by omega)]; exact g4 i hi
  · obtain ⟨l1, l2, l3, l4⟩ := h5 rfl
    obtain ⟨g1, g2, g3, g4⟩ := (h1 (by omega)).2.2.2.1 rfl
    have e1 : tN (tSet (tSet ξ (6 + tN ξ 1) (nI v)) 1 (nI (tN ξ 1 + 1))) 1 = tN ξ 1 + 1 := by rw [tSet_N, if_pos rfl, nI_clamp (by omega)]
    have e0 : tN (tSet (tSet ξ (6 + tN ξ 1) (nI v)) 1 (nI (tN ξ 1 + 1))) 0 = tN ξ 0 := by rw [tSet_N, if_neg (by omega), tSet_N, if_neg (by omega)]
    refine ⟨fun e => by omega, fun _ => ⟨fun e => by omega, fun e => by omega, fun e => by omega, fun _ => ⟨by rw [e0]; exact g1.out o (by omega), fun i hi => ?_, by rw [e1]; exact w, fun i hi => ?_⟩, fun e => by omega⟩, fun e => by omega, fun e => by omega, fun e => by omega, fun _ => ⟨by rw [e0, tSet_ne (by omega), tSet_ne (by omega)]; exact l1, by rw [e0]; exact l2, by rw [e1, tSet_at, if_pos rfl], by rw [e1]; omega⟩, fun e => by omega⟩
    · rw [e0] at hi
      rw [o.1 _ (by omega), tSet_ne (by omega), tSet_ne (by omega)]; exact g2 i hi
    · rw [e1] at hi
      rw [show b + 13 = b + 12 + 1 by omega, hv, tSet_ne (by omega), tSet_at]
      by_cases z : i = tN ξ 1
      · rw [if_pos z, if_pos (by omega)]
      · rw [if_neg z, if_neg (by omega)]; exact g4 i (by omega)
theorem c_tellKinds {Q : xD → Prop} {off c from' most : Nat} (kl : klR s off c from' most) (hR : rdQ D a s q) (hN : nuR D a k V P) (hk : k ≤ 600) (h : ∀ D', rdO D D' a → rdQ D' a s (tlKs q c from' most V P k) → Q D') : xCv (d + 5) m_Reader_tellKinds [.ref a, .ref ((a + 3) + off)] D Q := by
  have kb : xk (a + 3) = 3 := ck_6_1 hR.1
  have bo : 6 ≤ off ∧ off ≤ 12 := by rcases kl with ⟨-, rfl, -⟩ | ⟨-, rfl, -⟩ | ⟨-, rfl, -⟩ <;> omega
  have kr := (kl_row kb kl hR.2.2.2.2.2.2.1).1.2.2
  refine xCv_of y_Reader_tellKinds (Nat.le_of_ble_eq_true rfl) (s_Reader_tellKinds_0 hR.1 kr ?_)
  have key : ∀ m i, i + m = k → ∀ D', rdO D D' a → rdQ D' a s (tlKs q c from' most V P i) → xPf (d + 5) m_Reader_tellKinds 2 [(0, .ref a), (1, .ref ((a + 3) + off)), (2, .int (nI i))] [] D' (fun r D' => r = none ∧ Q D') := by
    intro m
    induction m with
    | zero =>
      intro i hi D' oD R'
      have ei : i = k := by omega
      subst ei
      exact s_Reader_tellKinds_2 hR.1 kr (c_Row_size (hN.out oD.out (by omega)).1 ⟨fun _ => ⟨rfl, h D' oD R'⟩, fun z => absurd (nI_le (by omega) (by omega)) z⟩)
    | succ m ih =>
      intro i hi D' oD R'
      have hN' := hN.out oD.out (show a + 22 ≤ a + 22 ∨ a + 26 ≤ a by omega)
      refine s_Reader_tellKinds_2 hR.1 kr (c_Row_size hN'.1 ⟨fun z => absurd z (nI_ge (by omega) (by omega)), fun _ => ?_⟩)
      refine c_check (lo := 0) (hi := 12) R' hN' (by omega) (by omega) (by omega) (fun D1 o1 R1 => ?_)
      have oD1 := oD.trans o1
      have hN1 := hN.out oD1.out (show a + 22 ≤ a + 22 ∨ a + 26 ≤ a by omega)
      obtain ⟨w1, w2, w3, w4⟩ := kl_row kb kl R1.2.2.2.2.2.2.1
      refine c_Row_isFull w1 ?_
      rw [w3, nI_1 i]
      by_cases z : tN (tlKs q c from' most V P i).2.1 c < most
      · have et : tlKs q c from' most V P (i + 1) = (chk (tlKs q c from' most V P i).1 (V i) 0 12 (P i), tSet (tSet (tlKs q c from' most V P i).2.1 (from' + tN (tlKs q c from' most V P i).2.1 c) (nI (V i))) c (nI (tN (tlKs q c from' most V P i).2.1 c + 1)), (tlKs q c from' most V P i).2.2) := by
          rw [tlKs, tlK1, if_pos z]
        rw [if_pos z]
        refine z0 (nu_v hN1 (by omega) (c_push w1 (by rw [w3]; exact z) (fun D2 o2 w2' v2 => ?_)))
        refine ih (i + 1) (by omega) D2 (oD1.trans (rdO.of o2 (by omega))) ?_
        rw [et]
        exact rdQ_sheet R1 (o2.mono (by omega) (by omega)) (kl_push kb kl R1.2.2.2.2.2.2.1 z o2 w2' v2)
      · have et : tlKs q c from' most V P (i + 1) = (nt (chk (tlKs q c from' most V P i).1 (V i) 0 12 (P i)) 3 (P i), (tlKs q c from' most V P i).2) := by
          rw [tlKs, tlK1, if_neg z]
        rw [if_neg z]
        refine z1 (nu_p hN1 (by omega) (c_note (kk := 3) R1 (by omega) (fun D2 o2 R2 => ?_)))
        have oD2 := oD1.trans o2
        have hN2 := hN.out oD2.out (show a + 22 ≤ a + 22 ∨ a + 26 ≤ a by omega)
        obtain ⟨x1, x2, x3, x4⟩ := kl_row kb kl R2.2.2.2.2.2.2.1
        refine nu_v hN2 (by omega) (c_pushFull x1 (by rw [x3]; exact z) ?_)
        refine ih (i + 1) (by omega) D2 oD2 ?_
        rw [et]
        exact R2
  exact key k 0 (by omega) D rdO.rfl' hR
theorem c_tellDeed {Q : xD → Prop} {deed first : Nat} (hR : rdQ D a 2 q) (hN : nuR D a k V P) (hk : 1 ≤ k) (hk2 : deed = 1 → 2 ≤ k) (hd : deed < 5) (h : ∀ D', rdO D D' a → rdQ D' a 2 (tlDeed q deed first V P) → Q D') : xCv (d + 5) m_Reader_tellDeed [.ref a, .int (nI deed), .int (nI first)] D Q := by
  have kb : xk (a + 3) = 3 := ck_6_1 hR.1
  have l9 : xl (a + 3 + 8 + 1) = 120 := cl_3_2 kb
  have cl := hR.2.2.2.2.2.2.1
  have row : ∀ {D' F}, rdQ D' a 2 (F, q.2) → kR D' (a + 3 + 8) (tN q.2.1 0) q.2.1 := fun {D' F} R => (R.2.2.2.2.2.2.1.2.1 (by omega)).2.2.1 rfl
  obtain ⟨l1, l2⟩ := cl.2.2.2.2.1 rfl
  have hv0 := (hN.2.2 0 (by omega)).2.2.1
  have de : ∀ u : Nat, u < 5 → (nI deed = nI u ↔ deed = u) := fun u hu => nI_eq (by omega) (by omega)
  have d1 : nI deed = (1 : Int32) ↔ deed = 1 := de 1 (by omega)
  have d4 : nI deed = (4 : Int32) ↔ deed = 4 := de 4 (by omega)
  -- three numbers are pushed
  have three : ∀ {D' : xD} {F} {x : Int32}, rdO D D' a → rdQ D' a 2 (F, q.2) → (∀ D'', rdO D D'' a → rdQ D'' a 2 (F, if tN q.2.1 0 < 40 then tSet (tSet (tSet (tSet q.2.1 (1 + 3 * tN q.2.1 0) (nI deed)) (1 + 3 * tN q.2.1 0 + 1) (nI (V 0))) (1 + 3 * tN q.2.1 0 + 2) x) 0 (nI (tN q.2.1 0 + 1)) else q.2.1, q.2.2) → Q D'') → ∀ {K : xD → Prop}, (∀ D4, rdO D D4 a → nuR D4 a k V P → xCv (d + 4) m_Row_push [.ref (a + 3 + 8), .int x] D4 (fun D5 => (none : Option Value) = none ∧ Q D5) → K D4) →
      xCv (d + 4) m_Row_push [.ref (a + 3 + 8), .int (nI deed)] D' (fun D1 => xCi (d + 4) m_Row_get [.ref (a + 22), .int (0 : Int32)] D1 (fun r3 D2 => xCv (d + 4) m_Row_push [.ref (a + 3 + 8), .int r3] D2 K)) := by
    intro D' F x oD R' fin K hK
    have hN' := hN.out oD.out (show a + 22 ≤ a + 22 ∨ a + 26 ≤ a by omega)
    have kr := row R'
    by_cases c : tN q.2.1 0 < 40
    · simp only [if_pos c] at fin
      refine c_push kr.1 (by omega) (fun D1 o1 w1 v1 => nu_v (i := 0) (hN'.out o1 (by omega)) (by omega) (c_push w1 (by omega) (fun D2 o2 w2 v2 => ?_)))
      have oD2 : rdO D D2 a := oD.trans ((rdO.of o1 (by omega)).trans (rdO.of o2 (by omega)))
      refine hK D2 oD2 (hN.out oD2.out (by omega)) (c_push w2 (by omega) (fun D3 o3 w3 v3 => ⟨rfl, fin D3 (oD2.trans (rdO.of o3 (by omega))) ?_⟩))
      have o123 : xOut (a + 4) (a + 22) D' D3 := (o1.mono (by omega) (by omega)).trans ((o2.mono (by omega) (by omega)).trans (o3.mono (by omega) (by omega)))
      have e0 : tN (tSet (tSet (tSet (tSet q.2.1 (1 + 3 * tN q.2.1 0) (nI deed)) (1 + 3 * tN q.2.1 0 + 1) (nI (V 0))) (1 + 3 * tN q.2.1 0 + 2) x) 0 (nI (tN q.2.1 0 + 1))) 0 = tN q.2.1 0 + 1 := by rw [tSet_N, if_pos rfl, nI_clamp (by omega)]
      refine rdQ_sheet R' o123 ⟨fun e => by omega, fun _ => ⟨fun e => by omega, fun e => by omega, fun _ => ⟨by rw [e0, show 3 * (tN q.2.1 0 + 1) = 3 * tN q.2.1 0 + 1 + 1 + 1 by omega]; exact w3, fun i hi => ?_⟩, fun e => by omega, fun e => by omega⟩, fun e => by omega, fun e => by omega, fun _ => ⟨by rw [e0, tSet_at, if_pos rfl], by rw [e0]; omega⟩, fun e => by omega, fun e => by omega⟩
      rw [e0] at hi
      rw [v3, v2, v1, tSet_ne (by omega), tSet_at, tSet_at, tSet_at]
      by_cases z2 : i = 3 * tN q.2.1 0 + 1 + 1
      · rw [if_pos z2, if_pos (by omega)]
      · rw [if_neg z2, if_neg (show ¬ 1 + i = 1 + 3 * tN q.2.1 0 + 2 by omega)]
        by_cases z1 : i = 3 * tN q.2.1 0 + 1
        · rw [if_pos z1, if_pos (show 1 + i = 1 + 3 * tN q.2.1 0 + 1 by omega)]
        · rw [if_neg z1, if_neg (show ¬ 1 + i = 1 + 3 * tN q.2.1 0 + 1 by omega)]
          by_cases z0 : i = 3 * tN q.2.1 0
          · rw [if_pos z0, if_pos (show 1 + i = 1 + 3 * tN q.2.1 0 by omega)]
          · rw [if_neg z0, if_neg (show ¬ 1 + i = 1 + 3 * tN q.2.1 0 by omega)]
            exact kr.2 i (by omega)
    · simp only [if_neg c] at fin
      refine c_pushFull kr.1 (by omega) (nu_v (i := 0) hN' (by omega) (c_pushFull kr.1 (by omega) (hK D' oD hN' (c_pushFull kr.1 (by omega) ⟨rfl, fin D' oD R'⟩))))
  have last : ∀ {D' : xD} {F}, rdO D D' a → rdQ D' a 2 (F, q.2) → F = (if deed = 4 then chk (if tN q.2.1 0 < 40 then q.1 else nt q.1 3 first) (V 0) 1 9 (P 0) else chk (if tN q.2.1 0 < 40 then q.1 else nt q.1 3 first) (V 0) 0 5 (P 0)) → xPf (d + 4 + 1) m_Reader_tellDeed 44 [(0, .ref a), (1, .int (nI deed)), (2, .int (nI first)), (3, .ref ((a + 3) + 8))] [] D' (fun r D' => r = none ∧ Q D') := by
    intro D' F oD R' eF
    have kr := row R'
    unfold tlDeed at h
    refine s_Reader_tellDeed_44 hR.1 kr.1.2.2 ⟨fun c => ?_, fun c => ?_⟩
    · have c1 : deed ≠ 1 := fun z => c (d1.mpr z)
      simp only [if_neg c1] at h
      exact three (F := F) (x := -1) oD R' (fun D'' o'' R'' => h D'' o'' (by rw [← eF]; exact R'')) (fun D4 o4 n4 f => ⟨fun _ => f, fun z => absurd z c⟩)
    · have c1 : deed = 1 := d1.mp c
      have k2 := hk2 c1
      simp only [if_pos c1] at h
      rw [if_neg (by omega)] at eF
      refine c_check (i := 1) (lo := 0) (hi := 12) R' (hN.out oD.out (by omega)) (by omega) (by omega) (by omega) (fun D1 o1 R1 => ?_)
      exact three (F := chk F (V 1) 0 12 (P 1)) (x := nI (V 1)) (oD.trans o1) R1 (fun D'' o'' R'' => h D'' o'' (by rw [← eF]; exact R'')) (fun D4 o4 n4 f => ⟨fun z => absurd c z, fun _ => nu_v (i := 1) n4 (by omega) f⟩)
  have mid : ∀ {D' : xD} {F}, rdO D D' a → rdQ D' a 2 (F, q.2) → F = (if tN q.2.1 0 < 40 then q.1 else nt q.1 3 first) → (¬ nI deed = (4 : Int32) → xCv (d + 4) m_Reader_check [.ref a, .int (0 : Int32), .int (0 : Int32), .int (5 : Int32)] D' (fun D3 => xPf (d + 4 + 1) m_Reader_tellDeed 44 [(0, .ref a), (1, .int (nI deed)), (2, .int (nI first)), (3, .ref ((a + 3) + 8))] [] D3 (fun r D' => r = none ∧ Q D'))) ∧ (nI deed = (4 : Int32) → xCv (d + 4) m_Reader_check [.ref a, .int (0 : Int32), .int (1 : Int32), .int (9 : Int32)] D' (fun D4 => xPf (d + 4 + 1) m_Reader_tellDeed 44 [(0, .ref a), (1, .int (nI deed)), (2, .int (nI first)), (3, .ref ((a + 3) + 8))] [] D4 (fun r D' => r = none ∧ Q D'))) := by
    intro D' F oD R' eF
    have hN' := hN.out oD.out (show a + 22 ≤ a + 22 ∨ a + 26 ≤ a by omega)
    refine ⟨fun c => c_check (i := 0) (lo := 0) (hi := 5) R' hN' (by omega) (by omega) (by omega) (fun D1 o1 R1 => last (oD.trans o1) R1 ?_), fun c => c_check (i := 0) (lo := 1) (hi := 9) R' hN' (by omega) (by omega) (by omega) (fun D1 o1 R1 => last (oD.trans o1) R1 ?_)⟩
    · rw [if_neg (fun z => c (d4.mpr z)), eF]
    · rw [if_pos (d4.mp c), eF]
  refine xCv_of y_Reader_tellDeed (Nat.le_of_ble_eq_true rfl) (s_Reader_tellDeed_0 hR.1 (c_Row_isFull (row hR).1 ?_))
  rw [l9]
  by_cases c : tN q.2.1 0 < 40
  · rw [if_pos (show 3 * tN q.2.1 0 < 120 by omega)]
    exact z0 (mid rdO.rfl' hR (by rw [if_pos c]))
  · rw [if_neg (show ¬ 3 * tN q.2.1 0 < 120 by omega)]
    exact z1 (c_note (kk := 3) hR (by omega) (fun D1 o1 R1 => mid o1 R1 (by rw [if_neg c])))
theorem frW_lt {F : Option (Nat × Nat)} : ∀ i, (frW F V P i).2 < 128 := by
  intro i
  induction i with
  | zero => exact Nat.succ_pos _
  | succ i ih =>
    show (frW F V P i).2 ||| 2 ^ min (V (i + 1)) 6 < 2 ^ 7
    exact Nat.or_lt_two_pow ih (Nat.pow_lt_pow_right (by omega) (by omega))
theorem bit_and {n b : Nat} (hn : n < 128) (hb : b < 7) : nI n &&& ((1 : Int32) <<< (nI b &&& 31)) = 0 ↔ n.testBit b = false := by
  rw [yb_1 (by omega), yb_and]
  have h1 : n &&& 2 ^ b ≤ n := Nat.and_le_left
  rw [show (0 : Int32) = nI 0 from rfl, nI_eq (by omega) (by omega)]
  cases hb2 : n.testBit b with
  | false =>
    refine ⟨fun _ => rfl, fun _ => ?_⟩
    apply Nat.eq_of_testBit_eq
    intro i
    rw [Nat.testBit_and, Nat.testBit_two_pow, Nat.zero_testBit]
    by_cases e : b = i
    · rw [← e, hb2]; rfl
    · rw [decide_eq_false e, Bool.and_false]
  | true =>
    refine ⟨fun z => ?_, fun z => by cases z⟩
    have : (n &&& 2 ^ b).testBit b = true := by rw [Nat.testBit_and, hb2, Nat.testBit_two_pow, decide_eq_true rfl]; rfl
    rw [z, Nat.zero_testBit] at this
    cases this
theorem c_tellFrame {Q : xD → Prop} {first : Nat} (hR : rdQ D a 4 q) (hN : nuR D a k V P) (hk : 1 ≤ k) (hk6 : k ≤ 600) (h : ∀ D', rdO D D' a → rdQ D' a 4 (tlFra q first V P k) → Q D') : xCv (d + 5) m_Reader_tellFrame [.ref a, .int (nI first)] D Q := by
  have kb : xk (a + 3) = 3 := ck_6_1 hR.1
  have kf : xk (a + 3 + 14) = 5 := ck_3_5 kb
  have l2 : xl (a + 3 + 14 + 1 + 1) = 10 := cl_5_0 kf
  have l4 : xl (a + 3 + 14 + 3 + 1) = 10 := cl_5_1 kf
  have cl := hR.2.2.2.2.2.2.1
  obtain ⟨f1, f2, f3⟩ := cl.2.2.2.2.2.2 rfl
  have row : ∀ {D' F}, rdQ D' a 4 (F, q.2) → fR D' (a + 3 + 14) q.2.1 := fun {D' F} R => (R.2.2.2.2.2.2.1.2.1 (by omega)).2.2.2.2 rfl
  have hv0 := (hN.2.2 0 (by omega)).2.2.1
  unfold tlFra at h
  -- who is in it
  have who : ∀ F1, F1 = (if tN q.2.1 0 < 10 then q.1 else nt q.1 3 first) → ∀ m i, i + m = k - 1 → ∀ D' (y : Int32), rdO D D' a → rdQ D' a 4 ((frW (chk F1 (V 0) (frA q.2.1) 99 (P 0)) V P i).1, q.2) →
      xPf (d + 4 + 1) m_Reader_tellFrame 59 [(0, .ref a), (1, .int (nI first)), (2, .ref ((a + 3) + 14)), (3, .int y), (4, .int (nI (frW (chk F1 (V 0) (frA q.2.1) 99 (P 0)) V P i).2)), (5, .int (nI (i + 1)))] [] D' (fun r D' => r = none ∧ Q D') := by
    intro F1 eF m
    induction m with
    | zero =>
      intro i hi D' y oD R'
      have ei : i = k - 1 := by omega
      have hN' := hN.out oD.out (show a + 22 ≤ a + 22 ∨ a + 26 ≤ a by omega)
      have kr := row R'
      refine s_Reader_tellFrame_59 hR.1 kf (c_Row_size hN'.1 ⟨fun _ => nu_v (i := 0) hN' (by omega) ?_, fun z => absurd (nI_le (by omega) (by omega)) z⟩)
      refine xCv_of y_Film_push (Nat.le_of_ble_eq_true rfl) (s_Film_push_0 kf ?_)
      subst eF
      rw [ei] at R' ⊢
      by_cases c : tN q.2.1 0 < 10
      · simp only [if_pos c] at h R' ⊢
        refine c_push kr.2.1 (by omega) (fun D1 o1 w1 v1 => c_push (kr.2.2.1.out o1 (by omega)) (by omega) (fun D2 o2 w2 v2 => ⟨trivial, trivial, h D2 (oD.trans ((rdO.of o1 (by omega)).trans (rdO.of o2 (by omega)))) ?_⟩))
        have o12 : xOut (a + 4) (a + 22) D' D2 := (o1.mono (by omega) (by omega)).trans (o2.mono (by omega) (by omega))
        generalize hw : (frW (chk q.1 (V 0) (frA q.2.1) 99 (P 0)) V P (k - 1)).2 = w at v2 ⊢
        have e0 : tN (tSet (tSet (tSet q.2.1 (1 + 2 * tN q.2.1 0) (nI (V 0))) (2 + 2 * tN q.2.1 0) (nI w)) 0 (nI (tN q.2.1 0 + 1))) 0 = tN q.2.1 0 + 1 := by rw [tSet_N, if_pos rfl, nI_clamp (by omega)]
        have at1 : ∀ j, j < tN q.2.1 0 + 1 → (tSet (tSet (tSet q.2.1 (1 + 2 * tN q.2.1 0) (nI (V 0))) (2 + 2 * tN q.2.1 0) (nI w)) 0 (nI (tN q.2.1 0 + 1))) (1 + 2 * j) = if j = tN q.2.1 0 then nI (V 0) else q.2.1 (1 + 2 * j) := fun j hj => by
          rw [tSet_ne (by omega), tSet_ne (by omega), tSet_at]
          by_cases z : j = tN q.2.1 0
          · rw [if_pos (by omega), if_pos z]
          · rw [if_neg (by omega), if_neg z]
        refine rdQ_sheet R' o12 ⟨fun e => by omega, fun _ => ⟨fun e => by omega, fun e => by omega, fun e => by omega, fun e => by omega, fun _ => ⟨kf, by rw [e0]; exact w1.out o2 (by omega), by rw [e0]; exact w2, fun j hj => ⟨?_, ?_⟩⟩⟩, fun e => by omega, fun e => by omega, fun e => by omega, fun e => by omega, fun _ => ⟨by rw [e0, tSet_at, if_pos rfl], by rw [e0]; omega, fun j hj => ?_⟩⟩
        · rw [e0] at hj
          rw [at1 j hj, o2.1 _ (by omega), show a + 3 + 14 + 2 = a + 3 + 14 + 1 + 1 by omega, v1]
          by_cases z : j = tN q.2.1 0
          · rw [if_pos z, if_pos z]
          · rw [if_neg z, if_neg z]; exact (kr.2.2.2 j (by omega)).1
        · rw [e0] at hj
          rw [show a + 3 + 14 + 4 = a + 3 + 14 + 3 + 1 by omega, v2, tSet_ne (by omega), tSet_at]
          by_cases z : j = tN q.2.1 0
          · rw [if_pos z, if_pos (by omega)]
          · rw [if_neg z, if_neg (by omega), tSet_ne (by omega), o1.1 _ (by omega)]; exact (kr.2.2.2 j (by omega)).2
        · rw [e0] at hj
          have ft : fT (tSet (tSet (tSet q.2.1 (1 + 2 * tN q.2.1 0) (nI (V 0))) (2 + 2 * tN q.2.1 0) (nI w)) 0 (nI (tN q.2.1 0 + 1))) j = if j = tN q.2.1 0 then V 0 else fT q.2.1 j := by
            unfold fT
            unfold tN at at1 ⊢
            rw [at1 j hj]
            by_cases z : j = (q.2.1 0).toNatClampNeg
            · rw [if_pos z, if_pos z, nI_clamp (by omega)]
            · rw [if_neg z, if_neg z]
          rw [at1 j hj, ft]
          by_cases z : j = tN q.2.1 0
          · rw [if_pos z, if_pos z]; exact ⟨rfl, hv0⟩
          · rw [if_neg z, if_neg z]; exact f3 j (by omega)
      · simp only [if_neg c] at h R' ⊢
        refine c_pushFull kr.2.1 (by omega) (c_pushFull kr.2.2.1 (by omega) ⟨trivial, trivial, h D' oD R'⟩)
    | succ m ih =>
      intro i hi D' y oD R'
      have hN' := hN.out oD.out (show a + 22 ≤ a + 22 ∨ a + 26 ≤ a by omega)
      have hvi := (hN.2.2 (i + 1) (by omega)).2.2.1
      have hw := frW_lt (V := V) (P := P) (F := chk F1 (V 0) (frA q.2.1) 99 (P 0)) i
      refine s_Reader_tellFrame_59 hR.1 kf (c_Row_size hN'.1 ⟨fun z => absurd z (nI_ge (by omega) (by omega)), fun _ => ?_⟩)
      refine c_check (lo := 0) (hi := 5) R' hN' (by omega) (by omega) (by omega) (fun D1 o1 R1 => ?_)
      have oD1 := oD.trans o1
      have hN1 := hN.out oD1.out (show a + 22 ≤ a + 22 ∨ a + 26 ≤ a by omega)
      refine nu_v hN1 (by omega) (fun r9 e9 => ?_)
      have f9 : r9 = nI (min (V (i + 1)) 6) := by
        rw [e9]
        by_cases z : 6 < V (i + 1)
        · have y : (6 : Int32) < nI (V (i + 1)) := nI_lt (a := 6) z (by omega)
          rw [if_pos y, Nat.min_eq_right (by omega)]; rfl
        · have y : ¬ (6 : Int32) < nI (V (i + 1)) := nI_nlt (a := 6) (b := V (i + 1)) (by omega) (by omega)
          rw [if_neg y, Nat.min_eq_left (by omega)]
      subst f9
      clear e9
      have hb7 : min (V (i + 1)) 6 < 7 := by omega
      have eor : nI (frW (chk F1 (V 0) (frA q.2.1) 99 (P 0)) V P i).2 ||| ((1 : Int32) <<< (nI (min (V (i + 1)) 6) &&& 31)) = nI (frW (chk F1 (V 0) (frA q.2.1) 99 (P 0)) V P (i + 1)).2 := by
        rw [yb_1 (by omega), yb_or]; rfl
      rw [bit_and hw hb7, eor, nI_1 (i + 1)]
      refine ⟨fun z => ?_, fun z => nu_p hN1 (by omega) (c_note (kk := 2) R1 (by omega) (fun D2 o2 R2 => ?_))⟩
      · refine ih (i + 1) (by omega) D1 y oD1 ?_
        have ef : (frW (chk F1 (V 0) (frA q.2.1) 99 (P 0)) V P (i + 1)).1 = chk (frW (chk F1 (V 0) (frA q.2.1) 99 (P 0)) V P i).1 (V (i + 1)) 0 5 (P (i + 1)) := by
          rw [frW]
          exact if_neg (by rw [z]; exact Bool.false_ne_true)
        rw [ef]
        exact R1
      · refine ih (i + 1) (by omega) D2 y (oD1.trans o2) ?_
        have ef : (frW (chk F1 (V 0) (frA q.2.1) 99 (P 0)) V P (i + 1)).1 = nt (chk (frW (chk F1 (V 0) (frA q.2.1) 99 (P 0)) V P i).1 (V (i + 1)) 0 5 (P (i + 1))) 2 (P (i + 1)) := by
          rw [frW]
          refine if_pos ?_
          cases hb : (frW (chk F1 (V 0) (frA q.2.1) 99 (P 0)) V P i).2.testBit (min (V (i + 1)) 6) with
          | true => rfl
          | false => exact absurd hb z
        rw [ef]
        exact R2
  have tail : ∀ F1, F1 = (if tN q.2.1 0 < 10 then q.1 else nt q.1 3 first) → ∀ D1, rdO D D1 a → rdQ D1 a 4 (F1, q.2) → xCi (d + 4) m_Film_frames [.ref ((a + 3) + 14)] D1 (fun r4 D3 => (¬ r4 = 0 → xCi (d + 4) m_Film_frames [.ref ((a + 3) + 14)] D3 (fun r6 D5 => xCi (d + 4) m_Film_tenth [.ref ((a + 3) + 14), .int (r6 - (1 : Int32))] D5 (fun r8 D7 => xCv (d + 4) m_Reader_check [.ref a, .int (0 : Int32), .int (r8 + (1 : Int32)), .int (99 : Int32)] D7 (fun D9 => xPf (d + 4 + 1) m_Reader_tellFrame 59 [(0, .ref a), (1, .int (nI first)), (2, .ref ((a + 3) + 14)), (3, .int r8), (4, .int (0 : Int32)), (5, .int (1 : Int32))] [] D9 (fun r D' => r = none ∧ Q D'))))) ∧ (r4 = 0 → xCv (d + 4) m_Reader_check [.ref a, .int (0 : Int32), .int ((-1 : Int32) + (1 : Int32)), .int (99 : Int32)] D3 (fun D10 => xPf (d + 4 + 1) m_Reader_tellFrame 59 [(0, .ref a), (1, .int (nI first)), (2, .ref ((a + 3) + 14)), (3, .int (-1 : Int32)), (4, .int (0 : Int32)), (5, .int (1 : Int32))] [] D10 (fun r D' => r = none ∧ Q D')))) := by
    intro F1 eF D1 o1 R1
    have hN1 := hN.out o1.out (show a + 22 ≤ a + 22 ∨ a + 26 ≤ a by omega)
    have kr := row R1
    refine c_Film_frames kr ⟨fun c => c_Film_frames kr ?_, fun c => ?_⟩
    · have c1 : tN q.2.1 0 ≠ 0 := fun z => c (by rw [z]; rfl)
      obtain ⟨g1, g2⟩ := f3 (tN q.2.1 0 - 1) (by omega)
      rw [show nI (tN q.2.1 0) - (1 : Int32) = nI (tN q.2.1 0 - 1) from pk_sub (a := tN q.2.1 0) (b := 1) (by omega)]
      refine xCi_of y_Film_tenth (Nat.le_of_ble_eq_true rfl) (s_Film_tenth_0 kf (c_get kr.2.1 (by omega) ⟨_, rfl, ?_⟩))
      rw [show a + 3 + 14 + 1 + 1 = a + 3 + 14 + 2 by omega, (kr.2.2.2 _ (by omega)).1, g1, nI_1]
      have eA : frA q.2.1 = fT q.2.1 (tN q.2.1 0 - 1) + 1 := by unfold frA; rw [if_neg c1]
      rw [← eA]
      exact c_check (i := 0) (hi := 99) R1 hN1 (by omega) (by omega) (by omega) (fun D2 o2 R2 => who F1 eF (k - 1) 0 (by omega) D2 _ (o1.trans o2) R2)
    · have c1 : tN q.2.1 0 = 0 := (nI_eq (b := 0) (by omega) (by omega)).mp c
      have eA : frA q.2.1 = 0 := by unfold frA; rw [if_pos c1]
      have := c_check (d := d + 2) (i := 0) (lo := frA q.2.1) (hi := 99) R1 hN1 (by omega) (by omega) (by omega) (fun D2 o2 R2 => who F1 eF (k - 1) 0 (by omega) D2 (-1) (o1.trans o2) R2)
      rw [eA] at this
      exact this
  refine xCv_of y_Reader_tellFrame (Nat.le_of_ble_eq_true rfl) (s_Reader_tellFrame_0 hR.1 ?_)
  refine xCi_of y_Film_isFull (Nat.le_of_ble_eq_true rfl) (s_Film_isFull_0 kf (c_Row_isFull (row hR).2.1 ?_))
  rw [l2]
  by_cases c : tN q.2.1 0 < 10
  · rw [if_pos c]
    exact ⟨Or.inl rfl, _, rfl, z0 (tail q.1 (by rw [if_pos c]) D rdO.rfl' hR)⟩
  · rw [if_neg c]
    exact ⟨Or.inr rfl, _, rfl, z1 (c_note (kk := 3) hR (by omega) (fun D1 o1 R1 => tail _ (by rw [if_neg c]) D1 o1 R1))⟩
end TELL2
