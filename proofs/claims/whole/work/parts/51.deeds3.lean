/-! Deeds: what is asked of a state. -/
theorem bAns_neg {N : Nat} {s : bS} {x : Int32} (h : x < 0) : bAns N s x = -2 := if_pos h
theorem bAns_nI {N w : Nat} {s : bS} (h : w < 2 ^ 31) : bAns N s (nI w) = if w = 0 then nI s.2.2.2.1 else if w = 1 then nI s.2.1.length else if w = 2 then oI s.2.2.2.2.2
  else if w = 3 then nI (s.1.2.2 N).length else if w = 4 then nI (s.1.2.2 0).length else if w = 5 then nI s.2.2.2.2.1
  else if 10 ≤ w ∧ w < 10 + s.2.1.length then nI (s.2.1.getD (w - 10) 0)
  else if 20 ≤ w ∧ w < 20 + N then nI (s.2.2.1 (w - 20))
  else if 30 ≤ w ∧ w < 30 + N then nI (s.1.2.2 (w - 30)).length else -2 := by
  unfold bAns
  rw [if_neg (nI_pos h), nI_clamp h]
section DEEDS3
variable {d : Nat} {D : xD} {e N A K n : Nat} {s : bS}
theorem c_Deeds_answerOf {P : Int32 → xD → Prop} {w : Nat} (hB : bR D e N A K s) (hN : N ≤ 6) (hl : s.2.1.length < 10) (hw : w < 2 ^ 31) (h5 : 5 < w) (h : P (bAns N s (nI w)) D) : xCi (d + 3) m_Deeds_answerOf [.ref e, .int (nI w)] D P := by
  obtain ⟨k0, a2, a3, a4, a5, a6, a7, a8, a9, a10, a11⟩ := hB
  rw [bAns_nI hw, if_neg (by omega), if_neg (by omega), if_neg (by omega), if_neg (by omega), if_neg (by omega), if_neg (by omega)] at h
  refine xCi_of y_Deeds_answerOf (Nat.le_of_ble_eq_true rfl) (s_Deeds_answerOf_0 k0 ?_)
  rw [a7, show (10 : Int32) = nI 10 from rfl, show (20 : Int32) = nI 20 from rfl, show (30 : Int32) = nI 30 from rfl, nI_add, nI_add]
  have T30 : ¬ (10 ≤ w ∧ w < 10 + s.2.1.length) → ¬ (20 ≤ w ∧ w < 20 + N) → (nI w < nI 30 → ∃ x, some (Value.int (-2 : Int32)) = some (.int x) ∧ P x D) ∧ (¬ nI w < nI 30 → (nI (30 + N) ≤ nI w → ∃ x, some (Value.int (-2 : Int32)) = some (.int x) ∧ P x D) ∧ (¬ nI (30 + N) ≤ nI w → xCi (d + 2) m_Deal_waitsFor [.ref (e + 1), .int (nI w - nI 30)] D (fun r2 D1 => ∃ x, some (Value.int r2) = some (.int x) ∧ P x D1))) := by
    intro q1 q2
    rw [if_neg q1, if_neg q2] at h
    refine ⟨fun c => ⟨_, rfl, ?_⟩, fun c => ⟨fun c1 => ⟨_, rfl, ?_⟩, fun c1 => ?_⟩⟩
    · have := (nI_ltI hw (by omega)).mp c
      rw [if_neg (by omega)] at h; exact h
    · have := (nI_leI (by omega) hw).mp c1
      rw [if_neg (by omega)] at h; exact h
    · have z1 : 30 ≤ w := Nat.le_of_not_lt (fun z => c (nI_lt z (by omega)))
      have z2 : w < 30 + N := Nat.lt_of_not_le (fun z => c1 (nI_le z hw))
      rw [if_pos ⟨z1, z2⟩] at h
      rw [pk_sub z1]
      exact c_Deal_waitsFor a2 hN (by omega) ⟨_, rfl, h⟩
  have T20 : ¬ (10 ≤ w ∧ w < 10 + s.2.1.length) → (nI w < nI 20 → (nI w < nI 30 → ∃ x, some (Value.int (-2 : Int32)) = some (.int x) ∧ P x D) ∧ (¬ nI w < nI 30 → (nI (30 + N) ≤ nI w → ∃ x, some (Value.int (-2 : Int32)) = some (.int x) ∧ P x D) ∧ (¬ nI (30 + N) ≤ nI w → xCi (d + 2) m_Deal_waitsFor [.ref (e + 1), .int (nI w - nI 30)] D (fun r2 D1 => ∃ x, some (Value.int r2) = some (.int x) ∧ P x D1)))) ∧
      (¬ nI w < nI 20 → (nI (20 + N) ≤ nI w → (nI w < nI 30 → ∃ x, some (Value.int (-2 : Int32)) = some (.int x) ∧ P x D) ∧ (¬ nI w < nI 30 → (nI (30 + N) ≤ nI w → ∃ x, some (Value.int (-2 : Int32)) = some (.int x) ∧ P x D) ∧ (¬ nI (30 + N) ≤ nI w → xCi (d + 2) m_Deal_waitsFor [.ref (e + 1), .int (nI w - nI 30)] D (fun r2 D1 => ∃ x, some (Value.int r2) = some (.int x) ∧ P x D1)))) ∧ (¬ nI (20 + N) ≤ nI w → xCi (d + 2) m_Row_get [.ref (e + 14), .int (nI w - nI 20)] D (fun r6 D5 => ∃ x, some (Value.int r6) = some (.int x) ∧ P x D5))) := by
    intro q1
    refine ⟨fun c => T30 q1 (fun z => ?_), fun c => ⟨fun c1 => T30 q1 (fun z => ?_), fun c1 => ?_⟩⟩
    · have := (nI_ltI hw (by omega)).mp c; omega
    · have := (nI_leI (by omega) hw).mp c1; omega
    · have z1 : 20 ≤ w := Nat.le_of_not_lt (fun z => c (nI_lt z (by omega)))
      have z2 : w < 20 + N := Nat.lt_of_not_le (fun z => c1 (nI_le z hw))
      rw [if_neg q1, if_pos ⟨z1, z2⟩] at h
      rw [pk_sub z1]
      refine c_Row_get a5 ⟨_, rfl, ?_⟩
      rw [rg_in D _ (show w - 20 < N by omega) (by omega), show e + 14 + 1 = e + 15 by omega, a6 _ (by omega)]
      exact h
  refine ⟨fun c => T20 (fun z => ?_), fun c => ?_⟩
  · have := (nI_ltI hw (by omega)).mp c; omega
  · refine c_Row_size a3 ?_
    rw [a7, nI_add, nI_add, nI_add]
    have z1 : 10 ≤ w := Nat.le_of_not_lt (fun z => c (nI_lt z (by omega)))
    refine ⟨fun c1 => T20 (fun z => ?_), fun c1 => ?_⟩
    · have := (nI_leI (by omega) hw).mp c1; omega
    · have z2 : w < 10 + s.2.1.length := Nat.lt_of_not_le (fun z => c1 (nI_le z hw))
      rw [if_pos ⟨z1, z2⟩] at h
      rw [pk_sub z1]
      have hg : s.2.1[w - 10]? = some (s.2.1.getD (w - 10) 0) := by
        rw [List.getD_eq_getElem?_getD, List.getElem?_eq_getElem (show w - 10 < s.2.1.length by omega)]; rfl
      refine c_Row_get a3 ⟨_, rfl, ?_⟩
      rw [rg_in D _ (show w - 10 < s.2.1.length by omega) (by omega), show e + 12 + 1 = e + 13 by omega, a4 _ _ hg]
      exact h
theorem c_Deeds_answerOf_neg {P : Int32 → xD → Prop} {x : Int32} (hB : bR D e N A K s) (hx : x < 0) (h : P (-2) D) : xCi (d + 3) m_Deeds_answerOf [.ref e, .int x] D P := by
  refine xCi_of y_Deeds_answerOf (Nat.le_of_ble_eq_true rfl) (s_Deeds_answerOf_0 hB.1 ⟨fun _ => ⟨fun _ => ⟨fun _ => ⟨_, rfl, h⟩, fun c => absurd (neg_lt hx (k := 30) (by omega)) c⟩, fun c => absurd (neg_lt hx (k := 20) (by omega)) c⟩, fun c => absurd (neg_lt hx (k := 10) (by omega)) c⟩)
theorem c_Deeds_answer {P : Int32 → xD → Prop} {x : Int32} (hB : bR D e N A K s) (hN : N ≤ 6) (hl : s.2.1.length < 10) (h : P (bAns N s x) D) : xCi (d + 4) m_Deeds_answer [.ref e, .int x] D P := by
  have hB0 := hB
  obtain ⟨k0, a2, a3, a4, a5, a6, a7, a8, a9, a10, a11⟩ := hB
  refine xCi_of y_Deeds_answer (Nat.le_of_ble_eq_true rfl) (s_Deeds_answer_0 k0 ?_)
  by_cases hx : x < 0
  · rw [bAns_neg hx] at h
    exact ⟨fun c => absurd c (neg_ne hx (k := 0) (by omega)), fun c => absurd c (neg_ne hx (k := 1) (by omega)), fun c => absurd c (neg_ne hx (k := 2) (by omega)), fun c => absurd c (neg_ne hx (k := 3) (by omega)), fun c => absurd c (neg_ne hx (k := 4) (by omega)), fun c => absurd c (neg_ne hx (k := 5) (by omega)), fun _ => c_Deeds_answerOf_neg hB0 hx ⟨_, rfl, h⟩⟩
  · obtain ⟨w, hw, rfl⟩ := nI_of hx
    have inj : ∀ v : Nat, v < 10 → nI w = nI v → w = v := fun v hv q => (nI_eq (by omega) (by omega)).mp q
    have hh := h
    rw [bAns_nI hw] at h
    refine ⟨fun c => ⟨_, rfl, ?_⟩, fun c => ?_, fun c => ⟨_, rfl, ?_⟩, fun c => ?_, fun c => ?_, fun c => ⟨_, rfl, ?_⟩, fun c => ?_⟩
    · rw [if_pos (inj 0 (by omega) c)] at h; rw [a9]; exact h
    · have q := inj 1 (by omega) c
      rw [if_neg (by omega), if_pos q] at h
      exact c_Row_size a3 ⟨_, rfl, h⟩
    · have q := inj 2 (by omega) c
      rw [if_neg (by omega), if_neg (by omega), if_pos q] at h
      rw [a11]; exact h
    · have q := inj 3 (by omega) c
      rw [if_neg (by omega), if_neg (by omega), if_neg (by omega), if_pos q] at h
      exact c_Deal_away a2 hN ⟨_, rfl, h⟩
    · have q := inj 4 (by omega) c
      rw [if_neg (by omega), if_neg (by omega), if_neg (by omega), if_neg (by omega), if_pos q] at h
      exact c_Deal_waitsFor (p := 0) a2 hN (by omega) ⟨_, rfl, h⟩
    · have q := inj 5 (by omega) c
      rw [if_neg (by omega), if_neg (by omega), if_neg (by omega), if_neg (by omega), if_neg (by omega), if_pos q] at h
      rw [a10]; exact h
    · rw [nI_toInt hw] at c
      exact c_Deeds_answerOf hB0 hN hl hw (by omega) ⟨_, rfl, hh⟩
end DEEDS3
