/-! The reference's queues of cards: seven, 64 places each, round and round. -/
def mLn (D : xD) (q : Nat) (l : List Nat) : Prop :=
  D.1 350 q = nI l.length ∧ l.length ≤ 52 ∧ ∃ h, h < 64 ∧ D.1 349 q = nI h ∧ ∀ i c, l[i]? = some c → c < 13 ∧ D.1 348 (64 * q + (h + i) % 64) = nI c
theorem mLn.fr {D D' : xD} {lo hi f g q : Nat} {l : List Nat} (h : mLn D q l) (o : mF lo hi f g D D') (r : 350 < lo ∨ hi ≤ 348) : mLn D' q l := by
  obtain ⟨h1, h2, p, h3, h4, h5⟩ := h
  exact ⟨by rw [(o.1 350 (by omega) (by omega)).1]; exact h1, h2, p, h3, by rw [(o.1 349 (by omega) (by omega)).1]; exact h4, fun i c hc => ⟨(h5 i c hc).1, by rw [(o.1 348 (by omega) (by omega)).1]; exact (h5 i c hc).2⟩⟩
theorem mLn.mem {D : xD} {q : Nat} {l : List Nat} (h : mLn D q l) {c : Nat} (hc : c ∈ l) : c < 13 := by
  obtain ⟨-, -, p, -, -, h5⟩ := h
  obtain ⟨i, hi⟩ := List.mem_iff_getElem?.mp hc
  exact (h5 i c hi).1
section MLANE
variable {d : Nat} {D : xD} {q : Nat} {l : List Nat}
theorem c_M_push {P : xD → Prop} {c : Nat} (hq : q < 7) (hl : mLn D q l) (hlen : l.length < 52) (hc : c < 13)
    (h : ∀ D', mF 348 351 0 0 D D' → mLn D' q (l ++ [c]) → (∀ q' l', q' < 7 → q' ≠ q → mLn D q' l' → mLn D' q' l') → P D') : xCv (d + 1) m_M_push [.ref 325, .int (nI q), .int (nI c)] D P := by
  have l23 : xl (325 + 23) = 448 := cl_13_43 xk_M
  have l24 : xl (325 + 24) = 7 := cl_13_44 xk_M
  have l25 : xl (325 + 25) = 7 := cl_13_45 xk_M
  obtain ⟨h1, h2, g, h3, h4, h5⟩ := hl
  have e24 : D.1 (325 + 24) q = nI g := h4
  have e25 : D.1 (325 + 25) q = nI l.length := h1
  have i24 : vp_in (nI q) (xl (325 + 24)) := by rw [l24]; exact vp_in_nI hq (by omega)
  have i25 : vp_in (nI q) (xl (325 + 25)) := by rw [l25]; exact vp_in_nI hq (by omega)
  refine xCv_of y_M_push (Nat.le_of_ble_eq_true rfl) (s_M_push_0 xk_M ?_)
  have ei : (64 : Int32) * nI q + (nI g + nI l.length - (nI g + nI l.length) / (64 : Int32) * (64 : Int32)) = nI (64 * q + (g + l.length) % 64) := by
    rw [nI_add, show (64 : Int32) = nI 64 from rfl, pk_rem (by omega) (by omega) (by omega), pk_mul, nI_add]
  rw [nI_clamp (n := q) (by omega), e24, e25, ei, nI_clamp (n := 64 * q + (g + l.length) % 64) (by omega)]
  refine ⟨i24, i25, by rw [l23]; exact vp_in_nI (by omega) (by omega), fun D1 e1 => ⟨i25, i25, fun D2 e2 => ⟨rfl, ?_⟩⟩⟩
  obtain ⟨o1, v1⟩ := ma (by omega) e1
  obtain ⟨o2, v2⟩ := ma (by omega) e2
  have v1' : ∀ j, D1.1 348 j = if j = 64 * q + (g + l.length) % 64 then nI c else D.1 348 j := v1
  have e25' : D1.1 (325 + 25) q = nI l.length := by rw [(o1.1 (325 + 25) (by omega) (by omega)).1]; exact h1
  rw [e25', nI_1] at v2
  have v2' : ∀ j, D2.1 350 j = if j = q then nI (l.length + 1) else D.1 350 j := fun j => by rw [← (o1.1 350 (by omega) (by omega)).1]; exact v2 j
  have v3 : ∀ j, D2.1 349 j = D.1 349 j := fun j => by rw [(o2.1 349 (by omega) (by omega)).1, (o1.1 349 (by omega) (by omega)).1]
  have v4 : ∀ j, D2.1 348 j = if j = 64 * q + (g + l.length) % 64 then nI c else D.1 348 j := fun j => by rw [(o2.1 348 (by omega) (by omega)).1]; exact v1' j
  refine h D2 ((o1.m (by omega) (by omega)).trans (o2.m (by omega) (by omega))) ?_ ?_
  · refine ⟨by rw [v2', if_pos rfl, List.length_append]; rfl, by simp; omega, g, h3, by rw [v3]; exact h4, fun i x hx => ?_⟩
    rw [v4]
    by_cases z : i < l.length
    · rw [List.getElem?_append_left z] at hx
      rw [if_neg (by omega)]
      exact h5 i x hx
    · have hil : i < (l ++ [c]).length := (List.getElem?_eq_some_iff.mp hx).1
      have ei : i = l.length := by simp at hil; omega
      subst ei
      simp at hx
      subst hx
      exact ⟨hc, if_pos rfl⟩
  · intro q' l' hq' hne hl'
    obtain ⟨g1, g2, g', g3, g4, g5⟩ := hl'
    refine ⟨by rw [v2', if_neg hne]; exact g1, g2, g', g3, by rw [v3]; exact g4, fun i x hx => ⟨(g5 i x hx).1, ?_⟩⟩
    rw [v4, if_neg (by omega)]; exact (g5 i x hx).2
theorem c_M_pop {P : Int32 → xD → Prop} {c : Nat} (hq : q < 7) (hl : mLn D q (c :: l))
    (h : ∀ D', mF 348 351 0 0 D D' → mLn D' q l → (∀ q' l', q' < 7 → q' ≠ q → mLn D q' l' → mLn D' q' l') → P (nI c) D') : xCi (d + 1) m_M_pop [.ref 325, .int (nI q)] D P := by
  have l23 : xl (325 + 23) = 448 := cl_13_43 xk_M
  have l24 : xl (325 + 24) = 7 := cl_13_44 xk_M
  have l25 : xl (325 + 25) = 7 := cl_13_45 xk_M
  obtain ⟨h1, h2, g, h3, h4, h5⟩ := hl
  have hlen : l.length + 1 ≤ 52 := h2
  have e24 : D.1 (325 + 24) q = nI g := h4
  have e25 : D.1 (325 + 25) q = nI (l.length + 1) := h1
  have i24 : vp_in (nI q) (xl (325 + 24)) := by rw [l24]; exact vp_in_nI hq (by omega)
  have i25 : vp_in (nI q) (xl (325 + 25)) := by rw [l25]; exact vp_in_nI hq (by omega)
  refine xCi_of y_M_pop (Nat.le_of_ble_eq_true rfl) (s_M_pop_0 xk_M ?_)
  have ei : (64 : Int32) * nI q + nI g = nI (64 * q + g) := by rw [show (64 : Int32) = nI 64 from rfl, pk_mul, nI_add]
  have eg : nI g + (1 : Int32) - (nI g + (1 : Int32)) / (64 : Int32) * (64 : Int32) = nI ((g + 1) % 64) := by
    rw [nI_1, show (64 : Int32) = nI 64 from rfl, pk_rem (by omega) (by omega) (by omega)]
  have h0 := h5 0 c rfl
  have e23 : D.1 (325 + 23) (64 * q + g) = nI c := by
    have := h0.2
    rw [show (g + 0) % 64 = g by omega] at this
    exact this
  rw [nI_clamp (n := q) (by omega), e24, ei, eg, nI_clamp (n := 64 * q + g) (by omega), e23]
  refine ⟨i24, by rw [l23]; exact vp_in_nI (by omega) (by omega), i24, i24, fun D1 e1 => ⟨i25, i25, fun D2 e2 => ⟨_, rfl, ?_⟩⟩⟩
  obtain ⟨o1, v1⟩ := ma (by omega) e1
  obtain ⟨o2, v2⟩ := ma (by omega) e2
  have v1' : ∀ j, D1.1 349 j = if j = q then nI ((g + 1) % 64) else D.1 349 j := v1
  have e25' : D1.1 (325 + 25) q = nI (l.length + 1) := by rw [(o1.1 (325 + 25) (by omega) (by omega)).1]; exact h1
  rw [e25', nI_pred] at v2
  have v2' : ∀ j, D2.1 350 j = if j = q then nI l.length else D.1 350 j := fun j => by rw [← (o1.1 350 (by omega) (by omega)).1]; exact v2 j
  have v3 : ∀ j, D2.1 349 j = if j = q then nI ((g + 1) % 64) else D.1 349 j := fun j => by rw [(o2.1 349 (by omega) (by omega)).1]; exact v1' j
  have v4 : ∀ j, D2.1 348 j = D.1 348 j := fun j => by rw [(o2.1 348 (by omega) (by omega)).1, (o1.1 348 (by omega) (by omega)).1]
  refine h D2 ((o1.m (by omega) (by omega)).trans (o2.m (by omega) (by omega))) ?_ ?_
  · refine ⟨by rw [v2', if_pos rfl], by omega, (g + 1) % 64, Nat.mod_lt _ (by omega), by rw [v3, if_pos rfl], fun i x hx => ?_⟩
    have := h5 (i + 1) x (by simpa using hx)
    rw [v4, show ((g + 1) % 64 + i) % 64 = (g + (i + 1)) % 64 by omega]
    exact this
  · intro q' l' hq' hne hl'
    obtain ⟨g1, g2, g', g3, g4, g5⟩ := hl'
    refine ⟨by rw [v2', if_neg hne]; exact g1, g2, g', g3, by rw [v3, if_neg hne]; exact g4, fun i x hx => ⟨(g5 i x hx).1, ?_⟩⟩
    rw [v4]; exact (g5 i x hx).2
end MLANE
