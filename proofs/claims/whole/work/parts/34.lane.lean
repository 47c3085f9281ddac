/-! Lanes of cards that wait: a Deal at e has seven lanes of 52 places round and round. -/
/-- lane n holds the cards l, the first one leaves first -/
def lnR (D : xD) (e n : Nat) (l : List Nat) : Prop :=
  D.1 (e + 10) n = nI l.length ∧ l.length ≤ 52 ∧ ∃ h, h < 52 ∧ D.1 (e + 8) n = nI h ∧ ∀ i c, l[i]? = some c → c < 13 ∧ D.1 (e + 6) (n * 52 + (h + i) % 52) = nI c
def lnRows (D : xD) (e : Nat) : Prop := xk e = 8 ∧ rS D (e + 5) 364 ∧ rS D (e + 7) 7 ∧ rS D (e + 9) 7
theorem lnR.out {D D' : xD} {lo hi e n : Nat} {l : List Nat} (h : lnR D e n l) (o : xOut lo hi D D') (q : e + 11 ≤ lo ∨ hi ≤ e + 6) : lnR D' e n l := by
  obtain ⟨h1, h2, g, h3, h4, h5⟩ := h
  exact ⟨by rw [o.1 _ (by omega)]; exact h1, h2, g, h3, by rw [o.1 _ (by omega)]; exact h4, fun i c hc => ⟨(h5 i c hc).1, by rw [o.1 _ (by omega)]; exact (h5 i c hc).2⟩⟩
theorem lnRows.out {D D' : xD} {lo hi e : Nat} (h : lnRows D e) (o : xOut lo hi D D') (q : e + 10 ≤ lo ∨ hi ≤ e + 5) : lnRows D' e :=
  ⟨h.1, h.2.1.out o (by omega), h.2.2.1.out o (by omega), h.2.2.2.out o (by omega)⟩
section LANE
variable {d : Nat} {D : xD} {e n : Nat} {l : List Nat}
theorem c_Deal_enter {P : xD → Prop} {c : Nat} (hR : lnRows D e) (hl : lnR D e n l) (hn : n < 7) (hlen : l.length < 52) (hc : c < 13)
    (h : ∀ D', xOut (e + 6) (e + 11) D D' → lnRows D' e → lnR D' e n (l ++ [c]) → (∀ n' l', n' < 7 → n' ≠ n → lnR D e n' l' → lnR D' e n' l') → P D') : xCv (d + 2) m_Deal_enter [.ref e, .int (nI n), .int (nI c)] D P := by
  obtain ⟨k0, r5, r7, r9⟩ := hR
  obtain ⟨h1, h2, g, h3, h4, h5⟩ := hl
  refine xCv_of y_Deal_enter (Nat.le_of_ble_eq_true rfl) (s_Deal_enter_0 k0 ?_)
  refine c_Row_get r7 (c_Row_get r9 ?_)
  rw [rg_in D _ hn (by omega), rg_in D _ hn (by omega), show e + 7 + 1 = e + 8 by omega, show e + 9 + 1 = e + 10 by omega, h4, h1]
  have ei : nI n * (52 : Int32) + (nI g + nI l.length - (nI g + nI l.length) / (52 : Int32) * (52 : Int32)) = nI (n * 52 + (g + l.length) % 52) := by
    rw [nI_add, show (52 : Int32) = nI 52 from rfl, pk_rem (by omega) (by omega) (by omega), pk_mul, nI_add]
  rw [ei]
  have hi : n * 52 + (g + l.length) % 52 < 364 := by omega
  refine c_Row_set r5 ?_
  rw [rset_in _ _ _ hi (by omega), show e + 5 + 1 = e + 6 by omega]
  have o1 : xOut (e + 6) (e + 7) D (xu D.1 (e + 6) (n * 52 + (g + l.length) % 52) (nI c), D.2) := ⟨fun i q => xu_ne _ _ _ (by omega), rfl⟩
  refine c_Row_add (r9.out o1 (by omega)) ⟨rfl, ?_⟩
  rw [radd_in _ _ _ hn (by omega), show e + 9 + 1 = e + 10 by omega]
  have e1 : (xu D.1 (e + 6) (n * 52 + (g + l.length) % 52) (nI c)) (e + 10) n = nI l.length := by rw [xu_ne _ _ _ (by omega)]; exact h1
  have E : ((xu (xu D.1 (e + 6) (n * 52 + (g + l.length) % 52) (nI c)) (e + 10) n ((xu D.1 (e + 6) (n * 52 + (g + l.length) % 52) (nI c)) (e + 10) n + 1), D.2) : xD) = (xu (xu D.1 (e + 6) (n * 52 + (g + l.length) % 52) (nI c)) (e + 10) n (nI (l.length + 1)), D.2) := by rw [e1, nI_1]
  show P (xu (xu D.1 (e + 6) (n * 52 + (g + l.length) % 52) (nI c)) (e + 10) n ((xu D.1 (e + 6) (n * 52 + (g + l.length) % 52) (nI c)) (e + 10) n + 1), D.2)
  rw [E]
  have o2 : xOut (e + 6) (e + 11) D (xu (xu D.1 (e + 6) (n * 52 + (g + l.length) % 52) (nI c)) (e + 10) n (nI (l.length + 1)), D.2) := ⟨fun i q => by show xu _ _ _ _ i = _; rw [xu_ne _ _ _ (by omega), xu_ne _ _ _ (by omega)], rfl⟩
  have v10 : ∀ j, (xu (xu D.1 (e + 6) (n * 52 + (g + l.length) % 52) (nI c)) (e + 10) n (nI (l.length + 1))) (e + 10) j = if j = n then nI (l.length + 1) else D.1 (e + 10) j := fun j => by
    rw [xu_self]; unfold upd; rw [xu_ne _ _ _ (by omega)]
  have v8 : (xu (xu D.1 (e + 6) (n * 52 + (g + l.length) % 52) (nI c)) (e + 10) n (nI (l.length + 1))) (e + 8) = D.1 (e + 8) := by rw [xu_ne _ _ _ (by omega), xu_ne _ _ _ (by omega)]
  have v6 : ∀ j, (xu (xu D.1 (e + 6) (n * 52 + (g + l.length) % 52) (nI c)) (e + 10) n (nI (l.length + 1))) (e + 6) j = if j = n * 52 + (g + l.length) % 52 then nI c else D.1 (e + 6) j := fun j => by
    rw [xu_ne _ _ _ (by omega), xu_self]; rfl
  refine h _ o2 ⟨k0, r5.out o2 (by omega), rS_of r7 (by show xu _ _ _ _ (e + 7) 1 = _; rw [xu_ne _ _ _ (by omega), xu_ne _ _ _ (by omega)]), rS_of r9 (by show xu _ _ _ _ (e + 9) 1 = _; rw [xu_ne _ _ _ (by omega), xu_ne _ _ _ (by omega)])⟩ ?_ ?_
  · refine ⟨?_, by simp; omega, g, h3, ?_, fun i x hx => ?_⟩
    · show (xu _ _ _ _ : Nat → Nat → Int32) (e + 10) n = _
      rw [v10, if_pos rfl]; simp
    · show (xu _ _ _ _ : Nat → Nat → Int32) (e + 8) n = _
      rw [v8]; exact h4
    · show _ ∧ (xu _ _ _ _ : Nat → Nat → Int32) (e + 6) _ = _
      rw [v6]
      by_cases q : i < l.length
      · rw [List.getElem?_append_left q] at hx
        rw [if_neg (by omega)]
        exact h5 i x hx
      · have hil : i < (l ++ [c]).length := (List.getElem?_eq_some_iff.mp hx).1
        have ei : i = l.length := by simp at hil; omega
        subst ei
        simp at hx
        subst hx
        exact ⟨hc, if_pos rfl⟩
  · intro n' l' hn' hne hl'
    obtain ⟨g1, g2, g', g3, g4, g5⟩ := hl'
    refine ⟨?_, g2, g', g3, ?_, fun i x hx => ⟨(g5 i x hx).1, ?_⟩⟩
    · show (xu _ _ _ _ : Nat → Nat → Int32) (e + 10) n' = _
      rw [v10, if_neg hne]; exact g1
    · show (xu _ _ _ _ : Nat → Nat → Int32) (e + 8) n' = _
      rw [v8]; exact g4
    · show (xu _ _ _ _ : Nat → Nat → Int32) (e + 6) _ = _
      rw [v6, if_neg (by omega)]; exact (g5 i x hx).2
theorem c_Deal_leave0 {P : Int32 → xD → Prop} (hR : lnRows D e) (hl : lnR D e n []) (hn : n < 7) (h : P (-1) D) : xCi (d + 2) m_Deal_leave [.ref e, .int (nI n)] D P := by
  obtain ⟨k0, r5, r7, r9⟩ := hR
  refine xCi_of y_Deal_leave (Nat.le_of_ble_eq_true rfl) (s_Deal_leave_0 k0 ?_)
  refine c_Row_get r9 ?_
  rw [rg_in D _ hn (by omega), show e + 9 + 1 = e + 10 by omega, hl.1]
  exact ⟨fun c => absurd rfl c, fun _ => ⟨_, rfl, h⟩⟩
theorem c_Deal_leave {P : Int32 → xD → Prop} {c : Nat} (hR : lnRows D e) (hl : lnR D e n (c :: l)) (hn : n < 7)
    (h : ∀ D', xOut (e + 6) (e + 11) D D' → lnRows D' e → lnR D' e n l → (∀ n' l', n' < 7 → n' ≠ n → lnR D e n' l' → lnR D' e n' l') → P (nI c) D') : xCi (d + 2) m_Deal_leave [.ref e, .int (nI n)] D P := by
  obtain ⟨k0, r5, r7, r9⟩ := hR
  obtain ⟨h1, h2, g, h3, h4, h5⟩ := hl
  have hlen : l.length + 1 ≤ 52 := by simpa using h2
  refine xCi_of y_Deal_leave (Nat.le_of_ble_eq_true rfl) (s_Deal_leave_0 k0 ?_)
  refine c_Row_get r9 ?_
  rw [rg_in D _ hn (by omega), show e + 9 + 1 = e + 10 by omega, h1]
  refine ⟨fun _ => ?_, fun q => absurd q (nI_ne0 (by simp) (by simp; omega))⟩
  refine c_Row_get r7 ?_
  rw [rg_in D _ hn (by omega), show e + 7 + 1 = e + 8 by omega, h4]
  have ei : nI g + (1 : Int32) - (nI g + (1 : Int32)) / (52 : Int32) * (52 : Int32) = nI ((g + 1) % 52) := by
    rw [nI_1, show (52 : Int32) = nI 52 from rfl, pk_rem (by omega) (by omega) (by omega)]
  rw [ei]
  refine c_Row_set r7 ?_
  rw [rset_in _ _ _ hn (by omega), show e + 7 + 1 = e + 8 by omega]
  have o1 : xOut (e + 8) (e + 9) D (xu D.1 (e + 8) n (nI ((g + 1) % 52)), D.2) := ⟨fun i q => xu_ne _ _ _ (by omega), rfl⟩
  refine c_Row_add (r9.out o1 (by omega)) ?_
  rw [radd_in _ _ _ hn (by omega), show e + 9 + 1 = e + 10 by omega]
  have E : ((xu (xu D.1 (e + 8) n (nI ((g + 1) % 52))) (e + 10) n ((xu D.1 (e + 8) n (nI ((g + 1) % 52))) (e + 10) n + -1), D.2) : xD) = (xu (xu D.1 (e + 8) n (nI ((g + 1) % 52))) (e + 10) n (nI l.length), D.2) := by
    rw [show (xu D.1 (e + 8) n (nI ((g + 1) % 52))) (e + 10) n = nI (l.length + 1) from by rw [xu_ne _ _ _ (by omega), h1]; rfl, pk_m1]
  show xCi (d + 1) m_Row_get _ (xu (xu D.1 (e + 8) n (nI ((g + 1) % 52))) (e + 10) n ((xu D.1 (e + 8) n (nI ((g + 1) % 52))) (e + 10) n + -1), D.2) _
  rw [E]
  have o2 : xOut (e + 6) (e + 11) D (xu (xu D.1 (e + 8) n (nI ((g + 1) % 52))) (e + 10) n (nI l.length), D.2) := ⟨fun i q => by show xu _ _ _ _ i = _; rw [xu_ne _ _ _ (by omega), xu_ne _ _ _ (by omega)], rfl⟩
  have v10 : ∀ j, (xu (xu D.1 (e + 8) n (nI ((g + 1) % 52))) (e + 10) n (nI l.length)) (e + 10) j = if j = n then nI l.length else D.1 (e + 10) j := fun j => by
    rw [xu_self]; unfold upd; rw [xu_ne _ _ _ (by omega)]
  have v6 : (xu (xu D.1 (e + 8) n (nI ((g + 1) % 52))) (e + 10) n (nI l.length)) (e + 6) = D.1 (e + 6) := by rw [xu_ne _ _ _ (by omega), xu_ne _ _ _ (by omega)]
  have v8 : ∀ j, (xu (xu D.1 (e + 8) n (nI ((g + 1) % 52))) (e + 10) n (nI l.length)) (e + 8) j = if j = n then nI ((g + 1) % 52) else D.1 (e + 8) j := fun j => by
    rw [xu_ne _ _ _ (by omega), xu_self]; rfl
  have ej : nI n * (52 : Int32) + nI g = nI (n * 52 + g) := by rw [show (52 : Int32) = nI 52 from rfl, pk_mul, nI_add]
  rw [ej]
  refine c_Row_get (r5.out o2 (by omega)) ⟨_, rfl, ?_⟩
  have hc0 := h5 0 c rfl
  rw [rg_in _ _ (show n * 52 + g < 364 by omega) (by omega), show e + 5 + 1 = e + 6 by omega]
  show P ((xu (xu D.1 (e + 8) n (nI ((g + 1) % 52))) (e + 10) n (nI l.length)) (e + 6) (n * 52 + g)) _
  rw [v6, show n * 52 + g = n * 52 + (g + 0) % 52 by omega, hc0.2]
  refine h _ o2 ⟨k0, r5.out o2 (by omega), rS_of r7 (by show xu _ _ _ _ (e + 7) 1 = _; rw [xu_ne _ _ _ (by omega), xu_ne _ _ _ (by omega)]), rS_of r9 (by show xu _ _ _ _ (e + 9) 1 = _; rw [xu_ne _ _ _ (by omega), xu_ne _ _ _ (by omega)])⟩ ?_ ?_
  · refine ⟨?_, by omega, (g + 1) % 52, Nat.mod_lt _ (by omega), ?_, fun i x hx => ?_⟩
    · show (xu _ _ _ _ : Nat → Nat → Int32) (e + 10) n = _
      rw [v10, if_pos rfl]
    · show (xu _ _ _ _ : Nat → Nat → Int32) (e + 8) n = _
      rw [v8, if_pos rfl]
    · have := h5 (i + 1) x (by simpa using hx)
      refine ⟨this.1, ?_⟩
      show (xu _ _ _ _ : Nat → Nat → Int32) (e + 6) _ = _
      rw [v6, show ((g + 1) % 52 + i) % 52 = (g + (i + 1)) % 52 by omega]
      exact this.2
  · intro n' l' hn' hne hl'
    obtain ⟨g1, g2, g', g3, g4, g5⟩ := hl'
    refine ⟨?_, g2, g', g3, ?_, fun i x hx => ⟨(g5 i x hx).1, ?_⟩⟩
    · show (xu _ _ _ _ : Nat → Nat → Int32) (e + 10) n' = _
      rw [v10, if_neg hne]; exact g1
    · show (xu _ _ _ _ : Nat → Nat → Int32) (e + 8) n' = _
      rw [v8, if_neg hne]; exact g4
    · show (xu _ _ _ _ : Nat → Nat → Int32) (e + 6) _ = _
      rw [v6]; exact (g5 i x hx).2
end LANE
