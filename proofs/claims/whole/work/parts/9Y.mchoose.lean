/-! The reference: odds of what comes, what a neighbour keeps, how soon. -/
section MCHOOSE
variable {d : Nat} {D : xD} {g : gS}
theorem c_M_choose {P : Int64 → xD → Prop} {n k : Nat} (hn : n ≤ 52) (hk : k ≤ 6) (h : P (lN (bn n k)) D) : xCl (d + 1) m_M_choose [.int (nI n), .int (nI k)] D P := by
  have zero : ∀ x, xPf (d + 1) m_M_choose 18 [(0, .int (nI n)), (1, .int (nI k)), (2, .long (lN 0)), (4, .int (nI x))] [] D (fun r D' => (∃ v, r = some (.long v) ∧ P v D')) ∨ bn n k ≠ 0 := by
    intro x
    by_cases z : bn n k = 0
    · rw [z] at h
      exact Or.inl (s_M_choose_18 ⟨fun _ => ⟨_, rfl, h⟩, fun _ => ⟨fun _ => ⟨_, rfl, h⟩, fun y => absurd ((lg_cmp_le _ _).mpr (Int64.le_refl _)) y⟩⟩)
    · exact Or.inr z
  have key : k ≤ n → ∀ m i, i + m = k → xPf (d + 1) m_M_choose 18 [(0, .int (nI n)), (1, .int (nI k)), (2, .long (lN (bn n i))), (4, .int (nI i))] [] D (fun r D' => ∃ v, r = some (.long v) ∧ P v D') := by
    intro hkn m
    induction m with
    | zero =>
      intro i hi
      have ei : i = k := by omega
      subst ei
      exact s_M_choose_18 ⟨fun _ => ⟨_, rfl, h⟩, fun z => absurd (nI_le (by omega) (by omega)) z⟩
    | succ m ih =>
      intro i hi
      have nx := ih (i + 1) (by omega)
      have hb := bn_pow n i
      have hb2 : n ^ i ≤ 52 ^ 6 := Nat.le_trans (Nat.pow_le_pow_left hn i) (Nat.pow_le_pow_right (by omega) (by omega))
      have hp := bn_pos (n := n) (k := i) (by omega)
      have hnx := bn_next n i
      have hb3 : bn n i * (n - i) ≤ 52 ^ 6 * 52 := Nat.mul_le_mul (by omega) (by omega)
      refine s_M_choose_18 ⟨fun z => absurd z (nI_ge (by omega) (by omega)), fun _ => ⟨fun z => ?_, fun _ => ⟨?_, ?_⟩⟩⟩
      · have z2 : lN (bn n i) ≤ lN 0 := (lg_cmp_le _ _).mp z
        have := (pk_lLE (by omega) (by omega)).mp z2
        omega
      · rw [nI_1, nI_l (by omega)]
        exact fun z => by
          have := (pk_lEQ (a := i + 1) (b := 0) (by omega) (by omega)).mp z
          omega
      · rw [nI_1, pk_sub (show i ≤ n by omega), nI_l (show n - i < 2 ^ 31 by omega), nI_l (show i + 1 < 2 ^ 31 by omega), lN_mul, pk_lDiv (by omega) (by omega) (by omega), ← hnx, Nat.mul_div_cancel _ (by omega)]
        exact nx
  refine xCl_of y_M_choose (Nat.le_of_ble_eq_true rfl) (s_M_choose_0 ⟨fun c => ?_, fun c => ⟨fun _ => ?_, fun z => absurd (nI_le (a := 0) (Nat.zero_le _) (by omega)) z⟩⟩)
  · have := (nI_ltI (by omega) (by omega)).mp c
    rcases zero 0 with z | z
    · exact z
    · exact absurd (bn_gt this) z
  · have hkn : k ≤ n := Nat.le_of_not_lt (fun z => c (nI_lt z (by omega)))
    have := key hkn k 0 (by omega)
    rw [bn_0] at this
    exact this
theorem c_M_drawnWith {P : Int64 → xD → Prop} {h u : Nat → Nat} {N k n l : Nat} (X : mHf D h u N) (hk : k < 13) (hn : n ≤ 6) (hl : l ≤ 6) (hu : u k ≤ N) (hN : N ≤ 52) (fin : P (lN (chW (u k) (N - u k) n l (n + 1 - l))) D) : xCl (d + 2) m_M_drawnWith [.ref 325, .int (nI k), .int (nI n), .int (nI l)] D P := by
  have l34 : xl (325 + 34) = 13 := cl_13_67 xk_M
  have i34 : vp_in (nI k) (xl (325 + 34)) := by rw [l34]; exact vp_in_nI hk (by omega)
  refine xCl_of y_M_drawnWith (Nat.le_of_ble_eq_true rfl) (s_M_drawnWith_0 xk_M (c_M_greater ?_))
  rw [if_pos (show (0 : Int32) ≤ nI l from nI_le (a := 0) (Nat.zero_le _) (by omega))]
  have key : ∀ m i, i + m = n + 1 - l → xPf (d + 2) m_M_drawnWith 10 [(0, .ref 325), (1, .int (nI k)), (2, .int (nI n)), (3, .int (nI l)), (4, .long (lN (chW (u k) (N - u k) n l i))), (6, .int (nI (l + i)))] [] D (fun r D' => ∃ v, r = some (.long v) ∧ P v D') := by
    intro m
    induction m with
    | zero =>
      intro i hi
      refine s_M_drawnWith_10 xk_M ⟨fun _ => ⟨_, rfl, by rw [show i = n + 1 - l by omega]; exact fin⟩, fun q => absurd (nI_lt (by omega) (by omega)) q⟩
    | succ m ih =>
      intro i hi
      refine s_M_drawnWith_10 xk_M ⟨fun q => absurd q (nI_nlt (by omega) (by omega)), fun _ => ⟨i34, ?_⟩⟩
      rw [nI_clamp (n := k) (by omega), show D.1 (325 + 34) k = nI (u k) from X.2.1 k hk]
      refine c_M_choose (by omega) (by omega) ⟨i34, ?_⟩
      rw [show D.1 (325 + 34) k = nI (u k) from X.2.1 k hk, X.2.2, pk_sub hu, pk_sub (show l + i ≤ n by omega)]
      refine c_M_choose (by omega) (by omega) ?_
      rw [lN_mul, lN_add, nI_1 (l + i)]
      exact ih (i + 1) (by omega)
  exact key (n + 1 - l) 0 (by omega)
theorem hOf_const {α : Type} {z : α} {σ : sT} {t h : Int32} {f : (Nat → Int32) → (Nat → Int32) → α} (q : ∀ τ η, f τ η = z) : hOf z σ t h f = z := by
  cases h1 : txO σ 0 t with
  | none => exact hOf_n (Or.inl h1)
  | some τ =>
    cases h2 : txO σ 3 h with
    | none => exact hOf_n (Or.inr h2)
    | some η =>
      by_cases q2 : fitHd τ η
      · rw [hOf_t h1 h2 q2]; exact q τ η
      · exact hOf_f h1 h2 q2
theorem hOf_no {α : Type} {z : α} {σ : sT} {t h : Int32} {f : (Nat → Int32) → (Nat → Int32) → α} (q : txO σ 0 t = none ∨ txO σ 3 h = none ∨ ∃ τ η, txO σ 0 t = some τ ∧ txO σ 3 h = some η ∧ ¬ fitHd τ η) : hOf z σ t h f = z := by
  rcases q with q | q | ⟨τ, η, q1, q2, q3⟩
  · exact hOf_n (Or.inl q)
  · exact hOf_n (Or.inr q)
  · exact hOf_f q1 q2 q3
theorem c_M_alone {P : Int64 → xD → Prop} {x y k n u : Int32} (hI : mI D g) (h : ∀ D', mO D D' → P (aAlone g.1 x y k n u) D') : xCl (d + 40) m_M_alone [.ref 325, .int x, .int y, .int k, .int n, .int u] D P := by
  have l33 : xl (325 + 33) = 13 := cl_13_66 xk_M
  refine xCl_of y_M_alone (Nat.le_of_ble_eq_true rfl) (s_M_alone_0 xk_M (fun D1 e1 => ?_))
  obtain ⟨o1, I1⟩ := m_0 hI e1
  unfold aAlone at h
  refine c_M_in0 7 (by omega) (by decide) (fun q => z0 ⟨_, rfl, ?_⟩) (fun m q hm en => z1 ?_)
  · have := h D1 o1
    rw [hOf_const (fun τ η => by unfold mOf; rw [q])] at this
    exact this
  refine c_M_fitsHand I1 (fun q1 D2 o2 => z0 ⟨_, rfl, ?_⟩) (fun τ η q1 q2 hT hO hf D2 o2 H2 X I2 => z1 ?_)
  · have := h D2 (o1.trans o2)
    rw [hOf_no q1] at this
    exact this
  have o12 := o1.trans o2
  have hz := h D2 o12
  rw [hOf_t q1 q2 hf] at hz
  have bK := hT.2.1
  have bA := hT.2.2.2.1
  have h52 := hN_le (η := η) hT
  have e27 : D2.1 325 27 = nI (tN τ 0) := by rw [H2.2.1]; exact hT.1 0 (by omega)
  have e29 : D2.1 325 29 = nI (tN τ 2) := by rw [H2.2.2.2.1]; exact hT.1 2 (by omega)
  refine c_M_isKind e27 (by omega) (fun q3 => z0 ⟨_, rfl, ?_⟩) (fun i q3 hi ek => z1 ?_)
  · unfold mOf at hz
    simp only [q, q3] at hz
    split at hz
    · exact hz
    · exact hz
  rw [X.2.2, en]
  refine ⟨fun c => ?_, fun c => ⟨_, rfl, ?_⟩⟩
  · have hmN := (nI_leI (by omega) (by omega)).mp c
    rw [en, mOf_s (by omega) hmN] at hz
    simp only [q3] at hz
    have hh1 := hh_le hf i
    have hu1 := hu_hN hT hO hf (k := i) (by omega)
    rw [ek, nI_clamp (n := i) (by omega), show D2.1 (325 + 33) i = nI (hh η i) from X.1 i (by omega), e29, pk_sub hh1]
    refine ⟨by rw [l33]; exact vp_in_nI (by omega) (by omega), c_M_drawnWith X (by omega) (by omega) (by omega) hu1 h52 ?_⟩
    rw [X.2.2]
    refine c_M_choose h52 (by omega) ?_
    have c48 := chW_48 (a := hu τ η i) (b := hN τ η - hu τ η i) (n := m) (l := tN τ 2 - hh η i) (by omega) (by omega) (by omega)
    have b48 := bn_48 h52 (show m ≤ 6 by omega)
    exact c_M_least (by omega) (by omega) (Or.inr (bn_pos hmN)) ⟨_, rfl, hz⟩
  · rw [en, mOf_n h52 (fun ⟨m', a, b, e⟩ => c (by rw [e]; exact nI_le b (by omega)))] at hz
    exact hz
theorem c_M_keeps {P : Int64 → xD → Prop} {x y k j u : Int32} (hI : mI D g) (h : ∀ D', mO D D' → P (aKeeps g.1 x y k j u) D') : xCl (d + 40) m_M_keeps [.ref 325, .int x, .int y, .int k, .int j, .int u] D P := by
  refine xCl_of y_M_keeps (Nat.le_of_ble_eq_true rfl) (s_M_keeps_0 xk_M (fun D1 e1 => ?_))
  obtain ⟨o1, I1⟩ := m_0 hI e1
  unfold aKeeps at h
  refine c_M_in0 5 (by omega) (by decide) (fun q => z0 ⟨_, rfl, ?_⟩) (fun m q hm en => z1 ?_)
  · have := h D1 o1
    rw [hOf_const (fun τ η => by
      cases slotOf (tN τ 0) k with
      | none => rfl
      | some i => simp only [q])] at this
    exact this
  refine c_M_fitsHand I1 (fun q1 D2 o2 => z0 ⟨_, rfl, ?_⟩) (fun τ η q1 q2 hT hO hf D2 o2 H2 X I2 => z1 ?_)
  · have := h D2 (o1.trans o2)
    rw [hOf_no q1] at this
    exact this
  have hz := h D2 (o1.trans o2)
  rw [hOf_t q1 q2 hf] at hz
  have bK := hT.2.1
  have bA := hT.2.2.2.1
  have h52 := hN_le (η := η) hT
  have e27 : D2.1 325 27 = nI (tN τ 0) := by rw [H2.2.1]; exact hT.1 0 (by omega)
  have e29 : D2.1 325 29 = nI (tN τ 2) := by rw [H2.2.2.2.1]; exact hT.1 2 (by omega)
  refine c_M_isKind e27 (by omega) (fun q3 => z0 ⟨_, rfl, ?_⟩) (fun i q3 hi ek => z1 ?_)
  · simp only [q3] at hz; exact hz
  simp only [q3, q] at hz
  rw [e29, X.2.2]
  refine ⟨fun c => ?_, fun c => ⟨_, rfl, ?_⟩⟩
  · have hAN := (nI_leI (by omega) (by omega)).mp c
    rw [if_neg (by omega)] at hz
    have hu1 := hu_hN hT hO hf (k := i) (by omega)
    rw [ek, en]
    refine c_M_drawnWith X (by omega) (by omega) (by omega) hu1 h52 ?_
    rw [X.2.2, e29]
    refine c_M_choose h52 (by omega) ?_
    have c48 := chW_48 (a := hu τ η i) (b := hN τ η - hu τ η i) (n := tN τ 2) (l := m) (by omega) (by omega) (by omega)
    have b48 := bn_48 h52 (show tN τ 2 ≤ 6 by omega)
    exact c_M_least (by omega) (by omega) (Or.inr (bn_pos hAN)) ⟨_, rfl, hz⟩
  · rw [if_pos (Nat.lt_of_not_le (fun w => c (nI_le w (by omega))))] at hz
    exact hz
theorem c_M_soonest {P : Int32 → xD → Prop} {x y p w : Int32} (hI : mI D g) (h : ∀ D', mO D D' → P (aSoonest g.1 x y p w) D') : xCi (d + 40) m_M_soonest [.ref 325, .int x, .int y, .int p, .int w] D P := by
  have l7 : xl (325 + 7) = 424 := cl_13_7 xk_M
  have l33 : xl (325 + 33) = 13 := cl_13_66 xk_M
  refine xCi_of y_M_soonest (Nat.le_of_ble_eq_true rfl) (s_M_soonest_0 xk_M (fun D1 e1 => ?_))
  obtain ⟨o1, I1⟩ := m_0 hI e1
  unfold aSoonest at h
  refine c_M_is (s := 1) I1 (by omega) (fun q => z0 ⟨_, rfl, ?_⟩) (fun b hb hb2 ep q => z1 ?_)
  · rw [q] at h; exact h D1 o1
  simp only [q] at h
  have hP := ((I1.2.1.2.2 1 (by omega)).2 b hb).2.1 rfl
  have tx1 := fun j (hj : j < 53) => m_tx (s := 1) I1 (by omega) hb (i := j) hj
  generalize hθ : g.1.2.2.2 1 b = θ at q hP tx1 h
  refine c_M_fitsHand I1 (fun q1 D2 o2 => z0' ⟨_, rfl, ?_⟩) (fun τ η q1 q2 hT hO hf D2 o2 H2 X I2 => z1' ?_)
  · have := h D2 (o1.trans o2)
    rw [hOf_no q1] at this
    exact this
  have o12 := o1.trans o2
  rw [hOf_t q1 q2 hf] at h
  have tx : ∀ j, j < 53 → D2.1 332 (53 * b + j) = θ j := fun j hj => by rw [(o2 332 (by omega) (by omega)).1]; exact tx1 j hj
  obtain ⟨t0, t52, tc⟩ := id hP
  have bK := hT.2.1
  have bA := hT.2.2.2.1
  have e27 : D2.1 325 27 = nI (tN τ 0) := by rw [H2.2.1]; exact hT.1 0 (by omega)
  have e29 : D2.1 325 29 = nI (tN τ 2) := by rw [H2.2.2.2.1]; exact hT.1 2 (by omega)
  have ll : (hpL θ).length = tN θ 0 := by unfold hpL; rw [List.length_map, List.length_range]
  have lg : ∀ j, j < tN θ 0 → (hpL θ).getD j 0 = tN θ (1 + j) := fun j hj => by
    unfold hpL
    rw [List.getD_eq_getElem?_getD, List.getElem?_map, List.getElem?_range hj]; rfl
  have i7 : ∀ j, j < 53 → vp_in (nI (53 * b + j)) (xl (325 + 7)) := fun j hj => by rw [l7]; exact vp_in_nI (by omega) (by omega)
  have i33 : ∀ c, c < 13 → vp_in (nI c) (xl (325 + 33)) := fun c hc => by rw [l33]; exact vp_in_nI hc (by omega)
  have c0 : D2.1 (325 + 7) (53 * b) = nI (tN θ 0) := by rw [← t0]; exact tx 0 (by omega)
  rw [ep, show (53 : Int32) * nI b = nI (53 * b) from pk_mul 53 b, nI_clamp (n := 53 * b) (by omega), c0]
  refine ⟨i7 0 (by omega), ?_⟩
  have h13 : ∀ j, j < tN θ 0 → tN θ (1 + j) < 13 := fun j hj => (tc j hj).2
  -- card by card
  have cards : (¬ ∃ c, c ∈ hpL θ ∧ tN τ 0 ≤ c) → ∀ m k, k + m = tN θ 0 → ∀ D' h', mF 358 359 0 0 D2 D' → (∀ j, j < 13 → D'.1 358 j = nI (h' j)) → (∀ j, j < tN τ 0 → h' j < tN τ 2) → (∀ j, h' j ≤ 4 + k) → (match fsN (oGe (tN τ 2) (hh η)) (tN τ 0) with | some _ => False | none => oSoon (tN τ 2) h' ((hpL θ).drop k) k = oSoon (tN τ 2) (hh η) (hpL θ) 0) →
      xPf (d + 40) m_M_soonest 78 [(0, .ref 325), (1, .int x), (2, .int y), (3, .int (nI b)), (4, .int w), (5, .int (nI (tN θ 0))), (6, .int (nI (k + 1)))] [] D' (fun r D' => ∃ v, r = some (.int v) ∧ P v D') := by
    intro hno m
    induction m with
    | zero =>
      intro k hk D' h' o vh hl hb4 hs
      cases hfs : fsN (oGe (tN τ 2) (hh η)) (tN τ 0) with
      | some j => rw [hfs] at hs; exact hs.elim
      | none =>
        have hs' := hs
        rw [hfs] at hs'
        have hs' : oSoon (tN τ 2) h' ((hpL θ).drop k) k = oSoon (tN τ 2) (hh η) (hpL θ) 0 := hs'
        have hz := h D' (o12.trans (o.o (by omega)))
        unfold oSoonest at hz
        rw [if_neg hno, hfs] at hz
        simp only [] at hz
        refine s_M_soonest_78 xk_M ⟨fun _ => ⟨_, rfl, ?_⟩, fun z => absurd (nI_lt (by omega) (by omega)) z⟩
        rw [List.drop_eq_nil_of_le (by omega)] at hs'
        have hs' : none = oSoon (tN τ 2) (hh η) (hpL θ) 0 := hs'
        rw [← hs'] at hz; exact hz
    | succ m ih =>
      intro k hk D' h' o vh hl hb4 hs
      cases hfs : fsN (oGe (tN τ 2) (hh η)) (tN τ 0) with
      | some j => rw [hfs] at hs; exact hs.elim
      | none =>
        have hs' := hs
        rw [hfs] at hs'
        have hs' : oSoon (tN τ 2) h' ((hpL θ).drop k) k = oSoon (tN τ 2) (hh η) (hpL θ) 0 := hs'
        · have hkl : k < tN θ 0 := by omega
          have hc13 := h13 k hkl
          have ec : (hpL θ).getD k 0 = tN θ (1 + k) := lg k hkl
          have hcK : tN θ (1 + k) < tN τ 0 := Nat.lt_of_not_le (fun z => hno ⟨_, getD_mem (l := hpL θ) (i := k) (by omega), by rw [ec]; exact z⟩)
          rw [drop_at (show k < (hpL θ).length by omega), ec, oSoon] at hs'
          have vx : D'.1 (325 + 7) (53 * b + (k + 1)) = nI (tN θ (1 + k)) := by
            rw [(o.1 (325 + 7) (by omega) (by omega)).1, show D2.1 (325 + 7) (53 * b + (k + 1)) = θ (k + 1) from tx (k + 1) (by omega), Nat.add_comm k 1]; exact (tc k hkl).1
          have k1 : ¬ nI (k + 1) = 0 := nI_ne0 (by omega) (by omega)
          generalize tN θ (1 + k) = c at *
          have hhc := hl c hcK
          have hb4c := hb4 c
          refine s_M_soonest_78 xk_M ?_
          rw [show (53 : Int32) * nI b = nI (53 * b) from pk_mul 53 b, nI_add, nI_clamp (n := 53 * b + (k + 1)) (by omega), vx, nI_clamp (n := c) (by omega), show D'.1 (325 + 33) c = nI (h' c) from vh c hc13]
          refine ⟨fun z => absurd z (nI_nlt (by omega) (by omega)), fun _ => ⟨fun _ => ⟨i7 _ (by omega), i33 c hc13, fun _ => ⟨i33 c hc13, fun D3 e3 => ?_⟩, fun z => absurd z k1⟩, fun z => absurd z k1⟩⟩
          rw [nI_1] at e3
          obtain ⟨o3, v3⟩ := ma (by omega) e3
          have v3' : ∀ j, j < 13 → D3.1 358 j = nI (inc h' c j) := fun j hj => by
            have := v3 j
            have this : D3.1 358 j = if j = c then nI (h' c + 1) else D'.1 358 j := this
            rw [this, inc_at]
            by_cases z : j = c
            · rw [if_pos z, if_pos z, z]
            · rw [if_neg z, if_neg z]; exact vh j hj
          have o03 := o.trans (o3.m (by omega) (by omega))
          have hz3 := h D3 (o12.trans (o03.o (by omega)))
          unfold oSoonest at hz3
          rw [if_neg hno, hfs] at hz3
          simp only [] at hz3
          -- KIND by KIND
          have kinds : ∀ m i, i + m = tN τ 0 → (∀ j, j < i → inc h' c j ≠ tN τ 2) → xPf (d + 40) m_M_soonest 127 [(0, .ref 325), (1, .int x), (2, .int y), (3, .int (nI b)), (4, .int w), (5, .int (nI (tN θ 0))), (6, .int (nI (k + 1))), (7, .int (nI i))] [] D3 (fun r D' => ∃ v, r = some (.int v) ∧ P v D') := by
            intro m'
            induction m' with
            | zero =>
              intro i hi hne
              refine s_M_soonest_127 xk_M ?_
              rw [o03.2 27 (by omega), e27, nI_1]
              refine ⟨fun _ => ?_, fun z => absurd (nI_le (by omega) (by omega)) z⟩
              have hlt : ∀ j, j < tN τ 0 → inc h' c j < tN τ 2 := fun j hj => by
                have a := hne j (by omega)
                have b := hl j hj
                rw [inc_at] at a ⊢
                by_cases z : j = c
                · rw [if_pos z] at a ⊢; omega
                · rw [if_neg z]; exact b
              have a := hlt c hcK
              rw [inc_at, if_pos rfl] at a
              rw [if_neg (by omega)] at hs'
              refine ih (k + 1) (by omega) D3 (inc h' c) o03 v3' hlt (fun j => ?_) (by rw [hfs]; exact hs')
              have := hb4 j
              rw [inc_at]
              split <;> omega
            | succ m' ih' =>
              intro i hi hne
              have hbi : inc h' c i ≤ 5 + k := by
                have := hb4 i
                rw [inc_at]
                split <;> omega
              refine s_M_soonest_127 xk_M ?_
              rw [o03.2 27 (by omega), e27, o03.2 29 (by omega), e29, nI_clamp (n := i) (by omega), show D3.1 (325 + 33) i = nI (inc h' c i) from v3' i (by omega), nI_1 i]
              refine ⟨fun z => absurd z (nI_ge (by omega) (by omega)), fun _ => ⟨i33 i (by omega), fun z => ih' (i + 1) (by omega) (fun j hj => ?_), fun z => ?_⟩⟩
              · by_cases y : j = i
                · rw [y]; exact fun v => z (by rw [v])
                · exact hne j (by omega)
              · have ez := (nI_eq (by omega) (by omega)).mp z
                have eic : i = c := by
                  apply Decidable.byContradiction
                  intro y
                  rw [inc_at, if_neg y] at ez
                  have := hl i (by omega)
                  omega
                rw [inc_at, if_pos eic, eic] at ez
                rw [if_pos (by omega)] at hs'
                rw [← hs'] at hz3
                simp only [] at hz3
                refine ⟨fun v => ⟨_, rfl, ?_⟩, fun v => ⟨_, rfl, ?_⟩⟩
                · rw [if_pos v] at hz3; exact hz3
                · rw [if_neg v] at hz3; rw [eic]; exact hz3
          exact kinds (tN τ 0) 0 (by omega) (fun j hj => absurd hj (Nat.not_lt_zero _))
  -- his own hand
  have own : (¬ ∃ c, c ∈ hpL θ ∧ tN τ 0 ≤ c) → ∀ D', mF 358 359 0 0 D2 D' → (∀ j, j < 13 → D'.1 358 j = nI (hh η j)) → ∀ m i, i + m = tN τ 0 → (∀ j, j < i → oGe (tN τ 2) (hh η) j = false) → xPf (d + 40) m_M_soonest 127 [(0, .ref 325), (1, .int x), (2, .int y), (3, .int (nI b)), (4, .int w), (5, .int (nI (tN θ 0))), (6, .int (nI 0)), (7, .int (nI i))] [] D' (fun r D' => ∃ v, r = some (.int v) ∧ P v D') := by
    intro hno D' o vh m
    have hz := h D' (o12.trans (o.o (by omega)))
    unfold oSoonest at hz
    rw [if_neg hno] at hz
    induction m with
    | zero =>
      intro i hi hne
      have hfs : fsN (oGe (tN τ 2) (hh η)) (tN τ 0) = none := fsN_none.mpr (fun j hj => hne j (by omega))
      refine s_M_soonest_127 xk_M ?_
      rw [o.2 27 (by omega), e27, nI_1]
      refine ⟨fun _ => cards hno (tN θ 0) 0 (by omega) D' (hh η) o vh (fun j hj => ?_) (fun j => ?_) (by rw [hfs]; rfl), fun z => absurd (nI_le (by omega) (by omega)) z⟩
      · have := oGe_f.mp (hne j (by omega)); omega
      · have := hh_le hf j; omega
    | succ m ih =>
      intro i hi hne
      have hhi := hh_le hf i
      refine s_M_soonest_127 xk_M ?_
      rw [o.2 27 (by omega), e27, o.2 29 (by omega), e29, nI_clamp (n := i) (by omega), show D'.1 (325 + 33) i = nI (hh η i) from vh i (by omega), nI_1 i]
      refine ⟨fun z => absurd z (nI_ge (by omega) (by omega)), fun _ => ⟨i33 i (by omega), fun z => ih (i + 1) (by omega) (fun j hj => ?_), fun z => ?_⟩⟩
      · by_cases v : j = i
        · rw [v]
          exact oGe_f.mpr (fun q => z (by rw [show hh η i = tN τ 2 by omega]))
        · exact hne j (by omega)
      · have ez := (nI_eq (by omega) (by omega)).mp z
        have hfs : fsN (oGe (tN τ 2) (hh η)) (tN τ 0) = some i := fsN_at hne (oGe_t.mpr (by omega)) (by omega)
        rw [hfs] at hz
        simp only [] at hz
        refine ⟨fun v => ⟨_, rfl, ?_⟩, fun v => ⟨_, rfl, ?_⟩⟩
        · rw [if_pos v] at hz; exact hz
        · rw [if_neg v] at hz; exact hz
  -- the heap's KINDS are the table's
  have seen : ∀ m k, k + m = tN θ 0 → (∀ j, j < k → tN θ (1 + j) < tN τ 0) → xPf (d + 40) m_M_soonest 39 [(0, .ref 325), (1, .int x), (2, .int y), (3, .int (nI b)), (4, .int w), (5, .int (nI (tN θ 0))), (6, .int (nI k))] [] D2 (fun r D' => ∃ v, r = some (.int v) ∧ P v D') := by
    intro m
    induction m with
    | zero =>
      intro k hk hlt
      have hno : ¬ ∃ c, c ∈ hpL θ ∧ tN τ 0 ≤ c := by
        rintro ⟨c, hc, hcK⟩
        unfold hpL at hc
        obtain ⟨j, hj, rfl⟩ := List.mem_map.mp hc
        have := hlt j (by have := List.mem_range.mp hj; omega)
        omega
      have i0 := i33 0 (by omega)
      refine s_M_soonest_39 xk_M ⟨fun _ => ?_, fun z => absurd (nI_le (by omega) (by omega)) z⟩
      refine s_M_soonest_78 xk_M ⟨fun z => absurd z (nI_nlt (a := tN θ 0) (b := 0) (by omega) (by omega)), fun _ => ⟨fun z => absurd rfl z, fun _ => ⟨i0, fun z => absurd rfl z, fun _ => ⟨i0, fun D4 e4 => ?_⟩⟩⟩⟩
      obtain ⟨o4, v4⟩ := ma (by omega) e4
      refine own hno D4 (o4.m (by omega) (by omega)) (fun j hj => ?_) (tN τ 0) 0 (by omega) (fun j hj => absurd hj (Nat.not_lt_zero _))
      have := v4 j
      have this : D4.1 358 j = if j = 0 then D2.1 358 0 + 0 else D2.1 358 j := this
      rw [this]
      by_cases z : j = 0
      · rw [if_pos z, X.1 0 (by omega), z]; exact nI_add _ 0
      · rw [if_neg z]; exact X.1 j hj
    | succ m ih =>
      intro k hk hlt
      have vx : D2.1 (325 + 7) (53 * b + (1 + k)) = nI (tN θ (1 + k)) := by
        rw [show D2.1 (325 + 7) (53 * b + (1 + k)) = θ (1 + k) from tx (1 + k) (by omega)]; exact (tc k (by omega)).1
      have hk13 := h13 k (by omega)
      refine s_M_soonest_39 xk_M ?_
      rw [show (53 : Int32) * nI b = nI (53 * b) from pk_mul 53 b, nI_1, nI_add, show 53 * b + 1 + k = 53 * b + (1 + k) by omega, nI_clamp (n := 53 * b + (1 + k)) (by omega), vx, e27, nI_1]
      refine ⟨fun z => absurd z (nI_ge (by omega) (by omega)), fun _ => ⟨i7 _ (by omega), fun z => ih (k + 1) (by omega) (fun j hj => ?_), fun z => ⟨_, rfl, ?_⟩⟩⟩
      · by_cases v : j = k
        · rw [v]; exact (nI_ltI (by omega) (by omega)).mp z
        · exact hlt j (by omega)
      · have hz := h D2 o12
        unfold oSoonest at hz
        rw [if_pos ⟨tN θ (1 + k), by rw [← lg k (by omega)]; exact getD_mem (l := hpL θ) (i := k) (by omega), Nat.le_of_not_lt (fun v => z (nI_lt v (by omega)))⟩] at hz
        exact hz
  exact seen (tN θ 0) 0 (by omega) (fun j hj => absurd hj (Nat.not_lt_zero _))
end MCHOOSE
