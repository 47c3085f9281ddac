/-! The reference's looks. -/
/-- those who sit: how they look, how quick they are, how far they sit -/
def mE (D : xD) (σ : Nat → Int32) : Prop := D.1 325 31 = nI (tN σ 5) ∧ tN σ 5 ≤ 6 ∧ ∀ i, i < tN σ 5 → (D.1 340 i = nI (tP σ i 1) ∧ D.1 341 i = nI (tP σ i 2) ∧ D.1 342 i = nI (tP σ i 3)) ∧ (1 ≤ tP σ i 1 ∧ tP σ i 1 ≤ 9) ∧ tP σ i 2 ≤ 9 ∧ tP σ i 3 ≤ 20
theorem mE_of {D : xD} {σ : Nat → Int32} (hT : tOK σ) (S : mSit D σ) : mE D σ := by
  refine ⟨S.1, hT.2.2.2.2.2.2.1, fun i hi => ?_⟩
  obtain ⟨b0, b1, b2, b3, b4, -⟩ := hT.2.2.2.2.2.2.2 i hi
  refine ⟨⟨?_, ?_, ?_⟩, b2, b3, b4⟩
  · rw [← b0 1 (by omega) (by omega)]; exact S.2 i hi 1 (by omega)
  · rw [← b0 2 (by omega) (by omega)]; exact S.2 i hi 2 (by omega)
  · rw [← b0 3 (by omega) (by omega)]; exact S.2 i hi 3 (by omega)
theorem mE.fr {D D' : xD} {lo hi f g : Nat} {σ : Nat → Int32} (h : mE D σ) (o : mF lo hi f g D D') (q : 342 < lo ∨ hi ≤ 340) (r : 31 < f ∨ g ≤ 31) : mE D' σ :=
  ⟨by rw [o.2 31 r]; exact h.1, h.2.1, fun i hi => by rw [(o.1 340 (by omega) (by omega)).1, (o.1 341 (by omega) (by omega)).1, (o.1 342 (by omega) (by omega)).1]; exact h.2.2 i hi⟩
theorem look_n (t e : Nat) (h : 1 ≤ e) : (t / e + 1) * e = t + (e - t % e) := by
  have h1 := Nat.div_add_mod t e
  have h2 := Nat.mod_lt t h
  rw [Nat.add_mul, Nat.one_mul, Nat.mul_comm]
  omega
section MLOOKS
variable {d : Nat} {D : xD} {g : gS} {σ : Nat → Int32}
theorem c_M_spoon0 {P : Int32 → xD → Prop} {p t : Nat} {x2 : Int32} (E : mE D σ) (hp : p < tN σ 5) (ht : t < 2 ^ 20) (hx : ¬ nI p = x2) (h : P (nI (t + tWait σ p t)) D) : xCi (d + 1) m_M_spoonBy [.ref 325, .int (nI p), .int x2, .int (nI t)] D P := by
  have l15 : xl (325 + 15) = 6 := cl_13_34 xk_M
  have l16 : xl (325 + 16) = 6 := cl_13_35 xk_M
  have l17 : xl (325 + 17) = 6 := cl_13_36 xk_M
  obtain ⟨e1, e2, e3⟩ := E
  obtain ⟨⟨a1, a2, a3⟩, ⟨b1, b1'⟩, b2, b3⟩ := e3 p hp
  have a1 : D.1 (325 + 15) p = nI (tP σ p 1) := a1
  have a2 : D.1 (325 + 16) p = nI (tP σ p 2) := a2
  have a3 : D.1 (325 + 17) p = nI (tP σ p 3) := a3
  refine xCi_of y_M_spoonBy (Nat.le_of_ble_eq_true rfl) (s_M_spoonBy_0 xk_M ⟨fun _ => ?_, fun z => absurd z hx⟩)
  rw [nI_clamp (by omega), a1, a2, a3, l15, l16, l17, pk_div (by omega) (by omega) (by omega), nI_1, pk_mul, nI_add, nI_add, look_n _ _ b1]
  have i6 : vp_in (nI p) 6 := vp_in_nI (by omega) (by omega)
  refine ⟨i6, nI_ne0 (by omega) (by omega), i6, i6, i6, _, rfl, ?_⟩
  unfold tWait at h
  rw [← Nat.add_assoc, ← Nat.add_assoc] at h
  exact h
theorem c_M_spoonBy {P : Int32 → xD → Prop} {p f t : Nat} (E : mE D σ) (hp : p < tN σ 5) (hf : f < 2 ^ 31) (ht : t < 2 ^ 20) (h : P (nI (tSpoon σ p f t)) D) : xCi (d + 1) m_M_spoonBy [.ref 325, .int (nI p), .int (nI f), .int (nI t)] D P := by
  have e2 := E.2.1
  unfold tSpoon at h
  by_cases c : p = f
  · subst c
    have l16 : xl (325 + 16) = 6 := cl_13_35 xk_M
    have l17 : xl (325 + 17) = 6 := cl_13_36 xk_M
    obtain ⟨⟨a1, a2, a3⟩, -⟩ := E.2.2 p hp
    have a2 : D.1 (325 + 16) p = nI (tP σ p 2) := a2
    have a3 : D.1 (325 + 17) p = nI (tP σ p 3) := a3
    rw [if_pos rfl] at h
    refine xCi_of y_M_spoonBy (Nat.le_of_ble_eq_true rfl) (s_M_spoonBy_0 xk_M ⟨fun z => absurd rfl z, fun _ => ?_⟩)
    rw [nI_clamp (by omega), a2, a3, l16, l17, nI_add, nI_add]
    exact ⟨vp_in_nI (by omega) (by omega), vp_in_nI (by omega) (by omega), _, rfl, h⟩
  · rw [if_neg c] at h
    exact c_M_spoon0 E hp ht (fun z => c ((nI_eq (by omega) hf).mp z)) h
theorem mSpoon_lt {f t p : Nat} (E : mE D σ) (hp : p < tN σ 5) : tSpoon σ p f t ≤ t + 40 := by
  obtain ⟨-, ⟨b1, b1'⟩, b2, b3⟩ := E.2.2 p hp
  unfold tSpoon tWait
  split <;> omega
theorem c_M_lastBy {P : Int32 → xD → Prop} {f t : Nat} (E : mE D σ) (h0 : 0 < tN σ 5) (hf : f < 2 ^ 31) (ht : t < 2 ^ 19) (h : P (nI (tLast σ f t (tN σ 5))) D) : xCi (d + 2) m_M_lastBy [.ref 325, .int (nI f), .int (nI t)] D P := by
  have b5 := E.2.1
  refine xCi_of y_M_lastBy (Nat.le_of_ble_eq_true rfl) (s_M_lastBy_0 xk_M ?_)
  have key : ∀ m i, i + m = tN σ 5 → 1 ≤ i → xPf (d + 2) m_M_lastBy 5 [(0, .ref 325), (1, .int (nI f)), (2, .int (nI t)), (3, .int (nI (tLast σ f t i))), (4, .int (nI i))] [] D (fun r D' => ∃ x, r = some (.int x) ∧ P x D') := by
    intro m
    induction m with
    | zero =>
      intro i hi _
      refine s_M_lastBy_5 xk_M ?_
      rw [E.1]
      refine ⟨fun _ => ⟨_, rfl, ?_⟩, fun z => absurd (nI_le (by omega) (by omega)) z⟩
      rw [show i = tN σ 5 by omega]; exact h
    | succ m ih =>
      intro i hi h1
      have hl := tLast_lt σ f t i (by omega)
      refine s_M_lastBy_5 xk_M ?_
      rw [E.1]
      refine ⟨fun z => absurd z (nI_ge (by omega) (by omega)), fun _ => c_M_spoonBy E (by omega) hf (by omega) (c_M_spoonBy E (by omega) hf (by omega) ?_)⟩
      have b1 := mSpoon_lt (f := f) (t := t) (p := i) E (by omega)
      have b2 := mSpoon_lt (f := f) (t := t) (p := tLast σ f t i) E (by omega)
      have nx := ih (i + 1) (by omega) (by omega)
      rw [tLast, if_neg (by omega)] at nx
      rw [nI_ltI (by omega) (by omega), nI_1 i]
      refine ⟨fun c => ?_, fun c => ?_⟩
      · rw [if_pos c] at nx; exact nx
      · rw [if_neg c] at nx; exact nx
  exact key (tN σ 5 - 1) 1 (by omega) (by omega)
theorem c_M_lastsOf {P : Int32 → xD → Prop} {p f : Nat} (E : mE D σ) (h0 : 0 < tN σ 5) (hp : p < 2 ^ 31) (hf : f < 2 ^ 31) (h : P (nI (lkL σ p f 60)) D) : xCi (d + 3) m_M_lastsOf [.ref 325, .int (nI p), .int (nI f)] D P := by
  have b5 := E.2.1
  refine xCi_of y_M_lastsOf (Nat.le_of_ble_eq_true rfl) (s_M_lastsOf_0 xk_M ?_)
  have key : ∀ m i, i + m = 60 → xPf (d + 3) m_M_lastsOf 5 [(0, .ref 325), (1, .int (nI p)), (2, .int (nI f)), (3, .int (nI (lkL σ p f i))), (4, .int (nI i))] [] D (fun r D' => ∃ x, r = some (.int x) ∧ P x D') := by
    intro m
    induction m with
    | zero =>
      intro i hi
      have ei : i = 60 := by omega
      subst ei
      exact s_M_lastsOf_5 xk_M ⟨fun _ => ⟨_, rfl, h⟩, fun q => absurd (nI_le (a := 60) (b := 60) (by omega) (by omega)) q⟩
    | succ m ih =>
      intro i hi
      have nx := ih (i + 1) (by omega)
      rw [lkL] at nx
      have hl := tLast_lt σ f i (tN σ 5) h0
      refine s_M_lastsOf_5 xk_M ⟨fun q => absurd q (nI_ge (a := i) (b := 60) (by omega) (by omega)), fun _ => c_M_lastBy E h0 hf (by omega) ?_⟩
      rw [nI_1 i, nI_eq (by omega) hp, show nI (lkL σ p f i) + (0 : Int32) = nI (lkL σ p f i + 0) from nI_add _ 0, nI_1]
      refine ⟨fun c => ?_, fun c => ?_⟩
      · rw [if_neg c] at nx; exact nx
      · rw [if_pos c] at nx; exact nx
  exact key 60 0 (by omega)
theorem c_M_waitsOf {P : Int32 → xD → Prop} {p : Nat} (E : mE D σ) (hp : p < tN σ 5) (h : P (nI (lkW σ p)) D) : xCi (d + 2) m_M_waitsOf [.ref 325, .int (nI p)] D P := by
  have b5 := E.2.1
  refine xCi_of y_M_waitsOf (Nat.le_of_ble_eq_true rfl) (s_M_waitsOf_0 xk_M ?_)
  have key : ∀ m i, i + m = 60 → xPf (d + 2) m_M_waitsOf 4 [(0, .ref 325), (1, .int (nI p)), (2, .int (nI (sm (tWait σ p) i))), (3, .int (nI i))] [] D (fun r D' => ∃ x, r = some (.int x) ∧ P x D') := by
    intro m
    induction m with
    | zero =>
      intro i hi
      have ei : i = 60 := by omega
      subst ei
      exact s_M_waitsOf_4 xk_M ⟨fun _ => ⟨_, rfl, h⟩, fun q => absurd (nI_le (a := 60) (b := 60) (by omega) (by omega)) q⟩
    | succ m ih =>
      intro i hi
      refine s_M_waitsOf_4 xk_M ⟨fun q => absurd q (nI_ge (a := i) (b := 60) (by omega) (by omega)), fun _ => c_M_spoon0 E hp (by omega) (fun z => ?_) ?_⟩
      · have := nI_pos (n := p) (by omega)
        rw [z] at this
        exact this (by decide)
      · rw [pk_sub (by omega), Nat.add_sub_cancel_left, nI_add, nI_1 i]
        exact ih (i + 1) (by omega)
  exact key 60 0 (by omega)
theorem mW_le (E : mE D σ) {p : Nat} (hp : p < tN σ 5) : lkW σ p ≤ 2400 := by
  obtain ⟨-, ⟨b1, b1'⟩, b2, b3⟩ := E.2.2 p hp
  have : ∀ n, sm (tWait σ p) n ≤ n * 40 := by
    intro n
    induction n with
    | zero => exact Nat.zero_le _
    | succ n ih =>
      rw [sm]
      have : tWait σ p n ≤ 40 := by unfold tWait; omega
      omega
  exact this 60
theorem c_M_even {P : Int32 → xD → Prop} {x p : Int32} (hI : mI D g) (h : ∀ D', mO D D' → P (aEven g.1 x p) D') : xCi (d + 40) m_M_even [.ref 325, .int x, .int p] D P := by
  refine xCi_of y_M_even (Nat.le_of_ble_eq_true rfl) (s_M_even_0 xk_M (fun D1 e1 => ?_))
  obtain ⟨o1, I1⟩ := m_0 hI e1
  unfold aEven at h
  refine c_M_hand I1 (fun q => z0 ⟨_, rfl, ?_⟩) (fun τ q hT hL hF D2 o2 I2 H2 S2 W2 => z1 ?_)
  · rw [q] at h; exact h D1 o1
  · simp only [q] at h
    have o := o1.trans (o2.o (by omega))
    have b5 := hT.2.2.2.2.2.2.1
    have e5 := hT.1 5 (by omega)
    have E := mE_of hT S2
    refine c_M_isOne (by rw [H2.2.2.2.2]; exact e5) (by omega) (fun q1 => z0' ⟨_, rfl, ?_⟩) (fun i q1 hi hp => z1' ?_)
    · rw [q1] at h; exact h D2 o
    · simp only [q1] at h
      rw [hp]
      have key : ∀ m j, j + m = tN τ 5 → xPf (d + 40) m_M_even 28 [(0, .ref 325), (1, .int x), (2, .int (nI i)), (3, .int (nI (mxN (lkW τ) j))), (4, .int (nI j))] [] D2 (fun r D' => ∃ v, r = some (.int v) ∧ P v D') := by
        intro m
        induction m with
        | zero =>
          intro j hj
          refine s_M_even_28 xk_M ?_
          rw [H2.2.2.2.2, e5]
          refine ⟨fun _ => c_M_waitsOf E hi ⟨_, rfl, ?_⟩, fun z => absurd (nI_le (by omega) (by omega)) z⟩
          have hm : mxN (lkW τ) (tN τ 5) ≤ 2400 := mxN_le (fun k hk => mW_le E hk)
          have hge : lkW τ i ≤ mxN (lkW τ) (tN τ 5) := mxN_ge hi
          rw [show j = tN τ 5 by omega, pk_sub hge, show (30 : Int32) = nI 30 from rfl, nI_add, show (1 : Int32) = nI 1 from rfl, pk_sub (by omega), show (60 : Int32) = nI 60 from rfl, pk_div (by omega) (by omega) (by omega)]
          unfold lkFar at h
          rw [show mxN (lkW τ) (tN τ 5) - lkW τ i + 30 - 1 = mxN (lkW τ) (tN τ 5) - lkW τ i + 29 by omega]
          exact h D2 o
        | succ m ih =>
          intro j hj
          refine s_M_even_28 xk_M ?_
          rw [H2.2.2.2.2, e5]
          refine ⟨fun z => absurd z (nI_ge (by omega) (by omega)), fun _ => c_M_waitsOf E (by omega) (c_M_greater ?_)⟩
          have hm : mxN (lkW τ) j ≤ 2400 := mxN_le (fun k hk => mW_le E (by omega))
          have hw := mW_le E (p := j) (by omega)
          have nx := ih (j + 1) (by omega)
          rw [nI_1 j]
          have em : (if nI (mxN (lkW τ) j) ≤ nI (lkW τ j) then nI (lkW τ j) else nI (mxN (lkW τ) j)) = nI (mxN (lkW τ) (j + 1)) := by
            rw [mxN]
            by_cases c : mxN (lkW τ) j ≤ lkW τ j
            · rw [if_pos (nI_le c (by omega))]
              by_cases c' : mxN (lkW τ) j < lkW τ j
              · rw [if_pos c']
              · rw [if_neg c', show lkW τ j = mxN (lkW τ) j by omega]
            · rw [if_neg (fun z => c ((nI_leI (by omega) (by omega)).mp z)), if_neg (by omega)]
          rw [em]
          exact nx
      exact key (tN τ 5) 0 (by omega)
theorem in59 {P : Int32 → xD → Prop} {x : Int32} (h0 : x ≠ -1 → slotOf 60 x = none → P 0 D) (h1 : x = -1 → P 1 D) (h2 : ∀ k, slotOf 60 x = some k → k < 60 → x = nI k → ¬ nI k = -1 → P 1 D) : xCi (d + 1) m_M_in [.int x, .int (-1 : Int32), .int (59 : Int32)] D P := by
  have ng : ∀ k, k < 60 → ¬ nI k = (-1 : Int32) := fun k hk z => by
    have := nI_pos (n := k) (by omega)
    rw [z] at this
    exact this (by decide)
  refine c_M_in (fun c => ?_) (fun c c1 => ?_)
  · cases hx : slotOf 60 x with
    | none =>
      refine h0 (fun z => ?_) hx
      subst z
      rcases c with y | y
      · exact absurd y (by decide)
      · exact absurd y (by decide)
    | some k =>
      obtain ⟨hk, rfl⟩ := slot_some hx
      rcases c with y | y
      · have h1 : nI k < 0 := Int32.lt_trans y (by decide)
        exact absurd h1 (nI_pos (by omega))
      · have := (nI_ltI (a := 59) (by omega) (by omega)).mp y; omega
  · by_cases z : x = -1
    · exact h1 z
    · cases hx : slotOf 60 x with
      | some k =>
        obtain ⟨hk, e⟩ := slot_some hx
        exact h2 k hx hk e (ng k hk)
      | none =>
        exfalso
        rcases slot_none (by omega) hx with y | ⟨y, y2⟩
        · have a : (-1 : Int32) ≤ x := Int32.not_lt.mp c
          have b : x ≤ -1 := by
            have hh : x.toInt < 0 := Int32.lt_iff_toInt_lt.mp y
            rw [Int32.le_iff_toInt_le, show (-1 : Int32).toInt = -1 by decide]
            omega
          exact z (Int32.le_antisymm b a)
        · obtain ⟨j, hj, rfl⟩ := nI_of y
          have a := (nI_leI (a := 60) (by omega) hj).mp y2
          exact c1 (nI_lt (a := 59) (by omega) hj)
theorem c_M_looks {P : Int32 → xD → Prop} {x p f a : Int32} (hI : mI D g) (h : ∀ D', mO D D' → P (aLooks g.1 x p f a) D') : xCi (d + 40) m_M_looks [.ref 325, .int x, .int p, .int f, .int a] D P := by
  refine xCi_of y_M_looks (Nat.le_of_ble_eq_true rfl) (s_M_looks_0 xk_M (fun D1 e1 => ?_))
  obtain ⟨o1, I1⟩ := m_0 hI e1
  unfold aLooks at h
  refine c_M_hand I1 (fun q => z0 ⟨_, rfl, ?_⟩) (fun τ q hT hL hF D2 o2 I2 H2 S2 W2 => z1 ?_)
  · rw [q] at h; exact h D1 o1
  · simp only [q] at h
    have o := o1.trans (o2.o (by omega))
    have b5 := hT.2.2.2.2.2.2.1
    have e5 : D2.1 325 30 = nI (tN τ 5) := by rw [H2.2.2.2.2]; exact hT.1 5 (by omega)
    have E := mE_of hT S2
    have h2 := hF.1
    refine c_M_isOne e5 (by omega) (fun q1 => z0 ⟨_, rfl, ?_⟩) (fun i q1 hi hf => z1 ?_)
    · rw [q1] at h; exact h D2 o
    · simp only [q1] at h
      refine in59 (fun c q2 => z0' ⟨_, rfl, ?_⟩) (fun c => z1' ⟨fun _ => ?_, fun z => absurd c z⟩) (fun k q2 hk hx ng => z1' ⟨fun z => absurd (hx.symm.trans z) ng, fun _ => ?_⟩)
      · rw [if_neg c, q2] at h; exact h D2 o
      · rw [if_pos c] at h
        refine c_M_isOne e5 (by omega) (fun q3 => z0 ⟨_, rfl, ?_⟩) (fun j q3 hj hp => z1 ⟨fun z => ⟨_, rfl, ?_⟩, fun z => ?_⟩)
        · rw [q3] at h; exact h D2 o
        · simp only [q3] at h
          rw [hp, hf] at z
          rw [if_pos ((nI_eq (by omega) (by omega)).mp z)] at h; exact h D2 o
        · simp only [q3] at h
          rw [hp, hf] at z
          rw [if_neg (fun y => z (by rw [y]))] at h
          rw [hp, hf]
          exact c_M_lastsOf E (by omega) (by omega) (by omega) ⟨_, rfl, h D2 o⟩
      · rw [if_neg (by rw [hx]; exact ng)] at h
        simp only [q2] at h
        rw [hf, hx]
        exact c_M_lastBy E (by omega) (by omega) (by omega) ⟨_, rfl, h D2 o⟩
end MLOOKS
