/-! What one hands on. -/
/-- of the first n KINDS but one, the one of which he has fewest, of several the greatest -/
def fewS (f : Nat → Nat) (kp : Int32) : Nat → Option Nat
  | 0 => none
  | n + 1 => match fewS f kp n with
    | none => if 0 < f n ∧ nI n ≠ kp then some n else none
    | some b => if 0 < f n ∧ nI n ≠ kp ∧ f n ≤ f b then some n else some b
/-- the greatest that he has but one -/
def grS (f : Nat → Nat) (kp : Int32) : Nat → Option Nat
  | 0 => none
  | n + 1 => if 0 < f n ∧ nI n ≠ kp then some n else grS f kp n
theorem fewS_some {f : Nat → Nat} {kp : Int32} {b : Nat} : ∀ {n : Nat}, fewS f kp n = some b → b < n ∧ 0 < f b ∧ nI b ≠ kp := by
  intro n
  induction n generalizing b with
  | zero => intro h; cases h
  | succ n ih =>
    intro h
    unfold fewS at h
    cases hx : fewS f kp n with
    | none =>
      simp only [hx] at h
      split at h
      · cases h; exact ⟨by omega, by assumption⟩
      · cases h
    | some a =>
      simp only [hx] at h
      have := ih hx
      split at h
      · rename_i q; cases h; exact ⟨by omega, q.1, q.2.1⟩
      · cases h; exact ⟨by omega, this.2⟩
theorem fewS_none {f : Nat → Nat} {kp : Int32} : ∀ {n : Nat}, fewS f kp n = none → ∀ k, k < n → ¬ (0 < f k ∧ nI k ≠ kp) := by
  intro n
  induction n with
  | zero => intro _ k hk; omega
  | succ n ih =>
    intro h k hk
    unfold fewS at h
    cases hx : fewS f kp n with
    | none =>
      simp only [hx] at h
      split at h
      · cases h
      · rename_i q
        by_cases e : k = n
        · subst e; exact q
        · exact ih hx k (by omega)
    | some a =>
      simp only [hx] at h
      split at h <;> cases h
theorem grS_some {f : Nat → Nat} {kp : Int32} {b : Nat} : ∀ {n : Nat}, grS f kp n = some b → b < n ∧ 0 < f b ∧ nI b ≠ kp := by
  intro n
  induction n with
  | zero => intro h; cases h
  | succ n ih =>
    intro h
    unfold grS at h
    split at h
    · cases h; exact ⟨by omega, by assumption⟩
    · have := ih h; exact ⟨by omega, this.2⟩
theorem grS_none {f : Nat → Nat} {kp : Int32} : ∀ {n : Nat}, grS f kp n = none → ∀ k, k < n → ¬ (0 < f k ∧ nI k ≠ kp) := by
  intro n
  induction n with
  | zero => intro _ k hk; omega
  | succ n ih =>
    intro h k hk
    unfold grS at h
    split at h
    · cases h
    · rename_i q
      by_cases e : k = n
      · subst e; exact q
      · exact ih h k (by omega)
def orI (r : Option Nat) (kp : Int32) : Int32 := match r with
  | none => kp
  | some b => nI b
/-- what one hands on by his LAW: law, its KIND, what he has, what he took -/
def chS (law : Nat) (kd : Int32) (f : Nat → Nat) (K took : Nat) : Int32 :=
  if law = 1 then orI (grS f kd K) kd else if law = 2 then orI (fewS f kd K) kd else if law = 3 then nI took else orI (fewS f (-1) K) (-1)
/-- it is a KIND that he has -/
theorem chS_ok {law K took : Nat} {kd : Int32} {f : Nat → Nat} (hK : K ≤ 13) (ht : took < K) (h0 : 0 < f took) (hl : law = 1 ∨ law = 2 → ∃ k, k < K ∧ kd = nI k) : ∃ c, c < K ∧ 0 < f c ∧ chS law kd f K took = nI c := by
  have hm : ∀ k, k < K → nI k ≠ -1 := fun k hk q => nI_pos (n := k) (by omega) (by rw [q]; decide)
  unfold chS
  by_cases q1 : law = 1
  · rw [if_pos q1]
    obtain ⟨k, hk, e⟩ := hl (Or.inl q1)
    cases hx : grS f kd K with
    | some b => have := grS_some hx; exact ⟨b, this.1, this.2.1, rfl⟩
    | none =>
      refine ⟨took, ht, h0, ?_⟩
      have := grS_none hx took ht
      show kd = _
      apply Decidable.byContradiction
      intro q
      exact this ⟨h0, fun e2 => q e2.symm⟩
  · rw [if_neg q1]
    by_cases q2 : law = 2
    · rw [if_pos q2]
      cases hx : fewS f kd K with
      | some b => have := fewS_some hx; exact ⟨b, this.1, this.2.1, rfl⟩
      | none =>
        refine ⟨took, ht, h0, ?_⟩
        have := fewS_none hx took ht
        show kd = _
        apply Decidable.byContradiction
        intro q
        exact this ⟨h0, fun e2 => q e2.symm⟩
    · rw [if_neg q2]
      by_cases q3 : law = 3
      · rw [if_pos q3]; exact ⟨took, ht, h0, rfl⟩
      · rw [if_neg q3]
        cases hx : fewS f (-1) K with
        | some b => have := fewS_some hx; exact ⟨b, this.1, this.2.1, rfl⟩
        | none => exact absurd ⟨h0, hm took ht⟩ (fewS_none hx took ht)
section CHOICE
variable {d : Nat} {D : xD} {e N A K n : Nat} {δ : dS}
theorem c_Deal_fewest {P : Int32 → xD → Prop} {p : Nat} {kp : Int32} (hR : dR D e N A K δ) (hW : dW N K n δ) (hN : N ≤ 6) (hK : K ≤ 13) (hp : p < N) (h : P (orI (fewS (δ.1 p) kp K) kp) D) : xCi (d + 2) m_Deal_fewest [.ref e, .int (nI p), .int kp] D P := by
  have k0 : xk e = 8 := hR.1.1
  have f7 : D.1 e 7 = nI K := hR.2.2.2.2.2.1
  have r1 := hR.2.1
  have f2 := hR.2.2.2.2.2.2.1 p hp
  refine xCi_of y_Deal_fewest (Nat.le_of_ble_eq_true rfl) (s_Deal_fewest_0 k0 ?_)
  have e13 : nI p * (13 : Int32) = nI (13 * p) := by rw [show (13 : Int32) = nI 13 from rfl, pk_mul, Nat.mul_comm]
  rw [e13]
  have key : ∀ k j, j + k = K → xPf (d + 2) m_Deal_fewest 15 [(0, .ref e), (1, .int (nI p)), (2, .int kp), (3, .int (nI (13 * p))), (4, .int (orI (fewS (δ.1 p) kp j) kp)), (5, .int (match fewS (δ.1 p) kp j with | none => nI 52 | some b => nI (δ.1 p b))), (6, .int (nI j))] [] D (fun r D' => ∃ x, r = some (.int x) ∧ P x D') := by
    intro k
    induction k with
    | zero =>
      intro j hj
      refine s_Deal_fewest_15 k0 ⟨fun _ => ⟨_, rfl, by rw [show j = K by omega]; exact h⟩, fun c => ?_⟩
      rw [f7] at c; exact absurd (nI_le (by omega) (by omega)) c
    | succ k ih =>
      intro j hj
      have b1 := hW.hd hp (show j < 13 by omega)
      refine s_Deal_fewest_15 k0 ⟨fun c => ?_, fun _ => ?_⟩
      · rw [f7] at c; exact absurd c (nI_ge (by omega) (by omega))
      · rw [nI_add]
        refine c_Row_get r1 ?_
        rw [rg_in D _ (show 13 * p + j < 78 by omega) (by omega), show e + 1 + 1 = e + 2 by omega, f2 j (by omega)]
        have hn := ih (j + 1) (by omega)
        refine ⟨fun c => ?_, fun c => ⟨fun c1 => ?_, fun c1 => ⟨fun c2 => ?_, fun c2 => ?_⟩⟩⟩
        · have z : ¬ 0 < δ.1 p j := fun q => nI_nle q (by omega) c
          have e1 : fewS (δ.1 p) kp (j + 1) = fewS (δ.1 p) kp j := by
            rw [fewS]
            cases fewS (δ.1 p) kp j with
            | none => exact if_neg (fun q => z q.1)
            | some b => exact if_neg (fun q => z q.1)
          rw [e1] at hn
          rw [nI_1]; exact hn
        · have e1 : fewS (δ.1 p) kp (j + 1) = fewS (δ.1 p) kp j := by
            rw [fewS]
            cases hx : fewS (δ.1 p) kp j with
            | none =>
              rw [hx] at c1
              have := (nI_ltI (show 52 < 2 ^ 31 by omega) (by omega)).mp c1
              omega
            | some b =>
              rw [hx] at c1
              have hb := fewS_some hx
              have b2 := hW.hd hp (show b < 13 by omega)
              have := (nI_ltI (by omega) (by omega)).mp c1
              exact if_neg (fun q => by omega)
          rw [e1] at hn
          rw [nI_1]; exact hn
        · have e1 : fewS (δ.1 p) kp (j + 1) = fewS (δ.1 p) kp j := by
            rw [fewS]
            cases fewS (δ.1 p) kp j with
            | none => exact if_neg (fun q => q.2 c2)
            | some b => exact if_neg (fun q => q.2.1 c2)
          rw [e1] at hn
          rw [nI_1]; exact hn
        · have z : 0 < δ.1 p j := by
            apply Nat.lt_of_not_le
            intro q
            exact c (by rw [show δ.1 p j = 0 by omega]; decide)
          have e1 : fewS (δ.1 p) kp (j + 1) = some j := by
            rw [fewS]
            cases hx : fewS (δ.1 p) kp j with
            | none => exact if_pos ⟨z, c2⟩
            | some b =>
              rw [hx] at c1
              have hb := fewS_some hx
              have b2 := hW.hd hp (show b < 13 by omega)
              refine if_pos ⟨z, c2, ?_⟩
              apply Nat.le_of_not_lt
              intro q
              exact c1 (nI_lt q (by omega))
          rw [e1] at hn
          rw [nI_1]; exact hn
  exact key K 0 (by omega)
theorem c_Deal_greatest {P : Int32 → xD → Prop} {p : Nat} {kp : Int32} (hR : dR D e N A K δ) (hW : dW N K n δ) (hN : N ≤ 6) (hK : K ≤ 13) (hp : p < N) (h : P (orI (grS (δ.1 p) kp K) kp) D) : xCi (d + 2) m_Deal_greatest [.ref e, .int (nI p), .int kp] D P := by
  have k0 : xk e = 8 := hR.1.1
  have f7 : D.1 e 7 = nI K := hR.2.2.2.2.2.1
  have r1 := hR.2.1
  have f2 := hR.2.2.2.2.2.2.1 p hp
  refine xCi_of y_Deal_greatest (Nat.le_of_ble_eq_true rfl) (s_Deal_greatest_0 k0 ?_)
  rw [f7]
  have key : ∀ j, j ≤ K → orI (grS (δ.1 p) kp K) kp = orI (grS (δ.1 p) kp j) kp → xPf (d + 2) m_Deal_greatest 7 [(0, .ref e), (1, .int (nI p)), (2, .int kp), (3, .int (nI j - 1))] [] D (fun r D' => ∃ x, r = some (.int x) ∧ P x D') := by
    intro j
    induction j with
    | zero =>
      intro _ he
      refine s_Deal_greatest_7 k0 ⟨fun _ => ⟨_, rfl, ?_⟩, fun c => absurd (by decide) c⟩
      rw [he] at h; exact h
    | succ j ih =>
      intro hj he
      have b1 := hW.hd hp (show j < 13 by omega)
      rw [nI_pred]
      have hn : orI (grS (δ.1 p) kp K) kp = orI (grS (δ.1 p) kp j) kp → xPf (d + 2) m_Deal_greatest 7 [(0, .ref e), (1, .int (nI p)), (2, .int kp), (3, .int (nI j + (-1)))] [] D (fun r D' => ∃ x, r = some (.int x) ∧ P x D') := by
        intro q
        have := ih (by omega) q
        rw [Int32.sub_eq_add_neg] at this
        exact this
      refine s_Deal_greatest_7 k0 ⟨fun c => absurd c (nI_pos (by omega)), fun _ => ⟨fun c => ?_, fun c => ?_⟩⟩
      · exact hn (by rw [he, grS, if_neg (fun q => q.2 c)])
      · rw [ix13]
        refine c_Row_get r1 ?_
        rw [rg_in D _ (show 13 * p + j < 78 by omega) (by omega), show e + 1 + 1 = e + 2 by omega, f2 j (by omega)]
        refine ⟨fun c1 => ?_, fun c1 => ⟨_, rfl, ?_⟩⟩
        · exact hn (by rw [he, grS, if_neg (fun q => nI_nle q.1 (by omega) c1)])
        · have z : 0 < δ.1 p j := by
            apply Nat.lt_of_not_le
            intro q
            exact c1 (by rw [show δ.1 p j = 0 by omega]; decide)
          rw [he, grS, if_pos ⟨z, c⟩] at h
          exact h
  exact key K (Nat.le_refl _) rfl
end CHOICE
