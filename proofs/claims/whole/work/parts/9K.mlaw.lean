/-! The reference: what one hands on. -/
/-- the best of those from k on, looked at from the greatest down -/
def fewD (f : Nat → Nat) (kp : Int32) (K k : Nat) (r : Option Nat) : Prop := match r with
  | none => ∀ j, k ≤ j → j < K → ¬ (0 < f j ∧ nI j ≠ kp)
  | some b => k ≤ b ∧ b < K ∧ (0 < f b ∧ nI b ≠ kp) ∧ ∀ j, k ≤ j → j < K → 0 < f j ∧ nI j ≠ kp → f b ≤ f j ∧ (f j = f b → j ≤ b)
theorem fewS_best {f : Nat → Nat} {kp : Int32} : ∀ {n b : Nat}, fewS f kp n = some b → ∀ j, j < n → 0 < f j ∧ nI j ≠ kp → f b ≤ f j ∧ (f j = f b → j ≤ b) := by
  intro n
  induction n with
  | zero => intro b h; cases h
  | succ n ih =>
    intro b h j hj hv
    unfold fewS at h
    cases hx : fewS f kp n with
    | none =>
      simp only [hx] at h
      have hn := fewS_none hx
      split at h
      · cases h
        by_cases e : j = n
        · subst e; exact ⟨Nat.le_refl _, fun _ => Nat.le_refl _⟩
        · exact absurd hv (hn j (by omega))
      · cases h
    | some a =>
      simp only [hx] at h
      have ha := ih hx
      have hs := fewS_some hx
      split at h
      · rename_i q
        cases h
        by_cases e : j = n
        · subst e; exact ⟨Nat.le_refl _, fun _ => Nat.le_refl _⟩
        · have := (ha j (by omega) hv).1
          exact ⟨by omega, fun _ => by omega⟩
      · rename_i q
        cases h
        by_cases e : j = n
        · subst e
          have : ¬ f j ≤ f b := fun z => q ⟨hv.1, hv.2, z⟩
          exact ⟨by omega, fun z => by omega⟩
        · exact ha j (by omega) hv
theorem fewD_0 {f : Nat → Nat} {kp : Int32} {K : Nat} {r : Option Nat} (h : fewD f kp K 0 r) : r = fewS f kp K := by
  cases hx : fewS f kp K with
  | none =>
    cases r with
    | none => rfl
    | some b => exact absurd h.2.2.1 (fewS_none hx b h.2.1)
  | some a =>
    have hs := fewS_some hx
    have hb := fewS_best hx
    cases r with
    | none => exact absurd hs.2 (h a (Nat.zero_le _) hs.1)
    | some b =>
      have g1 := hb b h.2.1 h.2.2.1
      have g2 := h.2.2.2 a (Nat.zero_le _) hs.1 hs.2
      have e : f a = f b := by omega
      have := g1.2 e.symm
      have := g2.2 e
      rw [show b = a by omega]
section MLAW
variable {d : Nat} {D : xD} {N A K n : Nat} {δ : dS}
theorem c_M_fewest {P : Int32 → xD → Prop} {p : Nat} {kp : Int32} (hD : mDl D N δ) (hW : dW N K n δ) (e27 : D.1 325 27 = nI K) (hN : N ≤ 6) (hK : K ≤ 13) (hp : p < N) (h : P (oI (fewS (δ.1 p) kp K)) D) : xCi (d + 1) m_M_fewest [.ref 325, .int (nI p), .int kp] D P := by
  have l21 : xl (325 + 21) = 78 := cl_13_41 xk_M
  have hv : ∀ k, k < K → D.1 (325 + 21) (13 * p + k) = nI (δ.1 p k) := fun k hk => hD.1 p hp k (by omega)
  have hi : ∀ k, k < K → vp_in (nI (13 * p + k)) (xl (325 + 21)) := fun k hk => by rw [l21]; exact vp_in_nI (by omega) (by omega)
  refine xCi_of y_M_fewest (Nat.le_of_ble_eq_true rfl) (s_M_fewest_0 xk_M ?_)
  have key : ∀ k, k ≤ K → ∀ r, fewD (δ.1 p) kp K k r → xPf (d + 1) m_M_fewest 10 [(0, .ref 325), (1, .int (nI p)), (2, .int kp), (3, .int (oI r)), (4, .int (nI k + (-1 : Int32)))] [] D (fun r D' => ∃ v, r = some (.int v) ∧ P v D') := by
    intro k
    induction k with
    | zero =>
      intro _ r hr
      have e : nI 0 + (-1 : Int32) = -1 := by decide
      rw [e]
      refine s_M_fewest_10 xk_M ⟨fun _ => ⟨_, rfl, ?_⟩, fun z => absurd (by decide) z⟩
      rw [fewD_0 hr]; exact h
    | succ k ih =>
      intro hk r hr
      rw [pk_m1]
      have bk := hW.hd hp (show k < 13 by omega)
      refine s_M_fewest_10 xk_M ?_
      rw [ix13', nI_clamp (n := 13 * p + k) (by omega), hv k (by omega)]
      -- it isn't taken
      have no : (r = none → ¬ (0 < δ.1 p k ∧ nI k ≠ kp)) → (∀ b, r = some b → 0 < δ.1 p k ∧ nI k ≠ kp → δ.1 p b ≤ δ.1 p k) → xPf (d + 1) m_M_fewest 10 [(0, .ref 325), (1, .int (nI p)), (2, .int kp), (3, .int (oI r)), (4, .int (nI k + (-1 : Int32)))] [] D (fun r D' => ∃ v, r = some (.int v) ∧ P v D') := by
        intro q1 q2
        refine ih (by omega) r ?_
        cases r with
        | none =>
          intro j hj hjK
          by_cases e : j = k
          · rw [e]; exact q1 rfl
          · exact hr j (by omega) hjK
        | some b =>
          obtain ⟨a1, a2, a3, a4⟩ := hr
          refine ⟨by omega, a2, a3, fun j hj hjK hv => ?_⟩
          by_cases e : j = k
          · subst e; exact ⟨q2 b rfl hv, fun _ => by omega⟩
          · exact a4 j (by omega) hjK hv
      -- it is
      have yes : 0 < δ.1 p k ∧ nI k ≠ kp → (∀ b, r = some b → δ.1 p k < δ.1 p b) → xPf (d + 1) m_M_fewest 10 [(0, .ref 325), (1, .int (nI p)), (2, .int kp), (3, .int (nI k)), (4, .int (nI k + (-1 : Int32)))] [] D (fun r D' => ∃ v, r = some (.int v) ∧ P v D') := by
        intro q1 q2
        refine ih (by omega) (some k) ⟨Nat.le_refl _, by omega, q1, fun j hj hjK hv => ?_⟩
        by_cases e : j = k
        · subst e; exact ⟨Nat.le_refl _, fun _ => Nat.le_refl _⟩
        · cases r with
          | none => exact absurd hv (hr j (by omega) hjK)
          | some b =>
            have := q2 b rfl
            have := (hr.2.2.2 j (by omega) hjK hv).1
            exact ⟨by omega, fun _ => by omega⟩
      refine ⟨fun z => absurd z (nI_pos (by omega)), fun _ => ⟨hi k (by omega), fun z => ?_, fun z => ⟨fun y => ?_, fun y => ⟨fun x => ?_, fun x => ?_⟩⟩⟩⟩
      · have : ¬ 0 < δ.1 p k := fun w => nI_nle w (by omega) z
        exact no (fun _ w => this w.1) (fun _ _ w => absurd w.1 this)
      · exact no (fun _ w => w.2 y) (fun _ _ w => absurd y w.2)
      · have hr0 : r = none := by
          cases r with
          | none => rfl
          | some b => exact absurd x (fun q => nI_pos (n := b) (by have := hr.2.1; omega) (by rw [show nI b = -1 from q]; decide))
        exact yes ⟨Nat.pos_of_ne_zero (fun w => z (by rw [w]; decide)), y⟩ (fun b w => by rw [hr0] at w; cases w)
      · cases r with
        | none => exact absurd rfl x
        | some b =>
          have bb := hW.hd hp (show b < 13 by have := hr.2.1; omega)
          show vp_in ((13 : Int32) * nI p + nI b) (xl (325 + 21)) ∧ _
          rw [show oI (some b) = nI b from rfl, ix13', nI_clamp (n := 13 * p + b) (by have := hr.2.1; omega), hv b hr.2.1]
          refine ⟨hi b hr.2.1, fun w => ?_, fun w => ?_⟩
          · have := (nI_leI (by omega) (by omega)).mp w
            exact no (fun q => by cases q) (fun b' q _ => by cases q; exact this)
          · exact yes ⟨Nat.pos_of_ne_zero (fun w => z (by rw [w]; decide)), y⟩ (fun b' q => by cases q; exact Nat.lt_of_not_le (fun v => w (nI_le v (by omega))))
  rw [e27, Int32.sub_eq_add_neg]
  exact key K (Nat.le_refl _) none (fun j hj hjK => absurd hjK (by omega))
theorem c_M_greatest {P : Int32 → xD → Prop} {p : Nat} {kp : Int32} (hD : mDl D N δ) (hW : dW N K n δ) (e27 : D.1 325 27 = nI K) (hN : N ≤ 6) (hK : K ≤ 13) (hp : p < N) (h : P (oI (grS (δ.1 p) kp K)) D) : xCi (d + 1) m_M_greatest [.ref 325, .int (nI p), .int kp] D P := by
  have l21 : xl (325 + 21) = 78 := cl_13_41 xk_M
  refine xCi_of y_M_greatest (Nat.le_of_ble_eq_true rfl) (s_M_greatest_0 xk_M ?_)
  have key : ∀ m k, k + m = K → xPf (d + 1) m_M_greatest 5 [(0, .ref 325), (1, .int (nI p)), (2, .int kp), (3, .int (oI (grS (δ.1 p) kp k))), (4, .int (nI k))] [] D (fun r D' => ∃ v, r = some (.int v) ∧ P v D') := by
    intro m
    induction m with
    | zero =>
      intro k hk
      refine s_M_greatest_5 xk_M ?_
      rw [e27]
      refine ⟨fun _ => ⟨_, rfl, ?_⟩, fun z => absurd (nI_le (by omega) (by omega)) z⟩
      rw [show k = K by omega]; exact h
    | succ m ih =>
      intro k hk
      have bk := hW.hd hp (show k < 13 by omega)
      have nx := ih (k + 1) (by omega)
      have e : grS (δ.1 p) kp (k + 1) = if 0 < δ.1 p k ∧ nI k ≠ kp then some k else grS (δ.1 p) kp k := rfl
      rw [e] at nx
      refine s_M_greatest_5 xk_M ?_
      rw [e27, ix13', nI_clamp (n := 13 * p + k) (by omega), show D.1 (325 + 21) (13 * p + k) = nI (δ.1 p k) from hD.1 p hp k (by omega), nI_1]
      refine ⟨fun z => absurd z (nI_ge (by omega) (by omega)), fun _ => ⟨by rw [l21]; exact vp_in_nI (by omega) (by omega), fun z => ?_, fun z => ⟨fun y => ?_, fun y => ?_⟩⟩⟩
      · rw [if_neg (fun w => nI_nle w.1 (by omega) z)] at nx; exact nx
      · rw [if_neg (fun w => w.2 y)] at nx; exact nx
      · rw [if_pos ⟨Nat.pos_of_ne_zero (fun w => z (by rw [w]; decide)), y⟩] at nx; exact nx
  exact key K 0 (by omega)
/-- what one hands on by his LAW -/
theorem c_M_handsOn {P : Int32 → xD → Prop} {p took law : Nat} {kd : Int32} (hD : mDl D N δ) (hW : dW N K n δ) (e27 : D.1 325 27 = nI K) (hN : N ≤ 6) (hK : K ≤ 13) (hp : p < N) (el : D.1 343 p = nI law) (ea : D.1 344 p = kd) (hlaw : law ≤ 3) (ht : took < K) (h0 : 0 < δ.1 p took)
    (h : P (chS law kd (δ.1 p) K took) D) : xCi (d + 2) m_M_handsOn [.ref 325, .int (nI p), .int (nI took)] D P := by
  have l18 : xl (325 + 18) = 6 := cl_13_37 xk_M
  have l19 : xl (325 + 19) = 6 := cl_13_38 xk_M
  have i18 : vp_in (nI p) (xl (325 + 18)) := by rw [l18]; exact vp_in_nI (by omega) (by omega)
  have i19 : vp_in (nI p) (xl (325 + 19)) := by rw [l19]; exact vp_in_nI (by omega) (by omega)
  have hm : ∀ k, k < K → nI k ≠ -1 := fun k hk q => nI_pos (n := k) (by omega) (by rw [q]; decide)
  have inj : ∀ v : Nat, v < 10 → nI law = nI v → law = v := fun v hv q => (nI_eq (by omega) (by omega)).mp q
  -- what is told of a choice
  have fin : ∀ (r : Option Nat) (kp : Int32), (∀ b, r = some b → b < K) → (r = none → P kd D) → (∀ b, r = some b → P (nI b) D) → (¬ oI r = (-1 : Int32) → ∃ v, some (Value.int (oI r)) = some (.int v) ∧ P v D) ∧ (oI r = (-1 : Int32) → vp_in (nI p) (xl (325 + 19)) ∧ ∃ v, some (Value.int (D.1 (325 + 19) (nI p).toNatClampNeg)) = some (.int v) ∧ P v D) := by
    intro r kp hb h1 h2
    cases r with
    | none =>
      refine ⟨fun z => absurd rfl z, fun _ => ⟨i19, _, rfl, ?_⟩⟩
      rw [nI_clamp (n := p) (by omega), show D.1 (325 + 19) p = kd from ea]
      exact h1 rfl
    | some b => exact ⟨fun _ => ⟨_, rfl, h2 b rfl⟩, fun z => absurd z (hm b (hb b rfl))⟩
  refine xCi_of y_M_handsOn (Nat.le_of_ble_eq_true rfl) (s_M_handsOn_0 xk_M ?_)
  rw [show D.1 (325 + 18) (nI p).toNatClampNeg = nI law from by rw [nI_clamp (n := p) (by omega)]; exact el]
  rw [show D.1 (325 + 19) (nI p).toNatClampNeg = kd from by rw [nI_clamp (n := p) (by omega)]; exact ea]
  unfold chS at h
  refine ⟨i18, fun q3 => ⟨i18, fun q0 => ⟨i18, fun q1 => ⟨i19, ?_⟩, fun q1 => ⟨i19, ?_⟩⟩, fun q0 => ?_⟩, fun q3 => ⟨fun _ => ⟨_, rfl, ?_⟩, fun z => absurd z (hm took ht)⟩⟩
  · have e2 : law = 2 := by
      have : law ≠ 3 := fun w => q3 (by rw [w]; rfl)
      have : law ≠ 0 := fun w => q0 (by rw [w]; rfl)
      have : law ≠ 1 := fun w => q1 (by rw [w]; rfl)
      omega
    rw [if_neg (by omega), if_pos e2] at h
    refine c_M_fewest hD hW e27 hN hK hp ?_
    have := fin (fewS (δ.1 p) kd K) kd (fun b q => (fewS_some q).1) (fun q => by rw [q] at h; exact h) (fun b q => by rw [q] at h; exact h)
    exact this
  · rw [if_pos (inj 1 (by omega) q1)] at h
    refine c_M_greatest hD hW e27 hN hK hp ?_
    exact fin (grS (δ.1 p) kd K) kd (fun b q => (grS_some q).1) (fun q => by rw [q] at h; exact h) (fun b q => by rw [q] at h; exact h)
  · have e0 : law = 0 := by
      apply Decidable.byContradiction
      intro q
      exact nI_ne0 (by omega) (by omega) q0
    rw [if_neg (by omega), if_neg (by omega), if_neg (by omega)] at h
    refine c_M_fewest hD hW e27 hN hK hp ?_
    exact fin (fewS (δ.1 p) (-1) K) kd (fun b q => (fewS_some q).1) (fun q => absurd ⟨h0, hm took ht⟩ (fewS_none q took ht)) (fun b q => by rw [q] at h; exact h)
  · have e3 := inj 3 (by omega) q3
    rw [if_neg (by omega), if_neg (by omega), if_pos e3] at h
    exact h
end MLAW
