theorem s_Row_size_0 {d : Nat} {D : xD} {Q : Option Value → xD → Prop} {a0 : Nat} (k0 : xk a0 = 2) (h : Q (some (.int (D.1 a0 1))) D) : xPf (d + 1) m_Row_size 0 [(0, .ref a0)] [] D Q := by
  refine x_aload_n rfl rfl ?_
  refine x_gI lf_Row_13 k0 rfl rfl ?_
  exact x_iret rfl rfl h
theorem s_Row_isFull_0 {d : Nat} {D : xD} {Q : Option Value → xD → Prop} {a0 : Nat} (k0 : xk a0 = 2) (h : ((D.1 a0 1) < (Int32.ofNat (xl (a0 + 1))) → Q (some (.int (0 : Int32))) D) ∧ (¬ (D.1 a0 1) < (Int32.ofNat (xl (a0 + 1))) → Q (some (.int (1 : Int32))) D)) : xPf (d + 1) m_Row_isFull 0 [(0, .ref a0)] [] D Q := by
  refine x_aload_n rfl rfl ?_
  refine x_gI lf_Row_13 k0 rfl rfl ?_
  refine x_aload_n rfl rfl ?_
  refine x_gR lf_Row_7 k0 rfl rfl ?_
  refine x_alen (t := 0) (ck_2_0 k0) (by decide) (xlt (ck_2_0 k0) (by decide)) rfl rfl ?_
  refine x_icmp_lt (tgt := 16) rfl rfl (fun c => ?_) (fun c => ?_)
  · have h := h.1 c
    refine x_iconst (v := (0 : Int32)) rfl rfl ?_
    exact x_zr rfl (Or.inl rfl) rfl h
  · have h := h.2 c
    refine x_iconst (v := (1 : Int32)) rfl rfl ?_
    refine x_goto (tgt := 17) rfl rfl ?_
    exact x_zr rfl (Or.inr rfl) rfl h
theorem s_Row_reaches_0 {d : Nat} {D : xD} {Q : Option Value → xD → Prop} {a0 : Nat} {x1 : Int32} (k0 : xk a0 = 2) (h : (x1 < 0 → Q (some (.int (0 : Int32))) D) ∧ (¬ x1 < 0 → ((D.1 a0 1) ≤ x1 → Q (some (.int (0 : Int32))) D) ∧ (¬ (D.1 a0 1) ≤ x1 → Q (some (.int (1 : Int32))) D))) : xPf (d + 1) m_Row_reaches 0 [(0, .ref a0), (1, .int x1)] [] D Q := by
  refine x_iload_n rfl rfl ?_
  refine x_if_lt (tgt := 16) rfl rfl (fun c => ?_) (fun c => ?_)
  · have h := h.1 c
    refine x_iconst (v := (0 : Int32)) rfl rfl ?_
    exact x_zr rfl (Or.inl rfl) rfl h
  · have h := h.2 c
    refine x_iload_n rfl rfl ?_
    refine x_aload_n rfl rfl ?_
    refine x_gI lf_Row_13 k0 rfl rfl ?_
    refine x_icmp_ge (tgt := 16) rfl rfl (fun c => ?_) (fun c => ?_)
    · have h := h.1 c
      refine x_iconst (v := (0 : Int32)) rfl rfl ?_
      exact x_zr rfl (Or.inl rfl) rfl h
    · have h := h.2 c
      refine x_iconst (v := (1 : Int32)) rfl rfl ?_
      refine x_goto (tgt := 17) rfl rfl ?_
      exact x_zr rfl (Or.inr rfl) rfl h
theorem s_Row_get_0 {d : Nat} {D : xD} {Q : Option Value → xD → Prop} {a0 : Nat} {x1 : Int32} (k0 : xk a0 = 2) (h : (x1 < 0 → Q (some (.int (0 : Int32))) D) ∧ (¬ x1 < 0 → ((D.1 a0 1) ≤ x1 → Q (some (.int (0 : Int32))) D) ∧ (¬ (D.1 a0 1) ≤ x1 → ((Int32.ofNat (xl (a0 + 1))) ≤ x1 → Q (some (.int (0 : Int32))) D) ∧ (¬ (Int32.ofNat (xl (a0 + 1))) ≤ x1 → vp_in x1 (xl (a0 + 1)) ∧ Q (some (.int (D.1 (a0 + 1) (x1 : Int32).toNatClampNeg))) D)))) : xPf (d + 1) m_Row_get 0 [(0, .ref a0), (1, .int x1)] [] D Q := by
  refine x_iload_n rfl rfl ?_
  refine x_if_lt (tgt := 30) rfl rfl (fun c => ?_) (fun c => ?_)
  · have h := h.1 c
    refine x_iconst (v := (0 : Int32)) rfl rfl ?_
    exact x_iret rfl rfl h
  · have h := h.2 c
    refine x_iload_n rfl rfl ?_
    refine x_aload_n rfl rfl ?_
    refine x_gI lf_Row_13 k0 rfl rfl ?_
    refine x_icmp_ge (tgt := 30) rfl rfl (fun c => ?_) (fun c => ?_)
    · have h := h.1 c
      refine x_iconst (v := (0 : Int32)) rfl rfl ?_
      exact x_iret rfl rfl h
    · have h := h.2 c
      refine x_iload_n rfl rfl ?_
      refine x_aload_n rfl rfl ?_
      refine x_gR lf_Row_7 k0 rfl rfl ?_
      refine x_alen (t := 0) (ck_2_0 k0) (by decide) (xlt (ck_2_0 k0) (by decide)) rfl rfl ?_
      refine x_icmp_ge (tgt := 30) rfl rfl (fun c => ?_) (fun c => ?_)
      · have h := h.1 c
        refine x_iconst (v := (0 : Int32)) rfl rfl ?_
        exact x_iret rfl rfl h
      · have h := h.2 c
        refine x_aload_n rfl rfl ?_
        refine x_gR lf_Row_7 k0 rfl rfl ?_
        refine x_iload_n rfl rfl ?_
        refine x_iald (ck_2_0 k0) (xlt (ck_2_0 k0) (by decide)) h.1 rfl ?_
        have h := h.2
        refine x_goto (tgt := 31) rfl rfl ?_
        exact x_iret rfl rfl h
theorem s_Row_set_0 {d : Nat} {D : xD} {Q : Option Value → xD → Prop} {a0 : Nat} {x1 : Int32} {x2 : Int32} (k0 : xk a0 = 2) (h : (x1 < 0 → Q none D) ∧ (¬ x1 < 0 → ((D.1 a0 1) ≤ x1 → Q none D) ∧ (¬ (D.1 a0 1) ≤ x1 → ((Int32.ofNat (xl (a0 + 1))) ≤ x1 → Q none D) ∧ (¬ (Int32.ofNat (xl (a0 + 1))) ≤ x1 → vp_in x1 (xl (a0 + 1)) ∧ ∀ D1 : xD, D1 = (xu D.1 (a0 + 1) (x1 : Int32).toNatClampNeg x2, D.2) → Q none D1)))) : xPf (d + 1) m_Row_set 0 [(0, .ref a0), (1, .int x1), (2, .int x2)] [] D Q := by
  refine x_iload_n rfl rfl ?_
  refine x_if_lt (tgt := 28) rfl rfl (fun c => ?_) (fun c => ?_)
  · have h := h.1 c
    exact x_vret rfl rfl h
  · have h := h.2 c
    refine x_iload_n rfl rfl ?_
    refine x_aload_n rfl rfl ?_
    refine x_gI lf_Row_13 k0 rfl rfl ?_
    refine x_icmp_ge (tgt := 28) rfl rfl (fun c => ?_) (fun c => ?_)
    · have h := h.1 c
      exact x_vret rfl rfl h
    · have h := h.2 c
      refine x_iload_n rfl rfl ?_
      refine x_aload_n rfl rfl ?_
      refine x_gR lf_Row_7 k0 rfl rfl ?_
      refine x_alen (t := 0) (ck_2_0 k0) (by decide) (xlt (ck_2_0 k0) (by decide)) rfl rfl ?_
      refine x_icmp_ge (tgt := 28) rfl rfl (fun c => ?_) (fun c => ?_)
      · have h := h.1 c
        exact x_vret rfl rfl h
      · have h := h.2 c
        refine x_aload_n rfl rfl ?_
        refine x_gR lf_Row_7 k0 rfl rfl ?_
        refine x_iload_n rfl rfl ?_
        refine x_iload_n rfl rfl ?_
        refine x_iastn (ck_2_0 k0) h.1 rfl (fun D1 eD1 => ?_)
        have h := h.2 D1 eD1
        exact x_vret rfl rfl h
theorem s_Row_add_0 {d : Nat} {D : xD} {Q : Option Value → xD → Prop} {a0 : Nat} {x1 : Int32} {x2 : Int32} (k0 : xk a0 = 2) (h : (x1 < 0 → Q none D) ∧ (¬ x1 < 0 → ((D.1 a0 1) ≤ x1 → Q none D) ∧ (¬ (D.1 a0 1) ≤ x1 → ((Int32.ofNat (xl (a0 + 1))) ≤ x1 → Q none D) ∧ (¬ (Int32.ofNat (xl (a0 + 1))) ≤ x1 → vp_in x1 (xl (a0 + 1)) ∧ vp_in x1 (xl (a0 + 1)) ∧ ∀ D1 : xD, D1 = (xu D.1 (a0 + 1) (x1 : Int32).toNatClampNeg ((D.1 (a0 + 1) (x1 : Int32).toNatClampNeg) + x2), D.2) → Q none D1)))) : xPf (d + 1) m_Row_add 0 [(0, .ref a0), (1, .int x1), (2, .int x2)] [] D Q := by
  refine x_iload_n rfl rfl ?_
  refine x_if_lt (tgt := 31) rfl rfl (fun c => ?_) (fun c => ?_)
  · have h := h.1 c
    exact x_vret rfl rfl h
  · have h := h.2 c
    refine x_iload_n rfl rfl ?_
    refine x_aload_n rfl rfl ?_
    refine x_gI lf_Row_13 k0 rfl rfl ?_
    refine x_icmp_ge (tgt := 31) rfl rfl (fun c => ?_) (fun c => ?_)
    · have h := h.1 c
      exact x_vret rfl rfl h
    · have h := h.2 c
      refine x_iload_n rfl rfl ?_
      refine x_aload_n rfl rfl ?_
      refine x_gR lf_Row_7 k0 rfl rfl ?_
      refine x_alen (t := 0) (ck_2_0 k0) (by decide) (xlt (ck_2_0 k0) (by decide)) rfl rfl ?_
      refine x_icmp_ge (tgt := 31) rfl rfl (fun c => ?_) (fun c => ?_)
      · have h := h.1 c
        exact x_vret rfl rfl h
      · have h := h.2 c
        refine x_aload_n rfl rfl ?_
        refine x_gR lf_Row_7 k0 rfl rfl ?_
        refine x_iload_n rfl rfl ?_
        refine x_dup2 rfl rfl rfl ?_
        refine x_iald (ck_2_0 k0) (xlt (ck_2_0 k0) (by decide)) h.1 rfl ?_
        have h := h.2
        refine x_iload_n rfl rfl ?_
        refine x_iadd rfl ?_
        refine x_iastn (ck_2_0 k0) h.1 rfl (fun D1 eD1 => ?_)
        have h := h.2 D1 eD1
        exact x_vret rfl rfl h
theorem s_Row_push_0 {d : Nat} {D : xD} {Q : Option Value → xD → Prop} {a0 : Nat} {x1 : Int32} (k0 : xk a0 = 2) (h : ((D.1 a0 1) < 0 → Q none D) ∧ (¬ (D.1 a0 1) < 0 → ((Int32.ofNat (xl (a0 + 1))) ≤ (D.1 a0 1) → Q none D) ∧ (¬ (Int32.ofNat (xl (a0 + 1))) ≤ (D.1 a0 1) → vp_in (D.1 a0 1) (xl (a0 + 1)) ∧ ∀ D1 : xD, D1 = (xu D.1 (a0 + 1) (D.1 a0 1 : Int32).toNatClampNeg x1, D.2) → ∀ D2 : xD, D2 = (xu D1.1 a0 1 ((D1.1 a0 1) + (1 : Int32)), D1.2) → Q none D2))) : xPf (d + 1) m_Row_push 0 [(0, .ref a0), (1, .int x1)] [] D Q := by
  refine x_aload_n rfl rfl ?_
  refine x_gI lf_Row_13 k0 rfl rfl ?_
  refine x_if_lt (tgt := 39) rfl rfl (fun c => ?_) (fun c => ?_)
  · have h := h.1 c
    exact x_vret rfl rfl h
  · have h := h.2 c
    refine x_aload_n rfl rfl ?_
    refine x_gI lf_Row_13 k0 rfl rfl ?_
    refine x_aload_n rfl rfl ?_
    refine x_gR lf_Row_7 k0 rfl rfl ?_
    refine x_alen (t := 0) (ck_2_0 k0) (by decide) (xlt (ck_2_0 k0) (by decide)) rfl rfl ?_
    refine x_icmp_ge (tgt := 39) rfl rfl (fun c => ?_) (fun c => ?_)
    · have h := h.1 c
      exact x_vret rfl rfl h
    · have h := h.2 c
      refine x_aload_n rfl rfl ?_
      refine x_gR lf_Row_7 k0 rfl rfl ?_
      refine x_aload_n rfl rfl ?_
      refine x_gI lf_Row_13 k0 rfl rfl ?_
      refine x_iload_n rfl rfl ?_
      refine x_iastn (ck_2_0 k0) h.1 rfl (fun D1 eD1 => ?_)
      have h := h.2 D1 eD1
      refine x_aload_n rfl rfl ?_
      refine x_dup rfl rfl ?_
      refine x_gI lf_Row_13 k0 rfl rfl ?_
      refine x_iconst (v := (1 : Int32)) rfl rfl ?_
      refine x_iadd rfl ?_
      refine x_pIn lp_Row_13 nf_2_1 k0 rfl rfl (fun D2 eD2 => ?_)
      have h := h D2 eD2
      exact x_vret rfl rfl h
theorem s_Row_remove_0 {d : Nat} {D : xD} {Q : Option Value → xD → Prop} {a0 : Nat} {x1 : Int32} (k0 : xk a0 = 2) (h : (x1 < 0 → Q none D) ∧ (¬ x1 < 0 → (x1 < (D.1 a0 1) → xPf (d + 1) m_Row_remove 15 [(0, .ref a0), (1, .int x1), (2, .int x1)] [] D Q) ∧ (¬ x1 < (D.1 a0 1) → Q none D))) : xPf (d + 1) m_Row_remove 0 [(0, .ref a0), (1, .int x1)] [] D Q := by
  refine x_iload_n rfl rfl ?_
  refine x_if_lt (tgt := 12) rfl rfl (fun c => ?_) (fun c => ?_)
  · have h := h.1 c
    exact x_vret rfl rfl h
  · have h := h.2 c
    refine x_iload_n rfl rfl ?_
    refine x_aload_n rfl rfl ?_
    refine x_gI lf_Row_13 k0 rfl rfl ?_
    refine x_icmp_lt (tgt := 13) rfl rfl (fun c => ?_) (fun c => ?_)
    · have h := h.1 c
      refine x_iload_n rfl rfl ?_
      refine x_istore_n (i := 2) (L1 := [(2, .int x1), (0, .ref a0), (1, .int x1)]) rfl rfl (Nat.le_of_ble_eq_true rfl) rfl ?_
      exact xP_sub [1, 2, 0] rfl h
    · have h := h.2 c
      exact x_vret rfl rfl h
theorem s_Row_remove_15 {d : Nat} {D : xD} {Q : Option Value → xD → Prop} {a0 : Nat} {x1 : Int32} {x2 : Int32} (k0 : xk a0 = 2) (h : ((D.1 a0 1) ≤ (x2 + (1 : Int32)) → ∀ D1 : xD, D1 = (xu D.1 a0 1 ((D.1 a0 1) - (1 : Int32)), D.2) → Q none D1) ∧ (¬ (D.1 a0 1) ≤ (x2 + (1 : Int32)) → xCi d m_Row_get [.ref a0, .int (x2 + (1 : Int32))] D (fun r3 D2 => xCv d m_Row_set [.ref a0, .int x2, .int r3] D2 (fun D4 => xPf (d + 1) m_Row_remove 15 [(0, .ref a0), (1, .int x1), (2, .int (x2 + (1 : Int32)))] [] D4 Q)))) : xPf (d + 1) m_Row_remove 15 [(0, .ref a0), (1, .int x1), (2, .int x2)] [] D Q := by
  refine x_iload_n rfl rfl ?_
  refine x_iconst (v := (1 : Int32)) rfl rfl ?_
  refine x_iadd rfl ?_
  refine x_aload_n rfl rfl ?_
  refine x_gI lf_Row_13 k0 rfl rfl ?_
  refine x_icmp_ge (tgt := 43) rfl rfl (fun c => ?_) (fun c => ?_)
  · have h := h.1 c
    refine x_aload_n rfl rfl ?_
    refine x_dup rfl rfl ?_
    refine x_gI lf_Row_13 k0 rfl rfl ?_
    refine x_iconst (v := (1 : Int32)) rfl rfl ?_
    refine x_isub rfl ?_
    refine x_pIn lp_Row_13 nf_2_1 k0 rfl rfl (fun D1 eD1 => ?_)
    have h := h D1 eD1
    exact x_vret rfl rfl h
  · have h := h.2 c
    refine x_aload_n rfl rfl ?_
    refine x_iload_n rfl rfl ?_
    refine x_aload_n rfl rfl ?_
    refine x_iload_n rfl rfl ?_
    refine x_iconst (v := (1 : Int32)) rfl rfl ?_
    refine x_iadd rfl ?_
    refine x_vi lm_Row_17 vf_Row_get k0 rfl rfl (Nat.le_of_ble_eq_true rfl) rfl h (fun r3 D2 h => ?_)
    refine x_vv lm_Row_21 vf_Row_set k0 rfl rfl (Nat.le_of_ble_eq_true rfl) rfl h (fun D4 h => ?_)
    refine x_iinc (i := 2) (v := x2 + (1 : Int32)) (L1 := [(2, .int (x2 + (1 : Int32))), (0, .ref a0), (1, .int x1)]) rfl rfl rfl (Nat.le_of_ble_eq_true rfl) rfl ?_
    refine x_goto (tgt := 15) rfl rfl ?_
    exact xP_sub [1, 2, 0] rfl h
theorem s_Row_clear_0 {d : Nat} {D : xD} {Q : Option Value → xD → Prop} {a0 : Nat} (k0 : xk a0 = 2) (h : ∀ D1 : xD, D1 = (xu D.1 a0 1 (0 : Int32), D.2) → Q none D1) : xPf (d + 1) m_Row_clear 0 [(0, .ref a0)] [] D Q := by
  refine x_aload_n rfl rfl ?_
  refine x_iconst (v := (0 : Int32)) rfl rfl ?_
  refine x_pIn lp_Row_13 nf_2_1 k0 rfl rfl (fun D1 eD1 => ?_)
  have h := h D1 eD1
  exact x_vret rfl rfl h
theorem s_Row_cut_0 {d : Nat} {D : xD} {Q : Option Value → xD → Prop} {a0 : Nat} {x1 : Int32} (k0 : xk a0 = 2) (h : (x1 < 0 → Q none D) ∧ (¬ x1 < 0 → ((D.1 a0 1) ≤ x1 → Q none D) ∧ (¬ (D.1 a0 1) ≤ x1 → ∀ D1 : xD, D1 = (xu D.1 a0 1 x1, D.2) → Q none D1))) : xPf (d + 1) m_Row_cut 0 [(0, .ref a0), (1, .int x1)] [] D Q := by
  refine x_iload_n rfl rfl ?_
  refine x_if_lt (tgt := 17) rfl rfl (fun c => ?_) (fun c => ?_)
  · have h := h.1 c
    exact x_vret rfl rfl h
  · have h := h.2 c
    refine x_iload_n rfl rfl ?_
    refine x_aload_n rfl rfl ?_
    refine x_gI lf_Row_13 k0 rfl rfl ?_
    refine x_icmp_ge (tgt := 17) rfl rfl (fun c => ?_) (fun c => ?_)
    · have h := h.1 c
      exact x_vret rfl rfl h
    · have h := h.2 c
      refine x_aload_n rfl rfl ?_
      refine x_iload_n rfl rfl ?_
      refine x_pIn lp_Row_13 nf_2_1 k0 rfl rfl (fun D1 eD1 => ?_)
      have h := h D1 eD1
      exact x_vret rfl rfl h
theorem s_Row_fill_0 {d : Nat} {D : xD} {Q : Option Value → xD → Prop} {a0 : Nat} {x1 : Int32} {x2 : Int32} (k0 : xk a0 = 2) (h : ∀ r1 : Int32, r1 = (if (Int32.ofNat (xl (a0 + 1))) < x1 then (Int32.ofNat (xl (a0 + 1))) else x1) → ∀ r2 : Int32, r2 = (if (0 : Int32) < r1 then r1 else (0 : Int32)) → ∀ D3 : xD, D3 = (xu D.1 a0 1 r2, D.2) → xCv d m_Arrays_fill [.ref (a0 + 1), .int x2] D3 (fun D4 => Q none D4)) : xPf (d + 1) m_Row_fill 0 [(0, .ref a0), (1, .int x1), (2, .int x2)] [] D Q := by
  refine x_aload_n rfl rfl ?_
  refine x_iconst (v := (0 : Int32)) rfl rfl ?_
  refine x_iload_n rfl rfl ?_
  refine x_aload_n rfl rfl ?_
  refine x_gR lf_Row_7 k0 rfl rfl ?_
  refine x_alen (t := 0) (ck_2_0 k0) (by decide) (xlt (ck_2_0 k0) (by decide)) rfl rfl ?_
  refine x_mnn wd_74 (Nat.le_of_ble_eq_true rfl) rfl (fun r1 er1 => ?_)
  have h := h r1 er1
  refine x_mxn wd_77 (Nat.le_of_ble_eq_true rfl) rfl (fun r2 er2 => ?_)
  have h := h r2 er2
  refine x_pIn lp_Row_13 nf_2_1 k0 rfl rfl (fun D3 eD3 => ?_)
  have h := h D3 eD3
  refine x_aload_n rfl rfl ?_
  refine x_gR lf_Row_7 k0 rfl rfl ?_
  refine x_iload_n rfl rfl ?_
  refine x_sv lm_Row_34 sf_Arrays_fill rfl rfl (Nat.le_of_ble_eq_true rfl) rfl h (fun D4 h => ?_)
  exact x_vret rfl rfl h
theorem s_Row_swap_0 {d : Nat} {D : xD} {Q : Option Value → xD → Prop} {a0 : Nat} {x1 : Int32} {x2 : Int32} (k0 : xk a0 = 2) (h : xCi d m_Row_get [.ref a0, .int x1] D (fun r2 D1 => xCi d m_Row_get [.ref a0, .int x2] D1 (fun r4 D3 => xCv d m_Row_set [.ref a0, .int x1, .int r4] D3 (fun D5 => xCv d m_Row_set [.ref a0, .int x2, .int r2] D5 (fun D6 => Q none D6))))) : xPf (d + 1) m_Row_swap 0 [(0, .ref a0), (1, .int x1), (2, .int x2)] [] D Q := by
  refine x_aload_n rfl rfl ?_
  refine x_iload_n rfl rfl ?_
  refine x_vi lm_Row_17 vf_Row_get k0 rfl rfl (Nat.le_of_ble_eq_true rfl) rfl h (fun r2 D1 h => ?_)
  refine x_istore_n (i := 3) (L1 := [(3, .int r2), (0, .ref a0), (1, .int x1), (2, .int x2)]) rfl rfl (Nat.le_of_ble_eq_true rfl) rfl ?_
  refine x_aload_n rfl rfl ?_
  refine x_iload_n rfl rfl ?_
  refine x_aload_n rfl rfl ?_
  refine x_iload_n rfl rfl ?_
  refine x_vi lm_Row_17 vf_Row_get k0 rfl rfl (Nat.le_of_ble_eq_true rfl) rfl h (fun r4 D3 h => ?_)
  refine x_vv lm_Row_21 vf_Row_set k0 rfl rfl (Nat.le_of_ble_eq_true rfl) rfl h (fun D5 h => ?_)
  refine x_aload_n rfl rfl ?_
  refine x_iload_n rfl rfl ?_
  refine x_iload_n rfl rfl ?_
  refine x_vv lm_Row_21 vf_Row_set k0 rfl rfl (Nat.le_of_ble_eq_true rfl) rfl h (fun D6 h => ?_)
  exact x_vret rfl rfl h
theorem s_Row_copy_0 {d : Nat} {D : xD} {Q : Option Value → xD → Prop} {a0 : Nat} {a1 : Nat} (k0 : xk a0 = 2) (k1 : xk a1 = 2) (h : ∀ r1 : Int32, r1 = (if (Int32.ofNat (xl (a0 + 1))) < (Int32.ofNat (xl (a1 + 1))) then (Int32.ofNat (xl (a0 + 1))) else (Int32.ofNat (xl (a1 + 1)))) → ∀ r2 : Int32, r2 = (if r1 < (D.1 a1 1) then r1 else (D.1 a1 1)) → ∀ r3 : Int32, r3 = (if (0 : Int32) < r2 then r2 else (0 : Int32)) → ∀ D4 : xD, D4 = (xu D.1 a0 1 r3, D.2) → ¬ (D4.1 a0 1) < 0 ∧ ((0 : Int32) : Int32).toNatClampNeg + (D4.1 a0 1 : Int32).toNatClampNeg ≤ xl (a1 + 1) ∧ ((0 : Int32) : Int32).toNatClampNeg + (D4.1 a0 1 : Int32).toNatClampNeg ≤ xl (a0 + 1) ∧ ∀ D5 : xD, D5 = (fun i => if i = a0 + 1 then va_cpy (D4.1 (a1 + 1)) (D4.1 (a0 + 1)) ((0 : Int32) : Int32).toNatClampNeg ((0 : Int32) : Int32).toNatClampNeg (D4.1 a0 1 : Int32).toNatClampNeg else D4.1 i, D4.2) → Q none D5) : xPf (d + 1) m_Row_copy 0 [(0, .ref a0), (1, .ref a1)] [] D Q := by
  refine x_aload_n rfl rfl ?_
  refine x_iconst (v := (0 : Int32)) rfl rfl ?_
  refine x_aload_n rfl rfl ?_
  refine x_gI lf_Row_13 k1 rfl rfl ?_
  refine x_aload_n rfl rfl ?_
  refine x_gR lf_Row_7 k1 rfl rfl ?_
  refine x_alen (t := 0) (ck_2_0 k1) (by decide) (xlt (ck_2_0 k1) (by decide)) rfl rfl ?_
  refine x_aload_n rfl rfl ?_
  refine x_gR lf_Row_7 k0 rfl rfl ?_
  refine x_alen (t := 0) (ck_2_0 k0) (by decide) (xlt (ck_2_0 k0) (by decide)) rfl rfl ?_
  refine x_mnn wd_74 (Nat.le_of_ble_eq_true rfl) rfl (fun r1 er1 => ?_)
  have h := h r1 er1
  refine x_mnn wd_74 (Nat.le_of_ble_eq_true rfl) rfl (fun r2 er2 => ?_)
  have h := h r2 er2
  refine x_mxn wd_77 (Nat.le_of_ble_eq_true rfl) rfl (fun r3 er3 => ?_)
  have h := h r3 er3
  refine x_pIn lp_Row_13 nf_2_1 k0 rfl rfl (fun D4 eD4 => ?_)
  have h := h D4 eD4
  refine x_aload_n rfl rfl ?_
  refine x_gR lf_Row_7 k1 rfl rfl ?_
  refine x_iconst (v := (0 : Int32)) rfl rfl ?_
  refine x_aload_n rfl rfl ?_
  refine x_gR lf_Row_7 k0 rfl rfl ?_
  refine x_iconst (v := (0 : Int32)) rfl rfl ?_
  refine x_aload_n rfl rfl ?_
  refine x_gI lf_Row_13 k0 rfl rfl ?_
  refine x_cpn wd_529 (ck_2_0 k1) (ck_2_0 k0) (by decide) (by decide) h.1 h.2.1 h.2.2.1 (Nat.le_of_ble_eq_true rfl) rfl (fun D5 eD5 => ?_)
  have h := h.2.2.2 D5 eD5
  exact x_vret rfl rfl h
theorem s_Row_countOf_0 {d : Nat} {D : xD} {Q : Option Value → xD → Prop} {a0 : Nat} {x1 : Int32} (k0 : xk a0 = 2) (h : xPf (d + 1) m_Row_countOf 4 [(0, .ref a0), (1, .int x1), (2, .int (0 : Int32)), (3, .int (0 : Int32))] [] D Q) : xPf (d + 1) m_Row_countOf 0 [(0, .ref a0), (1, .int x1)] [] D Q := by
  refine x_iconst (v := (0 : Int32)) rfl rfl ?_
  refine x_istore_n (i := 2) (L1 := [(2, .int (0 : Int32)), (0, .ref a0), (1, .int x1)]) rfl rfl (Nat.le_of_ble_eq_true rfl) rfl ?_
  refine x_iconst (v := (0 : Int32)) rfl rfl ?_
  refine x_istore_n (i := 3) (L1 := [(3, .int (0 : Int32)), (2, .int (0 : Int32)), (0, .ref a0), (1, .int x1)]) rfl rfl (Nat.le_of_ble_eq_true rfl) rfl ?_
  exact xP_sub [2, 3, 1, 0] rfl h
theorem s_Row_countOf_4 {d : Nat} {D : xD} {Q : Option Value → xD → Prop} {a0 : Nat} {x1 : Int32} {x2 : Int32} {x3 : Int32} (k0 : xk a0 = 2) (h : ((D.1 a0 1) ≤ x3 → Q (some (.int x2)) D) ∧ (¬ (D.1 a0 1) ≤ x3 → xCi d m_Row_get [.ref a0, .int x3] D (fun r2 D1 => (¬ r2 = x1 → xPf (d + 1) m_Row_countOf 4 [(0, .ref a0), (1, .int x1), (2, .int (x2 + (0 : Int32))), (3, .int (x3 + (1 : Int32)))] [] D1 Q) ∧ (r2 = x1 → xPf (d + 1) m_Row_countOf 4 [(0, .ref a0), (1, .int x1), (2, .int (x2 + (1 : Int32))), (3, .int (x3 + (1 : Int32)))] [] D1 Q)))) : xPf (d + 1) m_Row_countOf 4 [(0, .ref a0), (1, .int x1), (2, .int x2), (3, .int x3)] [] D Q := by
  refine x_iload_n rfl rfl ?_
  refine x_aload_n rfl rfl ?_
  refine x_gI lf_Row_13 k0 rfl rfl ?_
  refine x_icmp_ge (tgt := 35) rfl rfl (fun c => ?_) (fun c => ?_)
  · have h := h.1 c
    refine x_iload_n rfl rfl ?_
    exact x_iret rfl rfl h
  · have h := h.2 c
    refine x_iload_n rfl rfl ?_
    refine x_aload_n rfl rfl ?_
    refine x_iload_n rfl rfl ?_
    refine x_vi lm_Row_17 vf_Row_get k0 rfl rfl (Nat.le_of_ble_eq_true rfl) rfl h (fun r2 D1 h => ?_)
    refine x_iload_n rfl rfl ?_
    refine x_icmp_ne (tgt := 26) rfl rfl (fun c => ?_) (fun c => ?_)
    · have h := h.1 c
      refine x_iconst (v := (0 : Int32)) rfl rfl ?_
      refine x_iadd rfl ?_
      refine x_istore_n (i := 2) (L1 := [(2, .int (x2 + (0 : Int32))), (0, .ref a0), (1, .int x1), (3, .int x3)]) rfl rfl (Nat.le_of_ble_eq_true rfl) rfl ?_
      refine x_iinc (i := 3) (v := x3 + (1 : Int32)) (L1 := [(3, .int (x3 + (1 : Int32))), (2, .int (x2 + (0 : Int32))), (0, .ref a0), (1, .int x1)]) rfl rfl rfl (Nat.le_of_ble_eq_true rfl) rfl ?_
      refine x_goto (tgt := 4) rfl rfl ?_
      exact xP_sub [2, 3, 1, 0] rfl h
    · have h := h.2 c
      refine x_iconst (v := (1 : Int32)) rfl rfl ?_
      refine x_goto (tgt := 27) rfl rfl ?_
      refine x_iadd rfl ?_
      refine x_istore_n (i := 2) (L1 := [(2, .int (x2 + (1 : Int32))), (0, .ref a0), (1, .int x1), (3, .int x3)]) rfl rfl (Nat.le_of_ble_eq_true rfl) rfl ?_
      refine x_iinc (i := 3) (v := x3 + (1 : Int32)) (L1 := [(3, .int (x3 + (1 : Int32))), (2, .int (x2 + (1 : Int32))), (0, .ref a0), (1, .int x1)]) rfl rfl rfl (Nat.le_of_ble_eq_true rfl) rfl ?_
      refine x_goto (tgt := 4) rfl rfl ?_
      exact xP_sub [2, 3, 1, 0] rfl h
theorem s_Table_clear_0 {d : Nat} {D : xD} {Q : Option Value → xD → Prop} {a0 : Nat} (k0 : xk a0 = 4) (h : xCv d m_Row_fill [.ref (a0 + 1), .int (6 : Int32), .int (4 : Int32)] D (fun D1 => xCv d m_Row_set [.ref (a0 + 1), .int (3 : Int32), .int (1 : Int32)] D1 (fun D2 => xCv d m_Row_set [.ref (a0 + 1), .int (4 : Int32), .int (3 : Int32)] D2 (fun D3 => xCv d m_Row_set [.ref (a0 + 1), .int (5 : Int32), .int (0 : Int32)] D3 (fun D4 => xCv d m_Row_fill [.ref (a0 + 3), .int (42 : Int32), .int (0 : Int32)] D4 (fun D5 => xPf (d + 1) m_Table_clear 49 [(0, .ref a0), (1, .int (0 : Int32))] [] D5 Q)))))) : xPf (d + 1) m_Table_clear 0 [(0, .ref a0)] [] D Q := by
  refine x_aload_n rfl rfl ?_
  refine x_gR lf_Table_14 k0 rfl rfl ?_
  refine x_bipush (v := (6 : Int32)) rfl rfl ?_
  refine x_iconst (v := (4 : Int32)) rfl rfl ?_
  refine x_vv lm_Table_26 vf_Row_fill (ck_4_0 k0) rfl rfl (Nat.le_of_ble_eq_true rfl) rfl h (fun D1 h => ?_)
  refine x_aload_n rfl rfl ?_
  refine x_gR lf_Table_14 k0 rfl rfl ?_
  refine x_iconst (v := (3 : Int32)) rfl rfl ?_
  refine x_iconst (v := (1 : Int32)) rfl rfl ?_
  refine x_vv lm_Table_30 vf_Row_set (ck_4_0 k0) rfl rfl (Nat.le_of_ble_eq_true rfl) rfl h (fun D2 h => ?_)
  refine x_aload_n rfl rfl ?_
  refine x_gR lf_Table_14 k0 rfl rfl ?_
  refine x_iconst (v := (4 : Int32)) rfl rfl ?_
  refine x_iconst (v := (3 : Int32)) rfl rfl ?_
  refine x_vv lm_Table_30 vf_Row_set (ck_4_0 k0) rfl rfl (Nat.le_of_ble_eq_true rfl) rfl h (fun D3 h => ?_)
  refine x_aload_n rfl rfl ?_
  refine x_gR lf_Table_14 k0 rfl rfl ?_
  refine x_iconst (v := (5 : Int32)) rfl rfl ?_
  refine x_iconst (v := (0 : Int32)) rfl rfl ?_
  refine x_vv lm_Table_30 vf_Row_set (ck_4_0 k0) rfl rfl (Nat.le_of_ble_eq_true rfl) rfl h (fun D4 h => ?_)
  refine x_aload_n rfl rfl ?_
  refine x_gR lf_Table_20 k0 rfl rfl ?_
  refine x_bipush (v := (42 : Int32)) rfl rfl ?_
  refine x_iconst (v := (0 : Int32)) rfl rfl ?_
  refine x_vv lm_Table_26 vf_Row_fill (ck_4_1 k0) rfl rfl (Nat.le_of_ble_eq_true rfl) rfl h (fun D5 h => ?_)
  refine x_iconst (v := (0 : Int32)) rfl rfl ?_
  refine x_istore_n (i := 1) (L1 := [(1, .int (0 : Int32)), (0, .ref a0)]) rfl rfl (Nat.le_of_ble_eq_true rfl) rfl ?_
  exact xP_sub [1, 0] rfl h
theorem s_Table_clear_49 {d : Nat} {D : xD} {Q : Option Value → xD → Prop} {a0 : Nat} {x1 : Int32} (k0 : xk a0 = 4) (h : ((6 : Int32) ≤ x1 → Q none D) ∧ (¬ (6 : Int32) ≤ x1 → xCv d m_Table_setOf [.ref a0, .int x1, .int (5 : Int32), .int (-1 : Int32)] D (fun D1 => xPf (d + 1) m_Table_clear 49 [(0, .ref a0), (1, .int (x1 + (1 : Int32)))] [] D1 Q))) : xPf (d + 1) m_Table_clear 49 [(0, .ref a0), (1, .int x1)] [] D Q := by
  refine x_iload_n rfl rfl ?_
  refine x_bipush (v := (6 : Int32)) rfl rfl ?_
  refine x_icmp_ge (tgt := 68) rfl rfl (fun c => ?_) (fun c => ?_)
  · have h := h.1 c
    exact x_vret rfl rfl h
  · have h := h.2 c
    refine x_aload_n rfl rfl ?_
    refine x_iload_n rfl rfl ?_
    refine x_iconst (v := (5 : Int32)) rfl rfl ?_
    refine x_iconst (v := (-1 : Int32)) rfl rfl ?_
    refine x_vv lm_Table_33 vf_Table_setOf k0 rfl rfl (Nat.le_of_ble_eq_true rfl) rfl h (fun D1 h => ?_)
    refine x_iinc (i := 1) (v := x1 + (1 : Int32)) (L1 := [(1, .int (x1 + (1 : Int32))), (0, .ref a0)]) rfl rfl rfl (Nat.le_of_ble_eq_true rfl) rfl ?_
    refine x_goto (tgt := 49) rfl rfl ?_
    exact xP_sub [1, 0] rfl h
theorem s_Table_copy_0 {d : Nat} {D : xD} {Q : Option Value → xD → Prop} {a0 : Nat} {a1 : Nat} (k0 : xk a0 = 4) (k1 : xk a1 = 4) (h : xCv d m_Row_copy [.ref (a0 + 1), .ref (a1 + 1)] D (fun D1 => xCv d m_Row_copy [.ref (a0 + 3), .ref (a1 + 3)] D1 (fun D2 => Q none D2))) : xPf (d + 1) m_Table_copy 0 [(0, .ref a0), (1, .ref a1)] [] D Q := by
  refine x_aload_n rfl rfl ?_
  refine x_gR lf_Table_14 k0 rfl rfl ?_
  refine x_aload_n rfl rfl ?_
  refine x_gR lf_Table_14 k1 rfl rfl ?_
  refine x_vv lm_Table_37 vf_Row_copy (ck_4_0 k0) rfl rfl (Nat.le_of_ble_eq_true rfl) rfl h (fun D1 h => ?_)
  refine x_aload_n rfl rfl ?_
  refine x_gR lf_Table_20 k0 rfl rfl ?_
  refine x_aload_n rfl rfl ?_
  refine x_gR lf_Table_20 k1 rfl rfl ?_
  refine x_vv lm_Table_37 vf_Row_copy (ck_4_1 k0) rfl rfl (Nat.le_of_ble_eq_true rfl) rfl h (fun D2 h => ?_)
  exact x_vret rfl rfl h
theorem s_Table_copyEmpty_0 {d : Nat} {D : xD} {Q : Option Value → xD → Prop} {a0 : Nat} {a1 : Nat} (k0 : xk a0 = 4) (k1 : xk a1 = 4) (h : xCv d m_Row_copy [.ref (a0 + 1), .ref (a1 + 1)] D (fun D1 => xCv d m_Row_set [.ref (a0 + 1), .int (5 : Int32), .int (0 : Int32)] D1 (fun D2 => Q none D2))) : xPf (d + 1) m_Table_copyEmpty 0 [(0, .ref a0), (1, .ref a1)] [] D Q := by
  refine x_aload_n rfl rfl ?_
  refine x_gR lf_Table_14 k0 rfl rfl ?_
  refine x_aload_n rfl rfl ?_
  refine x_gR lf_Table_14 k1 rfl rfl ?_
  refine x_vv lm_Table_37 vf_Row_copy (ck_4_0 k0) rfl rfl (Nat.le_of_ble_eq_true rfl) rfl h (fun D1 h => ?_)
  refine x_aload_n rfl rfl ?_
  refine x_gR lf_Table_14 k0 rfl rfl ?_
  refine x_iconst (v := (5 : Int32)) rfl rfl ?_
  refine x_iconst (v := (0 : Int32)) rfl rfl ?_
  refine x_vv lm_Table_30 vf_Row_set (ck_4_0 k0) rfl rfl (Nat.le_of_ble_eq_true rfl) rfl h (fun D2 h => ?_)
  exact x_vret rfl rfl h
theorem s_Table_seat_0 {d : Nat} {D : xD} {Q : Option Value → xD → Prop} {a0 : Nat} {a1 : Nat} {x2 : Int32} (k0 : xk a0 = 4) (k1 : xk a1 = 4) (h : xPf (d + 1) m_Table_seat 2 [(0, .ref a0), (1, .ref a1), (2, .int x2), (3, .int (0 : Int32))] [] D Q) : xPf (d + 1) m_Table_seat 0 [(0, .ref a0), (1, .ref a1), (2, .int x2)] [] D Q := by
  refine x_iconst (v := (0 : Int32)) rfl rfl ?_
  refine x_istore_n (i := 3) (L1 := [(3, .int (0 : Int32)), (0, .ref a0), (1, .ref a1), (2, .int x2)]) rfl rfl (Nat.le_of_ble_eq_true rfl) rfl ?_
  exact xP_sub [1, 2, 3, 0] rfl h
theorem s_Table_seat_2 {d : Nat} {D : xD} {Q : Option Value → xD → Prop} {a0 : Nat} {a1 : Nat} {x2 : Int32} {x3 : Int32} (k0 : xk a0 = 4) (k1 : xk a1 = 4) (h : ((7 : Int32) ≤ x3 → xCv d m_Row_add [.ref (a0 + 1), .int (5 : Int32), .int (1 : Int32)] D (fun D1 => Q none D1)) ∧ (¬ (7 : Int32) ≤ x3 → xCi d m_Table_people [.ref a0] D (fun r3 D2 => xCi d m_Table_of [.ref a1, .int x2, .int x3] D2 (fun r5 D4 => xCv d m_Table_setOf [.ref a0, .int r3, .int x3, .int r5] D4 (fun D6 => xPf (d + 1) m_Table_seat 2 [(0, .ref a0), (1, .ref a1), (2, .int x2), (3, .int (x3 + (1 : Int32)))] [] D6 Q))))) : xPf (d + 1) m_Table_seat 2 [(0, .ref a0), (1, .ref a1), (2, .int x2), (3, .int x3)] [] D Q := by
  refine x_iload_n rfl rfl ?_
  refine x_bipush (v := (7 : Int32)) rfl rfl ?_
  refine x_icmp_ge (tgt := 29) rfl rfl (fun c => ?_) (fun c => ?_)
  · have h := h.1 c
    refine x_aload_n rfl rfl ?_
    refine x_gR lf_Table_14 k0 rfl rfl ?_
    refine x_iconst (v := (5 : Int32)) rfl rfl ?_
    refine x_iconst (v := (1 : Int32)) rfl rfl ?_
    refine x_vv lm_Table_49 vf_Row_add (ck_4_0 k0) rfl rfl (Nat.le_of_ble_eq_true rfl) rfl h (fun D1 h => ?_)
    exact x_vret rfl rfl h
  · have h := h.2 c
    refine x_aload_n rfl rfl ?_
    refine x_aload_n rfl rfl ?_
    refine x_vi lm_Table_41 vf_Table_people k0 rfl rfl (Nat.le_of_ble_eq_true rfl) rfl h (fun r3 D2 h => ?_)
    refine x_iload_n rfl rfl ?_
    refine x_aload_n rfl rfl ?_
    refine x_iload_n rfl rfl ?_
    refine x_iload_n rfl rfl ?_
    refine x_vi lm_Table_45 vf_Table_of k1 rfl rfl (Nat.le_of_ble_eq_true rfl) rfl h (fun r5 D4 h => ?_)
    refine x_vv lm_Table_33 vf_Table_setOf k0 rfl rfl (Nat.le_of_ble_eq_true rfl) rfl h (fun D6 h => ?_)
    refine x_iinc (i := 3) (v := x3 + (1 : Int32)) (L1 := [(3, .int (x3 + (1 : Int32))), (0, .ref a0), (1, .ref a1), (2, .int x2)]) rfl rfl rfl (Nat.le_of_ble_eq_true rfl) rfl ?_
    refine x_goto (tgt := 2) rfl rfl ?_
    exact xP_sub [1, 2, 3, 0] rfl h
theorem s_Table_number_0 {d : Nat} {D : xD} {Q : Option Value → xD → Prop} {a0 : Nat} {x1 : Int32} (k0 : xk a0 = 4) (h : xCi d m_Row_get [.ref (a0 + 1), .int x1] D (fun r2 D1 => Q (some (.int r2)) D1)) : xPf (d + 1) m_Table_number 0 [(0, .ref a0), (1, .int x1)] [] D Q := by
  refine x_aload_n rfl rfl ?_
  refine x_gR lf_Table_14 k0 rfl rfl ?_
  refine x_iload_n rfl rfl ?_
  refine x_vi lm_Table_52 vf_Row_get (ck_4_0 k0) rfl rfl (Nat.le_of_ble_eq_true rfl) rfl h (fun r2 D1 h => ?_)
  exact x_iret rfl rfl h
theorem s_Table_setNumber_0 {d : Nat} {D : xD} {Q : Option Value → xD → Prop} {a0 : Nat} {x1 : Int32} {x2 : Int32} (k0 : xk a0 = 4) (h : xCv d m_Row_set [.ref (a0 + 1), .int x1, .int x2] D (fun D1 => Q none D1)) : xPf (d + 1) m_Table_setNumber 0 [(0, .ref a0), (1, .int x1), (2, .int x2)] [] D Q := by
  refine x_aload_n rfl rfl ?_
  refine x_gR lf_Table_14 k0 rfl rfl ?_
  refine x_iload_n rfl rfl ?_
  refine x_iload_n rfl rfl ?_
  refine x_vv lm_Table_30 vf_Row_set (ck_4_0 k0) rfl rfl (Nat.le_of_ble_eq_true rfl) rfl h (fun D1 h => ?_)
  exact x_vret rfl rfl h
theorem s_Table_of_0 {d : Nat} {D : xD} {Q : Option Value → xD → Prop} {a0 : Nat} {x1 : Int32} {x2 : Int32} (k0 : xk a0 = 4) (h : xCi d m_Row_get [.ref (a0 + 3), .int ((x1 * (7 : Int32)) + x2)] D (fun r2 D1 => Q (some (.int r2)) D1)) : xPf (d + 1) m_Table_of 0 [(0, .ref a0), (1, .int x1), (2, .int x2)] [] D Q := by
  refine x_aload_n rfl rfl ?_
  refine x_gR lf_Table_20 k0 rfl rfl ?_
  refine x_iload_n rfl rfl ?_
  refine x_bipush (v := (7 : Int32)) rfl rfl ?_
  refine x_imul rfl ?_
  refine x_iload_n rfl rfl ?_
  refine x_iadd rfl ?_
  refine x_vi lm_Table_52 vf_Row_get (ck_4_1 k0) rfl rfl (Nat.le_of_ble_eq_true rfl) rfl h (fun r2 D1 h => ?_)
  exact x_iret rfl rfl h
theorem s_Table_setOf_0 {d : Nat} {D : xD} {Q : Option Value → xD → Prop} {a0 : Nat} {x1 : Int32} {x2 : Int32} {x3 : Int32} (k0 : xk a0 = 4) (h : xCv d m_Row_set [.ref (a0 + 3), .int ((x1 * (7 : Int32)) + x2), .int x3] D (fun D1 => Q none D1)) : xPf (d + 1) m_Table_setOf 0 [(0, .ref a0), (1, .int x1), (2, .int x2), (3, .int x3)] [] D Q := by
  refine x_aload_n rfl rfl ?_
  refine x_gR lf_Table_20 k0 rfl rfl ?_
  refine x_iload_n rfl rfl ?_
  refine x_bipush (v := (7 : Int32)) rfl rfl ?_
  refine x_imul rfl ?_
  refine x_iload_n rfl rfl ?_
  refine x_iadd rfl ?_
  refine x_iload_n rfl rfl ?_
  refine x_vv lm_Table_30 vf_Row_set (ck_4_1 k0) rfl rfl (Nat.le_of_ble_eq_true rfl) rfl h (fun D1 h => ?_)
  exact x_vret rfl rfl h
theorem s_Table_kinds_0 {d : Nat} {D : xD} {Q : Option Value → xD → Prop} {a0 : Nat} (k0 : xk a0 = 4) (h : xCi d m_Row_get [.ref (a0 + 1), .int (0 : Int32)] D (fun r2 D1 => Q (some (.int r2)) D1)) : xPf (d + 1) m_Table_kinds 0 [(0, .ref a0)] [] D Q := by
  refine x_aload_n rfl rfl ?_
  refine x_gR lf_Table_14 k0 rfl rfl ?_
  refine x_iconst (v := (0 : Int32)) rfl rfl ?_
  refine x_vi lm_Table_52 vf_Row_get (ck_4_0 k0) rfl rfl (Nat.le_of_ble_eq_true rfl) rfl h (fun r2 D1 h => ?_)
  exact x_iret rfl rfl h
theorem s_Table_alike_0 {d : Nat} {D : xD} {Q : Option Value → xD → Prop} {a0 : Nat} (k0 : xk a0 = 4) (h : xCi d m_Row_get [.ref (a0 + 1), .int (2 : Int32)] D (fun r2 D1 => Q (some (.int r2)) D1)) : xPf (d + 1) m_Table_alike 0 [(0, .ref a0)] [] D Q := by
  refine x_aload_n rfl rfl ?_
  refine x_gR lf_Table_14 k0 rfl rfl ?_
  refine x_iconst (v := (2 : Int32)) rfl rfl ?_
  refine x_vi lm_Table_52 vf_Row_get (ck_4_0 k0) rfl rfl (Nat.le_of_ble_eq_true rfl) rfl h (fun r2 D1 h => ?_)
  exact x_iret rfl rfl h
theorem s_Table_people_0 {d : Nat} {D : xD} {Q : Option Value → xD → Prop} {a0 : Nat} (k0 : xk a0 = 4) (h : xCi d m_Row_get [.ref (a0 + 1), .int (5 : Int32)] D (fun r2 D1 => Q (some (.int r2)) D1)) : xPf (d + 1) m_Table_people 0 [(0, .ref a0)] [] D Q := by
  refine x_aload_n rfl rfl ?_
  refine x_gR lf_Table_14 k0 rfl rfl ?_
  refine x_iconst (v := (5 : Int32)) rfl rfl ?_
  refine x_vi lm_Table_52 vf_Row_get (ck_4_0 k0) rfl rfl (Nat.le_of_ble_eq_true rfl) rfl h (fun r2 D1 h => ?_)
  exact x_iret rfl rfl h
theorem s_Table_pack_0 {d : Nat} {D : xD} {Q : Option Value → xD → Prop} {a0 : Nat} (k0 : xk a0 = 4) (h : xCi d m_Table_kinds [.ref a0] D (fun r2 D1 => xCi d m_Row_get [.ref (a0 + 1), .int (1 : Int32)] D1 (fun r4 D3 => Q (some (.int (r2 * r4))) D3))) : xPf (d + 1) m_Table_pack 0 [(0, .ref a0)] [] D Q := by
  refine x_aload_n rfl rfl ?_
  refine x_vi lm_Table_56 vf_Table_kinds k0 rfl rfl (Nat.le_of_ble_eq_true rfl) rfl h (fun r2 D1 h => ?_)
  refine x_aload_n rfl rfl ?_
  refine x_gR lf_Table_14 k0 rfl rfl ?_
  refine x_iconst (v := (1 : Int32)) rfl rfl ?_
  refine x_vi lm_Table_52 vf_Row_get (ck_4_0 k0) rfl rfl (Nat.le_of_ble_eq_true rfl) rfl h (fun r4 D3 h => ?_)
  refine x_imul rfl ?_
  exact x_iret rfl rfl h
theorem s_Table_allHold_0 {d : Nat} {D : xD} {Q : Option Value → xD → Prop} {a0 : Nat} (k0 : xk a0 = 4) (h : xCi d m_Table_people [.ref a0] D (fun r2 D1 => xCi d m_Table_alike [.ref a0] D1 (fun r4 D3 => Q (some (.int (r2 * r4))) D3))) : xPf (d + 1) m_Table_allHold 0 [(0, .ref a0)] [] D Q := by
  refine x_aload_n rfl rfl ?_
  refine x_vi lm_Table_41 vf_Table_people k0 rfl rfl (Nat.le_of_ble_eq_true rfl) rfl h (fun r2 D1 h => ?_)
  refine x_aload_n rfl rfl ?_
  refine x_vi lm_Table_59 vf_Table_alike k0 rfl rfl (Nat.le_of_ble_eq_true rfl) rfl h (fun r4 D3 h => ?_)
  refine x_imul rfl ?_
  exact x_iret rfl rfl h
theorem s_Table_has_0 {d : Nat} {D : xD} {Q : Option Value → xD → Prop} {a0 : Nat} {x1 : Int32} (k0 : xk a0 = 4) (h : (x1 < 0 → Q (some (.int (0 : Int32))) D) ∧ (¬ x1 < 0 → xCi d m_Table_people [.ref a0] D (fun r2 D1 => (r2 ≤ x1 → Q (some (.int (0 : Int32))) D1) ∧ (¬ r2 ≤ x1 → Q (some (.int (1 : Int32))) D1)))) : xPf (d + 1) m_Table_has 0 [(0, .ref a0), (1, .int x1)] [] D Q := by
  refine x_iload_n rfl rfl ?_
  refine x_if_lt (tgt := 16) rfl rfl (fun c => ?_) (fun c => ?_)
  · have h := h.1 c
    refine x_iconst (v := (0 : Int32)) rfl rfl ?_
    exact x_zr rfl (Or.inl rfl) rfl h
  · have h := h.2 c
    refine x_iload_n rfl rfl ?_
    refine x_aload_n rfl rfl ?_
    refine x_vi lm_Table_41 vf_Table_people k0 rfl rfl (Nat.le_of_ble_eq_true rfl) rfl h (fun r2 D1 h => ?_)
    refine x_icmp_ge (tgt := 16) rfl rfl (fun c => ?_) (fun c => ?_)
    · have h := h.1 c
      refine x_iconst (v := (0 : Int32)) rfl rfl ?_
      exact x_zr rfl (Or.inl rfl) rfl h
    · have h := h.2 c
      refine x_iconst (v := (1 : Int32)) rfl rfl ?_
      refine x_goto (tgt := 17) rfl rfl ?_
      exact x_zr rfl (Or.inr rfl) rfl h
theorem s_Table_hasKind_0 {d : Nat} {D : xD} {Q : Option Value → xD → Prop} {a0 : Nat} {x1 : Int32} (k0 : xk a0 = 4) (h : (x1 < 0 → Q (some (.int (0 : Int32))) D) ∧ (¬ x1 < 0 → xCi d m_Table_kinds [.ref a0] D (fun r2 D1 => (r2 ≤ x1 → Q (some (.int (0 : Int32))) D1) ∧ (¬ r2 ≤ x1 → Q (some (.int (1 : Int32))) D1)))) : xPf (d + 1) m_Table_hasKind 0 [(0, .ref a0), (1, .int x1)] [] D Q := by
  refine x_iload_n rfl rfl ?_
  refine x_if_lt (tgt := 16) rfl rfl (fun c => ?_) (fun c => ?_)
  · have h := h.1 c
    refine x_iconst (v := (0 : Int32)) rfl rfl ?_
    exact x_zr rfl (Or.inl rfl) rfl h
  · have h := h.2 c
    refine x_iload_n rfl rfl ?_
    refine x_aload_n rfl rfl ?_
    refine x_vi lm_Table_56 vf_Table_kinds k0 rfl rfl (Nat.le_of_ble_eq_true rfl) rfl h (fun r2 D1 h => ?_)
    refine x_icmp_ge (tgt := 16) rfl rfl (fun c => ?_) (fun c => ?_)
    · have h := h.1 c
      refine x_iconst (v := (0 : Int32)) rfl rfl ?_
      exact x_zr rfl (Or.inl rfl) rfl h
    · have h := h.2 c
      refine x_iconst (v := (1 : Int32)) rfl rfl ?_
      refine x_goto (tgt := 17) rfl rfl ?_
      exact x_zr rfl (Or.inr rfl) rfl h
theorem s_Table_suits_0 {d : Nat} {D : xD} {Q : Option Value → xD → Prop} {a0 : Nat} {a1 : Nat} (k0 : xk a0 = 4) (k1 : xk a1 = 2) (h : xPf (d + 1) m_Table_suits 4 [(0, .ref a0), (1, .ref a1), (2, .int (0 : Int32)), (3, .int (0 : Int32))] [] D Q) : xPf (d + 1) m_Table_suits 0 [(0, .ref a0), (1, .ref a1)] [] D Q := by
  refine x_iconst (v := (0 : Int32)) rfl rfl ?_
  refine x_istore_n (i := 2) (L1 := [(2, .int (0 : Int32)), (0, .ref a0), (1, .ref a1)]) rfl rfl (Nat.le_of_ble_eq_true rfl) rfl ?_
  refine x_iconst (v := (0 : Int32)) rfl rfl ?_
  refine x_istore_n (i := 3) (L1 := [(3, .int (0 : Int32)), (2, .int (0 : Int32)), (0, .ref a0), (1, .ref a1)]) rfl rfl (Nat.le_of_ble_eq_true rfl) rfl ?_
  exact xP_sub [2, 3, 1, 0] rfl h
theorem s_Table_suits_4 {d : Nat} {D : xD} {Q : Option Value → xD → Prop} {a0 : Nat} {a1 : Nat} {x2 : Int32} {x3 : Int32} (k0 : xk a0 = 4) (k1 : xk a1 = 2) (h : xCi d m_Table_kinds [.ref a0] D (fun r2 D1 => (r2 ≤ x3 → xCi d m_Row_size [.ref a1] D1 (fun r4 D3 => (¬ x2 = r4 → Q (some (.int (0 : Int32))) D3) ∧ (x2 = r4 → xCi d m_Table_allHold [.ref a0] D3 (fun r6 D5 => (x2 ≤ r6 → Q (some (.int (0 : Int32))) D5) ∧ (¬ x2 ≤ r6 → Q (some (.int (1 : Int32))) D5))))) ∧ (¬ r2 ≤ x3 → xCi d m_Row_countOf [.ref a1, .int x3] D1 (fun r8 D7 => xCi d m_Row_get [.ref (a0 + 1), .int (1 : Int32)] D7 (fun r10 D9 => (r8 ≤ r10 → xPf (d + 1) m_Table_suits 4 [(0, .ref a0), (1, .ref a1), (2, .int (x2 + r8)), (3, .int (x3 + (1 : Int32)))] [] D9 Q) ∧ (¬ r8 ≤ r10 → Q (some (.int (0 : Int32))) D9)))))) : xPf (d + 1) m_Table_suits 4 [(0, .ref a0), (1, .ref a1), (2, .int x2), (3, .int x3)] [] D Q := by
  refine x_iload_n rfl rfl ?_
  refine x_aload_n rfl rfl ?_
  refine x_vi lm_Table_56 vf_Table_kinds k0 rfl rfl (Nat.le_of_ble_eq_true rfl) rfl h (fun r2 D1 h => ?_)
  refine x_icmp_ge (tgt := 45) rfl rfl (fun c => ?_) (fun c => ?_)
  · have h := h.1 c
    refine x_iload_n rfl rfl ?_
    refine x_aload_n rfl rfl ?_
    refine x_vi lm_Table_65 vf_Row_size k1 rfl rfl (Nat.le_of_ble_eq_true rfl) rfl h (fun r4 D3 h => ?_)
    refine x_icmp_ne (tgt := 65) rfl rfl (fun c => ?_) (fun c => ?_)
    · have h := h.1 c
      refine x_iconst (v := (0 : Int32)) rfl rfl ?_
      exact x_zr rfl (Or.inl rfl) rfl h
    · have h := h.2 c
      refine x_iload_n rfl rfl ?_
      refine x_aload_n rfl rfl ?_
      refine x_vi lm_Table_68 vf_Table_allHold k0 rfl rfl (Nat.le_of_ble_eq_true rfl) rfl h (fun r6 D5 h => ?_)
      refine x_icmp_le (tgt := 65) rfl rfl (fun c => ?_) (fun c => ?_)
      · have h := h.1 c
        refine x_iconst (v := (0 : Int32)) rfl rfl ?_
        exact x_zr rfl (Or.inl rfl) rfl h
      · have h := h.2 c
        refine x_iconst (v := (1 : Int32)) rfl rfl ?_
        refine x_goto (tgt := 66) rfl rfl ?_
        exact x_zr rfl (Or.inr rfl) rfl h
  · have h := h.2 c
    refine x_aload_n rfl rfl ?_
    refine x_iload_n rfl rfl ?_
    refine x_vi lm_Table_62 vf_Row_countOf k1 rfl rfl (Nat.le_of_ble_eq_true rfl) rfl h (fun r8 D7 h => ?_)
    refine x_istore (i := 4) (L1 := [(4, .int r8), (0, .ref a0), (1, .ref a1), (2, .int x2), (3, .int x3)]) rfl (Nat.le_of_ble_eq_true rfl) rfl ?_
    refine x_iload rfl rfl ?_
    refine x_aload_n rfl rfl ?_
    refine x_gR lf_Table_14 k0 rfl rfl ?_
    refine x_iconst (v := (1 : Int32)) rfl rfl ?_
    refine x_vi lm_Table_52 vf_Row_get (ck_4_0 k0) rfl rfl (Nat.le_of_ble_eq_true rfl) rfl h (fun r10 D9 h => ?_)
    refine x_icmp_le (tgt := 34) rfl rfl (fun c => ?_) (fun c => ?_)
    · have h := h.1 c
      refine x_iload_n rfl rfl ?_
      refine x_iload rfl rfl ?_
      refine x_iadd rfl ?_
      refine x_istore_n (i := 2) (L1 := [(2, .int (x2 + r8)), (4, .int r8), (0, .ref a0), (1, .ref a1), (3, .int x3)]) rfl rfl (Nat.le_of_ble_eq_true rfl) rfl ?_
      refine x_iinc (i := 3) (v := x3 + (1 : Int32)) (L1 := [(3, .int (x3 + (1 : Int32))), (2, .int (x2 + r8)), (4, .int r8), (0, .ref a0), (1, .ref a1)]) rfl rfl rfl (Nat.le_of_ble_eq_true rfl) rfl ?_
      refine x_goto (tgt := 4) rfl rfl ?_
      exact xP_sub [3, 4, 1, 0] rfl h
    · have h := h.2 c
      refine x_iconst (v := (0 : Int32)) rfl rfl ?_
      exact x_zr rfl (Or.inl rfl) rfl h
theorem s_Table_goesInto_0 {d : Nat} {D : xD} {Q : Option Value → xD → Prop} {a0 : Nat} {x1 : Int32} {x2 : Int32} {x3 : Int32} (k0 : xk a0 = 4) (h : xCi d m_Table_of [.ref a0, .int x1, .int x2] D (fun r2 D1 => (r2 ≤ 0 → Q (some (.int (0 : Int32))) D1) ∧ (¬ r2 ≤ 0 → ¬ r2 = 0 ∧ (¬ (x3 - x3 / r2 * r2) = 0 → Q (some (.int (0 : Int32))) D1) ∧ ((x3 - x3 / r2 * r2) = 0 → Q (some (.int (1 : Int32))) D1)))) : xPf (d + 1) m_Table_goesInto 0 [(0, .ref a0), (1, .int x1), (2, .int x2), (3, .int x3)] [] D Q := by
  refine x_aload_n rfl rfl ?_
  refine x_iload_n rfl rfl ?_
  refine x_iload_n rfl rfl ?_
  refine x_vi lm_Table_45 vf_Table_of k0 rfl rfl (Nat.le_of_ble_eq_true rfl) rfl h (fun r2 D1 h => ?_)
  refine x_istore (i := 4) (L1 := [(4, .int r2), (0, .ref a0), (1, .int x1), (2, .int x2), (3, .int x3)]) rfl (Nat.le_of_ble_eq_true rfl) rfl ?_
  refine x_iload rfl rfl ?_
  refine x_if_le (tgt := 24) rfl rfl (fun c => ?_) (fun c => ?_)
  · have h := h.1 c
    refine x_iconst (v := (0 : Int32)) rfl rfl ?_
    exact x_zr rfl (Or.inl rfl) rfl h
  · have h := h.2 c
    refine x_iload_n rfl rfl ?_
    refine x_iload rfl rfl ?_
    refine x_irem rfl h.1 ?_
    have h := h.2
    refine x_if_ne (tgt := 24) rfl rfl (fun c => ?_) (fun c => ?_)
    · have h := h.1 c
      refine x_iconst (v := (0 : Int32)) rfl rfl ?_
      exact x_zr rfl (Or.inl rfl) rfl h
    · have h := h.2 c
      refine x_iconst (v := (1 : Int32)) rfl rfl ?_
      refine x_goto (tgt := 25) rfl rfl ?_
      exact x_zr rfl (Or.inr rfl) rfl h
theorem s_Table_waitOf_0 {d : Nat} {D : xD} {Q : Option Value → xD → Prop} {a0 : Nat} {x1 : Int32} {x2 : Int32} (k0 : xk a0 = 4) (h : xCi d m_Table_of [.ref a0, .int x1, .int (1 : Int32)] D (fun r2 D1 => (r2 ≤ 0 → xCi d m_Table_of [.ref a0, .int x1, .int (2 : Int32)] D1 (fun r4 D3 => xCi d m_Table_of [.ref a0, .int x1, .int (3 : Int32)] D3 (fun r6 D5 => Q (some (.int (((0 : Int32) + r4) + r6))) D5))) ∧ (¬ r2 ≤ 0 → ¬ r2 = 0 ∧ xCi d m_Table_of [.ref a0, .int x1, .int (2 : Int32)] D1 (fun r8 D7 => xCi d m_Table_of [.ref a0, .int x1, .int (3 : Int32)] D7 (fun r10 D9 => Q (some (.int (((r2 - (x2 - x2 / r2 * r2)) + r8) + r10))) D9))))) : xPf (d + 1) m_Table_waitOf 0 [(0, .ref a0), (1, .int x1), (2, .int x2)] [] D Q := by
  refine x_aload_n rfl rfl ?_
  refine x_iload_n rfl rfl ?_
  refine x_iconst (v := (1 : Int32)) rfl rfl ?_
  refine x_vi lm_Table_45 vf_Table_of k0 rfl rfl (Nat.le_of_ble_eq_true rfl) rfl h (fun r2 D1 h => ?_)
  refine x_istore_n (i := 3) (L1 := [(3, .int r2), (0, .ref a0), (1, .int x1), (2, .int x2)]) rfl rfl (Nat.le_of_ble_eq_true rfl) rfl ?_
  refine x_iload_n rfl rfl ?_
  refine x_if_le (tgt := 19) rfl rfl (fun c => ?_) (fun c => ?_)
  · have h := h.1 c
    refine x_iconst (v := (0 : Int32)) rfl rfl ?_
    refine x_istore (i := 4) (L1 := [(4, .int (0 : Int32)), (3, .int r2), (0, .ref a0), (1, .int x1), (2, .int x2)]) rfl (Nat.le_of_ble_eq_true rfl) rfl ?_
    refine x_iload rfl rfl ?_
    refine x_aload_n rfl rfl ?_
    refine x_iload_n rfl rfl ?_
    refine x_iconst (v := (2 : Int32)) rfl rfl ?_
    refine x_vi lm_Table_45 vf_Table_of k0 rfl rfl (Nat.le_of_ble_eq_true rfl) rfl h (fun r4 D3 h => ?_)
    refine x_iadd rfl ?_
    refine x_aload_n rfl rfl ?_
    refine x_iload_n rfl rfl ?_
    refine x_iconst (v := (3 : Int32)) rfl rfl ?_
    refine x_vi lm_Table_45 vf_Table_of k0 rfl rfl (Nat.le_of_ble_eq_true rfl) rfl h (fun r6 D5 h => ?_)
    refine x_iadd rfl ?_
    exact x_iret rfl rfl h
  · have h := h.2 c
    refine x_iload_n rfl rfl ?_
    refine x_iload_n rfl rfl ?_
    refine x_iload_n rfl rfl ?_
    refine x_irem rfl h.1 ?_
    have h := h.2
    refine x_isub rfl ?_
    refine x_goto (tgt := 20) rfl rfl ?_
    refine x_istore (i := 4) (L1 := [(4, .int (r2 - (x2 - x2 / r2 * r2))), (3, .int r2), (0, .ref a0), (1, .int x1), (2, .int x2)]) rfl (Nat.le_of_ble_eq_true rfl) rfl ?_
    refine x_iload rfl rfl ?_
    refine x_aload_n rfl rfl ?_
    refine x_iload_n rfl rfl ?_
    refine x_iconst (v := (2 : Int32)) rfl rfl ?_
    refine x_vi lm_Table_45 vf_Table_of k0 rfl rfl (Nat.le_of_ble_eq_true rfl) rfl h (fun r8 D7 h => ?_)
    refine x_iadd rfl ?_
    refine x_aload_n rfl rfl ?_
    refine x_iload_n rfl rfl ?_
    refine x_iconst (v := (3 : Int32)) rfl rfl ?_
    refine x_vi lm_Table_45 vf_Table_of k0 rfl rfl (Nat.le_of_ble_eq_true rfl) rfl h (fun r10 D9 h => ?_)
    refine x_iadd rfl ?_
    exact x_iret rfl rfl h
theorem s_Table_spoonOf_0 {d : Nat} {D : xD} {Q : Option Value → xD → Prop} {a0 : Nat} {x1 : Int32} {x2 : Int32} {x3 : Int32} (k0 : xk a0 = 4) (h : (¬ x1 = x2 → xCi d m_Table_waitOf [.ref a0, .int x1, .int x3] D (fun r2 D1 => Q (some (.int (x3 + r2))) D1)) ∧ (x1 = x2 → xCi d m_Table_of [.ref a0, .int x1, .int (2 : Int32)] D (fun r4 D3 => xCi d m_Table_of [.ref a0, .int x1, .int (3 : Int32)] D3 (fun r6 D5 => Q (some (.int ((x3 + r4) + r6))) D5)))) : xPf (d + 1) m_Table_spoonOf 0 [(0, .ref a0), (1, .int x1), (2, .int x2), (3, .int x3)] [] D Q := by
  refine x_iload_n rfl rfl ?_
  refine x_iload_n rfl rfl ?_
  refine x_icmp_ne (tgt := 21) rfl rfl (fun c => ?_) (fun c => ?_)
  · have h := h.1 c
    refine x_iload_n rfl rfl ?_
    refine x_aload_n rfl rfl ?_
    refine x_iload_n rfl rfl ?_
    refine x_iload_n rfl rfl ?_
    refine x_vi lm_Table_71 vf_Table_waitOf k0 rfl rfl (Nat.le_of_ble_eq_true rfl) rfl h (fun r2 D1 h => ?_)
    refine x_iadd rfl ?_
    exact x_iret rfl rfl h
  · have h := h.2 c
    refine x_iload_n rfl rfl ?_
    refine x_aload_n rfl rfl ?_
    refine x_iload_n rfl rfl ?_
    refine x_iconst (v := (2 : Int32)) rfl rfl ?_
    refine x_vi lm_Table_45 vf_Table_of k0 rfl rfl (Nat.le_of_ble_eq_true rfl) rfl h (fun r4 D3 h => ?_)
    refine x_iadd rfl ?_
    refine x_aload_n rfl rfl ?_
    refine x_iload_n rfl rfl ?_
    refine x_iconst (v := (3 : Int32)) rfl rfl ?_
    refine x_vi lm_Table_45 vf_Table_of k0 rfl rfl (Nat.le_of_ble_eq_true rfl) rfl h (fun r6 D5 h => ?_)
    refine x_iadd rfl ?_
    exact x_iret rfl rfl h
theorem s_Table_lastOf_0 {d : Nat} {D : xD} {Q : Option Value → xD → Prop} {a0 : Nat} {x1 : Int32} {x2 : Int32} (k0 : xk a0 = 4) (h : xPf (d + 1) m_Table_lastOf 8 [(0, .ref a0), (1, .int x1), (2, .int x2), (3, .int (-1 : Int32)), (4, .int (0 : Int32)), (5, .int (0 : Int32))] [] D Q) : xPf (d + 1) m_Table_lastOf 0 [(0, .ref a0), (1, .int x1), (2, .int x2)] [] D Q := by
  refine x_iconst (v := (-1 : Int32)) rfl rfl ?_
  refine x_istore_n (i := 3) (L1 := [(3, .int (-1 : Int32)), (0, .ref a0), (1, .int x1), (2, .int x2)]) rfl rfl (Nat.le_of_ble_eq_true rfl) rfl ?_
  refine x_iconst (v := (0 : Int32)) rfl rfl ?_
  refine x_istore (i := 4) (L1 := [(4, .int (0 : Int32)), (3, .int (-1 : Int32)), (0, .ref a0), (1, .int x1), (2, .int x2)]) rfl (Nat.le_of_ble_eq_true rfl) rfl ?_
  refine x_iconst (v := (0 : Int32)) rfl rfl ?_
  refine x_istore (i := 5) (L1 := [(5, .int (0 : Int32)), (4, .int (0 : Int32)), (3, .int (-1 : Int32)), (0, .ref a0), (1, .int x1), (2, .int x2)]) rfl (Nat.le_of_ble_eq_true rfl) rfl ?_
  exact xP_sub [3, 4, 5, 2, 1, 0] rfl h
theorem s_Table_lastOf_8 {d : Nat} {D : xD} {Q : Option Value → xD → Prop} {a0 : Nat} {x1 : Int32} {x2 : Int32} {x3 : Int32} {x4 : Int32} {x5 : Int32} (k0 : xk a0 = 4) (h : xCi d m_Table_people [.ref a0] D (fun r2 D1 => (r2 ≤ x5 → Q (some (.int x3)) D1) ∧ (¬ r2 ≤ x5 → xCi d m_Table_spoonOf [.ref a0, .int x5, .int x1, .int x2] D1 (fun r4 D3 => (x3 = (-1 : Int32) → xPf (d + 1) m_Table_lastOf 8 [(0, .ref a0), (1, .int x1), (2, .int x2), (3, .int x5), (4, .int r4), (5, .int (x5 + (1 : Int32)))] [] D3 Q) ∧ (¬ x3 = (-1 : Int32) → (r4 < x4 → xPf (d + 1) m_Table_lastOf 8 [(0, .ref a0), (1, .int x1), (2, .int x2), (3, .int x3), (4, .int x4), (5, .int (x5 + (1 : Int32)))] [] D3 Q) ∧ (¬ r4 < x4 → xPf (d + 1) m_Table_lastOf 8 [(0, .ref a0), (1, .int x1), (2, .int x2), (3, .int x5), (4, .int r4), (5, .int (x5 + (1 : Int32)))] [] D3 Q)))))) : xPf (d + 1) m_Table_lastOf 8 [(0, .ref a0), (1, .int x1), (2, .int x2), (3, .int x3), (4, .int x4), (5, .int x5)] [] D Q := by
  refine x_iload rfl rfl ?_
  refine x_aload_n rfl rfl ?_
  refine x_vi lm_Table_41 vf_Table_people k0 rfl rfl (Nat.le_of_ble_eq_true rfl) rfl h (fun r2 D1 h => ?_)
  refine x_icmp_ge (tgt := 52) rfl rfl (fun c => ?_) (fun c => ?_)
  · have h := h.1 c
    refine x_iload_n rfl rfl ?_
    exact x_iret rfl rfl h
  · have h := h.2 c
    refine x_aload_n rfl rfl ?_
    refine x_iload rfl rfl ?_
    refine x_iload_n rfl rfl ?_
    refine x_iload_n rfl rfl ?_
    refine x_vi lm_Table_74 vf_Table_spoonOf k0 rfl rfl (Nat.le_of_ble_eq_true rfl) rfl h (fun r4 D3 h => ?_)
    refine x_istore (i := 6) (L1 := [(6, .int r4), (0, .ref a0), (1, .int x1), (2, .int x2), (3, .int x3), (4, .int x4), (5, .int x5)]) rfl (Nat.le_of_ble_eq_true rfl) rfl ?_
    refine x_iload_n rfl rfl ?_
    refine x_iconst (v := (-1 : Int32)) rfl rfl ?_
    refine x_icmp_eq (tgt := 39) rfl rfl (fun c => ?_) (fun c => ?_)
    · have h := h.1 c
      refine x_iload rfl rfl ?_
      refine x_istore_n (i := 3) (L1 := [(3, .int x5), (6, .int r4), (0, .ref a0), (1, .int x1), (2, .int x2), (4, .int x4), (5, .int x5)]) rfl rfl (Nat.le_of_ble_eq_true rfl) rfl ?_
      refine x_iload rfl rfl ?_
      refine x_istore (i := 4) (L1 := [(4, .int r4), (3, .int x5), (6, .int r4), (0, .ref a0), (1, .int x1), (2, .int x2), (5, .int x5)]) rfl (Nat.le_of_ble_eq_true rfl) rfl ?_
      refine x_iinc (i := 5) (v := x5 + (1 : Int32)) (L1 := [(5, .int (x5 + (1 : Int32))), (4, .int r4), (3, .int x5), (6, .int r4), (0, .ref a0), (1, .int x1), (2, .int x2)]) rfl rfl rfl (Nat.le_of_ble_eq_true rfl) rfl ?_
      refine x_goto (tgt := 8) rfl rfl ?_
      exact xP_sub [4, 5, 6, 2, 1, 0] rfl h
    · have h := h.2 c
      refine x_iload rfl rfl ?_
      refine x_iload rfl rfl ?_
      refine x_icmp_lt (tgt := 46) rfl rfl (fun c => ?_) (fun c => ?_)
      · have h := h.1 c
        refine x_iinc (i := 5) (v := x5 + (1 : Int32)) (L1 := [(5, .int (x5 + (1 : Int32))), (6, .int r4), (0, .ref a0), (1, .int x1), (2, .int x2), (3, .int x3), (4, .int x4)]) rfl rfl rfl (Nat.le_of_ble_eq_true rfl) rfl ?_
        refine x_goto (tgt := 8) rfl rfl ?_
        exact xP_sub [2, 3, 4, 5, 6, 0] rfl h
      · have h := h.2 c
        refine x_iload rfl rfl ?_
        refine x_istore_n (i := 3) (L1 := [(3, .int x5), (6, .int r4), (0, .ref a0), (1, .int x1), (2, .int x2), (4, .int x4), (5, .int x5)]) rfl rfl (Nat.le_of_ble_eq_true rfl) rfl ?_
        refine x_iload rfl rfl ?_
        refine x_istore (i := 4) (L1 := [(4, .int r4), (3, .int x5), (6, .int r4), (0, .ref a0), (1, .int x1), (2, .int x2), (5, .int x5)]) rfl (Nat.le_of_ble_eq_true rfl) rfl ?_
        refine x_iinc (i := 5) (v := x5 + (1 : Int32)) (L1 := [(5, .int (x5 + (1 : Int32))), (4, .int r4), (3, .int x5), (6, .int r4), (0, .ref a0), (1, .int x1), (2, .int x2)]) rfl rfl rfl (Nat.le_of_ble_eq_true rfl) rfl ?_
        refine x_goto (tgt := 8) rfl rfl ?_
        exact xP_sub [4, 5, 6, 2, 1, 0] rfl h
