theorem s_M_of_0 {d : Nat} {D : xD} {Q : Option Value → xD → Prop} {a0 : Nat} {x1 : Int32} (k0 : xk a0 = 13) (h : vp_in (((48 : Int32) * (D.1 a0 26)) + x1) (xl (a0 + 6)) ∧ Q (some (.int (D.1 (a0 + 6) (((48 : Int32) * (D.1 a0 26)) + x1 : Int32).toNatClampNeg))) D) : xPf (d + 1) m_M_of 0 [(0, .ref a0), (1, .int x1)] [] D Q := by
  refine x_aload_n rfl rfl ?_
  refine x_gR lf_M_26 k0 rfl rfl ?_
  refine x_bipush (v := (48 : Int32)) rfl rfl ?_
  refine x_aload_n rfl rfl ?_
  refine x_gI lf_M_328 k0 rfl rfl ?_
  refine x_imul rfl ?_
  refine x_iload_n rfl rfl ?_
  refine x_iadd rfl ?_
  refine x_iald (ck_13_6 k0) (xlt (ck_13_6 k0) (by decide)) h.1 rfl ?_
  have h := h.2
  exact x_iret rfl rfl h
theorem s_M_ofOne_0 {d : Nat} {D : xD} {Q : Option Value → xD → Prop} {a0 : Nat} {x1 : Int32} {x2 : Int32} (k0 : xk a0 = 13) (h : xCi d m_M_of [.ref a0, .int (((6 : Int32) + ((7 : Int32) * x1)) + x2)] D (fun r2 D1 => Q (some (.int r2)) D1)) : xPf (d + 1) m_M_ofOne 0 [(0, .ref a0), (1, .int x1), (2, .int x2)] [] D Q := by
  refine x_aload_n rfl rfl ?_
  refine x_bipush (v := (6 : Int32)) rfl rfl ?_
  refine x_bipush (v := (7 : Int32)) rfl rfl ?_
  refine x_iload_n rfl rfl ?_
  refine x_imul rfl ?_
  refine x_iadd rfl ?_
  refine x_iload_n rfl rfl ?_
  refine x_iadd rfl ?_
  refine x_vi lm_M_331 vf_M_of k0 rfl rfl (Nat.le_of_ble_eq_true rfl) rfl h (fun r2 D1 h => ?_)
  exact x_iret rfl rfl h
theorem s_M_hand1_0 {d : Nat} {D : xD} {Q : Option Value → xD → Prop} {a0 : Nat} {x1 : Int32} (k0 : xk a0 = 13) (h : xCi d m_M_is [.ref a0, .int (0 : Int32), .int x1] D (fun r2 D1 => (¬ r2 = 0 → ∀ D3 : xD, D3 = (xu D1.1 a0 26 x1, D1.2) → xCi d m_M_of [.ref a0, .int (0 : Int32)] D3 (fun r5 D4 => ∀ D6 : xD, D6 = (xu D4.1 a0 27 r5, D4.2) → xCi d m_M_of [.ref a0, .int (1 : Int32)] D6 (fun r8 D7 => ∀ D9 : xD, D9 = (xu D7.1 a0 28 r8, D7.2) → xCi d m_M_of [.ref a0, .int (2 : Int32)] D9 (fun r11 D10 => ∀ D12 : xD, D12 = (xu D10.1 a0 29 r11, D10.2) → xCi d m_M_of [.ref a0, .int (5 : Int32)] D12 (fun r14 D13 => ∀ D15 : xD, D15 = (xu D13.1 a0 30 r14, D13.2) → xPf (d + 1) m_M_hand1 54 [(0, .ref a0), (1, .int x1), (2, .int (0 : Int32))] [] D15 Q))))) ∧ (r2 = 0 → Q (some (.int (0 : Int32))) D1))) : xPf (d + 1) m_M_hand1 0 [(0, .ref a0), (1, .int x1)] [] D Q := by
  refine x_aload_n rfl rfl ?_
  refine x_iconst (v := (0 : Int32)) rfl rfl ?_
  refine x_iload_n rfl rfl ?_
  refine x_vi lm_M_319 vf_M_is k0 rfl rfl (Nat.le_of_ble_eq_true rfl) rfl h (fun r2 D1 h => ?_)
  refine x_if_ne (tgt := 11) rfl rfl (fun c => ?_) (fun c => ?_)
  · have h := h.1 c
    refine x_aload_n rfl rfl ?_
    refine x_iload_n rfl rfl ?_
    refine x_pIn lp_M_328 nf_13_26 k0 rfl rfl (fun D3 eD3 => ?_)
    have h := h D3 eD3
    refine x_aload_n rfl rfl ?_
    refine x_aload_n rfl rfl ?_
    refine x_iconst (v := (0 : Int32)) rfl rfl ?_
    refine x_vi lm_M_331 vf_M_of k0 rfl rfl (Nat.le_of_ble_eq_true rfl) rfl h (fun r5 D4 h => ?_)
    refine x_pIn lp_M_335 nf_13_27 k0 rfl rfl (fun D6 eD6 => ?_)
    have h := h D6 eD6
    refine x_aload_n rfl rfl ?_
    refine x_aload_n rfl rfl ?_
    refine x_iconst (v := (1 : Int32)) rfl rfl ?_
    refine x_vi lm_M_331 vf_M_of k0 rfl rfl (Nat.le_of_ble_eq_true rfl) rfl h (fun r8 D7 h => ?_)
    refine x_pIn lp_M_338 nf_13_28 k0 rfl rfl (fun D9 eD9 => ?_)
    have h := h D9 eD9
    refine x_aload_n rfl rfl ?_
    refine x_aload_n rfl rfl ?_
    refine x_iconst (v := (2 : Int32)) rfl rfl ?_
    refine x_vi lm_M_331 vf_M_of k0 rfl rfl (Nat.le_of_ble_eq_true rfl) rfl h (fun r11 D10 h => ?_)
    refine x_pIn lp_M_341 nf_13_29 k0 rfl rfl (fun D12 eD12 => ?_)
    have h := h D12 eD12
    refine x_aload_n rfl rfl ?_
    refine x_aload_n rfl rfl ?_
    refine x_iconst (v := (5 : Int32)) rfl rfl ?_
    refine x_vi lm_M_331 vf_M_of k0 rfl rfl (Nat.le_of_ble_eq_true rfl) rfl h (fun r14 D13 h => ?_)
    refine x_pIn lp_M_344 nf_13_30 k0 rfl rfl (fun D15 eD15 => ?_)
    have h := h D15 eD15
    refine x_iconst (v := (0 : Int32)) rfl rfl ?_
    refine x_istore_n (i := 2) (L1 := [(2, .int (0 : Int32)), (0, .ref a0), (1, .int x1)]) rfl rfl (Nat.le_of_ble_eq_true rfl) rfl ?_
    exact xP_sub [1, 2, 0] rfl h
  · have h := h.2 c
    refine x_iconst (v := (0 : Int32)) rfl rfl ?_
    exact x_zr rfl (Or.inl rfl) rfl h
theorem s_M_hand1_54 {d : Nat} {D : xD} {Q : Option Value → xD → Prop} {a0 : Nat} {x1 : Int32} {x2 : Int32} (k0 : xk a0 = 13) (h : ((D.1 a0 30) ≤ x2 → xCv d m_M_sit [.ref a0, .int (D.1 a0 30)] D (fun D1 => Q (some (.int (1 : Int32))) D1)) ∧ (¬ (D.1 a0 30) ≤ x2 → vp_in x2 (xl (a0 + 13)) ∧ ∀ D2 : xD, D2 = (xu D.1 (a0 + 13) (x2 : Int32).toNatClampNeg x2, D.2) → xPf (d + 1) m_M_hand1 54 [(0, .ref a0), (1, .int x1), (2, .int (x2 + (1 : Int32)))] [] D2 Q)) : xPf (d + 1) m_M_hand1 54 [(0, .ref a0), (1, .int x1), (2, .int x2)] [] D Q := by
  refine x_iload_n rfl rfl ?_
  refine x_aload_n rfl rfl ?_
  refine x_gI lf_M_344 k0 rfl rfl ?_
  refine x_icmp_ge (tgt := 75) rfl rfl (fun c => ?_) (fun c => ?_)
  · have h := h.1 c
    refine x_aload_n rfl rfl ?_
    refine x_aload_n rfl rfl ?_
    refine x_gI lf_M_344 k0 rfl rfl ?_
    refine x_vv lm_M_347 vf_M_sit k0 rfl rfl (Nat.le_of_ble_eq_true rfl) rfl h (fun D1 h => ?_)
    refine x_iconst (v := (1 : Int32)) rfl rfl ?_
    exact x_zr rfl (Or.inr rfl) rfl h
  · have h := h.2 c
    refine x_aload_n rfl rfl ?_
    refine x_gR lf_M_47 k0 rfl rfl ?_
    refine x_iload_n rfl rfl ?_
    refine x_iload_n rfl rfl ?_
    refine x_iastn (ck_13_32 k0) h.1 rfl (fun D2 eD2 => ?_)
    have h := h.2 D2 eD2
    refine x_iinc (i := 2) (v := x2 + (1 : Int32)) (L1 := [(2, .int (x2 + (1 : Int32))), (0, .ref a0), (1, .int x1)]) rfl rfl rfl (Nat.le_of_ble_eq_true rfl) rfl ?_
    refine x_goto (tgt := 54) rfl rfl ?_
    exact xP_sub [1, 2, 0] rfl h
theorem s_M_sit_0 {d : Nat} {D : xD} {Q : Option Value → xD → Prop} {a0 : Nat} {x1 : Int32} (k0 : xk a0 = 13) (h : ∀ D1 : xD, D1 = (xu D.1 a0 31 x1, D.2) → xPf (d + 1) m_M_sit 7 [(0, .ref a0), (1, .int x1), (2, .int (0 : Int32))] [] D1 Q) : xPf (d + 1) m_M_sit 0 [(0, .ref a0), (1, .int x1)] [] D Q := by
  refine x_aload_n rfl rfl ?_
  refine x_iload_n rfl rfl ?_
  refine x_pIn lp_M_350 nf_13_31 k0 rfl rfl (fun D1 eD1 => ?_)
  have h := h D1 eD1
  refine x_iconst (v := (0 : Int32)) rfl rfl ?_
  refine x_istore_n (i := 2) (L1 := [(2, .int (0 : Int32)), (0, .ref a0), (1, .int x1)]) rfl rfl (Nat.le_of_ble_eq_true rfl) rfl ?_
  exact xP_sub [1, 2, 0] rfl h
theorem s_M_sit_7 {d : Nat} {D : xD} {Q : Option Value → xD → Prop} {a0 : Nat} {x1 : Int32} {x2 : Int32} (k0 : xk a0 = 13) (h : (x1 ≤ x2 → Q none D) ∧ (¬ x1 ≤ x2 → vp_in x2 (xl (a0 + 13)) ∧ xCi d m_M_ofOne [.ref a0, .int (D.1 (a0 + 13) (x2 : Int32).toNatClampNeg), .int (0 : Int32)] D (fun r2 D1 => vp_in x2 (xl (a0 + 14)) ∧ ∀ D3 : xD, D3 = (xu D1.1 (a0 + 14) (x2 : Int32).toNatClampNeg r2, D1.2) → vp_in x2 (xl (a0 + 13)) ∧ xCi d m_M_ofOne [.ref a0, .int (D3.1 (a0 + 13) (x2 : Int32).toNatClampNeg), .int (1 : Int32)] D3 (fun r5 D4 => vp_in x2 (xl (a0 + 15)) ∧ ∀ D6 : xD, D6 = (xu D4.1 (a0 + 15) (x2 : Int32).toNatClampNeg r5, D4.2) → vp_in x2 (xl (a0 + 13)) ∧ xCi d m_M_ofOne [.ref a0, .int (D6.1 (a0 + 13) (x2 : Int32).toNatClampNeg), .int (2 : Int32)] D6 (fun r8 D7 => vp_in x2 (xl (a0 + 16)) ∧ ∀ D9 : xD, D9 = (xu D7.1 (a0 + 16) (x2 : Int32).toNatClampNeg r8, D7.2) → vp_in x2 (xl (a0 + 13)) ∧ xCi d m_M_ofOne [.ref a0, .int (D9.1 (a0 + 13) (x2 : Int32).toNatClampNeg), .int (3 : Int32)] D9 (fun r11 D10 => vp_in x2 (xl (a0 + 17)) ∧ ∀ D12 : xD, D12 = (xu D10.1 (a0 + 17) (x2 : Int32).toNatClampNeg r11, D10.2) → vp_in x2 (xl (a0 + 13)) ∧ xCi d m_M_ofOne [.ref a0, .int (D12.1 (a0 + 13) (x2 : Int32).toNatClampNeg), .int (4 : Int32)] D12 (fun r14 D13 => vp_in x2 (xl (a0 + 18)) ∧ ∀ D15 : xD, D15 = (xu D13.1 (a0 + 18) (x2 : Int32).toNatClampNeg r14, D13.2) → vp_in x2 (xl (a0 + 13)) ∧ xCi d m_M_ofOne [.ref a0, .int (D15.1 (a0 + 13) (x2 : Int32).toNatClampNeg), .int (5 : Int32)] D15 (fun r17 D16 => vp_in x2 (xl (a0 + 19)) ∧ ∀ D18 : xD, D18 = (xu D16.1 (a0 + 19) (x2 : Int32).toNatClampNeg r17, D16.2) → xPf (d + 1) m_M_sit 7 [(0, .ref a0), (1, .int x1), (2, .int (x2 + (1 : Int32)))] [] D18 Q)))))))) : xPf (d + 1) m_M_sit 7 [(0, .ref a0), (1, .int x1), (2, .int x2)] [] D Q := by
  refine x_iload_n rfl rfl ?_
  refine x_iload_n rfl rfl ?_
  refine x_icmp_ge (tgt := 120) rfl rfl (fun c => ?_) (fun c => ?_)
  · have h := h.1 c
    exact x_vret rfl rfl h
  · have h := h.2 c
    refine x_aload_n rfl rfl ?_
    refine x_gR lf_M_50 k0 rfl rfl ?_
    refine x_iload_n rfl rfl ?_
    refine x_aload_n rfl rfl ?_
    refine x_aload_n rfl rfl ?_
    refine x_gR lf_M_47 k0 rfl rfl ?_
    refine x_iload_n rfl rfl ?_
    refine x_iald (ck_13_32 k0) (xlt (ck_13_32 k0) (by decide)) h.1 rfl ?_
    have h := h.2
    refine x_iconst (v := (0 : Int32)) rfl rfl ?_
    refine x_vi lm_M_353 vf_M_ofOne k0 rfl rfl (Nat.le_of_ble_eq_true rfl) rfl h (fun r2 D1 h => ?_)
    refine x_iastn (ck_13_33 k0) h.1 rfl (fun D3 eD3 => ?_)
    have h := h.2 D3 eD3
    refine x_aload_n rfl rfl ?_
    refine x_gR lf_M_53 k0 rfl rfl ?_
    refine x_iload_n rfl rfl ?_
    refine x_aload_n rfl rfl ?_
    refine x_aload_n rfl rfl ?_
    refine x_gR lf_M_47 k0 rfl rfl ?_
    refine x_iload_n rfl rfl ?_
    refine x_iald (ck_13_32 k0) (xlt (ck_13_32 k0) (by decide)) h.1 rfl ?_
    have h := h.2
    refine x_iconst (v := (1 : Int32)) rfl rfl ?_
    refine x_vi lm_M_353 vf_M_ofOne k0 rfl rfl (Nat.le_of_ble_eq_true rfl) rfl h (fun r5 D4 h => ?_)
    refine x_iastn (ck_13_34 k0) h.1 rfl (fun D6 eD6 => ?_)
    have h := h.2 D6 eD6
    refine x_aload_n rfl rfl ?_
    refine x_gR lf_M_56 k0 rfl rfl ?_
    refine x_iload_n rfl rfl ?_
    refine x_aload_n rfl rfl ?_
    refine x_aload_n rfl rfl ?_
    refine x_gR lf_M_47 k0 rfl rfl ?_
    refine x_iload_n rfl rfl ?_
    refine x_iald (ck_13_32 k0) (xlt (ck_13_32 k0) (by decide)) h.1 rfl ?_
    have h := h.2
    refine x_iconst (v := (2 : Int32)) rfl rfl ?_
    refine x_vi lm_M_353 vf_M_ofOne k0 rfl rfl (Nat.le_of_ble_eq_true rfl) rfl h (fun r8 D7 h => ?_)
    refine x_iastn (ck_13_35 k0) h.1 rfl (fun D9 eD9 => ?_)
    have h := h.2 D9 eD9
    refine x_aload_n rfl rfl ?_
    refine x_gR lf_M_59 k0 rfl rfl ?_
    refine x_iload_n rfl rfl ?_
    refine x_aload_n rfl rfl ?_
    refine x_aload_n rfl rfl ?_
    refine x_gR lf_M_47 k0 rfl rfl ?_
    refine x_iload_n rfl rfl ?_
    refine x_iald (ck_13_32 k0) (xlt (ck_13_32 k0) (by decide)) h.1 rfl ?_
    have h := h.2
    refine x_iconst (v := (3 : Int32)) rfl rfl ?_
    refine x_vi lm_M_353 vf_M_ofOne k0 rfl rfl (Nat.le_of_ble_eq_true rfl) rfl h (fun r11 D10 h => ?_)
    refine x_iastn (ck_13_36 k0) h.1 rfl (fun D12 eD12 => ?_)
    have h := h.2 D12 eD12
    refine x_aload_n rfl rfl ?_
    refine x_gR lf_M_62 k0 rfl rfl ?_
    refine x_iload_n rfl rfl ?_
    refine x_aload_n rfl rfl ?_
    refine x_aload_n rfl rfl ?_
    refine x_gR lf_M_47 k0 rfl rfl ?_
    refine x_iload_n rfl rfl ?_
    refine x_iald (ck_13_32 k0) (xlt (ck_13_32 k0) (by decide)) h.1 rfl ?_
    have h := h.2
    refine x_iconst (v := (4 : Int32)) rfl rfl ?_
    refine x_vi lm_M_353 vf_M_ofOne k0 rfl rfl (Nat.le_of_ble_eq_true rfl) rfl h (fun r14 D13 h => ?_)
    refine x_iastn (ck_13_37 k0) h.1 rfl (fun D15 eD15 => ?_)
    have h := h.2 D15 eD15
    refine x_aload_n rfl rfl ?_
    refine x_gR lf_M_65 k0 rfl rfl ?_
    refine x_iload_n rfl rfl ?_
    refine x_aload_n rfl rfl ?_
    refine x_aload_n rfl rfl ?_
    refine x_gR lf_M_47 k0 rfl rfl ?_
    refine x_iload_n rfl rfl ?_
    refine x_iald (ck_13_32 k0) (xlt (ck_13_32 k0) (by decide)) h.1 rfl ?_
    have h := h.2
    refine x_iconst (v := (5 : Int32)) rfl rfl ?_
    refine x_vi lm_M_353 vf_M_ofOne k0 rfl rfl (Nat.le_of_ble_eq_true rfl) rfl h (fun r17 D16 h => ?_)
    refine x_iastn (ck_13_38 k0) h.1 rfl (fun D18 eD18 => ?_)
    have h := h.2 D18 eD18
    refine x_iinc (i := 2) (v := x2 + (1 : Int32)) (L1 := [(2, .int (x2 + (1 : Int32))), (0, .ref a0), (1, .int x1)]) rfl rfl rfl (Nat.le_of_ble_eq_true rfl) rfl ?_
    refine x_goto (tgt := 7) rfl rfl ?_
    exact xP_sub [1, 2, 0] rfl h
theorem s_M_isOne_0 {d : Nat} {D : xD} {Q : Option Value → xD → Prop} {a0 : Nat} {x1 : Int32} (k0 : xk a0 = 13) (h : xCi d m_M_in [.int x1, .int (0 : Int32), .int ((D.1 a0 30) - (1 : Int32))] D (fun r2 D1 => (r2 = 0 ∨ r2 = 1) ∧ Q (some (.int r2)) D1)) : xPf (d + 1) m_M_isOne 0 [(0, .ref a0), (1, .int x1)] [] D Q := by
  refine x_iload_n rfl rfl ?_
  refine x_iconst (v := (0 : Int32)) rfl rfl ?_
  refine x_aload_n rfl rfl ?_
  refine x_gI lf_M_344 k0 rfl rfl ?_
  refine x_iconst (v := (1 : Int32)) rfl rfl ?_
  refine x_isub rfl ?_
  refine x_si lm_M_147 sf_M_in rfl rfl (Nat.le_of_ble_eq_true rfl) rfl h (fun r2 D1 h => ?_)
  exact x_zr rfl h.1 rfl h.2
theorem s_M_isKind_0 {d : Nat} {D : xD} {Q : Option Value → xD → Prop} {a0 : Nat} {x1 : Int32} (k0 : xk a0 = 13) (h : xCi d m_M_in [.int x1, .int (0 : Int32), .int ((D.1 a0 27) - (1 : Int32))] D (fun r2 D1 => (r2 = 0 ∨ r2 = 1) ∧ Q (some (.int r2)) D1)) : xPf (d + 1) m_M_isKind 0 [(0, .ref a0), (1, .int x1)] [] D Q := by
  refine x_iload_n rfl rfl ?_
  refine x_iconst (v := (0 : Int32)) rfl rfl ?_
  refine x_aload_n rfl rfl ?_
  refine x_gI lf_M_335 k0 rfl rfl ?_
  refine x_iconst (v := (1 : Int32)) rfl rfl ?_
  refine x_isub rfl ?_
  refine x_si lm_M_147 sf_M_in rfl rfl (Nat.le_of_ble_eq_true rfl) rfl h (fun r2 D1 h => ?_)
  exact x_zr rfl h.1 rfl h.2
theorem s_M_table_0 {d : Nat} {D : xD} {Q : Option Value → xD → Prop} {a0 : Nat} {x1 : Int32} {x2 : Int32} (k0 : xk a0 = 13) (h : ∀ D1 : xD, D1 = (xu D.1 a0 0 (0 : Int32), D.2) → xCi d m_M_hand1 [.ref a0, .int x1] D1 (fun r3 D2 => (r3 = 0 → Q (some (.int (-1 : Int32))) D2) ∧ (¬ r3 = 0 → xCi d m_M_in [.int x2, .int (0 : Int32), .int (5 : Int32)] D2 (fun r5 D4 => (r5 = 0 → Q (some (.int (-1 : Int32))) D4) ∧ (¬ r5 = 0 → xCi d m_M_of [.ref a0, .int x2] D4 (fun r7 D6 => Q (some (.int r7)) D6)))))) : xPf (d + 1) m_M_table 0 [(0, .ref a0), (1, .int x1), (2, .int x2)] [] D Q := by
  refine x_aload_n rfl rfl ?_
  refine x_iconst (v := (0 : Int32)) rfl rfl ?_
  refine x_pIn lp_M_139 nf_13_0 k0 rfl rfl (fun D1 eD1 => ?_)
  have h := h D1 eD1
  refine x_aload_n rfl rfl ?_
  refine x_iload_n rfl rfl ?_
  refine x_vi lm_M_356 vf_M_hand1 k0 rfl rfl (Nat.le_of_ble_eq_true rfl) rfl h (fun r3 D2 h => ?_)
  refine x_if_eq (tgt := 30) rfl rfl (fun c => ?_) (fun c => ?_)
  · have h := h.1 c
    refine x_iconst (v := (-1 : Int32)) rfl rfl ?_
    exact x_iret rfl rfl h
  · have h := h.2 c
    refine x_iload_n rfl rfl ?_
    refine x_iconst (v := (0 : Int32)) rfl rfl ?_
    refine x_iconst (v := (5 : Int32)) rfl rfl ?_
    refine x_si lm_M_147 sf_M_in rfl rfl (Nat.le_of_ble_eq_true rfl) rfl h (fun r5 D4 h => ?_)
    refine x_if_eq (tgt := 30) rfl rfl (fun c => ?_) (fun c => ?_)
    · have h := h.1 c
      refine x_iconst (v := (-1 : Int32)) rfl rfl ?_
      exact x_iret rfl rfl h
    · have h := h.2 c
      refine x_aload_n rfl rfl ?_
      refine x_iload_n rfl rfl ?_
      refine x_vi lm_M_331 vf_M_of k0 rfl rfl (Nat.le_of_ble_eq_true rfl) rfl h (fun r7 D6 h => ?_)
      refine x_goto (tgt := 31) rfl rfl ?_
      exact x_iret rfl rfl h
theorem s_M_person_0 {d : Nat} {D : xD} {Q : Option Value → xD → Prop} {a0 : Nat} {x1 : Int32} {x2 : Int32} {x3 : Int32} (k0 : xk a0 = 13) (h : ∀ D1 : xD, D1 = (xu D.1 a0 0 (0 : Int32), D.2) → xCi d m_M_hand1 [.ref a0, .int x1] D1 (fun r3 D2 => (r3 = 0 → Q (some (.int (-2 : Int32))) D2) ∧ (¬ r3 = 0 → xCi d m_M_isOne [.ref a0, .int x2] D2 (fun r5 D4 => (r5 = 0 → Q (some (.int (-2 : Int32))) D4) ∧ (¬ r5 = 0 → xCi d m_M_in [.int x3, .int (0 : Int32), .int (6 : Int32)] D4 (fun r7 D6 => (r7 = 0 → Q (some (.int (-2 : Int32))) D6) ∧ (¬ r7 = 0 → xCi d m_M_ofOne [.ref a0, .int x2, .int x3] D6 (fun r9 D8 => Q (some (.int r9)) D8)))))))) : xPf (d + 1) m_M_person 0 [(0, .ref a0), (1, .int x1), (2, .int x2), (3, .int x3)] [] D Q := by
  refine x_aload_n rfl rfl ?_
  refine x_iconst (v := (0 : Int32)) rfl rfl ?_
  refine x_pIn lp_M_139 nf_13_0 k0 rfl rfl (fun D1 eD1 => ?_)
  have h := h D1 eD1
  refine x_aload_n rfl rfl ?_
  refine x_iload_n rfl rfl ?_
  refine x_vi lm_M_356 vf_M_hand1 k0 rfl rfl (Nat.le_of_ble_eq_true rfl) rfl h (fun r3 D2 h => ?_)
  refine x_if_eq (tgt := 40) rfl rfl (fun c => ?_) (fun c => ?_)
  · have h := h.1 c
    refine x_bipush (v := (-2 : Int32)) rfl rfl ?_
    exact x_iret rfl rfl h
  · have h := h.2 c
    refine x_aload_n rfl rfl ?_
    refine x_iload_n rfl rfl ?_
    refine x_vi lm_M_359 vf_M_isOne k0 rfl rfl (Nat.le_of_ble_eq_true rfl) rfl h (fun r5 D4 h => ?_)
    refine x_if_eq (tgt := 40) rfl rfl (fun c => ?_) (fun c => ?_)
    · have h := h.1 c
      refine x_bipush (v := (-2 : Int32)) rfl rfl ?_
      exact x_iret rfl rfl h
    · have h := h.2 c
      refine x_iload_n rfl rfl ?_
      refine x_iconst (v := (0 : Int32)) rfl rfl ?_
      refine x_bipush (v := (6 : Int32)) rfl rfl ?_
      refine x_si lm_M_147 sf_M_in rfl rfl (Nat.le_of_ble_eq_true rfl) rfl h (fun r7 D6 h => ?_)
      refine x_if_eq (tgt := 40) rfl rfl (fun c => ?_) (fun c => ?_)
      · have h := h.1 c
        refine x_bipush (v := (-2 : Int32)) rfl rfl ?_
        exact x_iret rfl rfl h
      · have h := h.2 c
        refine x_aload_n rfl rfl ?_
        refine x_iload_n rfl rfl ?_
        refine x_iload_n rfl rfl ?_
        refine x_vi lm_M_353 vf_M_ofOne k0 rfl rfl (Nat.le_of_ble_eq_true rfl) rfl h (fun r9 D8 h => ?_)
        refine x_goto (tgt := 42) rfl rfl ?_
        exact x_iret rfl rfl h
theorem s_M_card_0 {d : Nat} {D : xD} {Q : Option Value → xD → Prop} {a0 : Nat} {x1 : Int32} {x2 : Int32} (k0 : xk a0 = 13) (h : ∀ D1 : xD, D1 = (xu D.1 a0 0 (0 : Int32), D.2) → xCi d m_M_is [.ref a0, .int (1 : Int32), .int x1] D1 (fun r3 D2 => (¬ r3 = 0 → vp_in ((53 : Int32) * x1) (xl (a0 + 7)) ∧ (¬ x2 = (-1 : Int32) → xCi d m_M_in [.int x2, .int (0 : Int32), .int ((D2.1 (a0 + 7) ((53 : Int32) * x1 : Int32).toNatClampNeg) - (1 : Int32))] D2 (fun r5 D4 => (r5 = 0 → Q (some (.int (-2 : Int32))) D4) ∧ (¬ r5 = 0 → vp_in ((((53 : Int32) * x1) + (1 : Int32)) + x2) (xl (a0 + 7)) ∧ Q (some (.int (D4.1 (a0 + 7) ((((53 : Int32) * x1) + (1 : Int32)) + x2 : Int32).toNatClampNeg))) D4))) ∧ (x2 = (-1 : Int32) → Q (some (.int (D2.1 (a0 + 7) ((53 : Int32) * x1 : Int32).toNatClampNeg))) D2)) ∧ (r3 = 0 → Q (some (.int (-2 : Int32))) D2))) : xPf (d + 1) m_M_card 0 [(0, .ref a0), (1, .int x1), (2, .int x2)] [] D Q := by
  refine x_aload_n rfl rfl ?_
  refine x_iconst (v := (0 : Int32)) rfl rfl ?_
  refine x_pIn lp_M_139 nf_13_0 k0 rfl rfl (fun D1 eD1 => ?_)
  have h := h D1 eD1
  refine x_aload_n rfl rfl ?_
  refine x_iconst (v := (1 : Int32)) rfl rfl ?_
  refine x_iload_n rfl rfl ?_
  refine x_vi lm_M_319 vf_M_is k0 rfl rfl (Nat.le_of_ble_eq_true rfl) rfl h (fun r3 D2 h => ?_)
  refine x_if_ne (tgt := 17) rfl rfl (fun c => ?_) (fun c => ?_)
  · have h := h.1 c
    refine x_aload_n rfl rfl ?_
    refine x_gR lf_M_29 k0 rfl rfl ?_
    refine x_bipush (v := (53 : Int32)) rfl rfl ?_
    refine x_iload_n rfl rfl ?_
    refine x_imul rfl ?_
    refine x_iald (ck_13_7 k0) (xlt (ck_13_7 k0) (by decide)) h.1 rfl ?_
    have h := h.2
    refine x_istore_n (i := 3) (L1 := [(3, .int (D2.1 (a0 + 7) ((53 : Int32) * x1 : Int32).toNatClampNeg)), (0, .ref a0), (1, .int x1), (2, .int x2)]) rfl rfl (Nat.le_of_ble_eq_true rfl) rfl ?_
    refine x_iload_n rfl rfl ?_
    refine x_iconst (v := (-1 : Int32)) rfl rfl ?_
    refine x_icmp_ne (tgt := 36) rfl rfl (fun c => ?_) (fun c => ?_)
    · have h := h.1 c
      refine x_iload_n rfl rfl ?_
      refine x_iconst (v := (0 : Int32)) rfl rfl ?_
      refine x_iload_n rfl rfl ?_
      refine x_iconst (v := (1 : Int32)) rfl rfl ?_
      refine x_isub rfl ?_
      refine x_si lm_M_147 sf_M_in rfl rfl (Nat.le_of_ble_eq_true rfl) rfl h (fun r5 D4 h => ?_)
      refine x_if_eq (tgt := 63) rfl rfl (fun c => ?_) (fun c => ?_)
      · have h := h.1 c
        refine x_bipush (v := (-2 : Int32)) rfl rfl ?_
        exact x_iret rfl rfl h
      · have h := h.2 c
        refine x_aload_n rfl rfl ?_
        refine x_gR lf_M_29 k0 rfl rfl ?_
        refine x_bipush (v := (53 : Int32)) rfl rfl ?_
        refine x_iload_n rfl rfl ?_
        refine x_imul rfl ?_
        refine x_iconst (v := (1 : Int32)) rfl rfl ?_
        refine x_iadd rfl ?_
        refine x_iload_n rfl rfl ?_
        refine x_iadd rfl ?_
        refine x_iald (ck_13_7 k0) (xlt (ck_13_7 k0) (by decide)) h.1 rfl ?_
        have h := h.2
        refine x_goto (tgt := 65) rfl rfl ?_
        exact x_iret rfl rfl h
    · have h := h.2 c
      refine x_iload_n rfl rfl ?_
      refine x_goto (tgt := 65) rfl rfl ?_
      exact x_iret rfl rfl h
  · have h := h.2 c
    refine x_bipush (v := (-2 : Int32)) rfl rfl ?_
    exact x_iret rfl rfl h
theorem s_M_layHeap_0 {d : Nat} {D : xD} {Q : Option Value → xD → Prop} {a0 : Nat} {x1 : Int32} (k0 : xk a0 = 13) (h : vp_in ((53 : Int32) * x1) (xl (a0 + 7)) ∧ ∀ D1 : xD, D1 = (xu D.1 a0 40 (D.1 (a0 + 7) ((53 : Int32) * x1 : Int32).toNatClampNeg), D.2) → ((D1.1 a0 40) ≤ ((D1.1 a0 30) * (D1.1 a0 29)) → xPf (d + 1) m_M_layHeap 37 [(0, .ref a0), (1, .int x1), (2, .int (0 : Int32)), (3, .int (0 : Int32))] [] D1 Q) ∧ (¬ (D1.1 a0 40) ≤ ((D1.1 a0 30) * (D1.1 a0 29)) → xPf (d + 1) m_M_layHeap 37 [(0, .ref a0), (1, .int x1), (2, .int (1 : Int32)), (3, .int (0 : Int32))] [] D1 Q)) : xPf (d + 1) m_M_layHeap 0 [(0, .ref a0), (1, .int x1)] [] D Q := by
  refine x_aload_n rfl rfl ?_
  refine x_aload_n rfl rfl ?_
  refine x_gR lf_M_29 k0 rfl rfl ?_
  refine x_bipush (v := (53 : Int32)) rfl rfl ?_
  refine x_iload_n rfl rfl ?_
  refine x_imul rfl ?_
  refine x_iald (ck_13_7 k0) (xlt (ck_13_7 k0) (by decide)) h.1 rfl ?_
  have h := h.2
  refine x_pIn lp_M_362 nf_13_40 k0 rfl rfl (fun D1 eD1 => ?_)
  have h := h D1 eD1
  refine x_aload_n rfl rfl ?_
  refine x_gI lf_M_362 k0 rfl rfl ?_
  refine x_aload_n rfl rfl ?_
  refine x_gI lf_M_344 k0 rfl rfl ?_
  refine x_aload_n rfl rfl ?_
  refine x_gI lf_M_341 k0 rfl rfl ?_
  refine x_imul rfl ?_
  refine x_icmp_le (tgt := 33) rfl rfl (fun c => ?_) (fun c => ?_)
  · have h := h.1 c
    refine x_iconst (v := (0 : Int32)) rfl rfl ?_
    refine x_istore_n (i := 2) (L1 := [(2, .int (0 : Int32)), (0, .ref a0), (1, .int x1)]) rfl rfl (Nat.le_of_ble_eq_true rfl) rfl ?_
    refine x_iconst (v := (0 : Int32)) rfl rfl ?_
    refine x_istore_n (i := 3) (L1 := [(3, .int (0 : Int32)), (2, .int (0 : Int32)), (0, .ref a0), (1, .int x1)]) rfl rfl (Nat.le_of_ble_eq_true rfl) rfl ?_
    exact xP_sub [2, 3, 1, 0] rfl h
  · have h := h.2 c
    refine x_iconst (v := (1 : Int32)) rfl rfl ?_
    refine x_goto (tgt := 34) rfl rfl ?_
    refine x_istore_n (i := 2) (L1 := [(2, .int (1 : Int32)), (0, .ref a0), (1, .int x1)]) rfl rfl (Nat.le_of_ble_eq_true rfl) rfl ?_
    refine x_iconst (v := (0 : Int32)) rfl rfl ?_
    refine x_istore_n (i := 3) (L1 := [(3, .int (0 : Int32)), (2, .int (1 : Int32)), (0, .ref a0), (1, .int x1)]) rfl rfl (Nat.le_of_ble_eq_true rfl) rfl ?_
    exact xP_sub [2, 3, 1, 0] rfl h
theorem s_M_layHeap_37 {d : Nat} {D : xD} {Q : Option Value → xD → Prop} {a0 : Nat} {x1 : Int32} {x2 : Int32} {x3 : Int32} (k0 : xk a0 = 13) (h : ((D.1 a0 40) ≤ x3 → (x2 = 0 ∨ x2 = 1) ∧ Q (some (.int x2)) D) ∧ (¬ (D.1 a0 40) ≤ x3 → vp_in ((((53 : Int32) * x1) + (1 : Int32)) + x3) (xl (a0 + 7)) ∧ vp_in x3 (xl (a0 + 20)) ∧ ∀ D1 : xD, D1 = (xu D.1 (a0 + 20) (x3 : Int32).toNatClampNeg (D.1 (a0 + 7) ((((53 : Int32) * x1) + (1 : Int32)) + x3 : Int32).toNatClampNeg), D.2) → xPf (d + 1) m_M_layHeap 70 [(0, .ref a0), (1, .int x1), (2, .int x2), (3, .int x3), (4, .int (0 : Int32)), (5, .int (0 : Int32))] [] D1 Q)) : xPf (d + 1) m_M_layHeap 37 [(0, .ref a0), (1, .int x1), (2, .int x2), (3, .int x3)] [] D Q := by
  refine x_iload_n rfl rfl ?_
  refine x_aload_n rfl rfl ?_
  refine x_gI lf_M_362 k0 rfl rfl ?_
  refine x_icmp_ge (tgt := 146) rfl rfl (fun c => ?_) (fun c => ?_)
  · have h := h.1 c
    refine x_iload_n rfl rfl ?_
    exact x_zr rfl h.1 rfl h.2
  · have h := h.2 c
    refine x_aload_n rfl rfl ?_
    refine x_gR lf_M_68 k0 rfl rfl ?_
    refine x_iload_n rfl rfl ?_
    refine x_aload_n rfl rfl ?_
    refine x_gR lf_M_29 k0 rfl rfl ?_
    refine x_bipush (v := (53 : Int32)) rfl rfl ?_
    refine x_iload_n rfl rfl ?_
    refine x_imul rfl ?_
    refine x_iconst (v := (1 : Int32)) rfl rfl ?_
    refine x_iadd rfl ?_
    refine x_iload_n rfl rfl ?_
    refine x_iadd rfl ?_
    refine x_iald (ck_13_7 k0) (xlt (ck_13_7 k0) (by decide)) h.1 rfl ?_
    have h := h.2
    refine x_iastn (ck_13_39 k0) h.1 rfl (fun D1 eD1 => ?_)
    have h := h.2 D1 eD1
    refine x_iconst (v := (0 : Int32)) rfl rfl ?_
    refine x_istore (i := 4) (L1 := [(4, .int (0 : Int32)), (0, .ref a0), (1, .int x1), (2, .int x2), (3, .int x3)]) rfl (Nat.le_of_ble_eq_true rfl) rfl ?_
    refine x_iconst (v := (0 : Int32)) rfl rfl ?_
    refine x_istore (i := 5) (L1 := [(5, .int (0 : Int32)), (4, .int (0 : Int32)), (0, .ref a0), (1, .int x1), (2, .int x2), (3, .int x3)]) rfl (Nat.le_of_ble_eq_true rfl) rfl ?_
    exact xP_sub [2, 3, 4, 5, 1, 0] rfl h
theorem s_M_layHeap_70 {d : Nat} {D : xD} {Q : Option Value → xD → Prop} {a0 : Nat} {x1 : Int32} {x2 : Int32} {x3 : Int32} {x4 : Int32} {x5 : Int32} (k0 : xk a0 = 13) (h : (x3 < x5 → (x2 = 0 → xPf (d + 1) m_M_layHeap 37 [(0, .ref a0), (1, .int x1), (2, .int (0 : Int32)), (3, .int (x3 + (1 : Int32)))] [] D Q) ∧ (¬ x2 = 0 → vp_in x3 (xl (a0 + 20)) ∧ ((D.1 a0 27) ≤ (D.1 (a0 + 20) (x3 : Int32).toNatClampNeg) → xPf (d + 1) m_M_layHeap 37 [(0, .ref a0), (1, .int x1), (2, .int (0 : Int32)), (3, .int (x3 + (1 : Int32)))] [] D Q) ∧ (¬ (D.1 a0 27) ≤ (D.1 (a0 + 20) (x3 : Int32).toNatClampNeg) → ((D.1 a0 28) < x4 → xPf (d + 1) m_M_layHeap 37 [(0, .ref a0), (1, .int x1), (2, .int (0 : Int32)), (3, .int (x3 + (1 : Int32)))] [] D Q) ∧ (¬ (D.1 a0 28) < x4 → xPf (d + 1) m_M_layHeap 37 [(0, .ref a0), (1, .int x1), (2, .int (1 : Int32)), (3, .int (x3 + (1 : Int32)))] [] D Q)))) ∧ (¬ x3 < x5 → vp_in x5 (xl (a0 + 20)) ∧ vp_in x3 (xl (a0 + 20)) ∧ (¬ (D.1 (a0 + 20) (x5 : Int32).toNatClampNeg) = (D.1 (a0 + 20) (x3 : Int32).toNatClampNeg) → xPf (d + 1) m_M_layHeap 70 [(0, .ref a0), (1, .int x1), (2, .int x2), (3, .int x3), (4, .int (x4 + (0 : Int32))), (5, .int (x5 + (1 : Int32)))] [] D Q) ∧ ((D.1 (a0 + 20) (x5 : Int32).toNatClampNeg) = (D.1 (a0 + 20) (x3 : Int32).toNatClampNeg) → xPf (d + 1) m_M_layHeap 70 [(0, .ref a0), (1, .int x1), (2, .int x2), (3, .int x3), (4, .int (x4 + (1 : Int32))), (5, .int (x5 + (1 : Int32)))] [] D Q))) : xPf (d + 1) m_M_layHeap 70 [(0, .ref a0), (1, .int x1), (2, .int x2), (3, .int x3), (4, .int x4), (5, .int x5)] [] D Q := by
  refine x_iload rfl rfl ?_
  refine x_iload_n rfl rfl ?_
  refine x_icmp_gt (tgt := 108) rfl rfl (fun c => ?_) (fun c => ?_)
  · have h := h.1 c
    refine x_iload_n rfl rfl ?_
    refine x_if_eq (tgt := 138) rfl rfl (fun c => ?_) (fun c => ?_)
    · have h := h.1 c
      refine x_iconst (v := (0 : Int32)) rfl rfl ?_
      refine x_istore_n (i := 2) (L1 := [(2, .int (0 : Int32)), (0, .ref a0), (1, .int x1), (3, .int x3), (4, .int x4), (5, .int x5)]) rfl rfl (Nat.le_of_ble_eq_true rfl) rfl ?_
      refine x_iinc (i := 3) (v := x3 + (1 : Int32)) (L1 := [(3, .int (x3 + (1 : Int32))), (2, .int (0 : Int32)), (0, .ref a0), (1, .int x1), (4, .int x4), (5, .int x5)]) rfl rfl rfl (Nat.le_of_ble_eq_true rfl) rfl ?_
      refine x_goto (tgt := 37) rfl rfl ?_
      exact xP_sub [2, 3, 1, 0] rfl h
    · have h := h.2 c
      refine x_aload_n rfl rfl ?_
      refine x_gR lf_M_68 k0 rfl rfl ?_
      refine x_iload_n rfl rfl ?_
      refine x_iald (ck_13_39 k0) (xlt (ck_13_39 k0) (by decide)) h.1 rfl ?_
      have h := h.2
      refine x_aload_n rfl rfl ?_
      refine x_gI lf_M_335 k0 rfl rfl ?_
      refine x_icmp_ge (tgt := 138) rfl rfl (fun c => ?_) (fun c => ?_)
      · have h := h.1 c
        refine x_iconst (v := (0 : Int32)) rfl rfl ?_
        refine x_istore_n (i := 2) (L1 := [(2, .int (0 : Int32)), (0, .ref a0), (1, .int x1), (3, .int x3), (4, .int x4), (5, .int x5)]) rfl rfl (Nat.le_of_ble_eq_true rfl) rfl ?_
        refine x_iinc (i := 3) (v := x3 + (1 : Int32)) (L1 := [(3, .int (x3 + (1 : Int32))), (2, .int (0 : Int32)), (0, .ref a0), (1, .int x1), (4, .int x4), (5, .int x5)]) rfl rfl rfl (Nat.le_of_ble_eq_true rfl) rfl ?_
        refine x_goto (tgt := 37) rfl rfl ?_
        exact xP_sub [2, 3, 1, 0] rfl h
      · have h := h.2 c
        refine x_iload rfl rfl ?_
        refine x_aload_n rfl rfl ?_
        refine x_gI lf_M_338 k0 rfl rfl ?_
        refine x_icmp_gt (tgt := 138) rfl rfl (fun c => ?_) (fun c => ?_)
        · have h := h.1 c
          refine x_iconst (v := (0 : Int32)) rfl rfl ?_
          refine x_istore_n (i := 2) (L1 := [(2, .int (0 : Int32)), (0, .ref a0), (1, .int x1), (3, .int x3), (4, .int x4), (5, .int x5)]) rfl rfl (Nat.le_of_ble_eq_true rfl) rfl ?_
          refine x_iinc (i := 3) (v := x3 + (1 : Int32)) (L1 := [(3, .int (x3 + (1 : Int32))), (2, .int (0 : Int32)), (0, .ref a0), (1, .int x1), (4, .int x4), (5, .int x5)]) rfl rfl rfl (Nat.le_of_ble_eq_true rfl) rfl ?_
          refine x_goto (tgt := 37) rfl rfl ?_
          exact xP_sub [2, 3, 1, 0] rfl h
        · have h := h.2 c
          refine x_iconst (v := (1 : Int32)) rfl rfl ?_
          refine x_goto (tgt := 139) rfl rfl ?_
          refine x_istore_n (i := 2) (L1 := [(2, .int (1 : Int32)), (0, .ref a0), (1, .int x1), (3, .int x3), (4, .int x4), (5, .int x5)]) rfl rfl (Nat.le_of_ble_eq_true rfl) rfl ?_
          refine x_iinc (i := 3) (v := x3 + (1 : Int32)) (L1 := [(3, .int (x3 + (1 : Int32))), (2, .int (1 : Int32)), (0, .ref a0), (1, .int x1), (4, .int x4), (5, .int x5)]) rfl rfl rfl (Nat.le_of_ble_eq_true rfl) rfl ?_
          refine x_goto (tgt := 37) rfl rfl ?_
          exact xP_sub [2, 3, 1, 0] rfl h
  · have h := h.2 c
    refine x_iload rfl rfl ?_
    refine x_aload_n rfl rfl ?_
    refine x_gR lf_M_68 k0 rfl rfl ?_
    refine x_iload rfl rfl ?_
    refine x_iald (ck_13_39 k0) (xlt (ck_13_39 k0) (by decide)) h.1 rfl ?_
    have h := h.2
    refine x_aload_n rfl rfl ?_
    refine x_gR lf_M_68 k0 rfl rfl ?_
    refine x_iload_n rfl rfl ?_
    refine x_iald (ck_13_39 k0) (xlt (ck_13_39 k0) (by decide)) h.1 rfl ?_
    have h := h.2
    refine x_icmp_ne (tgt := 98) rfl rfl (fun c => ?_) (fun c => ?_)
    · have h := h.1 c
      refine x_iconst (v := (0 : Int32)) rfl rfl ?_
      refine x_iadd rfl ?_
      refine x_istore (i := 4) (L1 := [(4, .int (x4 + (0 : Int32))), (0, .ref a0), (1, .int x1), (2, .int x2), (3, .int x3), (5, .int x5)]) rfl (Nat.le_of_ble_eq_true rfl) rfl ?_
      refine x_iinc (i := 5) (v := x5 + (1 : Int32)) (L1 := [(5, .int (x5 + (1 : Int32))), (4, .int (x4 + (0 : Int32))), (0, .ref a0), (1, .int x1), (2, .int x2), (3, .int x3)]) rfl rfl rfl (Nat.le_of_ble_eq_true rfl) rfl ?_
      refine x_goto (tgt := 70) rfl rfl ?_
      exact xP_sub [2, 3, 4, 5, 1, 0] rfl h
    · have h := h.2 c
      refine x_iconst (v := (1 : Int32)) rfl rfl ?_
      refine x_goto (tgt := 99) rfl rfl ?_
      refine x_iadd rfl ?_
      refine x_istore (i := 4) (L1 := [(4, .int (x4 + (1 : Int32))), (0, .ref a0), (1, .int x1), (2, .int x2), (3, .int x3), (5, .int x5)]) rfl (Nat.le_of_ble_eq_true rfl) rfl ?_
      refine x_iinc (i := 5) (v := x5 + (1 : Int32)) (L1 := [(5, .int (x5 + (1 : Int32))), (4, .int (x4 + (1 : Int32))), (0, .ref a0), (1, .int x1), (2, .int x2), (3, .int x3)]) rfl rfl rfl (Nat.le_of_ble_eq_true rfl) rfl ?_
      refine x_goto (tgt := 70) rfl rfl ?_
      exact xP_sub [2, 3, 4, 5, 1, 0] rfl h
theorem s_M_fits_0 {d : Nat} {D : xD} {Q : Option Value → xD → Prop} {a0 : Nat} {x1 : Int32} {x2 : Int32} (k0 : xk a0 = 13) (h : ∀ D1 : xD, D1 = (xu D.1 a0 0 (0 : Int32), D.2) → xCi d m_M_is [.ref a0, .int (1 : Int32), .int x2] D1 (fun r3 D2 => (r3 = 0 → Q (some (.int (-1 : Int32))) D2) ∧ (¬ r3 = 0 → xCi d m_M_hand1 [.ref a0, .int x1] D2 (fun r5 D4 => (¬ r5 = 0 → xCi d m_M_layHeap [.ref a0, .int x2] D4 (fun r7 D6 => (r7 = 0 → Q (some (.int (0 : Int32))) D6) ∧ (¬ r7 = 0 → Q (some (.int (1 : Int32))) D6))) ∧ (r5 = 0 → Q (some (.int (-1 : Int32))) D4))))) : xPf (d + 1) m_M_fits 0 [(0, .ref a0), (1, .int x1), (2, .int x2)] [] D Q := by
  refine x_aload_n rfl rfl ?_
  refine x_iconst (v := (0 : Int32)) rfl rfl ?_
  refine x_pIn lp_M_139 nf_13_0 k0 rfl rfl (fun D1 eD1 => ?_)
  have h := h D1 eD1
  refine x_aload_n rfl rfl ?_
  refine x_iconst (v := (1 : Int32)) rfl rfl ?_
  refine x_iload_n rfl rfl ?_
  refine x_vi lm_M_319 vf_M_is k0 rfl rfl (Nat.le_of_ble_eq_true rfl) rfl h (fun r3 D2 h => ?_)
  refine x_if_eq (tgt := 22) rfl rfl (fun c => ?_) (fun c => ?_)
  · have h := h.1 c
    refine x_iconst (v := (-1 : Int32)) rfl rfl ?_
    exact x_iret rfl rfl h
  · have h := h.2 c
    refine x_aload_n rfl rfl ?_
    refine x_iload_n rfl rfl ?_
    refine x_vi lm_M_356 vf_M_hand1 k0 rfl rfl (Nat.le_of_ble_eq_true rfl) rfl h (fun r5 D4 h => ?_)
    refine x_if_ne (tgt := 24) rfl rfl (fun c => ?_) (fun c => ?_)
    · have h := h.1 c
      refine x_aload_n rfl rfl ?_
      refine x_iload_n rfl rfl ?_
      refine x_vi lm_M_365 vf_M_layHeap k0 rfl rfl (Nat.le_of_ble_eq_true rfl) rfl h (fun r7 D6 h => ?_)
      refine x_if_eq (tgt := 36) rfl rfl (fun c => ?_) (fun c => ?_)
      · have h := h.1 c
        refine x_iconst (v := (0 : Int32)) rfl rfl ?_
        exact x_iret rfl rfl h
      · have h := h.2 c
        refine x_iconst (v := (1 : Int32)) rfl rfl ?_
        refine x_goto (tgt := 37) rfl rfl ?_
        exact x_iret rfl rfl h
    · have h := h.2 c
      refine x_iconst (v := (-1 : Int32)) rfl rfl ?_
      exact x_iret rfl rfl h
theorem s_M_push_0 {d : Nat} {D : xD} {Q : Option Value → xD → Prop} {a0 : Nat} {x1 : Int32} {x2 : Int32} (k0 : xk a0 = 13) (h : vp_in x1 (xl (a0 + 24)) ∧ vp_in x1 (xl (a0 + 25)) ∧ vp_in (((64 : Int32) * x1) + (((D.1 (a0 + 24) (x1 : Int32).toNatClampNeg) + (D.1 (a0 + 25) (x1 : Int32).toNatClampNeg)) - ((D.1 (a0 + 24) (x1 : Int32).toNatClampNeg) + (D.1 (a0 + 25) (x1 : Int32).toNatClampNeg)) / (64 : Int32) * (64 : Int32))) (xl (a0 + 23)) ∧ ∀ D1 : xD, D1 = (xu D.1 (a0 + 23) (((64 : Int32) * x1) + (((D.1 (a0 + 24) (x1 : Int32).toNatClampNeg) + (D.1 (a0 + 25) (x1 : Int32).toNatClampNeg)) - ((D.1 (a0 + 24) (x1 : Int32).toNatClampNeg) + (D.1 (a0 + 25) (x1 : Int32).toNatClampNeg)) / (64 : Int32) * (64 : Int32)) : Int32).toNatClampNeg x2, D.2) → vp_in x1 (xl (a0 + 25)) ∧ vp_in x1 (xl (a0 + 25)) ∧ ∀ D2 : xD, D2 = (xu D1.1 (a0 + 25) (x1 : Int32).toNatClampNeg ((D1.1 (a0 + 25) (x1 : Int32).toNatClampNeg) + (1 : Int32)), D1.2) → Q none D2) : xPf (d + 1) m_M_push 0 [(0, .ref a0), (1, .int x1), (2, .int x2)] [] D Q := by
  refine x_aload_n rfl rfl ?_
  refine x_gR lf_M_77 k0 rfl rfl ?_
  refine x_bipush (v := (64 : Int32)) rfl rfl ?_
  refine x_iload_n rfl rfl ?_
  refine x_imul rfl ?_
  refine x_aload_n rfl rfl ?_
  refine x_gR lf_M_80 k0 rfl rfl ?_
  refine x_iload_n rfl rfl ?_
  refine x_iald (ck_13_44 k0) (xlt (ck_13_44 k0) (by decide)) h.1 rfl ?_
  have h := h.2
  refine x_aload_n rfl rfl ?_
  refine x_gR lf_M_83 k0 rfl rfl ?_
  refine x_iload_n rfl rfl ?_
  refine x_iald (ck_13_45 k0) (xlt (ck_13_45 k0) (by decide)) h.1 rfl ?_
  have h := h.2
  refine x_iadd rfl ?_
  refine x_bipush (v := (64 : Int32)) rfl rfl ?_
  refine x_irem rfl (by decide) ?_
  refine x_iadd rfl ?_
  refine x_iload_n rfl rfl ?_
  refine x_iastn (ck_13_43 k0) h.1 rfl (fun D1 eD1 => ?_)
  have h := h.2 D1 eD1
  refine x_aload_n rfl rfl ?_
  refine x_gR lf_M_83 k0 rfl rfl ?_
  refine x_iload_n rfl rfl ?_
  refine x_dup2 rfl rfl rfl ?_
  refine x_iald (ck_13_45 k0) (xlt (ck_13_45 k0) (by decide)) h.1 rfl ?_
  have h := h.2
  refine x_iconst (v := (1 : Int32)) rfl rfl ?_
  refine x_iadd rfl ?_
  refine x_iastn (ck_13_45 k0) h.1 rfl (fun D2 eD2 => ?_)
  have h := h.2 D2 eD2
  exact x_vret rfl rfl h
theorem s_M_pop_0 {d : Nat} {D : xD} {Q : Option Value → xD → Prop} {a0 : Nat} {x1 : Int32} (k0 : xk a0 = 13) (h : vp_in x1 (xl (a0 + 24)) ∧ vp_in (((64 : Int32) * x1) + (D.1 (a0 + 24) (x1 : Int32).toNatClampNeg)) (xl (a0 + 23)) ∧ vp_in x1 (xl (a0 + 24)) ∧ vp_in x1 (xl (a0 + 24)) ∧ ∀ D1 : xD, D1 = (xu D.1 (a0 + 24) (x1 : Int32).toNatClampNeg (((D.1 (a0 + 24) (x1 : Int32).toNatClampNeg) + (1 : Int32)) - ((D.1 (a0 + 24) (x1 : Int32).toNatClampNeg) + (1 : Int32)) / (64 : Int32) * (64 : Int32)), D.2) → vp_in x1 (xl (a0 + 25)) ∧ vp_in x1 (xl (a0 + 25)) ∧ ∀ D2 : xD, D2 = (xu D1.1 (a0 + 25) (x1 : Int32).toNatClampNeg ((D1.1 (a0 + 25) (x1 : Int32).toNatClampNeg) - (1 : Int32)), D1.2) → Q (some (.int (D.1 (a0 + 23) (((64 : Int32) * x1) + (D.1 (a0 + 24) (x1 : Int32).toNatClampNeg) : Int32).toNatClampNeg))) D2) : xPf (d + 1) m_M_pop 0 [(0, .ref a0), (1, .int x1)] [] D Q := by
  refine x_aload_n rfl rfl ?_
  refine x_gR lf_M_77 k0 rfl rfl ?_
  refine x_bipush (v := (64 : Int32)) rfl rfl ?_
  refine x_iload_n rfl rfl ?_
  refine x_imul rfl ?_
  refine x_aload_n rfl rfl ?_
  refine x_gR lf_M_80 k0 rfl rfl ?_
  refine x_iload_n rfl rfl ?_
  refine x_iald (ck_13_44 k0) (xlt (ck_13_44 k0) (by decide)) h.1 rfl ?_
  have h := h.2
  refine x_iadd rfl ?_
  refine x_iald (ck_13_43 k0) (xlt (ck_13_43 k0) (by decide)) h.1 rfl ?_
  have h := h.2
  refine x_istore_n (i := 2) (L1 := [(2, .int (D.1 (a0 + 23) (((64 : Int32) * x1) + (D.1 (a0 + 24) (x1 : Int32).toNatClampNeg) : Int32).toNatClampNeg)), (0, .ref a0), (1, .int x1)]) rfl rfl (Nat.le_of_ble_eq_true rfl) rfl ?_
  refine x_aload_n rfl rfl ?_
  refine x_gR lf_M_80 k0 rfl rfl ?_
  refine x_iload_n rfl rfl ?_
  refine x_aload_n rfl rfl ?_
  refine x_gR lf_M_80 k0 rfl rfl ?_
  refine x_iload_n rfl rfl ?_
  refine x_iald (ck_13_44 k0) (xlt (ck_13_44 k0) (by decide)) h.1 rfl ?_
  have h := h.2
  refine x_iconst (v := (1 : Int32)) rfl rfl ?_
  refine x_iadd rfl ?_
  refine x_bipush (v := (64 : Int32)) rfl rfl ?_
  refine x_irem rfl (by decide) ?_
  refine x_iastn (ck_13_44 k0) h.1 rfl (fun D1 eD1 => ?_)
  have h := h.2 D1 eD1
  refine x_aload_n rfl rfl ?_
  refine x_gR lf_M_83 k0 rfl rfl ?_
  refine x_iload_n rfl rfl ?_
  refine x_dup2 rfl rfl rfl ?_
  refine x_iald (ck_13_45 k0) (xlt (ck_13_45 k0) (by decide)) h.1 rfl ?_
  have h := h.2
  refine x_iconst (v := (1 : Int32)) rfl rfl ?_
  refine x_isub rfl ?_
  refine x_iastn (ck_13_45 k0) h.1 rfl (fun D2 eD2 => ?_)
  have h := h.2 D2 eD2
  refine x_iload_n rfl rfl ?_
  exact x_iret rfl rfl h
theorem s_M_deal_0 {d : Nat} {D : xD} {Q : Option Value → xD → Prop} {a0 : Nat} (k0 : xk a0 = 13) (h : xPf (d + 1) m_M_deal 2 [(0, .ref a0), (1, .int (0 : Int32))] [] D Q) : xPf (d + 1) m_M_deal 0 [(0, .ref a0)] [] D Q := by
  refine x_iconst (v := (0 : Int32)) rfl rfl ?_
  refine x_istore_n (i := 1) (L1 := [(1, .int (0 : Int32)), (0, .ref a0)]) rfl rfl (Nat.le_of_ble_eq_true rfl) rfl ?_
  exact xP_sub [1, 0] rfl h
theorem s_M_deal_2 {d : Nat} {D : xD} {Q : Option Value → xD → Prop} {a0 : Nat} {x1 : Int32} (k0 : xk a0 = 13) (h : ((6 : Int32) < x1 → xPf (d + 1) m_M_deal 30 [(0, .ref a0), (1, .int (0 : Int32))] [] D Q) ∧ (¬ (6 : Int32) < x1 → vp_in x1 (xl (a0 + 24)) ∧ ∀ D1 : xD, D1 = (xu D.1 (a0 + 24) (x1 : Int32).toNatClampNeg (0 : Int32), D.2) → vp_in x1 (xl (a0 + 25)) ∧ ∀ D2 : xD, D2 = (xu D1.1 (a0 + 25) (x1 : Int32).toNatClampNeg (0 : Int32), D1.2) → xPf (d + 1) m_M_deal 2 [(0, .ref a0), (1, .int (x1 + (1 : Int32)))] [] D2 Q)) : xPf (d + 1) m_M_deal 2 [(0, .ref a0), (1, .int x1)] [] D Q := by
  refine x_iload_n rfl rfl ?_
  refine x_bipush (v := (6 : Int32)) rfl rfl ?_
  refine x_icmp_gt (tgt := 28) rfl rfl (fun c => ?_) (fun c => ?_)
  · have h := h.1 c
    refine x_iconst (v := (0 : Int32)) rfl rfl ?_
    refine x_istore_n (i := 1) (L1 := [(1, .int (0 : Int32)), (0, .ref a0)]) rfl rfl (Nat.le_of_ble_eq_true rfl) rfl ?_
    exact xP_sub [1, 0] rfl h
  · have h := h.2 c
    refine x_aload_n rfl rfl ?_
    refine x_gR lf_M_80 k0 rfl rfl ?_
    refine x_iload_n rfl rfl ?_
    refine x_iconst (v := (0 : Int32)) rfl rfl ?_
    refine x_iastn (ck_13_44 k0) h.1 rfl (fun D1 eD1 => ?_)
    have h := h.2 D1 eD1
    refine x_aload_n rfl rfl ?_
    refine x_gR lf_M_83 k0 rfl rfl ?_
    refine x_iload_n rfl rfl ?_
    refine x_iconst (v := (0 : Int32)) rfl rfl ?_
    refine x_iastn (ck_13_45 k0) h.1 rfl (fun D2 eD2 => ?_)
    have h := h.2 D2 eD2
    refine x_iinc (i := 1) (v := x1 + (1 : Int32)) (L1 := [(1, .int (x1 + (1 : Int32))), (0, .ref a0)]) rfl rfl rfl (Nat.le_of_ble_eq_true rfl) rfl ?_
    refine x_goto (tgt := 2) rfl rfl ?_
    exact xP_sub [1, 0] rfl h
theorem s_M_deal_30 {d : Nat} {D : xD} {Q : Option Value → xD → Prop} {a0 : Nat} {x1 : Int32} (k0 : xk a0 = 13) (h : ((78 : Int32) ≤ x1 → xPf (d + 1) m_M_deal 51 [(0, .ref a0), (1, .int (0 : Int32))] [] D Q) ∧ (¬ (78 : Int32) ≤ x1 → vp_in x1 (xl (a0 + 21)) ∧ ∀ D1 : xD, D1 = (xu D.1 (a0 + 21) (x1 : Int32).toNatClampNeg (0 : Int32), D.2) → xPf (d + 1) m_M_deal 30 [(0, .ref a0), (1, .int (x1 + (1 : Int32)))] [] D1 Q)) : xPf (d + 1) m_M_deal 30 [(0, .ref a0), (1, .int x1)] [] D Q := by
  refine x_iload_n rfl rfl ?_
  refine x_bipush (v := (78 : Int32)) rfl rfl ?_
  refine x_icmp_ge (tgt := 49) rfl rfl (fun c => ?_) (fun c => ?_)
  · have h := h.1 c
    refine x_iconst (v := (0 : Int32)) rfl rfl ?_
    refine x_istore_n (i := 1) (L1 := [(1, .int (0 : Int32)), (0, .ref a0)]) rfl rfl (Nat.le_of_ble_eq_true rfl) rfl ?_
    exact xP_sub [1, 0] rfl h
  · have h := h.2 c
    refine x_aload_n rfl rfl ?_
    refine x_gR lf_M_71 k0 rfl rfl ?_
    refine x_iload_n rfl rfl ?_
    refine x_iconst (v := (0 : Int32)) rfl rfl ?_
    refine x_iastn (ck_13_41 k0) h.1 rfl (fun D1 eD1 => ?_)
    have h := h.2 D1 eD1
    refine x_iinc (i := 1) (v := x1 + (1 : Int32)) (L1 := [(1, .int (x1 + (1 : Int32))), (0, .ref a0)]) rfl rfl rfl (Nat.le_of_ble_eq_true rfl) rfl ?_
    refine x_goto (tgt := 30) rfl rfl ?_
    exact xP_sub [1, 0] rfl h
theorem s_M_deal_51 {d : Nat} {D : xD} {Q : Option Value → xD → Prop} {a0 : Nat} {x1 : Int32} (k0 : xk a0 = 13) (h : ((D.1 a0 31) ≤ x1 → xPf (d + 1) m_M_deal 128 [(0, .ref a0), (1, .int ((D.1 a0 29) * (D.1 a0 31)))] [] D Q) ∧ (¬ (D.1 a0 31) ≤ x1 → vp_in x1 (xl (a0 + 22)) ∧ ∀ D1 : xD, D1 = (xu D.1 (a0 + 22) (x1 : Int32).toNatClampNeg (D.1 a0 29), D.2) → xPf (d + 1) m_M_deal 71 [(0, .ref a0), (1, .int x1), (2, .int (0 : Int32))] [] D1 Q)) : xPf (d + 1) m_M_deal 51 [(0, .ref a0), (1, .int x1)] [] D Q := by
  refine x_iload_n rfl rfl ?_
  refine x_aload_n rfl rfl ?_
  refine x_gI lf_M_350 k0 rfl rfl ?_
  refine x_icmp_ge (tgt := 118) rfl rfl (fun c => ?_) (fun c => ?_)
  · have h := h.1 c
    refine x_aload_n rfl rfl ?_
    refine x_gI lf_M_341 k0 rfl rfl ?_
    refine x_aload_n rfl rfl ?_
    refine x_gI lf_M_350 k0 rfl rfl ?_
    refine x_imul rfl ?_
    refine x_istore_n (i := 1) (L1 := [(1, .int ((D.1 a0 29) * (D.1 a0 31))), (0, .ref a0)]) rfl rfl (Nat.le_of_ble_eq_true rfl) rfl ?_
    exact xP_sub [1, 0] rfl h
  · have h := h.2 c
    refine x_aload_n rfl rfl ?_
    refine x_gR lf_M_74 k0 rfl rfl ?_
    refine x_iload_n rfl rfl ?_
    refine x_aload_n rfl rfl ?_
    refine x_gI lf_M_341 k0 rfl rfl ?_
    refine x_iastn (ck_13_42 k0) h.1 rfl (fun D1 eD1 => ?_)
    have h := h.2 D1 eD1
    refine x_iconst (v := (0 : Int32)) rfl rfl ?_
    refine x_istore_n (i := 2) (L1 := [(2, .int (0 : Int32)), (0, .ref a0), (1, .int x1)]) rfl rfl (Nat.le_of_ble_eq_true rfl) rfl ?_
    exact xP_sub [1, 2, 0] rfl h
theorem s_M_deal_71 {d : Nat} {D : xD} {Q : Option Value → xD → Prop} {a0 : Nat} {x1 : Int32} {x2 : Int32} (k0 : xk a0 = 13) (h : ((D.1 a0 29) ≤ x2 → xPf (d + 1) m_M_deal 51 [(0, .ref a0), (1, .int (x1 + (1 : Int32)))] [] D Q) ∧ (¬ (D.1 a0 29) ≤ x2 → vp_in (((D.1 a0 29) * x1) + x2) (xl (a0 + 20)) ∧ vp_in (((13 : Int32) * x1) + (D.1 (a0 + 20) (((D.1 a0 29) * x1) + x2 : Int32).toNatClampNeg)) (xl (a0 + 21)) ∧ vp_in (((13 : Int32) * x1) + (D.1 (a0 + 20) (((D.1 a0 29) * x1) + x2 : Int32).toNatClampNeg)) (xl (a0 + 21)) ∧ ∀ D1 : xD, D1 = (xu D.1 (a0 + 21) (((13 : Int32) * x1) + (D.1 (a0 + 20) (((D.1 a0 29) * x1) + x2 : Int32).toNatClampNeg) : Int32).toNatClampNeg ((D.1 (a0 + 21) (((13 : Int32) * x1) + (D.1 (a0 + 20) (((D.1 a0 29) * x1) + x2 : Int32).toNatClampNeg) : Int32).toNatClampNeg) + (1 : Int32)), D.2) → xPf (d + 1) m_M_deal 71 [(0, .ref a0), (1, .int x1), (2, .int (x2 + (1 : Int32)))] [] D1 Q)) : xPf (d + 1) m_M_deal 71 [(0, .ref a0), (1, .int x1), (2, .int x2)] [] D Q := by
  refine x_iload_n rfl rfl ?_
  refine x_aload_n rfl rfl ?_
  refine x_gI lf_M_341 k0 rfl rfl ?_
  refine x_icmp_ge (tgt := 112) rfl rfl (fun c => ?_) (fun c => ?_)
  · have h := h.1 c
    refine x_iinc (i := 1) (v := x1 + (1 : Int32)) (L1 := [(1, .int (x1 + (1 : Int32))), (0, .ref a0), (2, .int x2)]) rfl rfl rfl (Nat.le_of_ble_eq_true rfl) rfl ?_
    refine x_goto (tgt := 51) rfl rfl ?_
    exact xP_sub [1, 0] rfl h
  · have h := h.2 c
    refine x_aload_n rfl rfl ?_
    refine x_gR lf_M_71 k0 rfl rfl ?_
    refine x_bipush (v := (13 : Int32)) rfl rfl ?_
    refine x_iload_n rfl rfl ?_
    refine x_imul rfl ?_
    refine x_aload_n rfl rfl ?_
    refine x_gR lf_M_68 k0 rfl rfl ?_
    refine x_aload_n rfl rfl ?_
    refine x_gI lf_M_341 k0 rfl rfl ?_
    refine x_iload_n rfl rfl ?_
    refine x_imul rfl ?_
    refine x_iload_n rfl rfl ?_
    refine x_iadd rfl ?_
    refine x_iald (ck_13_39 k0) (xlt (ck_13_39 k0) (by decide)) h.1 rfl ?_
    have h := h.2
    refine x_iadd rfl ?_
    refine x_dup2 rfl rfl rfl ?_
    refine x_iald (ck_13_41 k0) (xlt (ck_13_41 k0) (by decide)) h.1 rfl ?_
    have h := h.2
    refine x_iconst (v := (1 : Int32)) rfl rfl ?_
    refine x_iadd rfl ?_
    refine x_iastn (ck_13_41 k0) h.1 rfl (fun D1 eD1 => ?_)
    have h := h.2 D1 eD1
    refine x_iinc (i := 2) (v := x2 + (1 : Int32)) (L1 := [(2, .int (x2 + (1 : Int32))), (0, .ref a0), (1, .int x1)]) rfl rfl rfl (Nat.le_of_ble_eq_true rfl) rfl ?_
    refine x_goto (tgt := 71) rfl rfl ?_
    exact xP_sub [1, 2, 0] rfl h
theorem s_M_deal_128 {d : Nat} {D : xD} {Q : Option Value → xD → Prop} {a0 : Nat} {x1 : Int32} (k0 : xk a0 = 13) (h : ((D.1 a0 40) ≤ x1 → Q none D) ∧ (¬ (D.1 a0 40) ≤ x1 → vp_in x1 (xl (a0 + 20)) ∧ xCv d m_M_push [.ref a0, .int (0 : Int32), .int (D.1 (a0 + 20) (x1 : Int32).toNatClampNeg)] D (fun D1 => xPf (d + 1) m_M_deal 128 [(0, .ref a0), (1, .int (x1 + (1 : Int32)))] [] D1 Q))) : xPf (d + 1) m_M_deal 128 [(0, .ref a0), (1, .int x1)] [] D Q := by
  refine x_iload_n rfl rfl ?_
  refine x_aload_n rfl rfl ?_
  refine x_gI lf_M_362 k0 rfl rfl ?_
  refine x_icmp_ge (tgt := 153) rfl rfl (fun c => ?_) (fun c => ?_)
  · have h := h.1 c
    exact x_vret rfl rfl h
  · have h := h.2 c
    refine x_aload_n rfl rfl ?_
    refine x_iconst (v := (0 : Int32)) rfl rfl ?_
    refine x_aload_n rfl rfl ?_
    refine x_gR lf_M_68 k0 rfl rfl ?_
    refine x_iload_n rfl rfl ?_
    refine x_iald (ck_13_39 k0) (xlt (ck_13_39 k0) (by decide)) h.1 rfl ?_
    have h := h.2
    refine x_vv lm_M_368 vf_M_push k0 rfl rfl (Nat.le_of_ble_eq_true rfl) rfl h (fun D1 h => ?_)
    refine x_iinc (i := 1) (v := x1 + (1 : Int32)) (L1 := [(1, .int (x1 + (1 : Int32))), (0, .ref a0)]) rfl rfl rfl (Nat.le_of_ble_eq_true rfl) rfl ?_
    refine x_goto (tgt := 128) rfl rfl ?_
    exact xP_sub [1, 0] rfl h
theorem s_M_comes_0 {d : Nat} {D : xD} {Q : Option Value → xD → Prop} {a0 : Nat} {x1 : Int32} (k0 : xk a0 = 13) (h : (¬ x1 = 0 → vp_in x1 (xl (a0 + 25)) ∧ (¬ (D.1 (a0 + 25) (x1 : Int32).toNatClampNeg) = 0 → xCi d m_M_pop [.ref a0, .int x1] D (fun r2 D1 => vp_in (((13 : Int32) * x1) + r2) (xl (a0 + 21)) ∧ vp_in (((13 : Int32) * x1) + r2) (xl (a0 + 21)) ∧ ∀ D3 : xD, D3 = (xu D1.1 (a0 + 21) (((13 : Int32) * x1) + r2 : Int32).toNatClampNeg ((D1.1 (a0 + 21) (((13 : Int32) * x1) + r2 : Int32).toNatClampNeg) + (1 : Int32)), D1.2) → vp_in x1 (xl (a0 + 22)) ∧ vp_in x1 (xl (a0 + 22)) ∧ ∀ D4 : xD, D4 = (xu D3.1 (a0 + 22) (x1 : Int32).toNatClampNeg ((D3.1 (a0 + 22) (x1 : Int32).toNatClampNeg) + (1 : Int32)), D3.2) → Q (some (.int r2)) D4)) ∧ ((D.1 (a0 + 25) (x1 : Int32).toNatClampNeg) = 0 → Q (some (.int (-1 : Int32))) D)) ∧ (x1 = 0 → vp_in (0 : Int32) (xl (a0 + 25)) ∧ (¬ (D.1 (a0 + 25) ((0 : Int32) : Int32).toNatClampNeg) = 0 → vp_in x1 (xl (a0 + 25)) ∧ (¬ (D.1 (a0 + 25) (x1 : Int32).toNatClampNeg) = 0 → xCi d m_M_pop [.ref a0, .int x1] D (fun r6 D5 => vp_in (((13 : Int32) * x1) + r6) (xl (a0 + 21)) ∧ vp_in (((13 : Int32) * x1) + r6) (xl (a0 + 21)) ∧ ∀ D7 : xD, D7 = (xu D5.1 (a0 + 21) (((13 : Int32) * x1) + r6 : Int32).toNatClampNeg ((D5.1 (a0 + 21) (((13 : Int32) * x1) + r6 : Int32).toNatClampNeg) + (1 : Int32)), D5.2) → vp_in x1 (xl (a0 + 22)) ∧ vp_in x1 (xl (a0 + 22)) ∧ ∀ D8 : xD, D8 = (xu D7.1 (a0 + 22) (x1 : Int32).toNatClampNeg ((D7.1 (a0 + 22) (x1 : Int32).toNatClampNeg) + (1 : Int32)), D7.2) → Q (some (.int r6)) D8)) ∧ ((D.1 (a0 + 25) (x1 : Int32).toNatClampNeg) = 0 → Q (some (.int (-1 : Int32))) D)) ∧ ((D.1 (a0 + 25) ((0 : Int32) : Int32).toNatClampNeg) = 0 → xPf (d + 1) m_M_comes 13 [(0, .ref a0), (1, .int x1)] [] D Q))) : xPf (d + 1) m_M_comes 0 [(0, .ref a0), (1, .int x1)] [] D Q := by
  refine x_iload_n rfl rfl ?_
  refine x_if_ne (tgt := 37) rfl rfl (fun c => ?_) (fun c => ?_)
  · have h := h.1 c
    refine x_aload_n rfl rfl ?_
    refine x_gR lf_M_83 k0 rfl rfl ?_
    refine x_iload_n rfl rfl ?_
    refine x_iald (ck_13_45 k0) (xlt (ck_13_45 k0) (by decide)) h.1 rfl ?_
    have h := h.2
    refine x_if_ne (tgt := 48) rfl rfl (fun c => ?_) (fun c => ?_)
    · have h := h.1 c
      refine x_aload_n rfl rfl ?_
      refine x_iload_n rfl rfl ?_
      refine x_vi lm_M_371 vf_M_pop k0 rfl rfl (Nat.le_of_ble_eq_true rfl) rfl h (fun r2 D1 h => ?_)
      refine x_istore_n (i := 2) (L1 := [(2, .int r2), (0, .ref a0), (1, .int x1)]) rfl rfl (Nat.le_of_ble_eq_true rfl) rfl ?_
      refine x_aload_n rfl rfl ?_
      refine x_gR lf_M_71 k0 rfl rfl ?_
      refine x_bipush (v := (13 : Int32)) rfl rfl ?_
      refine x_iload_n rfl rfl ?_
      refine x_imul rfl ?_
      refine x_iload_n rfl rfl ?_
      refine x_iadd rfl ?_
      refine x_dup2 rfl rfl rfl ?_
      refine x_iald (ck_13_41 k0) (xlt (ck_13_41 k0) (by decide)) h.1 rfl ?_
      have h := h.2
      refine x_iconst (v := (1 : Int32)) rfl rfl ?_
      refine x_iadd rfl ?_
      refine x_iastn (ck_13_41 k0) h.1 rfl (fun D3 eD3 => ?_)
      have h := h.2 D3 eD3
      refine x_aload_n rfl rfl ?_
      refine x_gR lf_M_74 k0 rfl rfl ?_
      refine x_iload_n rfl rfl ?_
      refine x_dup2 rfl rfl rfl ?_
      refine x_iald (ck_13_42 k0) (xlt (ck_13_42 k0) (by decide)) h.1 rfl ?_
      have h := h.2
      refine x_iconst (v := (1 : Int32)) rfl rfl ?_
      refine x_iadd rfl ?_
      refine x_iastn (ck_13_42 k0) h.1 rfl (fun D4 eD4 => ?_)
      have h := h.2 D4 eD4
      refine x_iload_n rfl rfl ?_
      exact x_iret rfl rfl h
    · have h := h.2 c
      refine x_iconst (v := (-1 : Int32)) rfl rfl ?_
      exact x_iret rfl rfl h
  · have h := h.2 c
    refine x_aload_n rfl rfl ?_
    refine x_gR lf_M_83 k0 rfl rfl ?_
    refine x_iconst (v := (0 : Int32)) rfl rfl ?_
    refine x_iald (ck_13_45 k0) (xlt (ck_13_45 k0) (by decide)) h.1 rfl ?_
    have h := h.2
    refine x_if_ne (tgt := 37) rfl rfl (fun c => ?_) (fun c => ?_)
    · have h := h.1 c
      refine x_aload_n rfl rfl ?_
      refine x_gR lf_M_83 k0 rfl rfl ?_
      refine x_iload_n rfl rfl ?_
      refine x_iald (ck_13_45 k0) (xlt (ck_13_45 k0) (by decide)) h.1 rfl ?_
      have h := h.2
      refine x_if_ne (tgt := 48) rfl rfl (fun c => ?_) (fun c => ?_)
      · have h := h.1 c
        refine x_aload_n rfl rfl ?_
        refine x_iload_n rfl rfl ?_
        refine x_vi lm_M_371 vf_M_pop k0 rfl rfl (Nat.le_of_ble_eq_true rfl) rfl h (fun r6 D5 h => ?_)
        refine x_istore_n (i := 2) (L1 := [(2, .int r6), (0, .ref a0), (1, .int x1)]) rfl rfl (Nat.le_of_ble_eq_true rfl) rfl ?_
        refine x_aload_n rfl rfl ?_
        refine x_gR lf_M_71 k0 rfl rfl ?_
        refine x_bipush (v := (13 : Int32)) rfl rfl ?_
        refine x_iload_n rfl rfl ?_
        refine x_imul rfl ?_
        refine x_iload_n rfl rfl ?_
        refine x_iadd rfl ?_
        refine x_dup2 rfl rfl rfl ?_
        refine x_iald (ck_13_41 k0) (xlt (ck_13_41 k0) (by decide)) h.1 rfl ?_
        have h := h.2
        refine x_iconst (v := (1 : Int32)) rfl rfl ?_
        refine x_iadd rfl ?_
        refine x_iastn (ck_13_41 k0) h.1 rfl (fun D7 eD7 => ?_)
        have h := h.2 D7 eD7
        refine x_aload_n rfl rfl ?_
        refine x_gR lf_M_74 k0 rfl rfl ?_
        refine x_iload_n rfl rfl ?_
        refine x_dup2 rfl rfl rfl ?_
        refine x_iald (ck_13_42 k0) (xlt (ck_13_42 k0) (by decide)) h.1 rfl ?_
        have h := h.2
        refine x_iconst (v := (1 : Int32)) rfl rfl ?_
        refine x_iadd rfl ?_
        refine x_iastn (ck_13_42 k0) h.1 rfl (fun D8 eD8 => ?_)
        have h := h.2 D8 eD8
        refine x_iload_n rfl rfl ?_
        exact x_iret rfl rfl h
      · have h := h.2 c
        refine x_iconst (v := (-1 : Int32)) rfl rfl ?_
        exact x_iret rfl rfl h
    · have h := h.2 c
      exact h
theorem s_M_comes_13 {d : Nat} {D : xD} {Q : Option Value → xD → Prop} {a0 : Nat} {x1 : Int32} (k0 : xk a0 = 13) (h : vp_in (6 : Int32) (xl (a0 + 25)) ∧ ((D.1 (a0 + 25) ((6 : Int32) : Int32).toNatClampNeg) ≤ 0 → vp_in x1 (xl (a0 + 25)) ∧ (¬ (D.1 (a0 + 25) (x1 : Int32).toNatClampNeg) = 0 → xCi d m_M_pop [.ref a0, .int x1] D (fun r2 D1 => vp_in (((13 : Int32) * x1) + r2) (xl (a0 + 21)) ∧ vp_in (((13 : Int32) * x1) + r2) (xl (a0 + 21)) ∧ ∀ D3 : xD, D3 = (xu D1.1 (a0 + 21) (((13 : Int32) * x1) + r2 : Int32).toNatClampNeg ((D1.1 (a0 + 21) (((13 : Int32) * x1) + r2 : Int32).toNatClampNeg) + (1 : Int32)), D1.2) → vp_in x1 (xl (a0 + 22)) ∧ vp_in x1 (xl (a0 + 22)) ∧ ∀ D4 : xD, D4 = (xu D3.1 (a0 + 22) (x1 : Int32).toNatClampNeg ((D3.1 (a0 + 22) (x1 : Int32).toNatClampNeg) + (1 : Int32)), D3.2) → Q (some (.int r2)) D4)) ∧ ((D.1 (a0 + 25) (x1 : Int32).toNatClampNeg) = 0 → Q (some (.int (-1 : Int32))) D)) ∧ (¬ (D.1 (a0 + 25) ((6 : Int32) : Int32).toNatClampNeg) ≤ 0 → xCi d m_M_pop [.ref a0, .int (6 : Int32)] D (fun r6 D5 => xCv d m_M_push [.ref a0, .int (0 : Int32), .int r6] D5 (fun D7 => xPf (d + 1) m_M_comes 13 [(0, .ref a0), (1, .int x1)] [] D7 Q)))) : xPf (d + 1) m_M_comes 13 [(0, .ref a0), (1, .int x1)] [] D Q := by
  refine x_aload_n rfl rfl ?_
  refine x_gR lf_M_83 k0 rfl rfl ?_
  refine x_bipush (v := (6 : Int32)) rfl rfl ?_
  refine x_iald (ck_13_45 k0) (xlt (ck_13_45 k0) (by decide)) h.1 rfl ?_
  have h := h.2
  refine x_if_le (tgt := 37) rfl rfl (fun c => ?_) (fun c => ?_)
  · have h := h.1 c
    refine x_aload_n rfl rfl ?_
    refine x_gR lf_M_83 k0 rfl rfl ?_
    refine x_iload_n rfl rfl ?_
    refine x_iald (ck_13_45 k0) (xlt (ck_13_45 k0) (by decide)) h.1 rfl ?_
    have h := h.2
    refine x_if_ne (tgt := 48) rfl rfl (fun c => ?_) (fun c => ?_)
    · have h := h.1 c
      refine x_aload_n rfl rfl ?_
      refine x_iload_n rfl rfl ?_
      refine x_vi lm_M_371 vf_M_pop k0 rfl rfl (Nat.le_of_ble_eq_true rfl) rfl h (fun r2 D1 h => ?_)
      refine x_istore_n (i := 2) (L1 := [(2, .int r2), (0, .ref a0), (1, .int x1)]) rfl rfl (Nat.le_of_ble_eq_true rfl) rfl ?_
      refine x_aload_n rfl rfl ?_
      refine x_gR lf_M_71 k0 rfl rfl ?_
      refine x_bipush (v := (13 : Int32)) rfl rfl ?_
      refine x_iload_n rfl rfl ?_
      refine x_imul rfl ?_
      refine x_iload_n rfl rfl ?_
      refine x_iadd rfl ?_
      refine x_dup2 rfl rfl rfl ?_
      refine x_iald (ck_13_41 k0) (xlt (ck_13_41 k0) (by decide)) h.1 rfl ?_
      have h := h.2
      refine x_iconst (v := (1 : Int32)) rfl rfl ?_
      refine x_iadd rfl ?_
      refine x_iastn (ck_13_41 k0) h.1 rfl (fun D3 eD3 => ?_)
      have h := h.2 D3 eD3
      refine x_aload_n rfl rfl ?_
      refine x_gR lf_M_74 k0 rfl rfl ?_
      refine x_iload_n rfl rfl ?_
      refine x_dup2 rfl rfl rfl ?_
      refine x_iald (ck_13_42 k0) (xlt (ck_13_42 k0) (by decide)) h.1 rfl ?_
      have h := h.2
      refine x_iconst (v := (1 : Int32)) rfl rfl ?_
      refine x_iadd rfl ?_
      refine x_iastn (ck_13_42 k0) h.1 rfl (fun D4 eD4 => ?_)
      have h := h.2 D4 eD4
      refine x_iload_n rfl rfl ?_
      exact x_iret rfl rfl h
    · have h := h.2 c
      refine x_iconst (v := (-1 : Int32)) rfl rfl ?_
      exact x_iret rfl rfl h
  · have h := h.2 c
    refine x_aload_n rfl rfl ?_
    refine x_iconst (v := (0 : Int32)) rfl rfl ?_
    refine x_aload_n rfl rfl ?_
    refine x_bipush (v := (6 : Int32)) rfl rfl ?_
    refine x_vi lm_M_371 vf_M_pop k0 rfl rfl (Nat.le_of_ble_eq_true rfl) rfl h (fun r6 D5 h => ?_)
    refine x_vv lm_M_368 vf_M_push k0 rfl rfl (Nat.le_of_ble_eq_true rfl) rfl h (fun D7 h => ?_)
    refine x_goto (tgt := 13) rfl rfl ?_
    exact h
theorem s_M_goesOn_0 {d : Nat} {D : xD} {Q : Option Value → xD → Prop} {a0 : Nat} {x1 : Int32} {x2 : Int32} (k0 : xk a0 = 13) (h : vp_in (((13 : Int32) * x1) + x2) (xl (a0 + 21)) ∧ vp_in (((13 : Int32) * x1) + x2) (xl (a0 + 21)) ∧ ∀ D1 : xD, D1 = (xu D.1 (a0 + 21) (((13 : Int32) * x1) + x2 : Int32).toNatClampNeg ((D.1 (a0 + 21) (((13 : Int32) * x1) + x2 : Int32).toNatClampNeg) - (1 : Int32)), D.2) → vp_in x1 (xl (a0 + 22)) ∧ vp_in x1 (xl (a0 + 22)) ∧ ∀ D2 : xD, D2 = (xu D1.1 (a0 + 22) (x1 : Int32).toNatClampNeg ((D1.1 (a0 + 22) (x1 : Int32).toNatClampNeg) - (1 : Int32)), D1.2) → (¬ x1 = ((D2.1 a0 31) - (1 : Int32)) → xCv d m_M_push [.ref a0, .int (x1 + (1 : Int32)), .int x2] D2 (fun D3 => Q none D3)) ∧ (x1 = ((D2.1 a0 31) - (1 : Int32)) → xCv d m_M_push [.ref a0, .int (6 : Int32), .int x2] D2 (fun D4 => Q none D4))) : xPf (d + 1) m_M_goesOn 0 [(0, .ref a0), (1, .int x1), (2, .int x2)] [] D Q := by
  refine x_aload_n rfl rfl ?_
  refine x_gR lf_M_71 k0 rfl rfl ?_
  refine x_bipush (v := (13 : Int32)) rfl rfl ?_
  refine x_iload_n rfl rfl ?_
  refine x_imul rfl ?_
  refine x_iload_n rfl rfl ?_
  refine x_iadd rfl ?_
  refine x_dup2 rfl rfl rfl ?_
  refine x_iald (ck_13_41 k0) (xlt (ck_13_41 k0) (by decide)) h.1 rfl ?_
  have h := h.2
  refine x_iconst (v := (1 : Int32)) rfl rfl ?_
  refine x_isub rfl ?_
  refine x_iastn (ck_13_41 k0) h.1 rfl (fun D1 eD1 => ?_)
  have h := h.2 D1 eD1
  refine x_aload_n rfl rfl ?_
  refine x_gR lf_M_74 k0 rfl rfl ?_
  refine x_iload_n rfl rfl ?_
  refine x_dup2 rfl rfl rfl ?_
  refine x_iald (ck_13_42 k0) (xlt (ck_13_42 k0) (by decide)) h.1 rfl ?_
  have h := h.2
  refine x_iconst (v := (1 : Int32)) rfl rfl ?_
  refine x_isub rfl ?_
  refine x_iastn (ck_13_42 k0) h.1 rfl (fun D2 eD2 => ?_)
  have h := h.2 D2 eD2
  refine x_aload_n rfl rfl ?_
  refine x_iload_n rfl rfl ?_
  refine x_aload_n rfl rfl ?_
  refine x_gI lf_M_350 k0 rfl rfl ?_
  refine x_iconst (v := (1 : Int32)) rfl rfl ?_
  refine x_isub rfl ?_
  refine x_icmp_ne (tgt := 41) rfl rfl (fun c => ?_) (fun c => ?_)
  · have h := h.1 c
    refine x_iload_n rfl rfl ?_
    refine x_iconst (v := (1 : Int32)) rfl rfl ?_
    refine x_iadd rfl ?_
    refine x_iload_n rfl rfl ?_
    refine x_vv lm_M_368 vf_M_push k0 rfl rfl (Nat.le_of_ble_eq_true rfl) rfl h (fun D3 h => ?_)
    exact x_vret rfl rfl h
  · have h := h.2 c
    refine x_bipush (v := (6 : Int32)) rfl rfl ?_
    refine x_goto (tgt := 44) rfl rfl ?_
    refine x_iload_n rfl rfl ?_
    refine x_vv lm_M_368 vf_M_push k0 rfl rfl (Nat.le_of_ble_eq_true rfl) rfl h (fun D4 h => ?_)
    exact x_vret rfl rfl h
theorem s_M_areAlike_0 {d : Nat} {D : xD} {Q : Option Value → xD → Prop} {a0 : Nat} {x1 : Int32} (k0 : xk a0 = 13) (h : xPf (d + 1) m_M_areAlike 4 [(0, .ref a0), (1, .int x1), (2, .int (0 : Int32)), (3, .int (0 : Int32))] [] D Q) : xPf (d + 1) m_M_areAlike 0 [(0, .ref a0), (1, .int x1)] [] D Q := by
  refine x_iconst (v := (0 : Int32)) rfl rfl ?_
  refine x_istore_n (i := 2) (L1 := [(2, .int (0 : Int32)), (0, .ref a0), (1, .int x1)]) rfl rfl (Nat.le_of_ble_eq_true rfl) rfl ?_
  refine x_iconst (v := (0 : Int32)) rfl rfl ?_
  refine x_istore_n (i := 3) (L1 := [(3, .int (0 : Int32)), (2, .int (0 : Int32)), (0, .ref a0), (1, .int x1)]) rfl rfl (Nat.le_of_ble_eq_true rfl) rfl ?_
  exact xP_sub [2, 3, 1, 0] rfl h
theorem s_M_areAlike_4 {d : Nat} {D : xD} {Q : Option Value → xD → Prop} {a0 : Nat} {x1 : Int32} {x2 : Int32} {x3 : Int32} (k0 : xk a0 = 13) (h : ((D.1 a0 27) ≤ x3 → (x2 = 0 → Q (some (.int (0 : Int32))) D) ∧ (¬ x2 = 0 → vp_in x1 (xl (a0 + 22)) ∧ (¬ (D.1 (a0 + 22) (x1 : Int32).toNatClampNeg) = (D.1 a0 29) → Q (some (.int (0 : Int32))) D) ∧ ((D.1 (a0 + 22) (x1 : Int32).toNatClampNeg) = (D.1 a0 29) → Q (some (.int (1 : Int32))) D))) ∧ (¬ (D.1 a0 27) ≤ x3 → (¬ x2 = 0 → xPf (d + 1) m_M_areAlike 4 [(0, .ref a0), (1, .int x1), (2, .int (1 : Int32)), (3, .int (x3 + (1 : Int32)))] [] D Q) ∧ (x2 = 0 → vp_in (((13 : Int32) * x1) + x3) (xl (a0 + 21)) ∧ (¬ (D.1 (a0 + 21) (((13 : Int32) * x1) + x3 : Int32).toNatClampNeg) = (D.1 a0 29) → xPf (d + 1) m_M_areAlike 4 [(0, .ref a0), (1, .int x1), (2, .int (0 : Int32)), (3, .int (x3 + (1 : Int32)))] [] D Q) ∧ ((D.1 (a0 + 21) (((13 : Int32) * x1) + x3 : Int32).toNatClampNeg) = (D.1 a0 29) → xPf (d + 1) m_M_areAlike 4 [(0, .ref a0), (1, .int x1), (2, .int (1 : Int32)), (3, .int (x3 + (1 : Int32)))] [] D Q)))) : xPf (d + 1) m_M_areAlike 4 [(0, .ref a0), (1, .int x1), (2, .int x2), (3, .int x3)] [] D Q := by
  refine x_iload_n rfl rfl ?_
  refine x_aload_n rfl rfl ?_
  refine x_gI lf_M_335 k0 rfl rfl ?_
  refine x_icmp_ge (tgt := 46) rfl rfl (fun c => ?_) (fun c => ?_)
  · have h := h.1 c
    refine x_iload_n rfl rfl ?_
    refine x_if_eq (tgt := 67) rfl rfl (fun c => ?_) (fun c => ?_)
    · have h := h.1 c
      refine x_iconst (v := (0 : Int32)) rfl rfl ?_
      exact x_zr rfl (Or.inl rfl) rfl h
    · have h := h.2 c
      refine x_aload_n rfl rfl ?_
      refine x_gR lf_M_74 k0 rfl rfl ?_
      refine x_iload_n rfl rfl ?_
      refine x_iald (ck_13_42 k0) (xlt (ck_13_42 k0) (by decide)) h.1 rfl ?_
      have h := h.2
      refine x_aload_n rfl rfl ?_
      refine x_gI lf_M_341 k0 rfl rfl ?_
      refine x_icmp_ne (tgt := 67) rfl rfl (fun c => ?_) (fun c => ?_)
      · have h := h.1 c
        refine x_iconst (v := (0 : Int32)) rfl rfl ?_
        exact x_zr rfl (Or.inl rfl) rfl h
      · have h := h.2 c
        refine x_iconst (v := (1 : Int32)) rfl rfl ?_
        refine x_goto (tgt := 68) rfl rfl ?_
        exact x_zr rfl (Or.inr rfl) rfl h
  · have h := h.2 c
    refine x_iload_n rfl rfl ?_
    refine x_if_ne (tgt := 34) rfl rfl (fun c => ?_) (fun c => ?_)
    · have h := h.1 c
      refine x_iconst (v := (1 : Int32)) rfl rfl ?_
      refine x_goto (tgt := 39) rfl rfl ?_
      refine x_istore_n (i := 2) (L1 := [(2, .int (1 : Int32)), (0, .ref a0), (1, .int x1), (3, .int x3)]) rfl rfl (Nat.le_of_ble_eq_true rfl) rfl ?_
      refine x_iinc (i := 3) (v := x3 + (1 : Int32)) (L1 := [(3, .int (x3 + (1 : Int32))), (2, .int (1 : Int32)), (0, .ref a0), (1, .int x1)]) rfl rfl rfl (Nat.le_of_ble_eq_true rfl) rfl ?_
      refine x_goto (tgt := 4) rfl rfl ?_
      exact xP_sub [2, 3, 1, 0] rfl h
    · have h := h.2 c
      refine x_aload_n rfl rfl ?_
      refine x_gR lf_M_71 k0 rfl rfl ?_
      refine x_bipush (v := (13 : Int32)) rfl rfl ?_
      refine x_iload_n rfl rfl ?_
      refine x_imul rfl ?_
      refine x_iload_n rfl rfl ?_
      refine x_iadd rfl ?_
      refine x_iald (ck_13_41 k0) (xlt (ck_13_41 k0) (by decide)) h.1 rfl ?_
      have h := h.2
      refine x_aload_n rfl rfl ?_
      refine x_gI lf_M_341 k0 rfl rfl ?_
      refine x_icmp_ne (tgt := 38) rfl rfl (fun c => ?_) (fun c => ?_)
      · have h := h.1 c
        refine x_iconst (v := (0 : Int32)) rfl rfl ?_
        refine x_istore_n (i := 2) (L1 := [(2, .int (0 : Int32)), (0, .ref a0), (1, .int x1), (3, .int x3)]) rfl rfl (Nat.le_of_ble_eq_true rfl) rfl ?_
        refine x_iinc (i := 3) (v := x3 + (1 : Int32)) (L1 := [(3, .int (x3 + (1 : Int32))), (2, .int (0 : Int32)), (0, .ref a0), (1, .int x1)]) rfl rfl rfl (Nat.le_of_ble_eq_true rfl) rfl ?_
        refine x_goto (tgt := 4) rfl rfl ?_
        exact xP_sub [2, 3, 1, 0] rfl h
      · have h := h.2 c
        refine x_iconst (v := (1 : Int32)) rfl rfl ?_
        refine x_goto (tgt := 39) rfl rfl ?_
        refine x_istore_n (i := 2) (L1 := [(2, .int (1 : Int32)), (0, .ref a0), (1, .int x1), (3, .int x3)]) rfl rfl (Nat.le_of_ble_eq_true rfl) rfl ?_
        refine x_iinc (i := 3) (v := x3 + (1 : Int32)) (L1 := [(3, .int (x3 + (1 : Int32))), (2, .int (1 : Int32)), (0, .ref a0), (1, .int x1)]) rfl rfl rfl (Nat.le_of_ble_eq_true rfl) rfl ?_
        refine x_goto (tgt := 4) rfl rfl ?_
        exact xP_sub [2, 3, 1, 0] rfl h
theorem s_M_deeds_0 {d : Nat} {D : xD} {Q : Option Value → xD → Prop} {a0 : Nat} (k0 : xk a0 = 13) (h : vp_in ((121 : Int32) * (D.1 a0 46)) (xl (a0 + 8)) ∧ Q (some (.int (D.1 (a0 + 8) ((121 : Int32) * (D.1 a0 46) : Int32).toNatClampNeg))) D) : xPf (d + 1) m_M_deeds 0 [(0, .ref a0)] [] D Q := by
  refine x_aload_n rfl rfl ?_
  refine x_gR lf_M_32 k0 rfl rfl ?_
  refine x_bipush (v := (121 : Int32)) rfl rfl ?_
  refine x_aload_n rfl rfl ?_
  refine x_gI lf_M_374 k0 rfl rfl ?_
  refine x_imul rfl ?_
  refine x_iald (ck_13_8 k0) (xlt (ck_13_8 k0) (by decide)) h.1 rfl ?_
  have h := h.2
  exact x_iret rfl rfl h
theorem s_M_deedOf_0 {d : Nat} {D : xD} {Q : Option Value → xD → Prop} {a0 : Nat} {x1 : Int32} {x2 : Int32} (k0 : xk a0 = 13) (h : vp_in (((((121 : Int32) * (D.1 a0 46)) + (1 : Int32)) + ((3 : Int32) * x1)) + x2) (xl (a0 + 8)) ∧ Q (some (.int (D.1 (a0 + 8) (((((121 : Int32) * (D.1 a0 46)) + (1 : Int32)) + ((3 : Int32) * x1)) + x2 : Int32).toNatClampNeg))) D) : xPf (d + 1) m_M_deedOf 0 [(0, .ref a0), (1, .int x1), (2, .int x2)] [] D Q := by
  refine x_aload_n rfl rfl ?_
  refine x_gR lf_M_32 k0 rfl rfl ?_
  refine x_bipush (v := (121 : Int32)) rfl rfl ?_
  refine x_aload_n rfl rfl ?_
  refine x_gI lf_M_374 k0 rfl rfl ?_
  refine x_imul rfl ?_
  refine x_iconst (v := (1 : Int32)) rfl rfl ?_
  refine x_iadd rfl ?_
  refine x_iconst (v := (3 : Int32)) rfl rfl ?_
  refine x_iload_n rfl rfl ?_
  refine x_imul rfl ?_
  refine x_iadd rfl ?_
  refine x_iload_n rfl rfl ?_
  refine x_iadd rfl ?_
  refine x_iald (ck_13_8 k0) (xlt (ck_13_8 k0) (by decide)) h.1 rfl ?_
  have h := h.2
  exact x_iret rfl rfl h
theorem s_M_hasBook_0 {d : Nat} {D : xD} {Q : Option Value → xD → Prop} {a0 : Nat} {x1 : Int32} (k0 : xk a0 = 13) (h : ∀ D1 : xD, D1 = (xu D.1 a0 46 x1, D.2) → xCi d m_M_is [.ref a0, .int (2 : Int32), .int x1] D1 (fun r3 D2 => (r3 = 0 ∨ r3 = 1) ∧ Q (some (.int r3)) D2)) : xPf (d + 1) m_M_hasBook 0 [(0, .ref a0), (1, .int x1)] [] D Q := by
  refine x_aload_n rfl rfl ?_
  refine x_iload_n rfl rfl ?_
  refine x_pIn lp_M_374 nf_13_46 k0 rfl rfl (fun D1 eD1 => ?_)
  have h := h D1 eD1
  refine x_aload_n rfl rfl ?_
  refine x_iconst (v := (2 : Int32)) rfl rfl ?_
  refine x_iload_n rfl rfl ?_
  refine x_vi lm_M_319 vf_M_is k0 rfl rfl (Nat.le_of_ble_eq_true rfl) rfl h (fun r3 D2 h => ?_)
  exact x_zr rfl h.1 rfl h.2
theorem s_M_deed_0 {d : Nat} {D : xD} {Q : Option Value → xD → Prop} {a0 : Nat} {x1 : Int32} {x2 : Int32} {x3 : Int32} (k0 : xk a0 = 13) (h : ∀ D1 : xD, D1 = (xu D.1 a0 0 (0 : Int32), D.2) → xCi d m_M_hasBook [.ref a0, .int x1] D1 (fun r3 D2 => (¬ r3 = 0 → (¬ x2 = (-1 : Int32) → xCi d m_M_deeds [.ref a0] D2 (fun r5 D4 => xCi d m_M_in [.int x2, .int (0 : Int32), .int (r5 - (1 : Int32))] D4 (fun r7 D6 => (r7 = 0 → Q (some (.int (-2 : Int32))) D6) ∧ (¬ r7 = 0 → xCi d m_M_in [.int x3, .int (0 : Int32), .int (2 : Int32)] D6 (fun r9 D8 => (r9 = 0 → Q (some (.int (-2 : Int32))) D8) ∧ (¬ r9 = 0 → xCi d m_M_deedOf [.ref a0, .int x2, .int x3] D8 (fun r11 D10 => Q (some (.int r11)) D10))))))) ∧ (x2 = (-1 : Int32) → (¬ x3 = 0 → Q (some (.int (-2 : Int32))) D2) ∧ (x3 = 0 → xCi d m_M_deeds [.ref a0] D2 (fun r13 D12 => Q (some (.int r13)) D12)))) ∧ (r3 = 0 → Q (some (.int (-2 : Int32))) D2))) : xPf (d + 1) m_M_deed 0 [(0, .ref a0), (1, .int x1), (2, .int x2), (3, .int x3)] [] D Q := by
  refine x_aload_n rfl rfl ?_
  refine x_iconst (v := (0 : Int32)) rfl rfl ?_
  refine x_pIn lp_M_139 nf_13_0 k0 rfl rfl (fun D1 eD1 => ?_)
  have h := h D1 eD1
  refine x_aload_n rfl rfl ?_
  refine x_iload_n rfl rfl ?_
  refine x_vi lm_M_377 vf_M_hasBook k0 rfl rfl (Nat.le_of_ble_eq_true rfl) rfl h (fun r3 D2 h => ?_)
  refine x_if_ne (tgt := 16) rfl rfl (fun c => ?_) (fun c => ?_)
  · have h := h.1 c
    refine x_iload_n rfl rfl ?_
    refine x_iconst (v := (-1 : Int32)) rfl rfl ?_
    refine x_icmp_ne (tgt := 35) rfl rfl (fun c => ?_) (fun c => ?_)
    · have h := h.1 c
      refine x_iload_n rfl rfl ?_
      refine x_iconst (v := (0 : Int32)) rfl rfl ?_
      refine x_aload_n rfl rfl ?_
      refine x_vi lm_M_380 vf_M_deeds k0 rfl rfl (Nat.le_of_ble_eq_true rfl) rfl h (fun r5 D4 h => ?_)
      refine x_iconst (v := (1 : Int32)) rfl rfl ?_
      refine x_isub rfl ?_
      refine x_si lm_M_147 sf_M_in rfl rfl (Nat.le_of_ble_eq_true rfl) rfl h (fun r7 D6 h => ?_)
      refine x_if_eq (tgt := 67) rfl rfl (fun c => ?_) (fun c => ?_)
      · have h := h.1 c
        refine x_bipush (v := (-2 : Int32)) rfl rfl ?_
        exact x_iret rfl rfl h
      · have h := h.2 c
        refine x_iload_n rfl rfl ?_
        refine x_iconst (v := (0 : Int32)) rfl rfl ?_
        refine x_iconst (v := (2 : Int32)) rfl rfl ?_
        refine x_si lm_M_147 sf_M_in rfl rfl (Nat.le_of_ble_eq_true rfl) rfl h (fun r9 D8 h => ?_)
        refine x_if_eq (tgt := 67) rfl rfl (fun c => ?_) (fun c => ?_)
        · have h := h.1 c
          refine x_bipush (v := (-2 : Int32)) rfl rfl ?_
          exact x_iret rfl rfl h
        · have h := h.2 c
          refine x_aload_n rfl rfl ?_
          refine x_iload_n rfl rfl ?_
          refine x_iload_n rfl rfl ?_
          refine x_vi lm_M_383 vf_M_deedOf k0 rfl rfl (Nat.le_of_ble_eq_true rfl) rfl h (fun r11 D10 h => ?_)
          refine x_goto (tgt := 69) rfl rfl ?_
          exact x_iret rfl rfl h
    · have h := h.2 c
      refine x_iload_n rfl rfl ?_
      refine x_if_ne (tgt := 32) rfl rfl (fun c => ?_) (fun c => ?_)
      · have h := h.1 c
        refine x_bipush (v := (-2 : Int32)) rfl rfl ?_
        exact x_iret rfl rfl h
      · have h := h.2 c
        refine x_aload_n rfl rfl ?_
        refine x_vi lm_M_380 vf_M_deeds k0 rfl rfl (Nat.le_of_ble_eq_true rfl) rfl h (fun r13 D12 h => ?_)
        refine x_goto (tgt := 34) rfl rfl ?_
        exact x_iret rfl rfl h
  · have h := h.2 c
    refine x_bipush (v := (-2 : Int32)) rfl rfl ?_
    exact x_iret rfl rfl h
theorem s_M_beginBook_0 {d : Nat} {D : xD} {Q : Option Value → xD → Prop} {a0 : Nat} (k0 : xk a0 = 13) (h : xCv d m_M_deal [.ref a0] D (fun D1 => ∀ D2 : xD, D2 = (xu D1.1 a0 47 (0 : Int32), D1.2) → ∀ D3 : xD, D3 = (xu D2.1 a0 48 (0 : Int32), D2.2) → ∀ D4 : xD, D4 = (xu D3.1 a0 49 (0 : Int32), D3.2) → ∀ D5 : xD, D5 = (xu D4.1 a0 50 (-1 : Int32), D4.2) → ∀ D6 : xD, D6 = (xu D5.1 a0 53 (0 : Int32), D5.2) → xPf (d + 1) m_M_beginBook 31 [(0, .ref a0), (1, .int (0 : Int32))] [] D6 Q)) : xPf (d + 1) m_M_beginBook 0 [(0, .ref a0)] [] D Q := by
  refine x_aload_n rfl rfl ?_
  refine x_vv lm_M_386 vf_M_deal k0 rfl rfl (Nat.le_of_ble_eq_true rfl) rfl h (fun D1 h => ?_)
  refine x_aload_n rfl rfl ?_
  refine x_iconst (v := (0 : Int32)) rfl rfl ?_
  refine x_pIn lp_M_389 nf_13_47 k0 rfl rfl (fun D2 eD2 => ?_)
  have h := h D2 eD2
  refine x_aload_n rfl rfl ?_
  refine x_iconst (v := (0 : Int32)) rfl rfl ?_
  refine x_pIn lp_M_392 nf_13_48 k0 rfl rfl (fun D3 eD3 => ?_)
  have h := h D3 eD3
  refine x_aload_n rfl rfl ?_
  refine x_iconst (v := (0 : Int32)) rfl rfl ?_
  refine x_pIn lp_M_395 nf_13_49 k0 rfl rfl (fun D4 eD4 => ?_)
  have h := h D4 eD4
  refine x_aload_n rfl rfl ?_
  refine x_iconst (v := (-1 : Int32)) rfl rfl ?_
  refine x_pIn lp_M_398 nf_13_50 k0 rfl rfl (fun D5 eD5 => ?_)
  have h := h D5 eD5
  refine x_aload_n rfl rfl ?_
  refine x_iconst (v := (0 : Int32)) rfl rfl ?_
  refine x_pIn lp_M_401 nf_13_53 k0 rfl rfl (fun D6 eD6 => ?_)
  have h := h D6 eD6
  refine x_iconst (v := (0 : Int32)) rfl rfl ?_
  refine x_istore_n (i := 1) (L1 := [(1, .int (0 : Int32)), (0, .ref a0)]) rfl rfl (Nat.le_of_ble_eq_true rfl) rfl ?_
  exact xP_sub [1, 0] rfl h
theorem s_M_beginBook_31 {d : Nat} {D : xD} {Q : Option Value → xD → Prop} {a0 : Nat} {x1 : Int32} (k0 : xk a0 = 13) (h : ((6 : Int32) ≤ x1 → Q none D) ∧ (¬ (6 : Int32) ≤ x1 → vp_in x1 (xl (a0 + 27)) ∧ ∀ D1 : xD, D1 = (xu D.1 (a0 + 27) (x1 : Int32).toNatClampNeg (0 : Int32), D.2) → xPf (d + 1) m_M_beginBook 31 [(0, .ref a0), (1, .int (x1 + (1 : Int32)))] [] D1 Q)) : xPf (d + 1) m_M_beginBook 31 [(0, .ref a0), (1, .int x1)] [] D Q := by
  refine x_iload_n rfl rfl ?_
  refine x_bipush (v := (6 : Int32)) rfl rfl ?_
  refine x_icmp_ge (tgt := 50) rfl rfl (fun c => ?_) (fun c => ?_)
  · have h := h.1 c
    exact x_vret rfl rfl h
  · have h := h.2 c
    refine x_aload_n rfl rfl ?_
    refine x_gR lf_M_89 k0 rfl rfl ?_
    refine x_iload_n rfl rfl ?_
    refine x_iconst (v := (0 : Int32)) rfl rfl ?_
    refine x_iastn (ck_13_52 k0) h.1 rfl (fun D1 eD1 => ?_)
    have h := h.2 D1 eD1
    refine x_iinc (i := 1) (v := x1 + (1 : Int32)) (L1 := [(1, .int (x1 + (1 : Int32))), (0, .ref a0)]) rfl rfl rfl (Nat.le_of_ble_eq_true rfl) rfl ?_
    refine x_goto (tgt := 31) rfl rfl ?_
    exact xP_sub [1, 0] rfl h
theorem s_M_reaches_0 {d : Nat} {D : xD} {Q : Option Value → xD → Prop} {a0 : Nat} {x1 : Int32} (k0 : xk a0 = 13) (h : xCi d m_M_has [.int (D.1 a0 53), .int x1] D (fun r2 D1 => (r2 = 0 → xCi d m_M_areAlike [.ref a0, .int x1] D1 (fun r4 D3 => (¬ r4 = 0 → vp_in (D3.1 a0 49) (xl (a0 + 26)) ∧ ∀ D5 : xD, D5 = (xu D3.1 (a0 + 26) (D3.1 a0 49 : Int32).toNatClampNeg x1, D3.2) → ∀ D6 : xD, D6 = (xu D5.1 a0 53 ((D5.1 a0 53) ||| ((1 : Int32) <<< (x1 &&& 31))), D5.2) → ∀ D7 : xD, D7 = (xu D6.1 a0 49 ((D6.1 a0 49) + (1 : Int32)), D6.2) → (¬ (D7.1 a0 49) = ((D7.1 a0 30) - (1 : Int32)) → Q (some (.int (1 : Int32))) D7) ∧ ((D7.1 a0 49) = ((D7.1 a0 30) - (1 : Int32)) → ∀ D8 : xD, D8 = (xu D7.1 a0 50 (0 : Int32), D7.2) → xPf (d + 1) m_M_reaches 90 [(0, .ref a0), (1, .int x1)] [] D8 Q)) ∧ (r4 = 0 → (¬ (D3.1 a0 49) = 0 → vp_in (D3.1 a0 49) (xl (a0 + 26)) ∧ ∀ D9 : xD, D9 = (xu D3.1 (a0 + 26) (D3.1 a0 49 : Int32).toNatClampNeg x1, D3.2) → ∀ D10 : xD, D10 = (xu D9.1 a0 53 ((D9.1 a0 53) ||| ((1 : Int32) <<< (x1 &&& 31))), D9.2) → ∀ D11 : xD, D11 = (xu D10.1 a0 49 ((D10.1 a0 49) + (1 : Int32)), D10.2) → (¬ (D11.1 a0 49) = ((D11.1 a0 30) - (1 : Int32)) → Q (some (.int (1 : Int32))) D11) ∧ ((D11.1 a0 49) = ((D11.1 a0 30) - (1 : Int32)) → ∀ D12 : xD, D12 = (xu D11.1 a0 50 (0 : Int32), D11.2) → xPf (d + 1) m_M_reaches 90 [(0, .ref a0), (1, .int x1)] [] D12 Q)) ∧ ((D3.1 a0 49) = 0 → vp_in x1 (xl (a0 + 27)) ∧ vp_in x1 (xl (a0 + 27)) ∧ ∀ D13 : xD, D13 = (xu D3.1 (a0 + 27) (x1 : Int32).toNatClampNeg ((D3.1 (a0 + 27) (x1 : Int32).toNatClampNeg) + (1 : Int32)), D3.2) → Q (some (.int (1 : Int32))) D13)))) ∧ (¬ r2 = 0 → Q (some (.int (0 : Int32))) D1))) : xPf (d + 1) m_M_reaches 0 [(0, .ref a0), (1, .int x1)] [] D Q := by
  refine x_aload_n rfl rfl ?_
  refine x_gI lf_M_401 k0 rfl rfl ?_
  refine x_iload_n rfl rfl ?_
  refine x_si lm_M_283 sf_M_has rfl rfl (Nat.le_of_ble_eq_true rfl) rfl h (fun r2 D1 h => ?_)
  refine x_if_eq (tgt := 13) rfl rfl (fun c => ?_) (fun c => ?_)
  · have h := h.1 c
    refine x_aload_n rfl rfl ?_
    refine x_iload_n rfl rfl ?_
    refine x_vi lm_M_404 vf_M_areAlike k0 rfl rfl (Nat.le_of_ble_eq_true rfl) rfl h (fun r4 D3 h => ?_)
    refine x_if_ne (tgt := 40) rfl rfl (fun c => ?_) (fun c => ?_)
    · have h := h.1 c
      refine x_aload_n rfl rfl ?_
      refine x_gR lf_M_86 k0 rfl rfl ?_
      refine x_aload_n rfl rfl ?_
      refine x_gI lf_M_395 k0 rfl rfl ?_
      refine x_iload_n rfl rfl ?_
      refine x_iastn (ck_13_51 k0) h.1 rfl (fun D5 eD5 => ?_)
      have h := h.2 D5 eD5
      refine x_aload_n rfl rfl ?_
      refine x_dup rfl rfl ?_
      refine x_gI lf_M_401 k0 rfl rfl ?_
      refine x_iconst (v := (1 : Int32)) rfl rfl ?_
      refine x_iload_n rfl rfl ?_
      refine x_ishl rfl ?_
      refine x_ior rfl ?_
      refine x_pIn lp_M_401 nf_13_53 k0 rfl rfl (fun D6 eD6 => ?_)
      have h := h D6 eD6
      refine x_aload_n rfl rfl ?_
      refine x_dup rfl rfl ?_
      refine x_gI lf_M_395 k0 rfl rfl ?_
      refine x_iconst (v := (1 : Int32)) rfl rfl ?_
      refine x_iadd rfl ?_
      refine x_pIn lp_M_395 nf_13_49 k0 rfl rfl (fun D7 eD7 => ?_)
      have h := h D7 eD7
      refine x_aload_n rfl rfl ?_
      refine x_gI lf_M_395 k0 rfl rfl ?_
      refine x_aload_n rfl rfl ?_
      refine x_gI lf_M_344 k0 rfl rfl ?_
      refine x_iconst (v := (1 : Int32)) rfl rfl ?_
      refine x_isub rfl ?_
      refine x_icmp_ne (tgt := 130) rfl rfl (fun c => ?_) (fun c => ?_)
      · have h := h.1 c
        refine x_iconst (v := (1 : Int32)) rfl rfl ?_
        exact x_zr rfl (Or.inr rfl) rfl h
      · have h := h.2 c
        refine x_aload_n rfl rfl ?_
        refine x_iconst (v := (0 : Int32)) rfl rfl ?_
        refine x_pIn lp_M_398 nf_13_50 k0 rfl rfl (fun D8 eD8 => ?_)
        have h := h D8 eD8
        exact h
    · have h := h.2 c
      refine x_aload_n rfl rfl ?_
      refine x_gI lf_M_395 k0 rfl rfl ?_
      refine x_if_ne (tgt := 40) rfl rfl (fun c => ?_) (fun c => ?_)
      · have h := h.1 c
        refine x_aload_n rfl rfl ?_
        refine x_gR lf_M_86 k0 rfl rfl ?_
        refine x_aload_n rfl rfl ?_
        refine x_gI lf_M_395 k0 rfl rfl ?_
        refine x_iload_n rfl rfl ?_
        refine x_iastn (ck_13_51 k0) h.1 rfl (fun D9 eD9 => ?_)
        have h := h.2 D9 eD9
        refine x_aload_n rfl rfl ?_
        refine x_dup rfl rfl ?_
        refine x_gI lf_M_401 k0 rfl rfl ?_
        refine x_iconst (v := (1 : Int32)) rfl rfl ?_
        refine x_iload_n rfl rfl ?_
        refine x_ishl rfl ?_
        refine x_ior rfl ?_
        refine x_pIn lp_M_401 nf_13_53 k0 rfl rfl (fun D10 eD10 => ?_)
        have h := h D10 eD10
        refine x_aload_n rfl rfl ?_
        refine x_dup rfl rfl ?_
        refine x_gI lf_M_395 k0 rfl rfl ?_
        refine x_iconst (v := (1 : Int32)) rfl rfl ?_
        refine x_iadd rfl ?_
        refine x_pIn lp_M_395 nf_13_49 k0 rfl rfl (fun D11 eD11 => ?_)
        have h := h D11 eD11
        refine x_aload_n rfl rfl ?_
        refine x_gI lf_M_395 k0 rfl rfl ?_
        refine x_aload_n rfl rfl ?_
        refine x_gI lf_M_344 k0 rfl rfl ?_
        refine x_iconst (v := (1 : Int32)) rfl rfl ?_
        refine x_isub rfl ?_
        refine x_icmp_ne (tgt := 130) rfl rfl (fun c => ?_) (fun c => ?_)
        · have h := h.1 c
          refine x_iconst (v := (1 : Int32)) rfl rfl ?_
          exact x_zr rfl (Or.inr rfl) rfl h
        · have h := h.2 c
          refine x_aload_n rfl rfl ?_
          refine x_iconst (v := (0 : Int32)) rfl rfl ?_
          refine x_pIn lp_M_398 nf_13_50 k0 rfl rfl (fun D12 eD12 => ?_)
          have h := h D12 eD12
          exact h
      · have h := h.2 c
        refine x_aload_n rfl rfl ?_
        refine x_gR lf_M_89 k0 rfl rfl ?_
        refine x_iload_n rfl rfl ?_
        refine x_dup2 rfl rfl rfl ?_
        refine x_iald (ck_13_52 k0) (xlt (ck_13_52 k0) (by decide)) h.1 rfl ?_
        have h := h.2
        refine x_iconst (v := (1 : Int32)) rfl rfl ?_
        refine x_iadd rfl ?_
        refine x_iastn (ck_13_52 k0) h.1 rfl (fun D13 eD13 => ?_)
        have h := h.2 D13 eD13
        refine x_iconst (v := (1 : Int32)) rfl rfl ?_
        exact x_zr rfl (Or.inr rfl) rfl h
  · have h := h.2 c
    refine x_iconst (v := (0 : Int32)) rfl rfl ?_
    exact x_zr rfl (Or.inl rfl) rfl h
theorem s_M_reaches_90 {d : Nat} {D : xD} {Q : Option Value → xD → Prop} {a0 : Nat} {x1 : Int32} (k0 : xk a0 = 13) (h : xCi d m_M_has [.int (D.1 a0 53), .int (D.1 a0 50)] D (fun r2 D1 => (r2 = 0 → vp_in (D1.1 a0 50) (xl (a0 + 27)) ∧ vp_in (D1.1 a0 50) (xl (a0 + 27)) ∧ ∀ D3 : xD, D3 = (xu D1.1 (a0 + 27) (D1.1 a0 50 : Int32).toNatClampNeg ((D1.1 (a0 + 27) (D1.1 a0 50 : Int32).toNatClampNeg) + (1 : Int32)), D1.2) → Q (some (.int (1 : Int32))) D3) ∧ (¬ r2 = 0 → ∀ D4 : xD, D4 = (xu D1.1 a0 50 ((D1.1 a0 50) + (1 : Int32)), D1.2) → xPf (d + 1) m_M_reaches 90 [(0, .ref a0), (1, .int x1)] [] D4 Q))) : xPf (d + 1) m_M_reaches 90 [(0, .ref a0), (1, .int x1)] [] D Q := by
  refine x_aload_n rfl rfl ?_
  refine x_gI lf_M_401 k0 rfl rfl ?_
  refine x_aload_n rfl rfl ?_
  refine x_gI lf_M_398 k0 rfl rfl ?_
  refine x_si lm_M_283 sf_M_has rfl rfl (Nat.le_of_ble_eq_true rfl) rfl h (fun r2 D1 h => ?_)
  refine x_if_eq (tgt := 117) rfl rfl (fun c => ?_) (fun c => ?_)
  · have h := h.1 c
    refine x_aload_n rfl rfl ?_
    refine x_gR lf_M_89 k0 rfl rfl ?_
    refine x_aload_n rfl rfl ?_
    refine x_gI lf_M_398 k0 rfl rfl ?_
    refine x_dup2 rfl rfl rfl ?_
    refine x_iald (ck_13_52 k0) (xlt (ck_13_52 k0) (by decide)) h.1 rfl ?_
    have h := h.2
    refine x_iconst (v := (1 : Int32)) rfl rfl ?_
    refine x_iadd rfl ?_
    refine x_iastn (ck_13_52 k0) h.1 rfl (fun D3 eD3 => ?_)
    have h := h.2 D3 eD3
    refine x_iconst (v := (1 : Int32)) rfl rfl ?_
    exact x_zr rfl (Or.inr rfl) rfl h
  · have h := h.2 c
    refine x_aload_n rfl rfl ?_
    refine x_dup rfl rfl ?_
    refine x_gI lf_M_398 k0 rfl rfl ?_
    refine x_iconst (v := (1 : Int32)) rfl rfl ?_
    refine x_iadd rfl ?_
    refine x_pIn lp_M_398 nf_13_50 k0 rfl rfl (fun D4 eD4 => ?_)
    have h := h D4 eD4
    refine x_goto (tgt := 90) rfl rfl ?_
    exact h
theorem s_M_does_0 {d : Nat} {D : xD} {Q : Option Value → xD → Prop} {a0 : Nat} {x1 : Int32} (k0 : xk a0 = 13) (h : xCi d m_M_deedOf [.ref a0, .int x1, .int (0 : Int32)] D (fun r2 D1 => xCi d m_M_deedOf [.ref a0, .int x1, .int (1 : Int32)] D1 (fun r4 D3 => xCi d m_M_deedOf [.ref a0, .int x1, .int (2 : Int32)] D3 (fun r6 D5 => (¬ (D5.1 a0 50) = (-1 : Int32) → Q (some (.int (0 : Int32))) D5) ∧ ((D5.1 a0 50) = (-1 : Int32) → (r2 = (4 : Int32) → (r2 = (0 : Int32) → vp_in r4 (xl (a0 + 22)) ∧ (¬ (D5.1 (a0 + 22) (r4 : Int32).toNatClampNeg) = (D5.1 a0 29) → Q (some (.int (0 : Int32))) D5) ∧ ((D5.1 (a0 + 22) (r4 : Int32).toNatClampNeg) = (D5.1 a0 29) → xCi d m_M_comes [.ref a0, .int r4] D5 (fun r9 D8 => (r9 = (-1 : Int32) → Q (some (.int (0 : Int32))) D8) ∧ (¬ r9 = (-1 : Int32) → Q (some (.int (1 : Int32))) D8)))) ∧ (r2 = (1 : Int32) → vp_in r4 (xl (a0 + 22)) ∧ (¬ (D5.1 (a0 + 22) (r4 : Int32).toNatClampNeg) = ((D5.1 a0 29) + (1 : Int32)) → Q (some (.int (0 : Int32))) D5) ∧ ((D5.1 (a0 + 22) (r4 : Int32).toNatClampNeg) = ((D5.1 a0 29) + (1 : Int32)) → vp_in (((13 : Int32) * r4) + r6) (xl (a0 + 21)) ∧ (¬ (D5.1 (a0 + 21) (((13 : Int32) * r4) + r6 : Int32).toNatClampNeg) = 0 → xCv d m_M_goesOn [.ref a0, .int r4, .int r6] D5 (fun D10 => Q (some (.int (1 : Int32))) D10)) ∧ ((D5.1 (a0 + 21) (((13 : Int32) * r4) + r6 : Int32).toNatClampNeg) = 0 → Q (some (.int (0 : Int32))) D5))) ∧ (r2 = (2 : Int32) → xCi d m_M_reaches [.ref a0, .int r4] D5 (fun r12 D11 => (r12 = 0 ∨ r12 = 1) ∧ Q (some (.int r12)) D11)) ∧ (r2 = (3 : Int32) → ∀ D13 : xD, D13 = (xu D5.1 a0 48 ((D5.1 a0 48) + (1 : Int32)), D5.2) → Q (some (.int (1 : Int32))) D13) ∧ (((r2).toInt < 0 ∨ 3 < (r2).toInt) → ∀ D7 : xD, D7 = (xu D5.1 a0 47 ((D5.1 a0 47) + r4), D5.2) → Q (some (.int (1 : Int32))) D7)) ∧ (¬ r2 = (4 : Int32) → xCi d m_M_isOne [.ref a0, .int r4] D5 (fun r15 D14 => (¬ r15 = 0 → (r2 = (0 : Int32) → vp_in r4 (xl (a0 + 22)) ∧ (¬ (D14.1 (a0 + 22) (r4 : Int32).toNatClampNeg) = (D14.1 a0 29) → Q (some (.int (0 : Int32))) D14) ∧ ((D14.1 (a0 + 22) (r4 : Int32).toNatClampNeg) = (D14.1 a0 29) → xCi d m_M_comes [.ref a0, .int r4] D14 (fun r18 D17 => (r18 = (-1 : Int32) → Q (some (.int (0 : Int32))) D17) ∧ (¬ r18 = (-1 : Int32) → Q (some (.int (1 : Int32))) D17)))) ∧ (r2 = (1 : Int32) → vp_in r4 (xl (a0 + 22)) ∧ (¬ (D14.1 (a0 + 22) (r4 : Int32).toNatClampNeg) = ((D14.1 a0 29) + (1 : Int32)) → Q (some (.int (0 : Int32))) D14) ∧ ((D14.1 (a0 + 22) (r4 : Int32).toNatClampNeg) = ((D14.1 a0 29) + (1 : Int32)) → vp_in (((13 : Int32) * r4) + r6) (xl (a0 + 21)) ∧ (¬ (D14.1 (a0 + 21) (((13 : Int32) * r4) + r6 : Int32).toNatClampNeg) = 0 → xCv d m_M_goesOn [.ref a0, .int r4, .int r6] D14 (fun D19 => Q (some (.int (1 : Int32))) D19)) ∧ ((D14.1 (a0 + 21) (((13 : Int32) * r4) + r6 : Int32).toNatClampNeg) = 0 → Q (some (.int (0 : Int32))) D14))) ∧ (r2 = (2 : Int32) → xCi d m_M_reaches [.ref a0, .int r4] D14 (fun r21 D20 => (r21 = 0 ∨ r21 = 1) ∧ Q (some (.int r21)) D20)) ∧ (r2 = (3 : Int32) → ∀ D22 : xD, D22 = (xu D14.1 a0 48 ((D14.1 a0 48) + (1 : Int32)), D14.2) → Q (some (.int (1 : Int32))) D22) ∧ (((r2).toInt < 0 ∨ 3 < (r2).toInt) → ∀ D16 : xD, D16 = (xu D14.1 a0 47 ((D14.1 a0 47) + r4), D14.2) → Q (some (.int (1 : Int32))) D16)) ∧ (r15 = 0 → Q (some (.int (0 : Int32))) D14)))))))) : xPf (d + 1) m_M_does 0 [(0, .ref a0), (1, .int x1)] [] D Q := by
  refine x_aload_n rfl rfl ?_
  refine x_iload_n rfl rfl ?_
  refine x_iconst (v := (0 : Int32)) rfl rfl ?_
  refine x_vi lm_M_383 vf_M_deedOf k0 rfl rfl (Nat.le_of_ble_eq_true rfl) rfl h (fun r2 D1 h => ?_)
  refine x_istore_n (i := 2) (L1 := [(2, .int r2), (0, .ref a0), (1, .int x1)]) rfl rfl (Nat.le_of_ble_eq_true rfl) rfl ?_
  refine x_aload_n rfl rfl ?_
  refine x_iload_n rfl rfl ?_
  refine x_iconst (v := (1 : Int32)) rfl rfl ?_
  refine x_vi lm_M_383 vf_M_deedOf k0 rfl rfl (Nat.le_of_ble_eq_true rfl) rfl h (fun r4 D3 h => ?_)
  refine x_istore_n (i := 3) (L1 := [(3, .int r4), (2, .int r2), (0, .ref a0), (1, .int x1)]) rfl rfl (Nat.le_of_ble_eq_true rfl) rfl ?_
  refine x_aload_n rfl rfl ?_
  refine x_iload_n rfl rfl ?_
  refine x_iconst (v := (2 : Int32)) rfl rfl ?_
  refine x_vi lm_M_383 vf_M_deedOf k0 rfl rfl (Nat.le_of_ble_eq_true rfl) rfl h (fun r6 D5 h => ?_)
  refine x_istore (i := 4) (L1 := [(4, .int r6), (3, .int r4), (2, .int r2), (0, .ref a0), (1, .int x1)]) rfl (Nat.le_of_ble_eq_true rfl) rfl ?_
  refine x_aload_n rfl rfl ?_
  refine x_gI lf_M_398 k0 rfl rfl ?_
  refine x_iconst (v := (-1 : Int32)) rfl rfl ?_
  refine x_icmp_ne (tgt := 43) rfl rfl (fun c => ?_) (fun c => ?_)
  · have h := h.1 c
    refine x_iconst (v := (0 : Int32)) rfl rfl ?_
    exact x_zr rfl (Or.inl rfl) rfl h
  · have h := h.2 c
    refine x_iload_n rfl rfl ?_
    refine x_iconst (v := (4 : Int32)) rfl rfl ?_
    refine x_icmp_eq (tgt := 45) rfl rfl (fun c => ?_) (fun c => ?_)
    · have h := h.1 c
      refine x_iload_n rfl rfl ?_
      rcases Decidable.em ((r2).toInt < 0 ∨ 3 < (r2).toInt) with q | q
      · refine x_tableOut (tgt := 163) rfl q rfl ?_
        have h := h.2.2.2.2 q
        refine x_aload_n rfl rfl ?_
        refine x_dup rfl rfl ?_
        refine x_gI lf_M_389 k0 rfl rfl ?_
        refine x_iload_n rfl rfl ?_
        refine x_iadd rfl ?_
        refine x_pIn lp_M_389 nf_13_47 k0 rfl rfl (fun D7 eD7 => ?_)
        have h := h D7 eD7
        refine x_iconst (v := (1 : Int32)) rfl rfl ?_
        exact x_zr rfl (Or.inr rfl) rfl h
      · have q : (r2).toInt = 0 ∨ (r2).toInt = 1 ∨ (r2).toInt = 2 ∨ (r2).toInt = 3 := by omega
        rcases q with q | q | q | q
        · have q : r2 = (0 : Int32) := Int32.toInt_inj.mp q
          refine x_tabK (k := (0 : Int32)) (tgt := 76) q rfl (by decide) (by decide) rfl rfl ?_
          have h := h.1 q
          refine x_aload_n rfl rfl ?_
          refine x_gR lf_M_74 k0 rfl rfl ?_
          refine x_iload_n rfl rfl ?_
          refine x_iald (ck_13_42 k0) (xlt (ck_13_42 k0) (by decide)) h.1 rfl ?_
          have h := h.2
          refine x_aload_n rfl rfl ?_
          refine x_gI lf_M_341 k0 rfl rfl ?_
          refine x_icmp_ne (tgt := 102) rfl rfl (fun c => ?_) (fun c => ?_)
          · have h := h.1 c
            refine x_iconst (v := (0 : Int32)) rfl rfl ?_
            exact x_zr rfl (Or.inl rfl) rfl h
          · have h := h.2 c
            refine x_aload_n rfl rfl ?_
            refine x_iload_n rfl rfl ?_
            refine x_vi lm_M_407 vf_M_comes k0 rfl rfl (Nat.le_of_ble_eq_true rfl) rfl h (fun r9 D8 h => ?_)
            refine x_iconst (v := (-1 : Int32)) rfl rfl ?_
            refine x_icmp_eq (tgt := 102) rfl rfl (fun c => ?_) (fun c => ?_)
            · have h := h.1 c
              refine x_iconst (v := (0 : Int32)) rfl rfl ?_
              exact x_zr rfl (Or.inl rfl) rfl h
            · have h := h.2 c
              refine x_iconst (v := (1 : Int32)) rfl rfl ?_
              refine x_goto (tgt := 103) rfl rfl ?_
              exact x_zr rfl (Or.inr rfl) rfl h
        · have q : r2 = (1 : Int32) := Int32.toInt_inj.mp q
          refine x_tabK (k := (1 : Int32)) (tgt := 104) q rfl (by decide) (by decide) rfl rfl ?_
          have h := h.2.1 q
          refine x_aload_n rfl rfl ?_
          refine x_gR lf_M_74 k0 rfl rfl ?_
          refine x_iload_n rfl rfl ?_
          refine x_iald (ck_13_42 k0) (xlt (ck_13_42 k0) (by decide)) h.1 rfl ?_
          have h := h.2
          refine x_aload_n rfl rfl ?_
          refine x_gI lf_M_341 k0 rfl rfl ?_
          refine x_iconst (v := (1 : Int32)) rfl rfl ?_
          refine x_iadd rfl ?_
          refine x_icmp_ne (tgt := 134) rfl rfl (fun c => ?_) (fun c => ?_)
          · have h := h.1 c
            refine x_iconst (v := (0 : Int32)) rfl rfl ?_
            exact x_zr rfl (Or.inl rfl) rfl h
          · have h := h.2 c
            refine x_aload_n rfl rfl ?_
            refine x_gR lf_M_71 k0 rfl rfl ?_
            refine x_bipush (v := (13 : Int32)) rfl rfl ?_
            refine x_iload_n rfl rfl ?_
            refine x_imul rfl ?_
            refine x_iload rfl rfl ?_
            refine x_iadd rfl ?_
            refine x_iald (ck_13_41 k0) (xlt (ck_13_41 k0) (by decide)) h.1 rfl ?_
            have h := h.2
            refine x_if_ne (tgt := 136) rfl rfl (fun c => ?_) (fun c => ?_)
            · have h := h.1 c
              refine x_aload_n rfl rfl ?_
              refine x_iload_n rfl rfl ?_
              refine x_iload rfl rfl ?_
              refine x_vv lm_M_410 vf_M_goesOn k0 rfl rfl (Nat.le_of_ble_eq_true rfl) rfl h (fun D10 h => ?_)
              refine x_iconst (v := (1 : Int32)) rfl rfl ?_
              exact x_zr rfl (Or.inr rfl) rfl h
            · have h := h.2 c
              refine x_iconst (v := (0 : Int32)) rfl rfl ?_
              exact x_zr rfl (Or.inl rfl) rfl h
        · have q : r2 = (2 : Int32) := Int32.toInt_inj.mp q
          refine x_tabK (k := (2 : Int32)) (tgt := 145) q rfl (by decide) (by decide) rfl rfl ?_
          have h := h.2.2.1 q
          refine x_aload_n rfl rfl ?_
          refine x_iload_n rfl rfl ?_
          refine x_vi lm_M_413 vf_M_reaches k0 rfl rfl (Nat.le_of_ble_eq_true rfl) rfl h (fun r12 D11 h => ?_)
          exact x_zr rfl h.1 rfl h.2
        · have q : r2 = (3 : Int32) := Int32.toInt_inj.mp q
          refine x_tabK (k := (3 : Int32)) (tgt := 151) q rfl (by decide) (by decide) rfl rfl ?_
          have h := h.2.2.2.1 q
          refine x_aload_n rfl rfl ?_
          refine x_dup rfl rfl ?_
          refine x_gI lf_M_392 k0 rfl rfl ?_
          refine x_iconst (v := (1 : Int32)) rfl rfl ?_
          refine x_iadd rfl ?_
          refine x_pIn lp_M_392 nf_13_48 k0 rfl rfl (fun D13 eD13 => ?_)
          have h := h D13 eD13
          refine x_iconst (v := (1 : Int32)) rfl rfl ?_
          exact x_zr rfl (Or.inr rfl) rfl h
    · have h := h.2 c
      refine x_aload_n rfl rfl ?_
      refine x_iload_n rfl rfl ?_
      refine x_vi lm_M_359 vf_M_isOne k0 rfl rfl (Nat.le_of_ble_eq_true rfl) rfl h (fun r15 D14 h => ?_)
      refine x_if_ne (tgt := 45) rfl rfl (fun c => ?_) (fun c => ?_)
      · have h := h.1 c
        refine x_iload_n rfl rfl ?_
        rcases Decidable.em ((r2).toInt < 0 ∨ 3 < (r2).toInt) with q | q
        · refine x_tableOut (tgt := 163) rfl q rfl ?_
          have h := h.2.2.2.2 q
          refine x_aload_n rfl rfl ?_
          refine x_dup rfl rfl ?_
          refine x_gI lf_M_389 k0 rfl rfl ?_
          refine x_iload_n rfl rfl ?_
          refine x_iadd rfl ?_
          refine x_pIn lp_M_389 nf_13_47 k0 rfl rfl (fun D16 eD16 => ?_)
          have h := h D16 eD16
          refine x_iconst (v := (1 : Int32)) rfl rfl ?_
          exact x_zr rfl (Or.inr rfl) rfl h
        · have q : (r2).toInt = 0 ∨ (r2).toInt = 1 ∨ (r2).toInt = 2 ∨ (r2).toInt = 3 := by omega
          rcases q with q | q | q | q
          · have q : r2 = (0 : Int32) := Int32.toInt_inj.mp q
            refine x_tabK (k := (0 : Int32)) (tgt := 76) q rfl (by decide) (by decide) rfl rfl ?_
            have h := h.1 q
            refine x_aload_n rfl rfl ?_
            refine x_gR lf_M_74 k0 rfl rfl ?_
            refine x_iload_n rfl rfl ?_
            refine x_iald (ck_13_42 k0) (xlt (ck_13_42 k0) (by decide)) h.1 rfl ?_
            have h := h.2
            refine x_aload_n rfl rfl ?_
            refine x_gI lf_M_341 k0 rfl rfl ?_
            refine x_icmp_ne (tgt := 102) rfl rfl (fun c => ?_) (fun c => ?_)
            · have h := h.1 c
              refine x_iconst (v := (0 : Int32)) rfl rfl ?_
              exact x_zr rfl (Or.inl rfl) rfl h
            · have h := h.2 c
              refine x_aload_n rfl rfl ?_
              refine x_iload_n rfl rfl ?_
              refine x_vi lm_M_407 vf_M_comes k0 rfl rfl (Nat.le_of_ble_eq_true rfl) rfl h (fun r18 D17 h => ?_)
              refine x_iconst (v := (-1 : Int32)) rfl rfl ?_
              refine x_icmp_eq (tgt := 102) rfl rfl (fun c => ?_) (fun c => ?_)
              · have h := h.1 c
                refine x_iconst (v := (0 : Int32)) rfl rfl ?_
                exact x_zr rfl (Or.inl rfl) rfl h
              · have h := h.2 c
                refine x_iconst (v := (1 : Int32)) rfl rfl ?_
                refine x_goto (tgt := 103) rfl rfl ?_
                exact x_zr rfl (Or.inr rfl) rfl h
          · have q : r2 = (1 : Int32) := Int32.toInt_inj.mp q
            refine x_tabK (k := (1 : Int32)) (tgt := 104) q rfl (by decide) (by decide) rfl rfl ?_
            have h := h.2.1 q
            refine x_aload_n rfl rfl ?_
            refine x_gR lf_M_74 k0 rfl rfl ?_
            refine x_iload_n rfl rfl ?_
            refine x_iald (ck_13_42 k0) (xlt (ck_13_42 k0) (by decide)) h.1 rfl ?_
            have h := h.2
            refine x_aload_n rfl rfl ?_
            refine x_gI lf_M_341 k0 rfl rfl ?_
            refine x_iconst (v := (1 : Int32)) rfl rfl ?_
            refine x_iadd rfl ?_
            refine x_icmp_ne (tgt := 134) rfl rfl (fun c => ?_) (fun c => ?_)
            · have h := h.1 c
              refine x_iconst (v := (0 : Int32)) rfl rfl ?_
              exact x_zr rfl (Or.inl rfl) rfl h
            · have h := h.2 c
              refine x_aload_n rfl rfl ?_
              refine x_gR lf_M_71 k0 rfl rfl ?_
              refine x_bipush (v := (13 : Int32)) rfl rfl ?_
              refine x_iload_n rfl rfl ?_
              refine x_imul rfl ?_
              refine x_iload rfl rfl ?_
              refine x_iadd rfl ?_
              refine x_iald (ck_13_41 k0) (xlt (ck_13_41 k0) (by decide)) h.1 rfl ?_
              have h := h.2
              refine x_if_ne (tgt := 136) rfl rfl (fun c => ?_) (fun c => ?_)
              · have h := h.1 c
                refine x_aload_n rfl rfl ?_
                refine x_iload_n rfl rfl ?_
                refine x_iload rfl rfl ?_
                refine x_vv lm_M_410 vf_M_goesOn k0 rfl rfl (Nat.le_of_ble_eq_true rfl) rfl h (fun D19 h => ?_)
                refine x_iconst (v := (1 : Int32)) rfl rfl ?_
                exact x_zr rfl (Or.inr rfl) rfl h
              · have h := h.2 c
                refine x_iconst (v := (0 : Int32)) rfl rfl ?_
                exact x_zr rfl (Or.inl rfl) rfl h
          · have q : r2 = (2 : Int32) := Int32.toInt_inj.mp q
            refine x_tabK (k := (2 : Int32)) (tgt := 145) q rfl (by decide) (by decide) rfl rfl ?_
            have h := h.2.2.1 q
            refine x_aload_n rfl rfl ?_
            refine x_iload_n rfl rfl ?_
            refine x_vi lm_M_413 vf_M_reaches k0 rfl rfl (Nat.le_of_ble_eq_true rfl) rfl h (fun r21 D20 h => ?_)
            exact x_zr rfl h.1 rfl h.2
          · have q : r2 = (3 : Int32) := Int32.toInt_inj.mp q
            refine x_tabK (k := (3 : Int32)) (tgt := 151) q rfl (by decide) (by decide) rfl rfl ?_
            have h := h.2.2.2.1 q
            refine x_aload_n rfl rfl ?_
            refine x_dup rfl rfl ?_
            refine x_gI lf_M_392 k0 rfl rfl ?_
            refine x_iconst (v := (1 : Int32)) rfl rfl ?_
            refine x_iadd rfl ?_
            refine x_pIn lp_M_392 nf_13_48 k0 rfl rfl (fun D22 eD22 => ?_)
            have h := h D22 eD22
            refine x_iconst (v := (1 : Int32)) rfl rfl ?_
            exact x_zr rfl (Or.inr rfl) rfl h
      · have h := h.2 c
        refine x_iconst (v := (0 : Int32)) rfl rfl ?_
        exact x_zr rfl (Or.inl rfl) rfl h
theorem s_M_play_0 {d : Nat} {D : xD} {Q : Option Value → xD → Prop} {a0 : Nat} {x1 : Int32} (k0 : xk a0 = 13) (h : xCv d m_M_beginBook [.ref a0] D (fun D1 => xPf (d + 1) m_M_play 6 [(0, .ref a0), (1, .int x1), (2, .int (0 : Int32))] [] D1 Q)) : xPf (d + 1) m_M_play 0 [(0, .ref a0), (1, .int x1)] [] D Q := by
  refine x_aload_n rfl rfl ?_
  refine x_vv lm_M_416 vf_M_beginBook k0 rfl rfl (Nat.le_of_ble_eq_true rfl) rfl h (fun D1 h => ?_)
  refine x_iconst (v := (0 : Int32)) rfl rfl ?_
  refine x_istore_n (i := 2) (L1 := [(2, .int (0 : Int32)), (0, .ref a0), (1, .int x1)]) rfl rfl (Nat.le_of_ble_eq_true rfl) rfl ?_
  exact xP_sub [1, 2, 0] rfl h
theorem s_M_play_6 {d : Nat} {D : xD} {Q : Option Value → xD → Prop} {a0 : Nat} {x1 : Int32} {x2 : Int32} (k0 : xk a0 = 13) (h : (x1 ≤ x2 → Q (some (.int x2)) D) ∧ (¬ x1 ≤ x2 → xCi d m_M_does [.ref a0, .int x2] D (fun r2 D1 => (r2 = 0 → Q (some (.int x2)) D1) ∧ (¬ r2 = 0 → xPf (d + 1) m_M_play 6 [(0, .ref a0), (1, .int x1), (2, .int (x2 + (1 : Int32)))] [] D1 Q)))) : xPf (d + 1) m_M_play 6 [(0, .ref a0), (1, .int x1), (2, .int x2)] [] D Q := by
  refine x_iload_n rfl rfl ?_
  refine x_iload_n rfl rfl ?_
  refine x_icmp_ge (tgt := 25) rfl rfl (fun c => ?_) (fun c => ?_)
  · have h := h.1 c
    refine x_iload_n rfl rfl ?_
    exact x_iret rfl rfl h
  · have h := h.2 c
    refine x_aload_n rfl rfl ?_
    refine x_iload_n rfl rfl ?_
    refine x_vi lm_M_419 vf_M_does k0 rfl rfl (Nat.le_of_ble_eq_true rfl) rfl h (fun r2 D1 h => ?_)
    refine x_if_eq (tgt := 25) rfl rfl (fun c => ?_) (fun c => ?_)
    · have h := h.1 c
      refine x_iload_n rfl rfl ?_
      exact x_iret rfl rfl h
    · have h := h.2 c
      refine x_iinc (i := 2) (v := x2 + (1 : Int32)) (L1 := [(2, .int (x2 + (1 : Int32))), (0, .ref a0), (1, .int x1)]) rfl rfl rfl (Nat.le_of_ble_eq_true rfl) rfl ?_
      refine x_goto (tgt := 6) rfl rfl ?_
      exact xP_sub [1, 2, 0] rfl h
theorem s_M_layBook_0 {d : Nat} {D : xD} {Q : Option Value → xD → Prop} {a0 : Nat} {x1 : Int32} {x2 : Int32} {x3 : Int32} (k0 : xk a0 = 13) (h : xCi d m_M_hasBook [.ref a0, .int x3] D (fun r2 D1 => (r2 = 0 → Q (some (.int (0 : Int32))) D1) ∧ (¬ r2 = 0 → xCi d m_M_is [.ref a0, .int (1 : Int32), .int x2] D1 (fun r4 D3 => (r4 = 0 → Q (some (.int (0 : Int32))) D3) ∧ (¬ r4 = 0 → xCi d m_M_hand1 [.ref a0, .int x1] D3 (fun r6 D5 => (r6 = 0 → Q (some (.int (0 : Int32))) D5) ∧ (¬ r6 = 0 → xCi d m_M_layHeap [.ref a0, .int x2] D5 (fun r8 D7 => (r8 = 0 → Q (some (.int (0 : Int32))) D7) ∧ (¬ r8 = 0 → Q (some (.int (1 : Int32))) D7))))))))) : xPf (d + 1) m_M_layBook 0 [(0, .ref a0), (1, .int x1), (2, .int x2), (3, .int x3)] [] D Q := by
  refine x_aload_n rfl rfl ?_
  refine x_iload_n rfl rfl ?_
  refine x_vi lm_M_377 vf_M_hasBook k0 rfl rfl (Nat.le_of_ble_eq_true rfl) rfl h (fun r2 D1 h => ?_)
  refine x_if_eq (tgt := 37) rfl rfl (fun c => ?_) (fun c => ?_)
  · have h := h.1 c
    refine x_iconst (v := (0 : Int32)) rfl rfl ?_
    exact x_zr rfl (Or.inl rfl) rfl h
  · have h := h.2 c
    refine x_aload_n rfl rfl ?_
    refine x_iconst (v := (1 : Int32)) rfl rfl ?_
    refine x_iload_n rfl rfl ?_
    refine x_vi lm_M_319 vf_M_is k0 rfl rfl (Nat.le_of_ble_eq_true rfl) rfl h (fun r4 D3 h => ?_)
    refine x_if_eq (tgt := 37) rfl rfl (fun c => ?_) (fun c => ?_)
    · have h := h.1 c
      refine x_iconst (v := (0 : Int32)) rfl rfl ?_
      exact x_zr rfl (Or.inl rfl) rfl h
    · have h := h.2 c
      refine x_aload_n rfl rfl ?_
      refine x_iload_n rfl rfl ?_
      refine x_vi lm_M_356 vf_M_hand1 k0 rfl rfl (Nat.le_of_ble_eq_true rfl) rfl h (fun r6 D5 h => ?_)
      refine x_if_eq (tgt := 37) rfl rfl (fun c => ?_) (fun c => ?_)
      · have h := h.1 c
        refine x_iconst (v := (0 : Int32)) rfl rfl ?_
        exact x_zr rfl (Or.inl rfl) rfl h
      · have h := h.2 c
        refine x_aload_n rfl rfl ?_
        refine x_iload_n rfl rfl ?_
        refine x_vi lm_M_365 vf_M_layHeap k0 rfl rfl (Nat.le_of_ble_eq_true rfl) rfl h (fun r8 D7 h => ?_)
        refine x_if_eq (tgt := 37) rfl rfl (fun c => ?_) (fun c => ?_)
        · have h := h.1 c
          refine x_iconst (v := (0 : Int32)) rfl rfl ?_
          exact x_zr rfl (Or.inl rfl) rfl h
        · have h := h.2 c
          refine x_iconst (v := (1 : Int32)) rfl rfl ?_
          refine x_goto (tgt := 38) rfl rfl ?_
          exact x_zr rfl (Or.inr rfl) rfl h
theorem s_M_layState_0 {d : Nat} {D : xD} {Q : Option Value → xD → Prop} {a0 : Nat} {x1 : Int32} {x2 : Int32} {x3 : Int32} {x4 : Int32} (k0 : xk a0 = 13) (h : xCi d m_M_layBook [.ref a0, .int x1, .int x2, .int x3] D (fun r2 D1 => (r2 = 0 → Q (some (.int (0 : Int32))) D1) ∧ (¬ r2 = 0 → xCi d m_M_deeds [.ref a0] D1 (fun r4 D3 => xCi d m_M_in [.int x4, .int (0 : Int32), .int r4] D3 (fun r6 D5 => (r6 = 0 → Q (some (.int (0 : Int32))) D5) ∧ (¬ r6 = 0 → xCi d m_M_play [.ref a0, .int x4] D5 (fun r8 D7 => (¬ r8 = x4 → Q (some (.int (0 : Int32))) D7) ∧ (r8 = x4 → Q (some (.int (1 : Int32))) D7)))))))) : xPf (d + 1) m_M_layState 0 [(0, .ref a0), (1, .int x1), (2, .int x2), (3, .int x3), (4, .int x4)] [] D Q := by
  refine x_aload_n rfl rfl ?_
  refine x_iload_n rfl rfl ?_
  refine x_iload_n rfl rfl ?_
  refine x_iload_n rfl rfl ?_
  refine x_vi lm_M_422 vf_M_layBook k0 rfl rfl (Nat.le_of_ble_eq_true rfl) rfl h (fun r2 D1 h => ?_)
  refine x_if_eq (tgt := 38) rfl rfl (fun c => ?_) (fun c => ?_)
  · have h := h.1 c
    refine x_iconst (v := (0 : Int32)) rfl rfl ?_
    exact x_zr rfl (Or.inl rfl) rfl h
  · have h := h.2 c
    refine x_iload rfl rfl ?_
    refine x_iconst (v := (0 : Int32)) rfl rfl ?_
    refine x_aload_n rfl rfl ?_
    refine x_vi lm_M_380 vf_M_deeds k0 rfl rfl (Nat.le_of_ble_eq_true rfl) rfl h (fun r4 D3 h => ?_)
    refine x_si lm_M_147 sf_M_in rfl rfl (Nat.le_of_ble_eq_true rfl) rfl h (fun r6 D5 h => ?_)
    refine x_if_eq (tgt := 38) rfl rfl (fun c => ?_) (fun c => ?_)
    · have h := h.1 c
      refine x_iconst (v := (0 : Int32)) rfl rfl ?_
      exact x_zr rfl (Or.inl rfl) rfl h
    · have h := h.2 c
      refine x_aload_n rfl rfl ?_
      refine x_iload rfl rfl ?_
      refine x_vi lm_M_425 vf_M_play k0 rfl rfl (Nat.le_of_ble_eq_true rfl) rfl h (fun r8 D7 h => ?_)
      refine x_iload rfl rfl ?_
      refine x_icmp_ne (tgt := 38) rfl rfl (fun c => ?_) (fun c => ?_)
      · have h := h.1 c
        refine x_iconst (v := (0 : Int32)) rfl rfl ?_
        exact x_zr rfl (Or.inl rfl) rfl h
      · have h := h.2 c
        refine x_iconst (v := (1 : Int32)) rfl rfl ?_
        refine x_goto (tgt := 39) rfl rfl ?_
        exact x_zr rfl (Or.inr rfl) rfl h
theorem s_M_stop_0 {d : Nat} {D : xD} {Q : Option Value → xD → Prop} {a0 : Nat} {x1 : Int32} {x2 : Int32} {x3 : Int32} (k0 : xk a0 = 13) (h : ∀ D1 : xD, D1 = (xu D.1 a0 0 (0 : Int32), D.2) → xCi d m_M_layBook [.ref a0, .int x1, .int x2, .int x3] D1 (fun r3 D2 => (r3 = 0 → Q (some (.int (-1 : Int32))) D2) ∧ (¬ r3 = 0 → xCi d m_M_deeds [.ref a0] D2 (fun r5 D4 => xCi d m_M_play [.ref a0, .int r5] D4 (fun r7 D6 => Q (some (.int r7)) D6))))) : xPf (d + 1) m_M_stop 0 [(0, .ref a0), (1, .int x1), (2, .int x2), (3, .int x3)] [] D Q := by
  refine x_aload_n rfl rfl ?_
  refine x_iconst (v := (0 : Int32)) rfl rfl ?_
  refine x_pIn lp_M_139 nf_13_0 k0 rfl rfl (fun D1 eD1 => ?_)
  have h := h D1 eD1
  refine x_aload_n rfl rfl ?_
  refine x_iload_n rfl rfl ?_
  refine x_iload_n rfl rfl ?_
  refine x_iload_n rfl rfl ?_
  refine x_vi lm_M_422 vf_M_layBook k0 rfl rfl (Nat.le_of_ble_eq_true rfl) rfl h (fun r3 D2 h => ?_)
  refine x_if_eq (tgt := 26) rfl rfl (fun c => ?_) (fun c => ?_)
  · have h := h.1 c
    refine x_iconst (v := (-1 : Int32)) rfl rfl ?_
    exact x_iret rfl rfl h
  · have h := h.2 c
    refine x_aload_n rfl rfl ?_
    refine x_aload_n rfl rfl ?_
    refine x_vi lm_M_380 vf_M_deeds k0 rfl rfl (Nat.le_of_ble_eq_true rfl) rfl h (fun r5 D4 h => ?_)
    refine x_vi lm_M_425 vf_M_play k0 rfl rfl (Nat.le_of_ble_eq_true rfl) rfl h (fun r7 D6 h => ?_)
    refine x_goto (tgt := 27) rfl rfl ?_
    exact x_iret rfl rfl h
theorem s_M_state_0 {d : Nat} {D : xD} {Q : Option Value → xD → Prop} {a0 : Nat} {x1 : Int32} {x2 : Int32} {x3 : Int32} {x4 : Int32} {x5 : Int32} (k0 : xk a0 = 13) (h : ∀ D1 : xD, D1 = (xu D.1 a0 0 (0 : Int32), D.2) → xCi d m_M_layState [.ref a0, .int x1, .int x2, .int x3, .int x4] D1 (fun r3 D2 => (¬ r3 = 0 → xCi d m_M_in [.int x5, .int (10 : Int32), .int ((9 : Int32) + (D2.1 a0 49))] D2 (fun r5 D4 => (r5 = 0 → xCi d m_M_in [.int x5, .int (20 : Int32), .int ((19 : Int32) + (D4.1 a0 30))] D4 (fun r7 D6 => (r7 = 0 → xCi d m_M_in [.int x5, .int (30 : Int32), .int ((29 : Int32) + (D6.1 a0 30))] D6 (fun r9 D8 => (r9 = 0 → (x5 = (0 : Int32) → Q (some (.int (D8.1 a0 47))) D8) ∧ (x5 = (1 : Int32) → Q (some (.int (D8.1 a0 49))) D8) ∧ (x5 = (2 : Int32) → Q (some (.int (D8.1 a0 50))) D8) ∧ (x5 = (3 : Int32) → vp_in (6 : Int32) (xl (a0 + 25)) ∧ Q (some (.int (D8.1 (a0 + 25) ((6 : Int32) : Int32).toNatClampNeg))) D8) ∧ (x5 = (4 : Int32) → vp_in (0 : Int32) (xl (a0 + 25)) ∧ Q (some (.int (D8.1 (a0 + 25) ((0 : Int32) : Int32).toNatClampNeg))) D8) ∧ (x5 = (5 : Int32) → Q (some (.int (D8.1 a0 48))) D8) ∧ (((x5).toInt < 0 ∨ 5 < (x5).toInt) → Q (some (.int (-2 : Int32))) D8)) ∧ (¬ r9 = 0 → vp_in (x5 - (30 : Int32)) (xl (a0 + 25)) ∧ Q (some (.int (D8.1 (a0 + 25) (x5 - (30 : Int32) : Int32).toNatClampNeg))) D8))) ∧ (¬ r7 = 0 → vp_in (x5 - (20 : Int32)) (xl (a0 + 27)) ∧ Q (some (.int (D6.1 (a0 + 27) (x5 - (20 : Int32) : Int32).toNatClampNeg))) D6))) ∧ (¬ r5 = 0 → vp_in (x5 - (10 : Int32)) (xl (a0 + 26)) ∧ Q (some (.int (D4.1 (a0 + 26) (x5 - (10 : Int32) : Int32).toNatClampNeg))) D4))) ∧ (r3 = 0 → Q (some (.int (-2 : Int32))) D2))) : xPf (d + 1) m_M_state 0 [(0, .ref a0), (1, .int x1), (2, .int x2), (3, .int x3), (4, .int x4), (5, .int x5)] [] D Q := by
  refine x_aload_n rfl rfl ?_
  refine x_iconst (v := (0 : Int32)) rfl rfl ?_
  refine x_pIn lp_M_139 nf_13_0 k0 rfl rfl (fun D1 eD1 => ?_)
  have h := h D1 eD1
  refine x_aload_n rfl rfl ?_
  refine x_iload_n rfl rfl ?_
  refine x_iload_n rfl rfl ?_
  refine x_iload_n rfl rfl ?_
  refine x_iload rfl rfl ?_
  refine x_vi lm_M_428 vf_M_layState k0 rfl rfl (Nat.le_of_ble_eq_true rfl) rfl h (fun r3 D2 h => ?_)
  refine x_if_ne (tgt := 20) rfl rfl (fun c => ?_) (fun c => ?_)
  · have h := h.1 c
    refine x_iload rfl rfl ?_
    refine x_bipush (v := (10 : Int32)) rfl rfl ?_
    refine x_bipush (v := (9 : Int32)) rfl rfl ?_
    refine x_aload_n rfl rfl ?_
    refine x_gI lf_M_395 k0 rfl rfl ?_
    refine x_iadd rfl ?_
    refine x_si lm_M_147 sf_M_in rfl rfl (Nat.le_of_ble_eq_true rfl) rfl h (fun r5 D4 h => ?_)
    refine x_if_eq (tgt := 48) rfl rfl (fun c => ?_) (fun c => ?_)
    · have h := h.1 c
      refine x_iload rfl rfl ?_
      refine x_bipush (v := (20 : Int32)) rfl rfl ?_
      refine x_bipush (v := (19 : Int32)) rfl rfl ?_
      refine x_aload_n rfl rfl ?_
      refine x_gI lf_M_344 k0 rfl rfl ?_
      refine x_iadd rfl ?_
      refine x_si lm_M_147 sf_M_in rfl rfl (Nat.le_of_ble_eq_true rfl) rfl h (fun r7 D6 h => ?_)
      refine x_if_eq (tgt := 76) rfl rfl (fun c => ?_) (fun c => ?_)
      · have h := h.1 c
        refine x_iload rfl rfl ?_
        refine x_bipush (v := (30 : Int32)) rfl rfl ?_
        refine x_bipush (v := (29 : Int32)) rfl rfl ?_
        refine x_aload_n rfl rfl ?_
        refine x_gI lf_M_344 k0 rfl rfl ?_
        refine x_iadd rfl ?_
        refine x_si lm_M_147 sf_M_in rfl rfl (Nat.le_of_ble_eq_true rfl) rfl h (fun r9 D8 h => ?_)
        refine x_if_eq (tgt := 104) rfl rfl (fun c => ?_) (fun c => ?_)
        · have h := h.1 c
          refine x_iload rfl rfl ?_
          rcases Decidable.em ((x5).toInt < 0 ∨ 5 < (x5).toInt) with q | q
          · refine x_tableOut (tgt := 179) rfl q rfl ?_
            have h := h.2.2.2.2.2.2 q
            refine x_bipush (v := (-2 : Int32)) rfl rfl ?_
            exact x_iret rfl rfl h
          · have q : (x5).toInt = 0 ∨ (x5).toInt = 1 ∨ (x5).toInt = 2 ∨ (x5).toInt = 3 ∨ (x5).toInt = 4 ∨ (x5).toInt = 5 := by omega
            rcases q with q | q | q | q | q | q
            · have q : x5 = (0 : Int32) := Int32.toInt_inj.mp q
              refine x_tabK (k := (0 : Int32)) (tgt := 144) q rfl (by decide) (by decide) rfl rfl ?_
              have h := h.1 q
              refine x_aload_n rfl rfl ?_
              refine x_gI lf_M_389 k0 rfl rfl ?_
              exact x_iret rfl rfl h
            · have q : x5 = (1 : Int32) := Int32.toInt_inj.mp q
              refine x_tabK (k := (1 : Int32)) (tgt := 149) q rfl (by decide) (by decide) rfl rfl ?_
              have h := h.2.1 q
              refine x_aload_n rfl rfl ?_
              refine x_gI lf_M_395 k0 rfl rfl ?_
              exact x_iret rfl rfl h
            · have q : x5 = (2 : Int32) := Int32.toInt_inj.mp q
              refine x_tabK (k := (2 : Int32)) (tgt := 154) q rfl (by decide) (by decide) rfl rfl ?_
              have h := h.2.2.1 q
              refine x_aload_n rfl rfl ?_
              refine x_gI lf_M_398 k0 rfl rfl ?_
              exact x_iret rfl rfl h
            · have q : x5 = (3 : Int32) := Int32.toInt_inj.mp q
              refine x_tabK (k := (3 : Int32)) (tgt := 159) q rfl (by decide) (by decide) rfl rfl ?_
              have h := h.2.2.2.1 q
              refine x_aload_n rfl rfl ?_
              refine x_gR lf_M_83 k0 rfl rfl ?_
              refine x_bipush (v := (6 : Int32)) rfl rfl ?_
              refine x_iald (ck_13_45 k0) (xlt (ck_13_45 k0) (by decide)) h.1 rfl ?_
              have h := h.2
              exact x_iret rfl rfl h
            · have q : x5 = (4 : Int32) := Int32.toInt_inj.mp q
              refine x_tabK (k := (4 : Int32)) (tgt := 167) q rfl (by decide) (by decide) rfl rfl ?_
              have h := h.2.2.2.2.1 q
              refine x_aload_n rfl rfl ?_
              refine x_gR lf_M_83 k0 rfl rfl ?_
              refine x_iconst (v := (0 : Int32)) rfl rfl ?_
              refine x_iald (ck_13_45 k0) (xlt (ck_13_45 k0) (by decide)) h.1 rfl ?_
              have h := h.2
              exact x_iret rfl rfl h
            · have q : x5 = (5 : Int32) := Int32.toInt_inj.mp q
              refine x_tabK (k := (5 : Int32)) (tgt := 174) q rfl (by decide) (by decide) rfl rfl ?_
              have h := h.2.2.2.2.2.1 q
              refine x_aload_n rfl rfl ?_
              refine x_gI lf_M_392 k0 rfl rfl ?_
              exact x_iret rfl rfl h
        · have h := h.2 c
          refine x_aload_n rfl rfl ?_
          refine x_gR lf_M_83 k0 rfl rfl ?_
          refine x_iload rfl rfl ?_
          refine x_bipush (v := (30 : Int32)) rfl rfl ?_
          refine x_isub rfl ?_
          refine x_iald (ck_13_45 k0) (xlt (ck_13_45 k0) (by decide)) h.1 rfl ?_
          have h := h.2
          exact x_iret rfl rfl h
      · have h := h.2 c
        refine x_aload_n rfl rfl ?_
        refine x_gR lf_M_89 k0 rfl rfl ?_
        refine x_iload rfl rfl ?_
        refine x_bipush (v := (20 : Int32)) rfl rfl ?_
        refine x_isub rfl ?_
        refine x_iald (ck_13_52 k0) (xlt (ck_13_52 k0) (by decide)) h.1 rfl ?_
        have h := h.2
        exact x_iret rfl rfl h
    · have h := h.2 c
      refine x_aload_n rfl rfl ?_
      refine x_gR lf_M_86 k0 rfl rfl ?_
      refine x_iload rfl rfl ?_
      refine x_bipush (v := (10 : Int32)) rfl rfl ?_
      refine x_isub rfl ?_
      refine x_iald (ck_13_51 k0) (xlt (ck_13_51 k0) (by decide)) h.1 rfl ?_
      have h := h.2
      exact x_iret rfl rfl h
  · have h := h.2 c
    refine x_bipush (v := (-2 : Int32)) rfl rfl ?_
    exact x_iret rfl rfl h
theorem s_M_holds_0 {d : Nat} {D : xD} {Q : Option Value → xD → Prop} {a0 : Nat} {x1 : Int32} {x2 : Int32} {x3 : Int32} {x4 : Int32} {x5 : Int32} {x6 : Int32} (k0 : xk a0 = 13) (h : ∀ D1 : xD, D1 = (xu D.1 a0 0 (0 : Int32), D.2) → xCi d m_M_layState [.ref a0, .int x1, .int x2, .int x3, .int x4] D1 (fun r3 D2 => (r3 = 0 → Q (some (.int (-2 : Int32))) D2) ∧ (¬ r3 = 0 → xCi d m_M_isOne [.ref a0, .int x5] D2 (fun r5 D4 => (r5 = 0 → Q (some (.int (-2 : Int32))) D4) ∧ (¬ r5 = 0 → (x6 = (-1 : Int32) → (¬ x6 = (-1 : Int32) → vp_in (((13 : Int32) * x5) + x6) (xl (a0 + 21)) ∧ Q (some (.int (D4.1 (a0 + 21) (((13 : Int32) * x5) + x6 : Int32).toNatClampNeg))) D4) ∧ (x6 = (-1 : Int32) → vp_in x5 (xl (a0 + 22)) ∧ Q (some (.int (D4.1 (a0 + 22) (x5 : Int32).toNatClampNeg))) D4)) ∧ (¬ x6 = (-1 : Int32) → xCi d m_M_isKind [.ref a0, .int x6] D4 (fun r7 D6 => (¬ r7 = 0 → (¬ x6 = (-1 : Int32) → vp_in (((13 : Int32) * x5) + x6) (xl (a0 + 21)) ∧ Q (some (.int (D6.1 (a0 + 21) (((13 : Int32) * x5) + x6 : Int32).toNatClampNeg))) D6) ∧ (x6 = (-1 : Int32) → vp_in x5 (xl (a0 + 22)) ∧ Q (some (.int (D6.1 (a0 + 22) (x5 : Int32).toNatClampNeg))) D6)) ∧ (r7 = 0 → Q (some (.int (-2 : Int32))) D6)))))))) : xPf (d + 1) m_M_holds 0 [(0, .ref a0), (1, .int x1), (2, .int x2), (3, .int x3), (4, .int x4), (5, .int x5), (6, .int x6)] [] D Q := by
  refine x_aload_n rfl rfl ?_
  refine x_iconst (v := (0 : Int32)) rfl rfl ?_
  refine x_pIn lp_M_139 nf_13_0 k0 rfl rfl (fun D1 eD1 => ?_)
  have h := h D1 eD1
  refine x_aload_n rfl rfl ?_
  refine x_iload_n rfl rfl ?_
  refine x_iload_n rfl rfl ?_
  refine x_iload_n rfl rfl ?_
  refine x_iload rfl rfl ?_
  refine x_vi lm_M_428 vf_M_layState k0 rfl rfl (Nat.le_of_ble_eq_true rfl) rfl h (fun r3 D2 h => ?_)
  refine x_if_eq (tgt := 41) rfl rfl (fun c => ?_) (fun c => ?_)
  · have h := h.1 c
    refine x_bipush (v := (-2 : Int32)) rfl rfl ?_
    exact x_iret rfl rfl h
  · have h := h.2 c
    refine x_aload_n rfl rfl ?_
    refine x_iload rfl rfl ?_
    refine x_vi lm_M_359 vf_M_isOne k0 rfl rfl (Nat.le_of_ble_eq_true rfl) rfl h (fun r5 D4 h => ?_)
    refine x_if_eq (tgt := 41) rfl rfl (fun c => ?_) (fun c => ?_)
    · have h := h.1 c
      refine x_bipush (v := (-2 : Int32)) rfl rfl ?_
      exact x_iret rfl rfl h
    · have h := h.2 c
      refine x_iload rfl rfl ?_
      refine x_iconst (v := (-1 : Int32)) rfl rfl ?_
      refine x_icmp_eq (tgt := 44) rfl rfl (fun c => ?_) (fun c => ?_)
      · have h := h.1 c
        refine x_iload rfl rfl ?_
        refine x_iconst (v := (-1 : Int32)) rfl rfl ?_
        refine x_icmp_ne (tgt := 60) rfl rfl (fun c => ?_) (fun c => ?_)
        · have h := h.1 c
          refine x_aload_n rfl rfl ?_
          refine x_gR lf_M_71 k0 rfl rfl ?_
          refine x_bipush (v := (13 : Int32)) rfl rfl ?_
          refine x_iload rfl rfl ?_
          refine x_imul rfl ?_
          refine x_iload rfl rfl ?_
          refine x_iadd rfl ?_
          refine x_iald (ck_13_41 k0) (xlt (ck_13_41 k0) (by decide)) h.1 rfl ?_
          have h := h.2
          exact x_iret rfl rfl h
        · have h := h.2 c
          refine x_aload_n rfl rfl ?_
          refine x_gR lf_M_74 k0 rfl rfl ?_
          refine x_iload rfl rfl ?_
          refine x_iald (ck_13_42 k0) (xlt (ck_13_42 k0) (by decide)) h.1 rfl ?_
          have h := h.2
          refine x_goto (tgt := 73) rfl rfl ?_
          exact x_iret rfl rfl h
      · have h := h.2 c
        refine x_aload_n rfl rfl ?_
        refine x_iload rfl rfl ?_
        refine x_vi lm_M_432 vf_M_isKind k0 rfl rfl (Nat.le_of_ble_eq_true rfl) rfl h (fun r7 D6 h => ?_)
        refine x_if_ne (tgt := 44) rfl rfl (fun c => ?_) (fun c => ?_)
        · have h := h.1 c
          refine x_iload rfl rfl ?_
          refine x_iconst (v := (-1 : Int32)) rfl rfl ?_
          refine x_icmp_ne (tgt := 60) rfl rfl (fun c => ?_) (fun c => ?_)
          · have h := h.1 c
            refine x_aload_n rfl rfl ?_
            refine x_gR lf_M_71 k0 rfl rfl ?_
            refine x_bipush (v := (13 : Int32)) rfl rfl ?_
            refine x_iload rfl rfl ?_
            refine x_imul rfl ?_
            refine x_iload rfl rfl ?_
            refine x_iadd rfl ?_
            refine x_iald (ck_13_41 k0) (xlt (ck_13_41 k0) (by decide)) h.1 rfl ?_
            have h := h.2
            exact x_iret rfl rfl h
          · have h := h.2 c
            refine x_aload_n rfl rfl ?_
            refine x_gR lf_M_74 k0 rfl rfl ?_
            refine x_iload rfl rfl ?_
            refine x_iald (ck_13_42 k0) (xlt (ck_13_42 k0) (by decide)) h.1 rfl ?_
            have h := h.2
            refine x_goto (tgt := 73) rfl rfl ?_
            exact x_iret rfl rfl h
        · have h := h.2 c
          refine x_bipush (v := (-2 : Int32)) rfl rfl ?_
          exact x_iret rfl rfl h
theorem s_M_fewest_0 {d : Nat} {D : xD} {Q : Option Value → xD → Prop} {a0 : Nat} {x1 : Int32} {x2 : Int32} (k0 : xk a0 = 13) (h : xPf (d + 1) m_M_fewest 10 [(0, .ref a0), (1, .int x1), (2, .int x2), (3, .int (-1 : Int32)), (4, .int ((D.1 a0 27) - (1 : Int32)))] [] D Q) : xPf (d + 1) m_M_fewest 0 [(0, .ref a0), (1, .int x1), (2, .int x2)] [] D Q := by
  refine x_iconst (v := (-1 : Int32)) rfl rfl ?_
  refine x_istore_n (i := 3) (L1 := [(3, .int (-1 : Int32)), (0, .ref a0), (1, .int x1), (2, .int x2)]) rfl rfl (Nat.le_of_ble_eq_true rfl) rfl ?_
  refine x_aload_n rfl rfl ?_
  refine x_gI lf_M_335 k0 rfl rfl ?_
  refine x_iconst (v := (1 : Int32)) rfl rfl ?_
  refine x_isub rfl ?_
  refine x_istore (i := 4) (L1 := [(4, .int ((D.1 a0 27) - (1 : Int32))), (3, .int (-1 : Int32)), (0, .ref a0), (1, .int x1), (2, .int x2)]) rfl (Nat.le_of_ble_eq_true rfl) rfl ?_
  exact xP_sub [2, 3, 4, 1, 0] rfl h
theorem s_M_fewest_10 {d : Nat} {D : xD} {Q : Option Value → xD → Prop} {a0 : Nat} {x1 : Int32} {x2 : Int32} {x3 : Int32} {x4 : Int32} (k0 : xk a0 = 13) (h : (x4 < 0 → Q (some (.int x3)) D) ∧ (¬ x4 < 0 → vp_in (((13 : Int32) * x1) + x4) (xl (a0 + 21)) ∧ ((D.1 (a0 + 21) (((13 : Int32) * x1) + x4 : Int32).toNatClampNeg) ≤ 0 → xPf (d + 1) m_M_fewest 10 [(0, .ref a0), (1, .int x1), (2, .int x2), (3, .int x3), (4, .int (x4 + (-1 : Int32)))] [] D Q) ∧ (¬ (D.1 (a0 + 21) (((13 : Int32) * x1) + x4 : Int32).toNatClampNeg) ≤ 0 → (x4 = x2 → xPf (d + 1) m_M_fewest 10 [(0, .ref a0), (1, .int x1), (2, .int x2), (3, .int x3), (4, .int (x4 + (-1 : Int32)))] [] D Q) ∧ (¬ x4 = x2 → (x3 = (-1 : Int32) → xPf (d + 1) m_M_fewest 10 [(0, .ref a0), (1, .int x1), (2, .int x2), (3, .int x4), (4, .int (x4 + (-1 : Int32)))] [] D Q) ∧ (¬ x3 = (-1 : Int32) → vp_in (((13 : Int32) * x1) + x3) (xl (a0 + 21)) ∧ ((D.1 (a0 + 21) (((13 : Int32) * x1) + x3 : Int32).toNatClampNeg) ≤ (D.1 (a0 + 21) (((13 : Int32) * x1) + x4 : Int32).toNatClampNeg) → xPf (d + 1) m_M_fewest 10 [(0, .ref a0), (1, .int x1), (2, .int x2), (3, .int x3), (4, .int (x4 + (-1 : Int32)))] [] D Q) ∧ (¬ (D.1 (a0 + 21) (((13 : Int32) * x1) + x3 : Int32).toNatClampNeg) ≤ (D.1 (a0 + 21) (((13 : Int32) * x1) + x4 : Int32).toNatClampNeg) → xPf (d + 1) m_M_fewest 10 [(0, .ref a0), (1, .int x1), (2, .int x2), (3, .int x4), (4, .int (x4 + (-1 : Int32)))] [] D Q)))))) : xPf (d + 1) m_M_fewest 10 [(0, .ref a0), (1, .int x1), (2, .int x2), (3, .int x3), (4, .int x4)] [] D Q := by
  refine x_iload rfl rfl ?_
  refine x_if_lt (tgt := 74) rfl rfl (fun c => ?_) (fun c => ?_)
  · have h := h.1 c
    refine x_iload_n rfl rfl ?_
    exact x_iret rfl rfl h
  · have h := h.2 c
    refine x_aload_n rfl rfl ?_
    refine x_gR lf_M_71 k0 rfl rfl ?_
    refine x_bipush (v := (13 : Int32)) rfl rfl ?_
    refine x_iload_n rfl rfl ?_
    refine x_imul rfl ?_
    refine x_iload rfl rfl ?_
    refine x_iadd rfl ?_
    refine x_iald (ck_13_41 k0) (xlt (ck_13_41 k0) (by decide)) h.1 rfl ?_
    have h := h.2
    refine x_istore (i := 5) (L1 := [(5, .int (D.1 (a0 + 21) (((13 : Int32) * x1) + x4 : Int32).toNatClampNeg)), (0, .ref a0), (1, .int x1), (2, .int x2), (3, .int x3), (4, .int x4)]) rfl (Nat.le_of_ble_eq_true rfl) rfl ?_
    refine x_iload rfl rfl ?_
    refine x_if_le (tgt := 66) rfl rfl (fun c => ?_) (fun c => ?_)
    · have h := h.1 c
      refine x_iload_n rfl rfl ?_
      refine x_istore_n (i := 3) (L1 := [(3, .int x3), (5, .int (D.1 (a0 + 21) (((13 : Int32) * x1) + x4 : Int32).toNatClampNeg)), (0, .ref a0), (1, .int x1), (2, .int x2), (4, .int x4)]) rfl rfl (Nat.le_of_ble_eq_true rfl) rfl ?_
      refine x_iinc (i := 4) (v := x4 + (-1 : Int32)) (L1 := [(4, .int (x4 + (-1 : Int32))), (3, .int x3), (5, .int (D.1 (a0 + 21) (((13 : Int32) * x1) + x4 : Int32).toNatClampNeg)), (0, .ref a0), (1, .int x1), (2, .int x2)]) rfl rfl rfl (Nat.le_of_ble_eq_true rfl) rfl ?_
      refine x_goto (tgt := 10) rfl rfl ?_
      exact xP_sub [3, 4, 5, 1, 0] rfl h
    · have h := h.2 c
      refine x_iload rfl rfl ?_
      refine x_iload_n rfl rfl ?_
      refine x_icmp_eq (tgt := 66) rfl rfl (fun c => ?_) (fun c => ?_)
      · have h := h.1 c
        refine x_iload_n rfl rfl ?_
        refine x_istore_n (i := 3) (L1 := [(3, .int x3), (5, .int (D.1 (a0 + 21) (((13 : Int32) * x1) + x4 : Int32).toNatClampNeg)), (0, .ref a0), (1, .int x1), (2, .int x2), (4, .int x4)]) rfl rfl (Nat.le_of_ble_eq_true rfl) rfl ?_
        refine x_iinc (i := 4) (v := x4 + (-1 : Int32)) (L1 := [(4, .int (x4 + (-1 : Int32))), (3, .int x3), (5, .int (D.1 (a0 + 21) (((13 : Int32) * x1) + x4 : Int32).toNatClampNeg)), (0, .ref a0), (1, .int x1), (2, .int x2)]) rfl rfl rfl (Nat.le_of_ble_eq_true rfl) rfl ?_
        refine x_goto (tgt := 10) rfl rfl ?_
        exact xP_sub [3, 4, 5, 1, 0] rfl h
      · have h := h.2 c
        refine x_iload_n rfl rfl ?_
        refine x_iconst (v := (-1 : Int32)) rfl rfl ?_
        refine x_icmp_eq (tgt := 61) rfl rfl (fun c => ?_) (fun c => ?_)
        · have h := h.1 c
          refine x_iload rfl rfl ?_
          refine x_goto (tgt := 67) rfl rfl ?_
          refine x_istore_n (i := 3) (L1 := [(3, .int x4), (5, .int (D.1 (a0 + 21) (((13 : Int32) * x1) + x4 : Int32).toNatClampNeg)), (0, .ref a0), (1, .int x1), (2, .int x2), (4, .int x4)]) rfl rfl (Nat.le_of_ble_eq_true rfl) rfl ?_
          refine x_iinc (i := 4) (v := x4 + (-1 : Int32)) (L1 := [(4, .int (x4 + (-1 : Int32))), (3, .int x4), (5, .int (D.1 (a0 + 21) (((13 : Int32) * x1) + x4 : Int32).toNatClampNeg)), (0, .ref a0), (1, .int x1), (2, .int x2)]) rfl rfl rfl (Nat.le_of_ble_eq_true rfl) rfl ?_
          refine x_goto (tgt := 10) rfl rfl ?_
          exact xP_sub [3, 4, 5, 1, 0] rfl h
        · have h := h.2 c
          refine x_iload rfl rfl ?_
          refine x_aload_n rfl rfl ?_
          refine x_gR lf_M_71 k0 rfl rfl ?_
          refine x_bipush (v := (13 : Int32)) rfl rfl ?_
          refine x_iload_n rfl rfl ?_
          refine x_imul rfl ?_
          refine x_iload_n rfl rfl ?_
          refine x_iadd rfl ?_
          refine x_iald (ck_13_41 k0) (xlt (ck_13_41 k0) (by decide)) h.1 rfl ?_
          have h := h.2
          refine x_icmp_ge (tgt := 66) rfl rfl (fun c => ?_) (fun c => ?_)
          · have h := h.1 c
            refine x_iload_n rfl rfl ?_
            refine x_istore_n (i := 3) (L1 := [(3, .int x3), (5, .int (D.1 (a0 + 21) (((13 : Int32) * x1) + x4 : Int32).toNatClampNeg)), (0, .ref a0), (1, .int x1), (2, .int x2), (4, .int x4)]) rfl rfl (Nat.le_of_ble_eq_true rfl) rfl ?_
            refine x_iinc (i := 4) (v := x4 + (-1 : Int32)) (L1 := [(4, .int (x4 + (-1 : Int32))), (3, .int x3), (5, .int (D.1 (a0 + 21) (((13 : Int32) * x1) + x4 : Int32).toNatClampNeg)), (0, .ref a0), (1, .int x1), (2, .int x2)]) rfl rfl rfl (Nat.le_of_ble_eq_true rfl) rfl ?_
            refine x_goto (tgt := 10) rfl rfl ?_
            exact xP_sub [3, 4, 5, 1, 0] rfl h
          · have h := h.2 c
            refine x_iload rfl rfl ?_
            refine x_goto (tgt := 67) rfl rfl ?_
            refine x_istore_n (i := 3) (L1 := [(3, .int x4), (5, .int (D.1 (a0 + 21) (((13 : Int32) * x1) + x4 : Int32).toNatClampNeg)), (0, .ref a0), (1, .int x1), (2, .int x2), (4, .int x4)]) rfl rfl (Nat.le_of_ble_eq_true rfl) rfl ?_
            refine x_iinc (i := 4) (v := x4 + (-1 : Int32)) (L1 := [(4, .int (x4 + (-1 : Int32))), (3, .int x4), (5, .int (D.1 (a0 + 21) (((13 : Int32) * x1) + x4 : Int32).toNatClampNeg)), (0, .ref a0), (1, .int x1), (2, .int x2)]) rfl rfl rfl (Nat.le_of_ble_eq_true rfl) rfl ?_
            refine x_goto (tgt := 10) rfl rfl ?_
            exact xP_sub [3, 4, 5, 1, 0] rfl h
theorem s_M_greatest_0 {d : Nat} {D : xD} {Q : Option Value → xD → Prop} {a0 : Nat} {x1 : Int32} {x2 : Int32} (k0 : xk a0 = 13) (h : xPf (d + 1) m_M_greatest 5 [(0, .ref a0), (1, .int x1), (2, .int x2), (3, .int (-1 : Int32)), (4, .int (0 : Int32))] [] D Q) : xPf (d + 1) m_M_greatest 0 [(0, .ref a0), (1, .int x1), (2, .int x2)] [] D Q := by
  refine x_iconst (v := (-1 : Int32)) rfl rfl ?_
  refine x_istore_n (i := 3) (L1 := [(3, .int (-1 : Int32)), (0, .ref a0), (1, .int x1), (2, .int x2)]) rfl rfl (Nat.le_of_ble_eq_true rfl) rfl ?_
  refine x_iconst (v := (0 : Int32)) rfl rfl ?_
  refine x_istore (i := 4) (L1 := [(4, .int (0 : Int32)), (3, .int (-1 : Int32)), (0, .ref a0), (1, .int x1), (2, .int x2)]) rfl (Nat.le_of_ble_eq_true rfl) rfl ?_
  exact xP_sub [2, 3, 4, 1, 0] rfl h
theorem s_M_greatest_5 {d : Nat} {D : xD} {Q : Option Value → xD → Prop} {a0 : Nat} {x1 : Int32} {x2 : Int32} {x3 : Int32} {x4 : Int32} (k0 : xk a0 = 13) (h : ((D.1 a0 27) ≤ x4 → Q (some (.int x3)) D) ∧ (¬ (D.1 a0 27) ≤ x4 → vp_in (((13 : Int32) * x1) + x4) (xl (a0 + 21)) ∧ ((D.1 (a0 + 21) (((13 : Int32) * x1) + x4 : Int32).toNatClampNeg) ≤ 0 → xPf (d + 1) m_M_greatest 5 [(0, .ref a0), (1, .int x1), (2, .int x2), (3, .int x3), (4, .int (x4 + (1 : Int32)))] [] D Q) ∧ (¬ (D.1 (a0 + 21) (((13 : Int32) * x1) + x4 : Int32).toNatClampNeg) ≤ 0 → (x4 = x2 → xPf (d + 1) m_M_greatest 5 [(0, .ref a0), (1, .int x1), (2, .int x2), (3, .int x3), (4, .int (x4 + (1 : Int32)))] [] D Q) ∧ (¬ x4 = x2 → xPf (d + 1) m_M_greatest 5 [(0, .ref a0), (1, .int x1), (2, .int x2), (3, .int x4), (4, .int (x4 + (1 : Int32)))] [] D Q)))) : xPf (d + 1) m_M_greatest 5 [(0, .ref a0), (1, .int x1), (2, .int x2), (3, .int x3), (4, .int x4)] [] D Q := by
  refine x_iload rfl rfl ?_
  refine x_aload_n rfl rfl ?_
  refine x_gI lf_M_335 k0 rfl rfl ?_
  refine x_icmp_ge (tgt := 48) rfl rfl (fun c => ?_) (fun c => ?_)
  · have h := h.1 c
    refine x_iload_n rfl rfl ?_
    exact x_iret rfl rfl h
  · have h := h.2 c
    refine x_aload_n rfl rfl ?_
    refine x_gR lf_M_71 k0 rfl rfl ?_
    refine x_bipush (v := (13 : Int32)) rfl rfl ?_
    refine x_iload_n rfl rfl ?_
    refine x_imul rfl ?_
    refine x_iload rfl rfl ?_
    refine x_iadd rfl ?_
    refine x_iald (ck_13_41 k0) (xlt (ck_13_41 k0) (by decide)) h.1 rfl ?_
    have h := h.2
    refine x_if_le (tgt := 40) rfl rfl (fun c => ?_) (fun c => ?_)
    · have h := h.1 c
      refine x_iload_n rfl rfl ?_
      refine x_istore_n (i := 3) (L1 := [(3, .int x3), (0, .ref a0), (1, .int x1), (2, .int x2), (4, .int x4)]) rfl rfl (Nat.le_of_ble_eq_true rfl) rfl ?_
      refine x_iinc (i := 4) (v := x4 + (1 : Int32)) (L1 := [(4, .int (x4 + (1 : Int32))), (3, .int x3), (0, .ref a0), (1, .int x1), (2, .int x2)]) rfl rfl rfl (Nat.le_of_ble_eq_true rfl) rfl ?_
      refine x_goto (tgt := 5) rfl rfl ?_
      exact xP_sub [2, 3, 4, 1, 0] rfl h
    · have h := h.2 c
      refine x_iload rfl rfl ?_
      refine x_iload_n rfl rfl ?_
      refine x_icmp_eq (tgt := 40) rfl rfl (fun c => ?_) (fun c => ?_)
      · have h := h.1 c
        refine x_iload_n rfl rfl ?_
        refine x_istore_n (i := 3) (L1 := [(3, .int x3), (0, .ref a0), (1, .int x1), (2, .int x2), (4, .int x4)]) rfl rfl (Nat.le_of_ble_eq_true rfl) rfl ?_
        refine x_iinc (i := 4) (v := x4 + (1 : Int32)) (L1 := [(4, .int (x4 + (1 : Int32))), (3, .int x3), (0, .ref a0), (1, .int x1), (2, .int x2)]) rfl rfl rfl (Nat.le_of_ble_eq_true rfl) rfl ?_
        refine x_goto (tgt := 5) rfl rfl ?_
        exact xP_sub [2, 3, 4, 1, 0] rfl h
      · have h := h.2 c
        refine x_iload rfl rfl ?_
        refine x_goto (tgt := 41) rfl rfl ?_
        refine x_istore_n (i := 3) (L1 := [(3, .int x4), (0, .ref a0), (1, .int x1), (2, .int x2), (4, .int x4)]) rfl rfl (Nat.le_of_ble_eq_true rfl) rfl ?_
        refine x_iinc (i := 4) (v := x4 + (1 : Int32)) (L1 := [(4, .int (x4 + (1 : Int32))), (3, .int x4), (0, .ref a0), (1, .int x1), (2, .int x2)]) rfl rfl rfl (Nat.le_of_ble_eq_true rfl) rfl ?_
        refine x_goto (tgt := 5) rfl rfl ?_
        exact xP_sub [2, 3, 4, 1, 0] rfl h
theorem s_M_handsOn_0 {d : Nat} {D : xD} {Q : Option Value → xD → Prop} {a0 : Nat} {x1 : Int32} {x2 : Int32} (k0 : xk a0 = 13) (h : vp_in x1 (xl (a0 + 18)) ∧ (¬ (D.1 (a0 + 18) (x1 : Int32).toNatClampNeg) = (3 : Int32) → vp_in x1 (xl (a0 + 18)) ∧ (¬ (D.1 (a0 + 18) (x1 : Int32).toNatClampNeg) = 0 → vp_in x1 (xl (a0 + 18)) ∧ (¬ (D.1 (a0 + 18) (x1 : Int32).toNatClampNeg) = (1 : Int32) → vp_in x1 (xl (a0 + 19)) ∧ xCi d m_M_fewest [.ref a0, .int x1, .int (D.1 (a0 + 19) (x1 : Int32).toNatClampNeg)] D (fun r2 D1 => (¬ r2 = (-1 : Int32) → Q (some (.int r2)) D1) ∧ (r2 = (-1 : Int32) → vp_in x1 (xl (a0 + 19)) ∧ Q (some (.int (D1.1 (a0 + 19) (x1 : Int32).toNatClampNeg))) D1))) ∧ ((D.1 (a0 + 18) (x1 : Int32).toNatClampNeg) = (1 : Int32) → vp_in x1 (xl (a0 + 19)) ∧ xCi d m_M_greatest [.ref a0, .int x1, .int (D.1 (a0 + 19) (x1 : Int32).toNatClampNeg)] D (fun r4 D3 => (¬ r4 = (-1 : Int32) → Q (some (.int r4)) D3) ∧ (r4 = (-1 : Int32) → vp_in x1 (xl (a0 + 19)) ∧ Q (some (.int (D3.1 (a0 + 19) (x1 : Int32).toNatClampNeg))) D3)))) ∧ ((D.1 (a0 + 18) (x1 : Int32).toNatClampNeg) = 0 → xCi d m_M_fewest [.ref a0, .int x1, .int (-1 : Int32)] D (fun r6 D5 => (¬ r6 = (-1 : Int32) → Q (some (.int r6)) D5) ∧ (r6 = (-1 : Int32) → vp_in x1 (xl (a0 + 19)) ∧ Q (some (.int (D5.1 (a0 + 19) (x1 : Int32).toNatClampNeg))) D5)))) ∧ ((D.1 (a0 + 18) (x1 : Int32).toNatClampNeg) = (3 : Int32) → (¬ x2 = (-1 : Int32) → Q (some (.int x2)) D) ∧ (x2 = (-1 : Int32) → vp_in x1 (xl (a0 + 19)) ∧ Q (some (.int (D.1 (a0 + 19) (x1 : Int32).toNatClampNeg))) D))) : xPf (d + 1) m_M_handsOn 0 [(0, .ref a0), (1, .int x1), (2, .int x2)] [] D Q := by
  refine x_aload_n rfl rfl ?_
  refine x_gR lf_M_62 k0 rfl rfl ?_
  refine x_iload_n rfl rfl ?_
  refine x_iald (ck_13_37 k0) (xlt (ck_13_37 k0) (by decide)) h.1 rfl ?_
  have h := h.2
  refine x_iconst (v := (3 : Int32)) rfl rfl ?_
  refine x_icmp_ne (tgt := 14) rfl rfl (fun c => ?_) (fun c => ?_)
  · have h := h.1 c
    refine x_aload_n rfl rfl ?_
    refine x_gR lf_M_62 k0 rfl rfl ?_
    refine x_iload_n rfl rfl ?_
    refine x_iald (ck_13_37 k0) (xlt (ck_13_37 k0) (by decide)) h.1 rfl ?_
    have h := h.2
    refine x_if_ne (tgt := 32) rfl rfl (fun c => ?_) (fun c => ?_)
    · have h := h.1 c
      refine x_aload_n rfl rfl ?_
      refine x_gR lf_M_62 k0 rfl rfl ?_
      refine x_iload_n rfl rfl ?_
      refine x_iald (ck_13_37 k0) (xlt (ck_13_37 k0) (by decide)) h.1 rfl ?_
      have h := h.2
      refine x_iconst (v := (1 : Int32)) rfl rfl ?_
      refine x_icmp_ne (tgt := 56) rfl rfl (fun c => ?_) (fun c => ?_)
      · have h := h.1 c
        refine x_aload_n rfl rfl ?_
        refine x_iload_n rfl rfl ?_
        refine x_aload_n rfl rfl ?_
        refine x_gR lf_M_65 k0 rfl rfl ?_
        refine x_iload_n rfl rfl ?_
        refine x_iald (ck_13_38 k0) (xlt (ck_13_38 k0) (by decide)) h.1 rfl ?_
        have h := h.2
        refine x_vi lm_M_435 vf_M_fewest k0 rfl rfl (Nat.le_of_ble_eq_true rfl) rfl h (fun r2 D1 h => ?_)
        refine x_istore_n (i := 3) (L1 := [(3, .int r2), (0, .ref a0), (1, .int x1), (2, .int x2)]) rfl rfl (Nat.le_of_ble_eq_true rfl) rfl ?_
        refine x_iload_n rfl rfl ?_
        refine x_iconst (v := (-1 : Int32)) rfl rfl ?_
        refine x_icmp_ne (tgt := 82) rfl rfl (fun c => ?_) (fun c => ?_)
        · have h := h.1 c
          refine x_iload_n rfl rfl ?_
          exact x_iret rfl rfl h
        · have h := h.2 c
          refine x_aload_n rfl rfl ?_
          refine x_gR lf_M_65 k0 rfl rfl ?_
          refine x_iload_n rfl rfl ?_
          refine x_iald (ck_13_38 k0) (xlt (ck_13_38 k0) (by decide)) h.1 rfl ?_
          have h := h.2
          refine x_goto (tgt := 83) rfl rfl ?_
          exact x_iret rfl rfl h
      · have h := h.2 c
        refine x_aload_n rfl rfl ?_
        refine x_iload_n rfl rfl ?_
        refine x_aload_n rfl rfl ?_
        refine x_gR lf_M_65 k0 rfl rfl ?_
        refine x_iload_n rfl rfl ?_
        refine x_iald (ck_13_38 k0) (xlt (ck_13_38 k0) (by decide)) h.1 rfl ?_
        have h := h.2
        refine x_vi lm_M_438 vf_M_greatest k0 rfl rfl (Nat.le_of_ble_eq_true rfl) rfl h (fun r4 D3 h => ?_)
        refine x_goto (tgt := 67) rfl rfl ?_
        refine x_istore_n (i := 3) (L1 := [(3, .int r4), (0, .ref a0), (1, .int x1), (2, .int x2)]) rfl rfl (Nat.le_of_ble_eq_true rfl) rfl ?_
        refine x_iload_n rfl rfl ?_
        refine x_iconst (v := (-1 : Int32)) rfl rfl ?_
        refine x_icmp_ne (tgt := 82) rfl rfl (fun c => ?_) (fun c => ?_)
        · have h := h.1 c
          refine x_iload_n rfl rfl ?_
          exact x_iret rfl rfl h
        · have h := h.2 c
          refine x_aload_n rfl rfl ?_
          refine x_gR lf_M_65 k0 rfl rfl ?_
          refine x_iload_n rfl rfl ?_
          refine x_iald (ck_13_38 k0) (xlt (ck_13_38 k0) (by decide)) h.1 rfl ?_
          have h := h.2
          refine x_goto (tgt := 83) rfl rfl ?_
          exact x_iret rfl rfl h
    · have h := h.2 c
      refine x_aload_n rfl rfl ?_
      refine x_iload_n rfl rfl ?_
      refine x_iconst (v := (-1 : Int32)) rfl rfl ?_
      refine x_vi lm_M_435 vf_M_fewest k0 rfl rfl (Nat.le_of_ble_eq_true rfl) rfl h (fun r6 D5 h => ?_)
      refine x_goto (tgt := 67) rfl rfl ?_
      refine x_istore_n (i := 3) (L1 := [(3, .int r6), (0, .ref a0), (1, .int x1), (2, .int x2)]) rfl rfl (Nat.le_of_ble_eq_true rfl) rfl ?_
      refine x_iload_n rfl rfl ?_
      refine x_iconst (v := (-1 : Int32)) rfl rfl ?_
      refine x_icmp_ne (tgt := 82) rfl rfl (fun c => ?_) (fun c => ?_)
      · have h := h.1 c
        refine x_iload_n rfl rfl ?_
        exact x_iret rfl rfl h
      · have h := h.2 c
        refine x_aload_n rfl rfl ?_
        refine x_gR lf_M_65 k0 rfl rfl ?_
        refine x_iload_n rfl rfl ?_
        refine x_iald (ck_13_38 k0) (xlt (ck_13_38 k0) (by decide)) h.1 rfl ?_
        have h := h.2
        refine x_goto (tgt := 83) rfl rfl ?_
        exact x_iret rfl rfl h
  · have h := h.2 c
    refine x_iload_n rfl rfl ?_
    refine x_goto (tgt := 67) rfl rfl ?_
    refine x_istore_n (i := 3) (L1 := [(3, .int x2), (0, .ref a0), (1, .int x1), (2, .int x2)]) rfl rfl (Nat.le_of_ble_eq_true rfl) rfl ?_
    refine x_iload_n rfl rfl ?_
    refine x_iconst (v := (-1 : Int32)) rfl rfl ?_
    refine x_icmp_ne (tgt := 82) rfl rfl (fun c => ?_) (fun c => ?_)
    · have h := h.1 c
      refine x_iload_n rfl rfl ?_
      exact x_iret rfl rfl h
    · have h := h.2 c
      refine x_aload_n rfl rfl ?_
      refine x_gR lf_M_65 k0 rfl rfl ?_
      refine x_iload_n rfl rfl ?_
      refine x_iald (ck_13_38 k0) (xlt (ck_13_38 k0) (by decide)) h.1 rfl ?_
      have h := h.2
      refine x_goto (tgt := 83) rfl rfl ?_
      exact x_iret rfl rfl h
theorem s_M_go_0 {d : Nat} {D : xD} {Q : Option Value → xD → Prop} {a0 : Nat} {x1 : Int32} (k0 : xk a0 = 13) (h : xCv d m_M_deal [.ref a0] D (fun D1 => ∀ D2 : xD, D2 = (xu D1.1 a0 54 (-1 : Int32), D1.2) → ∀ D3 : xD, D3 = (xu D2.1 a0 55 (0 : Int32), D2.2) → xPf (d + 1) m_M_go 16 [(0, .ref a0), (1, .int x1), (2, .int (0 : Int32))] [] D3 Q)) : xPf (d + 1) m_M_go 0 [(0, .ref a0), (1, .int x1)] [] D Q := by
  refine x_aload_n rfl rfl ?_
  refine x_vv lm_M_386 vf_M_deal k0 rfl rfl (Nat.le_of_ble_eq_true rfl) rfl h (fun D1 h => ?_)
  refine x_aload_n rfl rfl ?_
  refine x_iconst (v := (-1 : Int32)) rfl rfl ?_
  refine x_pIn lp_M_441 nf_13_54 k0 rfl rfl (fun D2 eD2 => ?_)
  have h := h D2 eD2
  refine x_aload_n rfl rfl ?_
  refine x_iconst (v := (0 : Int32)) rfl rfl ?_
  refine x_pIn lp_M_444 nf_13_55 k0 rfl rfl (fun D3 eD3 => ?_)
  have h := h D3 eD3
  refine x_iconst (v := (0 : Int32)) rfl rfl ?_
  refine x_istore_n (i := 2) (L1 := [(2, .int (0 : Int32)), (0, .ref a0), (1, .int x1)]) rfl rfl (Nat.le_of_ble_eq_true rfl) rfl ?_
  exact xP_sub [1, 2, 0] rfl h
theorem s_M_go_16 {d : Nat} {D : xD} {Q : Option Value → xD → Prop} {a0 : Nat} {x1 : Int32} {x2 : Int32} (k0 : xk a0 = 13) (h : ((D.1 a0 31) ≤ x2 → xPf (d + 1) m_M_go 67 [(0, .ref a0), (1, .int x1), (2, .int (1 : Int32))] [] D Q) ∧ (¬ (D.1 a0 31) ≤ x2 → vp_in x2 (xl (a0 + 28)) ∧ ∀ D1 : xD, D1 = (xu D.1 (a0 + 28) (x2 : Int32).toNatClampNeg (0 : Int32), D.2) → (¬ (D1.1 a0 54) = (-1 : Int32) → ∀ D2 : xD, D2 = (xu D1.1 a0 54 (D1.1 a0 54), D1.2) → xPf (d + 1) m_M_go 16 [(0, .ref a0), (1, .int x1), (2, .int (x2 + (1 : Int32)))] [] D2 Q) ∧ ((D1.1 a0 54) = (-1 : Int32) → xCi d m_M_areAlike [.ref a0, .int x2] D1 (fun r4 D3 => (r4 = 0 → ∀ D5 : xD, D5 = (xu D3.1 a0 54 (D3.1 a0 54), D3.2) → xPf (d + 1) m_M_go 16 [(0, .ref a0), (1, .int x1), (2, .int (x2 + (1 : Int32)))] [] D5 Q) ∧ (¬ r4 = 0 → ∀ D6 : xD, D6 = (xu D3.1 a0 54 x2, D3.2) → xPf (d + 1) m_M_go 16 [(0, .ref a0), (1, .int x1), (2, .int (x2 + (1 : Int32)))] [] D6 Q))))) : xPf (d + 1) m_M_go 16 [(0, .ref a0), (1, .int x1), (2, .int x2)] [] D Q := by
  refine x_iload_n rfl rfl ?_
  refine x_aload_n rfl rfl ?_
  refine x_gI lf_M_350 k0 rfl rfl ?_
  refine x_icmp_ge (tgt := 65) rfl rfl (fun c => ?_) (fun c => ?_)
  · have h := h.1 c
    refine x_iconst (v := (1 : Int32)) rfl rfl ?_
    refine x_istore_n (i := 2) (L1 := [(2, .int (1 : Int32)), (0, .ref a0), (1, .int x1)]) rfl rfl (Nat.le_of_ble_eq_true rfl) rfl ?_
    exact xP_sub [1, 2, 0] rfl h
  · have h := h.2 c
    refine x_aload_n rfl rfl ?_
    refine x_gR lf_M_92 k0 rfl rfl ?_
    refine x_iload_n rfl rfl ?_
    refine x_iconst (v := (0 : Int32)) rfl rfl ?_
    refine x_iastn (ck_13_57 k0) h.1 rfl (fun D1 eD1 => ?_)
    have h := h.2 D1 eD1
    refine x_aload_n rfl rfl ?_
    refine x_aload_n rfl rfl ?_
    refine x_gI lf_M_441 k0 rfl rfl ?_
    refine x_iconst (v := (-1 : Int32)) rfl rfl ?_
    refine x_icmp_ne (tgt := 52) rfl rfl (fun c => ?_) (fun c => ?_)
    · have h := h.1 c
      refine x_aload_n rfl rfl ?_
      refine x_gI lf_M_441 k0 rfl rfl ?_
      refine x_pIn lp_M_441 nf_13_54 k0 rfl rfl (fun D2 eD2 => ?_)
      have h := h D2 eD2
      refine x_iinc (i := 2) (v := x2 + (1 : Int32)) (L1 := [(2, .int (x2 + (1 : Int32))), (0, .ref a0), (1, .int x1)]) rfl rfl rfl (Nat.le_of_ble_eq_true rfl) rfl ?_
      refine x_goto (tgt := 16) rfl rfl ?_
      exact xP_sub [1, 2, 0] rfl h
    · have h := h.2 c
      refine x_aload_n rfl rfl ?_
      refine x_iload_n rfl rfl ?_
      refine x_vi lm_M_404 vf_M_areAlike k0 rfl rfl (Nat.le_of_ble_eq_true rfl) rfl h (fun r4 D3 h => ?_)
      refine x_if_eq (tgt := 52) rfl rfl (fun c => ?_) (fun c => ?_)
      · have h := h.1 c
        refine x_aload_n rfl rfl ?_
        refine x_gI lf_M_441 k0 rfl rfl ?_
        refine x_pIn lp_M_441 nf_13_54 k0 rfl rfl (fun D5 eD5 => ?_)
        have h := h D5 eD5
        refine x_iinc (i := 2) (v := x2 + (1 : Int32)) (L1 := [(2, .int (x2 + (1 : Int32))), (0, .ref a0), (1, .int x1)]) rfl rfl rfl (Nat.le_of_ble_eq_true rfl) rfl ?_
        refine x_goto (tgt := 16) rfl rfl ?_
        exact xP_sub [1, 2, 0] rfl h
      · have h := h.2 c
        refine x_iload_n rfl rfl ?_
        refine x_goto (tgt := 56) rfl rfl ?_
        refine x_pIn lp_M_441 nf_13_54 k0 rfl rfl (fun D6 eD6 => ?_)
        have h := h D6 eD6
        refine x_iinc (i := 2) (v := x2 + (1 : Int32)) (L1 := [(2, .int (x2 + (1 : Int32))), (0, .ref a0), (1, .int x1)]) rfl rfl rfl (Nat.le_of_ble_eq_true rfl) rfl ?_
        refine x_goto (tgt := 16) rfl rfl ?_
        exact xP_sub [1, 2, 0] rfl h
theorem s_M_go_67 {d : Nat} {D : xD} {Q : Option Value → xD → Prop} {a0 : Nat} {x1 : Int32} {x2 : Int32} (k0 : xk a0 = 13) (h : (x1 < x2 → Q none D) ∧ (¬ x1 < x2 → (¬ (D.1 a0 54) = (-1 : Int32) → Q none D) ∧ ((D.1 a0 54) = (-1 : Int32) → xPf (d + 1) m_M_go 82 [(0, .ref a0), (1, .int x1), (2, .int x2), (3, .int (0 : Int32))] [] D Q))) : xPf (d + 1) m_M_go 67 [(0, .ref a0), (1, .int x1), (2, .int x2)] [] D Q := by
  refine x_iload_n rfl rfl ?_
  refine x_iload_n rfl rfl ?_
  refine x_icmp_gt (tgt := 127) rfl rfl (fun c => ?_) (fun c => ?_)
  · have h := h.1 c
    exact x_vret rfl rfl h
  · have h := h.2 c
    refine x_aload_n rfl rfl ?_
    refine x_gI lf_M_441 k0 rfl rfl ?_
    refine x_iconst (v := (-1 : Int32)) rfl rfl ?_
    refine x_icmp_ne (tgt := 127) rfl rfl (fun c => ?_) (fun c => ?_)
    · have h := h.1 c
      exact x_vret rfl rfl h
    · have h := h.2 c
      refine x_iconst (v := (0 : Int32)) rfl rfl ?_
      refine x_istore_n (i := 3) (L1 := [(3, .int (0 : Int32)), (0, .ref a0), (1, .int x1), (2, .int x2)]) rfl rfl (Nat.le_of_ble_eq_true rfl) rfl ?_
      exact xP_sub [1, 2, 3, 0] rfl h
theorem s_M_go_82 {d : Nat} {D : xD} {Q : Option Value → xD → Prop} {a0 : Nat} {x1 : Int32} {x2 : Int32} {x3 : Int32} (k0 : xk a0 = 13) (h : ((D.1 a0 31) ≤ x3 → xPf (d + 1) m_M_go 67 [(0, .ref a0), (1, .int x1), (2, .int (x2 + (1 : Int32)))] [] D Q) ∧ (¬ (D.1 a0 31) ≤ x3 → (¬ (D.1 a0 54) = (-1 : Int32) → xPf (d + 1) m_M_go 67 [(0, .ref a0), (1, .int x1), (2, .int (x2 + (1 : Int32)))] [] D Q) ∧ ((D.1 a0 54) = (-1 : Int32) → vp_in x3 (xl (a0 + 14)) ∧ ¬ (D.1 (a0 + 14) (x3 : Int32).toNatClampNeg) = 0 ∧ (¬ (x2 - x2 / (D.1 (a0 + 14) (x3 : Int32).toNatClampNeg) * (D.1 (a0 + 14) (x3 : Int32).toNatClampNeg)) = 0 → xPf (d + 1) m_M_go 82 [(0, .ref a0), (1, .int x1), (2, .int x2), (3, .int (x3 + (1 : Int32)))] [] D Q) ∧ ((x2 - x2 / (D.1 (a0 + 14) (x3 : Int32).toNatClampNeg) * (D.1 (a0 + 14) (x3 : Int32).toNatClampNeg)) = 0 → xCv d m_M_moves [.ref a0, .int x3, .int x2] D (fun D1 => xPf (d + 1) m_M_go 82 [(0, .ref a0), (1, .int x1), (2, .int x2), (3, .int (x3 + (1 : Int32)))] [] D1 Q))))) : xPf (d + 1) m_M_go 82 [(0, .ref a0), (1, .int x1), (2, .int x2), (3, .int x3)] [] D Q := by
  refine x_iload_n rfl rfl ?_
  refine x_aload_n rfl rfl ?_
  refine x_gI lf_M_350 k0 rfl rfl ?_
  refine x_icmp_ge (tgt := 121) rfl rfl (fun c => ?_) (fun c => ?_)
  · have h := h.1 c
    refine x_iinc (i := 2) (v := x2 + (1 : Int32)) (L1 := [(2, .int (x2 + (1 : Int32))), (0, .ref a0), (1, .int x1), (3, .int x3)]) rfl rfl rfl (Nat.le_of_ble_eq_true rfl) rfl ?_
    refine x_goto (tgt := 67) rfl rfl ?_
    exact xP_sub [1, 2, 0] rfl h
  · have h := h.2 c
    refine x_aload_n rfl rfl ?_
    refine x_gI lf_M_441 k0 rfl rfl ?_
    refine x_iconst (v := (-1 : Int32)) rfl rfl ?_
    refine x_icmp_ne (tgt := 121) rfl rfl (fun c => ?_) (fun c => ?_)
    · have h := h.1 c
      refine x_iinc (i := 2) (v := x2 + (1 : Int32)) (L1 := [(2, .int (x2 + (1 : Int32))), (0, .ref a0), (1, .int x1), (3, .int x3)]) rfl rfl rfl (Nat.le_of_ble_eq_true rfl) rfl ?_
      refine x_goto (tgt := 67) rfl rfl ?_
      exact xP_sub [1, 2, 0] rfl h
    · have h := h.2 c
      refine x_iload_n rfl rfl ?_
      refine x_aload_n rfl rfl ?_
      refine x_gR lf_M_50 k0 rfl rfl ?_
      refine x_iload_n rfl rfl ?_
      refine x_iald (ck_13_33 k0) (xlt (ck_13_33 k0) (by decide)) h.1 rfl ?_
      have h := h.2
      refine x_irem rfl h.1 ?_
      have h := h.2
      refine x_if_ne (tgt := 115) rfl rfl (fun c => ?_) (fun c => ?_)
      · have h := h.1 c
        refine x_iinc (i := 3) (v := x3 + (1 : Int32)) (L1 := [(3, .int (x3 + (1 : Int32))), (0, .ref a0), (1, .int x1), (2, .int x2)]) rfl rfl rfl (Nat.le_of_ble_eq_true rfl) rfl ?_
        refine x_goto (tgt := 82) rfl rfl ?_
        exact xP_sub [1, 2, 3, 0] rfl h
      · have h := h.2 c
        refine x_aload_n rfl rfl ?_
        refine x_iload_n rfl rfl ?_
        refine x_iload_n rfl rfl ?_
        refine x_vv lm_M_447 vf_M_moves k0 rfl rfl (Nat.le_of_ble_eq_true rfl) rfl h (fun D1 h => ?_)
        refine x_iinc (i := 3) (v := x3 + (1 : Int32)) (L1 := [(3, .int (x3 + (1 : Int32))), (0, .ref a0), (1, .int x1), (2, .int x2)]) rfl rfl rfl (Nat.le_of_ble_eq_true rfl) rfl ?_
        refine x_goto (tgt := 82) rfl rfl ?_
        exact xP_sub [1, 2, 3, 0] rfl h
theorem s_M_moves_0 {d : Nat} {D : xD} {Q : Option Value → xD → Prop} {a0 : Nat} {x1 : Int32} {x2 : Int32} (k0 : xk a0 = 13) (h : xCi d m_M_comes [.ref a0, .int x1] D (fun r2 D1 => (¬ r2 = (-1 : Int32) → xCi d m_M_handsOn [.ref a0, .int x1, .int r2] D1 (fun r4 D3 => xCv d m_M_goesOn [.ref a0, .int x1, .int r4] D3 (fun D5 => vp_in x1 (xl (a0 + 28)) ∧ vp_in x1 (xl (a0 + 28)) ∧ ∀ D6 : xD, D6 = (xu D5.1 (a0 + 28) (x1 : Int32).toNatClampNeg ((D5.1 (a0 + 28) (x1 : Int32).toNatClampNeg) + (1 : Int32)), D5.2) → xCi d m_M_areAlike [.ref a0, .int x1] D6 (fun r8 D7 => (r8 = 0 → Q none D7) ∧ (¬ r8 = 0 → ∀ D9 : xD, D9 = (xu D7.1 a0 54 x1, D7.2) → ∀ D10 : xD, D10 = (xu D9.1 a0 55 x2, D9.2) → Q none D10))))) ∧ (r2 = (-1 : Int32) → Q none D1))) : xPf (d + 1) m_M_moves 0 [(0, .ref a0), (1, .int x1), (2, .int x2)] [] D Q := by
  refine x_aload_n rfl rfl ?_
  refine x_iload_n rfl rfl ?_
  refine x_vi lm_M_407 vf_M_comes k0 rfl rfl (Nat.le_of_ble_eq_true rfl) rfl h (fun r2 D1 h => ?_)
  refine x_istore_n (i := 3) (L1 := [(3, .int r2), (0, .ref a0), (1, .int x1), (2, .int x2)]) rfl rfl (Nat.le_of_ble_eq_true rfl) rfl ?_
  refine x_iload_n rfl rfl ?_
  refine x_iconst (v := (-1 : Int32)) rfl rfl ?_
  refine x_icmp_ne (tgt := 12) rfl rfl (fun c => ?_) (fun c => ?_)
  · have h := h.1 c
    refine x_aload_n rfl rfl ?_
    refine x_iload_n rfl rfl ?_
    refine x_aload_n rfl rfl ?_
    refine x_iload_n rfl rfl ?_
    refine x_iload_n rfl rfl ?_
    refine x_vi lm_M_450 vf_M_handsOn k0 rfl rfl (Nat.le_of_ble_eq_true rfl) rfl h (fun r4 D3 h => ?_)
    refine x_vv lm_M_410 vf_M_goesOn k0 rfl rfl (Nat.le_of_ble_eq_true rfl) rfl h (fun D5 h => ?_)
    refine x_aload_n rfl rfl ?_
    refine x_gR lf_M_92 k0 rfl rfl ?_
    refine x_iload_n rfl rfl ?_
    refine x_dup2 rfl rfl rfl ?_
    refine x_iald (ck_13_57 k0) (xlt (ck_13_57 k0) (by decide)) h.1 rfl ?_
    have h := h.2
    refine x_iconst (v := (1 : Int32)) rfl rfl ?_
    refine x_iadd rfl ?_
    refine x_iastn (ck_13_57 k0) h.1 rfl (fun D6 eD6 => ?_)
    have h := h.2 D6 eD6
    refine x_aload_n rfl rfl ?_
    refine x_iload_n rfl rfl ?_
    refine x_vi lm_M_404 vf_M_areAlike k0 rfl rfl (Nat.le_of_ble_eq_true rfl) rfl h (fun r8 D7 h => ?_)
    refine x_if_eq (tgt := 51) rfl rfl (fun c => ?_) (fun c => ?_)
    · have h := h.1 c
      exact x_vret rfl rfl h
    · have h := h.2 c
      refine x_aload_n rfl rfl ?_
      refine x_iload_n rfl rfl ?_
      refine x_pIn lp_M_441 nf_13_54 k0 rfl rfl (fun D9 eD9 => ?_)
      have h := h D9 eD9
      refine x_aload_n rfl rfl ?_
      refine x_iload_n rfl rfl ?_
      refine x_pIn lp_M_444 nf_13_55 k0 rfl rfl (fun D10 eD10 => ?_)
      have h := h D10 eD10
      exact x_vret rfl rfl h
  · have h := h.2 c
    exact x_vret rfl rfl h
