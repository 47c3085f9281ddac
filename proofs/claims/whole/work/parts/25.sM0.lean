theorem s_M_in_0 {d : Nat} {D : xD} {Q : Option Value → xD → Prop} {x0 : Int32} {x1 : Int32} {x2 : Int32}  (h : (x0 < x1 → Q (some (.int (0 : Int32))) D) ∧ (¬ x0 < x1 → (x2 < x0 → Q (some (.int (0 : Int32))) D) ∧ (¬ x2 < x0 → Q (some (.int (1 : Int32))) D))) : xPf (d + 1) m_M_in 0 [(0, .int x0), (1, .int x1), (2, .int x2)] [] D Q := by
  refine x_iload_n rfl rfl ?_
  refine x_iload_n rfl rfl ?_
  refine x_icmp_lt (tgt := 14) rfl rfl (fun c => ?_) (fun c => ?_)
  · have h := h.1 c
    refine x_iconst (v := (0 : Int32)) rfl rfl ?_
    exact x_zr rfl (Or.inl rfl) rfl h
  · have h := h.2 c
    refine x_iload_n rfl rfl ?_
    refine x_iload_n rfl rfl ?_
    refine x_icmp_gt (tgt := 14) rfl rfl (fun c => ?_) (fun c => ?_)
    · have h := h.1 c
      refine x_iconst (v := (0 : Int32)) rfl rfl ?_
      exact x_zr rfl (Or.inl rfl) rfl h
    · have h := h.2 c
      refine x_iconst (v := (1 : Int32)) rfl rfl ?_
      refine x_goto (tgt := 15) rfl rfl ?_
      exact x_zr rfl (Or.inr rfl) rfl h
theorem s_M_has_0 {d : Nat} {D : xD} {Q : Option Value → xD → Prop} {x0 : Int32} {x1 : Int32}  (h : (¬ ((x0 >>> (x1 &&& 31)) &&& (1 : Int32)) = (1 : Int32) → Q (some (.int (0 : Int32))) D) ∧ (((x0 >>> (x1 &&& 31)) &&& (1 : Int32)) = (1 : Int32) → Q (some (.int (1 : Int32))) D)) : xPf (d + 1) m_M_has 0 [(0, .int x0), (1, .int x1)] [] D Q := by
  refine x_iload_n rfl rfl ?_
  refine x_iload_n rfl rfl ?_
  refine x_ishr rfl ?_
  refine x_iconst (v := (1 : Int32)) rfl rfl ?_
  refine x_iand rfl ?_
  refine x_iconst (v := (1 : Int32)) rfl rfl ?_
  refine x_icmp_ne (tgt := 13) rfl rfl (fun c => ?_) (fun c => ?_)
  · have h := h.1 c
    refine x_iconst (v := (0 : Int32)) rfl rfl ?_
    exact x_zr rfl (Or.inl rfl) rfl h
  · have h := h.2 c
    refine x_iconst (v := (1 : Int32)) rfl rfl ?_
    refine x_goto (tgt := 14) rfl rfl ?_
    exact x_zr rfl (Or.inr rfl) rfl h
theorem s_M_greater_0 {d : Nat} {D : xD} {Q : Option Value → xD → Prop} {x0 : Int32} {x1 : Int32}  (h : (x0 ≤ x1 → Q (some (.int x1)) D) ∧ (¬ x0 ≤ x1 → Q (some (.int x0)) D)) : xPf (d + 1) m_M_greater 0 [(0, .int x0), (1, .int x1)] [] D Q := by
  refine x_iload_n rfl rfl ?_
  refine x_iload_n rfl rfl ?_
  refine x_icmp_le (tgt := 9) rfl rfl (fun c => ?_) (fun c => ?_)
  · have h := h.1 c
    refine x_iload_n rfl rfl ?_
    exact x_iret rfl rfl h
  · have h := h.2 c
    refine x_iload_n rfl rfl ?_
    refine x_goto (tgt := 10) rfl rfl ?_
    exact x_iret rfl rfl h
theorem s_M_lesser_0 {d : Nat} {D : xD} {Q : Option Value → xD → Prop} {x0 : Int32} {x1 : Int32}  (h : (x1 ≤ x0 → Q (some (.int x1)) D) ∧ (¬ x1 ≤ x0 → Q (some (.int x0)) D)) : xPf (d + 1) m_M_lesser 0 [(0, .int x0), (1, .int x1)] [] D Q := by
  refine x_iload_n rfl rfl ?_
  refine x_iload_n rfl rfl ?_
  refine x_icmp_ge (tgt := 9) rfl rfl (fun c => ?_) (fun c => ?_)
  · have h := h.1 c
    refine x_iload_n rfl rfl ?_
    exact x_iret rfl rfl h
  · have h := h.2 c
    refine x_iload_n rfl rfl ?_
    refine x_goto (tgt := 10) rfl rfl ?_
    exact x_iret rfl rfl h
theorem s_M_copyRow_0 {d : Nat} {D : xD} {Q : Option Value → xD → Prop} {a0 : Nat} {x1 : Int32} {x2 : Int32} {x3 : Int32} (k0 : xk a0 = 100) (h : xPf (d + 1) m_M_copyRow 3 [(0, .ref a0), (1, .int x1), (2, .int x2), (3, .int x3), (4, .int (0 : Int32))] [] D Q) : xPf (d + 1) m_M_copyRow 0 [(0, .ref a0), (1, .int x1), (2, .int x2), (3, .int x3)] [] D Q := by
  refine x_iconst (v := (0 : Int32)) rfl rfl ?_
  refine x_istore (i := 4) (L1 := [(4, .int (0 : Int32)), (0, .ref a0), (1, .int x1), (2, .int x2), (3, .int x3)]) rfl (Nat.le_of_ble_eq_true rfl) rfl ?_
  exact xP_sub [1, 2, 3, 4, 0] rfl h
theorem s_M_copyRow_3 {d : Nat} {D : xD} {Q : Option Value → xD → Prop} {a0 : Nat} {x1 : Int32} {x2 : Int32} {x3 : Int32} {x4 : Int32} (k0 : xk a0 = 100) (h : (x1 ≤ x4 → Q none D) ∧ (¬ x1 ≤ x4 → vp_in ((x1 * x2) + x4) (xl a0) ∧ vp_in ((x1 * x3) + x4) (xl a0) ∧ ∀ D1 : xD, D1 = (xu D.1 a0 ((x1 * x3) + x4 : Int32).toNatClampNeg (D.1 a0 ((x1 * x2) + x4 : Int32).toNatClampNeg), D.2) → xPf (d + 1) m_M_copyRow 3 [(0, .ref a0), (1, .int x1), (2, .int x2), (3, .int x3), (4, .int (x4 + (1 : Int32)))] [] D1 Q)) : xPf (d + 1) m_M_copyRow 3 [(0, .ref a0), (1, .int x1), (2, .int x2), (3, .int x3), (4, .int x4)] [] D Q := by
  refine x_iload rfl rfl ?_
  refine x_iload_n rfl rfl ?_
  refine x_icmp_ge (tgt := 31) rfl rfl (fun c => ?_) (fun c => ?_)
  · have h := h.1 c
    exact x_vret rfl rfl h
  · have h := h.2 c
    refine x_aload_n rfl rfl ?_
    refine x_iload_n rfl rfl ?_
    refine x_iload_n rfl rfl ?_
    refine x_imul rfl ?_
    refine x_iload rfl rfl ?_
    refine x_iadd rfl ?_
    refine x_aload_n rfl rfl ?_
    refine x_iload_n rfl rfl ?_
    refine x_iload_n rfl rfl ?_
    refine x_imul rfl ?_
    refine x_iload rfl rfl ?_
    refine x_iadd rfl ?_
    refine x_iald k0 (xlt k0 (by decide)) h.1 rfl ?_
    have h := h.2
    refine x_iastn k0 h.1 rfl (fun D1 eD1 => ?_)
    have h := h.2 D1 eD1
    refine x_iinc (i := 4) (v := x4 + (1 : Int32)) (L1 := [(4, .int (x4 + (1 : Int32))), (0, .ref a0), (1, .int x1), (2, .int x2), (3, .int x3)]) rfl rfl rfl (Nat.le_of_ble_eq_true rfl) rfl ?_
    refine x_goto (tgt := 3) rfl rfl ?_
    exact xP_sub [1, 2, 3, 4, 0] rfl h
theorem s_M_copyAll_0 {d : Nat} {D : xD} {Q : Option Value → xD → Prop} {a0 : Nat} {x1 : Int32} {x2 : Int32} (k0 : xk a0 = 13) (h : xPf (d + 1) m_M_copyAll 2 [(0, .ref a0), (1, .int x1), (2, .int x2), (3, .int (0 : Int32))] [] D Q) : xPf (d + 1) m_M_copyAll 0 [(0, .ref a0), (1, .int x1), (2, .int x2)] [] D Q := by
  refine x_iconst (v := (0 : Int32)) rfl rfl ?_
  refine x_istore_n (i := 3) (L1 := [(3, .int (0 : Int32)), (0, .ref a0), (1, .int x1), (2, .int x2)]) rfl rfl (Nat.le_of_ble_eq_true rfl) rfl ?_
  exact xP_sub [1, 2, 3, 0] rfl h
theorem s_M_copyAll_2 {d : Nat} {D : xD} {Q : Option Value → xD → Prop} {a0 : Nat} {x1 : Int32} {x2 : Int32} {x3 : Int32} (k0 : xk a0 = 13) (h : ((600 : Int32) ≤ x3 → xCv d m_M_copyRow [.ref (a0 + 2), .int (1 : Int32), .int x1, .int x2] D (fun D1 => xCv d m_M_copyRow [.ref (a0 + 3), .int (1 : Int32), .int x1, .int x2] D1 (fun D2 => xCv d m_M_copyRow [.ref (a0 + 4), .int (1 : Int32), .int x1, .int x2] D2 (fun D3 => xCv d m_M_copyRow [.ref (a0 + 5), .int (5 : Int32), .int x1, .int x2] D3 (fun D4 => xCv d m_M_copyRow [.ref (a0 + 6), .int (96 : Int32), .int x1, .int x2] D4 (fun D5 => xCv d m_M_copyRow [.ref (a0 + 7), .int (106 : Int32), .int x1, .int x2] D5 (fun D6 => xCv d m_M_copyRow [.ref (a0 + 8), .int (242 : Int32), .int x1, .int x2] D6 (fun D7 => xCv d m_M_copyRow [.ref (a0 + 9), .int (108 : Int32), .int x1, .int x2] D7 (fun D8 => xCv d m_M_copyRow [.ref (a0 + 10), .int (42 : Int32), .int x1, .int x2] D8 (fun D9 => Q none D9)))))))))) ∧ (¬ (600 : Int32) ≤ x3 → vp_in (((600 : Int32) * x1) + x3) (xl (a0 + 1)) ∧ vp_in (((600 : Int32) * x2) + x3) (xl (a0 + 1)) ∧ ∀ D10 : xD, D10 = (xu D.1 (a0 + 1) (((600 : Int32) * x2) + x3 : Int32).toNatClampNeg (vp_nar .byte (D.1 (a0 + 1) (((600 : Int32) * x1) + x3 : Int32).toNatClampNeg)), D.2) → xPf (d + 1) m_M_copyAll 2 [(0, .ref a0), (1, .int x1), (2, .int x2), (3, .int (x3 + (1 : Int32)))] [] D10 Q)) : xPf (d + 1) m_M_copyAll 2 [(0, .ref a0), (1, .int x1), (2, .int x2), (3, .int x3)] [] D Q := by
  refine x_iload_n rfl rfl ?_
  refine x_sipush (v := (600 : Int32)) rfl rfl ?_
  refine x_icmp_ge (tgt := 39) rfl rfl (fun c => ?_) (fun c => ?_)
  · have h := h.1 c
    refine x_aload_n rfl rfl ?_
    refine x_gR lf_M_13 k0 rfl rfl ?_
    refine x_iconst (v := (1 : Int32)) rfl rfl ?_
    refine x_iload_n rfl rfl ?_
    refine x_iload_n rfl rfl ?_
    refine x_sv lm_M_143 sf_M_copyRow rfl rfl (Nat.le_of_ble_eq_true rfl) rfl h (fun D1 h => ?_)
    refine x_aload_n rfl rfl ?_
    refine x_gR lf_M_17 k0 rfl rfl ?_
    refine x_iconst (v := (1 : Int32)) rfl rfl ?_
    refine x_iload_n rfl rfl ?_
    refine x_iload_n rfl rfl ?_
    refine x_sv lm_M_143 sf_M_copyRow rfl rfl (Nat.le_of_ble_eq_true rfl) rfl h (fun D2 h => ?_)
    refine x_aload_n rfl rfl ?_
    refine x_gR lf_M_20 k0 rfl rfl ?_
    refine x_iconst (v := (1 : Int32)) rfl rfl ?_
    refine x_iload_n rfl rfl ?_
    refine x_iload_n rfl rfl ?_
    refine x_sv lm_M_143 sf_M_copyRow rfl rfl (Nat.le_of_ble_eq_true rfl) rfl h (fun D3 h => ?_)
    refine x_aload_n rfl rfl ?_
    refine x_gR lf_M_23 k0 rfl rfl ?_
    refine x_iconst (v := (5 : Int32)) rfl rfl ?_
    refine x_iload_n rfl rfl ?_
    refine x_iload_n rfl rfl ?_
    refine x_sv lm_M_143 sf_M_copyRow rfl rfl (Nat.le_of_ble_eq_true rfl) rfl h (fun D4 h => ?_)
    refine x_aload_n rfl rfl ?_
    refine x_gR lf_M_26 k0 rfl rfl ?_
    refine x_bipush (v := (96 : Int32)) rfl rfl ?_
    refine x_iload_n rfl rfl ?_
    refine x_iload_n rfl rfl ?_
    refine x_sv lm_M_143 sf_M_copyRow rfl rfl (Nat.le_of_ble_eq_true rfl) rfl h (fun D5 h => ?_)
    refine x_aload_n rfl rfl ?_
    refine x_gR lf_M_29 k0 rfl rfl ?_
    refine x_bipush (v := (106 : Int32)) rfl rfl ?_
    refine x_iload_n rfl rfl ?_
    refine x_iload_n rfl rfl ?_
    refine x_sv lm_M_143 sf_M_copyRow rfl rfl (Nat.le_of_ble_eq_true rfl) rfl h (fun D6 h => ?_)
    refine x_aload_n rfl rfl ?_
    refine x_gR lf_M_32 k0 rfl rfl ?_
    refine x_sipush (v := (242 : Int32)) rfl rfl ?_
    refine x_iload_n rfl rfl ?_
    refine x_iload_n rfl rfl ?_
    refine x_sv lm_M_143 sf_M_copyRow rfl rfl (Nat.le_of_ble_eq_true rfl) rfl h (fun D7 h => ?_)
    refine x_aload_n rfl rfl ?_
    refine x_gR lf_M_35 k0 rfl rfl ?_
    refine x_bipush (v := (108 : Int32)) rfl rfl ?_
    refine x_iload_n rfl rfl ?_
    refine x_iload_n rfl rfl ?_
    refine x_sv lm_M_143 sf_M_copyRow rfl rfl (Nat.le_of_ble_eq_true rfl) rfl h (fun D8 h => ?_)
    refine x_aload_n rfl rfl ?_
    refine x_gR lf_M_38 k0 rfl rfl ?_
    refine x_bipush (v := (42 : Int32)) rfl rfl ?_
    refine x_iload_n rfl rfl ?_
    refine x_iload_n rfl rfl ?_
    refine x_sv lm_M_143 sf_M_copyRow rfl rfl (Nat.le_of_ble_eq_true rfl) rfl h (fun D9 h => ?_)
    exact x_vret rfl rfl h
  · have h := h.2 c
    refine x_aload_n rfl rfl ?_
    refine x_gR lf_M_7 k0 rfl rfl ?_
    refine x_sipush (v := (600 : Int32)) rfl rfl ?_
    refine x_iload_n rfl rfl ?_
    refine x_imul rfl ?_
    refine x_iload_n rfl rfl ?_
    refine x_iadd rfl ?_
    refine x_aload_n rfl rfl ?_
    refine x_gR lf_M_7 k0 rfl rfl ?_
    refine x_sipush (v := (600 : Int32)) rfl rfl ?_
    refine x_iload_n rfl rfl ?_
    refine x_imul rfl ?_
    refine x_iload_n rfl rfl ?_
    refine x_iadd rfl ?_
    refine x_bald (ck_13_1 k0) (xlt (ck_13_1 k0) (by decide)) h.1 rfl ?_
    have h := h.2
    refine x_bastn (ck_13_1 k0) h.1 rfl (fun D10 eD10 => ?_)
    have h := h.2 D10 eD10
    refine x_iinc (i := 3) (v := x3 + (1 : Int32)) (L1 := [(3, .int (x3 + (1 : Int32))), (0, .ref a0), (1, .int x1), (2, .int x2)]) rfl rfl rfl (Nat.le_of_ble_eq_true rfl) rfl ?_
    refine x_goto (tgt := 2) rfl rfl ?_
    exact xP_sub [1, 2, 3, 0] rfl h
theorem s_M_is_0 {d : Nat} {D : xD} {Q : Option Value → xD → Prop} {a0 : Nat} {x1 : Int32} {x2 : Int32} (k0 : xk a0 = 13) (h : vp_in x1 (xl (a0 + 5)) ∧ xCi d m_M_in [.int x2, .int (0 : Int32), .int ((D.1 (a0 + 5) (x1 : Int32).toNatClampNeg) - (1 : Int32))] D (fun r2 D1 => (r2 = 0 ∨ r2 = 1) ∧ Q (some (.int r2)) D1)) : xPf (d + 1) m_M_is 0 [(0, .ref a0), (1, .int x1), (2, .int x2)] [] D Q := by
  refine x_iload_n rfl rfl ?_
  refine x_iconst (v := (0 : Int32)) rfl rfl ?_
  refine x_aload_n rfl rfl ?_
  refine x_gR lf_M_23 k0 rfl rfl ?_
  refine x_iload_n rfl rfl ?_
  refine x_iald (ck_13_5 k0) (xlt (ck_13_5 k0) (by decide)) h.1 rfl ?_
  have h := h.2
  refine x_iconst (v := (1 : Int32)) rfl rfl ?_
  refine x_isub rfl ?_
  refine x_si lm_M_147 sf_M_in rfl rfl (Nat.le_of_ble_eq_true rfl) rfl h (fun r2 D1 h => ?_)
  exact x_zr rfl h.1 rfl h.2
theorem s_M_feed_0 {d : Nat} {D : xD} {Q : Option Value → xD → Prop} {a0 : Nat} {x1 : Int32} {x2 : Int32} {x3 : Int32} {x4 : Int32} {x5 : Int32} (k0 : xk a0 = 13) (h : ∀ D1 : xD, D1 = (xu D.1 a0 0 (0 : Int32), D.2) → vp_in (0 : Int32) (xl (a0 + 2)) ∧ (((D1.1 (a0 + 2) ((0 : Int32) : Int32).toNatClampNeg) + (20 : Int32)) ≤ (600 : Int32) → xCv d m_M_four [.ref a0, .int x1] D1 (fun D2 => xCv d m_M_four [.ref a0, .int x2] D2 (fun D3 => xCv d m_M_four [.ref a0, .int x3] D3 (fun D4 => xCv d m_M_four [.ref a0, .int x4] D4 (fun D5 => xCv d m_M_four [.ref a0, .int x5] D5 (fun D6 => vp_in (0 : Int32) (xl (a0 + 2)) ∧ Q (some (.int (D6.1 (a0 + 2) ((0 : Int32) : Int32).toNatClampNeg))) D6)))))) ∧ (¬ ((D1.1 (a0 + 2) ((0 : Int32) : Int32).toNatClampNeg) + (20 : Int32)) ≤ (600 : Int32) → Q (some (.int (-1 : Int32))) D1)) : xPf (d + 1) m_M_feed 0 [(0, .ref a0), (1, .int x1), (2, .int x2), (3, .int x3), (4, .int x4), (5, .int x5)] [] D Q := by
  refine x_aload_n rfl rfl ?_
  refine x_iconst (v := (0 : Int32)) rfl rfl ?_
  refine x_pIn lp_M_139 nf_13_0 k0 rfl rfl (fun D1 eD1 => ?_)
  have h := h D1 eD1
  refine x_aload_n rfl rfl ?_
  refine x_gR lf_M_13 k0 rfl rfl ?_
  refine x_iconst (v := (0 : Int32)) rfl rfl ?_
  refine x_iald (ck_13_2 k0) (xlt (ck_13_2 k0) (by decide)) h.1 rfl ?_
  have h := h.2
  refine x_bipush (v := (20 : Int32)) rfl rfl ?_
  refine x_iadd rfl ?_
  refine x_sipush (v := (600 : Int32)) rfl rfl ?_
  refine x_icmp_le (tgt := 22) rfl rfl (fun c => ?_) (fun c => ?_)
  · have h := h.1 c
    refine x_aload_n rfl rfl ?_
    refine x_iload_n rfl rfl ?_
    refine x_vv lm_M_151 vf_M_four k0 rfl rfl (Nat.le_of_ble_eq_true rfl) rfl h (fun D2 h => ?_)
    refine x_aload_n rfl rfl ?_
    refine x_iload_n rfl rfl ?_
    refine x_vv lm_M_151 vf_M_four k0 rfl rfl (Nat.le_of_ble_eq_true rfl) rfl h (fun D3 h => ?_)
    refine x_aload_n rfl rfl ?_
    refine x_iload_n rfl rfl ?_
    refine x_vv lm_M_151 vf_M_four k0 rfl rfl (Nat.le_of_ble_eq_true rfl) rfl h (fun D4 h => ?_)
    refine x_aload_n rfl rfl ?_
    refine x_iload rfl rfl ?_
    refine x_vv lm_M_151 vf_M_four k0 rfl rfl (Nat.le_of_ble_eq_true rfl) rfl h (fun D5 h => ?_)
    refine x_aload_n rfl rfl ?_
    refine x_iload rfl rfl ?_
    refine x_vv lm_M_151 vf_M_four k0 rfl rfl (Nat.le_of_ble_eq_true rfl) rfl h (fun D6 h => ?_)
    refine x_aload_n rfl rfl ?_
    refine x_gR lf_M_13 k0 rfl rfl ?_
    refine x_iconst (v := (0 : Int32)) rfl rfl ?_
    refine x_iald (ck_13_2 k0) (xlt (ck_13_2 k0) (by decide)) h.1 rfl ?_
    have h := h.2
    exact x_iret rfl rfl h
  · have h := h.2 c
    refine x_iconst (v := (-1 : Int32)) rfl rfl ?_
    exact x_iret rfl rfl h
theorem s_M_four_0 {d : Nat} {D : xD} {Q : Option Value → xD → Prop} {a0 : Nat} {x1 : Int32} (k0 : xk a0 = 13) (h : xPf (d + 1) m_M_four 3 [(0, .ref a0), (1, .int x1), (2, .int (24 : Int32))] [] D Q) : xPf (d + 1) m_M_four 0 [(0, .ref a0), (1, .int x1)] [] D Q := by
  refine x_bipush (v := (24 : Int32)) rfl rfl ?_
  refine x_istore_n (i := 2) (L1 := [(2, .int (24 : Int32)), (0, .ref a0), (1, .int x1)]) rfl rfl (Nat.le_of_ble_eq_true rfl) rfl ?_
  exact xP_sub [1, 2, 0] rfl h
theorem s_M_four_3 {d : Nat} {D : xD} {Q : Option Value → xD → Prop} {a0 : Nat} {x1 : Int32} {x2 : Int32} (k0 : xk a0 = 13) (h : (x2 < 0 → Q none D) ∧ (¬ x2 < 0 → vp_in (0 : Int32) (xl (a0 + 2)) ∧ vp_in (D.1 (a0 + 2) ((0 : Int32) : Int32).toNatClampNeg) (xl (a0 + 1)) ∧ ∀ D1 : xD, D1 = (xu D.1 (a0 + 1) (D.1 (a0 + 2) ((0 : Int32) : Int32).toNatClampNeg : Int32).toNatClampNeg (vp_nar .byte ((x1 >>> (x2 &&& 31)).toInt8.toInt32)), D.2) → vp_in (0 : Int32) (xl (a0 + 2)) ∧ vp_in (0 : Int32) (xl (a0 + 2)) ∧ ∀ D2 : xD, D2 = (xu D1.1 (a0 + 2) ((0 : Int32) : Int32).toNatClampNeg ((D1.1 (a0 + 2) ((0 : Int32) : Int32).toNatClampNeg) + (1 : Int32)), D1.2) → xPf (d + 1) m_M_four 3 [(0, .ref a0), (1, .int x1), (2, .int (x2 + (-8 : Int32)))] [] D2 Q)) : xPf (d + 1) m_M_four 3 [(0, .ref a0), (1, .int x1), (2, .int x2)] [] D Q := by
  refine x_iload_n rfl rfl ?_
  refine x_if_lt (tgt := 38) rfl rfl (fun c => ?_) (fun c => ?_)
  · have h := h.1 c
    exact x_vret rfl rfl h
  · have h := h.2 c
    refine x_aload_n rfl rfl ?_
    refine x_gR lf_M_7 k0 rfl rfl ?_
    refine x_aload_n rfl rfl ?_
    refine x_gR lf_M_13 k0 rfl rfl ?_
    refine x_iconst (v := (0 : Int32)) rfl rfl ?_
    refine x_iald (ck_13_2 k0) (xlt (ck_13_2 k0) (by decide)) h.1 rfl ?_
    have h := h.2
    refine x_iload_n rfl rfl ?_
    refine x_iload_n rfl rfl ?_
    refine x_ishr rfl ?_
    refine x_i2b rfl ?_
    refine x_bastn (ck_13_1 k0) h.1 rfl (fun D1 eD1 => ?_)
    have h := h.2 D1 eD1
    refine x_aload_n rfl rfl ?_
    refine x_gR lf_M_13 k0 rfl rfl ?_
    refine x_iconst (v := (0 : Int32)) rfl rfl ?_
    refine x_dup2 rfl rfl rfl ?_
    refine x_iald (ck_13_2 k0) (xlt (ck_13_2 k0) (by decide)) h.1 rfl ?_
    have h := h.2
    refine x_iconst (v := (1 : Int32)) rfl rfl ?_
    refine x_iadd rfl ?_
    refine x_iastn (ck_13_2 k0) h.1 rfl (fun D2 eD2 => ?_)
    have h := h.2 D2 eD2
    refine x_iinc (i := 2) (v := x2 + (-8 : Int32)) (L1 := [(2, .int (x2 + (-8 : Int32))), (0, .ref a0), (1, .int x1)]) rfl rfl rfl (Nat.le_of_ble_eq_true rfl) rfl ?_
    refine x_goto (tgt := 3) rfl rfl ?_
    exact xP_sub [1, 2, 0] rfl h
theorem s_M_end_0 {d : Nat} {D : xD} {Q : Option Value → xD → Prop} {a0 : Nat} {x1 : Int32} (k0 : xk a0 = 13) (h : ∀ D1 : xD, D1 = (xu D.1 a0 0 (0 : Int32), D.2) → vp_in (0 : Int32) (xl (a0 + 2)) ∧ xCi d m_M_in [.int x1, .int (0 : Int32), .int (D1.1 (a0 + 2) ((0 : Int32) : Int32).toNatClampNeg)] D1 (fun r3 D2 => (¬ r3 = 0 → vp_in (0 : Int32) (xl (a0 + 2)) ∧ ∀ D4 : xD, D4 = (xu D2.1 (a0 + 2) ((0 : Int32) : Int32).toNatClampNeg x1, D2.2) → Q (some (.int x1)) D4) ∧ (r3 = 0 → Q (some (.int (-1 : Int32))) D2))) : xPf (d + 1) m_M_end 0 [(0, .ref a0), (1, .int x1)] [] D Q := by
  refine x_aload_n rfl rfl ?_
  refine x_iconst (v := (0 : Int32)) rfl rfl ?_
  refine x_pIn lp_M_139 nf_13_0 k0 rfl rfl (fun D1 eD1 => ?_)
  have h := h D1 eD1
  refine x_iload_n rfl rfl ?_
  refine x_iconst (v := (0 : Int32)) rfl rfl ?_
  refine x_aload_n rfl rfl ?_
  refine x_gR lf_M_13 k0 rfl rfl ?_
  refine x_iconst (v := (0 : Int32)) rfl rfl ?_
  refine x_iald (ck_13_2 k0) (xlt (ck_13_2 k0) (by decide)) h.1 rfl ?_
  have h := h.2
  refine x_si lm_M_147 sf_M_in rfl rfl (Nat.le_of_ble_eq_true rfl) rfl h (fun r3 D2 h => ?_)
  refine x_if_ne (tgt := 21) rfl rfl (fun c => ?_) (fun c => ?_)
  · have h := h.1 c
    refine x_aload_n rfl rfl ?_
    refine x_gR lf_M_13 k0 rfl rfl ?_
    refine x_iconst (v := (0 : Int32)) rfl rfl ?_
    refine x_iload_n rfl rfl ?_
    refine x_iastn (ck_13_2 k0) h.1 rfl (fun D4 eD4 => ?_)
    have h := h.2 D4 eD4
    refine x_iload_n rfl rfl ?_
    exact x_iret rfl rfl h
  · have h := h.2 c
    refine x_iconst (v := (-1 : Int32)) rfl rfl ?_
    exact x_iret rfl rfl h
theorem s_M_see_0 {d : Nat} {D : xD} {Q : Option Value → xD → Prop} {a0 : Nat} (k0 : xk a0 = 13) (h : ((D.1 a0 12) ≤ (D.1 a0 11) → Q (some (.int (-1 : Int32))) D) ∧ (¬ (D.1 a0 12) ≤ (D.1 a0 11) → vp_in (D.1 a0 11) (xl (a0 + 1)) ∧ Q (some (.int ((D.1 (a0 + 1) (D.1 a0 11 : Int32).toNatClampNeg) &&& (255 : Int32)))) D)) : xPf (d + 1) m_M_see 0 [(0, .ref a0)] [] D Q := by
  refine x_aload_n rfl rfl ?_
  refine x_gI lf_M_155 k0 rfl rfl ?_
  refine x_aload_n rfl rfl ?_
  refine x_gI lf_M_158 k0 rfl rfl ?_
  refine x_icmp_ge (tgt := 27) rfl rfl (fun c => ?_) (fun c => ?_)
  · have h := h.1 c
    refine x_iconst (v := (-1 : Int32)) rfl rfl ?_
    exact x_iret rfl rfl h
  · have h := h.2 c
    refine x_aload_n rfl rfl ?_
    refine x_gR lf_M_7 k0 rfl rfl ?_
    refine x_aload_n rfl rfl ?_
    refine x_gI lf_M_155 k0 rfl rfl ?_
    refine x_bald (ck_13_1 k0) (xlt (ck_13_1 k0) (by decide)) h.1 rfl ?_
    have h := h.2
    refine x_sipush (v := (255 : Int32)) rfl rfl ?_
    refine x_iand rfl ?_
    refine x_goto (tgt := 28) rfl rfl ?_
    exact x_iret rfl rfl h
theorem s_M_token_0 {d : Nat} {D : xD} {Q : Option Value → xD → Prop} {a0 : Nat} (k0 : xk a0 = 13) (h : xCi d m_M_see [.ref a0] D (fun r2 D1 => (r2 = (10 : Int32) → ∀ D3 : xD, D3 = (xu D1.1 a0 11 ((D1.1 a0 11) + (1 : Int32)), D1.2) → xPf (d + 1) m_M_token 0 [(0, .ref a0)] [] D3 Q) ∧ (¬ r2 = (10 : Int32) → xCi d m_M_see [.ref a0] D1 (fun r5 D4 => (¬ r5 = (32 : Int32) → ∀ D6 : xD, D6 = (xu D4.1 a0 13 (D4.1 a0 11), D4.2) → xCi d m_M_see [.ref a0] D6 (fun r8 D7 => ∀ D9 : xD, D9 = (D7.1, xuL D7.2 a0 16 (0 : Int64)) → (0 ≤ r8 → xCi d m_M_in [.int r8, .int (97 : Int32), .int (122 : Int32)] D9 (fun r11 D10 => (r11 = 0 → xCi d m_M_in [.int r8, .int (48 : Int32), .int (57 : Int32)] D10 (fun r13 D12 => (r13 = 0 → ∀ D14 : xD, D14 = (xu D12.1 a0 11 ((D12.1 a0 11) + (1 : Int32)), D12.2) → (¬ r8 = (59 : Int32) → ∀ D15 : xD, D15 = (xu D14.1 a0 14 (1 : Int32), D14.2) → Q none D15) ∧ (r8 = (59 : Int32) → ∀ D16 : xD, D16 = (xu D14.1 a0 14 (4 : Int32), D14.2) → Q none D16)) ∧ (¬ r13 = 0 → ∀ D17 : xD, D17 = (xu D12.1 a0 15 (0 : Int32), D12.2) → xPf (d + 1) m_M_token 163 [(0, .ref a0), (1, .int r8), (2, .int (0 : Int32))] [] D17 Q))) ∧ (¬ r11 = 0 → xPf (d + 1) m_M_token 74 [(0, .ref a0), (1, .int r8), (2, .int (0 : Int32))] [] D10 Q))) ∧ (¬ 0 ≤ r8 → ∀ D18 : xD, D18 = (xu D9.1 a0 14 (0 : Int32), D9.2) → Q none D18))) ∧ (r5 = (32 : Int32) → ∀ D19 : xD, D19 = (xu D4.1 a0 11 ((D4.1 a0 11) + (1 : Int32)), D4.2) → xPf (d + 1) m_M_token 0 [(0, .ref a0)] [] D19 Q))))) : xPf (d + 1) m_M_token 0 [(0, .ref a0)] [] D Q := by
  refine x_aload_n rfl rfl ?_
  refine x_vi lm_M_161 vf_M_see k0 rfl rfl (Nat.le_of_ble_eq_true rfl) rfl h (fun r2 D1 h => ?_)
  refine x_bipush (v := (10 : Int32)) rfl rfl ?_
  refine x_icmp_eq (tgt := 18) rfl rfl (fun c => ?_) (fun c => ?_)
  · have h := h.1 c
    refine x_aload_n rfl rfl ?_
    refine x_dup rfl rfl ?_
    refine x_gI lf_M_155 k0 rfl rfl ?_
    refine x_iconst (v := (1 : Int32)) rfl rfl ?_
    refine x_iadd rfl ?_
    refine x_pIn lp_M_155 nf_13_11 k0 rfl rfl (fun D3 eD3 => ?_)
    have h := h D3 eD3
    refine x_goto (tgt := 0) rfl rfl ?_
    exact h
  · have h := h.2 c
    refine x_aload_n rfl rfl ?_
    refine x_vi lm_M_161 vf_M_see k0 rfl rfl (Nat.le_of_ble_eq_true rfl) rfl h (fun r5 D4 h => ?_)
    refine x_bipush (v := (32 : Int32)) rfl rfl ?_
    refine x_icmp_ne (tgt := 31) rfl rfl (fun c => ?_) (fun c => ?_)
    · have h := h.1 c
      refine x_aload_n rfl rfl ?_
      refine x_aload_n rfl rfl ?_
      refine x_gI lf_M_155 k0 rfl rfl ?_
      refine x_pIn lp_M_165 nf_13_13 k0 rfl rfl (fun D6 eD6 => ?_)
      have h := h D6 eD6
      refine x_aload_n rfl rfl ?_
      refine x_vi lm_M_161 vf_M_see k0 rfl rfl (Nat.le_of_ble_eq_true rfl) rfl h (fun r8 D7 h => ?_)
      refine x_istore_n (i := 1) (L1 := [(1, .int r8), (0, .ref a0)]) rfl rfl (Nat.le_of_ble_eq_true rfl) rfl ?_
      refine x_aload_n rfl rfl ?_
      refine x_lconst (v := 0) rfl rfl ?_
      refine x_pLn lp_M_168 nf_13_16 k0 rfl rfl (fun D9 eD9 => ?_)
      have h := h D9 eD9
      refine x_iconst (v := (0 : Int32)) rfl rfl ?_
      refine x_istore_n (i := 2) (L1 := [(2, .int (0 : Int32)), (1, .int r8), (0, .ref a0)]) rfl rfl (Nat.le_of_ble_eq_true rfl) rfl ?_
      refine x_iload_n rfl rfl ?_
      refine x_if_ge (tgt := 63) rfl rfl (fun c => ?_) (fun c => ?_)
      · have h := h.1 c
        refine x_iload_n rfl rfl ?_
        refine x_bipush (v := (97 : Int32)) rfl rfl ?_
        refine x_bipush (v := (122 : Int32)) rfl rfl ?_
        refine x_si lm_M_147 sf_M_in rfl rfl (Nat.le_of_ble_eq_true rfl) rfl h (fun r11 D10 h => ?_)
        refine x_if_eq (tgt := 147) rfl rfl (fun c => ?_) (fun c => ?_)
        · have h := h.1 c
          refine x_iload_n rfl rfl ?_
          refine x_bipush (v := (48 : Int32)) rfl rfl ?_
          refine x_bipush (v := (57 : Int32)) rfl rfl ?_
          refine x_si lm_M_147 sf_M_in rfl rfl (Nat.le_of_ble_eq_true rfl) rfl h (fun r13 D12 h => ?_)
          refine x_if_eq (tgt := 241) rfl rfl (fun c => ?_) (fun c => ?_)
          · have h := h.1 c
            refine x_aload_n rfl rfl ?_
            refine x_dup rfl rfl ?_
            refine x_gI lf_M_155 k0 rfl rfl ?_
            refine x_iconst (v := (1 : Int32)) rfl rfl ?_
            refine x_iadd rfl ?_
            refine x_pIn lp_M_155 nf_13_11 k0 rfl rfl (fun D14 eD14 => ?_)
            have h := h D14 eD14
            refine x_aload_n rfl rfl ?_
            refine x_iload_n rfl rfl ?_
            refine x_bipush (v := (59 : Int32)) rfl rfl ?_
            refine x_icmp_ne (tgt := 262) rfl rfl (fun c => ?_) (fun c => ?_)
            · have h := h.1 c
              refine x_iconst (v := (1 : Int32)) rfl rfl ?_
              refine x_pIn lp_M_172 nf_13_14 k0 rfl rfl (fun D15 eD15 => ?_)
              have h := h D15 eD15
              exact x_vret rfl rfl h
            · have h := h.2 c
              refine x_iconst (v := (4 : Int32)) rfl rfl ?_
              refine x_goto (tgt := 263) rfl rfl ?_
              refine x_pIn lp_M_172 nf_13_14 k0 rfl rfl (fun D16 eD16 => ?_)
              have h := h D16 eD16
              exact x_vret rfl rfl h
          · have h := h.2 c
            refine x_aload_n rfl rfl ?_
            refine x_iconst (v := (0 : Int32)) rfl rfl ?_
            refine x_pIn lp_M_175 nf_13_15 k0 rfl rfl (fun D17 eD17 => ?_)
            have h := h D17 eD17
            exact xP_sub [2, 1, 0] rfl h
        · have h := h.2 c
          exact xP_sub [2, 1, 0] rfl h
      · have h := h.2 c
        refine x_aload_n rfl rfl ?_
        refine x_iconst (v := (0 : Int32)) rfl rfl ?_
        refine x_pIn lp_M_172 nf_13_14 k0 rfl rfl (fun D18 eD18 => ?_)
        have h := h D18 eD18
        refine x_goto (tgt := 266) rfl rfl ?_
        exact x_vret rfl rfl h
    · have h := h.2 c
      refine x_aload_n rfl rfl ?_
      refine x_dup rfl rfl ?_
      refine x_gI lf_M_155 k0 rfl rfl ?_
      refine x_iconst (v := (1 : Int32)) rfl rfl ?_
      refine x_iadd rfl ?_
      refine x_pIn lp_M_155 nf_13_11 k0 rfl rfl (fun D19 eD19 => ?_)
      have h := h D19 eD19
      refine x_goto (tgt := 0) rfl rfl ?_
      exact h
theorem s_M_token_74 {d : Nat} {D : xD} {Q : Option Value → xD → Prop} {a0 : Nat} {x1 : Int32} {x2 : Int32} (k0 : xk a0 = 13) (h : xCi d m_M_see [.ref a0] D (fun r2 D1 => xCi d m_M_in [.int r2, .int (97 : Int32), .int (122 : Int32)] D1 (fun r4 D3 => (r4 = 0 → (x2 ≤ (8 : Int32) → ∀ D5 : xD, D5 = (D3.1, xuL D3.2 a0 16 (D3.2 a0 16)) → ∀ D6 : xD, D6 = (xu D5.1 a0 14 (2 : Int32), D5.2) → Q none D6) ∧ (¬ x2 ≤ (8 : Int32) → ∀ D7 : xD, D7 = (D3.1, xuL D3.2 a0 16 (0 : Int64)) → ∀ D8 : xD, D8 = (xu D7.1 a0 14 (2 : Int32), D7.2) → Q none D8)) ∧ (¬ r4 = 0 → xCi d m_M_see [.ref a0] D3 (fun r10 D9 => ∀ D11 : xD, D11 = (D9.1, xuL D9.2 a0 16 (((D3.2 a0 16) <<< ((8 : Int32).toInt64 &&& 63)) ||| r10.toInt64)) → ∀ D12 : xD, D12 = (xu D11.1 a0 11 ((D11.1 a0 11) + (1 : Int32)), D11.2) → xPf (d + 1) m_M_token 74 [(0, .ref a0), (1, .int x1), (2, .int (x2 + (1 : Int32)))] [] D12 Q))))) : xPf (d + 1) m_M_token 74 [(0, .ref a0), (1, .int x1), (2, .int x2)] [] D Q := by
  refine x_aload_n rfl rfl ?_
  refine x_vi lm_M_161 vf_M_see k0 rfl rfl (Nat.le_of_ble_eq_true rfl) rfl h (fun r2 D1 h => ?_)
  refine x_bipush (v := (97 : Int32)) rfl rfl ?_
  refine x_bipush (v := (122 : Int32)) rfl rfl ?_
  refine x_si lm_M_147 sf_M_in rfl rfl (Nat.le_of_ble_eq_true rfl) rfl h (fun r4 D3 h => ?_)
  refine x_if_eq (tgt := 121) rfl rfl (fun c => ?_) (fun c => ?_)
  · have h := h.1 c
    refine x_aload_n rfl rfl ?_
    refine x_iload_n rfl rfl ?_
    refine x_bipush (v := (8 : Int32)) rfl rfl ?_
    refine x_icmp_le (tgt := 132) rfl rfl (fun c => ?_) (fun c => ?_)
    · have h := h.1 c
      refine x_aload_n rfl rfl ?_
      refine x_gL lf_M_168 k0 rfl rfl ?_
      refine x_pLn lp_M_168 nf_13_16 k0 rfl rfl (fun D5 eD5 => ?_)
      have h := h D5 eD5
      refine x_aload_n rfl rfl ?_
      refine x_iconst (v := (2 : Int32)) rfl rfl ?_
      refine x_pIn lp_M_172 nf_13_14 k0 rfl rfl (fun D6 eD6 => ?_)
      have h := h D6 eD6
      refine x_goto (tgt := 266) rfl rfl ?_
      exact x_vret rfl rfl h
    · have h := h.2 c
      refine x_lconst (v := 0) rfl rfl ?_
      refine x_goto (tgt := 136) rfl rfl ?_
      refine x_pLn lp_M_168 nf_13_16 k0 rfl rfl (fun D7 eD7 => ?_)
      have h := h D7 eD7
      refine x_aload_n rfl rfl ?_
      refine x_iconst (v := (2 : Int32)) rfl rfl ?_
      refine x_pIn lp_M_172 nf_13_14 k0 rfl rfl (fun D8 eD8 => ?_)
      have h := h D8 eD8
      refine x_goto (tgt := 266) rfl rfl ?_
      exact x_vret rfl rfl h
  · have h := h.2 c
    refine x_aload_n rfl rfl ?_
    refine x_aload_n rfl rfl ?_
    refine x_gL lf_M_168 k0 rfl rfl ?_
    refine x_bipush (v := (8 : Int32)) rfl rfl ?_
    refine x_lshl rfl ?_
    refine x_aload_n rfl rfl ?_
    refine x_vi lm_M_161 vf_M_see k0 rfl rfl (Nat.le_of_ble_eq_true rfl) rfl h (fun r10 D9 h => ?_)
    refine x_i2l rfl ?_
    refine x_lor rfl ?_
    refine x_pLn lp_M_168 nf_13_16 k0 rfl rfl (fun D11 eD11 => ?_)
    have h := h D11 eD11
    refine x_aload_n rfl rfl ?_
    refine x_dup rfl rfl ?_
    refine x_gI lf_M_155 k0 rfl rfl ?_
    refine x_iconst (v := (1 : Int32)) rfl rfl ?_
    refine x_iadd rfl ?_
    refine x_pIn lp_M_155 nf_13_11 k0 rfl rfl (fun D12 eD12 => ?_)
    have h := h D12 eD12
    refine x_iinc (i := 2) (v := x2 + (1 : Int32)) (L1 := [(2, .int (x2 + (1 : Int32))), (0, .ref a0), (1, .int x1)]) rfl rfl rfl (Nat.le_of_ble_eq_true rfl) rfl ?_
    refine x_goto (tgt := 74) rfl rfl ?_
    exact xP_sub [1, 2, 0] rfl h
theorem s_M_token_163 {d : Nat} {D : xD} {Q : Option Value → xD → Prop} {a0 : Nat} {x1 : Int32} {x2 : Int32} (k0 : xk a0 = 13) (h : xCi d m_M_see [.ref a0] D (fun r2 D1 => xCi d m_M_in [.int r2, .int (48 : Int32), .int (57 : Int32)] D1 (fun r4 D3 => (r4 = 0 → (x2 ≤ (2 : Int32) → ∀ D5 : xD, D5 = (xu D3.1 a0 14 (3 : Int32), D3.2) → Q none D5) ∧ (¬ x2 ≤ (2 : Int32) → ∀ D6 : xD, D6 = (xu D3.1 a0 14 (1 : Int32), D3.2) → Q none D6)) ∧ (¬ r4 = 0 → ((2 : Int32) ≤ x2 → ∀ D7 : xD, D7 = (xu D3.1 a0 15 (D3.1 a0 15), D3.2) → ∀ D8 : xD, D8 = (xu D7.1 a0 11 ((D7.1 a0 11) + (1 : Int32)), D7.2) → xPf (d + 1) m_M_token 163 [(0, .ref a0), (1, .int x1), (2, .int (x2 + (1 : Int32)))] [] D8 Q) ∧ (¬ (2 : Int32) ≤ x2 → xCi d m_M_see [.ref a0] D3 (fun r10 D9 => ∀ D11 : xD, D11 = (xu D9.1 a0 15 ((((10 : Int32) * (D3.1 a0 15)) + r10) - (48 : Int32)), D9.2) → ∀ D12 : xD, D12 = (xu D11.1 a0 11 ((D11.1 a0 11) + (1 : Int32)), D11.2) → xPf (d + 1) m_M_token 163 [(0, .ref a0), (1, .int x1), (2, .int (x2 + (1 : Int32)))] [] D12 Q)))))) : xPf (d + 1) m_M_token 163 [(0, .ref a0), (1, .int x1), (2, .int x2)] [] D Q := by
  refine x_aload_n rfl rfl ?_
  refine x_vi lm_M_161 vf_M_see k0 rfl rfl (Nat.le_of_ble_eq_true rfl) rfl h (fun r2 D1 h => ?_)
  refine x_bipush (v := (48 : Int32)) rfl rfl ?_
  refine x_bipush (v := (57 : Int32)) rfl rfl ?_
  refine x_si lm_M_147 sf_M_in rfl rfl (Nat.le_of_ble_eq_true rfl) rfl h (fun r4 D3 h => ?_)
  refine x_if_eq (tgt := 224) rfl rfl (fun c => ?_) (fun c => ?_)
  · have h := h.1 c
    refine x_aload_n rfl rfl ?_
    refine x_iload_n rfl rfl ?_
    refine x_iconst (v := (2 : Int32)) rfl rfl ?_
    refine x_icmp_le (tgt := 234) rfl rfl (fun c => ?_) (fun c => ?_)
    · have h := h.1 c
      refine x_iconst (v := (3 : Int32)) rfl rfl ?_
      refine x_pIn lp_M_172 nf_13_14 k0 rfl rfl (fun D5 eD5 => ?_)
      have h := h D5 eD5
      refine x_goto (tgt := 266) rfl rfl ?_
      exact x_vret rfl rfl h
    · have h := h.2 c
      refine x_iconst (v := (1 : Int32)) rfl rfl ?_
      refine x_goto (tgt := 235) rfl rfl ?_
      refine x_pIn lp_M_172 nf_13_14 k0 rfl rfl (fun D6 eD6 => ?_)
      have h := h D6 eD6
      refine x_goto (tgt := 266) rfl rfl ?_
      exact x_vret rfl rfl h
  · have h := h.2 c
    refine x_aload_n rfl rfl ?_
    refine x_iload_n rfl rfl ?_
    refine x_iconst (v := (2 : Int32)) rfl rfl ?_
    refine x_icmp_ge (tgt := 201) rfl rfl (fun c => ?_) (fun c => ?_)
    · have h := h.1 c
      refine x_aload_n rfl rfl ?_
      refine x_gI lf_M_175 k0 rfl rfl ?_
      refine x_pIn lp_M_175 nf_13_15 k0 rfl rfl (fun D7 eD7 => ?_)
      have h := h D7 eD7
      refine x_aload_n rfl rfl ?_
      refine x_dup rfl rfl ?_
      refine x_gI lf_M_155 k0 rfl rfl ?_
      refine x_iconst (v := (1 : Int32)) rfl rfl ?_
      refine x_iadd rfl ?_
      refine x_pIn lp_M_155 nf_13_11 k0 rfl rfl (fun D8 eD8 => ?_)
      have h := h D8 eD8
      refine x_iinc (i := 2) (v := x2 + (1 : Int32)) (L1 := [(2, .int (x2 + (1 : Int32))), (0, .ref a0), (1, .int x1)]) rfl rfl rfl (Nat.le_of_ble_eq_true rfl) rfl ?_
      refine x_goto (tgt := 163) rfl rfl ?_
      exact xP_sub [1, 2, 0] rfl h
    · have h := h.2 c
      refine x_bipush (v := (10 : Int32)) rfl rfl ?_
      refine x_aload_n rfl rfl ?_
      refine x_gI lf_M_175 k0 rfl rfl ?_
      refine x_imul rfl ?_
      refine x_aload_n rfl rfl ?_
      refine x_vi lm_M_161 vf_M_see k0 rfl rfl (Nat.le_of_ble_eq_true rfl) rfl h (fun r10 D9 h => ?_)
      refine x_iadd rfl ?_
      refine x_bipush (v := (48 : Int32)) rfl rfl ?_
      refine x_isub rfl ?_
      refine x_goto (tgt := 205) rfl rfl ?_
      refine x_pIn lp_M_175 nf_13_15 k0 rfl rfl (fun D11 eD11 => ?_)
      have h := h D11 eD11
      refine x_aload_n rfl rfl ?_
      refine x_dup rfl rfl ?_
      refine x_gI lf_M_155 k0 rfl rfl ?_
      refine x_iconst (v := (1 : Int32)) rfl rfl ?_
      refine x_iadd rfl ?_
      refine x_pIn lp_M_155 nf_13_11 k0 rfl rfl (fun D12 eD12 => ?_)
      have h := h D12 eD12
      refine x_iinc (i := 2) (v := x2 + (1 : Int32)) (L1 := [(2, .int (x2 + (1 : Int32))), (0, .ref a0), (1, .int x1)]) rfl rfl rfl (Nat.le_of_ble_eq_true rfl) rfl ?_
      refine x_goto (tgt := 163) rfl rfl ?_
      exact xP_sub [1, 2, 0] rfl h
theorem s_M_fails_0 {d : Nat} {D : xD} {Q : Option Value → xD → Prop} {a0 : Nat} (k0 : xk a0 = 13) (h : ∀ D1 : xD, D1 = (xu D.1 a0 17 (D.1 a0 13), D.2) → Q (some (.int (0 : Int32))) D1) : xPf (d + 1) m_M_fails 0 [(0, .ref a0)] [] D Q := by
  refine x_aload_n rfl rfl ?_
  refine x_aload_n rfl rfl ?_
  refine x_gI lf_M_165 k0 rfl rfl ?_
  refine x_pIn lp_M_178 nf_13_17 k0 rfl rfl (fun D1 eD1 => ?_)
  have h := h D1 eD1
  refine x_iconst (v := (0 : Int32)) rfl rfl ?_
  exact x_zr rfl (Or.inl rfl) rfl h
theorem s_M_later_0 {d : Nat} {D : xD} {Q : Option Value → xD → Prop} {a0 : Nat} {x1 : Int32} {x2 : Int32} (k0 : xk a0 = 13) (h : ((D.1 a0 18) = 0 → ∀ D1 : xD, D1 = (xu D.1 a0 18 x1, D.2) → ∀ D2 : xD, D2 = (xu D1.1 a0 19 x2, D1.2) → Q none D2) ∧ (¬ (D.1 a0 18) = 0 → (x2 < (D.1 a0 19) → ∀ D3 : xD, D3 = (xu D.1 a0 18 x1, D.2) → ∀ D4 : xD, D4 = (xu D3.1 a0 19 x2, D3.2) → Q none D4) ∧ (¬ x2 < (D.1 a0 19) → (¬ x2 = (D.1 a0 19) → Q none D) ∧ (x2 = (D.1 a0 19) → ((D.1 a0 18) ≤ x1 → Q none D) ∧ (¬ (D.1 a0 18) ≤ x1 → ∀ D5 : xD, D5 = (xu D.1 a0 18 x1, D.2) → ∀ D6 : xD, D6 = (xu D5.1 a0 19 x2, D5.2) → Q none D6))))) : xPf (d + 1) m_M_later 0 [(0, .ref a0), (1, .int x1), (2, .int x2)] [] D Q := by
  refine x_aload_n rfl rfl ?_
  refine x_gI lf_M_181 k0 rfl rfl ?_
  refine x_if_eq (tgt := 31) rfl rfl (fun c => ?_) (fun c => ?_)
  · have h := h.1 c
    refine x_aload_n rfl rfl ?_
    refine x_iload_n rfl rfl ?_
    refine x_pIn lp_M_181 nf_13_18 k0 rfl rfl (fun D1 eD1 => ?_)
    have h := h D1 eD1
    refine x_aload_n rfl rfl ?_
    refine x_iload_n rfl rfl ?_
    refine x_pIn lp_M_184 nf_13_19 k0 rfl rfl (fun D2 eD2 => ?_)
    have h := h D2 eD2
    exact x_vret rfl rfl h
  · have h := h.2 c
    refine x_iload_n rfl rfl ?_
    refine x_aload_n rfl rfl ?_
    refine x_gI lf_M_184 k0 rfl rfl ?_
    refine x_icmp_lt (tgt := 31) rfl rfl (fun c => ?_) (fun c => ?_)
    · have h := h.1 c
      refine x_aload_n rfl rfl ?_
      refine x_iload_n rfl rfl ?_
      refine x_pIn lp_M_181 nf_13_18 k0 rfl rfl (fun D3 eD3 => ?_)
      have h := h D3 eD3
      refine x_aload_n rfl rfl ?_
      refine x_iload_n rfl rfl ?_
      refine x_pIn lp_M_184 nf_13_19 k0 rfl rfl (fun D4 eD4 => ?_)
      have h := h D4 eD4
      exact x_vret rfl rfl h
    · have h := h.2 c
      refine x_iload_n rfl rfl ?_
      refine x_aload_n rfl rfl ?_
      refine x_gI lf_M_184 k0 rfl rfl ?_
      refine x_icmp_ne (tgt := 41) rfl rfl (fun c => ?_) (fun c => ?_)
      · have h := h.1 c
        exact x_vret rfl rfl h
      · have h := h.2 c
        refine x_iload_n rfl rfl ?_
        refine x_aload_n rfl rfl ?_
        refine x_gI lf_M_181 k0 rfl rfl ?_
        refine x_icmp_ge (tgt := 41) rfl rfl (fun c => ?_) (fun c => ?_)
        · have h := h.1 c
          exact x_vret rfl rfl h
        · have h := h.2 c
          refine x_aload_n rfl rfl ?_
          refine x_iload_n rfl rfl ?_
          refine x_pIn lp_M_181 nf_13_18 k0 rfl rfl (fun D5 eD5 => ?_)
          have h := h D5 eD5
          refine x_aload_n rfl rfl ?_
          refine x_iload_n rfl rfl ?_
          refine x_pIn lp_M_184 nf_13_19 k0 rfl rfl (fun D6 eD6 => ?_)
          have h := h D6 eD6
          exact x_vret rfl rfl h
theorem s_M_bad_0 {d : Nat} {D : xD} {Q : Option Value → xD → Prop} {a0 : Nat} {x1 : Int32} (k0 : xk a0 = 13) (h : xCv d m_M_later [.ref a0, .int (2 : Int32), .int x1] D (fun D1 => ∀ D2 : xD, D2 = (xu D1.1 a0 25 (0 : Int32), D1.2) → Q none D2)) : xPf (d + 1) m_M_bad 0 [(0, .ref a0), (1, .int x1)] [] D Q := by
  refine x_aload_n rfl rfl ?_
  refine x_iconst (v := (2 : Int32)) rfl rfl ?_
  refine x_iload_n rfl rfl ?_
  refine x_vv lm_M_187 vf_M_later k0 rfl rfl (Nat.le_of_ble_eq_true rfl) rfl h (fun D1 h => ?_)
  refine x_aload_n rfl rfl ?_
  refine x_iconst (v := (0 : Int32)) rfl rfl ?_
  refine x_pZn lp_M_191 nf_13_25 k0 rfl (Or.inl rfl) rfl (fun D2 eD2 => ?_)
  have h := h D2 eD2
  exact x_vret rfl rfl h
theorem s_M_take_0 {d : Nat} {D : xD} {Q : Option Value → xD → Prop} {a0 : Nat} {x1 : Int32} {x2 : Int32} {x3 : Int32} (k0 : xk a0 = 13) (h : ((D.1 a0 14) = (3 : Int32) → vp_in x1 (xl (a0 + 12)) ∧ ∀ D1 : xD, D1 = (xu D.1 (a0 + 12) (x1 : Int32).toNatClampNeg (D.1 a0 15), D.2) → xCi d m_M_in [.int (D1.1 a0 15), .int x2, .int x3] D1 (fun r3 D2 => (¬ r3 = 0 → xCv d m_M_token [.ref a0] D2 (fun D4 => Q (some (.int (1 : Int32))) D4)) ∧ (r3 = 0 → xCv d m_M_bad [.ref a0, .int (D2.1 a0 13)] D2 (fun D5 => xCv d m_M_token [.ref a0] D5 (fun D6 => Q (some (.int (1 : Int32))) D6))))) ∧ (¬ (D.1 a0 14) = (3 : Int32) → xCi d m_M_fails [.ref a0] D (fun r8 D7 => (r8 = 0 ∨ r8 = 1) ∧ Q (some (.int r8)) D7))) : xPf (d + 1) m_M_take 0 [(0, .ref a0), (1, .int x1), (2, .int x2), (3, .int x3)] [] D Q := by
  refine x_aload_n rfl rfl ?_
  refine x_gI lf_M_172 k0 rfl rfl ?_
  refine x_iconst (v := (3 : Int32)) rfl rfl ?_
  refine x_icmp_eq (tgt := 13) rfl rfl (fun c => ?_) (fun c => ?_)
  · have h := h.1 c
    refine x_aload_n rfl rfl ?_
    refine x_gR lf_M_44 k0 rfl rfl ?_
    refine x_iload_n rfl rfl ?_
    refine x_aload_n rfl rfl ?_
    refine x_gI lf_M_175 k0 rfl rfl ?_
    refine x_iastn (ck_13_21 k0) h.1 rfl (fun D1 eD1 => ?_)
    have h := h.2 D1 eD1
    refine x_aload_n rfl rfl ?_
    refine x_gI lf_M_175 k0 rfl rfl ?_
    refine x_iload_n rfl rfl ?_
    refine x_iload_n rfl rfl ?_
    refine x_si lm_M_147 sf_M_in rfl rfl (Nat.le_of_ble_eq_true rfl) rfl h (fun r3 D2 h => ?_)
    refine x_if_ne (tgt := 43) rfl rfl (fun c => ?_) (fun c => ?_)
    · have h := h.1 c
      refine x_aload_n rfl rfl ?_
      refine x_vv lm_M_202 vf_M_token k0 rfl rfl (Nat.le_of_ble_eq_true rfl) rfl h (fun D4 h => ?_)
      refine x_iconst (v := (1 : Int32)) rfl rfl ?_
      exact x_zr rfl (Or.inr rfl) rfl h
    · have h := h.2 c
      refine x_aload_n rfl rfl ?_
      refine x_aload_n rfl rfl ?_
      refine x_gI lf_M_165 k0 rfl rfl ?_
      refine x_vv lm_M_199 vf_M_bad k0 rfl rfl (Nat.le_of_ble_eq_true rfl) rfl h (fun D5 h => ?_)
      refine x_aload_n rfl rfl ?_
      refine x_vv lm_M_202 vf_M_token k0 rfl rfl (Nat.le_of_ble_eq_true rfl) rfl h (fun D6 h => ?_)
      refine x_iconst (v := (1 : Int32)) rfl rfl ?_
      exact x_zr rfl (Or.inr rfl) rfl h
  · have h := h.2 c
    refine x_aload_n rfl rfl ?_
    refine x_vi lm_M_195 vf_M_fails k0 rfl rfl (Nat.le_of_ble_eq_true rfl) rfl h (fun r8 D7 h => ?_)
    exact x_zr rfl h.1 rfl h.2
theorem s_M_full_0 {d : Nat} {D : xD} {Q : Option Value → xD → Prop} {a0 : Nat} {x1 : Int32} {x2 : Int32} {x3 : Int32} (k0 : xk a0 = 13) (h : vp_in x1 (xl (a0 + 11)) ∧ (¬ (D.1 (a0 + 11) (x1 : Int32).toNatClampNeg) = x2 → Q none D) ∧ ((D.1 (a0 + 11) (x1 : Int32).toNatClampNeg) = x2 → xCv d m_M_later [.ref a0, .int (3 : Int32), .int x3] D (fun D1 => Q none D1))) : xPf (d + 1) m_M_full 0 [(0, .ref a0), (1, .int x1), (2, .int x2), (3, .int x3)] [] D Q := by
  refine x_aload_n rfl rfl ?_
  refine x_gR lf_M_41 k0 rfl rfl ?_
  refine x_iload_n rfl rfl ?_
  refine x_iald (ck_13_20 k0) (xlt (ck_13_20 k0) (by decide)) h.1 rfl ?_
  have h := h.2
  refine x_iload_n rfl rfl ?_
  refine x_icmp_ne (tgt := 16) rfl rfl (fun c => ?_) (fun c => ?_)
  · have h := h.1 c
    exact x_vret rfl rfl h
  · have h := h.2 c
    refine x_aload_n rfl rfl ?_
    refine x_iconst (v := (3 : Int32)) rfl rfl ?_
    refine x_iload_n rfl rfl ?_
    refine x_vv lm_M_187 vf_M_later k0 rfl rfl (Nat.le_of_ble_eq_true rfl) rfl h (fun D1 h => ?_)
    exact x_vret rfl rfl h
theorem s_M_lawLine_0 {d : Nat} {D : xD} {Q : Option Value → xD → Prop} {a0 : Nat} (k0 : xk a0 = 13) (h : xCi d m_M_take [.ref a0, .int (0 : Int32), .int (0 : Int32), .int (5 : Int32)] D (fun r2 D1 => (¬ r2 = 0 → vp_in (0 : Int32) (xl (a0 + 12)) ∧ xCi d m_M_greater [.int (D1.1 a0 22), .int (D1.1 (a0 + 12) ((0 : Int32) : Int32).toNatClampNeg)] D1 (fun r4 D3 => ∀ D5 : xD, D5 = (xu D3.1 a0 22 r4, D3.2) → (¬ (D5.1 a0 14) = (2 : Int32) → (¬ (lg_cmp (0 : Int64) (1836020596 : Int64)) = 0 → (¬ (lg_cmp (0 : Int64) (6383981 : Int64)) = 0 → (¬ (lg_cmp (0 : Int64) (1801807216 : Int64)) = 0 → (¬ (lg_cmp (0 : Int64) (474148660594 : Int64)) = 0 → xPf (d + 1) m_M_lawLine 95 [(0, .ref a0), (1, .long (0 : Int64))] [.int (-1 : Int32)] D5 Q) ∧ ((lg_cmp (0 : Int64) (474148660594 : Int64)) = 0 → xPf (d + 1) m_M_lawLine 95 [(0, .ref a0), (1, .long (0 : Int64))] [.int (3 : Int32)] D5 Q)) ∧ ((lg_cmp (0 : Int64) (1801807216 : Int64)) = 0 → xPf (d + 1) m_M_lawLine 95 [(0, .ref a0), (1, .long (0 : Int64))] [.int (2 : Int32)] D5 Q)) ∧ ((lg_cmp (0 : Int64) (6383981 : Int64)) = 0 → xPf (d + 1) m_M_lawLine 95 [(0, .ref a0), (1, .long (0 : Int64))] [.int (1 : Int32)] D5 Q)) ∧ ((lg_cmp (0 : Int64) (1836020596 : Int64)) = 0 → xPf (d + 1) m_M_lawLine 95 [(0, .ref a0), (1, .long (0 : Int64))] [.int (0 : Int32)] D5 Q)) ∧ ((D5.1 a0 14) = (2 : Int32) → (¬ (lg_cmp (D5.2 a0 16) (1836020596 : Int64)) = 0 → (¬ (lg_cmp (D5.2 a0 16) (6383981 : Int64)) = 0 → (¬ (lg_cmp (D5.2 a0 16) (1801807216 : Int64)) = 0 → (¬ (lg_cmp (D5.2 a0 16) (474148660594 : Int64)) = 0 → xPf (d + 1) m_M_lawLine 95 [(0, .ref a0), (1, .long (D5.2 a0 16))] [.int (-1 : Int32)] D5 Q) ∧ ((lg_cmp (D5.2 a0 16) (474148660594 : Int64)) = 0 → xPf (d + 1) m_M_lawLine 95 [(0, .ref a0), (1, .long (D5.2 a0 16))] [.int (3 : Int32)] D5 Q)) ∧ ((lg_cmp (D5.2 a0 16) (1801807216 : Int64)) = 0 → xPf (d + 1) m_M_lawLine 95 [(0, .ref a0), (1, .long (D5.2 a0 16))] [.int (2 : Int32)] D5 Q)) ∧ ((lg_cmp (D5.2 a0 16) (6383981 : Int64)) = 0 → xPf (d + 1) m_M_lawLine 95 [(0, .ref a0), (1, .long (D5.2 a0 16))] [.int (1 : Int32)] D5 Q)) ∧ ((lg_cmp (D5.2 a0 16) (1836020596 : Int64)) = 0 → xPf (d + 1) m_M_lawLine 95 [(0, .ref a0), (1, .long (D5.2 a0 16))] [.int (0 : Int32)] D5 Q)))) ∧ (r2 = 0 → Q (some (.int (0 : Int32))) D1))) : xPf (d + 1) m_M_lawLine 0 [(0, .ref a0)] [] D Q := by
  refine x_aload_n rfl rfl ?_
  refine x_iconst (v := (0 : Int32)) rfl rfl ?_
  refine x_iconst (v := (0 : Int32)) rfl rfl ?_
  refine x_iconst (v := (5 : Int32)) rfl rfl ?_
  refine x_vi lm_M_205 vf_M_take k0 rfl rfl (Nat.le_of_ble_eq_true rfl) rfl h (fun r2 D1 h => ?_)
  refine x_if_ne (tgt := 12) rfl rfl (fun c => ?_) (fun c => ?_)
  · have h := h.1 c
    refine x_aload_n rfl rfl ?_
    refine x_aload_n rfl rfl ?_
    refine x_gI lf_M_208 k0 rfl rfl ?_
    refine x_aload_n rfl rfl ?_
    refine x_gR lf_M_44 k0 rfl rfl ?_
    refine x_iconst (v := (0 : Int32)) rfl rfl ?_
    refine x_iald (ck_13_21 k0) (xlt (ck_13_21 k0) (by decide)) h.1 rfl ?_
    have h := h.2
    refine x_si lm_M_211 sf_M_greater rfl rfl (Nat.le_of_ble_eq_true rfl) rfl h (fun r4 D3 h => ?_)
    refine x_pIn lp_M_208 nf_13_22 k0 rfl rfl (fun D5 eD5 => ?_)
    have h := h D5 eD5
    refine x_aload_n rfl rfl ?_
    refine x_gI lf_M_172 k0 rfl rfl ?_
    refine x_iconst (v := (2 : Int32)) rfl rfl ?_
    refine x_icmp_ne (tgt := 44) rfl rfl (fun c => ?_) (fun c => ?_)
    · have h := h.1 c
      refine x_lconst (v := 0) rfl rfl ?_
      refine x_lstore_n (i := 1) (L1 := [(1, .long (0 : Int64)), (0, .ref a0)]) rfl rfl (Nat.le_of_ble_eq_true rfl) rfl ?_
      refine x_lload_n rfl rfl ?_
      refine x_ldc2 wd_1859 rfl ?_
      refine x_lcmp rfl ?_
      refine x_if_ne (tgt := 58) rfl rfl (fun c => ?_) (fun c => ?_)
      · have h := h.1 c
        refine x_lload_n rfl rfl ?_
        refine x_ldc2 wd_1860 rfl ?_
        refine x_lcmp rfl ?_
        refine x_if_ne (tgt := 70) rfl rfl (fun c => ?_) (fun c => ?_)
        · have h := h.1 c
          refine x_lload_n rfl rfl ?_
          refine x_ldc2 wd_1861 rfl ?_
          refine x_lcmp rfl ?_
          refine x_if_ne (tgt := 82) rfl rfl (fun c => ?_) (fun c => ?_)
          · have h := h.1 c
            refine x_lload_n rfl rfl ?_
            refine x_ldc2 wd_1862 rfl ?_
            refine x_lcmp rfl ?_
            refine x_if_ne (tgt := 94) rfl rfl (fun c => ?_) (fun c => ?_)
            · have h := h.1 c
              refine x_iconst (v := (-1 : Int32)) rfl rfl ?_
              exact xP_sub [1, 0] rfl h
            · have h := h.2 c
              refine x_iconst (v := (3 : Int32)) rfl rfl ?_
              refine x_goto (tgt := 95) rfl rfl ?_
              exact xP_sub [1, 0] rfl h
          · have h := h.2 c
            refine x_iconst (v := (2 : Int32)) rfl rfl ?_
            refine x_goto (tgt := 95) rfl rfl ?_
            exact xP_sub [1, 0] rfl h
        · have h := h.2 c
          refine x_iconst (v := (1 : Int32)) rfl rfl ?_
          refine x_goto (tgt := 95) rfl rfl ?_
          exact xP_sub [1, 0] rfl h
      · have h := h.2 c
        refine x_iconst (v := (0 : Int32)) rfl rfl ?_
        refine x_goto (tgt := 95) rfl rfl ?_
        exact xP_sub [1, 0] rfl h
    · have h := h.2 c
      refine x_aload_n rfl rfl ?_
      refine x_gL lf_M_168 k0 rfl rfl ?_
      refine x_goto (tgt := 45) rfl rfl ?_
      refine x_lstore_n (i := 1) (L1 := [(1, .long (D5.2 a0 16)), (0, .ref a0)]) rfl rfl (Nat.le_of_ble_eq_true rfl) rfl ?_
      refine x_lload_n rfl rfl ?_
      refine x_ldc2 wd_1859 rfl ?_
      refine x_lcmp rfl ?_
      refine x_if_ne (tgt := 58) rfl rfl (fun c => ?_) (fun c => ?_)
      · have h := h.1 c
        refine x_lload_n rfl rfl ?_
        refine x_ldc2 wd_1860 rfl ?_
        refine x_lcmp rfl ?_
        refine x_if_ne (tgt := 70) rfl rfl (fun c => ?_) (fun c => ?_)
        · have h := h.1 c
          refine x_lload_n rfl rfl ?_
          refine x_ldc2 wd_1861 rfl ?_
          refine x_lcmp rfl ?_
          refine x_if_ne (tgt := 82) rfl rfl (fun c => ?_) (fun c => ?_)
          · have h := h.1 c
            refine x_lload_n rfl rfl ?_
            refine x_ldc2 wd_1862 rfl ?_
            refine x_lcmp rfl ?_
            refine x_if_ne (tgt := 94) rfl rfl (fun c => ?_) (fun c => ?_)
            · have h := h.1 c
              refine x_iconst (v := (-1 : Int32)) rfl rfl ?_
              exact xP_sub [1, 0] rfl h
            · have h := h.2 c
              refine x_iconst (v := (3 : Int32)) rfl rfl ?_
              refine x_goto (tgt := 95) rfl rfl ?_
              exact xP_sub [1, 0] rfl h
          · have h := h.2 c
            refine x_iconst (v := (2 : Int32)) rfl rfl ?_
            refine x_goto (tgt := 95) rfl rfl ?_
            exact xP_sub [1, 0] rfl h
        · have h := h.2 c
          refine x_iconst (v := (1 : Int32)) rfl rfl ?_
          refine x_goto (tgt := 95) rfl rfl ?_
          exact xP_sub [1, 0] rfl h
      · have h := h.2 c
        refine x_iconst (v := (0 : Int32)) rfl rfl ?_
        refine x_goto (tgt := 95) rfl rfl ?_
        exact xP_sub [1, 0] rfl h
  · have h := h.2 c
    refine x_iconst (v := (0 : Int32)) rfl rfl ?_
    exact x_zr rfl (Or.inl rfl) rfl h
theorem s_M_lawLine_95 {d : Nat} {D : xD} {Q : Option Value → xD → Prop} {a0 : Nat} {x1 : Int64} {xs0 : Int32} (k0 : xk a0 = 13) (h : (¬ xs0 = (-1 : Int32) → xCv d m_M_token [.ref a0] D (fun D1 => vp_in (1 : Int32) (xl (a0 + 12)) ∧ ∀ D2 : xD, D2 = (xu D1.1 (a0 + 12) ((1 : Int32) : Int32).toNatClampNeg (-1 : Int32), D1.2) → (xs0 = (1 : Int32) → xCi d m_M_take [.ref a0, .int (1 : Int32), .int (0 : Int32), .int (12 : Int32)] D2 (fun r4 D3 => (¬ r4 = 0 → vp_in (1 : Int32) (xl (a0 + 12)) ∧ xCi d m_M_greater [.int (D3.1 a0 23), .int (D3.1 (a0 + 12) ((1 : Int32) : Int32).toNatClampNeg)] D3 (fun r6 D5 => ∀ D7 : xD, D7 = (xu D5.1 a0 23 r6, D5.2) → ((D7.1 a0 25) = 0 → Q (some (.int (1 : Int32))) D7) ∧ (¬ (D7.1 a0 25) = 0 → vp_in (0 : Int32) (xl (a0 + 12)) ∧ vp_in (((6 : Int32) + ((7 : Int32) * (D7.1 (a0 + 12) ((0 : Int32) : Int32).toNatClampNeg))) + (4 : Int32)) (xl (a0 + 11)) ∧ ∀ D8 : xD, D8 = (xu D7.1 (a0 + 11) (((6 : Int32) + ((7 : Int32) * (D7.1 (a0 + 12) ((0 : Int32) : Int32).toNatClampNeg))) + (4 : Int32) : Int32).toNatClampNeg xs0, D7.2) → vp_in (0 : Int32) (xl (a0 + 12)) ∧ vp_in (1 : Int32) (xl (a0 + 12)) ∧ vp_in (((6 : Int32) + ((7 : Int32) * (D8.1 (a0 + 12) ((0 : Int32) : Int32).toNatClampNeg))) + (5 : Int32)) (xl (a0 + 11)) ∧ ∀ D9 : xD, D9 = (xu D8.1 (a0 + 11) (((6 : Int32) + ((7 : Int32) * (D8.1 (a0 + 12) ((0 : Int32) : Int32).toNatClampNeg))) + (5 : Int32) : Int32).toNatClampNeg (D8.1 (a0 + 12) ((1 : Int32) : Int32).toNatClampNeg), D8.2) → Q (some (.int (1 : Int32))) D9))) ∧ (r4 = 0 → Q (some (.int (0 : Int32))) D3))) ∧ (¬ xs0 = (1 : Int32) → (¬ xs0 = (2 : Int32) → ((D2.1 a0 25) = 0 → Q (some (.int (1 : Int32))) D2) ∧ (¬ (D2.1 a0 25) = 0 → vp_in (0 : Int32) (xl (a0 + 12)) ∧ vp_in (((6 : Int32) + ((7 : Int32) * (D2.1 (a0 + 12) ((0 : Int32) : Int32).toNatClampNeg))) + (4 : Int32)) (xl (a0 + 11)) ∧ ∀ D10 : xD, D10 = (xu D2.1 (a0 + 11) (((6 : Int32) + ((7 : Int32) * (D2.1 (a0 + 12) ((0 : Int32) : Int32).toNatClampNeg))) + (4 : Int32) : Int32).toNatClampNeg xs0, D2.2) → vp_in (0 : Int32) (xl (a0 + 12)) ∧ vp_in (1 : Int32) (xl (a0 + 12)) ∧ vp_in (((6 : Int32) + ((7 : Int32) * (D10.1 (a0 + 12) ((0 : Int32) : Int32).toNatClampNeg))) + (5 : Int32)) (xl (a0 + 11)) ∧ ∀ D11 : xD, D11 = (xu D10.1 (a0 + 11) (((6 : Int32) + ((7 : Int32) * (D10.1 (a0 + 12) ((0 : Int32) : Int32).toNatClampNeg))) + (5 : Int32) : Int32).toNatClampNeg (D10.1 (a0 + 12) ((1 : Int32) : Int32).toNatClampNeg), D10.2) → Q (some (.int (1 : Int32))) D11)) ∧ (xs0 = (2 : Int32) → xCi d m_M_take [.ref a0, .int (1 : Int32), .int (0 : Int32), .int (12 : Int32)] D2 (fun r13 D12 => (¬ r13 = 0 → vp_in (1 : Int32) (xl (a0 + 12)) ∧ xCi d m_M_greater [.int (D12.1 a0 23), .int (D12.1 (a0 + 12) ((1 : Int32) : Int32).toNatClampNeg)] D12 (fun r15 D14 => ∀ D16 : xD, D16 = (xu D14.1 a0 23 r15, D14.2) → ((D16.1 a0 25) = 0 → Q (some (.int (1 : Int32))) D16) ∧ (¬ (D16.1 a0 25) = 0 → vp_in (0 : Int32) (xl (a0 + 12)) ∧ vp_in (((6 : Int32) + ((7 : Int32) * (D16.1 (a0 + 12) ((0 : Int32) : Int32).toNatClampNeg))) + (4 : Int32)) (xl (a0 + 11)) ∧ ∀ D17 : xD, D17 = (xu D16.1 (a0 + 11) (((6 : Int32) + ((7 : Int32) * (D16.1 (a0 + 12) ((0 : Int32) : Int32).toNatClampNeg))) + (4 : Int32) : Int32).toNatClampNeg xs0, D16.2) → vp_in (0 : Int32) (xl (a0 + 12)) ∧ vp_in (1 : Int32) (xl (a0 + 12)) ∧ vp_in (((6 : Int32) + ((7 : Int32) * (D17.1 (a0 + 12) ((0 : Int32) : Int32).toNatClampNeg))) + (5 : Int32)) (xl (a0 + 11)) ∧ ∀ D18 : xD, D18 = (xu D17.1 (a0 + 11) (((6 : Int32) + ((7 : Int32) * (D17.1 (a0 + 12) ((0 : Int32) : Int32).toNatClampNeg))) + (5 : Int32) : Int32).toNatClampNeg (D17.1 (a0 + 12) ((1 : Int32) : Int32).toNatClampNeg), D17.2) → Q (some (.int (1 : Int32))) D18))) ∧ (r13 = 0 → Q (some (.int (0 : Int32))) D12)))))) ∧ (xs0 = (-1 : Int32) → xCi d m_M_fails [.ref a0] D (fun r20 D19 => (r20 = 0 ∨ r20 = 1) ∧ Q (some (.int r20)) D19))) : xPf (d + 1) m_M_lawLine 95 [(0, .ref a0), (1, .long x1)] [.int xs0] D Q := by
  refine x_istore_n (i := 3) (L1 := [(3, .int xs0), (0, .ref a0), (1, .long x1)]) rfl rfl (Nat.le_of_ble_eq_true rfl) rfl ?_
  refine x_iload_n rfl rfl ?_
  refine x_iconst (v := (-1 : Int32)) rfl rfl ?_
  refine x_icmp_ne (tgt := 106) rfl rfl (fun c => ?_) (fun c => ?_)
  · have h := h.1 c
    refine x_aload_n rfl rfl ?_
    refine x_vv lm_M_202 vf_M_token k0 rfl rfl (Nat.le_of_ble_eq_true rfl) rfl h (fun D1 h => ?_)
    refine x_aload_n rfl rfl ?_
    refine x_gR lf_M_44 k0 rfl rfl ?_
    refine x_iconst (v := (1 : Int32)) rfl rfl ?_
    refine x_iconst (v := (-1 : Int32)) rfl rfl ?_
    refine x_iastn (ck_13_21 k0) h.1 rfl (fun D2 eD2 => ?_)
    have h := h.2 D2 eD2
    refine x_iload_n rfl rfl ?_
    refine x_iconst (v := (1 : Int32)) rfl rfl ?_
    refine x_icmp_eq (tgt := 127) rfl rfl (fun c => ?_) (fun c => ?_)
    · have h := h.1 c
      refine x_aload_n rfl rfl ?_
      refine x_iconst (v := (1 : Int32)) rfl rfl ?_
      refine x_iconst (v := (0 : Int32)) rfl rfl ?_
      refine x_bipush (v := (12 : Int32)) rfl rfl ?_
      refine x_vi lm_M_205 vf_M_take k0 rfl rfl (Nat.le_of_ble_eq_true rfl) rfl h (fun r4 D3 h => ?_)
      refine x_if_ne (tgt := 140) rfl rfl (fun c => ?_) (fun c => ?_)
      · have h := h.1 c
        refine x_aload_n rfl rfl ?_
        refine x_aload_n rfl rfl ?_
        refine x_gI lf_M_223 k0 rfl rfl ?_
        refine x_aload_n rfl rfl ?_
        refine x_gR lf_M_44 k0 rfl rfl ?_
        refine x_iconst (v := (1 : Int32)) rfl rfl ?_
        refine x_iald (ck_13_21 k0) (xlt (ck_13_21 k0) (by decide)) h.1 rfl ?_
        have h := h.2
        refine x_si lm_M_211 sf_M_greater rfl rfl (Nat.le_of_ble_eq_true rfl) rfl h (fun r6 D5 h => ?_)
        refine x_pIn lp_M_223 nf_13_23 k0 rfl rfl (fun D7 eD7 => ?_)
        have h := h D7 eD7
        refine x_aload_n rfl rfl ?_
        refine x_gI lf_M_191 k0 rfl rfl ?_
        refine x_if_eq (tgt := 209) rfl rfl (fun c => ?_) (fun c => ?_)
        · have h := h.1 c
          refine x_iconst (v := (1 : Int32)) rfl rfl ?_
          exact x_zr rfl (Or.inr rfl) rfl h
        · have h := h.2 c
          refine x_aload_n rfl rfl ?_
          refine x_gR lf_M_41 k0 rfl rfl ?_
          refine x_bipush (v := (6 : Int32)) rfl rfl ?_
          refine x_bipush (v := (7 : Int32)) rfl rfl ?_
          refine x_aload_n rfl rfl ?_
          refine x_gR lf_M_44 k0 rfl rfl ?_
          refine x_iconst (v := (0 : Int32)) rfl rfl ?_
          refine x_iald (ck_13_21 k0) (xlt (ck_13_21 k0) (by decide)) h.1 rfl ?_
          have h := h.2
          refine x_imul rfl ?_
          refine x_iadd rfl ?_
          refine x_iconst (v := (4 : Int32)) rfl rfl ?_
          refine x_iadd rfl ?_
          refine x_iload_n rfl rfl ?_
          refine x_iastn (ck_13_20 k0) h.1 rfl (fun D8 eD8 => ?_)
          have h := h.2 D8 eD8
          refine x_aload_n rfl rfl ?_
          refine x_gR lf_M_41 k0 rfl rfl ?_
          refine x_bipush (v := (6 : Int32)) rfl rfl ?_
          refine x_bipush (v := (7 : Int32)) rfl rfl ?_
          refine x_aload_n rfl rfl ?_
          refine x_gR lf_M_44 k0 rfl rfl ?_
          refine x_iconst (v := (0 : Int32)) rfl rfl ?_
          refine x_iald (ck_13_21 k0) (xlt (ck_13_21 k0) (by decide)) h.1 rfl ?_
          have h := h.2
          refine x_imul rfl ?_
          refine x_iadd rfl ?_
          refine x_iconst (v := (5 : Int32)) rfl rfl ?_
          refine x_iadd rfl ?_
          refine x_aload_n rfl rfl ?_
          refine x_gR lf_M_44 k0 rfl rfl ?_
          refine x_iconst (v := (1 : Int32)) rfl rfl ?_
          refine x_iald (ck_13_21 k0) (xlt (ck_13_21 k0) (by decide)) h.1 rfl ?_
          have h := h.2
          refine x_iastn (ck_13_20 k0) h.1 rfl (fun D9 eD9 => ?_)
          have h := h.2 D9 eD9
          refine x_iconst (v := (1 : Int32)) rfl rfl ?_
          exact x_zr rfl (Or.inr rfl) rfl h
      · have h := h.2 c
        refine x_iconst (v := (0 : Int32)) rfl rfl ?_
        exact x_zr rfl (Or.inl rfl) rfl h
    · have h := h.2 c
      refine x_iload_n rfl rfl ?_
      refine x_iconst (v := (2 : Int32)) rfl rfl ?_
      refine x_icmp_ne (tgt := 157) rfl rfl (fun c => ?_) (fun c => ?_)
      · have h := h.1 c
        refine x_aload_n rfl rfl ?_
        refine x_gI lf_M_191 k0 rfl rfl ?_
        refine x_if_eq (tgt := 209) rfl rfl (fun c => ?_) (fun c => ?_)
        · have h := h.1 c
          refine x_iconst (v := (1 : Int32)) rfl rfl ?_
          exact x_zr rfl (Or.inr rfl) rfl h
        · have h := h.2 c
          refine x_aload_n rfl rfl ?_
          refine x_gR lf_M_41 k0 rfl rfl ?_
          refine x_bipush (v := (6 : Int32)) rfl rfl ?_
          refine x_bipush (v := (7 : Int32)) rfl rfl ?_
          refine x_aload_n rfl rfl ?_
          refine x_gR lf_M_44 k0 rfl rfl ?_
          refine x_iconst (v := (0 : Int32)) rfl rfl ?_
          refine x_iald (ck_13_21 k0) (xlt (ck_13_21 k0) (by decide)) h.1 rfl ?_
          have h := h.2
          refine x_imul rfl ?_
          refine x_iadd rfl ?_
          refine x_iconst (v := (4 : Int32)) rfl rfl ?_
          refine x_iadd rfl ?_
          refine x_iload_n rfl rfl ?_
          refine x_iastn (ck_13_20 k0) h.1 rfl (fun D10 eD10 => ?_)
          have h := h.2 D10 eD10
          refine x_aload_n rfl rfl ?_
          refine x_gR lf_M_41 k0 rfl rfl ?_
          refine x_bipush (v := (6 : Int32)) rfl rfl ?_
          refine x_bipush (v := (7 : Int32)) rfl rfl ?_
          refine x_aload_n rfl rfl ?_
          refine x_gR lf_M_44 k0 rfl rfl ?_
          refine x_iconst (v := (0 : Int32)) rfl rfl ?_
          refine x_iald (ck_13_21 k0) (xlt (ck_13_21 k0) (by decide)) h.1 rfl ?_
          have h := h.2
          refine x_imul rfl ?_
          refine x_iadd rfl ?_
          refine x_iconst (v := (5 : Int32)) rfl rfl ?_
          refine x_iadd rfl ?_
          refine x_aload_n rfl rfl ?_
          refine x_gR lf_M_44 k0 rfl rfl ?_
          refine x_iconst (v := (1 : Int32)) rfl rfl ?_
          refine x_iald (ck_13_21 k0) (xlt (ck_13_21 k0) (by decide)) h.1 rfl ?_
          have h := h.2
          refine x_iastn (ck_13_20 k0) h.1 rfl (fun D11 eD11 => ?_)
          have h := h.2 D11 eD11
          refine x_iconst (v := (1 : Int32)) rfl rfl ?_
          exact x_zr rfl (Or.inr rfl) rfl h
      · have h := h.2 c
        refine x_aload_n rfl rfl ?_
        refine x_iconst (v := (1 : Int32)) rfl rfl ?_
        refine x_iconst (v := (0 : Int32)) rfl rfl ?_
        refine x_bipush (v := (12 : Int32)) rfl rfl ?_
        refine x_vi lm_M_205 vf_M_take k0 rfl rfl (Nat.le_of_ble_eq_true rfl) rfl h (fun r13 D12 h => ?_)
        refine x_if_ne (tgt := 140) rfl rfl (fun c => ?_) (fun c => ?_)
        · have h := h.1 c
          refine x_aload_n rfl rfl ?_
          refine x_aload_n rfl rfl ?_
          refine x_gI lf_M_223 k0 rfl rfl ?_
          refine x_aload_n rfl rfl ?_
          refine x_gR lf_M_44 k0 rfl rfl ?_
          refine x_iconst (v := (1 : Int32)) rfl rfl ?_
          refine x_iald (ck_13_21 k0) (xlt (ck_13_21 k0) (by decide)) h.1 rfl ?_
          have h := h.2
          refine x_si lm_M_211 sf_M_greater rfl rfl (Nat.le_of_ble_eq_true rfl) rfl h (fun r15 D14 h => ?_)
          refine x_pIn lp_M_223 nf_13_23 k0 rfl rfl (fun D16 eD16 => ?_)
          have h := h D16 eD16
          refine x_aload_n rfl rfl ?_
          refine x_gI lf_M_191 k0 rfl rfl ?_
          refine x_if_eq (tgt := 209) rfl rfl (fun c => ?_) (fun c => ?_)
          · have h := h.1 c
            refine x_iconst (v := (1 : Int32)) rfl rfl ?_
            exact x_zr rfl (Or.inr rfl) rfl h
          · have h := h.2 c
            refine x_aload_n rfl rfl ?_
            refine x_gR lf_M_41 k0 rfl rfl ?_
            refine x_bipush (v := (6 : Int32)) rfl rfl ?_
            refine x_bipush (v := (7 : Int32)) rfl rfl ?_
            refine x_aload_n rfl rfl ?_
            refine x_gR lf_M_44 k0 rfl rfl ?_
            refine x_iconst (v := (0 : Int32)) rfl rfl ?_
            refine x_iald (ck_13_21 k0) (xlt (ck_13_21 k0) (by decide)) h.1 rfl ?_
            have h := h.2
            refine x_imul rfl ?_
            refine x_iadd rfl ?_
            refine x_iconst (v := (4 : Int32)) rfl rfl ?_
            refine x_iadd rfl ?_
            refine x_iload_n rfl rfl ?_
            refine x_iastn (ck_13_20 k0) h.1 rfl (fun D17 eD17 => ?_)
            have h := h.2 D17 eD17
            refine x_aload_n rfl rfl ?_
            refine x_gR lf_M_41 k0 rfl rfl ?_
            refine x_bipush (v := (6 : Int32)) rfl rfl ?_
            refine x_bipush (v := (7 : Int32)) rfl rfl ?_
            refine x_aload_n rfl rfl ?_
            refine x_gR lf_M_44 k0 rfl rfl ?_
            refine x_iconst (v := (0 : Int32)) rfl rfl ?_
            refine x_iald (ck_13_21 k0) (xlt (ck_13_21 k0) (by decide)) h.1 rfl ?_
            have h := h.2
            refine x_imul rfl ?_
            refine x_iadd rfl ?_
            refine x_iconst (v := (5 : Int32)) rfl rfl ?_
            refine x_iadd rfl ?_
            refine x_aload_n rfl rfl ?_
            refine x_gR lf_M_44 k0 rfl rfl ?_
            refine x_iconst (v := (1 : Int32)) rfl rfl ?_
            refine x_iald (ck_13_21 k0) (xlt (ck_13_21 k0) (by decide)) h.1 rfl ?_
            have h := h.2
            refine x_iastn (ck_13_20 k0) h.1 rfl (fun D18 eD18 => ?_)
            have h := h.2 D18 eD18
            refine x_iconst (v := (1 : Int32)) rfl rfl ?_
            exact x_zr rfl (Or.inr rfl) rfl h
        · have h := h.2 c
          refine x_iconst (v := (0 : Int32)) rfl rfl ?_
          exact x_zr rfl (Or.inl rfl) rfl h
  · have h := h.2 c
    refine x_aload_n rfl rfl ?_
    refine x_vi lm_M_195 vf_M_fails k0 rfl rfl (Nat.le_of_ble_eq_true rfl) rfl h (fun r20 D19 h => ?_)
    exact x_zr rfl h.1 rfl h.2
theorem s_M_personLine_0 {d : Nat} {D : xD} {Q : Option Value → xD → Prop} {a0 : Nat} (k0 : xk a0 = 13) (h : xCi d m_M_take [.ref a0, .int (0 : Int32), .int (1 : Int32), .int (9 : Int32)] D (fun r2 D1 => (r2 = 0 → Q (some (.int (0 : Int32))) D1) ∧ (¬ r2 = 0 → xCi d m_M_take [.ref a0, .int (1 : Int32), .int (1 : Int32), .int (9 : Int32)] D1 (fun r4 D3 => (r4 = 0 → Q (some (.int (0 : Int32))) D3) ∧ (¬ r4 = 0 → xCi d m_M_take [.ref a0, .int (2 : Int32), .int (0 : Int32), .int (9 : Int32)] D3 (fun r6 D5 => (r6 = 0 → Q (some (.int (0 : Int32))) D5) ∧ (¬ r6 = 0 → xCi d m_M_take [.ref a0, .int (3 : Int32), .int (0 : Int32), .int (20 : Int32)] D5 (fun r8 D7 => (¬ r8 = 0 → vp_in (5 : Int32) (xl (a0 + 11)) ∧ ((6 : Int32) ≤ (D7.1 (a0 + 11) ((5 : Int32) : Int32).toNatClampNeg) → Q (some (.int (1 : Int32))) D7) ∧ (¬ (6 : Int32) ≤ (D7.1 (a0 + 11) ((5 : Int32) : Int32).toNatClampNeg) → xPf (d + 1) m_M_personLine 59 [(0, .ref a0), (1, .int (0 : Int32))] [] D7 Q)) ∧ (r8 = 0 → Q (some (.int (0 : Int32))) D7))))))))) : xPf (d + 1) m_M_personLine 0 [(0, .ref a0)] [] D Q := by
  refine x_aload_n rfl rfl ?_
  refine x_iconst (v := (0 : Int32)) rfl rfl ?_
  refine x_iconst (v := (1 : Int32)) rfl rfl ?_
  refine x_bipush (v := (9 : Int32)) rfl rfl ?_
  refine x_vi lm_M_205 vf_M_take k0 rfl rfl (Nat.le_of_ble_eq_true rfl) rfl h (fun r2 D1 h => ?_)
  refine x_if_eq (tgt := 44) rfl rfl (fun c => ?_) (fun c => ?_)
  · have h := h.1 c
    refine x_iconst (v := (0 : Int32)) rfl rfl ?_
    exact x_zr rfl (Or.inl rfl) rfl h
  · have h := h.2 c
    refine x_aload_n rfl rfl ?_
    refine x_iconst (v := (1 : Int32)) rfl rfl ?_
    refine x_iconst (v := (1 : Int32)) rfl rfl ?_
    refine x_bipush (v := (9 : Int32)) rfl rfl ?_
    refine x_vi lm_M_205 vf_M_take k0 rfl rfl (Nat.le_of_ble_eq_true rfl) rfl h (fun r4 D3 h => ?_)
    refine x_if_eq (tgt := 44) rfl rfl (fun c => ?_) (fun c => ?_)
    · have h := h.1 c
      refine x_iconst (v := (0 : Int32)) rfl rfl ?_
      exact x_zr rfl (Or.inl rfl) rfl h
    · have h := h.2 c
      refine x_aload_n rfl rfl ?_
      refine x_iconst (v := (2 : Int32)) rfl rfl ?_
      refine x_iconst (v := (0 : Int32)) rfl rfl ?_
      refine x_bipush (v := (9 : Int32)) rfl rfl ?_
      refine x_vi lm_M_205 vf_M_take k0 rfl rfl (Nat.le_of_ble_eq_true rfl) rfl h (fun r6 D5 h => ?_)
      refine x_if_eq (tgt := 44) rfl rfl (fun c => ?_) (fun c => ?_)
      · have h := h.1 c
        refine x_iconst (v := (0 : Int32)) rfl rfl ?_
        exact x_zr rfl (Or.inl rfl) rfl h
      · have h := h.2 c
        refine x_aload_n rfl rfl ?_
        refine x_iconst (v := (3 : Int32)) rfl rfl ?_
        refine x_iconst (v := (0 : Int32)) rfl rfl ?_
        refine x_bipush (v := (20 : Int32)) rfl rfl ?_
        refine x_vi lm_M_205 vf_M_take k0 rfl rfl (Nat.le_of_ble_eq_true rfl) rfl h (fun r8 D7 h => ?_)
        refine x_if_ne (tgt := 46) rfl rfl (fun c => ?_) (fun c => ?_)
        · have h := h.1 c
          refine x_aload_n rfl rfl ?_
          refine x_gR lf_M_41 k0 rfl rfl ?_
          refine x_iconst (v := (5 : Int32)) rfl rfl ?_
          refine x_iald (ck_13_20 k0) (xlt (ck_13_20 k0) (by decide)) h.1 rfl ?_
          have h := h.2
          refine x_bipush (v := (6 : Int32)) rfl rfl ?_
          refine x_icmp_ge (tgt := 105) rfl rfl (fun c => ?_) (fun c => ?_)
          · have h := h.1 c
            refine x_iconst (v := (1 : Int32)) rfl rfl ?_
            exact x_zr rfl (Or.inr rfl) rfl h
          · have h := h.2 c
            refine x_iconst (v := (0 : Int32)) rfl rfl ?_
            refine x_istore_n (i := 1) (L1 := [(1, .int (0 : Int32)), (0, .ref a0)]) rfl rfl (Nat.le_of_ble_eq_true rfl) rfl ?_
            exact xP_sub [1, 0] rfl h
        · have h := h.2 c
          refine x_iconst (v := (0 : Int32)) rfl rfl ?_
          exact x_zr rfl (Or.inl rfl) rfl h
theorem s_M_personLine_59 {d : Nat} {D : xD} {Q : Option Value → xD → Prop} {a0 : Nat} {x1 : Int32} (k0 : xk a0 = 13) (h : ((4 : Int32) ≤ x1 → vp_in (5 : Int32) (xl (a0 + 11)) ∧ vp_in (5 : Int32) (xl (a0 + 11)) ∧ ∀ D1 : xD, D1 = (xu D.1 (a0 + 11) ((5 : Int32) : Int32).toNatClampNeg ((D.1 (a0 + 11) ((5 : Int32) : Int32).toNatClampNeg) + (1 : Int32)), D.2) → Q (some (.int (1 : Int32))) D1) ∧ (¬ (4 : Int32) ≤ x1 → vp_in (5 : Int32) (xl (a0 + 11)) ∧ vp_in x1 (xl (a0 + 12)) ∧ vp_in (((6 : Int32) + ((7 : Int32) * (D.1 (a0 + 11) ((5 : Int32) : Int32).toNatClampNeg))) + x1) (xl (a0 + 11)) ∧ ∀ D2 : xD, D2 = (xu D.1 (a0 + 11) (((6 : Int32) + ((7 : Int32) * (D.1 (a0 + 11) ((5 : Int32) : Int32).toNatClampNeg))) + x1 : Int32).toNatClampNeg (D.1 (a0 + 12) (x1 : Int32).toNatClampNeg), D.2) → xPf (d + 1) m_M_personLine 59 [(0, .ref a0), (1, .int (x1 + (1 : Int32)))] [] D2 Q)) : xPf (d + 1) m_M_personLine 59 [(0, .ref a0), (1, .int x1)] [] D Q := by
  refine x_iload_n rfl rfl ?_
  refine x_iconst (v := (4 : Int32)) rfl rfl ?_
  refine x_icmp_ge (tgt := 95) rfl rfl (fun c => ?_) (fun c => ?_)
  · have h := h.1 c
    refine x_aload_n rfl rfl ?_
    refine x_gR lf_M_41 k0 rfl rfl ?_
    refine x_iconst (v := (5 : Int32)) rfl rfl ?_
    refine x_dup2 rfl rfl rfl ?_
    refine x_iald (ck_13_20 k0) (xlt (ck_13_20 k0) (by decide)) h.1 rfl ?_
    have h := h.2
    refine x_iconst (v := (1 : Int32)) rfl rfl ?_
    refine x_iadd rfl ?_
    refine x_iastn (ck_13_20 k0) h.1 rfl (fun D1 eD1 => ?_)
    have h := h.2 D1 eD1
    refine x_iconst (v := (1 : Int32)) rfl rfl ?_
    exact x_zr rfl (Or.inr rfl) rfl h
  · have h := h.2 c
    refine x_aload_n rfl rfl ?_
    refine x_gR lf_M_41 k0 rfl rfl ?_
    refine x_bipush (v := (6 : Int32)) rfl rfl ?_
    refine x_bipush (v := (7 : Int32)) rfl rfl ?_
    refine x_aload_n rfl rfl ?_
    refine x_gR lf_M_41 k0 rfl rfl ?_
    refine x_iconst (v := (5 : Int32)) rfl rfl ?_
    refine x_iald (ck_13_20 k0) (xlt (ck_13_20 k0) (by decide)) h.1 rfl ?_
    have h := h.2
    refine x_imul rfl ?_
    refine x_iadd rfl ?_
    refine x_iload_n rfl rfl ?_
    refine x_iadd rfl ?_
    refine x_aload_n rfl rfl ?_
    refine x_gR lf_M_44 k0 rfl rfl ?_
    refine x_iload_n rfl rfl ?_
    refine x_iald (ck_13_21 k0) (xlt (ck_13_21 k0) (by decide)) h.1 rfl ?_
    have h := h.2
    refine x_iastn (ck_13_20 k0) h.1 rfl (fun D2 eD2 => ?_)
    have h := h.2 D2 eD2
    refine x_iinc (i := 1) (v := x1 + (1 : Int32)) (L1 := [(1, .int (x1 + (1 : Int32))), (0, .ref a0)]) rfl rfl rfl (Nat.le_of_ble_eq_true rfl) rfl ?_
    refine x_goto (tgt := 59) rfl rfl ?_
    exact xP_sub [1, 0] rfl h
theorem s_M_plainOf_0 {d : Nat} {D : xD} {Q : Option Value → xD → Prop} {x0 : Int64}  (h : (¬ (lg_cmp x0 (461330343027 : Int64)) = 0 → (¬ (lg_cmp x0 (109330278475123 : Int64)) = 0 → (¬ (lg_cmp x0 (418430675813 : Int64)) = 0 → (¬ (lg_cmp x0 (30510848328168051 : Int64)) = 0 → (¬ (lg_cmp x0 (7304564 : Int64)) = 0 → Q (some (.int (-1 : Int32))) D) ∧ ((lg_cmp x0 (7304564 : Int64)) = 0 → Q (some (.int (4 : Int32))) D)) ∧ ((lg_cmp x0 (30510848328168051 : Int64)) = 0 → Q (some (.int (3 : Int32))) D)) ∧ ((lg_cmp x0 (418430675813 : Int64)) = 0 → Q (some (.int (2 : Int32))) D)) ∧ ((lg_cmp x0 (109330278475123 : Int64)) = 0 → Q (some (.int (1 : Int32))) D)) ∧ ((lg_cmp x0 (461330343027 : Int64)) = 0 → Q (some (.int (0 : Int32))) D)) : xPf (d + 1) m_M_plainOf 0 [(0, .long x0)] [] D Q := by
  refine x_lload_n rfl rfl ?_
  refine x_ldc2 wd_1820 rfl ?_
  refine x_lcmp rfl ?_
  refine x_if_ne (tgt := 12) rfl rfl (fun c => ?_) (fun c => ?_)
  · have h := h.1 c
    refine x_lload_n rfl rfl ?_
    refine x_ldc2 wd_1821 rfl ?_
    refine x_lcmp rfl ?_
    refine x_if_ne (tgt := 24) rfl rfl (fun c => ?_) (fun c => ?_)
    · have h := h.1 c
      refine x_lload_n rfl rfl ?_
      refine x_ldc2 wd_1822 rfl ?_
      refine x_lcmp rfl ?_
      refine x_if_ne (tgt := 36) rfl rfl (fun c => ?_) (fun c => ?_)
      · have h := h.1 c
        refine x_lload_n rfl rfl ?_
        refine x_ldc2 wd_1823 rfl ?_
        refine x_lcmp rfl ?_
        refine x_if_ne (tgt := 48) rfl rfl (fun c => ?_) (fun c => ?_)
        · have h := h.1 c
          refine x_lload_n rfl rfl ?_
          refine x_ldc2 wd_1824 rfl ?_
          refine x_lcmp rfl ?_
          refine x_if_ne (tgt := 60) rfl rfl (fun c => ?_) (fun c => ?_)
          · have h := h.1 c
            refine x_iconst (v := (-1 : Int32)) rfl rfl ?_
            exact x_iret rfl rfl h
          · have h := h.2 c
            refine x_iconst (v := (4 : Int32)) rfl rfl ?_
            refine x_goto (tgt := 61) rfl rfl ?_
            exact x_iret rfl rfl h
        · have h := h.2 c
          refine x_iconst (v := (3 : Int32)) rfl rfl ?_
          refine x_goto (tgt := 61) rfl rfl ?_
          exact x_iret rfl rfl h
      · have h := h.2 c
        refine x_iconst (v := (2 : Int32)) rfl rfl ?_
        refine x_goto (tgt := 61) rfl rfl ?_
        exact x_iret rfl rfl h
    · have h := h.2 c
      refine x_iconst (v := (1 : Int32)) rfl rfl ?_
      refine x_goto (tgt := 61) rfl rfl ?_
      exact x_iret rfl rfl h
  · have h := h.2 c
    refine x_iconst (v := (0 : Int32)) rfl rfl ?_
    refine x_goto (tgt := 61) rfl rfl ?_
    exact x_iret rfl rfl h
theorem s_M_tableLine_0 {d : Nat} {D : xD} {Q : Option Value → xD → Prop} {a0 : Nat} {x1 : Int64} {x3 : Int32} (k0 : xk a0 = 13) (h : xCi d m_M_plainOf [.long x1] D (fun r2 D1 => (¬ r2 = (-1 : Int32) → (¬ (lg_cmp x1 (123581014175598 : Int64)) = 0 → xPf (d + 1) m_M_tableLine 57 [(0, .ref a0), (1, .long x1), (3, .int x3), (4, .int r2)] [] D1 Q) ∧ ((lg_cmp x1 (123581014175598 : Int64)) = 0 → xCv d m_M_full [.ref a0, .int (5 : Int32), .int (6 : Int32), .int x3] D1 (fun D3 => xPf (d + 1) m_M_tableLine 57 [(0, .ref a0), (1, .long x1), (3, .int x3), (4, .int r2)] [] D3 Q))) ∧ (r2 = (-1 : Int32) → ((lg_cmp x1 (457236639865 : Int64)) = 0 → (¬ (lg_cmp x1 (123581014175598 : Int64)) = 0 → xPf (d + 1) m_M_tableLine 57 [(0, .ref a0), (1, .long x1), (3, .int x3), (4, .int r2)] [] D1 Q) ∧ ((lg_cmp x1 (123581014175598 : Int64)) = 0 → xCv d m_M_full [.ref a0, .int (5 : Int32), .int (6 : Int32), .int x3] D1 (fun D4 => xPf (d + 1) m_M_tableLine 57 [(0, .ref a0), (1, .long x1), (3, .int x3), (4, .int r2)] [] D4 Q))) ∧ (¬ (lg_cmp x1 (457236639865 : Int64)) = 0 → ((lg_cmp x1 (123581014175598 : Int64)) = 0 → (¬ (lg_cmp x1 (123581014175598 : Int64)) = 0 → xPf (d + 1) m_M_tableLine 57 [(0, .ref a0), (1, .long x1), (3, .int x3), (4, .int r2)] [] D1 Q) ∧ ((lg_cmp x1 (123581014175598 : Int64)) = 0 → xCv d m_M_full [.ref a0, .int (5 : Int32), .int (6 : Int32), .int x3] D1 (fun D5 => xPf (d + 1) m_M_tableLine 57 [(0, .ref a0), (1, .long x1), (3, .int x3), (4, .int r2)] [] D5 Q))) ∧ (¬ (lg_cmp x1 (123581014175598 : Int64)) = 0 → ((lg_cmp x1 (7102839 : Int64)) = 0 → (¬ (lg_cmp x1 (123581014175598 : Int64)) = 0 → xPf (d + 1) m_M_tableLine 57 [(0, .ref a0), (1, .long x1), (3, .int x3), (4, .int r2)] [] D1 Q) ∧ ((lg_cmp x1 (123581014175598 : Int64)) = 0 → xCv d m_M_full [.ref a0, .int (5 : Int32), .int (6 : Int32), .int x3] D1 (fun D6 => xPf (d + 1) m_M_tableLine 57 [(0, .ref a0), (1, .long x1), (3, .int x3), (4, .int r2)] [] D6 Q))) ∧ (¬ (lg_cmp x1 (7102839 : Int64)) = 0 → xCi d m_M_fails [.ref a0] D1 (fun r8 D7 => (r8 = 0 ∨ r8 = 1) ∧ Q (some (.int r8)) D7))))))) : xPf (d + 1) m_M_tableLine 0 [(0, .ref a0), (1, .long x1), (3, .int x3)] [] D Q := by
  refine x_lload_n rfl rfl ?_
  refine x_si lm_M_236 sf_M_plainOf rfl rfl (Nat.le_of_ble_eq_true rfl) rfl h (fun r2 D1 h => ?_)
  refine x_istore (i := 4) (L1 := [(4, .int r2), (0, .ref a0), (1, .long x1), (3, .int x3)]) rfl (Nat.le_of_ble_eq_true rfl) rfl ?_
  refine x_iload rfl rfl ?_
  refine x_iconst (v := (-1 : Int32)) rfl rfl ?_
  refine x_icmp_ne (tgt := 41) rfl rfl (fun c => ?_) (fun c => ?_)
  · have h := h.1 c
    refine x_lload_n rfl rfl ?_
    refine x_ldc2 wd_1826 rfl ?_
    refine x_lcmp rfl ?_
    refine x_if_ne (tgt := 57) rfl rfl (fun c => ?_) (fun c => ?_)
    · have h := h.1 c
      exact xP_sub [1, 2, 3, 0] rfl h
    · have h := h.2 c
      refine x_aload_n rfl rfl ?_
      refine x_iconst (v := (5 : Int32)) rfl rfl ?_
      refine x_bipush (v := (6 : Int32)) rfl rfl ?_
      refine x_iload_n rfl rfl ?_
      refine x_vv lm_M_246 vf_M_full k0 rfl rfl (Nat.le_of_ble_eq_true rfl) rfl h (fun D3 h => ?_)
      exact xP_sub [1, 2, 3, 0] rfl h
  · have h := h.2 c
    refine x_lload_n rfl rfl ?_
    refine x_ldc2 wd_1825 rfl ?_
    refine x_lcmp rfl ?_
    refine x_if_eq (tgt := 41) rfl rfl (fun c => ?_) (fun c => ?_)
    · have h := h.1 c
      refine x_lload_n rfl rfl ?_
      refine x_ldc2 wd_1826 rfl ?_
      refine x_lcmp rfl ?_
      refine x_if_ne (tgt := 57) rfl rfl (fun c => ?_) (fun c => ?_)
      · have h := h.1 c
        exact xP_sub [1, 2, 3, 0] rfl h
      · have h := h.2 c
        refine x_aload_n rfl rfl ?_
        refine x_iconst (v := (5 : Int32)) rfl rfl ?_
        refine x_bipush (v := (6 : Int32)) rfl rfl ?_
        refine x_iload_n rfl rfl ?_
        refine x_vv lm_M_246 vf_M_full k0 rfl rfl (Nat.le_of_ble_eq_true rfl) rfl h (fun D4 h => ?_)
        exact xP_sub [1, 2, 3, 0] rfl h
    · have h := h.2 c
      refine x_lload_n rfl rfl ?_
      refine x_ldc2 wd_1826 rfl ?_
      refine x_lcmp rfl ?_
      refine x_if_eq (tgt := 41) rfl rfl (fun c => ?_) (fun c => ?_)
      · have h := h.1 c
        refine x_lload_n rfl rfl ?_
        refine x_ldc2 wd_1826 rfl ?_
        refine x_lcmp rfl ?_
        refine x_if_ne (tgt := 57) rfl rfl (fun c => ?_) (fun c => ?_)
        · have h := h.1 c
          exact xP_sub [1, 2, 3, 0] rfl h
        · have h := h.2 c
          refine x_aload_n rfl rfl ?_
          refine x_iconst (v := (5 : Int32)) rfl rfl ?_
          refine x_bipush (v := (6 : Int32)) rfl rfl ?_
          refine x_iload_n rfl rfl ?_
          refine x_vv lm_M_246 vf_M_full k0 rfl rfl (Nat.le_of_ble_eq_true rfl) rfl h (fun D5 h => ?_)
          exact xP_sub [1, 2, 3, 0] rfl h
      · have h := h.2 c
        refine x_lload_n rfl rfl ?_
        refine x_ldc2 wd_1827 rfl ?_
        refine x_lcmp rfl ?_
        refine x_if_eq (tgt := 41) rfl rfl (fun c => ?_) (fun c => ?_)
        · have h := h.1 c
          refine x_lload_n rfl rfl ?_
          refine x_ldc2 wd_1826 rfl ?_
          refine x_lcmp rfl ?_
          refine x_if_ne (tgt := 57) rfl rfl (fun c => ?_) (fun c => ?_)
          · have h := h.1 c
            exact xP_sub [1, 2, 3, 0] rfl h
          · have h := h.2 c
            refine x_aload_n rfl rfl ?_
            refine x_iconst (v := (5 : Int32)) rfl rfl ?_
            refine x_bipush (v := (6 : Int32)) rfl rfl ?_
            refine x_iload_n rfl rfl ?_
            refine x_vv lm_M_246 vf_M_full k0 rfl rfl (Nat.le_of_ble_eq_true rfl) rfl h (fun D6 h => ?_)
            exact xP_sub [1, 2, 3, 0] rfl h
        · have h := h.2 c
          refine x_aload_n rfl rfl ?_
          refine x_vi lm_M_195 vf_M_fails k0 rfl rfl (Nat.le_of_ble_eq_true rfl) rfl h (fun r8 D7 h => ?_)
          exact x_zr rfl h.1 rfl h.2
theorem s_M_tableLine_57 {d : Nat} {D : xD} {Q : Option Value → xD → Prop} {a0 : Nat} {x1 : Int64} {x3 : Int32} {x4 : Int32} (k0 : xk a0 = 13) (h : xCv d m_M_token [.ref a0] D (fun D1 => (¬ (lg_cmp x1 (123581014175598 : Int64)) = 0 → (¬ (lg_cmp x1 (7102839 : Int64)) = 0 → (¬ (lg_cmp x1 (457236639865 : Int64)) = 0 → (x4 = 0 → (¬ x4 = 0 → ((3 : Int32) ≤ x4 → xCi d m_M_take [.ref a0, .int (0 : Int32), .int (2 : Int32), .int (9 : Int32)] D1 (fun r3 D2 => (¬ r3 = 0 → vp_in (0 : Int32) (xl (a0 + 12)) ∧ vp_in x4 (xl (a0 + 11)) ∧ ∀ D4 : xD, D4 = (xu D2.1 (a0 + 11) (x4 : Int32).toNatClampNeg (D2.1 (a0 + 12) ((0 : Int32) : Int32).toNatClampNeg), D2.2) → Q (some (.int (1 : Int32))) D4) ∧ (r3 = 0 → Q (some (.int (0 : Int32))) D2))) ∧ (¬ (3 : Int32) ≤ x4 → xCi d m_M_take [.ref a0, .int (0 : Int32), .int (2 : Int32), .int (4 : Int32)] D1 (fun r6 D5 => (¬ r6 = 0 → vp_in (0 : Int32) (xl (a0 + 12)) ∧ vp_in x4 (xl (a0 + 11)) ∧ ∀ D7 : xD, D7 = (xu D5.1 (a0 + 11) (x4 : Int32).toNatClampNeg (D5.1 (a0 + 12) ((0 : Int32) : Int32).toNatClampNeg), D5.2) → Q (some (.int (1 : Int32))) D7) ∧ (r6 = 0 → Q (some (.int (0 : Int32))) D5)))) ∧ (x4 = 0 → xCi d m_M_take [.ref a0, .int (0 : Int32), .int (2 : Int32), .int (13 : Int32)] D1 (fun r9 D8 => (¬ r9 = 0 → vp_in (0 : Int32) (xl (a0 + 12)) ∧ vp_in x4 (xl (a0 + 11)) ∧ ∀ D10 : xD, D10 = (xu D8.1 (a0 + 11) (x4 : Int32).toNatClampNeg (D8.1 (a0 + 12) ((0 : Int32) : Int32).toNatClampNeg), D8.2) → Q (some (.int (1 : Int32))) D10) ∧ (r9 = 0 → Q (some (.int (0 : Int32))) D8)))) ∧ (¬ x4 = 0 → (¬ x4 = (2 : Int32) → (¬ x4 = (4 : Int32) → (¬ x4 = 0 → ((3 : Int32) ≤ x4 → xCi d m_M_take [.ref a0, .int (0 : Int32), .int (1 : Int32), .int (9 : Int32)] D1 (fun r12 D11 => (¬ r12 = 0 → vp_in (0 : Int32) (xl (a0 + 12)) ∧ vp_in x4 (xl (a0 + 11)) ∧ ∀ D13 : xD, D13 = (xu D11.1 (a0 + 11) (x4 : Int32).toNatClampNeg (D11.1 (a0 + 12) ((0 : Int32) : Int32).toNatClampNeg), D11.2) → Q (some (.int (1 : Int32))) D13) ∧ (r12 = 0 → Q (some (.int (0 : Int32))) D11))) ∧ (¬ (3 : Int32) ≤ x4 → xCi d m_M_take [.ref a0, .int (0 : Int32), .int (1 : Int32), .int (4 : Int32)] D1 (fun r15 D14 => (¬ r15 = 0 → vp_in (0 : Int32) (xl (a0 + 12)) ∧ vp_in x4 (xl (a0 + 11)) ∧ ∀ D16 : xD, D16 = (xu D14.1 (a0 + 11) (x4 : Int32).toNatClampNeg (D14.1 (a0 + 12) ((0 : Int32) : Int32).toNatClampNeg), D14.2) → Q (some (.int (1 : Int32))) D16) ∧ (r15 = 0 → Q (some (.int (0 : Int32))) D14)))) ∧ (x4 = 0 → xCi d m_M_take [.ref a0, .int (0 : Int32), .int (1 : Int32), .int (13 : Int32)] D1 (fun r18 D17 => (¬ r18 = 0 → vp_in (0 : Int32) (xl (a0 + 12)) ∧ vp_in x4 (xl (a0 + 11)) ∧ ∀ D19 : xD, D19 = (xu D17.1 (a0 + 11) (x4 : Int32).toNatClampNeg (D17.1 (a0 + 12) ((0 : Int32) : Int32).toNatClampNeg), D17.2) → Q (some (.int (1 : Int32))) D19) ∧ (r18 = 0 → Q (some (.int (0 : Int32))) D17)))) ∧ (x4 = (4 : Int32) → (¬ x4 = 0 → ((3 : Int32) ≤ x4 → xCi d m_M_take [.ref a0, .int (0 : Int32), .int (0 : Int32), .int (9 : Int32)] D1 (fun r21 D20 => (¬ r21 = 0 → vp_in (0 : Int32) (xl (a0 + 12)) ∧ vp_in x4 (xl (a0 + 11)) ∧ ∀ D22 : xD, D22 = (xu D20.1 (a0 + 11) (x4 : Int32).toNatClampNeg (D20.1 (a0 + 12) ((0 : Int32) : Int32).toNatClampNeg), D20.2) → Q (some (.int (1 : Int32))) D22) ∧ (r21 = 0 → Q (some (.int (0 : Int32))) D20))) ∧ (¬ (3 : Int32) ≤ x4 → xCi d m_M_take [.ref a0, .int (0 : Int32), .int (0 : Int32), .int (4 : Int32)] D1 (fun r24 D23 => (¬ r24 = 0 → vp_in (0 : Int32) (xl (a0 + 12)) ∧ vp_in x4 (xl (a0 + 11)) ∧ ∀ D25 : xD, D25 = (xu D23.1 (a0 + 11) (x4 : Int32).toNatClampNeg (D23.1 (a0 + 12) ((0 : Int32) : Int32).toNatClampNeg), D23.2) → Q (some (.int (1 : Int32))) D25) ∧ (r24 = 0 → Q (some (.int (0 : Int32))) D23)))) ∧ (x4 = 0 → xCi d m_M_take [.ref a0, .int (0 : Int32), .int (0 : Int32), .int (13 : Int32)] D1 (fun r27 D26 => (¬ r27 = 0 → vp_in (0 : Int32) (xl (a0 + 12)) ∧ vp_in x4 (xl (a0 + 11)) ∧ ∀ D28 : xD, D28 = (xu D26.1 (a0 + 11) (x4 : Int32).toNatClampNeg (D26.1 (a0 + 12) ((0 : Int32) : Int32).toNatClampNeg), D26.2) → Q (some (.int (1 : Int32))) D28) ∧ (r27 = 0 → Q (some (.int (0 : Int32))) D26))))) ∧ (x4 = (2 : Int32) → (¬ x4 = 0 → ((3 : Int32) ≤ x4 → xCi d m_M_take [.ref a0, .int (0 : Int32), .int (2 : Int32), .int (9 : Int32)] D1 (fun r30 D29 => (¬ r30 = 0 → vp_in (0 : Int32) (xl (a0 + 12)) ∧ vp_in x4 (xl (a0 + 11)) ∧ ∀ D31 : xD, D31 = (xu D29.1 (a0 + 11) (x4 : Int32).toNatClampNeg (D29.1 (a0 + 12) ((0 : Int32) : Int32).toNatClampNeg), D29.2) → Q (some (.int (1 : Int32))) D31) ∧ (r30 = 0 → Q (some (.int (0 : Int32))) D29))) ∧ (¬ (3 : Int32) ≤ x4 → xCi d m_M_take [.ref a0, .int (0 : Int32), .int (2 : Int32), .int (4 : Int32)] D1 (fun r33 D32 => (¬ r33 = 0 → vp_in (0 : Int32) (xl (a0 + 12)) ∧ vp_in x4 (xl (a0 + 11)) ∧ ∀ D34 : xD, D34 = (xu D32.1 (a0 + 11) (x4 : Int32).toNatClampNeg (D32.1 (a0 + 12) ((0 : Int32) : Int32).toNatClampNeg), D32.2) → Q (some (.int (1 : Int32))) D34) ∧ (r33 = 0 → Q (some (.int (0 : Int32))) D32)))) ∧ (x4 = 0 → xCi d m_M_take [.ref a0, .int (0 : Int32), .int (2 : Int32), .int (13 : Int32)] D1 (fun r36 D35 => (¬ r36 = 0 → vp_in (0 : Int32) (xl (a0 + 12)) ∧ vp_in x4 (xl (a0 + 11)) ∧ ∀ D37 : xD, D37 = (xu D35.1 (a0 + 11) (x4 : Int32).toNatClampNeg (D35.1 (a0 + 12) ((0 : Int32) : Int32).toNatClampNeg), D35.2) → Q (some (.int (1 : Int32))) D37) ∧ (r36 = 0 → Q (some (.int (0 : Int32))) D35)))))) ∧ ((lg_cmp x1 (457236639865 : Int64)) = 0 → xCi d m_M_take [.ref a0, .int (0 : Int32), .int (0 : Int32), .int (5 : Int32)] D1 (fun r39 D38 => (¬ r39 = 0 → vp_in (0 : Int32) (xl (a0 + 12)) ∧ xCi d m_M_greater [.int (D38.1 a0 22), .int (D38.1 (a0 + 12) ((0 : Int32) : Int32).toNatClampNeg)] D38 (fun r41 D40 => ∀ D42 : xD, D42 = (xu D40.1 a0 22 r41, D40.2) → ((D42.1 a0 25) = 0 → Q (some (.int (1 : Int32))) D42) ∧ (¬ (D42.1 a0 25) = 0 → vp_in (0 : Int32) (xl (a0 + 12)) ∧ vp_in (((6 : Int32) + ((7 : Int32) * (D42.1 (a0 + 12) ((0 : Int32) : Int32).toNatClampNeg))) + (6 : Int32)) (xl (a0 + 11)) ∧ ∀ D43 : xD, D43 = (xu D42.1 (a0 + 11) (((6 : Int32) + ((7 : Int32) * (D42.1 (a0 + 12) ((0 : Int32) : Int32).toNatClampNeg))) + (6 : Int32) : Int32).toNatClampNeg (1 : Int32), D42.2) → Q (some (.int (1 : Int32))) D43))) ∧ (r39 = 0 → Q (some (.int (0 : Int32))) D38)))) ∧ ((lg_cmp x1 (7102839 : Int64)) = 0 → xCi d m_M_lawLine [.ref a0] D1 (fun r45 D44 => (r45 = 0 ∨ r45 = 1) ∧ Q (some (.int r45)) D44))) ∧ ((lg_cmp x1 (123581014175598 : Int64)) = 0 → xCi d m_M_personLine [.ref a0] D1 (fun r47 D46 => (r47 = 0 ∨ r47 = 1) ∧ Q (some (.int r47)) D46)))) : xPf (d + 1) m_M_tableLine 57 [(0, .ref a0), (1, .long x1), (3, .int x3), (4, .int x4)] [] D Q := by
  refine x_aload_n rfl rfl ?_
  refine x_vv lm_M_202 vf_M_token k0 rfl rfl (Nat.le_of_ble_eq_true rfl) rfl h (fun D1 h => ?_)
  refine x_lload_n rfl rfl ?_
  refine x_ldc2 wd_1826 rfl ?_
  refine x_lcmp rfl ?_
  refine x_if_ne (tgt := 74) rfl rfl (fun c => ?_) (fun c => ?_)
  · have h := h.1 c
    refine x_lload_n rfl rfl ?_
    refine x_ldc2 wd_1827 rfl ?_
    refine x_lcmp rfl ?_
    refine x_if_ne (tgt := 87) rfl rfl (fun c => ?_) (fun c => ?_)
    · have h := h.1 c
      refine x_lload_n rfl rfl ?_
      refine x_ldc2 wd_1825 rfl ?_
      refine x_lcmp rfl ?_
      refine x_if_ne (tgt := 154) rfl rfl (fun c => ?_) (fun c => ?_)
      · have h := h.1 c
        refine x_aload_n rfl rfl ?_
        refine x_iconst (v := (0 : Int32)) rfl rfl ?_
        refine x_iload rfl rfl ?_
        refine x_if_eq (tgt := 167) rfl rfl (fun c => ?_) (fun c => ?_)
        · have h := h.1 c
          refine x_iconst (v := (2 : Int32)) rfl rfl ?_
          refine x_goto (tgt := 182) rfl rfl ?_
          refine x_iload rfl rfl ?_
          refine x_if_ne (tgt := 192) rfl rfl (fun c => ?_) (fun c => ?_)
          · have h := h.1 c
            refine x_iload rfl rfl ?_
            refine x_iconst (v := (3 : Int32)) rfl rfl ?_
            refine x_icmp_ge (tgt := 202) rfl rfl (fun c => ?_) (fun c => ?_)
            · have h := h.1 c
              refine x_bipush (v := (9 : Int32)) rfl rfl ?_
              refine x_vi lm_M_205 vf_M_take k0 rfl rfl (Nat.le_of_ble_eq_true rfl) rfl h (fun r3 D2 h => ?_)
              refine x_if_ne (tgt := 212) rfl rfl (fun c => ?_) (fun c => ?_)
              · have h := h.1 c
                refine x_aload_n rfl rfl ?_
                refine x_gR lf_M_41 k0 rfl rfl ?_
                refine x_iload rfl rfl ?_
                refine x_aload_n rfl rfl ?_
                refine x_gR lf_M_44 k0 rfl rfl ?_
                refine x_iconst (v := (0 : Int32)) rfl rfl ?_
                refine x_iald (ck_13_21 k0) (xlt (ck_13_21 k0) (by decide)) h.1 rfl ?_
                have h := h.2
                refine x_iastn (ck_13_20 k0) h.1 rfl (fun D4 eD4 => ?_)
                have h := h.2 D4 eD4
                refine x_iconst (v := (1 : Int32)) rfl rfl ?_
                exact x_zr rfl (Or.inr rfl) rfl h
              · have h := h.2 c
                refine x_iconst (v := (0 : Int32)) rfl rfl ?_
                exact x_zr rfl (Or.inl rfl) rfl h
            · have h := h.2 c
              refine x_iconst (v := (4 : Int32)) rfl rfl ?_
              refine x_goto (tgt := 204) rfl rfl ?_
              refine x_vi lm_M_205 vf_M_take k0 rfl rfl (Nat.le_of_ble_eq_true rfl) rfl h (fun r6 D5 h => ?_)
              refine x_if_ne (tgt := 212) rfl rfl (fun c => ?_) (fun c => ?_)
              · have h := h.1 c
                refine x_aload_n rfl rfl ?_
                refine x_gR lf_M_41 k0 rfl rfl ?_
                refine x_iload rfl rfl ?_
                refine x_aload_n rfl rfl ?_
                refine x_gR lf_M_44 k0 rfl rfl ?_
                refine x_iconst (v := (0 : Int32)) rfl rfl ?_
                refine x_iald (ck_13_21 k0) (xlt (ck_13_21 k0) (by decide)) h.1 rfl ?_
                have h := h.2
                refine x_iastn (ck_13_20 k0) h.1 rfl (fun D7 eD7 => ?_)
                have h := h.2 D7 eD7
                refine x_iconst (v := (1 : Int32)) rfl rfl ?_
                exact x_zr rfl (Or.inr rfl) rfl h
              · have h := h.2 c
                refine x_iconst (v := (0 : Int32)) rfl rfl ?_
                exact x_zr rfl (Or.inl rfl) rfl h
          · have h := h.2 c
            refine x_bipush (v := (13 : Int32)) rfl rfl ?_
            refine x_goto (tgt := 204) rfl rfl ?_
            refine x_vi lm_M_205 vf_M_take k0 rfl rfl (Nat.le_of_ble_eq_true rfl) rfl h (fun r9 D8 h => ?_)
            refine x_if_ne (tgt := 212) rfl rfl (fun c => ?_) (fun c => ?_)
            · have h := h.1 c
              refine x_aload_n rfl rfl ?_
              refine x_gR lf_M_41 k0 rfl rfl ?_
              refine x_iload rfl rfl ?_
              refine x_aload_n rfl rfl ?_
              refine x_gR lf_M_44 k0 rfl rfl ?_
              refine x_iconst (v := (0 : Int32)) rfl rfl ?_
              refine x_iald (ck_13_21 k0) (xlt (ck_13_21 k0) (by decide)) h.1 rfl ?_
              have h := h.2
              refine x_iastn (ck_13_20 k0) h.1 rfl (fun D10 eD10 => ?_)
              have h := h.2 D10 eD10
              refine x_iconst (v := (1 : Int32)) rfl rfl ?_
              exact x_zr rfl (Or.inr rfl) rfl h
            · have h := h.2 c
              refine x_iconst (v := (0 : Int32)) rfl rfl ?_
              exact x_zr rfl (Or.inl rfl) rfl h
        · have h := h.2 c
          refine x_iload rfl rfl ?_
          refine x_iconst (v := (2 : Int32)) rfl rfl ?_
          refine x_icmp_ne (tgt := 171) rfl rfl (fun c => ?_) (fun c => ?_)
          · have h := h.1 c
            refine x_iload rfl rfl ?_
            refine x_iconst (v := (4 : Int32)) rfl rfl ?_
            refine x_icmp_ne (tgt := 181) rfl rfl (fun c => ?_) (fun c => ?_)
            · have h := h.1 c
              refine x_iconst (v := (1 : Int32)) rfl rfl ?_
              refine x_iload rfl rfl ?_
              refine x_if_ne (tgt := 192) rfl rfl (fun c => ?_) (fun c => ?_)
              · have h := h.1 c
                refine x_iload rfl rfl ?_
                refine x_iconst (v := (3 : Int32)) rfl rfl ?_
                refine x_icmp_ge (tgt := 202) rfl rfl (fun c => ?_) (fun c => ?_)
                · have h := h.1 c
                  refine x_bipush (v := (9 : Int32)) rfl rfl ?_
                  refine x_vi lm_M_205 vf_M_take k0 rfl rfl (Nat.le_of_ble_eq_true rfl) rfl h (fun r12 D11 h => ?_)
                  refine x_if_ne (tgt := 212) rfl rfl (fun c => ?_) (fun c => ?_)
                  · have h := h.1 c
                    refine x_aload_n rfl rfl ?_
                    refine x_gR lf_M_41 k0 rfl rfl ?_
                    refine x_iload rfl rfl ?_
                    refine x_aload_n rfl rfl ?_
                    refine x_gR lf_M_44 k0 rfl rfl ?_
                    refine x_iconst (v := (0 : Int32)) rfl rfl ?_
                    refine x_iald (ck_13_21 k0) (xlt (ck_13_21 k0) (by decide)) h.1 rfl ?_
                    have h := h.2
                    refine x_iastn (ck_13_20 k0) h.1 rfl (fun D13 eD13 => ?_)
                    have h := h.2 D13 eD13
                    refine x_iconst (v := (1 : Int32)) rfl rfl ?_
                    exact x_zr rfl (Or.inr rfl) rfl h
                  · have h := h.2 c
                    refine x_iconst (v := (0 : Int32)) rfl rfl ?_
                    exact x_zr rfl (Or.inl rfl) rfl h
                · have h := h.2 c
                  refine x_iconst (v := (4 : Int32)) rfl rfl ?_
                  refine x_goto (tgt := 204) rfl rfl ?_
                  refine x_vi lm_M_205 vf_M_take k0 rfl rfl (Nat.le_of_ble_eq_true rfl) rfl h (fun r15 D14 h => ?_)
                  refine x_if_ne (tgt := 212) rfl rfl (fun c => ?_) (fun c => ?_)
                  · have h := h.1 c
                    refine x_aload_n rfl rfl ?_
                    refine x_gR lf_M_41 k0 rfl rfl ?_
                    refine x_iload rfl rfl ?_
                    refine x_aload_n rfl rfl ?_
                    refine x_gR lf_M_44 k0 rfl rfl ?_
                    refine x_iconst (v := (0 : Int32)) rfl rfl ?_
                    refine x_iald (ck_13_21 k0) (xlt (ck_13_21 k0) (by decide)) h.1 rfl ?_
                    have h := h.2
                    refine x_iastn (ck_13_20 k0) h.1 rfl (fun D16 eD16 => ?_)
                    have h := h.2 D16 eD16
                    refine x_iconst (v := (1 : Int32)) rfl rfl ?_
                    exact x_zr rfl (Or.inr rfl) rfl h
                  · have h := h.2 c
                    refine x_iconst (v := (0 : Int32)) rfl rfl ?_
                    exact x_zr rfl (Or.inl rfl) rfl h
              · have h := h.2 c
                refine x_bipush (v := (13 : Int32)) rfl rfl ?_
                refine x_goto (tgt := 204) rfl rfl ?_
                refine x_vi lm_M_205 vf_M_take k0 rfl rfl (Nat.le_of_ble_eq_true rfl) rfl h (fun r18 D17 h => ?_)
                refine x_if_ne (tgt := 212) rfl rfl (fun c => ?_) (fun c => ?_)
                · have h := h.1 c
                  refine x_aload_n rfl rfl ?_
                  refine x_gR lf_M_41 k0 rfl rfl ?_
                  refine x_iload rfl rfl ?_
                  refine x_aload_n rfl rfl ?_
                  refine x_gR lf_M_44 k0 rfl rfl ?_
                  refine x_iconst (v := (0 : Int32)) rfl rfl ?_
                  refine x_iald (ck_13_21 k0) (xlt (ck_13_21 k0) (by decide)) h.1 rfl ?_
                  have h := h.2
                  refine x_iastn (ck_13_20 k0) h.1 rfl (fun D19 eD19 => ?_)
                  have h := h.2 D19 eD19
                  refine x_iconst (v := (1 : Int32)) rfl rfl ?_
                  exact x_zr rfl (Or.inr rfl) rfl h
                · have h := h.2 c
                  refine x_iconst (v := (0 : Int32)) rfl rfl ?_
                  exact x_zr rfl (Or.inl rfl) rfl h
            · have h := h.2 c
              refine x_iconst (v := (0 : Int32)) rfl rfl ?_
              refine x_goto (tgt := 182) rfl rfl ?_
              refine x_iload rfl rfl ?_
              refine x_if_ne (tgt := 192) rfl rfl (fun c => ?_) (fun c => ?_)
              · have h := h.1 c
                refine x_iload rfl rfl ?_
                refine x_iconst (v := (3 : Int32)) rfl rfl ?_
                refine x_icmp_ge (tgt := 202) rfl rfl (fun c => ?_) (fun c => ?_)
                · have h := h.1 c
                  refine x_bipush (v := (9 : Int32)) rfl rfl ?_
                  refine x_vi lm_M_205 vf_M_take k0 rfl rfl (Nat.le_of_ble_eq_true rfl) rfl h (fun r21 D20 h => ?_)
                  refine x_if_ne (tgt := 212) rfl rfl (fun c => ?_) (fun c => ?_)
                  · have h := h.1 c
                    refine x_aload_n rfl rfl ?_
                    refine x_gR lf_M_41 k0 rfl rfl ?_
                    refine x_iload rfl rfl ?_
                    refine x_aload_n rfl rfl ?_
                    refine x_gR lf_M_44 k0 rfl rfl ?_
                    refine x_iconst (v := (0 : Int32)) rfl rfl ?_
                    refine x_iald (ck_13_21 k0) (xlt (ck_13_21 k0) (by decide)) h.1 rfl ?_
                    have h := h.2
                    refine x_iastn (ck_13_20 k0) h.1 rfl (fun D22 eD22 => ?_)
                    have h := h.2 D22 eD22
                    refine x_iconst (v := (1 : Int32)) rfl rfl ?_
                    exact x_zr rfl (Or.inr rfl) rfl h
                  · have h := h.2 c
                    refine x_iconst (v := (0 : Int32)) rfl rfl ?_
                    exact x_zr rfl (Or.inl rfl) rfl h
                · have h := h.2 c
                  refine x_iconst (v := (4 : Int32)) rfl rfl ?_
                  refine x_goto (tgt := 204) rfl rfl ?_
                  refine x_vi lm_M_205 vf_M_take k0 rfl rfl (Nat.le_of_ble_eq_true rfl) rfl h (fun r24 D23 h => ?_)
                  refine x_if_ne (tgt := 212) rfl rfl (fun c => ?_) (fun c => ?_)
                  · have h := h.1 c
                    refine x_aload_n rfl rfl ?_
                    refine x_gR lf_M_41 k0 rfl rfl ?_
                    refine x_iload rfl rfl ?_
                    refine x_aload_n rfl rfl ?_
                    refine x_gR lf_M_44 k0 rfl rfl ?_
                    refine x_iconst (v := (0 : Int32)) rfl rfl ?_
                    refine x_iald (ck_13_21 k0) (xlt (ck_13_21 k0) (by decide)) h.1 rfl ?_
                    have h := h.2
                    refine x_iastn (ck_13_20 k0) h.1 rfl (fun D25 eD25 => ?_)
                    have h := h.2 D25 eD25
                    refine x_iconst (v := (1 : Int32)) rfl rfl ?_
                    exact x_zr rfl (Or.inr rfl) rfl h
                  · have h := h.2 c
                    refine x_iconst (v := (0 : Int32)) rfl rfl ?_
                    exact x_zr rfl (Or.inl rfl) rfl h
              · have h := h.2 c
                refine x_bipush (v := (13 : Int32)) rfl rfl ?_
                refine x_goto (tgt := 204) rfl rfl ?_
                refine x_vi lm_M_205 vf_M_take k0 rfl rfl (Nat.le_of_ble_eq_true rfl) rfl h (fun r27 D26 h => ?_)
                refine x_if_ne (tgt := 212) rfl rfl (fun c => ?_) (fun c => ?_)
                · have h := h.1 c
                  refine x_aload_n rfl rfl ?_
                  refine x_gR lf_M_41 k0 rfl rfl ?_
                  refine x_iload rfl rfl ?_
                  refine x_aload_n rfl rfl ?_
                  refine x_gR lf_M_44 k0 rfl rfl ?_
                  refine x_iconst (v := (0 : Int32)) rfl rfl ?_
                  refine x_iald (ck_13_21 k0) (xlt (ck_13_21 k0) (by decide)) h.1 rfl ?_
                  have h := h.2
                  refine x_iastn (ck_13_20 k0) h.1 rfl (fun D28 eD28 => ?_)
                  have h := h.2 D28 eD28
                  refine x_iconst (v := (1 : Int32)) rfl rfl ?_
                  exact x_zr rfl (Or.inr rfl) rfl h
                · have h := h.2 c
                  refine x_iconst (v := (0 : Int32)) rfl rfl ?_
                  exact x_zr rfl (Or.inl rfl) rfl h
          · have h := h.2 c
            refine x_iconst (v := (2 : Int32)) rfl rfl ?_
            refine x_goto (tgt := 182) rfl rfl ?_
            refine x_iload rfl rfl ?_
            refine x_if_ne (tgt := 192) rfl rfl (fun c => ?_) (fun c => ?_)
            · have h := h.1 c
              refine x_iload rfl rfl ?_
              refine x_iconst (v := (3 : Int32)) rfl rfl ?_
              refine x_icmp_ge (tgt := 202) rfl rfl (fun c => ?_) (fun c => ?_)
              · have h := h.1 c
                refine x_bipush (v := (9 : Int32)) rfl rfl ?_
                refine x_vi lm_M_205 vf_M_take k0 rfl rfl (Nat.le_of_ble_eq_true rfl) rfl h (fun r30 D29 h => ?_)
                refine x_if_ne (tgt := 212) rfl rfl (fun c => ?_) (fun c => ?_)
                · have h := h.1 c
                  refine x_aload_n rfl rfl ?_
                  refine x_gR lf_M_41 k0 rfl rfl ?_
                  refine x_iload rfl rfl ?_
                  refine x_aload_n rfl rfl ?_
                  refine x_gR lf_M_44 k0 rfl rfl ?_
                  refine x_iconst (v := (0 : Int32)) rfl rfl ?_
                  refine x_iald (ck_13_21 k0) (xlt (ck_13_21 k0) (by decide)) h.1 rfl ?_
                  have h := h.2
                  refine x_iastn (ck_13_20 k0) h.1 rfl (fun D31 eD31 => ?_)
                  have h := h.2 D31 eD31
                  refine x_iconst (v := (1 : Int32)) rfl rfl ?_
                  exact x_zr rfl (Or.inr rfl) rfl h
                · have h := h.2 c
                  refine x_iconst (v := (0 : Int32)) rfl rfl ?_
                  exact x_zr rfl (Or.inl rfl) rfl h
              · have h := h.2 c
                refine x_iconst (v := (4 : Int32)) rfl rfl ?_
                refine x_goto (tgt := 204) rfl rfl ?_
                refine x_vi lm_M_205 vf_M_take k0 rfl rfl (Nat.le_of_ble_eq_true rfl) rfl h (fun r33 D32 h => ?_)
                refine x_if_ne (tgt := 212) rfl rfl (fun c => ?_) (fun c => ?_)
                · have h := h.1 c
                  refine x_aload_n rfl rfl ?_
                  refine x_gR lf_M_41 k0 rfl rfl ?_
                  refine x_iload rfl rfl ?_
                  refine x_aload_n rfl rfl ?_
                  refine x_gR lf_M_44 k0 rfl rfl ?_
                  refine x_iconst (v := (0 : Int32)) rfl rfl ?_
                  refine x_iald (ck_13_21 k0) (xlt (ck_13_21 k0) (by decide)) h.1 rfl ?_
                  have h := h.2
                  refine x_iastn (ck_13_20 k0) h.1 rfl (fun D34 eD34 => ?_)
                  have h := h.2 D34 eD34
                  refine x_iconst (v := (1 : Int32)) rfl rfl ?_
                  exact x_zr rfl (Or.inr rfl) rfl h
                · have h := h.2 c
                  refine x_iconst (v := (0 : Int32)) rfl rfl ?_
                  exact x_zr rfl (Or.inl rfl) rfl h
            · have h := h.2 c
              refine x_bipush (v := (13 : Int32)) rfl rfl ?_
              refine x_goto (tgt := 204) rfl rfl ?_
              refine x_vi lm_M_205 vf_M_take k0 rfl rfl (Nat.le_of_ble_eq_true rfl) rfl h (fun r36 D35 h => ?_)
              refine x_if_ne (tgt := 212) rfl rfl (fun c => ?_) (fun c => ?_)
              · have h := h.1 c
                refine x_aload_n rfl rfl ?_
                refine x_gR lf_M_41 k0 rfl rfl ?_
                refine x_iload rfl rfl ?_
                refine x_aload_n rfl rfl ?_
                refine x_gR lf_M_44 k0 rfl rfl ?_
                refine x_iconst (v := (0 : Int32)) rfl rfl ?_
                refine x_iald (ck_13_21 k0) (xlt (ck_13_21 k0) (by decide)) h.1 rfl ?_
                have h := h.2
                refine x_iastn (ck_13_20 k0) h.1 rfl (fun D37 eD37 => ?_)
                have h := h.2 D37 eD37
                refine x_iconst (v := (1 : Int32)) rfl rfl ?_
                exact x_zr rfl (Or.inr rfl) rfl h
              · have h := h.2 c
                refine x_iconst (v := (0 : Int32)) rfl rfl ?_
                exact x_zr rfl (Or.inl rfl) rfl h
      · have h := h.2 c
        refine x_aload_n rfl rfl ?_
        refine x_iconst (v := (0 : Int32)) rfl rfl ?_
        refine x_iconst (v := (0 : Int32)) rfl rfl ?_
        refine x_iconst (v := (5 : Int32)) rfl rfl ?_
        refine x_vi lm_M_205 vf_M_take k0 rfl rfl (Nat.le_of_ble_eq_true rfl) rfl h (fun r39 D38 h => ?_)
        refine x_if_ne (tgt := 107) rfl rfl (fun c => ?_) (fun c => ?_)
        · have h := h.1 c
          refine x_aload_n rfl rfl ?_
          refine x_aload_n rfl rfl ?_
          refine x_gI lf_M_208 k0 rfl rfl ?_
          refine x_aload_n rfl rfl ?_
          refine x_gR lf_M_44 k0 rfl rfl ?_
          refine x_iconst (v := (0 : Int32)) rfl rfl ?_
          refine x_iald (ck_13_21 k0) (xlt (ck_13_21 k0) (by decide)) h.1 rfl ?_
          have h := h.2
          refine x_si lm_M_211 sf_M_greater rfl rfl (Nat.le_of_ble_eq_true rfl) rfl h (fun r41 D40 h => ?_)
          refine x_pIn lp_M_208 nf_13_22 k0 rfl rfl (fun D42 eD42 => ?_)
          have h := h D42 eD42
          refine x_aload_n rfl rfl ?_
          refine x_gI lf_M_191 k0 rfl rfl ?_
          refine x_if_eq (tgt := 152) rfl rfl (fun c => ?_) (fun c => ?_)
          · have h := h.1 c
            refine x_iconst (v := (1 : Int32)) rfl rfl ?_
            exact x_zr rfl (Or.inr rfl) rfl h
          · have h := h.2 c
            refine x_aload_n rfl rfl ?_
            refine x_gR lf_M_41 k0 rfl rfl ?_
            refine x_bipush (v := (6 : Int32)) rfl rfl ?_
            refine x_bipush (v := (7 : Int32)) rfl rfl ?_
            refine x_aload_n rfl rfl ?_
            refine x_gR lf_M_44 k0 rfl rfl ?_
            refine x_iconst (v := (0 : Int32)) rfl rfl ?_
            refine x_iald (ck_13_21 k0) (xlt (ck_13_21 k0) (by decide)) h.1 rfl ?_
            have h := h.2
            refine x_imul rfl ?_
            refine x_iadd rfl ?_
            refine x_bipush (v := (6 : Int32)) rfl rfl ?_
            refine x_iadd rfl ?_
            refine x_iconst (v := (1 : Int32)) rfl rfl ?_
            refine x_iastn (ck_13_20 k0) h.1 rfl (fun D43 eD43 => ?_)
            have h := h.2 D43 eD43
            refine x_iconst (v := (1 : Int32)) rfl rfl ?_
            exact x_zr rfl (Or.inr rfl) rfl h
        · have h := h.2 c
          refine x_iconst (v := (0 : Int32)) rfl rfl ?_
          exact x_zr rfl (Or.inl rfl) rfl h
    · have h := h.2 c
      refine x_aload_n rfl rfl ?_
      refine x_vi lm_M_253 vf_M_lawLine k0 rfl rfl (Nat.le_of_ble_eq_true rfl) rfl h (fun r45 D44 h => ?_)
      exact x_zr rfl h.1 rfl h.2
  · have h := h.2 c
    refine x_aload_n rfl rfl ?_
    refine x_vi lm_M_250 vf_M_personLine k0 rfl rfl (Nat.le_of_ble_eq_true rfl) rfl h (fun r47 D46 h => ?_)
    exact x_zr rfl h.1 rfl h.2
theorem s_M_kindsLine_0 {d : Nat} {D : xD} {Q : Option Value → xD → Prop} {a0 : Nat} {x1 : Int32} {x2 : Int32} {x3 : Int32} (k0 : xk a0 = 13) (h : xCv d m_M_full [.ref a0, .int x1, .int x3, .int (D.1 a0 13)] D (fun D1 => xCi d m_M_take [.ref a0, .int (0 : Int32), .int (0 : Int32), .int (12 : Int32)] D1 (fun r3 D2 => (¬ r3 = 0 → vp_in x1 (xl (a0 + 11)) ∧ (x3 ≤ (D2.1 (a0 + 11) (x1 : Int32).toNatClampNeg) → ((D2.1 a0 14) = (3 : Int32) → xPf (d + 1) m_M_kindsLine 0 [(0, .ref a0), (1, .int x1), (2, .int x2), (3, .int x3)] [] D2 Q) ∧ (¬ (D2.1 a0 14) = (3 : Int32) → Q (some (.int (1 : Int32))) D2)) ∧ (¬ x3 ≤ (D2.1 (a0 + 11) (x1 : Int32).toNatClampNeg) → vp_in x1 (xl (a0 + 11)) ∧ vp_in (0 : Int32) (xl (a0 + 12)) ∧ vp_in (x2 + (D2.1 (a0 + 11) (x1 : Int32).toNatClampNeg)) (xl (a0 + 11)) ∧ ∀ D4 : xD, D4 = (xu D2.1 (a0 + 11) (x2 + (D2.1 (a0 + 11) (x1 : Int32).toNatClampNeg) : Int32).toNatClampNeg (D2.1 (a0 + 12) ((0 : Int32) : Int32).toNatClampNeg), D2.2) → vp_in x1 (xl (a0 + 11)) ∧ vp_in x1 (xl (a0 + 11)) ∧ ∀ D5 : xD, D5 = (xu D4.1 (a0 + 11) (x1 : Int32).toNatClampNeg ((D4.1 (a0 + 11) (x1 : Int32).toNatClampNeg) + (1 : Int32)), D4.2) → ((D5.1 a0 14) = (3 : Int32) → xPf (d + 1) m_M_kindsLine 0 [(0, .ref a0), (1, .int x1), (2, .int x2), (3, .int x3)] [] D5 Q) ∧ (¬ (D5.1 a0 14) = (3 : Int32) → Q (some (.int (1 : Int32))) D5))) ∧ (r3 = 0 → Q (some (.int (0 : Int32))) D2)))) : xPf (d + 1) m_M_kindsLine 0 [(0, .ref a0), (1, .int x1), (2, .int x2), (3, .int x3)] [] D Q := by
  refine x_aload_n rfl rfl ?_
  refine x_iload_n rfl rfl ?_
  refine x_iload_n rfl rfl ?_
  refine x_aload_n rfl rfl ?_
  refine x_gI lf_M_165 k0 rfl rfl ?_
  refine x_vv lm_M_246 vf_M_full k0 rfl rfl (Nat.le_of_ble_eq_true rfl) rfl h (fun D1 h => ?_)
  refine x_aload_n rfl rfl ?_
  refine x_iconst (v := (0 : Int32)) rfl rfl ?_
  refine x_iconst (v := (0 : Int32)) rfl rfl ?_
  refine x_bipush (v := (12 : Int32)) rfl rfl ?_
  refine x_vi lm_M_205 vf_M_take k0 rfl rfl (Nat.le_of_ble_eq_true rfl) rfl h (fun r3 D2 h => ?_)
  refine x_if_ne (tgt := 23) rfl rfl (fun c => ?_) (fun c => ?_)
  · have h := h.1 c
    refine x_aload_n rfl rfl ?_
    refine x_gR lf_M_41 k0 rfl rfl ?_
    refine x_iload_n rfl rfl ?_
    refine x_iald (ck_13_20 k0) (xlt (ck_13_20 k0) (by decide)) h.1 rfl ?_
    have h := h.2
    refine x_iload_n rfl rfl ?_
    refine x_icmp_ge (tgt := 62) rfl rfl (fun c => ?_) (fun c => ?_)
    · have h := h.1 c
      refine x_aload_n rfl rfl ?_
      refine x_gI lf_M_172 k0 rfl rfl ?_
      refine x_iconst (v := (3 : Int32)) rfl rfl ?_
      refine x_icmp_eq (tgt := 0) rfl rfl (fun c => ?_) (fun c => ?_)
      · have h := h.1 c
        exact h
      · have h := h.2 c
        refine x_iconst (v := (1 : Int32)) rfl rfl ?_
        exact x_zr rfl (Or.inr rfl) rfl h
    · have h := h.2 c
      refine x_aload_n rfl rfl ?_
      refine x_gR lf_M_41 k0 rfl rfl ?_
      refine x_iload_n rfl rfl ?_
      refine x_aload_n rfl rfl ?_
      refine x_gR lf_M_41 k0 rfl rfl ?_
      refine x_iload_n rfl rfl ?_
      refine x_iald (ck_13_20 k0) (xlt (ck_13_20 k0) (by decide)) h.1 rfl ?_
      have h := h.2
      refine x_iadd rfl ?_
      refine x_aload_n rfl rfl ?_
      refine x_gR lf_M_44 k0 rfl rfl ?_
      refine x_iconst (v := (0 : Int32)) rfl rfl ?_
      refine x_iald (ck_13_21 k0) (xlt (ck_13_21 k0) (by decide)) h.1 rfl ?_
      have h := h.2
      refine x_iastn (ck_13_20 k0) h.1 rfl (fun D4 eD4 => ?_)
      have h := h.2 D4 eD4
      refine x_aload_n rfl rfl ?_
      refine x_gR lf_M_41 k0 rfl rfl ?_
      refine x_iload_n rfl rfl ?_
      refine x_dup2 rfl rfl rfl ?_
      refine x_iald (ck_13_20 k0) (xlt (ck_13_20 k0) (by decide)) h.1 rfl ?_
      have h := h.2
      refine x_iconst (v := (1 : Int32)) rfl rfl ?_
      refine x_iadd rfl ?_
      refine x_iastn (ck_13_20 k0) h.1 rfl (fun D5 eD5 => ?_)
      have h := h.2 D5 eD5
      refine x_aload_n rfl rfl ?_
      refine x_gI lf_M_172 k0 rfl rfl ?_
      refine x_iconst (v := (3 : Int32)) rfl rfl ?_
      refine x_icmp_eq (tgt := 0) rfl rfl (fun c => ?_) (fun c => ?_)
      · have h := h.1 c
        exact h
      · have h := h.2 c
        refine x_iconst (v := (1 : Int32)) rfl rfl ?_
        exact x_zr rfl (Or.inr rfl) rfl h
  · have h := h.2 c
    refine x_iconst (v := (0 : Int32)) rfl rfl ?_
    exact x_zr rfl (Or.inl rfl) rfl h
theorem s_M_heapLine_0 {d : Nat} {D : xD} {Q : Option Value → xD → Prop} {a0 : Nat} {x1 : Int64} (k0 : xk a0 = 13) (h : ((lg_cmp x1 (426836649075 : Int64)) = 0 → xCv d m_M_token [.ref a0] D (fun D1 => xCi d m_M_kindsLine [.ref a0, .int (0 : Int32), .int (1 : Int32), .int (52 : Int32)] D1 (fun r3 D2 => (r3 = 0 ∨ r3 = 1) ∧ Q (some (.int r3)) D2))) ∧ (¬ (lg_cmp x1 (426836649075 : Int64)) = 0 → xCi d m_M_fails [.ref a0] D (fun r5 D4 => (r5 = 0 ∨ r5 = 1) ∧ Q (some (.int r5)) D4))) : xPf (d + 1) m_M_heapLine 0 [(0, .ref a0), (1, .long x1)] [] D Q := by
  refine x_lload_n rfl rfl ?_
  refine x_ldc2 wd_1867 rfl ?_
  refine x_lcmp rfl ?_
  refine x_if_eq (tgt := 13) rfl rfl (fun c => ?_) (fun c => ?_)
  · have h := h.1 c
    refine x_aload_n rfl rfl ?_
    refine x_vv lm_M_202 vf_M_token k0 rfl rfl (Nat.le_of_ble_eq_true rfl) rfl h (fun D1 h => ?_)
    refine x_aload_n rfl rfl ?_
    refine x_iconst (v := (0 : Int32)) rfl rfl ?_
    refine x_iconst (v := (1 : Int32)) rfl rfl ?_
    refine x_bipush (v := (52 : Int32)) rfl rfl ?_
    refine x_vi lm_M_258 vf_M_kindsLine k0 rfl rfl (Nat.le_of_ble_eq_true rfl) rfl h (fun r3 D2 h => ?_)
    exact x_zr rfl h.1 rfl h.2
  · have h := h.2 c
    refine x_aload_n rfl rfl ?_
    refine x_vi lm_M_195 vf_M_fails k0 rfl rfl (Nat.le_of_ble_eq_true rfl) rfl h (fun r5 D4 h => ?_)
    exact x_zr rfl h.1 rfl h.2
theorem s_M_handLine_0 {d : Nat} {D : xD} {Q : Option Value → xD → Prop} {a0 : Nat} {x1 : Int64} (k0 : xk a0 = 13) (h : ((lg_cmp x1 (1752132708 : Int64)) = 0 → xCv d m_M_token [.ref a0] D (fun D1 => (¬ (lg_cmp x1 (1752132708 : Int64)) = 0 → xCi d m_M_kindsLine [.ref a0, .int (1 : Int32), .int (6 : Int32), .int (48 : Int32)] D1 (fun r3 D2 => (r3 = 0 ∨ r3 = 1) ∧ Q (some (.int r3)) D2)) ∧ ((lg_cmp x1 (1752132708 : Int64)) = 0 → xCi d m_M_kindsLine [.ref a0, .int (0 : Int32), .int (2 : Int32), .int (4 : Int32)] D1 (fun r5 D4 => (r5 = 0 ∨ r5 = 1) ∧ Q (some (.int r5)) D4)))) ∧ (¬ (lg_cmp x1 (1752132708 : Int64)) = 0 → ((lg_cmp x1 (1735356005 : Int64)) = 0 → xCv d m_M_token [.ref a0] D (fun D6 => (¬ (lg_cmp x1 (1752132708 : Int64)) = 0 → xCi d m_M_kindsLine [.ref a0, .int (1 : Int32), .int (6 : Int32), .int (48 : Int32)] D6 (fun r8 D7 => (r8 = 0 ∨ r8 = 1) ∧ Q (some (.int r8)) D7)) ∧ ((lg_cmp x1 (1752132708 : Int64)) = 0 → xCi d m_M_kindsLine [.ref a0, .int (0 : Int32), .int (2 : Int32), .int (4 : Int32)] D6 (fun r10 D9 => (r10 = 0 ∨ r10 = 1) ∧ Q (some (.int r10)) D9)))) ∧ (¬ (lg_cmp x1 (1735356005 : Int64)) = 0 → xCi d m_M_fails [.ref a0] D (fun r12 D11 => (r12 = 0 ∨ r12 = 1) ∧ Q (some (.int r12)) D11)))) : xPf (d + 1) m_M_handLine 0 [(0, .ref a0), (1, .long x1)] [] D Q := by
  refine x_lload_n rfl rfl ?_
  refine x_ldc2 wd_1888 rfl ?_
  refine x_lcmp rfl ?_
  refine x_if_eq (tgt := 21) rfl rfl (fun c => ?_) (fun c => ?_)
  · have h := h.1 c
    refine x_aload_n rfl rfl ?_
    refine x_vv lm_M_202 vf_M_token k0 rfl rfl (Nat.le_of_ble_eq_true rfl) rfl h (fun D1 h => ?_)
    refine x_lload_n rfl rfl ?_
    refine x_ldc2 wd_1888 rfl ?_
    refine x_lcmp rfl ?_
    refine x_if_ne (tgt := 43) rfl rfl (fun c => ?_) (fun c => ?_)
    · have h := h.1 c
      refine x_aload_n rfl rfl ?_
      refine x_iconst (v := (1 : Int32)) rfl rfl ?_
      refine x_bipush (v := (6 : Int32)) rfl rfl ?_
      refine x_bipush (v := (48 : Int32)) rfl rfl ?_
      refine x_vi lm_M_258 vf_M_kindsLine k0 rfl rfl (Nat.le_of_ble_eq_true rfl) rfl h (fun r3 D2 h => ?_)
      exact x_zr rfl h.1 rfl h.2
    · have h := h.2 c
      refine x_aload_n rfl rfl ?_
      refine x_iconst (v := (0 : Int32)) rfl rfl ?_
      refine x_iconst (v := (2 : Int32)) rfl rfl ?_
      refine x_iconst (v := (4 : Int32)) rfl rfl ?_
      refine x_vi lm_M_258 vf_M_kindsLine k0 rfl rfl (Nat.le_of_ble_eq_true rfl) rfl h (fun r5 D4 h => ?_)
      refine x_goto (tgt := 52) rfl rfl ?_
      exact x_zr rfl h.1 rfl h.2
  · have h := h.2 c
    refine x_lload_n rfl rfl ?_
    refine x_ldc2 wd_1889 rfl ?_
    refine x_lcmp rfl ?_
    refine x_if_eq (tgt := 21) rfl rfl (fun c => ?_) (fun c => ?_)
    · have h := h.1 c
      refine x_aload_n rfl rfl ?_
      refine x_vv lm_M_202 vf_M_token k0 rfl rfl (Nat.le_of_ble_eq_true rfl) rfl h (fun D6 h => ?_)
      refine x_lload_n rfl rfl ?_
      refine x_ldc2 wd_1888 rfl ?_
      refine x_lcmp rfl ?_
      refine x_if_ne (tgt := 43) rfl rfl (fun c => ?_) (fun c => ?_)
      · have h := h.1 c
        refine x_aload_n rfl rfl ?_
        refine x_iconst (v := (1 : Int32)) rfl rfl ?_
        refine x_bipush (v := (6 : Int32)) rfl rfl ?_
        refine x_bipush (v := (48 : Int32)) rfl rfl ?_
        refine x_vi lm_M_258 vf_M_kindsLine k0 rfl rfl (Nat.le_of_ble_eq_true rfl) rfl h (fun r8 D7 h => ?_)
        exact x_zr rfl h.1 rfl h.2
      · have h := h.2 c
        refine x_aload_n rfl rfl ?_
        refine x_iconst (v := (0 : Int32)) rfl rfl ?_
        refine x_iconst (v := (2 : Int32)) rfl rfl ?_
        refine x_iconst (v := (4 : Int32)) rfl rfl ?_
        refine x_vi lm_M_258 vf_M_kindsLine k0 rfl rfl (Nat.le_of_ble_eq_true rfl) rfl h (fun r10 D9 h => ?_)
        refine x_goto (tgt := 52) rfl rfl ?_
        exact x_zr rfl h.1 rfl h.2
    · have h := h.2 c
      refine x_aload_n rfl rfl ?_
      refine x_vi lm_M_195 vf_M_fails k0 rfl rfl (Nat.le_of_ble_eq_true rfl) rfl h (fun r12 D11 h => ?_)
      exact x_zr rfl h.1 rfl h.2
theorem s_M_deedBy_0 {d : Nat} {D : xD} {Q : Option Value → xD → Prop} {x0 : Int64}  (h : (¬ (lg_cmp x0 (1952541541 : Int64)) = 0 → (¬ (lg_cmp x0 (1751215716 : Int64)) = 0 → (¬ (lg_cmp x0 (491327153000 : Int64)) = 0 → (¬ (lg_cmp x0 (439788072564 : Int64)) = 0 → (¬ (lg_cmp x0 (1885434739 : Int64)) = 0 → Q (some (.int (-1 : Int32))) D) ∧ ((lg_cmp x0 (1885434739 : Int64)) = 0 → Q (some (.int (4 : Int32))) D)) ∧ ((lg_cmp x0 (439788072564 : Int64)) = 0 → Q (some (.int (3 : Int32))) D)) ∧ ((lg_cmp x0 (491327153000 : Int64)) = 0 → Q (some (.int (2 : Int32))) D)) ∧ ((lg_cmp x0 (1751215716 : Int64)) = 0 → Q (some (.int (1 : Int32))) D)) ∧ ((lg_cmp x0 (1952541541 : Int64)) = 0 → Q (some (.int (0 : Int32))) D)) : xPf (d + 1) m_M_deedBy 0 [(0, .long x0)] [] D Q := by
  refine x_lload_n rfl rfl ?_
  refine x_ldc2 wd_1879 rfl ?_
  refine x_lcmp rfl ?_
  refine x_if_ne (tgt := 12) rfl rfl (fun c => ?_) (fun c => ?_)
  · have h := h.1 c
    refine x_lload_n rfl rfl ?_
    refine x_ldc2 wd_1880 rfl ?_
    refine x_lcmp rfl ?_
    refine x_if_ne (tgt := 24) rfl rfl (fun c => ?_) (fun c => ?_)
    · have h := h.1 c
      refine x_lload_n rfl rfl ?_
      refine x_ldc2 wd_1881 rfl ?_
      refine x_lcmp rfl ?_
      refine x_if_ne (tgt := 36) rfl rfl (fun c => ?_) (fun c => ?_)
      · have h := h.1 c
        refine x_lload_n rfl rfl ?_
        refine x_ldc2 wd_1882 rfl ?_
        refine x_lcmp rfl ?_
        refine x_if_ne (tgt := 48) rfl rfl (fun c => ?_) (fun c => ?_)
        · have h := h.1 c
          refine x_lload_n rfl rfl ?_
          refine x_ldc2 wd_1883 rfl ?_
          refine x_lcmp rfl ?_
          refine x_if_ne (tgt := 60) rfl rfl (fun c => ?_) (fun c => ?_)
          · have h := h.1 c
            refine x_iconst (v := (-1 : Int32)) rfl rfl ?_
            exact x_iret rfl rfl h
          · have h := h.2 c
            refine x_iconst (v := (4 : Int32)) rfl rfl ?_
            refine x_goto (tgt := 61) rfl rfl ?_
            exact x_iret rfl rfl h
        · have h := h.2 c
          refine x_iconst (v := (3 : Int32)) rfl rfl ?_
          refine x_goto (tgt := 61) rfl rfl ?_
          exact x_iret rfl rfl h
      · have h := h.2 c
        refine x_iconst (v := (2 : Int32)) rfl rfl ?_
        refine x_goto (tgt := 61) rfl rfl ?_
        exact x_iret rfl rfl h
    · have h := h.2 c
      refine x_iconst (v := (1 : Int32)) rfl rfl ?_
      refine x_goto (tgt := 61) rfl rfl ?_
      exact x_iret rfl rfl h
  · have h := h.2 c
    refine x_iconst (v := (0 : Int32)) rfl rfl ?_
    refine x_goto (tgt := 61) rfl rfl ?_
    exact x_iret rfl rfl h
theorem s_M_bookLine_0 {d : Nat} {D : xD} {Q : Option Value → xD → Prop} {a0 : Nat} {x1 : Int64} {x3 : Int32} (k0 : xk a0 = 13) (h : xCi d m_M_deedBy [.long x1] D (fun r2 D1 => (¬ r2 = (-1 : Int32) → xCv d m_M_full [.ref a0, .int (0 : Int32), .int (40 : Int32), .int x3] D1 (fun D3 => xCv d m_M_token [.ref a0] D3 (fun D4 => vp_in (1 : Int32) (xl (a0 + 12)) ∧ ∀ D5 : xD, D5 = (xu D4.1 (a0 + 12) ((1 : Int32) : Int32).toNatClampNeg (-1 : Int32), D4.2) → (¬ r2 = (4 : Int32) → (¬ r2 = (4 : Int32) → xCi d m_M_take [.ref a0, .int (0 : Int32), .int (0 : Int32), .int (5 : Int32)] D5 (fun r7 D6 => (r7 = 0 → Q (some (.int (0 : Int32))) D6) ∧ (¬ r7 = 0 → (¬ r2 = (1 : Int32) → xPf (d + 1) m_M_bookLine 86 [(0, .ref a0), (1, .long x1), (3, .int x3), (4, .int r2)] [] D6 Q) ∧ (r2 = (1 : Int32) → xCi d m_M_take [.ref a0, .int (1 : Int32), .int (0 : Int32), .int (12 : Int32)] D6 (fun r9 D8 => (¬ r9 = 0 → xPf (d + 1) m_M_bookLine 86 [(0, .ref a0), (1, .long x1), (3, .int x3), (4, .int r2)] [] D8 Q) ∧ (r9 = 0 → Q (some (.int (0 : Int32))) D8)))))) ∧ (r2 = (4 : Int32) → xCi d m_M_take [.ref a0, .int (0 : Int32), .int (0 : Int32), .int (9 : Int32)] D5 (fun r11 D10 => (r11 = 0 → Q (some (.int (0 : Int32))) D10) ∧ (¬ r11 = 0 → (¬ r2 = (1 : Int32) → xPf (d + 1) m_M_bookLine 86 [(0, .ref a0), (1, .long x1), (3, .int x3), (4, .int r2)] [] D10 Q) ∧ (r2 = (1 : Int32) → xCi d m_M_take [.ref a0, .int (1 : Int32), .int (0 : Int32), .int (12 : Int32)] D10 (fun r13 D12 => (¬ r13 = 0 → xPf (d + 1) m_M_bookLine 86 [(0, .ref a0), (1, .long x1), (3, .int x3), (4, .int r2)] [] D12 Q) ∧ (r13 = 0 → Q (some (.int (0 : Int32))) D12))))))) ∧ (r2 = (4 : Int32) → (¬ r2 = (4 : Int32) → xCi d m_M_take [.ref a0, .int (0 : Int32), .int (1 : Int32), .int (5 : Int32)] D5 (fun r15 D14 => (r15 = 0 → Q (some (.int (0 : Int32))) D14) ∧ (¬ r15 = 0 → (¬ r2 = (1 : Int32) → xPf (d + 1) m_M_bookLine 86 [(0, .ref a0), (1, .long x1), (3, .int x3), (4, .int r2)] [] D14 Q) ∧ (r2 = (1 : Int32) → xCi d m_M_take [.ref a0, .int (1 : Int32), .int (0 : Int32), .int (12 : Int32)] D14 (fun r17 D16 => (¬ r17 = 0 → xPf (d + 1) m_M_bookLine 86 [(0, .ref a0), (1, .long x1), (3, .int x3), (4, .int r2)] [] D16 Q) ∧ (r17 = 0 → Q (some (.int (0 : Int32))) D16)))))) ∧ (r2 = (4 : Int32) → xCi d m_M_take [.ref a0, .int (0 : Int32), .int (1 : Int32), .int (9 : Int32)] D5 (fun r19 D18 => (r19 = 0 → Q (some (.int (0 : Int32))) D18) ∧ (¬ r19 = 0 → (¬ r2 = (1 : Int32) → xPf (d + 1) m_M_bookLine 86 [(0, .ref a0), (1, .long x1), (3, .int x3), (4, .int r2)] [] D18 Q) ∧ (r2 = (1 : Int32) → xCi d m_M_take [.ref a0, .int (1 : Int32), .int (0 : Int32), .int (12 : Int32)] D18 (fun r21 D20 => (¬ r21 = 0 → xPf (d + 1) m_M_bookLine 86 [(0, .ref a0), (1, .long x1), (3, .int x3), (4, .int r2)] [] D20 Q) ∧ (r21 = 0 → Q (some (.int (0 : Int32))) D20)))))))))) ∧ (r2 = (-1 : Int32) → xCi d m_M_fails [.ref a0] D1 (fun r23 D22 => (r23 = 0 ∨ r23 = 1) ∧ Q (some (.int r23)) D22)))) : xPf (d + 1) m_M_bookLine 0 [(0, .ref a0), (1, .long x1), (3, .int x3)] [] D Q := by
  refine x_lload_n rfl rfl ?_
  refine x_si lm_M_275 sf_M_deedBy rfl rfl (Nat.le_of_ble_eq_true rfl) rfl h (fun r2 D1 h => ?_)
  refine x_istore (i := 4) (L1 := [(4, .int r2), (0, .ref a0), (1, .long x1), (3, .int x3)]) rfl (Nat.le_of_ble_eq_true rfl) rfl ?_
  refine x_iload rfl rfl ?_
  refine x_iconst (v := (-1 : Int32)) rfl rfl ?_
  refine x_icmp_ne (tgt := 17) rfl rfl (fun c => ?_) (fun c => ?_)
  · have h := h.1 c
    refine x_aload_n rfl rfl ?_
    refine x_iconst (v := (0 : Int32)) rfl rfl ?_
    refine x_bipush (v := (40 : Int32)) rfl rfl ?_
    refine x_iload_n rfl rfl ?_
    refine x_vv lm_M_246 vf_M_full k0 rfl rfl (Nat.le_of_ble_eq_true rfl) rfl h (fun D3 h => ?_)
    refine x_aload_n rfl rfl ?_
    refine x_vv lm_M_202 vf_M_token k0 rfl rfl (Nat.le_of_ble_eq_true rfl) rfl h (fun D4 h => ?_)
    refine x_aload_n rfl rfl ?_
    refine x_gR lf_M_44 k0 rfl rfl ?_
    refine x_iconst (v := (1 : Int32)) rfl rfl ?_
    refine x_iconst (v := (-1 : Int32)) rfl rfl ?_
    refine x_iastn (ck_13_21 k0) h.1 rfl (fun D5 eD5 => ?_)
    have h := h.2 D5 eD5
    refine x_aload_n rfl rfl ?_
    refine x_iconst (v := (0 : Int32)) rfl rfl ?_
    refine x_iload rfl rfl ?_
    refine x_iconst (v := (4 : Int32)) rfl rfl ?_
    refine x_icmp_ne (tgt := 48) rfl rfl (fun c => ?_) (fun c => ?_)
    · have h := h.1 c
      refine x_iconst (v := (0 : Int32)) rfl rfl ?_
      refine x_iload rfl rfl ?_
      refine x_iconst (v := (4 : Int32)) rfl rfl ?_
      refine x_icmp_ne (tgt := 60) rfl rfl (fun c => ?_) (fun c => ?_)
      · have h := h.1 c
        refine x_iconst (v := (5 : Int32)) rfl rfl ?_
        refine x_vi lm_M_205 vf_M_take k0 rfl rfl (Nat.le_of_ble_eq_true rfl) rfl h (fun r7 D6 h => ?_)
        refine x_if_eq (tgt := 84) rfl rfl (fun c => ?_) (fun c => ?_)
        · have h := h.1 c
          refine x_iconst (v := (0 : Int32)) rfl rfl ?_
          exact x_zr rfl (Or.inl rfl) rfl h
        · have h := h.2 c
          refine x_iload rfl rfl ?_
          refine x_iconst (v := (1 : Int32)) rfl rfl ?_
          refine x_icmp_ne (tgt := 86) rfl rfl (fun c => ?_) (fun c => ?_)
          · have h := h.1 c
            exact xP_sub [1, 2, 3, 0] rfl h
          · have h := h.2 c
            refine x_aload_n rfl rfl ?_
            refine x_iconst (v := (1 : Int32)) rfl rfl ?_
            refine x_iconst (v := (0 : Int32)) rfl rfl ?_
            refine x_bipush (v := (12 : Int32)) rfl rfl ?_
            refine x_vi lm_M_205 vf_M_take k0 rfl rfl (Nat.le_of_ble_eq_true rfl) rfl h (fun r9 D8 h => ?_)
            refine x_if_ne (tgt := 86) rfl rfl (fun c => ?_) (fun c => ?_)
            · have h := h.1 c
              exact xP_sub [1, 2, 3, 0] rfl h
            · have h := h.2 c
              refine x_iconst (v := (0 : Int32)) rfl rfl ?_
              exact x_zr rfl (Or.inl rfl) rfl h
      · have h := h.2 c
        refine x_bipush (v := (9 : Int32)) rfl rfl ?_
        refine x_goto (tgt := 61) rfl rfl ?_
        refine x_vi lm_M_205 vf_M_take k0 rfl rfl (Nat.le_of_ble_eq_true rfl) rfl h (fun r11 D10 h => ?_)
        refine x_if_eq (tgt := 84) rfl rfl (fun c => ?_) (fun c => ?_)
        · have h := h.1 c
          refine x_iconst (v := (0 : Int32)) rfl rfl ?_
          exact x_zr rfl (Or.inl rfl) rfl h
        · have h := h.2 c
          refine x_iload rfl rfl ?_
          refine x_iconst (v := (1 : Int32)) rfl rfl ?_
          refine x_icmp_ne (tgt := 86) rfl rfl (fun c => ?_) (fun c => ?_)
          · have h := h.1 c
            exact xP_sub [1, 2, 3, 0] rfl h
          · have h := h.2 c
            refine x_aload_n rfl rfl ?_
            refine x_iconst (v := (1 : Int32)) rfl rfl ?_
            refine x_iconst (v := (0 : Int32)) rfl rfl ?_
            refine x_bipush (v := (12 : Int32)) rfl rfl ?_
            refine x_vi lm_M_205 vf_M_take k0 rfl rfl (Nat.le_of_ble_eq_true rfl) rfl h (fun r13 D12 h => ?_)
            refine x_if_ne (tgt := 86) rfl rfl (fun c => ?_) (fun c => ?_)
            · have h := h.1 c
              exact xP_sub [1, 2, 3, 0] rfl h
            · have h := h.2 c
              refine x_iconst (v := (0 : Int32)) rfl rfl ?_
              exact x_zr rfl (Or.inl rfl) rfl h
    · have h := h.2 c
      refine x_iconst (v := (1 : Int32)) rfl rfl ?_
      refine x_goto (tgt := 49) rfl rfl ?_
      refine x_iload rfl rfl ?_
      refine x_iconst (v := (4 : Int32)) rfl rfl ?_
      refine x_icmp_ne (tgt := 60) rfl rfl (fun c => ?_) (fun c => ?_)
      · have h := h.1 c
        refine x_iconst (v := (5 : Int32)) rfl rfl ?_
        refine x_vi lm_M_205 vf_M_take k0 rfl rfl (Nat.le_of_ble_eq_true rfl) rfl h (fun r15 D14 h => ?_)
        refine x_if_eq (tgt := 84) rfl rfl (fun c => ?_) (fun c => ?_)
        · have h := h.1 c
          refine x_iconst (v := (0 : Int32)) rfl rfl ?_
          exact x_zr rfl (Or.inl rfl) rfl h
        · have h := h.2 c
          refine x_iload rfl rfl ?_
          refine x_iconst (v := (1 : Int32)) rfl rfl ?_
          refine x_icmp_ne (tgt := 86) rfl rfl (fun c => ?_) (fun c => ?_)
          · have h := h.1 c
            exact xP_sub [1, 2, 3, 0] rfl h
          · have h := h.2 c
            refine x_aload_n rfl rfl ?_
            refine x_iconst (v := (1 : Int32)) rfl rfl ?_
            refine x_iconst (v := (0 : Int32)) rfl rfl ?_
            refine x_bipush (v := (12 : Int32)) rfl rfl ?_
            refine x_vi lm_M_205 vf_M_take k0 rfl rfl (Nat.le_of_ble_eq_true rfl) rfl h (fun r17 D16 h => ?_)
            refine x_if_ne (tgt := 86) rfl rfl (fun c => ?_) (fun c => ?_)
            · have h := h.1 c
              exact xP_sub [1, 2, 3, 0] rfl h
            · have h := h.2 c
              refine x_iconst (v := (0 : Int32)) rfl rfl ?_
              exact x_zr rfl (Or.inl rfl) rfl h
      · have h := h.2 c
        refine x_bipush (v := (9 : Int32)) rfl rfl ?_
        refine x_goto (tgt := 61) rfl rfl ?_
        refine x_vi lm_M_205 vf_M_take k0 rfl rfl (Nat.le_of_ble_eq_true rfl) rfl h (fun r19 D18 h => ?_)
        refine x_if_eq (tgt := 84) rfl rfl (fun c => ?_) (fun c => ?_)
        · have h := h.1 c
          refine x_iconst (v := (0 : Int32)) rfl rfl ?_
          exact x_zr rfl (Or.inl rfl) rfl h
        · have h := h.2 c
          refine x_iload rfl rfl ?_
          refine x_iconst (v := (1 : Int32)) rfl rfl ?_
          refine x_icmp_ne (tgt := 86) rfl rfl (fun c => ?_) (fun c => ?_)
          · have h := h.1 c
            exact xP_sub [1, 2, 3, 0] rfl h
          · have h := h.2 c
            refine x_aload_n rfl rfl ?_
            refine x_iconst (v := (1 : Int32)) rfl rfl ?_
            refine x_iconst (v := (0 : Int32)) rfl rfl ?_
            refine x_bipush (v := (12 : Int32)) rfl rfl ?_
            refine x_vi lm_M_205 vf_M_take k0 rfl rfl (Nat.le_of_ble_eq_true rfl) rfl h (fun r21 D20 h => ?_)
            refine x_if_ne (tgt := 86) rfl rfl (fun c => ?_) (fun c => ?_)
            · have h := h.1 c
              exact xP_sub [1, 2, 3, 0] rfl h
            · have h := h.2 c
              refine x_iconst (v := (0 : Int32)) rfl rfl ?_
              exact x_zr rfl (Or.inl rfl) rfl h
  · have h := h.2 c
    refine x_aload_n rfl rfl ?_
    refine x_vi lm_M_195 vf_M_fails k0 rfl rfl (Nat.le_of_ble_eq_true rfl) rfl h (fun r23 D22 h => ?_)
    exact x_zr rfl h.1 rfl h.2
theorem s_M_bookLine_86 {d : Nat} {D : xD} {Q : Option Value → xD → Prop} {a0 : Nat} {x1 : Int64} {x3 : Int32} {x4 : Int32} (k0 : xk a0 = 13) (h : vp_in (0 : Int32) (xl (a0 + 11)) ∧ ((40 : Int32) ≤ (D.1 (a0 + 11) ((0 : Int32) : Int32).toNatClampNeg) → Q (some (.int (1 : Int32))) D) ∧ (¬ (40 : Int32) ≤ (D.1 (a0 + 11) ((0 : Int32) : Int32).toNatClampNeg) → vp_in (0 : Int32) (xl (a0 + 11)) ∧ vp_in ((1 : Int32) + ((3 : Int32) * (D.1 (a0 + 11) ((0 : Int32) : Int32).toNatClampNeg))) (xl (a0 + 11)) ∧ ∀ D1 : xD, D1 = (xu D.1 (a0 + 11) ((1 : Int32) + ((3 : Int32) * (D.1 (a0 + 11) ((0 : Int32) : Int32).toNatClampNeg)) : Int32).toNatClampNeg x4, D.2) → vp_in (0 : Int32) (xl (a0 + 11)) ∧ vp_in (0 : Int32) (xl (a0 + 12)) ∧ vp_in ((2 : Int32) + ((3 : Int32) * (D1.1 (a0 + 11) ((0 : Int32) : Int32).toNatClampNeg))) (xl (a0 + 11)) ∧ ∀ D2 : xD, D2 = (xu D1.1 (a0 + 11) ((2 : Int32) + ((3 : Int32) * (D1.1 (a0 + 11) ((0 : Int32) : Int32).toNatClampNeg)) : Int32).toNatClampNeg (D1.1 (a0 + 12) ((0 : Int32) : Int32).toNatClampNeg), D1.2) → vp_in (0 : Int32) (xl (a0 + 11)) ∧ vp_in (1 : Int32) (xl (a0 + 12)) ∧ vp_in ((3 : Int32) + ((3 : Int32) * (D2.1 (a0 + 11) ((0 : Int32) : Int32).toNatClampNeg))) (xl (a0 + 11)) ∧ ∀ D3 : xD, D3 = (xu D2.1 (a0 + 11) ((3 : Int32) + ((3 : Int32) * (D2.1 (a0 + 11) ((0 : Int32) : Int32).toNatClampNeg)) : Int32).toNatClampNeg (D2.1 (a0 + 12) ((1 : Int32) : Int32).toNatClampNeg), D2.2) → vp_in (0 : Int32) (xl (a0 + 11)) ∧ vp_in (0 : Int32) (xl (a0 + 11)) ∧ ∀ D4 : xD, D4 = (xu D3.1 (a0 + 11) ((0 : Int32) : Int32).toNatClampNeg ((D3.1 (a0 + 11) ((0 : Int32) : Int32).toNatClampNeg) + (1 : Int32)), D3.2) → Q (some (.int (1 : Int32))) D4)) : xPf (d + 1) m_M_bookLine 86 [(0, .ref a0), (1, .long x1), (3, .int x3), (4, .int x4)] [] D Q := by
  refine x_aload_n rfl rfl ?_
  refine x_gR lf_M_41 k0 rfl rfl ?_
  refine x_iconst (v := (0 : Int32)) rfl rfl ?_
  refine x_iald (ck_13_20 k0) (xlt (ck_13_20 k0) (by decide)) h.1 rfl ?_
  have h := h.2
  refine x_bipush (v := (40 : Int32)) rfl rfl ?_
  refine x_icmp_ge (tgt := 166) rfl rfl (fun c => ?_) (fun c => ?_)
  · have h := h.1 c
    refine x_iconst (v := (1 : Int32)) rfl rfl ?_
    exact x_zr rfl (Or.inr rfl) rfl h
  · have h := h.2 c
    refine x_aload_n rfl rfl ?_
    refine x_gR lf_M_41 k0 rfl rfl ?_
    refine x_iconst (v := (1 : Int32)) rfl rfl ?_
    refine x_iconst (v := (3 : Int32)) rfl rfl ?_
    refine x_aload_n rfl rfl ?_
    refine x_gR lf_M_41 k0 rfl rfl ?_
    refine x_iconst (v := (0 : Int32)) rfl rfl ?_
    refine x_iald (ck_13_20 k0) (xlt (ck_13_20 k0) (by decide)) h.1 rfl ?_
    have h := h.2
    refine x_imul rfl ?_
    refine x_iadd rfl ?_
    refine x_iload rfl rfl ?_
    refine x_iastn (ck_13_20 k0) h.1 rfl (fun D1 eD1 => ?_)
    have h := h.2 D1 eD1
    refine x_aload_n rfl rfl ?_
    refine x_gR lf_M_41 k0 rfl rfl ?_
    refine x_iconst (v := (2 : Int32)) rfl rfl ?_
    refine x_iconst (v := (3 : Int32)) rfl rfl ?_
    refine x_aload_n rfl rfl ?_
    refine x_gR lf_M_41 k0 rfl rfl ?_
    refine x_iconst (v := (0 : Int32)) rfl rfl ?_
    refine x_iald (ck_13_20 k0) (xlt (ck_13_20 k0) (by decide)) h.1 rfl ?_
    have h := h.2
    refine x_imul rfl ?_
    refine x_iadd rfl ?_
    refine x_aload_n rfl rfl ?_
    refine x_gR lf_M_44 k0 rfl rfl ?_
    refine x_iconst (v := (0 : Int32)) rfl rfl ?_
    refine x_iald (ck_13_21 k0) (xlt (ck_13_21 k0) (by decide)) h.1 rfl ?_
    have h := h.2
    refine x_iastn (ck_13_20 k0) h.1 rfl (fun D2 eD2 => ?_)
    have h := h.2 D2 eD2
    refine x_aload_n rfl rfl ?_
    refine x_gR lf_M_41 k0 rfl rfl ?_
    refine x_iconst (v := (3 : Int32)) rfl rfl ?_
    refine x_iconst (v := (3 : Int32)) rfl rfl ?_
    refine x_aload_n rfl rfl ?_
    refine x_gR lf_M_41 k0 rfl rfl ?_
    refine x_iconst (v := (0 : Int32)) rfl rfl ?_
    refine x_iald (ck_13_20 k0) (xlt (ck_13_20 k0) (by decide)) h.1 rfl ?_
    have h := h.2
    refine x_imul rfl ?_
    refine x_iadd rfl ?_
    refine x_aload_n rfl rfl ?_
    refine x_gR lf_M_44 k0 rfl rfl ?_
    refine x_iconst (v := (1 : Int32)) rfl rfl ?_
    refine x_iald (ck_13_21 k0) (xlt (ck_13_21 k0) (by decide)) h.1 rfl ?_
    have h := h.2
    refine x_iastn (ck_13_20 k0) h.1 rfl (fun D3 eD3 => ?_)
    have h := h.2 D3 eD3
    refine x_aload_n rfl rfl ?_
    refine x_gR lf_M_41 k0 rfl rfl ?_
    refine x_iconst (v := (0 : Int32)) rfl rfl ?_
    refine x_dup2 rfl rfl rfl ?_
    refine x_iald (ck_13_20 k0) (xlt (ck_13_20 k0) (by decide)) h.1 rfl ?_
    have h := h.2
    refine x_iconst (v := (1 : Int32)) rfl rfl ?_
    refine x_iadd rfl ?_
    refine x_iastn (ck_13_20 k0) h.1 rfl (fun D4 eD4 => ?_)
    have h := h.2 D4 eD4
    refine x_iconst (v := (1 : Int32)) rfl rfl ?_
    exact x_zr rfl (Or.inr rfl) rfl h
theorem s_M_filmLine_0 {d : Nat} {D : xD} {Q : Option Value → xD → Prop} {a0 : Nat} {x1 : Int64} {x3 : Int32} (k0 : xk a0 = 13) (h : ((lg_cmp x1 (440005651813 : Int64)) = 0 → xCv d m_M_full [.ref a0, .int (0 : Int32), .int (10 : Int32), .int x3] D (fun D1 => xCv d m_M_token [.ref a0] D1 (fun D2 => xCi d m_M_take [.ref a0, .int (0 : Int32), .int (0 : Int32), .int (99 : Int32)] D2 (fun r4 D3 => (¬ r4 = 0 → vp_in (0 : Int32) (xl (a0 + 12)) ∧ ((D3.1 a0 24) < (D3.1 (a0 + 12) ((0 : Int32) : Int32).toNatClampNeg) → ∀ D5 : xD, D5 = (xu D3.1 a0 24 (D3.1 (a0 + 12) ((0 : Int32) : Int32).toNatClampNeg), D3.2) → xPf (d + 1) m_M_filmLine 76 [(0, .ref a0), (1, .long x1), (3, .int x3), (4, .int (D2.1 a0 13)), (5, .int (D3.1 (a0 + 12) ((0 : Int32) : Int32).toNatClampNeg)), (6, .int (0 : Int32))] [] D5 Q) ∧ (¬ (D3.1 a0 24) < (D3.1 (a0 + 12) ((0 : Int32) : Int32).toNatClampNeg) → xCv d m_M_bad [.ref a0, .int (D2.1 a0 13)] D3 (fun D6 => ∀ D7 : xD, D7 = (xu D6.1 a0 24 (D3.1 (a0 + 12) ((0 : Int32) : Int32).toNatClampNeg), D6.2) → xPf (d + 1) m_M_filmLine 76 [(0, .ref a0), (1, .long x1), (3, .int x3), (4, .int (D2.1 a0 13)), (5, .int (D3.1 (a0 + 12) ((0 : Int32) : Int32).toNatClampNeg)), (6, .int (0 : Int32))] [] D7 Q))) ∧ (r4 = 0 → Q (some (.int (0 : Int32))) D3))))) ∧ (¬ (lg_cmp x1 (440005651813 : Int64)) = 0 → xCi d m_M_fails [.ref a0] D (fun r9 D8 => (r9 = 0 ∨ r9 = 1) ∧ Q (some (.int r9)) D8))) : xPf (d + 1) m_M_filmLine 0 [(0, .ref a0), (1, .long x1), (3, .int x3)] [] D Q := by
  refine x_lload_n rfl rfl ?_
  refine x_ldc2 wd_1894 rfl ?_
  refine x_lcmp rfl ?_
  refine x_if_eq (tgt := 13) rfl rfl (fun c => ?_) (fun c => ?_)
  · have h := h.1 c
    refine x_aload_n rfl rfl ?_
    refine x_iconst (v := (0 : Int32)) rfl rfl ?_
    refine x_bipush (v := (10 : Int32)) rfl rfl ?_
    refine x_iload_n rfl rfl ?_
    refine x_vv lm_M_246 vf_M_full k0 rfl rfl (Nat.le_of_ble_eq_true rfl) rfl h (fun D1 h => ?_)
    refine x_aload_n rfl rfl ?_
    refine x_vv lm_M_202 vf_M_token k0 rfl rfl (Nat.le_of_ble_eq_true rfl) rfl h (fun D2 h => ?_)
    refine x_aload_n rfl rfl ?_
    refine x_gI lf_M_165 k0 rfl rfl ?_
    refine x_istore (i := 4) (L1 := [(4, .int (D2.1 a0 13)), (0, .ref a0), (1, .long x1), (3, .int x3)]) rfl (Nat.le_of_ble_eq_true rfl) rfl ?_
    refine x_aload_n rfl rfl ?_
    refine x_iconst (v := (0 : Int32)) rfl rfl ?_
    refine x_iconst (v := (0 : Int32)) rfl rfl ?_
    refine x_bipush (v := (99 : Int32)) rfl rfl ?_
    refine x_vi lm_M_205 vf_M_take k0 rfl rfl (Nat.le_of_ble_eq_true rfl) rfl h (fun r4 D3 h => ?_)
    refine x_if_ne (tgt := 44) rfl rfl (fun c => ?_) (fun c => ?_)
    · have h := h.1 c
      refine x_aload_n rfl rfl ?_
      refine x_gR lf_M_44 k0 rfl rfl ?_
      refine x_iconst (v := (0 : Int32)) rfl rfl ?_
      refine x_iald (ck_13_21 k0) (xlt (ck_13_21 k0) (by decide)) h.1 rfl ?_
      have h := h.2
      refine x_istore (i := 5) (L1 := [(5, .int (D3.1 (a0 + 12) ((0 : Int32) : Int32).toNatClampNeg)), (4, .int (D2.1 a0 13)), (0, .ref a0), (1, .long x1), (3, .int x3)]) rfl (Nat.le_of_ble_eq_true rfl) rfl ?_
      refine x_iload rfl rfl ?_
      refine x_aload_n rfl rfl ?_
      refine x_gI lf_M_280 k0 rfl rfl ?_
      refine x_icmp_gt (tgt := 67) rfl rfl (fun c => ?_) (fun c => ?_)
      · have h := h.1 c
        refine x_aload_n rfl rfl ?_
        refine x_iload rfl rfl ?_
        refine x_pIn lp_M_280 nf_13_24 k0 rfl rfl (fun D5 eD5 => ?_)
        have h := h D5 eD5
        refine x_iconst (v := (0 : Int32)) rfl rfl ?_
        refine x_istore (i := 6) (L1 := [(6, .int (0 : Int32)), (5, .int (D3.1 (a0 + 12) ((0 : Int32) : Int32).toNatClampNeg)), (4, .int (D2.1 a0 13)), (0, .ref a0), (1, .long x1), (3, .int x3)]) rfl (Nat.le_of_ble_eq_true rfl) rfl ?_
        exact xP_sub [3, 4, 5, 2, 1, 0] rfl h
      · have h := h.2 c
        refine x_aload_n rfl rfl ?_
        refine x_iload rfl rfl ?_
        refine x_vv lm_M_199 vf_M_bad k0 rfl rfl (Nat.le_of_ble_eq_true rfl) rfl h (fun D6 h => ?_)
        refine x_aload_n rfl rfl ?_
        refine x_iload rfl rfl ?_
        refine x_pIn lp_M_280 nf_13_24 k0 rfl rfl (fun D7 eD7 => ?_)
        have h := h D7 eD7
        refine x_iconst (v := (0 : Int32)) rfl rfl ?_
        refine x_istore (i := 6) (L1 := [(6, .int (0 : Int32)), (5, .int (D3.1 (a0 + 12) ((0 : Int32) : Int32).toNatClampNeg)), (4, .int (D2.1 a0 13)), (0, .ref a0), (1, .long x1), (3, .int x3)]) rfl (Nat.le_of_ble_eq_true rfl) rfl ?_
        exact xP_sub [3, 4, 5, 2, 1, 0] rfl h
    · have h := h.2 c
      refine x_iconst (v := (0 : Int32)) rfl rfl ?_
      exact x_zr rfl (Or.inl rfl) rfl h
  · have h := h.2 c
    refine x_aload_n rfl rfl ?_
    refine x_vi lm_M_195 vf_M_fails k0 rfl rfl (Nat.le_of_ble_eq_true rfl) rfl h (fun r9 D8 h => ?_)
    exact x_zr rfl h.1 rfl h.2
theorem s_M_filmLine_76 {d : Nat} {D : xD} {Q : Option Value → xD → Prop} {a0 : Nat} {x1 : Int64} {x3 : Int32} {x4 : Int32} {x5 : Int32} {x6 : Int32} (k0 : xk a0 = 13) (h : (¬ (D.1 a0 14) = (3 : Int32) → vp_in (0 : Int32) (xl (a0 + 11)) ∧ ((10 : Int32) ≤ (D.1 (a0 + 11) ((0 : Int32) : Int32).toNatClampNeg) → Q (some (.int (1 : Int32))) D) ∧ (¬ (10 : Int32) ≤ (D.1 (a0 + 11) ((0 : Int32) : Int32).toNatClampNeg) → vp_in (0 : Int32) (xl (a0 + 11)) ∧ vp_in ((1 : Int32) + ((2 : Int32) * (D.1 (a0 + 11) ((0 : Int32) : Int32).toNatClampNeg))) (xl (a0 + 11)) ∧ ∀ D1 : xD, D1 = (xu D.1 (a0 + 11) ((1 : Int32) + ((2 : Int32) * (D.1 (a0 + 11) ((0 : Int32) : Int32).toNatClampNeg)) : Int32).toNatClampNeg x5, D.2) → vp_in (0 : Int32) (xl (a0 + 11)) ∧ vp_in ((2 : Int32) + ((2 : Int32) * (D1.1 (a0 + 11) ((0 : Int32) : Int32).toNatClampNeg))) (xl (a0 + 11)) ∧ ∀ D2 : xD, D2 = (xu D1.1 (a0 + 11) ((2 : Int32) + ((2 : Int32) * (D1.1 (a0 + 11) ((0 : Int32) : Int32).toNatClampNeg)) : Int32).toNatClampNeg x6, D1.2) → vp_in (0 : Int32) (xl (a0 + 11)) ∧ vp_in (0 : Int32) (xl (a0 + 11)) ∧ ∀ D3 : xD, D3 = (xu D2.1 (a0 + 11) ((0 : Int32) : Int32).toNatClampNeg ((D2.1 (a0 + 11) ((0 : Int32) : Int32).toNatClampNeg) + (1 : Int32)), D2.2) → Q (some (.int (1 : Int32))) D3)) ∧ ((D.1 a0 14) = (3 : Int32) → xCi d m_M_take [.ref a0, .int (0 : Int32), .int (0 : Int32), .int (5 : Int32)] D (fun r5 D4 => (¬ r5 = 0 → vp_in (0 : Int32) (xl (a0 + 12)) ∧ ((6 : Int32) ≤ (D4.1 (a0 + 12) ((0 : Int32) : Int32).toNatClampNeg) → vp_in (0 : Int32) (xl (a0 + 12)) ∧ ((6 : Int32) ≤ (D4.1 (a0 + 12) ((0 : Int32) : Int32).toNatClampNeg) → xPf (d + 1) m_M_filmLine 76 [(0, .ref a0), (1, .long x1), (3, .int x3), (4, .int (D.1 a0 13)), (5, .int x5), (6, .int (x6 ||| (0 : Int32)))] [] D4 Q) ∧ (¬ (6 : Int32) ≤ (D4.1 (a0 + 12) ((0 : Int32) : Int32).toNatClampNeg) → vp_in (0 : Int32) (xl (a0 + 12)) ∧ xPf (d + 1) m_M_filmLine 76 [(0, .ref a0), (1, .long x1), (3, .int x3), (4, .int (D.1 a0 13)), (5, .int x5), (6, .int (x6 ||| ((1 : Int32) <<< ((D4.1 (a0 + 12) ((0 : Int32) : Int32).toNatClampNeg) &&& 31))))] [] D4 Q)) ∧ (¬ (6 : Int32) ≤ (D4.1 (a0 + 12) ((0 : Int32) : Int32).toNatClampNeg) → vp_in (0 : Int32) (xl (a0 + 12)) ∧ xCi d m_M_has [.int x6, .int (D4.1 (a0 + 12) ((0 : Int32) : Int32).toNatClampNeg)] D4 (fun r7 D6 => (r7 = 0 → vp_in (0 : Int32) (xl (a0 + 12)) ∧ ((6 : Int32) ≤ (D6.1 (a0 + 12) ((0 : Int32) : Int32).toNatClampNeg) → xPf (d + 1) m_M_filmLine 76 [(0, .ref a0), (1, .long x1), (3, .int x3), (4, .int (D.1 a0 13)), (5, .int x5), (6, .int (x6 ||| (0 : Int32)))] [] D6 Q) ∧ (¬ (6 : Int32) ≤ (D6.1 (a0 + 12) ((0 : Int32) : Int32).toNatClampNeg) → vp_in (0 : Int32) (xl (a0 + 12)) ∧ xPf (d + 1) m_M_filmLine 76 [(0, .ref a0), (1, .long x1), (3, .int x3), (4, .int (D.1 a0 13)), (5, .int x5), (6, .int (x6 ||| ((1 : Int32) <<< ((D6.1 (a0 + 12) ((0 : Int32) : Int32).toNatClampNeg) &&& 31))))] [] D6 Q)) ∧ (¬ r7 = 0 → xCv d m_M_bad [.ref a0, .int (D.1 a0 13)] D6 (fun D8 => vp_in (0 : Int32) (xl (a0 + 12)) ∧ ((6 : Int32) ≤ (D8.1 (a0 + 12) ((0 : Int32) : Int32).toNatClampNeg) → xPf (d + 1) m_M_filmLine 76 [(0, .ref a0), (1, .long x1), (3, .int x3), (4, .int (D.1 a0 13)), (5, .int x5), (6, .int (x6 ||| (0 : Int32)))] [] D8 Q) ∧ (¬ (6 : Int32) ≤ (D8.1 (a0 + 12) ((0 : Int32) : Int32).toNatClampNeg) → vp_in (0 : Int32) (xl (a0 + 12)) ∧ xPf (d + 1) m_M_filmLine 76 [(0, .ref a0), (1, .long x1), (3, .int x3), (4, .int (D.1 a0 13)), (5, .int x5), (6, .int (x6 ||| ((1 : Int32) <<< ((D8.1 (a0 + 12) ((0 : Int32) : Int32).toNatClampNeg) &&& 31))))] [] D8 Q)))))) ∧ (r5 = 0 → Q (some (.int (0 : Int32))) D4)))) : xPf (d + 1) m_M_filmLine 76 [(0, .ref a0), (1, .long x1), (3, .int x3), (4, .int x4), (5, .int x5), (6, .int x6)] [] D Q := by
  refine x_aload_n rfl rfl ?_
  refine x_gI lf_M_172 k0 rfl rfl ?_
  refine x_iconst (v := (3 : Int32)) rfl rfl ?_
  refine x_icmp_ne (tgt := 164) rfl rfl (fun c => ?_) (fun c => ?_)
  · have h := h.1 c
    refine x_aload_n rfl rfl ?_
    refine x_gR lf_M_41 k0 rfl rfl ?_
    refine x_iconst (v := (0 : Int32)) rfl rfl ?_
    refine x_iald (ck_13_20 k0) (xlt (ck_13_20 k0) (by decide)) h.1 rfl ?_
    have h := h.2
    refine x_bipush (v := (10 : Int32)) rfl rfl ?_
    refine x_icmp_ge (tgt := 219) rfl rfl (fun c => ?_) (fun c => ?_)
    · have h := h.1 c
      refine x_iconst (v := (1 : Int32)) rfl rfl ?_
      exact x_zr rfl (Or.inr rfl) rfl h
    · have h := h.2 c
      refine x_aload_n rfl rfl ?_
      refine x_gR lf_M_41 k0 rfl rfl ?_
      refine x_iconst (v := (1 : Int32)) rfl rfl ?_
      refine x_iconst (v := (2 : Int32)) rfl rfl ?_
      refine x_aload_n rfl rfl ?_
      refine x_gR lf_M_41 k0 rfl rfl ?_
      refine x_iconst (v := (0 : Int32)) rfl rfl ?_
      refine x_iald (ck_13_20 k0) (xlt (ck_13_20 k0) (by decide)) h.1 rfl ?_
      have h := h.2
      refine x_imul rfl ?_
      refine x_iadd rfl ?_
      refine x_iload rfl rfl ?_
      refine x_iastn (ck_13_20 k0) h.1 rfl (fun D1 eD1 => ?_)
      have h := h.2 D1 eD1
      refine x_aload_n rfl rfl ?_
      refine x_gR lf_M_41 k0 rfl rfl ?_
      refine x_iconst (v := (2 : Int32)) rfl rfl ?_
      refine x_iconst (v := (2 : Int32)) rfl rfl ?_
      refine x_aload_n rfl rfl ?_
      refine x_gR lf_M_41 k0 rfl rfl ?_
      refine x_iconst (v := (0 : Int32)) rfl rfl ?_
      refine x_iald (ck_13_20 k0) (xlt (ck_13_20 k0) (by decide)) h.1 rfl ?_
      have h := h.2
      refine x_imul rfl ?_
      refine x_iadd rfl ?_
      refine x_iload rfl rfl ?_
      refine x_iastn (ck_13_20 k0) h.1 rfl (fun D2 eD2 => ?_)
      have h := h.2 D2 eD2
      refine x_aload_n rfl rfl ?_
      refine x_gR lf_M_41 k0 rfl rfl ?_
      refine x_iconst (v := (0 : Int32)) rfl rfl ?_
      refine x_dup2 rfl rfl rfl ?_
      refine x_iald (ck_13_20 k0) (xlt (ck_13_20 k0) (by decide)) h.1 rfl ?_
      have h := h.2
      refine x_iconst (v := (1 : Int32)) rfl rfl ?_
      refine x_iadd rfl ?_
      refine x_iastn (ck_13_20 k0) h.1 rfl (fun D3 eD3 => ?_)
      have h := h.2 D3 eD3
      refine x_iconst (v := (1 : Int32)) rfl rfl ?_
      exact x_zr rfl (Or.inr rfl) rfl h
  · have h := h.2 c
    refine x_aload_n rfl rfl ?_
    refine x_gI lf_M_165 k0 rfl rfl ?_
    refine x_istore (i := 4) (L1 := [(4, .int (D.1 a0 13)), (0, .ref a0), (1, .long x1), (3, .int x3), (5, .int x5), (6, .int x6)]) rfl (Nat.le_of_ble_eq_true rfl) rfl ?_
    refine x_aload_n rfl rfl ?_
    refine x_iconst (v := (0 : Int32)) rfl rfl ?_
    refine x_iconst (v := (0 : Int32)) rfl rfl ?_
    refine x_iconst (v := (5 : Int32)) rfl rfl ?_
    refine x_vi lm_M_205 vf_M_take k0 rfl rfl (Nat.le_of_ble_eq_true rfl) rfl h (fun r5 D4 h => ?_)
    refine x_if_ne (tgt := 102) rfl rfl (fun c => ?_) (fun c => ?_)
    · have h := h.1 c
      refine x_aload_n rfl rfl ?_
      refine x_gR lf_M_44 k0 rfl rfl ?_
      refine x_iconst (v := (0 : Int32)) rfl rfl ?_
      refine x_iald (ck_13_21 k0) (xlt (ck_13_21 k0) (by decide)) h.1 rfl ?_
      have h := h.2
      refine x_bipush (v := (6 : Int32)) rfl rfl ?_
      refine x_icmp_ge (tgt := 133) rfl rfl (fun c => ?_) (fun c => ?_)
      · have h := h.1 c
        refine x_iload rfl rfl ?_
        refine x_aload_n rfl rfl ?_
        refine x_gR lf_M_44 k0 rfl rfl ?_
        refine x_iconst (v := (0 : Int32)) rfl rfl ?_
        refine x_iald (ck_13_21 k0) (xlt (ck_13_21 k0) (by decide)) h.1 rfl ?_
        have h := h.2
        refine x_bipush (v := (6 : Int32)) rfl rfl ?_
        refine x_icmp_ge (tgt := 157) rfl rfl (fun c => ?_) (fun c => ?_)
        · have h := h.1 c
          refine x_iconst (v := (0 : Int32)) rfl rfl ?_
          refine x_ior rfl ?_
          refine x_istore (i := 6) (L1 := [(6, .int (x6 ||| (0 : Int32))), (4, .int (D.1 a0 13)), (0, .ref a0), (1, .long x1), (3, .int x3), (5, .int x5)]) rfl (Nat.le_of_ble_eq_true rfl) rfl ?_
          refine x_goto (tgt := 76) rfl rfl ?_
          exact xP_sub [2, 3, 4, 1, 5, 0] rfl h
        · have h := h.2 c
          refine x_iconst (v := (1 : Int32)) rfl rfl ?_
          refine x_aload_n rfl rfl ?_
          refine x_gR lf_M_44 k0 rfl rfl ?_
          refine x_iconst (v := (0 : Int32)) rfl rfl ?_
          refine x_iald (ck_13_21 k0) (xlt (ck_13_21 k0) (by decide)) h.1 rfl ?_
          have h := h.2
          refine x_ishl rfl ?_
          refine x_goto (tgt := 158) rfl rfl ?_
          refine x_ior rfl ?_
          refine x_istore (i := 6) (L1 := [(6, .int (x6 ||| ((1 : Int32) <<< ((D4.1 (a0 + 12) ((0 : Int32) : Int32).toNatClampNeg) &&& 31)))), (4, .int (D.1 a0 13)), (0, .ref a0), (1, .long x1), (3, .int x3), (5, .int x5)]) rfl (Nat.le_of_ble_eq_true rfl) rfl ?_
          refine x_goto (tgt := 76) rfl rfl ?_
          exact xP_sub [2, 3, 4, 1, 5, 0] rfl h
      · have h := h.2 c
        refine x_iload rfl rfl ?_
        refine x_aload_n rfl rfl ?_
        refine x_gR lf_M_44 k0 rfl rfl ?_
        refine x_iconst (v := (0 : Int32)) rfl rfl ?_
        refine x_iald (ck_13_21 k0) (xlt (ck_13_21 k0) (by decide)) h.1 rfl ?_
        have h := h.2
        refine x_si lm_M_283 sf_M_has rfl rfl (Nat.le_of_ble_eq_true rfl) rfl h (fun r7 D6 h => ?_)
        refine x_if_eq (tgt := 133) rfl rfl (fun c => ?_) (fun c => ?_)
        · have h := h.1 c
          refine x_iload rfl rfl ?_
          refine x_aload_n rfl rfl ?_
          refine x_gR lf_M_44 k0 rfl rfl ?_
          refine x_iconst (v := (0 : Int32)) rfl rfl ?_
          refine x_iald (ck_13_21 k0) (xlt (ck_13_21 k0) (by decide)) h.1 rfl ?_
          have h := h.2
          refine x_bipush (v := (6 : Int32)) rfl rfl ?_
          refine x_icmp_ge (tgt := 157) rfl rfl (fun c => ?_) (fun c => ?_)
          · have h := h.1 c
            refine x_iconst (v := (0 : Int32)) rfl rfl ?_
            refine x_ior rfl ?_
            refine x_istore (i := 6) (L1 := [(6, .int (x6 ||| (0 : Int32))), (4, .int (D.1 a0 13)), (0, .ref a0), (1, .long x1), (3, .int x3), (5, .int x5)]) rfl (Nat.le_of_ble_eq_true rfl) rfl ?_
            refine x_goto (tgt := 76) rfl rfl ?_
            exact xP_sub [2, 3, 4, 1, 5, 0] rfl h
          · have h := h.2 c
            refine x_iconst (v := (1 : Int32)) rfl rfl ?_
            refine x_aload_n rfl rfl ?_
            refine x_gR lf_M_44 k0 rfl rfl ?_
            refine x_iconst (v := (0 : Int32)) rfl rfl ?_
            refine x_iald (ck_13_21 k0) (xlt (ck_13_21 k0) (by decide)) h.1 rfl ?_
            have h := h.2
            refine x_ishl rfl ?_
            refine x_goto (tgt := 158) rfl rfl ?_
            refine x_ior rfl ?_
            refine x_istore (i := 6) (L1 := [(6, .int (x6 ||| ((1 : Int32) <<< ((D6.1 (a0 + 12) ((0 : Int32) : Int32).toNatClampNeg) &&& 31)))), (4, .int (D.1 a0 13)), (0, .ref a0), (1, .long x1), (3, .int x3), (5, .int x5)]) rfl (Nat.le_of_ble_eq_true rfl) rfl ?_
            refine x_goto (tgt := 76) rfl rfl ?_
            exact xP_sub [2, 3, 4, 1, 5, 0] rfl h
        · have h := h.2 c
          refine x_aload_n rfl rfl ?_
          refine x_iload rfl rfl ?_
          refine x_vv lm_M_199 vf_M_bad k0 rfl rfl (Nat.le_of_ble_eq_true rfl) rfl h (fun D8 h => ?_)
          refine x_iload rfl rfl ?_
          refine x_aload_n rfl rfl ?_
          refine x_gR lf_M_44 k0 rfl rfl ?_
          refine x_iconst (v := (0 : Int32)) rfl rfl ?_
          refine x_iald (ck_13_21 k0) (xlt (ck_13_21 k0) (by decide)) h.1 rfl ?_
          have h := h.2
          refine x_bipush (v := (6 : Int32)) rfl rfl ?_
          refine x_icmp_ge (tgt := 157) rfl rfl (fun c => ?_) (fun c => ?_)
          · have h := h.1 c
            refine x_iconst (v := (0 : Int32)) rfl rfl ?_
            refine x_ior rfl ?_
            refine x_istore (i := 6) (L1 := [(6, .int (x6 ||| (0 : Int32))), (4, .int (D.1 a0 13)), (0, .ref a0), (1, .long x1), (3, .int x3), (5, .int x5)]) rfl (Nat.le_of_ble_eq_true rfl) rfl ?_
            refine x_goto (tgt := 76) rfl rfl ?_
            exact xP_sub [2, 3, 4, 1, 5, 0] rfl h
          · have h := h.2 c
            refine x_iconst (v := (1 : Int32)) rfl rfl ?_
            refine x_aload_n rfl rfl ?_
            refine x_gR lf_M_44 k0 rfl rfl ?_
            refine x_iconst (v := (0 : Int32)) rfl rfl ?_
            refine x_iald (ck_13_21 k0) (xlt (ck_13_21 k0) (by decide)) h.1 rfl ?_
            have h := h.2
            refine x_ishl rfl ?_
            refine x_goto (tgt := 158) rfl rfl ?_
            refine x_ior rfl ?_
            refine x_istore (i := 6) (L1 := [(6, .int (x6 ||| ((1 : Int32) <<< ((D8.1 (a0 + 12) ((0 : Int32) : Int32).toNatClampNeg) &&& 31)))), (4, .int (D.1 a0 13)), (0, .ref a0), (1, .long x1), (3, .int x3), (5, .int x5)]) rfl (Nat.le_of_ble_eq_true rfl) rfl ?_
            refine x_goto (tgt := 76) rfl rfl ?_
            exact xP_sub [2, 3, 4, 1, 5, 0] rfl h
    · have h := h.2 c
      refine x_iconst (v := (0 : Int32)) rfl rfl ?_
      exact x_zr rfl (Or.inl rfl) rfl h
theorem s_M_lineOf_0 {d : Nat} {D : xD} {Q : Option Value → xD → Prop} {a0 : Nat} {x1 : Int32} {x2 : Int64} {x4 : Int32} (k0 : xk a0 = 13) (h : (x1 = (0 : Int32) → xCi d m_M_tableLine [.ref a0, .long x2, .int x4] D (fun r4 D3 => (r4 = 0 ∨ r4 = 1) ∧ Q (some (.int r4)) D3)) ∧ (x1 = (1 : Int32) → xCi d m_M_heapLine [.ref a0, .long x2] D (fun r6 D5 => (r6 = 0 ∨ r6 = 1) ∧ Q (some (.int r6)) D5)) ∧ (x1 = (2 : Int32) → xCi d m_M_bookLine [.ref a0, .long x2, .int x4] D (fun r8 D7 => (r8 = 0 ∨ r8 = 1) ∧ Q (some (.int r8)) D7)) ∧ (x1 = (3 : Int32) → xCi d m_M_handLine [.ref a0, .long x2] D (fun r10 D9 => (r10 = 0 ∨ r10 = 1) ∧ Q (some (.int r10)) D9)) ∧ (((x1).toInt < 0 ∨ 3 < (x1).toInt) → xCi d m_M_filmLine [.ref a0, .long x2, .int x4] D (fun r2 D1 => (r2 = 0 ∨ r2 = 1) ∧ Q (some (.int r2)) D1))) : xPf (d + 1) m_M_lineOf 0 [(0, .ref a0), (1, .int x1), (2, .long x2), (4, .int x4)] [] D Q := by
  refine x_iload_n rfl rfl ?_
  rcases Decidable.em ((x1).toInt < 0 ∨ 3 < (x1).toInt) with q | q
  · refine x_tableOut (tgt := 60) rfl q rfl ?_
    have h := h.2.2.2.2 q
    refine x_aload_n rfl rfl ?_
    refine x_lload_n rfl rfl ?_
    refine x_iload rfl rfl ?_
    refine x_vi lm_M_301 vf_M_filmLine k0 rfl rfl (Nat.le_of_ble_eq_true rfl) rfl h (fun r2 D1 h => ?_)
    exact x_zr rfl h.1 rfl h.2
  · have q : (x1).toInt = 0 ∨ (x1).toInt = 1 ∨ (x1).toInt = 2 ∨ (x1).toInt = 3 := by omega
    rcases q with q | q | q | q
    · have q : x1 = (0 : Int32) := Int32.toInt_inj.mp q
      refine x_tabK (k := (0 : Int32)) (tgt := 32) q rfl (by decide) (by decide) rfl rfl ?_
      have h := h.1 q
      refine x_aload_n rfl rfl ?_
      refine x_lload_n rfl rfl ?_
      refine x_iload rfl rfl ?_
      refine x_vi lm_M_287 vf_M_tableLine k0 rfl rfl (Nat.le_of_ble_eq_true rfl) rfl h (fun r4 D3 h => ?_)
      exact x_zr rfl h.1 rfl h.2
    · have q : x1 = (1 : Int32) := Int32.toInt_inj.mp q
      refine x_tabK (k := (1 : Int32)) (tgt := 40) q rfl (by decide) (by decide) rfl rfl ?_
      have h := h.2.1 q
      refine x_aload_n rfl rfl ?_
      refine x_lload_n rfl rfl ?_
      refine x_vi lm_M_291 vf_M_heapLine k0 rfl rfl (Nat.le_of_ble_eq_true rfl) rfl h (fun r6 D5 h => ?_)
      exact x_zr rfl h.1 rfl h.2
    · have q : x1 = (2 : Int32) := Int32.toInt_inj.mp q
      refine x_tabK (k := (2 : Int32)) (tgt := 46) q rfl (by decide) (by decide) rfl rfl ?_
      have h := h.2.2.1 q
      refine x_aload_n rfl rfl ?_
      refine x_lload_n rfl rfl ?_
      refine x_iload rfl rfl ?_
      refine x_vi lm_M_295 vf_M_bookLine k0 rfl rfl (Nat.le_of_ble_eq_true rfl) rfl h (fun r8 D7 h => ?_)
      exact x_zr rfl h.1 rfl h.2
    · have q : x1 = (3 : Int32) := Int32.toInt_inj.mp q
      refine x_tabK (k := (3 : Int32)) (tgt := 54) q rfl (by decide) (by decide) rfl rfl ?_
      have h := h.2.2.2.1 q
      refine x_aload_n rfl rfl ?_
      refine x_lload_n rfl rfl ?_
      refine x_vi lm_M_298 vf_M_handLine k0 rfl rfl (Nat.le_of_ble_eq_true rfl) rfl h (fun r10 D9 h => ?_)
      exact x_zr rfl h.1 rfl h.2
theorem s_M_lines_0 {d : Nat} {D : xD} {Q : Option Value → xD → Prop} {a0 : Nat} {x1 : Int32} (k0 : xk a0 = 13) (h : xPf (d + 1) m_M_lines 2 [(0, .ref a0), (1, .int x1), (2, .int (1 : Int32))] [] D Q) : xPf (d + 1) m_M_lines 0 [(0, .ref a0), (1, .int x1)] [] D Q := by
  refine x_iconst (v := (1 : Int32)) rfl rfl ?_
  refine x_istore_n (i := 2) (L1 := [(2, .int (1 : Int32)), (0, .ref a0), (1, .int x1)]) rfl rfl (Nat.le_of_ble_eq_true rfl) rfl ?_
  exact xP_sub [1, 2, 0] rfl h
theorem s_M_lines_2 {d : Nat} {D : xD} {Q : Option Value → xD → Prop} {a0 : Nat} {x1 : Int32} {x2 : Int32} (k0 : xk a0 = 13) (h : (x2 = 0 → (x2 = 0 ∨ x2 = 1) ∧ Q (some (.int x2)) D) ∧ (¬ x2 = 0 → ((D.1 a0 14) = 0 → (x2 = 0 ∨ x2 = 1) ∧ Q (some (.int x2)) D) ∧ (¬ (D.1 a0 14) = 0 → ∀ D1 : xD, D1 = (xu D.1 a0 25 (1 : Int32), D.2) → (¬ (D1.1 a0 14) = (2 : Int32) → xCi d m_M_lineOf [.ref a0, .int x1, .long (0 : Int64), .int (D.1 a0 13)] D1 (fun r3 D2 => (r3 = 0 → (r3 = 0 → xPf (d + 1) m_M_lines 2 [(0, .ref a0), (1, .int x1), (2, .int r3)] [] D2 Q) ∧ (¬ r3 = 0 → xCv d m_M_token [.ref a0] D2 (fun D4 => xPf (d + 1) m_M_lines 2 [(0, .ref a0), (1, .int x1), (2, .int r3)] [] D4 Q))) ∧ (¬ r3 = 0 → ((D2.1 a0 14) = (4 : Int32) → (r3 = 0 → xPf (d + 1) m_M_lines 2 [(0, .ref a0), (1, .int x1), (2, .int r3)] [] D2 Q) ∧ (¬ r3 = 0 → xCv d m_M_token [.ref a0] D2 (fun D5 => xPf (d + 1) m_M_lines 2 [(0, .ref a0), (1, .int x1), (2, .int r3)] [] D5 Q))) ∧ (¬ (D2.1 a0 14) = (4 : Int32) → xCi d m_M_fails [.ref a0] D2 (fun r7 D6 => (r7 = 0 → xPf (d + 1) m_M_lines 2 [(0, .ref a0), (1, .int x1), (2, .int r7)] [] D6 Q) ∧ (¬ r7 = 0 → xCv d m_M_token [.ref a0] D6 (fun D8 => xPf (d + 1) m_M_lines 2 [(0, .ref a0), (1, .int x1), (2, .int r7)] [] D8 Q))))))) ∧ ((D1.1 a0 14) = (2 : Int32) → xCi d m_M_lineOf [.ref a0, .int x1, .long (D1.2 a0 16), .int (D.1 a0 13)] D1 (fun r10 D9 => (r10 = 0 → (r10 = 0 → xPf (d + 1) m_M_lines 2 [(0, .ref a0), (1, .int x1), (2, .int r10)] [] D9 Q) ∧ (¬ r10 = 0 → xCv d m_M_token [.ref a0] D9 (fun D11 => xPf (d + 1) m_M_lines 2 [(0, .ref a0), (1, .int x1), (2, .int r10)] [] D11 Q))) ∧ (¬ r10 = 0 → ((D9.1 a0 14) = (4 : Int32) → (r10 = 0 → xPf (d + 1) m_M_lines 2 [(0, .ref a0), (1, .int x1), (2, .int r10)] [] D9 Q) ∧ (¬ r10 = 0 → xCv d m_M_token [.ref a0] D9 (fun D12 => xPf (d + 1) m_M_lines 2 [(0, .ref a0), (1, .int x1), (2, .int r10)] [] D12 Q))) ∧ (¬ (D9.1 a0 14) = (4 : Int32) → xCi d m_M_fails [.ref a0] D9 (fun r14 D13 => (r14 = 0 → xPf (d + 1) m_M_lines 2 [(0, .ref a0), (1, .int x1), (2, .int r14)] [] D13 Q) ∧ (¬ r14 = 0 → xCv d m_M_token [.ref a0] D13 (fun D15 => xPf (d + 1) m_M_lines 2 [(0, .ref a0), (1, .int x1), (2, .int r14)] [] D15 Q)))))))))) : xPf (d + 1) m_M_lines 2 [(0, .ref a0), (1, .int x1), (2, .int x2)] [] D Q := by
  refine x_iload_n rfl rfl ?_
  refine x_if_eq (tgt := 74) rfl rfl (fun c => ?_) (fun c => ?_)
  · have h := h.1 c
    refine x_iload_n rfl rfl ?_
    exact x_zr rfl h.1 rfl h.2
  · have h := h.2 c
    refine x_aload_n rfl rfl ?_
    refine x_gI lf_M_172 k0 rfl rfl ?_
    refine x_if_eq (tgt := 74) rfl rfl (fun c => ?_) (fun c => ?_)
    · have h := h.1 c
      refine x_iload_n rfl rfl ?_
      exact x_zr rfl h.1 rfl h.2
    · have h := h.2 c
      refine x_aload_n rfl rfl ?_
      refine x_gI lf_M_165 k0 rfl rfl ?_
      refine x_istore_n (i := 3) (L1 := [(3, .int (D.1 a0 13)), (0, .ref a0), (1, .int x1), (2, .int x2)]) rfl rfl (Nat.le_of_ble_eq_true rfl) rfl ?_
      refine x_aload_n rfl rfl ?_
      refine x_iconst (v := (1 : Int32)) rfl rfl ?_
      refine x_pZn lp_M_191 nf_13_25 k0 rfl (Or.inr rfl) rfl (fun D1 eD1 => ?_)
      have h := h D1 eD1
      refine x_aload_n rfl rfl ?_
      refine x_iload_n rfl rfl ?_
      refine x_aload_n rfl rfl ?_
      refine x_gI lf_M_172 k0 rfl rfl ?_
      refine x_iconst (v := (2 : Int32)) rfl rfl ?_
      refine x_icmp_ne (tgt := 40) rfl rfl (fun c => ?_) (fun c => ?_)
      · have h := h.1 c
        refine x_lconst (v := 0) rfl rfl ?_
        refine x_iload_n rfl rfl ?_
        refine x_vi lm_M_304 vf_M_lineOf k0 rfl rfl (Nat.le_of_ble_eq_true rfl) rfl h (fun r3 D2 h => ?_)
        refine x_istore_n (i := 2) (L1 := [(2, .int r3), (3, .int (D.1 a0 13)), (0, .ref a0), (1, .int x1)]) rfl rfl (Nat.le_of_ble_eq_true rfl) rfl ?_
        refine x_iload_n rfl rfl ?_
        refine x_if_eq (tgt := 63) rfl rfl (fun c => ?_) (fun c => ?_)
        · have h := h.1 c
          refine x_iload_n rfl rfl ?_
          refine x_if_eq (tgt := 71) rfl rfl (fun c => ?_) (fun c => ?_)
          · have h := h.1 c
            refine x_goto (tgt := 2) rfl rfl ?_
            exact xP_sub [2, 3, 0] rfl h
          · have h := h.2 c
            refine x_aload_n rfl rfl ?_
            refine x_vv lm_M_202 vf_M_token k0 rfl rfl (Nat.le_of_ble_eq_true rfl) rfl h (fun D4 h => ?_)
            refine x_goto (tgt := 2) rfl rfl ?_
            exact xP_sub [2, 3, 0] rfl h
        · have h := h.2 c
          refine x_aload_n rfl rfl ?_
          refine x_gI lf_M_172 k0 rfl rfl ?_
          refine x_iconst (v := (4 : Int32)) rfl rfl ?_
          refine x_icmp_eq (tgt := 63) rfl rfl (fun c => ?_) (fun c => ?_)
          · have h := h.1 c
            refine x_iload_n rfl rfl ?_
            refine x_if_eq (tgt := 71) rfl rfl (fun c => ?_) (fun c => ?_)
            · have h := h.1 c
              refine x_goto (tgt := 2) rfl rfl ?_
              exact xP_sub [2, 3, 0] rfl h
            · have h := h.2 c
              refine x_aload_n rfl rfl ?_
              refine x_vv lm_M_202 vf_M_token k0 rfl rfl (Nat.le_of_ble_eq_true rfl) rfl h (fun D5 h => ?_)
              refine x_goto (tgt := 2) rfl rfl ?_
              exact xP_sub [2, 3, 0] rfl h
          · have h := h.2 c
            refine x_aload_n rfl rfl ?_
            refine x_vi lm_M_195 vf_M_fails k0 rfl rfl (Nat.le_of_ble_eq_true rfl) rfl h (fun r7 D6 h => ?_)
            refine x_istore_n (i := 2) (L1 := [(2, .int r7), (3, .int (D.1 a0 13)), (0, .ref a0), (1, .int x1)]) rfl rfl (Nat.le_of_ble_eq_true rfl) rfl ?_
            refine x_iload_n rfl rfl ?_
            refine x_if_eq (tgt := 71) rfl rfl (fun c => ?_) (fun c => ?_)
            · have h := h.1 c
              refine x_goto (tgt := 2) rfl rfl ?_
              exact xP_sub [2, 3, 0] rfl h
            · have h := h.2 c
              refine x_aload_n rfl rfl ?_
              refine x_vv lm_M_202 vf_M_token k0 rfl rfl (Nat.le_of_ble_eq_true rfl) rfl h (fun D8 h => ?_)
              refine x_goto (tgt := 2) rfl rfl ?_
              exact xP_sub [2, 3, 0] rfl h
      · have h := h.2 c
        refine x_aload_n rfl rfl ?_
        refine x_gL lf_M_168 k0 rfl rfl ?_
        refine x_goto (tgt := 41) rfl rfl ?_
        refine x_iload_n rfl rfl ?_
        refine x_vi lm_M_304 vf_M_lineOf k0 rfl rfl (Nat.le_of_ble_eq_true rfl) rfl h (fun r10 D9 h => ?_)
        refine x_istore_n (i := 2) (L1 := [(2, .int r10), (3, .int (D.1 a0 13)), (0, .ref a0), (1, .int x1)]) rfl rfl (Nat.le_of_ble_eq_true rfl) rfl ?_
        refine x_iload_n rfl rfl ?_
        refine x_if_eq (tgt := 63) rfl rfl (fun c => ?_) (fun c => ?_)
        · have h := h.1 c
          refine x_iload_n rfl rfl ?_
          refine x_if_eq (tgt := 71) rfl rfl (fun c => ?_) (fun c => ?_)
          · have h := h.1 c
            refine x_goto (tgt := 2) rfl rfl ?_
            exact xP_sub [2, 3, 0] rfl h
          · have h := h.2 c
            refine x_aload_n rfl rfl ?_
            refine x_vv lm_M_202 vf_M_token k0 rfl rfl (Nat.le_of_ble_eq_true rfl) rfl h (fun D11 h => ?_)
            refine x_goto (tgt := 2) rfl rfl ?_
            exact xP_sub [2, 3, 0] rfl h
        · have h := h.2 c
          refine x_aload_n rfl rfl ?_
          refine x_gI lf_M_172 k0 rfl rfl ?_
          refine x_iconst (v := (4 : Int32)) rfl rfl ?_
          refine x_icmp_eq (tgt := 63) rfl rfl (fun c => ?_) (fun c => ?_)
          · have h := h.1 c
            refine x_iload_n rfl rfl ?_
            refine x_if_eq (tgt := 71) rfl rfl (fun c => ?_) (fun c => ?_)
            · have h := h.1 c
              refine x_goto (tgt := 2) rfl rfl ?_
              exact xP_sub [2, 3, 0] rfl h
            · have h := h.2 c
              refine x_aload_n rfl rfl ?_
              refine x_vv lm_M_202 vf_M_token k0 rfl rfl (Nat.le_of_ble_eq_true rfl) rfl h (fun D12 h => ?_)
              refine x_goto (tgt := 2) rfl rfl ?_
              exact xP_sub [2, 3, 0] rfl h
          · have h := h.2 c
            refine x_aload_n rfl rfl ?_
            refine x_vi lm_M_195 vf_M_fails k0 rfl rfl (Nat.le_of_ble_eq_true rfl) rfl h (fun r14 D13 h => ?_)
            refine x_istore_n (i := 2) (L1 := [(2, .int r14), (3, .int (D.1 a0 13)), (0, .ref a0), (1, .int x1)]) rfl rfl (Nat.le_of_ble_eq_true rfl) rfl ?_
            refine x_iload_n rfl rfl ?_
            refine x_if_eq (tgt := 71) rfl rfl (fun c => ?_) (fun c => ?_)
            · have h := h.1 c
              refine x_goto (tgt := 2) rfl rfl ?_
              exact xP_sub [2, 3, 0] rfl h
            · have h := h.2 c
              refine x_aload_n rfl rfl ?_
              refine x_vv lm_M_202 vf_M_token k0 rfl rfl (Nat.le_of_ble_eq_true rfl) rfl h (fun D15 h => ?_)
              refine x_goto (tgt := 2) rfl rfl ?_
              exact xP_sub [2, 3, 0] rfl h
theorem s_M_begin_0 {d : Nat} {D : xD} {Q : Option Value → xD → Prop} {a0 : Nat} {x1 : Int32} (k0 : xk a0 = 13) (h : xPf (d + 1) m_M_begin 2 [(0, .ref a0), (1, .int x1), (2, .int (0 : Int32))] [] D Q) : xPf (d + 1) m_M_begin 0 [(0, .ref a0), (1, .int x1)] [] D Q := by
  refine x_iconst (v := (0 : Int32)) rfl rfl ?_
  refine x_istore_n (i := 2) (L1 := [(2, .int (0 : Int32)), (0, .ref a0), (1, .int x1)]) rfl rfl (Nat.le_of_ble_eq_true rfl) rfl ?_
  exact xP_sub [1, 2, 0] rfl h
theorem s_M_begin_2 {d : Nat} {D : xD} {Q : Option Value → xD → Prop} {a0 : Nat} {x1 : Int32} {x2 : Int32} (k0 : xk a0 = 13) (h : ((121 : Int32) ≤ x2 → xPf (d + 1) m_M_begin 23 [(0, .ref a0), (1, .int x1), (2, .int (0 : Int32))] [] D Q) ∧ (¬ (121 : Int32) ≤ x2 → vp_in x2 (xl (a0 + 11)) ∧ ∀ D1 : xD, D1 = (xu D.1 (a0 + 11) (x2 : Int32).toNatClampNeg (0 : Int32), D.2) → xPf (d + 1) m_M_begin 2 [(0, .ref a0), (1, .int x1), (2, .int (x2 + (1 : Int32)))] [] D1 Q)) : xPf (d + 1) m_M_begin 2 [(0, .ref a0), (1, .int x1), (2, .int x2)] [] D Q := by
  refine x_iload_n rfl rfl ?_
  refine x_bipush (v := (121 : Int32)) rfl rfl ?_
  refine x_icmp_ge (tgt := 21) rfl rfl (fun c => ?_) (fun c => ?_)
  · have h := h.1 c
    refine x_iconst (v := (0 : Int32)) rfl rfl ?_
    refine x_istore_n (i := 2) (L1 := [(2, .int (0 : Int32)), (0, .ref a0), (1, .int x1)]) rfl rfl (Nat.le_of_ble_eq_true rfl) rfl ?_
    exact xP_sub [1, 2, 0] rfl h
  · have h := h.2 c
    refine x_aload_n rfl rfl ?_
    refine x_gR lf_M_41 k0 rfl rfl ?_
    refine x_iload_n rfl rfl ?_
    refine x_iconst (v := (0 : Int32)) rfl rfl ?_
    refine x_iastn (ck_13_20 k0) h.1 rfl (fun D1 eD1 => ?_)
    have h := h.2 D1 eD1
    refine x_iinc (i := 2) (v := x2 + (1 : Int32)) (L1 := [(2, .int (x2 + (1 : Int32))), (0, .ref a0), (1, .int x1)]) rfl rfl rfl (Nat.le_of_ble_eq_true rfl) rfl ?_
    refine x_goto (tgt := 2) rfl rfl ?_
    exact xP_sub [1, 2, 0] rfl h
theorem s_M_begin_23 {d : Nat} {D : xD} {Q : Option Value → xD → Prop} {a0 : Nat} {x1 : Int32} {x2 : Int32} (k0 : xk a0 = 13) (h : ((3 : Int32) ≤ x2 → xPf (d + 1) m_M_begin 47 [(0, .ref a0), (1, .int x1), (2, .int (0 : Int32))] [] D Q) ∧ (¬ (3 : Int32) ≤ x2 → (¬ x1 = 0 → xPf (d + 1) m_M_begin 47 [(0, .ref a0), (1, .int x1), (2, .int (0 : Int32))] [] D Q) ∧ (x1 = 0 → vp_in x2 (xl (a0 + 11)) ∧ ∀ D1 : xD, D1 = (xu D.1 (a0 + 11) (x2 : Int32).toNatClampNeg (4 : Int32), D.2) → xPf (d + 1) m_M_begin 23 [(0, .ref a0), (1, .int x1), (2, .int (x2 + (1 : Int32)))] [] D1 Q))) : xPf (d + 1) m_M_begin 23 [(0, .ref a0), (1, .int x1), (2, .int x2)] [] D Q := by
  refine x_iload_n rfl rfl ?_
  refine x_iconst (v := (3 : Int32)) rfl rfl ?_
  refine x_icmp_ge (tgt := 45) rfl rfl (fun c => ?_) (fun c => ?_)
  · have h := h.1 c
    refine x_iconst (v := (0 : Int32)) rfl rfl ?_
    refine x_istore_n (i := 2) (L1 := [(2, .int (0 : Int32)), (0, .ref a0), (1, .int x1)]) rfl rfl (Nat.le_of_ble_eq_true rfl) rfl ?_
    exact xP_sub [1, 2, 0] rfl h
  · have h := h.2 c
    refine x_iload_n rfl rfl ?_
    refine x_if_ne (tgt := 45) rfl rfl (fun c => ?_) (fun c => ?_)
    · have h := h.1 c
      refine x_iconst (v := (0 : Int32)) rfl rfl ?_
      refine x_istore_n (i := 2) (L1 := [(2, .int (0 : Int32)), (0, .ref a0), (1, .int x1)]) rfl rfl (Nat.le_of_ble_eq_true rfl) rfl ?_
      exact xP_sub [1, 2, 0] rfl h
    · have h := h.2 c
      refine x_aload_n rfl rfl ?_
      refine x_gR lf_M_41 k0 rfl rfl ?_
      refine x_iload_n rfl rfl ?_
      refine x_iconst (v := (4 : Int32)) rfl rfl ?_
      refine x_iastn (ck_13_20 k0) h.1 rfl (fun D1 eD1 => ?_)
      have h := h.2 D1 eD1
      refine x_iinc (i := 2) (v := x2 + (1 : Int32)) (L1 := [(2, .int (x2 + (1 : Int32))), (0, .ref a0), (1, .int x1)]) rfl rfl rfl (Nat.le_of_ble_eq_true rfl) rfl ?_
      refine x_goto (tgt := 23) rfl rfl ?_
      exact xP_sub [1, 2, 0] rfl h
theorem s_M_begin_47 {d : Nat} {D : xD} {Q : Option Value → xD → Prop} {a0 : Nat} {x1 : Int32} {x2 : Int32} (k0 : xk a0 = 13) (h : ((6 : Int32) ≤ x2 → (¬ x1 = 0 → vp_in (3 : Int32) (xl (a0 + 11)) ∧ ∀ D1 : xD, D1 = (xu D.1 (a0 + 11) ((3 : Int32) : Int32).toNatClampNeg (0 : Int32), D.2) → (¬ x1 = 0 → vp_in (4 : Int32) (xl (a0 + 11)) ∧ ∀ D2 : xD, D2 = (xu D1.1 (a0 + 11) ((4 : Int32) : Int32).toNatClampNeg (0 : Int32), D1.2) → ∀ D3 : xD, D3 = (xu D2.1 a0 22 (-1 : Int32), D2.2) → ∀ D4 : xD, D4 = (xu D3.1 a0 23 (-1 : Int32), D3.2) → ∀ D5 : xD, D5 = (xu D4.1 a0 24 (-1 : Int32), D4.2) → Q none D5) ∧ (x1 = 0 → vp_in (4 : Int32) (xl (a0 + 11)) ∧ ∀ D6 : xD, D6 = (xu D1.1 (a0 + 11) ((4 : Int32) : Int32).toNatClampNeg (3 : Int32), D1.2) → ∀ D7 : xD, D7 = (xu D6.1 a0 22 (-1 : Int32), D6.2) → ∀ D8 : xD, D8 = (xu D7.1 a0 23 (-1 : Int32), D7.2) → ∀ D9 : xD, D9 = (xu D8.1 a0 24 (-1 : Int32), D8.2) → Q none D9)) ∧ (x1 = 0 → vp_in (3 : Int32) (xl (a0 + 11)) ∧ ∀ D10 : xD, D10 = (xu D.1 (a0 + 11) ((3 : Int32) : Int32).toNatClampNeg (1 : Int32), D.2) → (¬ x1 = 0 → vp_in (4 : Int32) (xl (a0 + 11)) ∧ ∀ D11 : xD, D11 = (xu D10.1 (a0 + 11) ((4 : Int32) : Int32).toNatClampNeg (0 : Int32), D10.2) → ∀ D12 : xD, D12 = (xu D11.1 a0 22 (-1 : Int32), D11.2) → ∀ D13 : xD, D13 = (xu D12.1 a0 23 (-1 : Int32), D12.2) → ∀ D14 : xD, D14 = (xu D13.1 a0 24 (-1 : Int32), D13.2) → Q none D14) ∧ (x1 = 0 → vp_in (4 : Int32) (xl (a0 + 11)) ∧ ∀ D15 : xD, D15 = (xu D10.1 (a0 + 11) ((4 : Int32) : Int32).toNatClampNeg (3 : Int32), D10.2) → ∀ D16 : xD, D16 = (xu D15.1 a0 22 (-1 : Int32), D15.2) → ∀ D17 : xD, D17 = (xu D16.1 a0 23 (-1 : Int32), D16.2) → ∀ D18 : xD, D18 = (xu D17.1 a0 24 (-1 : Int32), D17.2) → Q none D18))) ∧ (¬ (6 : Int32) ≤ x2 → (¬ x1 = 0 → (¬ x1 = 0 → vp_in (3 : Int32) (xl (a0 + 11)) ∧ ∀ D19 : xD, D19 = (xu D.1 (a0 + 11) ((3 : Int32) : Int32).toNatClampNeg (0 : Int32), D.2) → (¬ x1 = 0 → vp_in (4 : Int32) (xl (a0 + 11)) ∧ ∀ D20 : xD, D20 = (xu D19.1 (a0 + 11) ((4 : Int32) : Int32).toNatClampNeg (0 : Int32), D19.2) → ∀ D21 : xD, D21 = (xu D20.1 a0 22 (-1 : Int32), D20.2) → ∀ D22 : xD, D22 = (xu D21.1 a0 23 (-1 : Int32), D21.2) → ∀ D23 : xD, D23 = (xu D22.1 a0 24 (-1 : Int32), D22.2) → Q none D23) ∧ (x1 = 0 → vp_in (4 : Int32) (xl (a0 + 11)) ∧ ∀ D24 : xD, D24 = (xu D19.1 (a0 + 11) ((4 : Int32) : Int32).toNatClampNeg (3 : Int32), D19.2) → ∀ D25 : xD, D25 = (xu D24.1 a0 22 (-1 : Int32), D24.2) → ∀ D26 : xD, D26 = (xu D25.1 a0 23 (-1 : Int32), D25.2) → ∀ D27 : xD, D27 = (xu D26.1 a0 24 (-1 : Int32), D26.2) → Q none D27)) ∧ (x1 = 0 → vp_in (3 : Int32) (xl (a0 + 11)) ∧ ∀ D28 : xD, D28 = (xu D.1 (a0 + 11) ((3 : Int32) : Int32).toNatClampNeg (1 : Int32), D.2) → (¬ x1 = 0 → vp_in (4 : Int32) (xl (a0 + 11)) ∧ ∀ D29 : xD, D29 = (xu D28.1 (a0 + 11) ((4 : Int32) : Int32).toNatClampNeg (0 : Int32), D28.2) → ∀ D30 : xD, D30 = (xu D29.1 a0 22 (-1 : Int32), D29.2) → ∀ D31 : xD, D31 = (xu D30.1 a0 23 (-1 : Int32), D30.2) → ∀ D32 : xD, D32 = (xu D31.1 a0 24 (-1 : Int32), D31.2) → Q none D32) ∧ (x1 = 0 → vp_in (4 : Int32) (xl (a0 + 11)) ∧ ∀ D33 : xD, D33 = (xu D28.1 (a0 + 11) ((4 : Int32) : Int32).toNatClampNeg (3 : Int32), D28.2) → ∀ D34 : xD, D34 = (xu D33.1 a0 22 (-1 : Int32), D33.2) → ∀ D35 : xD, D35 = (xu D34.1 a0 23 (-1 : Int32), D34.2) → ∀ D36 : xD, D36 = (xu D35.1 a0 24 (-1 : Int32), D35.2) → Q none D36))) ∧ (x1 = 0 → vp_in (((6 : Int32) + ((7 : Int32) * x2)) + (5 : Int32)) (xl (a0 + 11)) ∧ ∀ D37 : xD, D37 = (xu D.1 (a0 + 11) (((6 : Int32) + ((7 : Int32) * x2)) + (5 : Int32) : Int32).toNatClampNeg (-1 : Int32), D.2) → xPf (d + 1) m_M_begin 47 [(0, .ref a0), (1, .int x1), (2, .int (x2 + (1 : Int32)))] [] D37 Q))) : xPf (d + 1) m_M_begin 47 [(0, .ref a0), (1, .int x1), (2, .int x2)] [] D Q := by
  refine x_iload_n rfl rfl ?_
  refine x_bipush (v := (6 : Int32)) rfl rfl ?_
  refine x_icmp_ge (tgt := 78) rfl rfl (fun c => ?_) (fun c => ?_)
  · have h := h.1 c
    refine x_aload_n rfl rfl ?_
    refine x_gR lf_M_41 k0 rfl rfl ?_
    refine x_iconst (v := (3 : Int32)) rfl rfl ?_
    refine x_iload_n rfl rfl ?_
    refine x_if_ne (tgt := 91) rfl rfl (fun c => ?_) (fun c => ?_)
    · have h := h.1 c
      refine x_iconst (v := (0 : Int32)) rfl rfl ?_
      refine x_iastn (ck_13_20 k0) h.1 rfl (fun D1 eD1 => ?_)
      have h := h.2 D1 eD1
      refine x_aload_n rfl rfl ?_
      refine x_gR lf_M_41 k0 rfl rfl ?_
      refine x_iconst (v := (4 : Int32)) rfl rfl ?_
      refine x_iload_n rfl rfl ?_
      refine x_if_ne (tgt := 106) rfl rfl (fun c => ?_) (fun c => ?_)
      · have h := h.1 c
        refine x_iconst (v := (0 : Int32)) rfl rfl ?_
        refine x_iastn (ck_13_20 k0) h.1 rfl (fun D2 eD2 => ?_)
        have h := h.2 D2 eD2
        refine x_aload_n rfl rfl ?_
        refine x_iconst (v := (-1 : Int32)) rfl rfl ?_
        refine x_pIn lp_M_208 nf_13_22 k0 rfl rfl (fun D3 eD3 => ?_)
        have h := h D3 eD3
        refine x_aload_n rfl rfl ?_
        refine x_iconst (v := (-1 : Int32)) rfl rfl ?_
        refine x_pIn lp_M_223 nf_13_23 k0 rfl rfl (fun D4 eD4 => ?_)
        have h := h D4 eD4
        refine x_aload_n rfl rfl ?_
        refine x_iconst (v := (-1 : Int32)) rfl rfl ?_
        refine x_pIn lp_M_280 nf_13_24 k0 rfl rfl (fun D5 eD5 => ?_)
        have h := h D5 eD5
        exact x_vret rfl rfl h
      · have h := h.2 c
        refine x_iconst (v := (3 : Int32)) rfl rfl ?_
        refine x_goto (tgt := 107) rfl rfl ?_
        refine x_iastn (ck_13_20 k0) h.1 rfl (fun D6 eD6 => ?_)
        have h := h.2 D6 eD6
        refine x_aload_n rfl rfl ?_
        refine x_iconst (v := (-1 : Int32)) rfl rfl ?_
        refine x_pIn lp_M_208 nf_13_22 k0 rfl rfl (fun D7 eD7 => ?_)
        have h := h D7 eD7
        refine x_aload_n rfl rfl ?_
        refine x_iconst (v := (-1 : Int32)) rfl rfl ?_
        refine x_pIn lp_M_223 nf_13_23 k0 rfl rfl (fun D8 eD8 => ?_)
        have h := h D8 eD8
        refine x_aload_n rfl rfl ?_
        refine x_iconst (v := (-1 : Int32)) rfl rfl ?_
        refine x_pIn lp_M_280 nf_13_24 k0 rfl rfl (fun D9 eD9 => ?_)
        have h := h D9 eD9
        exact x_vret rfl rfl h
    · have h := h.2 c
      refine x_iconst (v := (1 : Int32)) rfl rfl ?_
      refine x_goto (tgt := 92) rfl rfl ?_
      refine x_iastn (ck_13_20 k0) h.1 rfl (fun D10 eD10 => ?_)
      have h := h.2 D10 eD10
      refine x_aload_n rfl rfl ?_
      refine x_gR lf_M_41 k0 rfl rfl ?_
      refine x_iconst (v := (4 : Int32)) rfl rfl ?_
      refine x_iload_n rfl rfl ?_
      refine x_if_ne (tgt := 106) rfl rfl (fun c => ?_) (fun c => ?_)
      · have h := h.1 c
        refine x_iconst (v := (0 : Int32)) rfl rfl ?_
        refine x_iastn (ck_13_20 k0) h.1 rfl (fun D11 eD11 => ?_)
        have h := h.2 D11 eD11
        refine x_aload_n rfl rfl ?_
        refine x_iconst (v := (-1 : Int32)) rfl rfl ?_
        refine x_pIn lp_M_208 nf_13_22 k0 rfl rfl (fun D12 eD12 => ?_)
        have h := h D12 eD12
        refine x_aload_n rfl rfl ?_
        refine x_iconst (v := (-1 : Int32)) rfl rfl ?_
        refine x_pIn lp_M_223 nf_13_23 k0 rfl rfl (fun D13 eD13 => ?_)
        have h := h D13 eD13
        refine x_aload_n rfl rfl ?_
        refine x_iconst (v := (-1 : Int32)) rfl rfl ?_
        refine x_pIn lp_M_280 nf_13_24 k0 rfl rfl (fun D14 eD14 => ?_)
        have h := h D14 eD14
        exact x_vret rfl rfl h
      · have h := h.2 c
        refine x_iconst (v := (3 : Int32)) rfl rfl ?_
        refine x_goto (tgt := 107) rfl rfl ?_
        refine x_iastn (ck_13_20 k0) h.1 rfl (fun D15 eD15 => ?_)
        have h := h.2 D15 eD15
        refine x_aload_n rfl rfl ?_
        refine x_iconst (v := (-1 : Int32)) rfl rfl ?_
        refine x_pIn lp_M_208 nf_13_22 k0 rfl rfl (fun D16 eD16 => ?_)
        have h := h D16 eD16
        refine x_aload_n rfl rfl ?_
        refine x_iconst (v := (-1 : Int32)) rfl rfl ?_
        refine x_pIn lp_M_223 nf_13_23 k0 rfl rfl (fun D17 eD17 => ?_)
        have h := h D17 eD17
        refine x_aload_n rfl rfl ?_
        refine x_iconst (v := (-1 : Int32)) rfl rfl ?_
        refine x_pIn lp_M_280 nf_13_24 k0 rfl rfl (fun D18 eD18 => ?_)
        have h := h D18 eD18
        exact x_vret rfl rfl h
  · have h := h.2 c
    refine x_iload_n rfl rfl ?_
    refine x_if_ne (tgt := 78) rfl rfl (fun c => ?_) (fun c => ?_)
    · have h := h.1 c
      refine x_aload_n rfl rfl ?_
      refine x_gR lf_M_41 k0 rfl rfl ?_
      refine x_iconst (v := (3 : Int32)) rfl rfl ?_
      refine x_iload_n rfl rfl ?_
      refine x_if_ne (tgt := 91) rfl rfl (fun c => ?_) (fun c => ?_)
      · have h := h.1 c
        refine x_iconst (v := (0 : Int32)) rfl rfl ?_
        refine x_iastn (ck_13_20 k0) h.1 rfl (fun D19 eD19 => ?_)
        have h := h.2 D19 eD19
        refine x_aload_n rfl rfl ?_
        refine x_gR lf_M_41 k0 rfl rfl ?_
        refine x_iconst (v := (4 : Int32)) rfl rfl ?_
        refine x_iload_n rfl rfl ?_
        refine x_if_ne (tgt := 106) rfl rfl (fun c => ?_) (fun c => ?_)
        · have h := h.1 c
          refine x_iconst (v := (0 : Int32)) rfl rfl ?_
          refine x_iastn (ck_13_20 k0) h.1 rfl (fun D20 eD20 => ?_)
          have h := h.2 D20 eD20
          refine x_aload_n rfl rfl ?_
          refine x_iconst (v := (-1 : Int32)) rfl rfl ?_
          refine x_pIn lp_M_208 nf_13_22 k0 rfl rfl (fun D21 eD21 => ?_)
          have h := h D21 eD21
          refine x_aload_n rfl rfl ?_
          refine x_iconst (v := (-1 : Int32)) rfl rfl ?_
          refine x_pIn lp_M_223 nf_13_23 k0 rfl rfl (fun D22 eD22 => ?_)
          have h := h D22 eD22
          refine x_aload_n rfl rfl ?_
          refine x_iconst (v := (-1 : Int32)) rfl rfl ?_
          refine x_pIn lp_M_280 nf_13_24 k0 rfl rfl (fun D23 eD23 => ?_)
          have h := h D23 eD23
          exact x_vret rfl rfl h
        · have h := h.2 c
          refine x_iconst (v := (3 : Int32)) rfl rfl ?_
          refine x_goto (tgt := 107) rfl rfl ?_
          refine x_iastn (ck_13_20 k0) h.1 rfl (fun D24 eD24 => ?_)
          have h := h.2 D24 eD24
          refine x_aload_n rfl rfl ?_
          refine x_iconst (v := (-1 : Int32)) rfl rfl ?_
          refine x_pIn lp_M_208 nf_13_22 k0 rfl rfl (fun D25 eD25 => ?_)
          have h := h D25 eD25
          refine x_aload_n rfl rfl ?_
          refine x_iconst (v := (-1 : Int32)) rfl rfl ?_
          refine x_pIn lp_M_223 nf_13_23 k0 rfl rfl (fun D26 eD26 => ?_)
          have h := h D26 eD26
          refine x_aload_n rfl rfl ?_
          refine x_iconst (v := (-1 : Int32)) rfl rfl ?_
          refine x_pIn lp_M_280 nf_13_24 k0 rfl rfl (fun D27 eD27 => ?_)
          have h := h D27 eD27
          exact x_vret rfl rfl h
      · have h := h.2 c
        refine x_iconst (v := (1 : Int32)) rfl rfl ?_
        refine x_goto (tgt := 92) rfl rfl ?_
        refine x_iastn (ck_13_20 k0) h.1 rfl (fun D28 eD28 => ?_)
        have h := h.2 D28 eD28
        refine x_aload_n rfl rfl ?_
        refine x_gR lf_M_41 k0 rfl rfl ?_
        refine x_iconst (v := (4 : Int32)) rfl rfl ?_
        refine x_iload_n rfl rfl ?_
        refine x_if_ne (tgt := 106) rfl rfl (fun c => ?_) (fun c => ?_)
        · have h := h.1 c
          refine x_iconst (v := (0 : Int32)) rfl rfl ?_
          refine x_iastn (ck_13_20 k0) h.1 rfl (fun D29 eD29 => ?_)
          have h := h.2 D29 eD29
          refine x_aload_n rfl rfl ?_
          refine x_iconst (v := (-1 : Int32)) rfl rfl ?_
          refine x_pIn lp_M_208 nf_13_22 k0 rfl rfl (fun D30 eD30 => ?_)
          have h := h D30 eD30
          refine x_aload_n rfl rfl ?_
          refine x_iconst (v := (-1 : Int32)) rfl rfl ?_
          refine x_pIn lp_M_223 nf_13_23 k0 rfl rfl (fun D31 eD31 => ?_)
          have h := h D31 eD31
          refine x_aload_n rfl rfl ?_
          refine x_iconst (v := (-1 : Int32)) rfl rfl ?_
          refine x_pIn lp_M_280 nf_13_24 k0 rfl rfl (fun D32 eD32 => ?_)
          have h := h D32 eD32
          exact x_vret rfl rfl h
        · have h := h.2 c
          refine x_iconst (v := (3 : Int32)) rfl rfl ?_
          refine x_goto (tgt := 107) rfl rfl ?_
          refine x_iastn (ck_13_20 k0) h.1 rfl (fun D33 eD33 => ?_)
          have h := h.2 D33 eD33
          refine x_aload_n rfl rfl ?_
          refine x_iconst (v := (-1 : Int32)) rfl rfl ?_
          refine x_pIn lp_M_208 nf_13_22 k0 rfl rfl (fun D34 eD34 => ?_)
          have h := h D34 eD34
          refine x_aload_n rfl rfl ?_
          refine x_iconst (v := (-1 : Int32)) rfl rfl ?_
          refine x_pIn lp_M_223 nf_13_23 k0 rfl rfl (fun D35 eD35 => ?_)
          have h := h D35 eD35
          refine x_aload_n rfl rfl ?_
          refine x_iconst (v := (-1 : Int32)) rfl rfl ?_
          refine x_pIn lp_M_280 nf_13_24 k0 rfl rfl (fun D36 eD36 => ?_)
          have h := h D36 eD36
          exact x_vret rfl rfl h
    · have h := h.2 c
      refine x_aload_n rfl rfl ?_
      refine x_gR lf_M_41 k0 rfl rfl ?_
      refine x_bipush (v := (6 : Int32)) rfl rfl ?_
      refine x_bipush (v := (7 : Int32)) rfl rfl ?_
      refine x_iload_n rfl rfl ?_
      refine x_imul rfl ?_
      refine x_iadd rfl ?_
      refine x_iconst (v := (5 : Int32)) rfl rfl ?_
      refine x_iadd rfl ?_
      refine x_iconst (v := (-1 : Int32)) rfl rfl ?_
      refine x_iastn (ck_13_20 k0) h.1 rfl (fun D37 eD37 => ?_)
      have h := h.2 D37 eD37
      refine x_iinc (i := 2) (v := x2 + (1 : Int32)) (L1 := [(2, .int (x2 + (1 : Int32))), (0, .ref a0), (1, .int x1)]) rfl rfl rfl (Nat.le_of_ble_eq_true rfl) rfl ?_
      refine x_goto (tgt := 47) rfl rfl ?_
      exact xP_sub [1, 2, 0] rfl h
theorem s_M_readText_0 {d : Nat} {D : xD} {Q : Option Value → xD → Prop} {a0 : Nat} {x1 : Int32} (k0 : xk a0 = 13) (h : xCv d m_M_begin [.ref a0, .int x1] D (fun D1 => ∀ D2 : xD, D2 = (xu D1.1 a0 11 (0 : Int32), D1.2) → ∀ D3 : xD, D3 = (xu D2.1 a0 18 (0 : Int32), D2.2) → xCv d m_M_token [.ref a0] D3 (fun D4 => xCi d m_M_lines [.ref a0, .int x1] D4 (fun r6 D5 => (r6 = 0 → xPf (d + 1) m_M_readText 114 [(0, .ref a0), (1, .int x1), (2, .int r6)] [] D5 Q) ∧ (¬ r6 = 0 → (¬ x1 = 0 → xPf (d + 1) m_M_readText 114 [(0, .ref a0), (1, .int x1), (2, .int r6)] [] D5 Q) ∧ (x1 = 0 → (¬ (D5.1 a0 18) = 0 → xPf (d + 1) m_M_readText 114 [(0, .ref a0), (1, .int x1), (2, .int r6)] [] D5 Q) ∧ ((D5.1 a0 18) = 0 → vp_in (5 : Int32) (xl (a0 + 11)) ∧ ((D5.1 (a0 + 11) ((5 : Int32) : Int32).toNatClampNeg) ≤ (D5.1 a0 22) → xCv d m_M_later [.ref a0, .int (4 : Int32), .int (D5.1 a0 13)] D5 (fun D7 => xPf (d + 1) m_M_readText 114 [(0, .ref a0), (1, .int x1), (2, .int r6)] [] D7 Q)) ∧ (¬ (D5.1 (a0 + 11) ((5 : Int32) : Int32).toNatClampNeg) ≤ (D5.1 a0 22) → vp_in (0 : Int32) (xl (a0 + 11)) ∧ ((D5.1 (a0 + 11) ((0 : Int32) : Int32).toNatClampNeg) ≤ (D5.1 a0 23) → xCv d m_M_later [.ref a0, .int (4 : Int32), .int (D5.1 a0 13)] D5 (fun D8 => xPf (d + 1) m_M_readText 114 [(0, .ref a0), (1, .int x1), (2, .int r6)] [] D8 Q)) ∧ (¬ (D5.1 (a0 + 11) ((0 : Int32) : Int32).toNatClampNeg) ≤ (D5.1 a0 23) → vp_in (5 : Int32) (xl (a0 + 11)) ∧ ((D5.1 (a0 + 11) ((5 : Int32) : Int32).toNatClampNeg) < (2 : Int32) → xCv d m_M_later [.ref a0, .int (4 : Int32), .int (D5.1 a0 13)] D5 (fun D9 => xPf (d + 1) m_M_readText 114 [(0, .ref a0), (1, .int x1), (2, .int r6)] [] D9 Q)) ∧ (¬ (D5.1 (a0 + 11) ((5 : Int32) : Int32).toNatClampNeg) < (2 : Int32) → vp_in (0 : Int32) (xl (a0 + 11)) ∧ vp_in (1 : Int32) (xl (a0 + 11)) ∧ vp_in (5 : Int32) (xl (a0 + 11)) ∧ vp_in (2 : Int32) (xl (a0 + 11)) ∧ (((D5.1 (a0 + 11) ((5 : Int32) : Int32).toNatClampNeg) * (D5.1 (a0 + 11) ((2 : Int32) : Int32).toNatClampNeg)) < ((D5.1 (a0 + 11) ((0 : Int32) : Int32).toNatClampNeg) * (D5.1 (a0 + 11) ((1 : Int32) : Int32).toNatClampNeg)) → xPf (d + 1) m_M_readText 114 [(0, .ref a0), (1, .int x1), (2, .int r6)] [] D5 Q) ∧ (¬ ((D5.1 (a0 + 11) ((5 : Int32) : Int32).toNatClampNeg) * (D5.1 (a0 + 11) ((2 : Int32) : Int32).toNatClampNeg)) < ((D5.1 (a0 + 11) ((0 : Int32) : Int32).toNatClampNeg) * (D5.1 (a0 + 11) ((1 : Int32) : Int32).toNatClampNeg)) → xCv d m_M_later [.ref a0, .int (4 : Int32), .int (D5.1 a0 13)] D5 (fun D10 => xPf (d + 1) m_M_readText 114 [(0, .ref a0), (1, .int x1), (2, .int r6)] [] D10 Q)))))))))))) : xPf (d + 1) m_M_readText 0 [(0, .ref a0), (1, .int x1)] [] D Q := by
  refine x_aload_n rfl rfl ?_
  refine x_iload_n rfl rfl ?_
  refine x_vv lm_M_308 vf_M_begin k0 rfl rfl (Nat.le_of_ble_eq_true rfl) rfl h (fun D1 h => ?_)
  refine x_aload_n rfl rfl ?_
  refine x_iconst (v := (0 : Int32)) rfl rfl ?_
  refine x_pIn lp_M_155 nf_13_11 k0 rfl rfl (fun D2 eD2 => ?_)
  have h := h D2 eD2
  refine x_aload_n rfl rfl ?_
  refine x_iconst (v := (0 : Int32)) rfl rfl ?_
  refine x_pIn lp_M_181 nf_13_18 k0 rfl rfl (fun D3 eD3 => ?_)
  have h := h D3 eD3
  refine x_aload_n rfl rfl ?_
  refine x_vv lm_M_202 vf_M_token k0 rfl rfl (Nat.le_of_ble_eq_true rfl) rfl h (fun D4 h => ?_)
  refine x_aload_n rfl rfl ?_
  refine x_iload_n rfl rfl ?_
  refine x_vi lm_M_311 vf_M_lines k0 rfl rfl (Nat.le_of_ble_eq_true rfl) rfl h (fun r6 D5 h => ?_)
  refine x_istore_n (i := 2) (L1 := [(2, .int r6), (0, .ref a0), (1, .int x1)]) rfl rfl (Nat.le_of_ble_eq_true rfl) rfl ?_
  refine x_iload_n rfl rfl ?_
  refine x_if_eq (tgt := 114) rfl rfl (fun c => ?_) (fun c => ?_)
  · have h := h.1 c
    exact xP_sub [1, 2, 0] rfl h
  · have h := h.2 c
    refine x_iload_n rfl rfl ?_
    refine x_if_ne (tgt := 114) rfl rfl (fun c => ?_) (fun c => ?_)
    · have h := h.1 c
      exact xP_sub [1, 2, 0] rfl h
    · have h := h.2 c
      refine x_aload_n rfl rfl ?_
      refine x_gI lf_M_181 k0 rfl rfl ?_
      refine x_if_ne (tgt := 114) rfl rfl (fun c => ?_) (fun c => ?_)
      · have h := h.1 c
        exact xP_sub [1, 2, 0] rfl h
      · have h := h.2 c
        refine x_aload_n rfl rfl ?_
        refine x_gI lf_M_208 k0 rfl rfl ?_
        refine x_aload_n rfl rfl ?_
        refine x_gR lf_M_41 k0 rfl rfl ?_
        refine x_iconst (v := (5 : Int32)) rfl rfl ?_
        refine x_iald (ck_13_20 k0) (xlt (ck_13_20 k0) (by decide)) h.1 rfl ?_
        have h := h.2
        refine x_icmp_ge (tgt := 105) rfl rfl (fun c => ?_) (fun c => ?_)
        · have h := h.1 c
          refine x_aload_n rfl rfl ?_
          refine x_iconst (v := (4 : Int32)) rfl rfl ?_
          refine x_aload_n rfl rfl ?_
          refine x_gI lf_M_165 k0 rfl rfl ?_
          refine x_vv lm_M_187 vf_M_later k0 rfl rfl (Nat.le_of_ble_eq_true rfl) rfl h (fun D7 h => ?_)
          exact xP_sub [1, 2, 0] rfl h
        · have h := h.2 c
          refine x_aload_n rfl rfl ?_
          refine x_gI lf_M_223 k0 rfl rfl ?_
          refine x_aload_n rfl rfl ?_
          refine x_gR lf_M_41 k0 rfl rfl ?_
          refine x_iconst (v := (0 : Int32)) rfl rfl ?_
          refine x_iald (ck_13_20 k0) (xlt (ck_13_20 k0) (by decide)) h.1 rfl ?_
          have h := h.2
          refine x_icmp_ge (tgt := 105) rfl rfl (fun c => ?_) (fun c => ?_)
          · have h := h.1 c
            refine x_aload_n rfl rfl ?_
            refine x_iconst (v := (4 : Int32)) rfl rfl ?_
            refine x_aload_n rfl rfl ?_
            refine x_gI lf_M_165 k0 rfl rfl ?_
            refine x_vv lm_M_187 vf_M_later k0 rfl rfl (Nat.le_of_ble_eq_true rfl) rfl h (fun D8 h => ?_)
            exact xP_sub [1, 2, 0] rfl h
          · have h := h.2 c
            refine x_aload_n rfl rfl ?_
            refine x_gR lf_M_41 k0 rfl rfl ?_
            refine x_iconst (v := (5 : Int32)) rfl rfl ?_
            refine x_iald (ck_13_20 k0) (xlt (ck_13_20 k0) (by decide)) h.1 rfl ?_
            have h := h.2
            refine x_iconst (v := (2 : Int32)) rfl rfl ?_
            refine x_icmp_lt (tgt := 105) rfl rfl (fun c => ?_) (fun c => ?_)
            · have h := h.1 c
              refine x_aload_n rfl rfl ?_
              refine x_iconst (v := (4 : Int32)) rfl rfl ?_
              refine x_aload_n rfl rfl ?_
              refine x_gI lf_M_165 k0 rfl rfl ?_
              refine x_vv lm_M_187 vf_M_later k0 rfl rfl (Nat.le_of_ble_eq_true rfl) rfl h (fun D9 h => ?_)
              exact xP_sub [1, 2, 0] rfl h
            · have h := h.2 c
              refine x_aload_n rfl rfl ?_
              refine x_gR lf_M_41 k0 rfl rfl ?_
              refine x_iconst (v := (0 : Int32)) rfl rfl ?_
              refine x_iald (ck_13_20 k0) (xlt (ck_13_20 k0) (by decide)) h.1 rfl ?_
              have h := h.2
              refine x_aload_n rfl rfl ?_
              refine x_gR lf_M_41 k0 rfl rfl ?_
              refine x_iconst (v := (1 : Int32)) rfl rfl ?_
              refine x_iald (ck_13_20 k0) (xlt (ck_13_20 k0) (by decide)) h.1 rfl ?_
              have h := h.2
              refine x_imul rfl ?_
              refine x_aload_n rfl rfl ?_
              refine x_gR lf_M_41 k0 rfl rfl ?_
              refine x_iconst (v := (5 : Int32)) rfl rfl ?_
              refine x_iald (ck_13_20 k0) (xlt (ck_13_20 k0) (by decide)) h.1 rfl ?_
              have h := h.2
              refine x_aload_n rfl rfl ?_
              refine x_gR lf_M_41 k0 rfl rfl ?_
              refine x_iconst (v := (2 : Int32)) rfl rfl ?_
              refine x_iald (ck_13_20 k0) (xlt (ck_13_20 k0) (by decide)) h.1 rfl ?_
              have h := h.2
              refine x_imul rfl ?_
              refine x_icmp_gt (tgt := 114) rfl rfl (fun c => ?_) (fun c => ?_)
              · have h := h.1 c
                exact xP_sub [1, 2, 0] rfl h
              · have h := h.2 c
                refine x_aload_n rfl rfl ?_
                refine x_iconst (v := (4 : Int32)) rfl rfl ?_
                refine x_aload_n rfl rfl ?_
                refine x_gI lf_M_165 k0 rfl rfl ?_
                refine x_vv lm_M_187 vf_M_later k0 rfl rfl (Nat.le_of_ble_eq_true rfl) rfl h (fun D10 h => ?_)
                exact xP_sub [1, 2, 0] rfl h
theorem s_M_readText_114 {d : Nat} {D : xD} {Q : Option Value → xD → Prop} {a0 : Nat} {x1 : Int32} {x2 : Int32} (k0 : xk a0 = 13) (h : (x2 = 0 → vp_in (0 : Int32) (xl (a0 + 3)) ∧ ∀ D1 : xD, D1 = (xu D.1 (a0 + 3) ((0 : Int32) : Int32).toNatClampNeg (1 : Int32), D.2) → (¬ x2 = 0 → ((D1.1 a0 18) ≤ 0 → vp_in (0 : Int32) (xl (a0 + 4)) ∧ ∀ D2 : xD, D2 = (xu D1.1 (a0 + 4) ((0 : Int32) : Int32).toNatClampNeg (-1 : Int32), D1.2) → vp_in (0 : Int32) (xl (a0 + 3)) ∧ (¬ (D2.1 (a0 + 3) ((0 : Int32) : Int32).toNatClampNeg) = 0 → Q (some (.int (0 : Int32))) D2) ∧ ((D2.1 (a0 + 3) ((0 : Int32) : Int32).toNatClampNeg) = 0 → Q (some (.int (1 : Int32))) D2)) ∧ (¬ (D1.1 a0 18) ≤ 0 → vp_in (0 : Int32) (xl (a0 + 4)) ∧ ∀ D3 : xD, D3 = (xu D1.1 (a0 + 4) ((0 : Int32) : Int32).toNatClampNeg (D1.1 a0 19), D1.2) → vp_in (0 : Int32) (xl (a0 + 3)) ∧ (¬ (D3.1 (a0 + 3) ((0 : Int32) : Int32).toNatClampNeg) = 0 → Q (some (.int (0 : Int32))) D3) ∧ ((D3.1 (a0 + 3) ((0 : Int32) : Int32).toNatClampNeg) = 0 → Q (some (.int (1 : Int32))) D3))) ∧ (x2 = 0 → vp_in (0 : Int32) (xl (a0 + 4)) ∧ ∀ D4 : xD, D4 = (xu D1.1 (a0 + 4) ((0 : Int32) : Int32).toNatClampNeg (D1.1 a0 17), D1.2) → vp_in (0 : Int32) (xl (a0 + 3)) ∧ (¬ (D4.1 (a0 + 3) ((0 : Int32) : Int32).toNatClampNeg) = 0 → Q (some (.int (0 : Int32))) D4) ∧ ((D4.1 (a0 + 3) ((0 : Int32) : Int32).toNatClampNeg) = 0 → Q (some (.int (1 : Int32))) D4))) ∧ (¬ x2 = 0 → vp_in (0 : Int32) (xl (a0 + 3)) ∧ ∀ D5 : xD, D5 = (xu D.1 (a0 + 3) ((0 : Int32) : Int32).toNatClampNeg (D.1 a0 18), D.2) → (¬ x2 = 0 → ((D5.1 a0 18) ≤ 0 → vp_in (0 : Int32) (xl (a0 + 4)) ∧ ∀ D6 : xD, D6 = (xu D5.1 (a0 + 4) ((0 : Int32) : Int32).toNatClampNeg (-1 : Int32), D5.2) → vp_in (0 : Int32) (xl (a0 + 3)) ∧ (¬ (D6.1 (a0 + 3) ((0 : Int32) : Int32).toNatClampNeg) = 0 → Q (some (.int (0 : Int32))) D6) ∧ ((D6.1 (a0 + 3) ((0 : Int32) : Int32).toNatClampNeg) = 0 → Q (some (.int (1 : Int32))) D6)) ∧ (¬ (D5.1 a0 18) ≤ 0 → vp_in (0 : Int32) (xl (a0 + 4)) ∧ ∀ D7 : xD, D7 = (xu D5.1 (a0 + 4) ((0 : Int32) : Int32).toNatClampNeg (D5.1 a0 19), D5.2) → vp_in (0 : Int32) (xl (a0 + 3)) ∧ (¬ (D7.1 (a0 + 3) ((0 : Int32) : Int32).toNatClampNeg) = 0 → Q (some (.int (0 : Int32))) D7) ∧ ((D7.1 (a0 + 3) ((0 : Int32) : Int32).toNatClampNeg) = 0 → Q (some (.int (1 : Int32))) D7))) ∧ (x2 = 0 → vp_in (0 : Int32) (xl (a0 + 4)) ∧ ∀ D8 : xD, D8 = (xu D5.1 (a0 + 4) ((0 : Int32) : Int32).toNatClampNeg (D5.1 a0 17), D5.2) → vp_in (0 : Int32) (xl (a0 + 3)) ∧ (¬ (D8.1 (a0 + 3) ((0 : Int32) : Int32).toNatClampNeg) = 0 → Q (some (.int (0 : Int32))) D8) ∧ ((D8.1 (a0 + 3) ((0 : Int32) : Int32).toNatClampNeg) = 0 → Q (some (.int (1 : Int32))) D8)))) : xPf (d + 1) m_M_readText 114 [(0, .ref a0), (1, .int x1), (2, .int x2)] [] D Q := by
  refine x_aload_n rfl rfl ?_
  refine x_gR lf_M_17 k0 rfl rfl ?_
  refine x_iconst (v := (0 : Int32)) rfl rfl ?_
  refine x_iload_n rfl rfl ?_
  refine x_if_eq (tgt := 130) rfl rfl (fun c => ?_) (fun c => ?_)
  · have h := h.1 c
    refine x_iconst (v := (1 : Int32)) rfl rfl ?_
    refine x_iastn (ck_13_3 k0) h.1 rfl (fun D1 eD1 => ?_)
    have h := h.2 D1 eD1
    refine x_aload_n rfl rfl ?_
    refine x_gR lf_M_20 k0 rfl rfl ?_
    refine x_iconst (v := (0 : Int32)) rfl rfl ?_
    refine x_iload_n rfl rfl ?_
    refine x_if_ne (tgt := 148) rfl rfl (fun c => ?_) (fun c => ?_)
    · have h := h.1 c
      refine x_aload_n rfl rfl ?_
      refine x_gI lf_M_181 k0 rfl rfl ?_
      refine x_if_le (tgt := 162) rfl rfl (fun c => ?_) (fun c => ?_)
      · have h := h.1 c
        refine x_iconst (v := (-1 : Int32)) rfl rfl ?_
        refine x_iastn (ck_13_4 k0) h.1 rfl (fun D2 eD2 => ?_)
        have h := h.2 D2 eD2
        refine x_aload_n rfl rfl ?_
        refine x_gR lf_M_17 k0 rfl rfl ?_
        refine x_iconst (v := (0 : Int32)) rfl rfl ?_
        refine x_iald (ck_13_3 k0) (xlt (ck_13_3 k0) (by decide)) h.1 rfl ?_
        have h := h.2
        refine x_if_ne (tgt := 177) rfl rfl (fun c => ?_) (fun c => ?_)
        · have h := h.1 c
          refine x_iconst (v := (0 : Int32)) rfl rfl ?_
          exact x_zr rfl (Or.inl rfl) rfl h
        · have h := h.2 c
          refine x_iconst (v := (1 : Int32)) rfl rfl ?_
          refine x_goto (tgt := 178) rfl rfl ?_
          exact x_zr rfl (Or.inr rfl) rfl h
      · have h := h.2 c
        refine x_aload_n rfl rfl ?_
        refine x_gI lf_M_184 k0 rfl rfl ?_
        refine x_goto (tgt := 163) rfl rfl ?_
        refine x_iastn (ck_13_4 k0) h.1 rfl (fun D3 eD3 => ?_)
        have h := h.2 D3 eD3
        refine x_aload_n rfl rfl ?_
        refine x_gR lf_M_17 k0 rfl rfl ?_
        refine x_iconst (v := (0 : Int32)) rfl rfl ?_
        refine x_iald (ck_13_3 k0) (xlt (ck_13_3 k0) (by decide)) h.1 rfl ?_
        have h := h.2
        refine x_if_ne (tgt := 177) rfl rfl (fun c => ?_) (fun c => ?_)
        · have h := h.1 c
          refine x_iconst (v := (0 : Int32)) rfl rfl ?_
          exact x_zr rfl (Or.inl rfl) rfl h
        · have h := h.2 c
          refine x_iconst (v := (1 : Int32)) rfl rfl ?_
          refine x_goto (tgt := 178) rfl rfl ?_
          exact x_zr rfl (Or.inr rfl) rfl h
    · have h := h.2 c
      refine x_aload_n rfl rfl ?_
      refine x_gI lf_M_178 k0 rfl rfl ?_
      refine x_goto (tgt := 163) rfl rfl ?_
      refine x_iastn (ck_13_4 k0) h.1 rfl (fun D4 eD4 => ?_)
      have h := h.2 D4 eD4
      refine x_aload_n rfl rfl ?_
      refine x_gR lf_M_17 k0 rfl rfl ?_
      refine x_iconst (v := (0 : Int32)) rfl rfl ?_
      refine x_iald (ck_13_3 k0) (xlt (ck_13_3 k0) (by decide)) h.1 rfl ?_
      have h := h.2
      refine x_if_ne (tgt := 177) rfl rfl (fun c => ?_) (fun c => ?_)
      · have h := h.1 c
        refine x_iconst (v := (0 : Int32)) rfl rfl ?_
        exact x_zr rfl (Or.inl rfl) rfl h
      · have h := h.2 c
        refine x_iconst (v := (1 : Int32)) rfl rfl ?_
        refine x_goto (tgt := 178) rfl rfl ?_
        exact x_zr rfl (Or.inr rfl) rfl h
  · have h := h.2 c
    refine x_aload_n rfl rfl ?_
    refine x_gI lf_M_181 k0 rfl rfl ?_
    refine x_goto (tgt := 131) rfl rfl ?_
    refine x_iastn (ck_13_3 k0) h.1 rfl (fun D5 eD5 => ?_)
    have h := h.2 D5 eD5
    refine x_aload_n rfl rfl ?_
    refine x_gR lf_M_20 k0 rfl rfl ?_
    refine x_iconst (v := (0 : Int32)) rfl rfl ?_
    refine x_iload_n rfl rfl ?_
    refine x_if_ne (tgt := 148) rfl rfl (fun c => ?_) (fun c => ?_)
    · have h := h.1 c
      refine x_aload_n rfl rfl ?_
      refine x_gI lf_M_181 k0 rfl rfl ?_
      refine x_if_le (tgt := 162) rfl rfl (fun c => ?_) (fun c => ?_)
      · have h := h.1 c
        refine x_iconst (v := (-1 : Int32)) rfl rfl ?_
        refine x_iastn (ck_13_4 k0) h.1 rfl (fun D6 eD6 => ?_)
        have h := h.2 D6 eD6
        refine x_aload_n rfl rfl ?_
        refine x_gR lf_M_17 k0 rfl rfl ?_
        refine x_iconst (v := (0 : Int32)) rfl rfl ?_
        refine x_iald (ck_13_3 k0) (xlt (ck_13_3 k0) (by decide)) h.1 rfl ?_
        have h := h.2
        refine x_if_ne (tgt := 177) rfl rfl (fun c => ?_) (fun c => ?_)
        · have h := h.1 c
          refine x_iconst (v := (0 : Int32)) rfl rfl ?_
          exact x_zr rfl (Or.inl rfl) rfl h
        · have h := h.2 c
          refine x_iconst (v := (1 : Int32)) rfl rfl ?_
          refine x_goto (tgt := 178) rfl rfl ?_
          exact x_zr rfl (Or.inr rfl) rfl h
      · have h := h.2 c
        refine x_aload_n rfl rfl ?_
        refine x_gI lf_M_184 k0 rfl rfl ?_
        refine x_goto (tgt := 163) rfl rfl ?_
        refine x_iastn (ck_13_4 k0) h.1 rfl (fun D7 eD7 => ?_)
        have h := h.2 D7 eD7
        refine x_aload_n rfl rfl ?_
        refine x_gR lf_M_17 k0 rfl rfl ?_
        refine x_iconst (v := (0 : Int32)) rfl rfl ?_
        refine x_iald (ck_13_3 k0) (xlt (ck_13_3 k0) (by decide)) h.1 rfl ?_
        have h := h.2
        refine x_if_ne (tgt := 177) rfl rfl (fun c => ?_) (fun c => ?_)
        · have h := h.1 c
          refine x_iconst (v := (0 : Int32)) rfl rfl ?_
          exact x_zr rfl (Or.inl rfl) rfl h
        · have h := h.2 c
          refine x_iconst (v := (1 : Int32)) rfl rfl ?_
          refine x_goto (tgt := 178) rfl rfl ?_
          exact x_zr rfl (Or.inr rfl) rfl h
    · have h := h.2 c
      refine x_aload_n rfl rfl ?_
      refine x_gI lf_M_178 k0 rfl rfl ?_
      refine x_goto (tgt := 163) rfl rfl ?_
      refine x_iastn (ck_13_4 k0) h.1 rfl (fun D8 eD8 => ?_)
      have h := h.2 D8 eD8
      refine x_aload_n rfl rfl ?_
      refine x_gR lf_M_17 k0 rfl rfl ?_
      refine x_iconst (v := (0 : Int32)) rfl rfl ?_
      refine x_iald (ck_13_3 k0) (xlt (ck_13_3 k0) (by decide)) h.1 rfl ?_
      have h := h.2
      refine x_if_ne (tgt := 177) rfl rfl (fun c => ?_) (fun c => ?_)
      · have h := h.1 c
        refine x_iconst (v := (0 : Int32)) rfl rfl ?_
        exact x_zr rfl (Or.inl rfl) rfl h
      · have h := h.2 c
        refine x_iconst (v := (1 : Int32)) rfl rfl ?_
        refine x_goto (tgt := 178) rfl rfl ?_
        exact x_zr rfl (Or.inr rfl) rfl h
theorem s_M_store_0 {d : Nat} {D : xD} {Q : Option Value → xD → Prop} {a0 : Nat} {a1 : Nat} {x2 : Int32} {x3 : Int32} (k0 : xk a0 = 13) (k1 : xk a1 = 100) (h : xPf (d + 1) m_M_store 3 [(0, .ref a0), (1, .ref a1), (2, .int x2), (3, .int x3), (4, .int (0 : Int32))] [] D Q) : xPf (d + 1) m_M_store 0 [(0, .ref a0), (1, .ref a1), (2, .int x2), (3, .int x3)] [] D Q := by
  refine x_iconst (v := (0 : Int32)) rfl rfl ?_
  refine x_istore (i := 4) (L1 := [(4, .int (0 : Int32)), (0, .ref a0), (1, .ref a1), (2, .int x2), (3, .int x3)]) rfl (Nat.le_of_ble_eq_true rfl) rfl ?_
  exact xP_sub [1, 2, 3, 4, 0] rfl h
theorem s_M_store_3 {d : Nat} {D : xD} {Q : Option Value → xD → Prop} {a0 : Nat} {a1 : Nat} {x2 : Int32} {x3 : Int32} {x4 : Int32} (k0 : xk a0 = 13) (k1 : xk a1 = 100) (h : (x2 ≤ x4 → Q none D) ∧ (¬ x2 ≤ x4 → vp_in x4 (xl (a0 + 11)) ∧ vp_in ((x2 * x3) + x4) (xl a1) ∧ ∀ D1 : xD, D1 = (xu D.1 a1 ((x2 * x3) + x4 : Int32).toNatClampNeg (D.1 (a0 + 11) (x4 : Int32).toNatClampNeg), D.2) → xPf (d + 1) m_M_store 3 [(0, .ref a0), (1, .ref a1), (2, .int x2), (3, .int x3), (4, .int (x4 + (1 : Int32)))] [] D1 Q)) : xPf (d + 1) m_M_store 3 [(0, .ref a0), (1, .ref a1), (2, .int x2), (3, .int x3), (4, .int x4)] [] D Q := by
  refine x_iload rfl rfl ?_
  refine x_iload_n rfl rfl ?_
  refine x_icmp_ge (tgt := 30) rfl rfl (fun c => ?_) (fun c => ?_)
  · have h := h.1 c
    exact x_vret rfl rfl h
  · have h := h.2 c
    refine x_aload_n rfl rfl ?_
    refine x_iload_n rfl rfl ?_
    refine x_iload_n rfl rfl ?_
    refine x_imul rfl ?_
    refine x_iload rfl rfl ?_
    refine x_iadd rfl ?_
    refine x_aload_n rfl rfl ?_
    refine x_gR lf_M_41 k0 rfl rfl ?_
    refine x_iload rfl rfl ?_
    refine x_iald (ck_13_20 k0) (xlt (ck_13_20 k0) (by decide)) h.1 rfl ?_
    have h := h.2
    refine x_iastn k1 h.1 rfl (fun D1 eD1 => ?_)
    have h := h.2 D1 eD1
    refine x_iinc (i := 4) (v := x4 + (1 : Int32)) (L1 := [(4, .int (x4 + (1 : Int32))), (0, .ref a0), (1, .ref a1), (2, .int x2), (3, .int x3)]) rfl rfl rfl (Nat.le_of_ble_eq_true rfl) rfl ?_
    refine x_goto (tgt := 3) rfl rfl ?_
    exact xP_sub [1, 2, 3, 4, 0] rfl h
theorem s_M_storeAll_0 {d : Nat} {D : xD} {Q : Option Value → xD → Prop} {a0 : Nat} {x1 : Int32} {x2 : Int32} (k0 : xk a0 = 13) (h : (x1 = (0 : Int32) → xCv d m_M_store [.ref a0, .ref (a0 + 6), .int (48 : Int32), .int x2] D (fun D2 => Q none D2)) ∧ (x1 = (1 : Int32) → xCv d m_M_store [.ref a0, .ref (a0 + 7), .int (53 : Int32), .int x2] D (fun D3 => Q none D3)) ∧ (x1 = (2 : Int32) → xCv d m_M_store [.ref a0, .ref (a0 + 8), .int (121 : Int32), .int x2] D (fun D4 => Q none D4)) ∧ (x1 = (3 : Int32) → xCv d m_M_store [.ref a0, .ref (a0 + 9), .int (54 : Int32), .int x2] D (fun D5 => Q none D5)) ∧ (((x1).toInt < 0 ∨ 3 < (x1).toInt) → xCv d m_M_store [.ref a0, .ref (a0 + 10), .int (21 : Int32), .int x2] D (fun D1 => Q none D1))) : xPf (d + 1) m_M_storeAll 0 [(0, .ref a0), (1, .int x1), (2, .int x2)] [] D Q := by
  refine x_iload_n rfl rfl ?_
  rcases Decidable.em ((x1).toInt < 0 ∨ 3 < (x1).toInt) with q | q
  · refine x_tableOut (tgt := 80) rfl q rfl ?_
    have h := h.2.2.2.2 q
    refine x_aload_n rfl rfl ?_
    refine x_aload_n rfl rfl ?_
    refine x_gR lf_M_38 k0 rfl rfl ?_
    refine x_bipush (v := (21 : Int32)) rfl rfl ?_
    refine x_iload_n rfl rfl ?_
    refine x_vv lm_M_315 vf_M_store k0 rfl rfl (Nat.le_of_ble_eq_true rfl) rfl h (fun D1 h => ?_)
    exact x_vret rfl rfl h
  · have q : (x1).toInt = 0 ∨ (x1).toInt = 1 ∨ (x1).toInt = 2 ∨ (x1).toInt = 3 := by omega
    rcases q with q | q | q | q
    · have q : x1 = (0 : Int32) := Int32.toInt_inj.mp q
      refine x_tabK (k := (0 : Int32)) (tgt := 32) q rfl (by decide) (by decide) rfl rfl ?_
      have h := h.1 q
      refine x_aload_n rfl rfl ?_
      refine x_aload_n rfl rfl ?_
      refine x_gR lf_M_26 k0 rfl rfl ?_
      refine x_bipush (v := (48 : Int32)) rfl rfl ?_
      refine x_iload_n rfl rfl ?_
      refine x_vv lm_M_315 vf_M_store k0 rfl rfl (Nat.le_of_ble_eq_true rfl) rfl h (fun D2 h => ?_)
      exact x_vret rfl rfl h
    · have q : x1 = (1 : Int32) := Int32.toInt_inj.mp q
      refine x_tabK (k := (1 : Int32)) (tgt := 44) q rfl (by decide) (by decide) rfl rfl ?_
      have h := h.2.1 q
      refine x_aload_n rfl rfl ?_
      refine x_aload_n rfl rfl ?_
      refine x_gR lf_M_29 k0 rfl rfl ?_
      refine x_bipush (v := (53 : Int32)) rfl rfl ?_
      refine x_iload_n rfl rfl ?_
      refine x_vv lm_M_315 vf_M_store k0 rfl rfl (Nat.le_of_ble_eq_true rfl) rfl h (fun D3 h => ?_)
      exact x_vret rfl rfl h
    · have q : x1 = (2 : Int32) := Int32.toInt_inj.mp q
      refine x_tabK (k := (2 : Int32)) (tgt := 56) q rfl (by decide) (by decide) rfl rfl ?_
      have h := h.2.2.1 q
      refine x_aload_n rfl rfl ?_
      refine x_aload_n rfl rfl ?_
      refine x_gR lf_M_32 k0 rfl rfl ?_
      refine x_bipush (v := (121 : Int32)) rfl rfl ?_
      refine x_iload_n rfl rfl ?_
      refine x_vv lm_M_315 vf_M_store k0 rfl rfl (Nat.le_of_ble_eq_true rfl) rfl h (fun D4 h => ?_)
      exact x_vret rfl rfl h
    · have q : x1 = (3 : Int32) := Int32.toInt_inj.mp q
      refine x_tabK (k := (3 : Int32)) (tgt := 68) q rfl (by decide) (by decide) rfl rfl ?_
      have h := h.2.2.2.1 q
      refine x_aload_n rfl rfl ?_
      refine x_aload_n rfl rfl ?_
      refine x_gR lf_M_35 k0 rfl rfl ?_
      refine x_bipush (v := (54 : Int32)) rfl rfl ?_
      refine x_iload_n rfl rfl ?_
      refine x_vv lm_M_315 vf_M_store k0 rfl rfl (Nat.le_of_ble_eq_true rfl) rfl h (fun D5 h => ?_)
      exact x_vret rfl rfl h
theorem s_M_text_0 {d : Nat} {D : xD} {Q : Option Value → xD → Prop} {a0 : Nat} {x1 : Int32} {x2 : Int32} (k0 : xk a0 = 13) (h : ∀ D1 : xD, D1 = (xu D.1 a0 0 (0 : Int32), D.2) → vp_in (0 : Int32) (xl (a0 + 2)) ∧ ∀ D2 : xD, D2 = (xu D1.1 a0 12 (D1.1 (a0 + 2) ((0 : Int32) : Int32).toNatClampNeg), D1.2) → vp_in (0 : Int32) (xl (a0 + 2)) ∧ ∀ D3 : xD, D3 = (xu D2.1 (a0 + 2) ((0 : Int32) : Int32).toNatClampNeg (0 : Int32), D2.2) → vp_in (0 : Int32) (xl (a0 + 3)) ∧ ∀ D4 : xD, D4 = (xu D3.1 (a0 + 3) ((0 : Int32) : Int32).toNatClampNeg (0 : Int32), D3.2) → vp_in (0 : Int32) (xl (a0 + 4)) ∧ ∀ D5 : xD, D5 = (xu D4.1 (a0 + 4) ((0 : Int32) : Int32).toNatClampNeg (-1 : Int32), D4.2) → xCi d m_M_in [.int x1, .int (0 : Int32), .int (4 : Int32)] D5 (fun r7 D6 => (r7 = 0 → Q (some (.int (-2 : Int32))) D6) ∧ (¬ r7 = 0 → (¬ x2 = (-1 : Int32) → xCi d m_M_is [.ref a0, .int x1, .int x2] D6 (fun r9 D8 => (¬ r9 = 0 → xCi d m_M_readText [.ref a0, .int x1] D8 (fun r11 D10 => (¬ r11 = 0 → (¬ x2 = (-1 : Int32) → vp_in x1 (xl (a0 + 5)) ∧ (¬ x2 = (-1 : Int32) → vp_in x1 (xl (a0 + 5)) ∧ ∀ D12 : xD, D12 = (xu D10.1 (a0 + 5) (x1 : Int32).toNatClampNeg ((D10.1 (a0 + 5) (x1 : Int32).toNatClampNeg) + (0 : Int32)), D10.2) → xCv d m_M_storeAll [.ref a0, .int x1, .int x2] D12 (fun D13 => Q (some (.int x2)) D13)) ∧ (x2 = (-1 : Int32) → vp_in x1 (xl (a0 + 5)) ∧ ∀ D14 : xD, D14 = (xu D10.1 (a0 + 5) (x1 : Int32).toNatClampNeg ((D10.1 (a0 + 5) (x1 : Int32).toNatClampNeg) + (1 : Int32)), D10.2) → xCv d m_M_storeAll [.ref a0, .int x1, .int x2] D14 (fun D15 => Q (some (.int x2)) D15))) ∧ (x2 = (-1 : Int32) → vp_in x1 (xl (a0 + 5)) ∧ vp_in x1 (xl (a0 + 5)) ∧ (¬ x2 = (-1 : Int32) → vp_in x1 (xl (a0 + 5)) ∧ ∀ D16 : xD, D16 = (xu D10.1 (a0 + 5) (x1 : Int32).toNatClampNeg ((D10.1 (a0 + 5) (x1 : Int32).toNatClampNeg) + (0 : Int32)), D10.2) → xCv d m_M_storeAll [.ref a0, .int x1, .int (D10.1 (a0 + 5) (x1 : Int32).toNatClampNeg)] D16 (fun D17 => Q (some (.int (D10.1 (a0 + 5) (x1 : Int32).toNatClampNeg))) D17)) ∧ (x2 = (-1 : Int32) → vp_in x1 (xl (a0 + 5)) ∧ ∀ D18 : xD, D18 = (xu D10.1 (a0 + 5) (x1 : Int32).toNatClampNeg ((D10.1 (a0 + 5) (x1 : Int32).toNatClampNeg) + (1 : Int32)), D10.2) → xCv d m_M_storeAll [.ref a0, .int x1, .int (D10.1 (a0 + 5) (x1 : Int32).toNatClampNeg)] D18 (fun D19 => Q (some (.int (D10.1 (a0 + 5) (x1 : Int32).toNatClampNeg))) D19)))) ∧ (r11 = 0 → Q (some (.int (-1 : Int32))) D10))) ∧ (r9 = 0 → Q (some (.int (-2 : Int32))) D8))) ∧ (x2 = (-1 : Int32) → vp_in x1 (xl (a0 + 5)) ∧ (¬ (D6.1 (a0 + 5) (x1 : Int32).toNatClampNeg) = (2 : Int32) → xCi d m_M_readText [.ref a0, .int x1] D6 (fun r21 D20 => (¬ r21 = 0 → (¬ x2 = (-1 : Int32) → vp_in x1 (xl (a0 + 5)) ∧ (¬ x2 = (-1 : Int32) → vp_in x1 (xl (a0 + 5)) ∧ ∀ D22 : xD, D22 = (xu D20.1 (a0 + 5) (x1 : Int32).toNatClampNeg ((D20.1 (a0 + 5) (x1 : Int32).toNatClampNeg) + (0 : Int32)), D20.2) → xCv d m_M_storeAll [.ref a0, .int x1, .int x2] D22 (fun D23 => Q (some (.int x2)) D23)) ∧ (x2 = (-1 : Int32) → vp_in x1 (xl (a0 + 5)) ∧ ∀ D24 : xD, D24 = (xu D20.1 (a0 + 5) (x1 : Int32).toNatClampNeg ((D20.1 (a0 + 5) (x1 : Int32).toNatClampNeg) + (1 : Int32)), D20.2) → xCv d m_M_storeAll [.ref a0, .int x1, .int x2] D24 (fun D25 => Q (some (.int x2)) D25))) ∧ (x2 = (-1 : Int32) → vp_in x1 (xl (a0 + 5)) ∧ vp_in x1 (xl (a0 + 5)) ∧ (¬ x2 = (-1 : Int32) → vp_in x1 (xl (a0 + 5)) ∧ ∀ D26 : xD, D26 = (xu D20.1 (a0 + 5) (x1 : Int32).toNatClampNeg ((D20.1 (a0 + 5) (x1 : Int32).toNatClampNeg) + (0 : Int32)), D20.2) → xCv d m_M_storeAll [.ref a0, .int x1, .int (D20.1 (a0 + 5) (x1 : Int32).toNatClampNeg)] D26 (fun D27 => Q (some (.int (D20.1 (a0 + 5) (x1 : Int32).toNatClampNeg))) D27)) ∧ (x2 = (-1 : Int32) → vp_in x1 (xl (a0 + 5)) ∧ ∀ D28 : xD, D28 = (xu D20.1 (a0 + 5) (x1 : Int32).toNatClampNeg ((D20.1 (a0 + 5) (x1 : Int32).toNatClampNeg) + (1 : Int32)), D20.2) → xCv d m_M_storeAll [.ref a0, .int x1, .int (D20.1 (a0 + 5) (x1 : Int32).toNatClampNeg)] D28 (fun D29 => Q (some (.int (D20.1 (a0 + 5) (x1 : Int32).toNatClampNeg))) D29)))) ∧ (r21 = 0 → Q (some (.int (-1 : Int32))) D20))) ∧ ((D6.1 (a0 + 5) (x1 : Int32).toNatClampNeg) = (2 : Int32) → Q (some (.int (-2 : Int32))) D6))))) : xPf (d + 1) m_M_text 0 [(0, .ref a0), (1, .int x1), (2, .int x2)] [] D Q := by
  refine x_aload_n rfl rfl ?_
  refine x_iconst (v := (0 : Int32)) rfl rfl ?_
  refine x_pIn lp_M_139 nf_13_0 k0 rfl rfl (fun D1 eD1 => ?_)
  have h := h D1 eD1
  refine x_aload_n rfl rfl ?_
  refine x_aload_n rfl rfl ?_
  refine x_gR lf_M_13 k0 rfl rfl ?_
  refine x_iconst (v := (0 : Int32)) rfl rfl ?_
  refine x_iald (ck_13_2 k0) (xlt (ck_13_2 k0) (by decide)) h.1 rfl ?_
  have h := h.2
  refine x_pIn lp_M_158 nf_13_12 k0 rfl rfl (fun D2 eD2 => ?_)
  have h := h D2 eD2
  refine x_aload_n rfl rfl ?_
  refine x_gR lf_M_13 k0 rfl rfl ?_
  refine x_iconst (v := (0 : Int32)) rfl rfl ?_
  refine x_iconst (v := (0 : Int32)) rfl rfl ?_
  refine x_iastn (ck_13_2 k0) h.1 rfl (fun D3 eD3 => ?_)
  have h := h.2 D3 eD3
  refine x_aload_n rfl rfl ?_
  refine x_gR lf_M_17 k0 rfl rfl ?_
  refine x_iconst (v := (0 : Int32)) rfl rfl ?_
  refine x_iconst (v := (0 : Int32)) rfl rfl ?_
  refine x_iastn (ck_13_3 k0) h.1 rfl (fun D4 eD4 => ?_)
  have h := h.2 D4 eD4
  refine x_aload_n rfl rfl ?_
  refine x_gR lf_M_20 k0 rfl rfl ?_
  refine x_iconst (v := (0 : Int32)) rfl rfl ?_
  refine x_iconst (v := (-1 : Int32)) rfl rfl ?_
  refine x_iastn (ck_13_4 k0) h.1 rfl (fun D5 eD5 => ?_)
  have h := h.2 D5 eD5
  refine x_iload_n rfl rfl ?_
  refine x_iconst (v := (0 : Int32)) rfl rfl ?_
  refine x_iconst (v := (4 : Int32)) rfl rfl ?_
  refine x_si lm_M_147 sf_M_in rfl rfl (Nat.le_of_ble_eq_true rfl) rfl h (fun r7 D6 h => ?_)
  refine x_if_eq (tgt := 72) rfl rfl (fun c => ?_) (fun c => ?_)
  · have h := h.1 c
    refine x_bipush (v := (-2 : Int32)) rfl rfl ?_
    exact x_iret rfl rfl h
  · have h := h.2 c
    refine x_iload_n rfl rfl ?_
    refine x_iconst (v := (-1 : Int32)) rfl rfl ?_
    refine x_icmp_ne (tgt := 63) rfl rfl (fun c => ?_) (fun c => ?_)
    · have h := h.1 c
      refine x_aload_n rfl rfl ?_
      refine x_iload_n rfl rfl ?_
      refine x_iload_n rfl rfl ?_
      refine x_vi lm_M_319 vf_M_is k0 rfl rfl (Nat.le_of_ble_eq_true rfl) rfl h (fun r9 D8 h => ?_)
      refine x_if_ne (tgt := 75) rfl rfl (fun c => ?_) (fun c => ?_)
      · have h := h.1 c
        refine x_aload_n rfl rfl ?_
        refine x_iload_n rfl rfl ?_
        refine x_vi lm_M_322 vf_M_readText k0 rfl rfl (Nat.le_of_ble_eq_true rfl) rfl h (fun r11 D10 h => ?_)
        refine x_if_ne (tgt := 85) rfl rfl (fun c => ?_) (fun c => ?_)
        · have h := h.1 c
          refine x_iload_n rfl rfl ?_
          refine x_iconst (v := (-1 : Int32)) rfl rfl ?_
          refine x_icmp_ne (tgt := 99) rfl rfl (fun c => ?_) (fun c => ?_)
          · have h := h.1 c
            refine x_iload_n rfl rfl ?_
            refine x_istore_n (i := 3) (L1 := [(3, .int x2), (0, .ref a0), (1, .int x1), (2, .int x2)]) rfl rfl (Nat.le_of_ble_eq_true rfl) rfl ?_
            refine x_aload_n rfl rfl ?_
            refine x_gR lf_M_23 k0 rfl rfl ?_
            refine x_iload_n rfl rfl ?_
            refine x_dup2 rfl rfl rfl ?_
            refine x_iald (ck_13_5 k0) (xlt (ck_13_5 k0) (by decide)) h.1 rfl ?_
            have h := h.2
            refine x_iload_n rfl rfl ?_
            refine x_iconst (v := (-1 : Int32)) rfl rfl ?_
            refine x_icmp_ne (tgt := 117) rfl rfl (fun c => ?_) (fun c => ?_)
            · have h := h.1 c
              refine x_iconst (v := (0 : Int32)) rfl rfl ?_
              refine x_iadd rfl ?_
              refine x_iastn (ck_13_5 k0) h.1 rfl (fun D12 eD12 => ?_)
              have h := h.2 D12 eD12
              refine x_aload_n rfl rfl ?_
              refine x_iload_n rfl rfl ?_
              refine x_iload_n rfl rfl ?_
              refine x_vv lm_M_325 vf_M_storeAll k0 rfl rfl (Nat.le_of_ble_eq_true rfl) rfl h (fun D13 h => ?_)
              refine x_iload_n rfl rfl ?_
              exact x_iret rfl rfl h
            · have h := h.2 c
              refine x_iconst (v := (1 : Int32)) rfl rfl ?_
              refine x_goto (tgt := 118) rfl rfl ?_
              refine x_iadd rfl ?_
              refine x_iastn (ck_13_5 k0) h.1 rfl (fun D14 eD14 => ?_)
              have h := h.2 D14 eD14
              refine x_aload_n rfl rfl ?_
              refine x_iload_n rfl rfl ?_
              refine x_iload_n rfl rfl ?_
              refine x_vv lm_M_325 vf_M_storeAll k0 rfl rfl (Nat.le_of_ble_eq_true rfl) rfl h (fun D15 h => ?_)
              refine x_iload_n rfl rfl ?_
              exact x_iret rfl rfl h
          · have h := h.2 c
            refine x_aload_n rfl rfl ?_
            refine x_gR lf_M_23 k0 rfl rfl ?_
            refine x_iload_n rfl rfl ?_
            refine x_iald (ck_13_5 k0) (xlt (ck_13_5 k0) (by decide)) h.1 rfl ?_
            have h := h.2
            refine x_goto (tgt := 100) rfl rfl ?_
            refine x_istore_n (i := 3) (L1 := [(3, .int (D10.1 (a0 + 5) (x1 : Int32).toNatClampNeg)), (0, .ref a0), (1, .int x1), (2, .int x2)]) rfl rfl (Nat.le_of_ble_eq_true rfl) rfl ?_
            refine x_aload_n rfl rfl ?_
            refine x_gR lf_M_23 k0 rfl rfl ?_
            refine x_iload_n rfl rfl ?_
            refine x_dup2 rfl rfl rfl ?_
            refine x_iald (ck_13_5 k0) (xlt (ck_13_5 k0) (by decide)) h.1 rfl ?_
            have h := h.2
            refine x_iload_n rfl rfl ?_
            refine x_iconst (v := (-1 : Int32)) rfl rfl ?_
            refine x_icmp_ne (tgt := 117) rfl rfl (fun c => ?_) (fun c => ?_)
            · have h := h.1 c
              refine x_iconst (v := (0 : Int32)) rfl rfl ?_
              refine x_iadd rfl ?_
              refine x_iastn (ck_13_5 k0) h.1 rfl (fun D16 eD16 => ?_)
              have h := h.2 D16 eD16
              refine x_aload_n rfl rfl ?_
              refine x_iload_n rfl rfl ?_
              refine x_iload_n rfl rfl ?_
              refine x_vv lm_M_325 vf_M_storeAll k0 rfl rfl (Nat.le_of_ble_eq_true rfl) rfl h (fun D17 h => ?_)
              refine x_iload_n rfl rfl ?_
              exact x_iret rfl rfl h
            · have h := h.2 c
              refine x_iconst (v := (1 : Int32)) rfl rfl ?_
              refine x_goto (tgt := 118) rfl rfl ?_
              refine x_iadd rfl ?_
              refine x_iastn (ck_13_5 k0) h.1 rfl (fun D18 eD18 => ?_)
              have h := h.2 D18 eD18
              refine x_aload_n rfl rfl ?_
              refine x_iload_n rfl rfl ?_
              refine x_iload_n rfl rfl ?_
              refine x_vv lm_M_325 vf_M_storeAll k0 rfl rfl (Nat.le_of_ble_eq_true rfl) rfl h (fun D19 h => ?_)
              refine x_iload_n rfl rfl ?_
              exact x_iret rfl rfl h
        · have h := h.2 c
          refine x_iconst (v := (-1 : Int32)) rfl rfl ?_
          exact x_iret rfl rfl h
      · have h := h.2 c
        refine x_bipush (v := (-2 : Int32)) rfl rfl ?_
        exact x_iret rfl rfl h
    · have h := h.2 c
      refine x_aload_n rfl rfl ?_
      refine x_gR lf_M_23 k0 rfl rfl ?_
      refine x_iload_n rfl rfl ?_
      refine x_iald (ck_13_5 k0) (xlt (ck_13_5 k0) (by decide)) h.1 rfl ?_
      have h := h.2
      refine x_iconst (v := (2 : Int32)) rfl rfl ?_
      refine x_icmp_ne (tgt := 75) rfl rfl (fun c => ?_) (fun c => ?_)
      · have h := h.1 c
        refine x_aload_n rfl rfl ?_
        refine x_iload_n rfl rfl ?_
        refine x_vi lm_M_322 vf_M_readText k0 rfl rfl (Nat.le_of_ble_eq_true rfl) rfl h (fun r21 D20 h => ?_)
        refine x_if_ne (tgt := 85) rfl rfl (fun c => ?_) (fun c => ?_)
        · have h := h.1 c
          refine x_iload_n rfl rfl ?_
          refine x_iconst (v := (-1 : Int32)) rfl rfl ?_
          refine x_icmp_ne (tgt := 99) rfl rfl (fun c => ?_) (fun c => ?_)
          · have h := h.1 c
            refine x_iload_n rfl rfl ?_
            refine x_istore_n (i := 3) (L1 := [(3, .int x2), (0, .ref a0), (1, .int x1), (2, .int x2)]) rfl rfl (Nat.le_of_ble_eq_true rfl) rfl ?_
            refine x_aload_n rfl rfl ?_
            refine x_gR lf_M_23 k0 rfl rfl ?_
            refine x_iload_n rfl rfl ?_
            refine x_dup2 rfl rfl rfl ?_
            refine x_iald (ck_13_5 k0) (xlt (ck_13_5 k0) (by decide)) h.1 rfl ?_
            have h := h.2
            refine x_iload_n rfl rfl ?_
            refine x_iconst (v := (-1 : Int32)) rfl rfl ?_
            refine x_icmp_ne (tgt := 117) rfl rfl (fun c => ?_) (fun c => ?_)
            · have h := h.1 c
              refine x_iconst (v := (0 : Int32)) rfl rfl ?_
              refine x_iadd rfl ?_
              refine x_iastn (ck_13_5 k0) h.1 rfl (fun D22 eD22 => ?_)
              have h := h.2 D22 eD22
              refine x_aload_n rfl rfl ?_
              refine x_iload_n rfl rfl ?_
              refine x_iload_n rfl rfl ?_
              refine x_vv lm_M_325 vf_M_storeAll k0 rfl rfl (Nat.le_of_ble_eq_true rfl) rfl h (fun D23 h => ?_)
              refine x_iload_n rfl rfl ?_
              exact x_iret rfl rfl h
            · have h := h.2 c
              refine x_iconst (v := (1 : Int32)) rfl rfl ?_
              refine x_goto (tgt := 118) rfl rfl ?_
              refine x_iadd rfl ?_
              refine x_iastn (ck_13_5 k0) h.1 rfl (fun D24 eD24 => ?_)
              have h := h.2 D24 eD24
              refine x_aload_n rfl rfl ?_
              refine x_iload_n rfl rfl ?_
              refine x_iload_n rfl rfl ?_
              refine x_vv lm_M_325 vf_M_storeAll k0 rfl rfl (Nat.le_of_ble_eq_true rfl) rfl h (fun D25 h => ?_)
              refine x_iload_n rfl rfl ?_
              exact x_iret rfl rfl h
          · have h := h.2 c
            refine x_aload_n rfl rfl ?_
            refine x_gR lf_M_23 k0 rfl rfl ?_
            refine x_iload_n rfl rfl ?_
            refine x_iald (ck_13_5 k0) (xlt (ck_13_5 k0) (by decide)) h.1 rfl ?_
            have h := h.2
            refine x_goto (tgt := 100) rfl rfl ?_
            refine x_istore_n (i := 3) (L1 := [(3, .int (D20.1 (a0 + 5) (x1 : Int32).toNatClampNeg)), (0, .ref a0), (1, .int x1), (2, .int x2)]) rfl rfl (Nat.le_of_ble_eq_true rfl) rfl ?_
            refine x_aload_n rfl rfl ?_
            refine x_gR lf_M_23 k0 rfl rfl ?_
            refine x_iload_n rfl rfl ?_
            refine x_dup2 rfl rfl rfl ?_
            refine x_iald (ck_13_5 k0) (xlt (ck_13_5 k0) (by decide)) h.1 rfl ?_
            have h := h.2
            refine x_iload_n rfl rfl ?_
            refine x_iconst (v := (-1 : Int32)) rfl rfl ?_
            refine x_icmp_ne (tgt := 117) rfl rfl (fun c => ?_) (fun c => ?_)
            · have h := h.1 c
              refine x_iconst (v := (0 : Int32)) rfl rfl ?_
              refine x_iadd rfl ?_
              refine x_iastn (ck_13_5 k0) h.1 rfl (fun D26 eD26 => ?_)
              have h := h.2 D26 eD26
              refine x_aload_n rfl rfl ?_
              refine x_iload_n rfl rfl ?_
              refine x_iload_n rfl rfl ?_
              refine x_vv lm_M_325 vf_M_storeAll k0 rfl rfl (Nat.le_of_ble_eq_true rfl) rfl h (fun D27 h => ?_)
              refine x_iload_n rfl rfl ?_
              exact x_iret rfl rfl h
            · have h := h.2 c
              refine x_iconst (v := (1 : Int32)) rfl rfl ?_
              refine x_goto (tgt := 118) rfl rfl ?_
              refine x_iadd rfl ?_
              refine x_iastn (ck_13_5 k0) h.1 rfl (fun D28 eD28 => ?_)
              have h := h.2 D28 eD28
              refine x_aload_n rfl rfl ?_
              refine x_iload_n rfl rfl ?_
              refine x_iload_n rfl rfl ?_
              refine x_vv lm_M_325 vf_M_storeAll k0 rfl rfl (Nat.le_of_ble_eq_true rfl) rfl h (fun D29 h => ?_)
              refine x_iload_n rfl rfl ?_
              exact x_iret rfl rfl h
        · have h := h.2 c
          refine x_iconst (v := (-1 : Int32)) rfl rfl ?_
          exact x_iret rfl rfl h
      · have h := h.2 c
        refine x_goto (tgt := 72) rfl rfl ?_
        refine x_bipush (v := (-2 : Int32)) rfl rfl ?_
        exact x_iret rfl rfl h
theorem s_M_fault_0 {d : Nat} {D : xD} {Q : Option Value → xD → Prop} {a0 : Nat} {x1 : Int32} (k0 : xk a0 = 13) (h : ∀ D1 : xD, D1 = (xu D.1 a0 0 (0 : Int32), D.2) → (¬ x1 = 0 → (¬ x1 = (1 : Int32) → Q (some (.int (-1 : Int32))) D1) ∧ (x1 = (1 : Int32) → vp_in (0 : Int32) (xl (a0 + 4)) ∧ Q (some (.int (D1.1 (a0 + 4) ((0 : Int32) : Int32).toNatClampNeg))) D1)) ∧ (x1 = 0 → vp_in (0 : Int32) (xl (a0 + 3)) ∧ Q (some (.int (D1.1 (a0 + 3) ((0 : Int32) : Int32).toNatClampNeg))) D1)) : xPf (d + 1) m_M_fault 0 [(0, .ref a0), (1, .int x1)] [] D Q := by
  refine x_aload_n rfl rfl ?_
  refine x_iconst (v := (0 : Int32)) rfl rfl ?_
  refine x_pIn lp_M_139 nf_13_0 k0 rfl rfl (fun D1 eD1 => ?_)
  have h := h D1 eD1
  refine x_iload_n rfl rfl ?_
  refine x_if_ne (tgt := 18) rfl rfl (fun c => ?_) (fun c => ?_)
  · have h := h.1 c
    refine x_iload_n rfl rfl ?_
    refine x_iconst (v := (1 : Int32)) rfl rfl ?_
    refine x_icmp_ne (tgt := 32) rfl rfl (fun c => ?_) (fun c => ?_)
    · have h := h.1 c
      refine x_iconst (v := (-1 : Int32)) rfl rfl ?_
      exact x_iret rfl rfl h
    · have h := h.2 c
      refine x_aload_n rfl rfl ?_
      refine x_gR lf_M_20 k0 rfl rfl ?_
      refine x_iconst (v := (0 : Int32)) rfl rfl ?_
      refine x_iald (ck_13_4 k0) (xlt (ck_13_4 k0) (by decide)) h.1 rfl ?_
      have h := h.2
      refine x_goto (tgt := 33) rfl rfl ?_
      exact x_iret rfl rfl h
  · have h := h.2 c
    refine x_aload_n rfl rfl ?_
    refine x_gR lf_M_17 k0 rfl rfl ?_
    refine x_iconst (v := (0 : Int32)) rfl rfl ?_
    refine x_iald (ck_13_3 k0) (xlt (ck_13_3 k0) (by decide)) h.1 rfl ?_
    have h := h.2
    refine x_goto (tgt := 33) rfl rfl ?_
    exact x_iret rfl rfl h
