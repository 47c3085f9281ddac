theorem s_Looks_lasts_0 {d : Nat} {D : xD} {Q : Option Value → xD → Prop} {a0 : Nat} {x1 : Int32} {x2 : Int32} (k0 : xk a0 = 4) (h : xPf (d + 1) m_Looks_lasts 5 [(0, .ref a0), (1, .int x1), (2, .int x2), (3, .int (0 : Int32)), (4, .int (0 : Int32))] [] D Q) : xPf (d + 1) m_Looks_lasts 0 [(0, .ref a0), (1, .int x1), (2, .int x2)] [] D Q := by
  refine x_iconst (v := (0 : Int32)) rfl rfl ?_
  refine x_istore_n (i := 3) (L1 := [(3, .int (0 : Int32)), (0, .ref a0), (1, .int x1), (2, .int x2)]) rfl rfl (Nat.le_of_ble_eq_true rfl) rfl ?_
  refine x_iconst (v := (0 : Int32)) rfl rfl ?_
  refine x_istore (i := 4) (L1 := [(4, .int (0 : Int32)), (3, .int (0 : Int32)), (0, .ref a0), (1, .int x1), (2, .int x2)]) rfl (Nat.le_of_ble_eq_true rfl) rfl ?_
  exact xP_sub [2, 3, 4, 1, 0] rfl h
theorem s_Looks_lasts_5 {d : Nat} {D : xD} {Q : Option Value → xD → Prop} {a0 : Nat} {x1 : Int32} {x2 : Int32} {x3 : Int32} {x4 : Int32} (k0 : xk a0 = 4) (h : ((60 : Int32) ≤ x4 → Q (some (.int x3)) D) ∧ (¬ (60 : Int32) ≤ x4 → xCi d m_Table_lastOf [.ref a0, .int x2, .int x4] D (fun r2 D1 => (¬ r2 = x1 → xPf (d + 1) m_Looks_lasts 5 [(0, .ref a0), (1, .int x1), (2, .int x2), (3, .int (x3 + (0 : Int32))), (4, .int (x4 + (1 : Int32)))] [] D1 Q) ∧ (r2 = x1 → xPf (d + 1) m_Looks_lasts 5 [(0, .ref a0), (1, .int x1), (2, .int x2), (3, .int (x3 + (1 : Int32))), (4, .int (x4 + (1 : Int32)))] [] D1 Q)))) : xPf (d + 1) m_Looks_lasts 5 [(0, .ref a0), (1, .int x1), (2, .int x2), (3, .int x3), (4, .int x4)] [] D Q := by
  refine x_iload rfl rfl ?_
  refine x_bipush (v := (60 : Int32)) rfl rfl ?_
  refine x_icmp_ge (tgt := 37) rfl rfl (fun c => ?_) (fun c => ?_)
  · have h := h.1 c
    refine x_iload_n rfl rfl ?_
    exact x_iret rfl rfl h
  · have h := h.2 c
    refine x_iload_n rfl rfl ?_
    refine x_aload_n rfl rfl ?_
    refine x_iload_n rfl rfl ?_
    refine x_iload rfl rfl ?_
    refine x_vi lm_Looks_31 vf_Table_lastOf k0 rfl rfl (Nat.le_of_ble_eq_true rfl) rfl h (fun r2 D1 h => ?_)
    refine x_iload_n rfl rfl ?_
    refine x_icmp_ne (tgt := 28) rfl rfl (fun c => ?_) (fun c => ?_)
    · have h := h.1 c
      refine x_iconst (v := (0 : Int32)) rfl rfl ?_
      refine x_iadd rfl ?_
      refine x_istore_n (i := 3) (L1 := [(3, .int (x3 + (0 : Int32))), (0, .ref a0), (1, .int x1), (2, .int x2), (4, .int x4)]) rfl rfl (Nat.le_of_ble_eq_true rfl) rfl ?_
      refine x_iinc (i := 4) (v := x4 + (1 : Int32)) (L1 := [(4, .int (x4 + (1 : Int32))), (3, .int (x3 + (0 : Int32))), (0, .ref a0), (1, .int x1), (2, .int x2)]) rfl rfl rfl (Nat.le_of_ble_eq_true rfl) rfl ?_
      refine x_goto (tgt := 5) rfl rfl ?_
      exact xP_sub [2, 3, 4, 1, 0] rfl h
    · have h := h.2 c
      refine x_iconst (v := (1 : Int32)) rfl rfl ?_
      refine x_goto (tgt := 29) rfl rfl ?_
      refine x_iadd rfl ?_
      refine x_istore_n (i := 3) (L1 := [(3, .int (x3 + (1 : Int32))), (0, .ref a0), (1, .int x1), (2, .int x2), (4, .int x4)]) rfl rfl (Nat.le_of_ble_eq_true rfl) rfl ?_
      refine x_iinc (i := 4) (v := x4 + (1 : Int32)) (L1 := [(4, .int (x4 + (1 : Int32))), (3, .int (x3 + (1 : Int32))), (0, .ref a0), (1, .int x1), (2, .int x2)]) rfl rfl rfl (Nat.le_of_ble_eq_true rfl) rfl ?_
      refine x_goto (tgt := 5) rfl rfl ?_
      exact xP_sub [2, 3, 4, 1, 0] rfl h
theorem s_Looks_bestEyes_0 {d : Nat} {D : xD} {Q : Option Value → xD → Prop} {a0 : Nat} {a1 : Nat} {x2 : Int32} {x3 : Int32} (k0 : xk a0 = 12) (k1 : xk a1 = 4) (h : xCv d m_Table_copy [.ref (a0 + 1), .ref a1] D (fun D1 => xPf (d + 1) m_Looks_bestEyes 17 [(0, .ref a0), (1, .ref a1), (2, .int x2), (3, .int x3), (4, .int (-1 : Int32)), (5, .int (0 : Int32)), (6, .int (1 : Int32))] [] D1 Q)) : xPf (d + 1) m_Looks_bestEyes 0 [(0, .ref a0), (1, .ref a1), (2, .int x2), (3, .int x3)] [] D Q := by
  refine x_aload_n rfl rfl ?_
  refine x_gR lf_Looks_14 k0 rfl rfl ?_
  refine x_aload_n rfl rfl ?_
  refine x_vv lm_Looks_35 vf_Table_copy (ck_12_0 k0) rfl rfl (Nat.le_of_ble_eq_true rfl) rfl h (fun D1 h => ?_)
  refine x_iconst (v := (-1 : Int32)) rfl rfl ?_
  refine x_istore (i := 4) (L1 := [(4, .int (-1 : Int32)), (0, .ref a0), (1, .ref a1), (2, .int x2), (3, .int x3)]) rfl (Nat.le_of_ble_eq_true rfl) rfl ?_
  refine x_iconst (v := (0 : Int32)) rfl rfl ?_
  refine x_istore (i := 5) (L1 := [(5, .int (0 : Int32)), (4, .int (-1 : Int32)), (0, .ref a0), (1, .ref a1), (2, .int x2), (3, .int x3)]) rfl (Nat.le_of_ble_eq_true rfl) rfl ?_
  refine x_iconst (v := (1 : Int32)) rfl rfl ?_
  refine x_istore (i := 6) (L1 := [(6, .int (1 : Int32)), (5, .int (0 : Int32)), (4, .int (-1 : Int32)), (0, .ref a0), (1, .ref a1), (2, .int x2), (3, .int x3)]) rfl (Nat.le_of_ble_eq_true rfl) rfl ?_
  exact xP_sub [3, 4, 5, 6, 2, 1, 0] rfl h
theorem s_Looks_bestEyes_17 {d : Nat} {D : xD} {Q : Option Value → xD → Prop} {a0 : Nat} {a1 : Nat} {x2 : Int32} {x3 : Int32} {x4 : Int32} {x5 : Int32} {x6 : Int32} (k0 : xk a0 = 12) (k1 : xk a1 = 4) (h : ((9 : Int32) < x6 → Q (some (.int x4)) D) ∧ (¬ (9 : Int32) < x6 → xCv d m_Table_setOf [.ref (a0 + 1), .int x2, .int (1 : Int32), .int x6] D (fun D1 => xCi d m_Looks_lasts [.ref (a0 + 1), .int x2, .int x3] D1 (fun r3 D2 => ¬ x6 = 0 ∧ (x4 = (-1 : Int32) → xPf (d + 1) m_Looks_bestEyes 17 [(0, .ref a0), (1, .ref a1), (2, .int x2), (3, .int x3), (4, .int x6), (5, .int (r3 + ((60 : Int32) / x6))), (6, .int (x6 + (1 : Int32)))] [] D2 Q) ∧ (¬ x4 = (-1 : Int32) → (x5 ≤ (r3 + ((60 : Int32) / x6)) → xPf (d + 1) m_Looks_bestEyes 17 [(0, .ref a0), (1, .ref a1), (2, .int x2), (3, .int x3), (4, .int x4), (5, .int x5), (6, .int (x6 + (1 : Int32)))] [] D2 Q) ∧ (¬ x5 ≤ (r3 + ((60 : Int32) / x6)) → xPf (d + 1) m_Looks_bestEyes 17 [(0, .ref a0), (1, .ref a1), (2, .int x2), (3, .int x3), (4, .int x6), (5, .int (r3 + ((60 : Int32) / x6))), (6, .int (x6 + (1 : Int32)))] [] D2 Q)))))) : xPf (d + 1) m_Looks_bestEyes 17 [(0, .ref a0), (1, .ref a1), (2, .int x2), (3, .int x3), (4, .int x4), (5, .int x5), (6, .int x6)] [] D Q := by
  refine x_iload rfl rfl ?_
  refine x_bipush (v := (9 : Int32)) rfl rfl ?_
  refine x_icmp_gt (tgt := 79) rfl rfl (fun c => ?_) (fun c => ?_)
  · have h := h.1 c
    refine x_iload rfl rfl ?_
    exact x_iret rfl rfl h
  · have h := h.2 c
    refine x_aload_n rfl rfl ?_
    refine x_gR lf_Looks_14 k0 rfl rfl ?_
    refine x_iload_n rfl rfl ?_
    refine x_iconst (v := (1 : Int32)) rfl rfl ?_
    refine x_iload rfl rfl ?_
    refine x_vv lm_Looks_39 vf_Table_setOf (ck_12_0 k0) rfl rfl (Nat.le_of_ble_eq_true rfl) rfl h (fun D1 h => ?_)
    refine x_aload_n rfl rfl ?_
    refine x_gR lf_Looks_14 k0 rfl rfl ?_
    refine x_iload_n rfl rfl ?_
    refine x_iload_n rfl rfl ?_
    refine x_si lm_Looks_43 sf_Looks_lasts rfl rfl (Nat.le_of_ble_eq_true rfl) rfl h (fun r3 D2 h => ?_)
    refine x_bipush (v := (60 : Int32)) rfl rfl ?_
    refine x_iload rfl rfl ?_
    refine x_idiv rfl h.1 ?_
    have h := h.2
    refine x_iadd rfl ?_
    refine x_istore (i := 7) (L1 := [(7, .int (r3 + ((60 : Int32) / x6))), (0, .ref a0), (1, .ref a1), (2, .int x2), (3, .int x3), (4, .int x4), (5, .int x5), (6, .int x6)]) rfl (Nat.le_of_ble_eq_true rfl) rfl ?_
    refine x_iload rfl rfl ?_
    refine x_iconst (v := (-1 : Int32)) rfl rfl ?_
    refine x_icmp_eq (tgt := 65) rfl rfl (fun c => ?_) (fun c => ?_)
    · have h := h.1 c
      refine x_iload rfl rfl ?_
      refine x_istore (i := 4) (L1 := [(4, .int x6), (7, .int (r3 + ((60 : Int32) / x6))), (0, .ref a0), (1, .ref a1), (2, .int x2), (3, .int x3), (5, .int x5), (6, .int x6)]) rfl (Nat.le_of_ble_eq_true rfl) rfl ?_
      refine x_iload rfl rfl ?_
      refine x_istore (i := 5) (L1 := [(5, .int (r3 + ((60 : Int32) / x6))), (4, .int x6), (7, .int (r3 + ((60 : Int32) / x6))), (0, .ref a0), (1, .ref a1), (2, .int x2), (3, .int x3), (6, .int x6)]) rfl (Nat.le_of_ble_eq_true rfl) rfl ?_
      refine x_iinc (i := 6) (v := x6 + (1 : Int32)) (L1 := [(6, .int (x6 + (1 : Int32))), (5, .int (r3 + ((60 : Int32) / x6))), (4, .int x6), (7, .int (r3 + ((60 : Int32) / x6))), (0, .ref a0), (1, .ref a1), (2, .int x2), (3, .int x3)]) rfl rfl rfl (Nat.le_of_ble_eq_true rfl) rfl ?_
      refine x_goto (tgt := 17) rfl rfl ?_
      exact xP_sub [4, 5, 6, 7, 2, 1, 0] rfl h
    · have h := h.2 c
      refine x_iload rfl rfl ?_
      refine x_iload rfl rfl ?_
      refine x_icmp_ge (tgt := 73) rfl rfl (fun c => ?_) (fun c => ?_)
      · have h := h.1 c
        refine x_iinc (i := 6) (v := x6 + (1 : Int32)) (L1 := [(6, .int (x6 + (1 : Int32))), (7, .int (r3 + ((60 : Int32) / x6))), (0, .ref a0), (1, .ref a1), (2, .int x2), (3, .int x3), (4, .int x4), (5, .int x5)]) rfl rfl rfl (Nat.le_of_ble_eq_true rfl) rfl ?_
        refine x_goto (tgt := 17) rfl rfl ?_
        exact xP_sub [2, 3, 4, 5, 6, 7, 0] rfl h
      · have h := h.2 c
        refine x_iload rfl rfl ?_
        refine x_istore (i := 4) (L1 := [(4, .int x6), (7, .int (r3 + ((60 : Int32) / x6))), (0, .ref a0), (1, .ref a1), (2, .int x2), (3, .int x3), (5, .int x5), (6, .int x6)]) rfl (Nat.le_of_ble_eq_true rfl) rfl ?_
        refine x_iload rfl rfl ?_
        refine x_istore (i := 5) (L1 := [(5, .int (r3 + ((60 : Int32) / x6))), (4, .int x6), (7, .int (r3 + ((60 : Int32) / x6))), (0, .ref a0), (1, .ref a1), (2, .int x2), (3, .int x3), (6, .int x6)]) rfl (Nat.le_of_ble_eq_true rfl) rfl ?_
        refine x_iinc (i := 6) (v := x6 + (1 : Int32)) (L1 := [(6, .int (x6 + (1 : Int32))), (5, .int (r3 + ((60 : Int32) / x6))), (4, .int x6), (7, .int (r3 + ((60 : Int32) / x6))), (0, .ref a0), (1, .ref a1), (2, .int x2), (3, .int x3)]) rfl rfl rfl (Nat.le_of_ble_eq_true rfl) rfl ?_
        refine x_goto (tgt := 17) rfl rfl ?_
        exact xP_sub [4, 5, 6, 7, 2, 1, 0] rfl h
theorem s_Looks_waysOf_0 {d : Nat} {D : xD} {Q : Option Value → xD → Prop} {x0 : Int32}  (h : xPf (d + 1) m_Looks_waysOf 4 [(0, .int x0), (1, .int (1 : Int32)), (2, .int (0 : Int32))] [] D Q) : xPf (d + 1) m_Looks_waysOf 0 [(0, .int x0)] [] D Q := by
  refine x_iconst (v := (1 : Int32)) rfl rfl ?_
  refine x_istore_n (i := 1) (L1 := [(1, .int (1 : Int32)), (0, .int x0)]) rfl rfl (Nat.le_of_ble_eq_true rfl) rfl ?_
  refine x_iconst (v := (0 : Int32)) rfl rfl ?_
  refine x_istore_n (i := 2) (L1 := [(2, .int (0 : Int32)), (1, .int (1 : Int32)), (0, .int x0)]) rfl rfl (Nat.le_of_ble_eq_true rfl) rfl ?_
  exact xP_sub [2, 1, 0] rfl h
theorem s_Looks_waysOf_4 {d : Nat} {D : xD} {Q : Option Value → xD → Prop} {x0 : Int32} {x1 : Int32} {x2 : Int32}  (h : (x0 ≤ x2 → Q (some (.int x1)) D) ∧ (¬ x0 ≤ x2 → ((5 : Int32) ≤ x2 → Q (some (.int x1)) D) ∧ (¬ (5 : Int32) ≤ x2 → xPf (d + 1) m_Looks_waysOf 4 [(0, .int x0), (1, .int (x1 * (3 : Int32))), (2, .int (x2 + (1 : Int32)))] [] D Q))) : xPf (d + 1) m_Looks_waysOf 4 [(0, .int x0), (1, .int x1), (2, .int x2)] [] D Q := by
  refine x_iload_n rfl rfl ?_
  refine x_iload_n rfl rfl ?_
  refine x_icmp_ge (tgt := 24) rfl rfl (fun c => ?_) (fun c => ?_)
  · have h := h.1 c
    refine x_iload_n rfl rfl ?_
    exact x_iret rfl rfl h
  · have h := h.2 c
    refine x_iload_n rfl rfl ?_
    refine x_iconst (v := (5 : Int32)) rfl rfl ?_
    refine x_icmp_ge (tgt := 24) rfl rfl (fun c => ?_) (fun c => ?_)
    · have h := h.1 c
      refine x_iload_n rfl rfl ?_
      exact x_iret rfl rfl h
    · have h := h.2 c
      refine x_iload_n rfl rfl ?_
      refine x_iconst (v := (3 : Int32)) rfl rfl ?_
      refine x_imul rfl ?_
      refine x_istore_n (i := 1) (L1 := [(1, .int (x1 * (3 : Int32))), (0, .int x0), (2, .int x2)]) rfl rfl (Nat.le_of_ble_eq_true rfl) rfl ?_
      refine x_iinc (i := 2) (v := x2 + (1 : Int32)) (L1 := [(2, .int (x2 + (1 : Int32))), (1, .int (x1 * (3 : Int32))), (0, .int x0)]) rfl rfl rfl (Nat.le_of_ble_eq_true rfl) rfl ?_
      refine x_goto (tgt := 4) rfl rfl ?_
      exact xP_sub [2, 1, 0] rfl h
theorem s_Looks_costOf_0 {d : Nat} {D : xD} {Q : Option Value → xD → Prop} {a0 : Nat} {a1 : Nat} {x2 : Int32} {x3 : Int32} (k0 : xk a0 = 12) (k1 : xk a1 = 4) (h : xCv d m_Looks_weigh [.ref a0, .ref a1, .int x3] D (fun D1 => xCi d m_Row_get [.ref (a0 + 6), .int ((x3 * (5 : Int32)) + x2)] D1 (fun r3 D2 => Q (some (.int r3)) D2))) : xPf (d + 1) m_Looks_costOf 0 [(0, .ref a0), (1, .ref a1), (2, .int x2), (3, .int x3)] [] D Q := by
  refine x_aload_n rfl rfl ?_
  refine x_aload_n rfl rfl ?_
  refine x_iload_n rfl rfl ?_
  refine x_vv lm_Looks_47 vf_Looks_weigh k0 rfl rfl (Nat.le_of_ble_eq_true rfl) rfl h (fun D1 h => ?_)
  refine x_aload_n rfl rfl ?_
  refine x_gR lf_Looks_23 k0 rfl rfl ?_
  refine x_iload_n rfl rfl ?_
  refine x_iconst (v := (5 : Int32)) rfl rfl ?_
  refine x_imul rfl ?_
  refine x_iload_n rfl rfl ?_
  refine x_iadd rfl ?_
  refine x_vi lm_Looks_51 vf_Row_get (ck_12_1 k0) rfl rfl (Nat.le_of_ble_eq_true rfl) rfl h (fun r3 D2 h => ?_)
  exact x_iret rfl rfl h
theorem s_Looks_weigh_0 {d : Nat} {D : xD} {Q : Option Value → xD → Prop} {a0 : Nat} {a1 : Nat} {x2 : Int32} (k0 : xk a0 = 12) (k1 : xk a1 = 4) (h : xCi d m_Table_people [.ref a1] D (fun r2 D1 => xCv d m_Table_copy [.ref (a0 + 1), .ref a1] D1 (fun D3 => xPf (d + 1) m_Looks_weigh 26 [(0, .ref a0), (1, .ref a1), (2, .int x2), (3, .int r2), (4, .int (x2 * (5 : Int32))), (5, .int x2), (6, .int (r2 - (1 : Int32)))] [] D3 Q))) : xPf (d + 1) m_Looks_weigh 0 [(0, .ref a0), (1, .ref a1), (2, .int x2)] [] D Q := by
  refine x_aload_n rfl rfl ?_
  refine x_vi lm_Looks_55 vf_Table_people k1 rfl rfl (Nat.le_of_ble_eq_true rfl) rfl h (fun r2 D1 h => ?_)
  refine x_istore_n (i := 3) (L1 := [(3, .int r2), (0, .ref a0), (1, .ref a1), (2, .int x2)]) rfl rfl (Nat.le_of_ble_eq_true rfl) rfl ?_
  refine x_iload_n rfl rfl ?_
  refine x_iconst (v := (5 : Int32)) rfl rfl ?_
  refine x_imul rfl ?_
  refine x_istore (i := 4) (L1 := [(4, .int (x2 * (5 : Int32))), (3, .int r2), (0, .ref a0), (1, .ref a1), (2, .int x2)]) rfl (Nat.le_of_ble_eq_true rfl) rfl ?_
  refine x_aload_n rfl rfl ?_
  refine x_gR lf_Looks_14 k0 rfl rfl ?_
  refine x_aload_n rfl rfl ?_
  refine x_vv lm_Looks_35 vf_Table_copy (ck_12_0 k0) rfl rfl (Nat.le_of_ble_eq_true rfl) rfl h (fun D3 h => ?_)
  refine x_iload_n rfl rfl ?_
  refine x_istore (i := 5) (L1 := [(5, .int x2), (4, .int (x2 * (5 : Int32))), (3, .int r2), (0, .ref a0), (1, .ref a1), (2, .int x2)]) rfl (Nat.le_of_ble_eq_true rfl) rfl ?_
  refine x_iload_n rfl rfl ?_
  refine x_iconst (v := (1 : Int32)) rfl rfl ?_
  refine x_isub rfl ?_
  refine x_istore (i := 6) (L1 := [(6, .int (r2 - (1 : Int32))), (5, .int x2), (4, .int (x2 * (5 : Int32))), (3, .int r2), (0, .ref a0), (1, .ref a1), (2, .int x2)]) rfl (Nat.le_of_ble_eq_true rfl) rfl ?_
  exact xP_sub [4, 5, 6, 3, 2, 1, 0] rfl h
theorem s_Looks_weigh_26 {d : Nat} {D : xD} {Q : Option Value → xD → Prop} {a0 : Nat} {a1 : Nat} {x2 : Int32} {x3 : Int32} {x4 : Int32} {x5 : Int32} {x6 : Int32} (k0 : xk a0 = 12) (k1 : xk a1 = 4) (h : (x6 < 0 → xPf (d + 1) m_Looks_weigh 94 [(0, .ref a0), (1, .ref a1), (2, .int x2), (3, .int x3), (4, .int x4), (5, .int x5), (6, .int (0 : Int32))] [] D Q) ∧ (¬ x6 < 0 → xCv d m_Table_setOf [.ref (a0 + 1), .int x6, .int (1 : Int32), .int ((x5 - x5 / (3 : Int32) * (3 : Int32)) + (1 : Int32))] D (fun D1 => (((x5 - x5 / (3 : Int32) * (3 : Int32)) + (1 : Int32)) ≤ 0 → xCv d m_Row_set [.ref (a0 + 6), .int (x4 + x6), .int (0 : Int32)] D1 (fun D2 => xPf (d + 1) m_Looks_weigh 26 [(0, .ref a0), (1, .ref a1), (2, .int x2), (3, .int x3), (4, .int x4), (5, .int (x5 / (3 : Int32))), (6, .int (x6 + (-1 : Int32)))] [] D2 Q)) ∧ (¬ ((x5 - x5 / (3 : Int32) * (3 : Int32)) + (1 : Int32)) ≤ 0 → ¬ ((x5 - x5 / (3 : Int32) * (3 : Int32)) + (1 : Int32)) = 0 ∧ xCv d m_Row_set [.ref (a0 + 6), .int (x4 + x6), .int (((20 : Int32) * x3) / ((x5 - x5 / (3 : Int32) * (3 : Int32)) + (1 : Int32)))] D1 (fun D3 => xPf (d + 1) m_Looks_weigh 26 [(0, .ref a0), (1, .ref a1), (2, .int x2), (3, .int x3), (4, .int x4), (5, .int (x5 / (3 : Int32))), (6, .int (x6 + (-1 : Int32)))] [] D3 Q))))) : xPf (d + 1) m_Looks_weigh 26 [(0, .ref a0), (1, .ref a1), (2, .int x2), (3, .int x3), (4, .int x4), (5, .int x5), (6, .int x6)] [] D Q := by
  refine x_iload rfl rfl ?_
  refine x_if_lt (tgt := 91) rfl rfl (fun c => ?_) (fun c => ?_)
  · have h := h.1 c
    refine x_iconst (v := (0 : Int32)) rfl rfl ?_
    refine x_istore (i := 6) (L1 := [(6, .int (0 : Int32)), (0, .ref a0), (1, .ref a1), (2, .int x2), (3, .int x3), (4, .int x4), (5, .int x5)]) rfl (Nat.le_of_ble_eq_true rfl) rfl ?_
    exact xP_sub [1, 2, 3, 4, 5, 6, 0] rfl h
  · have h := h.2 c
    refine x_iload rfl rfl ?_
    refine x_iconst (v := (3 : Int32)) rfl rfl ?_
    refine x_irem rfl (by decide) ?_
    refine x_iconst (v := (1 : Int32)) rfl rfl ?_
    refine x_iadd rfl ?_
    refine x_istore (i := 7) (L1 := [(7, .int ((x5 - x5 / (3 : Int32) * (3 : Int32)) + (1 : Int32))), (0, .ref a0), (1, .ref a1), (2, .int x2), (3, .int x3), (4, .int x4), (5, .int x5), (6, .int x6)]) rfl (Nat.le_of_ble_eq_true rfl) rfl ?_
    refine x_iload rfl rfl ?_
    refine x_iconst (v := (3 : Int32)) rfl rfl ?_
    refine x_idiv rfl (by decide) ?_
    refine x_istore (i := 5) (L1 := [(5, .int (x5 / (3 : Int32))), (7, .int ((x5 - x5 / (3 : Int32) * (3 : Int32)) + (1 : Int32))), (0, .ref a0), (1, .ref a1), (2, .int x2), (3, .int x3), (4, .int x4), (6, .int x6)]) rfl (Nat.le_of_ble_eq_true rfl) rfl ?_
    refine x_aload_n rfl rfl ?_
    refine x_gR lf_Looks_14 k0 rfl rfl ?_
    refine x_iload rfl rfl ?_
    refine x_iconst (v := (1 : Int32)) rfl rfl ?_
    refine x_iload rfl rfl ?_
    refine x_vv lm_Looks_39 vf_Table_setOf (ck_12_0 k0) rfl rfl (Nat.le_of_ble_eq_true rfl) rfl h (fun D1 h => ?_)
    refine x_aload_n rfl rfl ?_
    refine x_gR lf_Looks_23 k0 rfl rfl ?_
    refine x_iload rfl rfl ?_
    refine x_iload rfl rfl ?_
    refine x_iadd rfl ?_
    refine x_iload rfl rfl ?_
    refine x_if_le (tgt := 81) rfl rfl (fun c => ?_) (fun c => ?_)
    · have h := h.1 c
      refine x_iconst (v := (0 : Int32)) rfl rfl ?_
      refine x_vv lm_Looks_59 vf_Row_set (ck_12_1 k0) rfl rfl (Nat.le_of_ble_eq_true rfl) rfl h (fun D2 h => ?_)
      refine x_iinc (i := 6) (v := x6 + (-1 : Int32)) (L1 := [(6, .int (x6 + (-1 : Int32))), (5, .int (x5 / (3 : Int32))), (7, .int ((x5 - x5 / (3 : Int32) * (3 : Int32)) + (1 : Int32))), (0, .ref a0), (1, .ref a1), (2, .int x2), (3, .int x3), (4, .int x4)]) rfl rfl rfl (Nat.le_of_ble_eq_true rfl) rfl ?_
      refine x_goto (tgt := 26) rfl rfl ?_
      exact xP_sub [3, 4, 5, 6, 7, 1, 0] rfl h
    · have h := h.2 c
      refine x_bipush (v := (20 : Int32)) rfl rfl ?_
      refine x_iload_n rfl rfl ?_
      refine x_imul rfl ?_
      refine x_iload rfl rfl ?_
      refine x_idiv rfl h.1 ?_
      have h := h.2
      refine x_goto (tgt := 82) rfl rfl ?_
      refine x_vv lm_Looks_59 vf_Row_set (ck_12_1 k0) rfl rfl (Nat.le_of_ble_eq_true rfl) rfl h (fun D3 h => ?_)
      refine x_iinc (i := 6) (v := x6 + (-1 : Int32)) (L1 := [(6, .int (x6 + (-1 : Int32))), (5, .int (x5 / (3 : Int32))), (7, .int ((x5 - x5 / (3 : Int32) * (3 : Int32)) + (1 : Int32))), (0, .ref a0), (1, .ref a1), (2, .int x2), (3, .int x3), (4, .int x4)]) rfl rfl rfl (Nat.le_of_ble_eq_true rfl) rfl ?_
      refine x_goto (tgt := 26) rfl rfl ?_
      exact xP_sub [3, 4, 5, 6, 7, 1, 0] rfl h
theorem s_Looks_weigh_94 {d : Nat} {D : xD} {Q : Option Value → xD → Prop} {a0 : Nat} {a1 : Nat} {x2 : Int32} {x3 : Int32} {x4 : Int32} {x5 : Int32} {x6 : Int32} (k0 : xk a0 = 12) (k1 : xk a1 = 4) (h : (x3 ≤ x6 → Q none D) ∧ (¬ x3 ≤ x6 → xPf (d + 1) m_Looks_weigh 103 [(0, .ref a0), (1, .ref a1), (2, .int x2), (3, .int x3), (4, .int x4), (5, .int x5), (6, .int x6), (7, .int (0 : Int32))] [] D Q)) : xPf (d + 1) m_Looks_weigh 94 [(0, .ref a0), (1, .ref a1), (2, .int x2), (3, .int x3), (4, .int x4), (5, .int x5), (6, .int x6)] [] D Q := by
  refine x_iload rfl rfl ?_
  refine x_iload_n rfl rfl ?_
  refine x_icmp_ge (tgt := 160) rfl rfl (fun c => ?_) (fun c => ?_)
  · have h := h.1 c
    exact x_vret rfl rfl h
  · have h := h.2 c
    refine x_iconst (v := (0 : Int32)) rfl rfl ?_
    refine x_istore (i := 7) (L1 := [(7, .int (0 : Int32)), (0, .ref a0), (1, .ref a1), (2, .int x2), (3, .int x3), (4, .int x4), (5, .int x5), (6, .int x6)]) rfl (Nat.le_of_ble_eq_true rfl) rfl ?_
    exact xP_sub [1, 2, 3, 4, 5, 6, 7, 0] rfl h
theorem s_Looks_weigh_103 {d : Nat} {D : xD} {Q : Option Value → xD → Prop} {a0 : Nat} {a1 : Nat} {x2 : Int32} {x3 : Int32} {x4 : Int32} {x5 : Int32} {x6 : Int32} {x7 : Int32} (k0 : xk a0 = 12) (k1 : xk a1 = 4) (h : ((6 : Int32) ≤ x7 → xPf (d + 1) m_Looks_weigh 94 [(0, .ref a0), (1, .ref a1), (2, .int x2), (3, .int x3), (4, .int x4), (5, .int x5), (6, .int (x6 + (1 : Int32)))] [] D Q) ∧ (¬ (6 : Int32) ≤ x7 → xCi d m_Table_lastOf [.ref (a0 + 1), .int x6, .int x7] D (fun r2 D1 => (¬ r2 = x6 → xCv d m_Row_add [.ref (a0 + 6), .int (x4 + r2), .int (10 : Int32)] D1 (fun D3 => xPf (d + 1) m_Looks_weigh 103 [(0, .ref a0), (1, .ref a1), (2, .int x2), (3, .int x3), (4, .int x4), (5, .int x5), (6, .int x6), (7, .int (x7 + (1 : Int32)))] [] D3 Q)) ∧ (r2 = x6 → xCv d m_Row_add [.ref (a0 + 6), .int (x4 + r2), .int (0 : Int32)] D1 (fun D4 => xPf (d + 1) m_Looks_weigh 103 [(0, .ref a0), (1, .ref a1), (2, .int x2), (3, .int x3), (4, .int x4), (5, .int x5), (6, .int x6), (7, .int (x7 + (1 : Int32)))] [] D4 Q))))) : xPf (d + 1) m_Looks_weigh 103 [(0, .ref a0), (1, .ref a1), (2, .int x2), (3, .int x3), (4, .int x4), (5, .int x5), (6, .int x6), (7, .int x7)] [] D Q := by
  refine x_iload rfl rfl ?_
  refine x_bipush (v := (6 : Int32)) rfl rfl ?_
  refine x_icmp_ge (tgt := 154) rfl rfl (fun c => ?_) (fun c => ?_)
  · have h := h.1 c
    refine x_iinc (i := 6) (v := x6 + (1 : Int32)) (L1 := [(6, .int (x6 + (1 : Int32))), (0, .ref a0), (1, .ref a1), (2, .int x2), (3, .int x3), (4, .int x4), (5, .int x5), (7, .int x7)]) rfl rfl rfl (Nat.le_of_ble_eq_true rfl) rfl ?_
    refine x_goto (tgt := 94) rfl rfl ?_
    exact xP_sub [1, 2, 3, 4, 5, 6, 0] rfl h
  · have h := h.2 c
    refine x_aload_n rfl rfl ?_
    refine x_gR lf_Looks_14 k0 rfl rfl ?_
    refine x_iload rfl rfl ?_
    refine x_iload rfl rfl ?_
    refine x_vi lm_Looks_31 vf_Table_lastOf (ck_12_0 k0) rfl rfl (Nat.le_of_ble_eq_true rfl) rfl h (fun r2 D1 h => ?_)
    refine x_istore (i := 8) (L1 := [(8, .int r2), (0, .ref a0), (1, .ref a1), (2, .int x2), (3, .int x3), (4, .int x4), (5, .int x5), (6, .int x6), (7, .int x7)]) rfl (Nat.le_of_ble_eq_true rfl) rfl ?_
    refine x_aload_n rfl rfl ?_
    refine x_gR lf_Looks_23 k0 rfl rfl ?_
    refine x_iload rfl rfl ?_
    refine x_iload rfl rfl ?_
    refine x_iadd rfl ?_
    refine x_iload rfl rfl ?_
    refine x_iload rfl rfl ?_
    refine x_icmp_ne (tgt := 143) rfl rfl (fun c => ?_) (fun c => ?_)
    · have h := h.1 c
      refine x_bipush (v := (10 : Int32)) rfl rfl ?_
      refine x_vv lm_Looks_62 vf_Row_add (ck_12_1 k0) rfl rfl (Nat.le_of_ble_eq_true rfl) rfl h (fun D3 h => ?_)
      refine x_iinc (i := 7) (v := x7 + (1 : Int32)) (L1 := [(7, .int (x7 + (1 : Int32))), (8, .int r2), (0, .ref a0), (1, .ref a1), (2, .int x2), (3, .int x3), (4, .int x4), (5, .int x5), (6, .int x6)]) rfl rfl rfl (Nat.le_of_ble_eq_true rfl) rfl ?_
      refine x_goto (tgt := 103) rfl rfl ?_
      exact xP_sub [2, 3, 4, 5, 6, 7, 8, 0] rfl h
    · have h := h.2 c
      refine x_iconst (v := (0 : Int32)) rfl rfl ?_
      refine x_goto (tgt := 145) rfl rfl ?_
      refine x_vv lm_Looks_62 vf_Row_add (ck_12_1 k0) rfl rfl (Nat.le_of_ble_eq_true rfl) rfl h (fun D4 h => ?_)
      refine x_iinc (i := 7) (v := x7 + (1 : Int32)) (L1 := [(7, .int (x7 + (1 : Int32))), (8, .int r2), (0, .ref a0), (1, .ref a1), (2, .int x2), (3, .int x3), (4, .int x4), (5, .int x5), (6, .int x6)]) rfl rfl rfl (Nat.le_of_ble_eq_true rfl) rfl ?_
      refine x_goto (tgt := 103) rfl rfl ?_
      exact xP_sub [2, 3, 4, 5, 6, 7, 8, 0] rfl h
theorem s_Looks_resting_0 {d : Nat} {D : xD} {Q : Option Value → xD → Prop} {a0 : Nat} {a1 : Nat} {x2 : Int32} (k0 : xk a0 = 12) (k1 : xk a1 = 4) (h : xCi d m_Table_people [.ref a1] D (fun r2 D1 => xCi d m_Looks_waysOf [.int r2] D1 (fun r4 D3 => xPf (d + 1) m_Looks_resting 11 [(0, .ref a0), (1, .ref a1), (2, .int x2), (3, .int r4), (4, .int (0 : Int32))] [] D3 Q))) : xPf (d + 1) m_Looks_resting 0 [(0, .ref a0), (1, .ref a1), (2, .int x2)] [] D Q := by
  refine x_aload_n rfl rfl ?_
  refine x_vi lm_Looks_55 vf_Table_people k1 rfl rfl (Nat.le_of_ble_eq_true rfl) rfl h (fun r2 D1 h => ?_)
  refine x_si lm_Looks_65 sf_Looks_waysOf rfl rfl (Nat.le_of_ble_eq_true rfl) rfl h (fun r4 D3 h => ?_)
  refine x_istore_n (i := 3) (L1 := [(3, .int r4), (0, .ref a0), (1, .ref a1), (2, .int x2)]) rfl rfl (Nat.le_of_ble_eq_true rfl) rfl ?_
  refine x_iconst (v := (0 : Int32)) rfl rfl ?_
  refine x_istore (i := 4) (L1 := [(4, .int (0 : Int32)), (3, .int r4), (0, .ref a0), (1, .ref a1), (2, .int x2)]) rfl (Nat.le_of_ble_eq_true rfl) rfl ?_
  exact xP_sub [2, 3, 4, 1, 0] rfl h
theorem s_Looks_resting_11 {d : Nat} {D : xD} {Q : Option Value → xD → Prop} {a0 : Nat} {a1 : Nat} {x2 : Int32} {x3 : Int32} {x4 : Int32} (k0 : xk a0 = 12) (k1 : xk a1 = 4) (h : (x3 ≤ x4 → xPf (d + 1) m_Looks_resting 36 [(0, .ref a0), (1, .ref a1), (2, .int x2), (3, .int x3), (4, .int (0 : Int32)), (5, .int (0 : Int32))] [] D Q) ∧ (¬ x3 ≤ x4 → xCv d m_Looks_weigh [.ref a0, .ref a1, .int x4] D (fun D1 => xPf (d + 1) m_Looks_resting 11 [(0, .ref a0), (1, .ref a1), (2, .int x2), (3, .int x3), (4, .int (x4 + (1 : Int32)))] [] D1 Q))) : xPf (d + 1) m_Looks_resting 11 [(0, .ref a0), (1, .ref a1), (2, .int x2), (3, .int x3), (4, .int x4)] [] D Q := by
  refine x_iload rfl rfl ?_
  refine x_iload_n rfl rfl ?_
  refine x_icmp_ge (tgt := 30) rfl rfl (fun c => ?_) (fun c => ?_)
  · have h := h.1 c
    refine x_iconst (v := (0 : Int32)) rfl rfl ?_
    refine x_istore (i := 4) (L1 := [(4, .int (0 : Int32)), (0, .ref a0), (1, .ref a1), (2, .int x2), (3, .int x3)]) rfl (Nat.le_of_ble_eq_true rfl) rfl ?_
    refine x_iconst (v := (0 : Int32)) rfl rfl ?_
    refine x_istore (i := 5) (L1 := [(5, .int (0 : Int32)), (4, .int (0 : Int32)), (0, .ref a0), (1, .ref a1), (2, .int x2), (3, .int x3)]) rfl (Nat.le_of_ble_eq_true rfl) rfl ?_
    exact xP_sub [2, 3, 4, 5, 1, 0] rfl h
  · have h := h.2 c
    refine x_aload_n rfl rfl ?_
    refine x_aload_n rfl rfl ?_
    refine x_iload rfl rfl ?_
    refine x_vv lm_Looks_47 vf_Looks_weigh k0 rfl rfl (Nat.le_of_ble_eq_true rfl) rfl h (fun D1 h => ?_)
    refine x_iinc (i := 4) (v := x4 + (1 : Int32)) (L1 := [(4, .int (x4 + (1 : Int32))), (0, .ref a0), (1, .ref a1), (2, .int x2), (3, .int x3)]) rfl rfl rfl (Nat.le_of_ble_eq_true rfl) rfl ?_
    refine x_goto (tgt := 11) rfl rfl ?_
    exact xP_sub [1, 2, 3, 4, 0] rfl h
theorem s_Looks_resting_36 {d : Nat} {D : xD} {Q : Option Value → xD → Prop} {a0 : Nat} {a1 : Nat} {x2 : Int32} {x3 : Int32} {x4 : Int32} {x5 : Int32} (k0 : xk a0 = 12) (k1 : xk a1 = 4) (h : (x3 ≤ x5 → (¬ x2 = (-1 : Int32) → Q (some (.int (-1 : Int32))) D) ∧ (x2 = (-1 : Int32) → Q (some (.int x4)) D)) ∧ (¬ x3 ≤ x5 → xCi d m_Table_people [.ref a1] D (fun r2 D1 => xCi d m_Looks_isRest [.ref a0, .int r2, .int x5] D1 (fun r4 D3 => (r4 = 0 → xPf (d + 1) m_Looks_resting 36 [(0, .ref a0), (1, .ref a1), (2, .int x2), (3, .int x3), (4, .int x4), (5, .int (x5 + (1 : Int32)))] [] D3 Q) ∧ (¬ r4 = 0 → (¬ x4 = x2 → xPf (d + 1) m_Looks_resting 36 [(0, .ref a0), (1, .ref a1), (2, .int x2), (3, .int x3), (4, .int (x4 + (1 : Int32))), (5, .int (x5 + (1 : Int32)))] [] D3 Q) ∧ (x4 = x2 → Q (some (.int x5)) D3)))))) : xPf (d + 1) m_Looks_resting 36 [(0, .ref a0), (1, .ref a1), (2, .int x2), (3, .int x3), (4, .int x4), (5, .int x5)] [] D Q := by
  refine x_iload rfl rfl ?_
  refine x_iload_n rfl rfl ?_
  refine x_icmp_ge (tgt := 73) rfl rfl (fun c => ?_) (fun c => ?_)
  · have h := h.1 c
    refine x_iload_n rfl rfl ?_
    refine x_iconst (v := (-1 : Int32)) rfl rfl ?_
    refine x_icmp_ne (tgt := 83) rfl rfl (fun c => ?_) (fun c => ?_)
    · have h := h.1 c
      refine x_iconst (v := (-1 : Int32)) rfl rfl ?_
      exact x_iret rfl rfl h
    · have h := h.2 c
      refine x_iload rfl rfl ?_
      refine x_goto (tgt := 84) rfl rfl ?_
      exact x_iret rfl rfl h
  · have h := h.2 c
    refine x_aload_n rfl rfl ?_
    refine x_aload_n rfl rfl ?_
    refine x_vi lm_Looks_55 vf_Table_people k1 rfl rfl (Nat.le_of_ble_eq_true rfl) rfl h (fun r2 D1 h => ?_)
    refine x_iload rfl rfl ?_
    refine x_vi lm_Looks_68 vf_Looks_isRest k0 rfl rfl (Nat.le_of_ble_eq_true rfl) rfl h (fun r4 D3 h => ?_)
    refine x_if_eq (tgt := 67) rfl rfl (fun c => ?_) (fun c => ?_)
    · have h := h.1 c
      refine x_iinc (i := 5) (v := x5 + (1 : Int32)) (L1 := [(5, .int (x5 + (1 : Int32))), (0, .ref a0), (1, .ref a1), (2, .int x2), (3, .int x3), (4, .int x4)]) rfl rfl rfl (Nat.le_of_ble_eq_true rfl) rfl ?_
      refine x_goto (tgt := 36) rfl rfl ?_
      exact xP_sub [1, 2, 3, 4, 5, 0] rfl h
    · have h := h.2 c
      refine x_iload rfl rfl ?_
      refine x_iload_n rfl rfl ?_
      refine x_icmp_ne (tgt := 64) rfl rfl (fun c => ?_) (fun c => ?_)
      · have h := h.1 c
        refine x_iinc (i := 4) (v := x4 + (1 : Int32)) (L1 := [(4, .int (x4 + (1 : Int32))), (0, .ref a0), (1, .ref a1), (2, .int x2), (3, .int x3), (5, .int x5)]) rfl rfl rfl (Nat.le_of_ble_eq_true rfl) rfl ?_
        refine x_iinc (i := 5) (v := x5 + (1 : Int32)) (L1 := [(5, .int (x5 + (1 : Int32))), (4, .int (x4 + (1 : Int32))), (0, .ref a0), (1, .ref a1), (2, .int x2), (3, .int x3)]) rfl rfl rfl (Nat.le_of_ble_eq_true rfl) rfl ?_
        refine x_goto (tgt := 36) rfl rfl ?_
        exact xP_sub [2, 3, 4, 5, 1, 0] rfl h
      · have h := h.2 c
        refine x_iload rfl rfl ?_
        exact x_iret rfl rfl h
theorem s_Looks_isRest_0 {d : Nat} {D : xD} {Q : Option Value → xD → Prop} {a0 : Nat} {x1 : Int32} {x2 : Int32} (k0 : xk a0 = 12) (h : xPf (d + 1) m_Looks_isRest 10 [(0, .ref a0), (1, .int x1), (2, .int x2), (3, .int (1 : Int32)), (4, .int x2), (5, .int (x1 - (1 : Int32)))] [] D Q) : xPf (d + 1) m_Looks_isRest 0 [(0, .ref a0), (1, .int x1), (2, .int x2)] [] D Q := by
  refine x_iconst (v := (1 : Int32)) rfl rfl ?_
  refine x_istore_n (i := 3) (L1 := [(3, .int (1 : Int32)), (0, .ref a0), (1, .int x1), (2, .int x2)]) rfl rfl (Nat.le_of_ble_eq_true rfl) rfl ?_
  refine x_iload_n rfl rfl ?_
  refine x_istore (i := 4) (L1 := [(4, .int x2), (3, .int (1 : Int32)), (0, .ref a0), (1, .int x1), (2, .int x2)]) rfl (Nat.le_of_ble_eq_true rfl) rfl ?_
  refine x_iload_n rfl rfl ?_
  refine x_iconst (v := (1 : Int32)) rfl rfl ?_
  refine x_isub rfl ?_
  refine x_istore (i := 5) (L1 := [(5, .int (x1 - (1 : Int32))), (4, .int x2), (3, .int (1 : Int32)), (0, .ref a0), (1, .int x1), (2, .int x2)]) rfl (Nat.le_of_ble_eq_true rfl) rfl ?_
  exact xP_sub [3, 4, 5, 2, 1, 0] rfl h
theorem s_Looks_isRest_10 {d : Nat} {D : xD} {Q : Option Value → xD → Prop} {a0 : Nat} {x1 : Int32} {x2 : Int32} {x3 : Int32} {x4 : Int32} {x5 : Int32} (k0 : xk a0 = 12) (h : (x5 < 0 → Q (some (.int (1 : Int32))) D) ∧ (¬ x5 < 0 → xCi d m_Row_get [.ref (a0 + 6), .int ((x2 * (5 : Int32)) + x5)] D (fun r2 D1 => xPf (d + 1) m_Looks_isRest 45 [(0, .ref a0), (1, .int x1), (2, .int x2), (3, .int x3), (4, .int (x4 / (3 : Int32))), (5, .int x5), (6, .int (x4 - x4 / (3 : Int32) * (3 : Int32))), (7, .int r2), (8, .int (0 : Int32))] [] D1 Q))) : xPf (d + 1) m_Looks_isRest 10 [(0, .ref a0), (1, .int x1), (2, .int x2), (3, .int x3), (4, .int x4), (5, .int x5)] [] D Q := by
  refine x_iload rfl rfl ?_
  refine x_if_lt (tgt := 99) rfl rfl (fun c => ?_) (fun c => ?_)
  · have h := h.1 c
    refine x_iconst (v := (1 : Int32)) rfl rfl ?_
    exact x_zr rfl (Or.inr rfl) rfl h
  · have h := h.2 c
    refine x_iload rfl rfl ?_
    refine x_iconst (v := (3 : Int32)) rfl rfl ?_
    refine x_irem rfl (by decide) ?_
    refine x_istore (i := 6) (L1 := [(6, .int (x4 - x4 / (3 : Int32) * (3 : Int32))), (0, .ref a0), (1, .int x1), (2, .int x2), (3, .int x3), (4, .int x4), (5, .int x5)]) rfl (Nat.le_of_ble_eq_true rfl) rfl ?_
    refine x_iload rfl rfl ?_
    refine x_iconst (v := (3 : Int32)) rfl rfl ?_
    refine x_idiv rfl (by decide) ?_
    refine x_istore (i := 4) (L1 := [(4, .int (x4 / (3 : Int32))), (6, .int (x4 - x4 / (3 : Int32) * (3 : Int32))), (0, .ref a0), (1, .int x1), (2, .int x2), (3, .int x3), (5, .int x5)]) rfl (Nat.le_of_ble_eq_true rfl) rfl ?_
    refine x_aload_n rfl rfl ?_
    refine x_gR lf_Looks_23 k0 rfl rfl ?_
    refine x_iload_n rfl rfl ?_
    refine x_iconst (v := (5 : Int32)) rfl rfl ?_
    refine x_imul rfl ?_
    refine x_iload rfl rfl ?_
    refine x_iadd rfl ?_
    refine x_vi lm_Looks_51 vf_Row_get (ck_12_1 k0) rfl rfl (Nat.le_of_ble_eq_true rfl) rfl h (fun r2 D1 h => ?_)
    refine x_istore (i := 7) (L1 := [(7, .int r2), (4, .int (x4 / (3 : Int32))), (6, .int (x4 - x4 / (3 : Int32) * (3 : Int32))), (0, .ref a0), (1, .int x1), (2, .int x2), (3, .int x3), (5, .int x5)]) rfl (Nat.le_of_ble_eq_true rfl) rfl ?_
    refine x_iconst (v := (0 : Int32)) rfl rfl ?_
    refine x_istore (i := 8) (L1 := [(8, .int (0 : Int32)), (7, .int r2), (4, .int (x4 / (3 : Int32))), (6, .int (x4 - x4 / (3 : Int32) * (3 : Int32))), (0, .ref a0), (1, .int x1), (2, .int x2), (3, .int x3), (5, .int x5)]) rfl (Nat.le_of_ble_eq_true rfl) rfl ?_
    exact xP_sub [4, 5, 6, 7, 2, 8, 3, 1, 0] rfl h
theorem s_Looks_isRest_45 {d : Nat} {D : xD} {Q : Option Value → xD → Prop} {a0 : Nat} {x1 : Int32} {x2 : Int32} {x3 : Int32} {x4 : Int32} {x5 : Int32} {x6 : Int32} {x7 : Int32} {x8 : Int32} (k0 : xk a0 = 12) (h : ((3 : Int32) ≤ x8 → xPf (d + 1) m_Looks_isRest 10 [(0, .ref a0), (1, .int x1), (2, .int x2), (3, .int (x3 * (3 : Int32))), (4, .int x4), (5, .int (x5 + (-1 : Int32)))] [] D Q) ∧ (¬ (3 : Int32) ≤ x8 → xCi d m_Row_get [.ref (a0 + 6), .int (((x2 + ((x8 - x6) * x3)) * (5 : Int32)) + x5)] D (fun r2 D1 => (x7 ≤ r2 → xPf (d + 1) m_Looks_isRest 45 [(0, .ref a0), (1, .int x1), (2, .int x2), (3, .int x3), (4, .int x4), (5, .int x5), (6, .int x6), (7, .int x7), (8, .int (x8 + (1 : Int32)))] [] D1 Q) ∧ (¬ x7 ≤ r2 → Q (some (.int (0 : Int32))) D1)))) : xPf (d + 1) m_Looks_isRest 45 [(0, .ref a0), (1, .int x1), (2, .int x2), (3, .int x3), (4, .int x4), (5, .int x5), (6, .int x6), (7, .int x7), (8, .int x8)] [] D Q := by
  refine x_iload rfl rfl ?_
  refine x_iconst (v := (3 : Int32)) rfl rfl ?_
  refine x_icmp_ge (tgt := 89) rfl rfl (fun c => ?_) (fun c => ?_)
  · have h := h.1 c
    refine x_iload_n rfl rfl ?_
    refine x_iconst (v := (3 : Int32)) rfl rfl ?_
    refine x_imul rfl ?_
    refine x_istore_n (i := 3) (L1 := [(3, .int (x3 * (3 : Int32))), (0, .ref a0), (1, .int x1), (2, .int x2), (4, .int x4), (5, .int x5), (6, .int x6), (7, .int x7), (8, .int x8)]) rfl rfl (Nat.le_of_ble_eq_true rfl) rfl ?_
    refine x_iinc (i := 5) (v := x5 + (-1 : Int32)) (L1 := [(5, .int (x5 + (-1 : Int32))), (3, .int (x3 * (3 : Int32))), (0, .ref a0), (1, .int x1), (2, .int x2), (4, .int x4), (6, .int x6), (7, .int x7), (8, .int x8)]) rfl rfl rfl (Nat.le_of_ble_eq_true rfl) rfl ?_
    refine x_goto (tgt := 10) rfl rfl ?_
    exact xP_sub [2, 3, 4, 1, 5, 0] rfl h
  · have h := h.2 c
    refine x_iload_n rfl rfl ?_
    refine x_iload rfl rfl ?_
    refine x_iload rfl rfl ?_
    refine x_isub rfl ?_
    refine x_iload_n rfl rfl ?_
    refine x_imul rfl ?_
    refine x_iadd rfl ?_
    refine x_istore (i := 9) (L1 := [(9, .int (x2 + ((x8 - x6) * x3))), (0, .ref a0), (1, .int x1), (2, .int x2), (3, .int x3), (4, .int x4), (5, .int x5), (6, .int x6), (7, .int x7), (8, .int x8)]) rfl (Nat.le_of_ble_eq_true rfl) rfl ?_
    refine x_aload_n rfl rfl ?_
    refine x_gR lf_Looks_23 k0 rfl rfl ?_
    refine x_iload rfl rfl ?_
    refine x_iconst (v := (5 : Int32)) rfl rfl ?_
    refine x_imul rfl ?_
    refine x_iload rfl rfl ?_
    refine x_iadd rfl ?_
    refine x_vi lm_Looks_51 vf_Row_get (ck_12_1 k0) rfl rfl (Nat.le_of_ble_eq_true rfl) rfl h (fun r2 D1 h => ?_)
    refine x_iload rfl rfl ?_
    refine x_icmp_ge (tgt := 83) rfl rfl (fun c => ?_) (fun c => ?_)
    · have h := h.1 c
      refine x_iinc (i := 8) (v := x8 + (1 : Int32)) (L1 := [(8, .int (x8 + (1 : Int32))), (9, .int (x2 + ((x8 - x6) * x3))), (0, .ref a0), (1, .int x1), (2, .int x2), (3, .int x3), (4, .int x4), (5, .int x5), (6, .int x6), (7, .int x7)]) rfl rfl rfl (Nat.le_of_ble_eq_true rfl) rfl ?_
      refine x_goto (tgt := 45) rfl rfl ?_
      exact xP_sub [2, 3, 4, 5, 6, 7, 8, 9, 0] rfl h
    · have h := h.2 c
      refine x_iconst (v := (0 : Int32)) rfl rfl ?_
      exact x_zr rfl (Or.inl rfl) rfl h
theorem s_Looks_farther_0 {d : Nat} {D : xD} {Q : Option Value → xD → Prop} {a0 : Nat} {x1 : Int32} (k0 : xk a0 = 4) (h : xPf (d + 1) m_Looks_farther 4 [(0, .ref a0), (1, .int x1), (2, .int (0 : Int32)), (3, .int (0 : Int32))] [] D Q) : xPf (d + 1) m_Looks_farther 0 [(0, .ref a0), (1, .int x1)] [] D Q := by
  refine x_iconst (v := (0 : Int32)) rfl rfl ?_
  refine x_istore_n (i := 2) (L1 := [(2, .int (0 : Int32)), (0, .ref a0), (1, .int x1)]) rfl rfl (Nat.le_of_ble_eq_true rfl) rfl ?_
  refine x_iconst (v := (0 : Int32)) rfl rfl ?_
  refine x_istore_n (i := 3) (L1 := [(3, .int (0 : Int32)), (2, .int (0 : Int32)), (0, .ref a0), (1, .int x1)]) rfl rfl (Nat.le_of_ble_eq_true rfl) rfl ?_
  exact xP_sub [2, 3, 1, 0] rfl h
theorem s_Looks_farther_4 {d : Nat} {D : xD} {Q : Option Value → xD → Prop} {a0 : Nat} {x1 : Int32} {x2 : Int32} {x3 : Int32} (k0 : xk a0 = 4) (h : xCi d m_Table_people [.ref a0] D (fun r2 D1 => (r2 ≤ x3 → xCi d m_Looks_waits [.ref a0, .int x1] D1 (fun r4 D3 => Q (some (.int (((x2 - r4) + (29 : Int32)) / (60 : Int32)))) D3)) ∧ (¬ r2 ≤ x3 → xCi d m_Looks_waits [.ref a0, .int x3] D1 (fun r6 D5 => ∀ r7 : Int32, r7 = (if x2 < r6 then r6 else x2) → xPf (d + 1) m_Looks_farther 4 [(0, .ref a0), (1, .int x1), (2, .int r7), (3, .int (x3 + (1 : Int32)))] [] D5 Q)))) : xPf (d + 1) m_Looks_farther 4 [(0, .ref a0), (1, .int x1), (2, .int x2), (3, .int x3)] [] D Q := by
  refine x_iload_n rfl rfl ?_
  refine x_aload_n rfl rfl ?_
  refine x_vi lm_Looks_55 vf_Table_people k0 rfl rfl (Nat.le_of_ble_eq_true rfl) rfl h (fun r2 D1 h => ?_)
  refine x_icmp_ge (tgt := 28) rfl rfl (fun c => ?_) (fun c => ?_)
  · have h := h.1 c
    refine x_iload_n rfl rfl ?_
    refine x_aload_n rfl rfl ?_
    refine x_iload_n rfl rfl ?_
    refine x_si lm_Looks_72 sf_Looks_waits rfl rfl (Nat.le_of_ble_eq_true rfl) rfl h (fun r4 D3 h => ?_)
    refine x_isub rfl ?_
    refine x_bipush (v := (29 : Int32)) rfl rfl ?_
    refine x_iadd rfl ?_
    refine x_bipush (v := (60 : Int32)) rfl rfl ?_
    refine x_idiv rfl (by decide) ?_
    exact x_iret rfl rfl h
  · have h := h.2 c
    refine x_iload_n rfl rfl ?_
    refine x_aload_n rfl rfl ?_
    refine x_iload_n rfl rfl ?_
    refine x_si lm_Looks_72 sf_Looks_waits rfl rfl (Nat.le_of_ble_eq_true rfl) rfl h (fun r6 D5 h => ?_)
    refine x_mxn wd_1391 (Nat.le_of_ble_eq_true rfl) rfl (fun r7 er7 => ?_)
    have h := h r7 er7
    refine x_istore_n (i := 2) (L1 := [(2, .int r7), (0, .ref a0), (1, .int x1), (3, .int x3)]) rfl rfl (Nat.le_of_ble_eq_true rfl) rfl ?_
    refine x_iinc (i := 3) (v := x3 + (1 : Int32)) (L1 := [(3, .int (x3 + (1 : Int32))), (2, .int r7), (0, .ref a0), (1, .int x1)]) rfl rfl rfl (Nat.le_of_ble_eq_true rfl) rfl ?_
    refine x_goto (tgt := 4) rfl rfl ?_
    exact xP_sub [2, 3, 1, 0] rfl h
theorem s_Looks_waits_0 {d : Nat} {D : xD} {Q : Option Value → xD → Prop} {a0 : Nat} {x1 : Int32} (k0 : xk a0 = 4) (h : xPf (d + 1) m_Looks_waits 4 [(0, .ref a0), (1, .int x1), (2, .int (0 : Int32)), (3, .int (0 : Int32))] [] D Q) : xPf (d + 1) m_Looks_waits 0 [(0, .ref a0), (1, .int x1)] [] D Q := by
  refine x_iconst (v := (0 : Int32)) rfl rfl ?_
  refine x_istore_n (i := 2) (L1 := [(2, .int (0 : Int32)), (0, .ref a0), (1, .int x1)]) rfl rfl (Nat.le_of_ble_eq_true rfl) rfl ?_
  refine x_iconst (v := (0 : Int32)) rfl rfl ?_
  refine x_istore_n (i := 3) (L1 := [(3, .int (0 : Int32)), (2, .int (0 : Int32)), (0, .ref a0), (1, .int x1)]) rfl rfl (Nat.le_of_ble_eq_true rfl) rfl ?_
  exact xP_sub [2, 3, 1, 0] rfl h
theorem s_Looks_waits_4 {d : Nat} {D : xD} {Q : Option Value → xD → Prop} {a0 : Nat} {x1 : Int32} {x2 : Int32} {x3 : Int32} (k0 : xk a0 = 4) (h : ((60 : Int32) ≤ x3 → Q (some (.int x2)) D) ∧ (¬ (60 : Int32) ≤ x3 → xCi d m_Table_waitOf [.ref a0, .int x1, .int x3] D (fun r2 D1 => xPf (d + 1) m_Looks_waits 4 [(0, .ref a0), (1, .int x1), (2, .int (x2 + r2)), (3, .int (x3 + (1 : Int32)))] [] D1 Q))) : xPf (d + 1) m_Looks_waits 4 [(0, .ref a0), (1, .int x1), (2, .int x2), (3, .int x3)] [] D Q := by
  refine x_iload_n rfl rfl ?_
  refine x_bipush (v := (60 : Int32)) rfl rfl ?_
  refine x_icmp_ge (tgt := 25) rfl rfl (fun c => ?_) (fun c => ?_)
  · have h := h.1 c
    refine x_iload_n rfl rfl ?_
    exact x_iret rfl rfl h
  · have h := h.2 c
    refine x_iload_n rfl rfl ?_
    refine x_aload_n rfl rfl ?_
    refine x_iload_n rfl rfl ?_
    refine x_iload_n rfl rfl ?_
    refine x_vi lm_Looks_81 vf_Table_waitOf k0 rfl rfl (Nat.le_of_ble_eq_true rfl) rfl h (fun r2 D1 h => ?_)
    refine x_iadd rfl ?_
    refine x_istore_n (i := 2) (L1 := [(2, .int (x2 + r2)), (0, .ref a0), (1, .int x1), (3, .int x3)]) rfl rfl (Nat.le_of_ble_eq_true rfl) rfl ?_
    refine x_iinc (i := 3) (v := x3 + (1 : Int32)) (L1 := [(3, .int (x3 + (1 : Int32))), (2, .int (x2 + r2)), (0, .ref a0), (1, .int x1)]) rfl rfl rfl (Nat.le_of_ble_eq_true rfl) rfl ?_
    refine x_goto (tgt := 4) rfl rfl ?_
    exact xP_sub [2, 3, 1, 0] rfl h
theorem s_Looks_touching_0 {d : Nat} {D : xD} {Q : Option Value → xD → Prop} {a0 : Nat} {x1 : Int32} {x2 : Int32} (k0 : xk a0 = 4) (h : xPf (d + 1) m_Looks_touching 5 [(0, .ref a0), (1, .int x1), (2, .int x2), (3, .int (0 : Int32)), (4, .int (0 : Int32))] [] D Q) : xPf (d + 1) m_Looks_touching 0 [(0, .ref a0), (1, .int x1), (2, .int x2)] [] D Q := by
  refine x_iconst (v := (0 : Int32)) rfl rfl ?_
  refine x_istore_n (i := 3) (L1 := [(3, .int (0 : Int32)), (0, .ref a0), (1, .int x1), (2, .int x2)]) rfl rfl (Nat.le_of_ble_eq_true rfl) rfl ?_
  refine x_iconst (v := (0 : Int32)) rfl rfl ?_
  refine x_istore (i := 4) (L1 := [(4, .int (0 : Int32)), (3, .int (0 : Int32)), (0, .ref a0), (1, .int x1), (2, .int x2)]) rfl (Nat.le_of_ble_eq_true rfl) rfl ?_
  exact xP_sub [2, 3, 4, 1, 0] rfl h
theorem s_Looks_touching_5 {d : Nat} {D : xD} {Q : Option Value → xD → Prop} {a0 : Nat} {x1 : Int32} {x2 : Int32} {x3 : Int32} {x4 : Int32} (k0 : xk a0 = 4) (h : xCi d m_Table_people [.ref a0] D (fun r2 D1 => (r2 ≤ x4 → Q (some (.int x3)) D1) ∧ (¬ r2 ≤ x4 → (x4 = x1 → xPf (d + 1) m_Looks_touching 5 [(0, .ref a0), (1, .int x1), (2, .int x2), (3, .int x3), (4, .int (x4 + (1 : Int32)))] [] D1 Q) ∧ (¬ x4 = x1 → xCi d m_Table_of [.ref a0, .int x4, .int (6 : Int32)] D1 (fun r4 D3 => (¬ r4 = (1 : Int32) → xPf (d + 1) m_Looks_touching 5 [(0, .ref a0), (1, .int x1), (2, .int x2), (3, .int x3), (4, .int (x4 + (1 : Int32)))] [] D3 Q) ∧ (r4 = (1 : Int32) → xCi d m_Looks_looksIn [.ref a0, .int x4, .int x2] D3 (fun r6 D5 => (r6 = 0 → xPf (d + 1) m_Looks_touching 5 [(0, .ref a0), (1, .int x1), (2, .int x2), (3, .int x3), (4, .int (x4 + (1 : Int32)))] [] D5 Q) ∧ (¬ r6 = 0 → xPf (d + 1) m_Looks_touching 5 [(0, .ref a0), (1, .int x1), (2, .int x2), (3, .int (x3 ||| ((1 : Int32) <<< (x4 &&& 31)))), (4, .int (x4 + (1 : Int32)))] [] D5 Q)))))))) : xPf (d + 1) m_Looks_touching 5 [(0, .ref a0), (1, .int x1), (2, .int x2), (3, .int x3), (4, .int x4)] [] D Q := by
  refine x_iload rfl rfl ?_
  refine x_aload_n rfl rfl ?_
  refine x_vi lm_Looks_55 vf_Table_people k0 rfl rfl (Nat.le_of_ble_eq_true rfl) rfl h (fun r2 D1 h => ?_)
  refine x_icmp_ge (tgt := 55) rfl rfl (fun c => ?_) (fun c => ?_)
  · have h := h.1 c
    refine x_iload_n rfl rfl ?_
    exact x_iret rfl rfl h
  · have h := h.2 c
    refine x_iload rfl rfl ?_
    refine x_iload_n rfl rfl ?_
    refine x_icmp_eq (tgt := 49) rfl rfl (fun c => ?_) (fun c => ?_)
    · have h := h.1 c
      refine x_iinc (i := 4) (v := x4 + (1 : Int32)) (L1 := [(4, .int (x4 + (1 : Int32))), (0, .ref a0), (1, .int x1), (2, .int x2), (3, .int x3)]) rfl rfl rfl (Nat.le_of_ble_eq_true rfl) rfl ?_
      refine x_goto (tgt := 5) rfl rfl ?_
      exact xP_sub [1, 2, 3, 4, 0] rfl h
    · have h := h.2 c
      refine x_aload_n rfl rfl ?_
      refine x_iload rfl rfl ?_
      refine x_bipush (v := (6 : Int32)) rfl rfl ?_
      refine x_vi lm_Looks_84 vf_Table_of k0 rfl rfl (Nat.le_of_ble_eq_true rfl) rfl h (fun r4 D3 h => ?_)
      refine x_iconst (v := (1 : Int32)) rfl rfl ?_
      refine x_icmp_ne (tgt := 49) rfl rfl (fun c => ?_) (fun c => ?_)
      · have h := h.1 c
        refine x_iinc (i := 4) (v := x4 + (1 : Int32)) (L1 := [(4, .int (x4 + (1 : Int32))), (0, .ref a0), (1, .int x1), (2, .int x2), (3, .int x3)]) rfl rfl rfl (Nat.le_of_ble_eq_true rfl) rfl ?_
        refine x_goto (tgt := 5) rfl rfl ?_
        exact xP_sub [1, 2, 3, 4, 0] rfl h
      · have h := h.2 c
        refine x_aload_n rfl rfl ?_
        refine x_iload rfl rfl ?_
        refine x_iload_n rfl rfl ?_
        refine x_si lm_Looks_87 sf_Looks_looksIn rfl rfl (Nat.le_of_ble_eq_true rfl) rfl h (fun r6 D5 h => ?_)
        refine x_if_eq (tgt := 49) rfl rfl (fun c => ?_) (fun c => ?_)
        · have h := h.1 c
          refine x_iinc (i := 4) (v := x4 + (1 : Int32)) (L1 := [(4, .int (x4 + (1 : Int32))), (0, .ref a0), (1, .int x1), (2, .int x2), (3, .int x3)]) rfl rfl rfl (Nat.le_of_ble_eq_true rfl) rfl ?_
          refine x_goto (tgt := 5) rfl rfl ?_
          exact xP_sub [1, 2, 3, 4, 0] rfl h
        · have h := h.2 c
          refine x_iload_n rfl rfl ?_
          refine x_iconst (v := (1 : Int32)) rfl rfl ?_
          refine x_iload rfl rfl ?_
          refine x_ishl rfl ?_
          refine x_ior rfl ?_
          refine x_istore_n (i := 3) (L1 := [(3, .int (x3 ||| ((1 : Int32) <<< (x4 &&& 31)))), (0, .ref a0), (1, .int x1), (2, .int x2), (4, .int x4)]) rfl rfl (Nat.le_of_ble_eq_true rfl) rfl ?_
          refine x_iinc (i := 4) (v := x4 + (1 : Int32)) (L1 := [(4, .int (x4 + (1 : Int32))), (3, .int (x3 ||| ((1 : Int32) <<< (x4 &&& 31)))), (0, .ref a0), (1, .int x1), (2, .int x2)]) rfl rfl rfl (Nat.le_of_ble_eq_true rfl) rfl ?_
          refine x_goto (tgt := 5) rfl rfl ?_
          exact xP_sub [2, 3, 4, 1, 0] rfl h
theorem s_Looks_looksIn_0 {d : Nat} {D : xD} {Q : Option Value → xD → Prop} {a0 : Nat} {x1 : Int32} {x2 : Int32} (k0 : xk a0 = 4) (h : xCi d m_Table_number [.ref a0, .int (4 : Int32)] D (fun r2 D1 => xPf (d + 1) m_Looks_looksIn 11 [(0, .ref a0), (1, .int x1), (2, .int x2), (3, .int (x2 + r2)), (4, .int x2)] [] D1 Q)) : xPf (d + 1) m_Looks_looksIn 0 [(0, .ref a0), (1, .int x1), (2, .int x2)] [] D Q := by
  refine x_iload_n rfl rfl ?_
  refine x_aload_n rfl rfl ?_
  refine x_iconst (v := (4 : Int32)) rfl rfl ?_
  refine x_vi lm_Looks_91 vf_Table_number k0 rfl rfl (Nat.le_of_ble_eq_true rfl) rfl h (fun r2 D1 h => ?_)
  refine x_iadd rfl ?_
  refine x_istore_n (i := 3) (L1 := [(3, .int (x2 + r2)), (0, .ref a0), (1, .int x1), (2, .int x2)]) rfl rfl (Nat.le_of_ble_eq_true rfl) rfl ?_
  refine x_iload_n rfl rfl ?_
  refine x_istore (i := 4) (L1 := [(4, .int x2), (3, .int (x2 + r2)), (0, .ref a0), (1, .int x1), (2, .int x2)]) rfl (Nat.le_of_ble_eq_true rfl) rfl ?_
  exact xP_sub [2, 3, 4, 1, 0] rfl h
theorem s_Looks_looksIn_11 {d : Nat} {D : xD} {Q : Option Value → xD → Prop} {a0 : Nat} {x1 : Int32} {x2 : Int32} {x3 : Int32} {x4 : Int32} (k0 : xk a0 = 4) (h : (x3 < x4 → Q (some (.int (0 : Int32))) D) ∧ (¬ x3 < x4 → xCi d m_Table_goesInto [.ref a0, .int x1, .int (1 : Int32), .int x4] D (fun r2 D1 => (r2 = 0 → xPf (d + 1) m_Looks_looksIn 11 [(0, .ref a0), (1, .int x1), (2, .int x2), (3, .int x3), (4, .int (x4 + (1 : Int32)))] [] D1 Q) ∧ (¬ r2 = 0 → Q (some (.int (1 : Int32))) D1)))) : xPf (d + 1) m_Looks_looksIn 11 [(0, .ref a0), (1, .int x1), (2, .int x2), (3, .int x3), (4, .int x4)] [] D Q := by
  refine x_iload rfl rfl ?_
  refine x_iload_n rfl rfl ?_
  refine x_icmp_gt (tgt := 36) rfl rfl (fun c => ?_) (fun c => ?_)
  · have h := h.1 c
    refine x_iconst (v := (0 : Int32)) rfl rfl ?_
    exact x_zr rfl (Or.inl rfl) rfl h
  · have h := h.2 c
    refine x_aload_n rfl rfl ?_
    refine x_iload_n rfl rfl ?_
    refine x_iconst (v := (1 : Int32)) rfl rfl ?_
    refine x_iload rfl rfl ?_
    refine x_vi lm_Looks_94 vf_Table_goesInto k0 rfl rfl (Nat.le_of_ble_eq_true rfl) rfl h (fun r2 D1 h => ?_)
    refine x_if_eq (tgt := 30) rfl rfl (fun c => ?_) (fun c => ?_)
    · have h := h.1 c
      refine x_iinc (i := 4) (v := x4 + (1 : Int32)) (L1 := [(4, .int (x4 + (1 : Int32))), (0, .ref a0), (1, .int x1), (2, .int x2), (3, .int x3)]) rfl rfl rfl (Nat.le_of_ble_eq_true rfl) rfl ?_
      refine x_goto (tgt := 11) rfl rfl ?_
      exact xP_sub [1, 2, 3, 4, 0] rfl h
    · have h := h.2 c
      refine x_iconst (v := (1 : Int32)) rfl rfl ?_
      exact x_zr rfl (Or.inr rfl) rfl h
theorem s_Looks_lure_0 {d : Nat} {D : xD} {Q : Option Value → xD → Prop} {a0 : Nat} {x1 : Int32} (k0 : xk a0 = 4) (h : xPf (d + 1) m_Looks_lure 7 [(0, .ref a0), (1, .int x1), (2, .int (0 : Int32)), (3, .int (0 : Int32)), (4, .int (0 : Int32))] [] D Q) : xPf (d + 1) m_Looks_lure 0 [(0, .ref a0), (1, .int x1)] [] D Q := by
  refine x_iconst (v := (0 : Int32)) rfl rfl ?_
  refine x_istore_n (i := 2) (L1 := [(2, .int (0 : Int32)), (0, .ref a0), (1, .int x1)]) rfl rfl (Nat.le_of_ble_eq_true rfl) rfl ?_
  refine x_iconst (v := (0 : Int32)) rfl rfl ?_
  refine x_istore_n (i := 3) (L1 := [(3, .int (0 : Int32)), (2, .int (0 : Int32)), (0, .ref a0), (1, .int x1)]) rfl rfl (Nat.le_of_ble_eq_true rfl) rfl ?_
  refine x_iconst (v := (0 : Int32)) rfl rfl ?_
  refine x_istore (i := 4) (L1 := [(4, .int (0 : Int32)), (3, .int (0 : Int32)), (2, .int (0 : Int32)), (0, .ref a0), (1, .int x1)]) rfl (Nat.le_of_ble_eq_true rfl) rfl ?_
  exact xP_sub [3, 4, 2, 1, 0] rfl h
theorem s_Looks_lure_7 {d : Nat} {D : xD} {Q : Option Value → xD → Prop} {a0 : Nat} {x1 : Int32} {x2 : Int32} {x3 : Int32} {x4 : Int32} (k0 : xk a0 = 4) (h : ((60 : Int32) ≤ x4 → Q (some (.int x2)) D) ∧ (¬ (60 : Int32) ≤ x4 → xCi d m_Looks_touching [.ref a0, .int x1, .int x4] D (fun r2 D1 => xCi d m_Integer_bitCount [.int r2] D1 (fun r4 D3 => (r4 ≤ x3 → xPf (d + 1) m_Looks_lure 7 [(0, .ref a0), (1, .int x1), (2, .int x2), (3, .int x3), (4, .int (x4 + (1 : Int32)))] [] D3 Q) ∧ (¬ r4 ≤ x3 → xPf (d + 1) m_Looks_lure 7 [(0, .ref a0), (1, .int x1), (2, .int x4), (3, .int r4), (4, .int (x4 + (1 : Int32)))] [] D3 Q))))) : xPf (d + 1) m_Looks_lure 7 [(0, .ref a0), (1, .int x1), (2, .int x2), (3, .int x3), (4, .int x4)] [] D Q := by
  refine x_iload rfl rfl ?_
  refine x_bipush (v := (60 : Int32)) rfl rfl ?_
  refine x_icmp_ge (tgt := 44) rfl rfl (fun c => ?_) (fun c => ?_)
  · have h := h.1 c
    refine x_iload_n rfl rfl ?_
    exact x_iret rfl rfl h
  · have h := h.2 c
    refine x_aload_n rfl rfl ?_
    refine x_iload_n rfl rfl ?_
    refine x_iload rfl rfl ?_
    refine x_si lm_Looks_98 sf_Looks_touching rfl rfl (Nat.le_of_ble_eq_true rfl) rfl h (fun r2 D1 h => ?_)
    refine x_si lm_Looks_101 sf_Integer_bitCount rfl rfl (Nat.le_of_ble_eq_true rfl) rfl h (fun r4 D3 h => ?_)
    refine x_istore (i := 5) (L1 := [(5, .int r4), (0, .ref a0), (1, .int x1), (2, .int x2), (3, .int x3), (4, .int x4)]) rfl (Nat.le_of_ble_eq_true rfl) rfl ?_
    refine x_iload rfl rfl ?_
    refine x_iload_n rfl rfl ?_
    refine x_icmp_le (tgt := 38) rfl rfl (fun c => ?_) (fun c => ?_)
    · have h := h.1 c
      refine x_iinc (i := 4) (v := x4 + (1 : Int32)) (L1 := [(4, .int (x4 + (1 : Int32))), (5, .int r4), (0, .ref a0), (1, .int x1), (2, .int x2), (3, .int x3)]) rfl rfl rfl (Nat.le_of_ble_eq_true rfl) rfl ?_
      refine x_goto (tgt := 7) rfl rfl ?_
      exact xP_sub [2, 3, 4, 5, 0] rfl h
    · have h := h.2 c
      refine x_iload rfl rfl ?_
      refine x_istore_n (i := 2) (L1 := [(2, .int x4), (5, .int r4), (0, .ref a0), (1, .int x1), (3, .int x3), (4, .int x4)]) rfl rfl (Nat.le_of_ble_eq_true rfl) rfl ?_
      refine x_iload rfl rfl ?_
      refine x_istore_n (i := 3) (L1 := [(3, .int r4), (2, .int x4), (5, .int r4), (0, .ref a0), (1, .int x1), (4, .int x4)]) rfl rfl (Nat.le_of_ble_eq_true rfl) rfl ?_
      refine x_iinc (i := 4) (v := x4 + (1 : Int32)) (L1 := [(4, .int (x4 + (1 : Int32))), (3, .int r4), (2, .int x4), (5, .int r4), (0, .ref a0), (1, .int x1)]) rfl rfl rfl (Nat.le_of_ble_eq_true rfl) rfl ?_
      refine x_goto (tgt := 7) rfl rfl ?_
      exact xP_sub [4, 5, 2, 1, 0] rfl h
theorem s_Odds_rank_0 {d : Nat} {D : xD} {Q : Option Value → xD → Prop} {a0 : Nat} {x1 : Int32} {x2 : Int32} (k0 : xk a0 = 2) (h : xPf (d + 1) m_Odds_rank 5 [(0, .ref a0), (1, .int x1), (2, .int x2), (3, .int (0 : Int32)), (4, .int (0 : Int32))] [] D Q) : xPf (d + 1) m_Odds_rank 0 [(0, .ref a0), (1, .int x1), (2, .int x2)] [] D Q := by
  refine x_iconst (v := (0 : Int32)) rfl rfl ?_
  refine x_istore_n (i := 3) (L1 := [(3, .int (0 : Int32)), (0, .ref a0), (1, .int x1), (2, .int x2)]) rfl rfl (Nat.le_of_ble_eq_true rfl) rfl ?_
  refine x_iconst (v := (0 : Int32)) rfl rfl ?_
  refine x_istore (i := 4) (L1 := [(4, .int (0 : Int32)), (3, .int (0 : Int32)), (0, .ref a0), (1, .int x1), (2, .int x2)]) rfl (Nat.le_of_ble_eq_true rfl) rfl ?_
  exact xP_sub [2, 3, 4, 1, 0] rfl h
theorem s_Odds_rank_5 {d : Nat} {D : xD} {Q : Option Value → xD → Prop} {a0 : Nat} {x1 : Int32} {x2 : Int32} {x3 : Int32} {x4 : Int32} (k0 : xk a0 = 2) (h : (x1 ≤ x4 → Q none D) ∧ (¬ x1 ≤ x4 → xCv d m_Row_push [.ref a0, .int x3] D (fun D1 => (x2 < ((((x4 / (125 : Int32)) + ((x4 / (25 : Int32)) - (x4 / (25 : Int32)) / (5 : Int32) * (5 : Int32))) + ((x4 / (5 : Int32)) - (x4 / (5 : Int32)) / (5 : Int32) * (5 : Int32))) + (x4 - x4 / (5 : Int32) * (5 : Int32))) → xPf (d + 1) m_Odds_rank 5 [(0, .ref a0), (1, .int x1), (2, .int x2), (3, .int (x3 + (0 : Int32))), (4, .int (x4 + (1 : Int32)))] [] D1 Q) ∧ (¬ x2 < ((((x4 / (125 : Int32)) + ((x4 / (25 : Int32)) - (x4 / (25 : Int32)) / (5 : Int32) * (5 : Int32))) + ((x4 / (5 : Int32)) - (x4 / (5 : Int32)) / (5 : Int32) * (5 : Int32))) + (x4 - x4 / (5 : Int32) * (5 : Int32))) → xPf (d + 1) m_Odds_rank 5 [(0, .ref a0), (1, .int x1), (2, .int x2), (3, .int (x3 + (1 : Int32))), (4, .int (x4 + (1 : Int32)))] [] D1 Q)))) : xPf (d + 1) m_Odds_rank 5 [(0, .ref a0), (1, .int x1), (2, .int x2), (3, .int x3), (4, .int x4)] [] D Q := by
  refine x_iload rfl rfl ?_
  refine x_iload_n rfl rfl ?_
  refine x_icmp_ge (tgt := 63) rfl rfl (fun c => ?_) (fun c => ?_)
  · have h := h.1 c
    exact x_vret rfl rfl h
  · have h := h.2 c
    refine x_iload rfl rfl ?_
    refine x_bipush (v := (125 : Int32)) rfl rfl ?_
    refine x_idiv rfl (by decide) ?_
    refine x_iload rfl rfl ?_
    refine x_bipush (v := (25 : Int32)) rfl rfl ?_
    refine x_idiv rfl (by decide) ?_
    refine x_iconst (v := (5 : Int32)) rfl rfl ?_
    refine x_irem rfl (by decide) ?_
    refine x_iadd rfl ?_
    refine x_iload rfl rfl ?_
    refine x_iconst (v := (5 : Int32)) rfl rfl ?_
    refine x_idiv rfl (by decide) ?_
    refine x_iconst (v := (5 : Int32)) rfl rfl ?_
    refine x_irem rfl (by decide) ?_
    refine x_iadd rfl ?_
    refine x_iload rfl rfl ?_
    refine x_iconst (v := (5 : Int32)) rfl rfl ?_
    refine x_irem rfl (by decide) ?_
    refine x_iadd rfl ?_
    refine x_istore (i := 5) (L1 := [(5, .int ((((x4 / (125 : Int32)) + ((x4 / (25 : Int32)) - (x4 / (25 : Int32)) / (5 : Int32) * (5 : Int32))) + ((x4 / (5 : Int32)) - (x4 / (5 : Int32)) / (5 : Int32) * (5 : Int32))) + (x4 - x4 / (5 : Int32) * (5 : Int32)))), (0, .ref a0), (1, .int x1), (2, .int x2), (3, .int x3), (4, .int x4)]) rfl (Nat.le_of_ble_eq_true rfl) rfl ?_
    refine x_aload_n rfl rfl ?_
    refine x_iload_n rfl rfl ?_
    refine x_vv lm_Odds_39 vf_Row_push k0 rfl rfl (Nat.le_of_ble_eq_true rfl) rfl h (fun D1 h => ?_)
    refine x_iload_n rfl rfl ?_
    refine x_iload rfl rfl ?_
    refine x_iload_n rfl rfl ?_
    refine x_icmp_gt (tgt := 54) rfl rfl (fun c => ?_) (fun c => ?_)
    · have h := h.1 c
      refine x_iconst (v := (0 : Int32)) rfl rfl ?_
      refine x_iadd rfl ?_
      refine x_istore_n (i := 3) (L1 := [(3, .int (x3 + (0 : Int32))), (5, .int ((((x4 / (125 : Int32)) + ((x4 / (25 : Int32)) - (x4 / (25 : Int32)) / (5 : Int32) * (5 : Int32))) + ((x4 / (5 : Int32)) - (x4 / (5 : Int32)) / (5 : Int32) * (5 : Int32))) + (x4 - x4 / (5 : Int32) * (5 : Int32)))), (0, .ref a0), (1, .int x1), (2, .int x2), (4, .int x4)]) rfl rfl (Nat.le_of_ble_eq_true rfl) rfl ?_
      refine x_iinc (i := 4) (v := x4 + (1 : Int32)) (L1 := [(4, .int (x4 + (1 : Int32))), (3, .int (x3 + (0 : Int32))), (5, .int ((((x4 / (125 : Int32)) + ((x4 / (25 : Int32)) - (x4 / (25 : Int32)) / (5 : Int32) * (5 : Int32))) + ((x4 / (5 : Int32)) - (x4 / (5 : Int32)) / (5 : Int32) * (5 : Int32))) + (x4 - x4 / (5 : Int32) * (5 : Int32)))), (0, .ref a0), (1, .int x1), (2, .int x2)]) rfl rfl rfl (Nat.le_of_ble_eq_true rfl) rfl ?_
      refine x_goto (tgt := 5) rfl rfl ?_
      exact xP_sub [3, 4, 5, 1, 0] rfl h
    · have h := h.2 c
      refine x_iconst (v := (1 : Int32)) rfl rfl ?_
      refine x_goto (tgt := 55) rfl rfl ?_
      refine x_iadd rfl ?_
      refine x_istore_n (i := 3) (L1 := [(3, .int (x3 + (1 : Int32))), (5, .int ((((x4 / (125 : Int32)) + ((x4 / (25 : Int32)) - (x4 / (25 : Int32)) / (5 : Int32) * (5 : Int32))) + ((x4 / (5 : Int32)) - (x4 / (5 : Int32)) / (5 : Int32) * (5 : Int32))) + (x4 - x4 / (5 : Int32) * (5 : Int32)))), (0, .ref a0), (1, .int x1), (2, .int x2), (4, .int x4)]) rfl rfl (Nat.le_of_ble_eq_true rfl) rfl ?_
      refine x_iinc (i := 4) (v := x4 + (1 : Int32)) (L1 := [(4, .int (x4 + (1 : Int32))), (3, .int (x3 + (1 : Int32))), (5, .int ((((x4 / (125 : Int32)) + ((x4 / (25 : Int32)) - (x4 / (25 : Int32)) / (5 : Int32) * (5 : Int32))) + ((x4 / (5 : Int32)) - (x4 / (5 : Int32)) / (5 : Int32) * (5 : Int32))) + (x4 - x4 / (5 : Int32) * (5 : Int32)))), (0, .ref a0), (1, .int x1), (2, .int x2)]) rfl rfl rfl (Nat.le_of_ble_eq_true rfl) rfl ?_
      refine x_goto (tgt := 5) rfl rfl ?_
      exact xP_sub [3, 4, 5, 1, 0] rfl h
theorem s_Odds_lie_0 {d : Nat} {D : xD} {Q : Option Value → xD → Prop} {a0 : Nat} {a1 : Nat} {a2 : Nat} (k0 : xk a0 = 11) (k1 : xk a1 = 4) (k2 : xk a2 = 3) (h : xCi d m_Table_kinds [.ref a1] D (fun r2 D1 => ∀ D3 : xD, D3 = (xu D1.1 a0 6 r2, D1.2) → xCi d m_Table_alike [.ref a1] D3 (fun r5 D4 => ∀ D6 : xD, D6 = (xu D4.1 a0 7 r5, D4.2) → xCi d m_Table_pack [.ref a1] D6 (fun r8 D7 => ∀ D9 : xD, D9 = (xu D7.1 a0 8 r8, D7.2) → xCv d m_Row_fill [.ref (a0 + 1), .int (13 : Int32), .int (0 : Int32)] D9 (fun D10 => xCv d m_Row_fill [.ref (a0 + 3), .int (13 : Int32), .int (0 : Int32)] D10 (fun D11 => xCv d m_Row_fill [.ref (a0 + 5), .int (4 : Int32), .int (0 : Int32)] D11 (fun D12 => xPf (d + 1) m_Odds_lie 55 [(0, .ref a0), (1, .ref a1), (2, .ref a2), (3, .int (0 : Int32))] [] D12 Q))))))) : xPf (d + 1) m_Odds_lie 0 [(0, .ref a0), (1, .ref a1), (2, .ref a2)] [] D Q := by
  refine x_aload_n rfl rfl ?_
  refine x_aload_n rfl rfl ?_
  refine x_vi lm_Odds_42 vf_Table_kinds k1 rfl rfl (Nat.le_of_ble_eq_true rfl) rfl h (fun r2 D1 h => ?_)
  refine x_pIn lp_Odds_48 nf_11_6 k0 rfl rfl (fun D3 eD3 => ?_)
  have h := h D3 eD3
  refine x_aload_n rfl rfl ?_
  refine x_aload_n rfl rfl ?_
  refine x_vi lm_Odds_51 vf_Table_alike k1 rfl rfl (Nat.le_of_ble_eq_true rfl) rfl h (fun r5 D4 h => ?_)
  refine x_pIn lp_Odds_54 nf_11_7 k0 rfl rfl (fun D6 eD6 => ?_)
  have h := h D6 eD6
  refine x_aload_n rfl rfl ?_
  refine x_aload_n rfl rfl ?_
  refine x_vi lm_Odds_56 vf_Table_pack k1 rfl rfl (Nat.le_of_ble_eq_true rfl) rfl h (fun r8 D7 h => ?_)
  refine x_pIn lp_Odds_59 nf_11_8 k0 rfl rfl (fun D9 eD9 => ?_)
  have h := h D9 eD9
  refine x_aload_n rfl rfl ?_
  refine x_gR lf_Odds_14 k0 rfl rfl ?_
  refine x_bipush (v := (13 : Int32)) rfl rfl ?_
  refine x_iconst (v := (0 : Int32)) rfl rfl ?_
  refine x_vv lm_Odds_62 vf_Row_fill (ck_11_0 k0) rfl rfl (Nat.le_of_ble_eq_true rfl) rfl h (fun D10 h => ?_)
  refine x_aload_n rfl rfl ?_
  refine x_gR lf_Odds_20 k0 rfl rfl ?_
  refine x_bipush (v := (13 : Int32)) rfl rfl ?_
  refine x_iconst (v := (0 : Int32)) rfl rfl ?_
  refine x_vv lm_Odds_62 vf_Row_fill (ck_11_1 k0) rfl rfl (Nat.le_of_ble_eq_true rfl) rfl h (fun D11 h => ?_)
  refine x_aload_n rfl rfl ?_
  refine x_gR lf_Odds_23 k0 rfl rfl ?_
  refine x_iconst (v := (4 : Int32)) rfl rfl ?_
  refine x_iconst (v := (0 : Int32)) rfl rfl ?_
  refine x_vv lm_Odds_62 vf_Row_fill (ck_11_2 k0) rfl rfl (Nat.le_of_ble_eq_true rfl) rfl h (fun D12 h => ?_)
  refine x_iconst (v := (0 : Int32)) rfl rfl ?_
  refine x_istore_n (i := 3) (L1 := [(3, .int (0 : Int32)), (0, .ref a0), (1, .ref a1), (2, .ref a2)]) rfl rfl (Nat.le_of_ble_eq_true rfl) rfl ?_
  exact xP_sub [1, 2, 3, 0] rfl h
theorem s_Odds_lie_55 {d : Nat} {D : xD} {Q : Option Value → xD → Prop} {a0 : Nat} {a1 : Nat} {a2 : Nat} {x3 : Int32} (k0 : xk a0 = 11) (k1 : xk a1 = 4) (k2 : xk a2 = 3) (h : ((D.1 a0 6) ≤ x3 → xCi d m_Row_size [.ref (a2 + 10)] D (fun r2 D1 => (¬ r2 = (D1.1 a0 7) → xPf (d + 1) m_Odds_lie 105 [(0, .ref a0), (1, .ref a1), (2, .ref a2), (3, .int (0 : Int32)), (4, .int (0 : Int32))] [] D1 Q) ∧ (r2 = (D1.1 a0 7) → xPf (d + 1) m_Odds_lie 105 [(0, .ref a0), (1, .ref a1), (2, .ref a2), (3, .int (1 : Int32)), (4, .int (0 : Int32))] [] D1 Q))) ∧ (¬ (D.1 a0 6) ≤ x3 → xCi d m_Table_number [.ref a1, .int (1 : Int32)] D (fun r4 D3 => xCv d m_Row_set [.ref (a0 + 3), .int x3, .int r4] D3 (fun D5 => xPf (d + 1) m_Odds_lie 55 [(0, .ref a0), (1, .ref a1), (2, .ref a2), (3, .int (x3 + (1 : Int32)))] [] D5 Q)))) : xPf (d + 1) m_Odds_lie 55 [(0, .ref a0), (1, .ref a1), (2, .ref a2), (3, .int x3)] [] D Q := by
  refine x_iload_n rfl rfl ?_
  refine x_aload_n rfl rfl ?_
  refine x_gI lf_Odds_48 k0 rfl rfl ?_
  refine x_icmp_ge (tgt := 82) rfl rfl (fun c => ?_) (fun c => ?_)
  · have h := h.1 c
    refine x_aload_n rfl rfl ?_
    refine x_gR lf_Odds_73 k2 rfl rfl ?_
    refine x_vi lm_Odds_76 vf_Row_size (ck_3_3 k2) rfl rfl (Nat.le_of_ble_eq_true rfl) rfl h (fun r2 D1 h => ?_)
    refine x_aload_n rfl rfl ?_
    refine x_gI lf_Odds_54 k0 rfl rfl ?_
    refine x_icmp_ne (tgt := 100) rfl rfl (fun c => ?_) (fun c => ?_)
    · have h := h.1 c
      refine x_iconst (v := (0 : Int32)) rfl rfl ?_
      refine x_istore_n (i := 3) (L1 := [(3, .int (0 : Int32)), (0, .ref a0), (1, .ref a1), (2, .ref a2)]) rfl rfl (Nat.le_of_ble_eq_true rfl) rfl ?_
      refine x_iconst (v := (0 : Int32)) rfl rfl ?_
      refine x_istore (i := 4) (L1 := [(4, .int (0 : Int32)), (3, .int (0 : Int32)), (0, .ref a0), (1, .ref a1), (2, .ref a2)]) rfl (Nat.le_of_ble_eq_true rfl) rfl ?_
      exact xP_sub [2, 3, 4, 1, 0] rfl h
    · have h := h.2 c
      refine x_iconst (v := (1 : Int32)) rfl rfl ?_
      refine x_goto (tgt := 101) rfl rfl ?_
      refine x_istore_n (i := 3) (L1 := [(3, .int (1 : Int32)), (0, .ref a0), (1, .ref a1), (2, .ref a2)]) rfl rfl (Nat.le_of_ble_eq_true rfl) rfl ?_
      refine x_iconst (v := (0 : Int32)) rfl rfl ?_
      refine x_istore (i := 4) (L1 := [(4, .int (0 : Int32)), (3, .int (1 : Int32)), (0, .ref a0), (1, .ref a1), (2, .ref a2)]) rfl (Nat.le_of_ble_eq_true rfl) rfl ?_
      exact xP_sub [2, 3, 4, 1, 0] rfl h
  · have h := h.2 c
    refine x_aload_n rfl rfl ?_
    refine x_gR lf_Odds_20 k0 rfl rfl ?_
    refine x_iload_n rfl rfl ?_
    refine x_aload_n rfl rfl ?_
    refine x_iconst (v := (1 : Int32)) rfl rfl ?_
    refine x_vi lm_Odds_66 vf_Table_number k1 rfl rfl (Nat.le_of_ble_eq_true rfl) rfl h (fun r4 D3 h => ?_)
    refine x_vv lm_Odds_70 vf_Row_set (ck_11_1 k0) rfl rfl (Nat.le_of_ble_eq_true rfl) rfl h (fun D5 h => ?_)
    refine x_iinc (i := 3) (v := x3 + (1 : Int32)) (L1 := [(3, .int (x3 + (1 : Int32))), (0, .ref a0), (1, .ref a1), (2, .ref a2)]) rfl rfl rfl (Nat.le_of_ble_eq_true rfl) rfl ?_
    refine x_goto (tgt := 55) rfl rfl ?_
    exact xP_sub [1, 2, 3, 0] rfl h
theorem s_Odds_lie_105 {d : Nat} {D : xD} {Q : Option Value → xD → Prop} {a0 : Nat} {a1 : Nat} {a2 : Nat} {x3 : Int32} {x4 : Int32} (k0 : xk a0 = 11) (k1 : xk a1 = 4) (k2 : xk a2 = 3) (h : xCi d m_Row_size [.ref (a2 + 10)] D (fun r2 D1 => (r2 ≤ x4 → xPf (d + 1) m_Odds_lie 159 [(0, .ref a0), (1, .ref a1), (2, .ref a2), (3, .int x3), (4, .int (0 : Int32))] [] D1 Q) ∧ (¬ r2 ≤ x4 → xCi d m_Row_get [.ref (a2 + 10), .int x4] D1 (fun r4 D3 => xCi d m_Odds_see [.ref a0, .int r4] D3 (fun r6 D5 => xCi d m_Row_get [.ref (a2 + 10), .int x4] D5 (fun r8 D7 => xCv d m_Row_add [.ref (a0 + 1), .int r8, .int (1 : Int32)] D7 (fun D9 => xPf (d + 1) m_Odds_lie 105 [(0, .ref a0), (1, .ref a1), (2, .ref a2), (3, .int (x3 &&& r6)), (4, .int (x4 + (1 : Int32)))] [] D9 Q))))))) : xPf (d + 1) m_Odds_lie 105 [(0, .ref a0), (1, .ref a1), (2, .ref a2), (3, .int x3), (4, .int x4)] [] D Q := by
  refine x_iload rfl rfl ?_
  refine x_aload_n rfl rfl ?_
  refine x_gR lf_Odds_73 k2 rfl rfl ?_
  refine x_vi lm_Odds_76 vf_Row_size (ck_3_3 k2) rfl rfl (Nat.le_of_ble_eq_true rfl) rfl h (fun r2 D1 h => ?_)
  refine x_icmp_ge (tgt := 156) rfl rfl (fun c => ?_) (fun c => ?_)
  · have h := h.1 c
    refine x_iconst (v := (0 : Int32)) rfl rfl ?_
    refine x_istore (i := 4) (L1 := [(4, .int (0 : Int32)), (0, .ref a0), (1, .ref a1), (2, .ref a2), (3, .int x3)]) rfl (Nat.le_of_ble_eq_true rfl) rfl ?_
    exact xP_sub [1, 2, 3, 4, 0] rfl h
  · have h := h.2 c
    refine x_iload_n rfl rfl ?_
    refine x_aload_n rfl rfl ?_
    refine x_aload_n rfl rfl ?_
    refine x_gR lf_Odds_73 k2 rfl rfl ?_
    refine x_iload rfl rfl ?_
    refine x_vi lm_Odds_79 vf_Row_get (ck_3_3 k2) rfl rfl (Nat.le_of_ble_eq_true rfl) rfl h (fun r4 D3 h => ?_)
    refine x_vi lm_Odds_82 vf_Odds_see k0 rfl rfl (Nat.le_of_ble_eq_true rfl) rfl h (fun r6 D5 h => ?_)
    refine x_iand rfl ?_
    refine x_istore_n (i := 3) (L1 := [(3, .int (x3 &&& r6)), (0, .ref a0), (1, .ref a1), (2, .ref a2), (4, .int x4)]) rfl rfl (Nat.le_of_ble_eq_true rfl) rfl ?_
    refine x_aload_n rfl rfl ?_
    refine x_gR lf_Odds_14 k0 rfl rfl ?_
    refine x_aload_n rfl rfl ?_
    refine x_gR lf_Odds_73 k2 rfl rfl ?_
    refine x_iload rfl rfl ?_
    refine x_vi lm_Odds_79 vf_Row_get (ck_3_3 k2) rfl rfl (Nat.le_of_ble_eq_true rfl) rfl h (fun r8 D7 h => ?_)
    refine x_iconst (v := (1 : Int32)) rfl rfl ?_
    refine x_vv lm_Odds_86 vf_Row_add (ck_11_0 k0) rfl rfl (Nat.le_of_ble_eq_true rfl) rfl h (fun D9 h => ?_)
    refine x_iinc (i := 4) (v := x4 + (1 : Int32)) (L1 := [(4, .int (x4 + (1 : Int32))), (3, .int (x3 &&& r6)), (0, .ref a0), (1, .ref a1), (2, .ref a2)]) rfl rfl rfl (Nat.le_of_ble_eq_true rfl) rfl ?_
    refine x_goto (tgt := 105) rfl rfl ?_
    exact xP_sub [2, 3, 4, 1, 0] rfl h
theorem s_Odds_lie_159 {d : Nat} {D : xD} {Q : Option Value → xD → Prop} {a0 : Nat} {a1 : Nat} {a2 : Nat} {x3 : Int32} {x4 : Int32} (k0 : xk a0 = 11) (k1 : xk a1 = 4) (k2 : xk a2 = 3) (h : xCi d m_Row_size [.ref (a2 + 12)] D (fun r2 D1 => (r2 ≤ x4 → (x3 = 0 ∨ x3 = 1) ∧ Q (some (.int x3)) D1) ∧ (¬ r2 ≤ x4 → xCi d m_Row_get [.ref (a2 + 12), .int x4] D1 (fun r4 D3 => xCi d m_Odds_see [.ref a0, .int r4] D3 (fun r6 D5 => xPf (d + 1) m_Odds_lie 159 [(0, .ref a0), (1, .ref a1), (2, .ref a2), (3, .int (x3 &&& r6)), (4, .int (x4 + (1 : Int32)))] [] D5 Q))))) : xPf (d + 1) m_Odds_lie 159 [(0, .ref a0), (1, .ref a1), (2, .ref a2), (3, .int x3), (4, .int x4)] [] D Q := by
  refine x_iload rfl rfl ?_
  refine x_aload_n rfl rfl ?_
  refine x_gR lf_Odds_89 k2 rfl rfl ?_
  refine x_vi lm_Odds_76 vf_Row_size (ck_3_4 k2) rfl rfl (Nat.le_of_ble_eq_true rfl) rfl h (fun r2 D1 h => ?_)
  refine x_icmp_ge (tgt := 193) rfl rfl (fun c => ?_) (fun c => ?_)
  · have h := h.1 c
    refine x_iload_n rfl rfl ?_
    exact x_zr rfl h.1 rfl h.2
  · have h := h.2 c
    refine x_iload_n rfl rfl ?_
    refine x_aload_n rfl rfl ?_
    refine x_aload_n rfl rfl ?_
    refine x_gR lf_Odds_89 k2 rfl rfl ?_
    refine x_iload rfl rfl ?_
    refine x_vi lm_Odds_79 vf_Row_get (ck_3_4 k2) rfl rfl (Nat.le_of_ble_eq_true rfl) rfl h (fun r4 D3 h => ?_)
    refine x_vi lm_Odds_82 vf_Odds_see k0 rfl rfl (Nat.le_of_ble_eq_true rfl) rfl h (fun r6 D5 h => ?_)
    refine x_iand rfl ?_
    refine x_istore_n (i := 3) (L1 := [(3, .int (x3 &&& r6)), (0, .ref a0), (1, .ref a1), (2, .ref a2), (4, .int x4)]) rfl rfl (Nat.le_of_ble_eq_true rfl) rfl ?_
    refine x_iinc (i := 4) (v := x4 + (1 : Int32)) (L1 := [(4, .int (x4 + (1 : Int32))), (3, .int (x3 &&& r6)), (0, .ref a0), (1, .ref a1), (2, .ref a2)]) rfl rfl rfl (Nat.le_of_ble_eq_true rfl) rfl ?_
    refine x_goto (tgt := 159) rfl rfl ?_
    exact xP_sub [2, 3, 4, 1, 0] rfl h
theorem s_Odds_see_0 {d : Nat} {D : xD} {Q : Option Value → xD → Prop} {a0 : Nat} {x1 : Int32} (k0 : xk a0 = 11) (h : xCv d m_Row_add [.ref (a0 + 3), .int x1, .int (-1 : Int32)] D (fun D1 => ∀ D2 : xD, D2 = (xu D1.1 a0 8 ((D1.1 a0 8) - (1 : Int32)), D1.2) → ((D2.1 a0 6) ≤ x1 → Q (some (.int (0 : Int32))) D2) ∧ (¬ (D2.1 a0 6) ≤ x1 → xCi d m_Row_get [.ref (a0 + 3), .int x1] D2 (fun r4 D3 => (r4 < 0 → Q (some (.int (0 : Int32))) D3) ∧ (¬ r4 < 0 → Q (some (.int (1 : Int32))) D3))))) : xPf (d + 1) m_Odds_see 0 [(0, .ref a0), (1, .int x1)] [] D Q := by
  refine x_aload_n rfl rfl ?_
  refine x_gR lf_Odds_20 k0 rfl rfl ?_
  refine x_iload_n rfl rfl ?_
  refine x_iconst (v := (-1 : Int32)) rfl rfl ?_
  refine x_vv lm_Odds_86 vf_Row_add (ck_11_1 k0) rfl rfl (Nat.le_of_ble_eq_true rfl) rfl h (fun D1 h => ?_)
  refine x_aload_n rfl rfl ?_
  refine x_dup rfl rfl ?_
  refine x_gI lf_Odds_59 k0 rfl rfl ?_
  refine x_iconst (v := (1 : Int32)) rfl rfl ?_
  refine x_isub rfl ?_
  refine x_pIn lp_Odds_59 nf_11_8 k0 rfl rfl (fun D2 eD2 => ?_)
  have h := h D2 eD2
  refine x_iload_n rfl rfl ?_
  refine x_aload_n rfl rfl ?_
  refine x_gI lf_Odds_48 k0 rfl rfl ?_
  refine x_icmp_ge (tgt := 42) rfl rfl (fun c => ?_) (fun c => ?_)
  · have h := h.1 c
    refine x_iconst (v := (0 : Int32)) rfl rfl ?_
    exact x_zr rfl (Or.inl rfl) rfl h
  · have h := h.2 c
    refine x_aload_n rfl rfl ?_
    refine x_gR lf_Odds_20 k0 rfl rfl ?_
    refine x_iload_n rfl rfl ?_
    refine x_vi lm_Odds_79 vf_Row_get (ck_11_1 k0) rfl rfl (Nat.le_of_ble_eq_true rfl) rfl h (fun r4 D3 h => ?_)
    refine x_if_lt (tgt := 42) rfl rfl (fun c => ?_) (fun c => ?_)
    · have h := h.1 c
      refine x_iconst (v := (0 : Int32)) rfl rfl ?_
      exact x_zr rfl (Or.inl rfl) rfl h
    · have h := h.2 c
      refine x_iconst (v := (1 : Int32)) rfl rfl ?_
      refine x_goto (tgt := 43) rfl rfl ?_
      exact x_zr rfl (Or.inr rfl) rfl h
theorem s_Odds_mayCome_0 {d : Nat} {D : xD} {Q : Option Value → xD → Prop} {a0 : Nat} {x1 : Int32} (k0 : xk a0 = 11) (h : (x1 < 0 → Q (some (.int (0 : Int32))) D) ∧ (¬ x1 < 0 → ((6 : Int32) < x1 → Q (some (.int (0 : Int32))) D) ∧ (¬ (6 : Int32) < x1 → ((D.1 a0 8) < x1 → Q (some (.int (0 : Int32))) D) ∧ (¬ (D.1 a0 8) < x1 → Q (some (.int (1 : Int32))) D)))) : xPf (d + 1) m_Odds_mayCome 0 [(0, .ref a0), (1, .int x1)] [] D Q := by
  refine x_iload_n rfl rfl ?_
  refine x_if_lt (tgt := 22) rfl rfl (fun c => ?_) (fun c => ?_)
  · have h := h.1 c
    refine x_iconst (v := (0 : Int32)) rfl rfl ?_
    exact x_zr rfl (Or.inl rfl) rfl h
  · have h := h.2 c
    refine x_iload_n rfl rfl ?_
    refine x_bipush (v := (6 : Int32)) rfl rfl ?_
    refine x_icmp_gt (tgt := 22) rfl rfl (fun c => ?_) (fun c => ?_)
    · have h := h.1 c
      refine x_iconst (v := (0 : Int32)) rfl rfl ?_
      exact x_zr rfl (Or.inl rfl) rfl h
    · have h := h.2 c
      refine x_iload_n rfl rfl ?_
      refine x_aload_n rfl rfl ?_
      refine x_gI lf_Odds_59 k0 rfl rfl ?_
      refine x_icmp_gt (tgt := 22) rfl rfl (fun c => ?_) (fun c => ?_)
      · have h := h.1 c
        refine x_iconst (v := (0 : Int32)) rfl rfl ?_
        exact x_zr rfl (Or.inl rfl) rfl h
      · have h := h.2 c
        refine x_iconst (v := (1 : Int32)) rfl rfl ?_
        refine x_goto (tgt := 23) rfl rfl ?_
        exact x_zr rfl (Or.inr rfl) rfl h
theorem s_Odds_answer_0 {d : Nat} {D : xD} {Q : Option Value → xD → Prop} {a0 : Nat} {x1 : Int32} (k0 : xk a0 = 11) (h : (¬ x1 = (1 : Int32) → (¬ x1 = (2 : Int32) → (x1 < (10 : Int32) → Q (some (.int (-1 : Int32))) D) ∧ (¬ x1 < (10 : Int32) → (((10 : Int32) + (D.1 a0 6)) ≤ x1 → Q (some (.int (-1 : Int32))) D) ∧ (¬ ((10 : Int32) + (D.1 a0 6)) ≤ x1 → xCi d m_Row_get [.ref (a0 + 3), .int (x1 - (10 : Int32))] D (fun r2 D1 => Q (some (.int r2)) D1)))) ∧ (x1 = (2 : Int32) → xCi d m_Odds_starved [.ref a0] D (fun r4 D3 => Q (some (.int r4)) D3))) ∧ (x1 = (1 : Int32) → Q (some (.int (D.1 a0 8))) D)) : xPf (d + 1) m_Odds_answer 0 [(0, .ref a0), (1, .int x1)] [] D Q := by
  refine x_iload_n rfl rfl ?_
  refine x_iconst (v := (1 : Int32)) rfl rfl ?_
  refine x_icmp_ne (tgt := 10) rfl rfl (fun c => ?_) (fun c => ?_)
  · have h := h.1 c
    refine x_iload_n rfl rfl ?_
    refine x_iconst (v := (2 : Int32)) rfl rfl ?_
    refine x_icmp_ne (tgt := 20) rfl rfl (fun c => ?_) (fun c => ?_)
    · have h := h.1 c
      refine x_iload_n rfl rfl ?_
      refine x_bipush (v := (10 : Int32)) rfl rfl ?_
      refine x_icmp_lt (tgt := 51) rfl rfl (fun c => ?_) (fun c => ?_)
      · have h := h.1 c
        refine x_iconst (v := (-1 : Int32)) rfl rfl ?_
        exact x_iret rfl rfl h
      · have h := h.2 c
        refine x_iload_n rfl rfl ?_
        refine x_bipush (v := (10 : Int32)) rfl rfl ?_
        refine x_aload_n rfl rfl ?_
        refine x_gI lf_Odds_48 k0 rfl rfl ?_
        refine x_iadd rfl ?_
        refine x_icmp_ge (tgt := 51) rfl rfl (fun c => ?_) (fun c => ?_)
        · have h := h.1 c
          refine x_iconst (v := (-1 : Int32)) rfl rfl ?_
          exact x_iret rfl rfl h
        · have h := h.2 c
          refine x_aload_n rfl rfl ?_
          refine x_gR lf_Odds_20 k0 rfl rfl ?_
          refine x_iload_n rfl rfl ?_
          refine x_bipush (v := (10 : Int32)) rfl rfl ?_
          refine x_isub rfl ?_
          refine x_vi lm_Odds_79 vf_Row_get (ck_11_1 k0) rfl rfl (Nat.le_of_ble_eq_true rfl) rfl h (fun r2 D1 h => ?_)
          refine x_goto (tgt := 52) rfl rfl ?_
          exact x_iret rfl rfl h
    · have h := h.2 c
      refine x_aload_n rfl rfl ?_
      refine x_vi lm_Odds_92 vf_Odds_starved k0 rfl rfl (Nat.le_of_ble_eq_true rfl) rfl h (fun r4 D3 h => ?_)
      exact x_iret rfl rfl h
  · have h := h.2 c
    refine x_aload_n rfl rfl ?_
    refine x_gI lf_Odds_59 k0 rfl rfl ?_
    exact x_iret rfl rfl h
theorem s_Odds_starved_0 {d : Nat} {D : xD} {Q : Option Value → xD → Prop} {a0 : Nat} (k0 : xk a0 = 11) (h : xPf (d + 1) m_Odds_starved 4 [(0, .ref a0), (1, .int (0 : Int32)), (2, .int (0 : Int32))] [] D Q) : xPf (d + 1) m_Odds_starved 0 [(0, .ref a0)] [] D Q := by
  refine x_iconst (v := (0 : Int32)) rfl rfl ?_
  refine x_istore_n (i := 1) (L1 := [(1, .int (0 : Int32)), (0, .ref a0)]) rfl rfl (Nat.le_of_ble_eq_true rfl) rfl ?_
  refine x_iconst (v := (0 : Int32)) rfl rfl ?_
  refine x_istore_n (i := 2) (L1 := [(2, .int (0 : Int32)), (1, .int (0 : Int32)), (0, .ref a0)]) rfl rfl (Nat.le_of_ble_eq_true rfl) rfl ?_
  exact xP_sub [2, 1, 0] rfl h
theorem s_Odds_starved_4 {d : Nat} {D : xD} {Q : Option Value → xD → Prop} {a0 : Nat} {x1 : Int32} {x2 : Int32} (k0 : xk a0 = 11) (h : ((D.1 a0 6) ≤ x2 → Q (some (.int x1)) D) ∧ (¬ (D.1 a0 6) ≤ x2 → xCi d m_Row_get [.ref (a0 + 1), .int x2] D (fun r2 D1 => xCi d m_Row_get [.ref (a0 + 3), .int x2] D1 (fun r4 D3 => ((D3.1 a0 7) ≤ (r2 + r4) → xPf (d + 1) m_Odds_starved 4 [(0, .ref a0), (1, .int x1), (2, .int (x2 + (1 : Int32)))] [] D3 Q) ∧ (¬ (D3.1 a0 7) ≤ (r2 + r4) → xPf (d + 1) m_Odds_starved 4 [(0, .ref a0), (1, .int (x1 ||| ((1 : Int32) <<< (x2 &&& 31)))), (2, .int (x2 + (1 : Int32)))] [] D3 Q))))) : xPf (d + 1) m_Odds_starved 4 [(0, .ref a0), (1, .int x1), (2, .int x2)] [] D Q := by
  refine x_iload_n rfl rfl ?_
  refine x_aload_n rfl rfl ?_
  refine x_gI lf_Odds_48 k0 rfl rfl ?_
  refine x_icmp_ge (tgt := 48) rfl rfl (fun c => ?_) (fun c => ?_)
  · have h := h.1 c
    refine x_iload_n rfl rfl ?_
    exact x_iret rfl rfl h
  · have h := h.2 c
    refine x_aload_n rfl rfl ?_
    refine x_gR lf_Odds_14 k0 rfl rfl ?_
    refine x_iload_n rfl rfl ?_
    refine x_vi lm_Odds_79 vf_Row_get (ck_11_0 k0) rfl rfl (Nat.le_of_ble_eq_true rfl) rfl h (fun r2 D1 h => ?_)
    refine x_aload_n rfl rfl ?_
    refine x_gR lf_Odds_20 k0 rfl rfl ?_
    refine x_iload_n rfl rfl ?_
    refine x_vi lm_Odds_79 vf_Row_get (ck_11_1 k0) rfl rfl (Nat.le_of_ble_eq_true rfl) rfl h (fun r4 D3 h => ?_)
    refine x_iadd rfl ?_
    refine x_aload_n rfl rfl ?_
    refine x_gI lf_Odds_54 k0 rfl rfl ?_
    refine x_icmp_ge (tgt := 42) rfl rfl (fun c => ?_) (fun c => ?_)
    · have h := h.1 c
      refine x_iinc (i := 2) (v := x2 + (1 : Int32)) (L1 := [(2, .int (x2 + (1 : Int32))), (0, .ref a0), (1, .int x1)]) rfl rfl rfl (Nat.le_of_ble_eq_true rfl) rfl ?_
      refine x_goto (tgt := 4) rfl rfl ?_
      exact xP_sub [1, 2, 0] rfl h
    · have h := h.2 c
      refine x_iload_n rfl rfl ?_
      refine x_iconst (v := (1 : Int32)) rfl rfl ?_
      refine x_iload_n rfl rfl ?_
      refine x_ishl rfl ?_
      refine x_ior rfl ?_
      refine x_istore_n (i := 1) (L1 := [(1, .int (x1 ||| ((1 : Int32) <<< (x2 &&& 31)))), (0, .ref a0), (2, .int x2)]) rfl rfl (Nat.le_of_ble_eq_true rfl) rfl ?_
      refine x_iinc (i := 2) (v := x2 + (1 : Int32)) (L1 := [(2, .int (x2 + (1 : Int32))), (1, .int (x1 ||| ((1 : Int32) <<< (x2 &&& 31)))), (0, .ref a0)]) rfl rfl rfl (Nat.le_of_ble_eq_true rfl) rfl ?_
      refine x_goto (tgt := 4) rfl rfl ?_
      exact xP_sub [2, 1, 0] rfl h
theorem s_Odds_hasAlike_0 {d : Nat} {D : xD} {Q : Option Value → xD → Prop} {a0 : Nat} (k0 : xk a0 = 11) (h : xPf (d + 1) m_Odds_hasAlike 2 [(0, .ref a0), (1, .int (0 : Int32))] [] D Q) : xPf (d + 1) m_Odds_hasAlike 0 [(0, .ref a0)] [] D Q := by
  refine x_iconst (v := (0 : Int32)) rfl rfl ?_
  refine x_istore_n (i := 1) (L1 := [(1, .int (0 : Int32)), (0, .ref a0)]) rfl rfl (Nat.le_of_ble_eq_true rfl) rfl ?_
  exact xP_sub [1, 0] rfl h
theorem s_Odds_hasAlike_2 {d : Nat} {D : xD} {Q : Option Value → xD → Prop} {a0 : Nat} {x1 : Int32} (k0 : xk a0 = 11) (h : ((D.1 a0 6) ≤ x1 → Q (some (.int (0 : Int32))) D) ∧ (¬ (D.1 a0 6) ≤ x1 → xCi d m_Row_get [.ref (a0 + 1), .int x1] D (fun r2 D1 => (r2 < (D1.1 a0 7) → xPf (d + 1) m_Odds_hasAlike 2 [(0, .ref a0), (1, .int (x1 + (1 : Int32)))] [] D1 Q) ∧ (¬ r2 < (D1.1 a0 7) → Q (some (.int (1 : Int32))) D1)))) : xPf (d + 1) m_Odds_hasAlike 2 [(0, .ref a0), (1, .int x1)] [] D Q := by
  refine x_iload_n rfl rfl ?_
  refine x_aload_n rfl rfl ?_
  refine x_gI lf_Odds_48 k0 rfl rfl ?_
  refine x_icmp_ge (tgt := 33) rfl rfl (fun c => ?_) (fun c => ?_)
  · have h := h.1 c
    refine x_iconst (v := (0 : Int32)) rfl rfl ?_
    exact x_zr rfl (Or.inl rfl) rfl h
  · have h := h.2 c
    refine x_aload_n rfl rfl ?_
    refine x_gR lf_Odds_14 k0 rfl rfl ?_
    refine x_iload_n rfl rfl ?_
    refine x_vi lm_Odds_79 vf_Row_get (ck_11_0 k0) rfl rfl (Nat.le_of_ble_eq_true rfl) rfl h (fun r2 D1 h => ?_)
    refine x_aload_n rfl rfl ?_
    refine x_gI lf_Odds_54 k0 rfl rfl ?_
    refine x_icmp_lt (tgt := 27) rfl rfl (fun c => ?_) (fun c => ?_)
    · have h := h.1 c
      refine x_iinc (i := 1) (v := x1 + (1 : Int32)) (L1 := [(1, .int (x1 + (1 : Int32))), (0, .ref a0)]) rfl rfl rfl (Nat.le_of_ble_eq_true rfl) rfl ?_
      refine x_goto (tgt := 2) rfl rfl ?_
      exact xP_sub [1, 0] rfl h
    · have h := h.2 c
      refine x_iconst (v := (1 : Int32)) rfl rfl ?_
      exact x_zr rfl (Or.inr rfl) rfl h
theorem s_Odds_likely_0 {d : Nat} {D : xD} {Q : Option Value → xD → Prop} {a0 : Nat} {x1 : Int32} {x2 : Int32} (k0 : xk a0 = 11) (h : xCv d m_Odds_forget [.ref a0] D (fun D1 => xCi d m_Odds_goodOrders [.ref a0, .int x1] D1 (fun r3 D2 => xCi d m_Odds_orders [.ref a0, .int x1] D2 (fun r5 D4 => xCl d m_S_leastTerms [.long r3.toInt64, .long r5.toInt64, .int x2] D4 (fun r7 D6 => Q (some (.long r7)) D6))))) : xPf (d + 1) m_Odds_likely 0 [(0, .ref a0), (1, .int x1), (2, .int x2)] [] D Q := by
  refine x_aload_n rfl rfl ?_
  refine x_vv lm_Odds_95 vf_Odds_forget k0 rfl rfl (Nat.le_of_ble_eq_true rfl) rfl h (fun D1 h => ?_)
  refine x_aload_n rfl rfl ?_
  refine x_iload_n rfl rfl ?_
  refine x_si lm_Odds_98 sf_Odds_goodOrders rfl rfl (Nat.le_of_ble_eq_true rfl) rfl h (fun r3 D2 h => ?_)
  refine x_i2l rfl ?_
  refine x_aload_n rfl rfl ?_
  refine x_iload_n rfl rfl ?_
  refine x_vi lm_Odds_102 vf_Odds_orders k0 rfl rfl (Nat.le_of_ble_eq_true rfl) rfl h (fun r5 D4 h => ?_)
  refine x_i2l rfl ?_
  refine x_iload_n rfl rfl ?_
  refine x_sl lm_Odds_105 sf_S_leastTerms rfl rfl (Nat.le_of_ble_eq_true rfl) rfl h (fun r7 D6 h => ?_)
  exact x_lret rfl rfl h
theorem s_Odds_forget_0 {d : Nat} {D : xD} {Q : Option Value → xD → Prop} {a0 : Nat} (k0 : xk a0 = 11) (h : xCv d m_Row_fill [.ref (a0 + 11), .int (7350 : Int32), .int (-1 : Int32)] D (fun D1 => Q none D1)) : xPf (d + 1) m_Odds_forget 0 [(0, .ref a0)] [] D Q := by
  refine x_aload_n rfl rfl ?_
  refine x_gR lf_Odds_32 k0 rfl rfl ?_
  refine x_sipush (v := (7350 : Int32)) rfl rfl ?_
  refine x_iconst (v := (-1 : Int32)) rfl rfl ?_
  refine x_vv lm_Odds_62 vf_Row_fill (ck_11_5 k0) rfl rfl (Nat.le_of_ble_eq_true rfl) rfl h (fun D1 h => ?_)
  exact x_vret rfl rfl h
theorem s_Odds_orders_0 {d : Nat} {D : xD} {Q : Option Value → xD → Prop} {a0 : Nat} {x1 : Int32} (k0 : xk a0 = 11) (h : xPf (d + 1) m_Odds_orders 4 [(0, .ref a0), (1, .int x1), (2, .int (1 : Int32)), (3, .int (0 : Int32))] [] D Q) : xPf (d + 1) m_Odds_orders 0 [(0, .ref a0), (1, .int x1)] [] D Q := by
  refine x_iconst (v := (1 : Int32)) rfl rfl ?_
  refine x_istore_n (i := 2) (L1 := [(2, .int (1 : Int32)), (0, .ref a0), (1, .int x1)]) rfl rfl (Nat.le_of_ble_eq_true rfl) rfl ?_
  refine x_iconst (v := (0 : Int32)) rfl rfl ?_
  refine x_istore_n (i := 3) (L1 := [(3, .int (0 : Int32)), (2, .int (1 : Int32)), (0, .ref a0), (1, .int x1)]) rfl rfl (Nat.le_of_ble_eq_true rfl) rfl ?_
  exact xP_sub [2, 3, 1, 0] rfl h
theorem s_Odds_orders_4 {d : Nat} {D : xD} {Q : Option Value → xD → Prop} {a0 : Nat} {x1 : Int32} {x2 : Int32} {x3 : Int32} (k0 : xk a0 = 11) (h : (x1 ≤ x3 → Q (some (.int x2)) D) ∧ (¬ x1 ≤ x3 → xPf (d + 1) m_Odds_orders 4 [(0, .ref a0), (1, .int x1), (2, .int (x2 * ((D.1 a0 8) - x3))), (3, .int (x3 + (1 : Int32)))] [] D Q)) : xPf (d + 1) m_Odds_orders 4 [(0, .ref a0), (1, .int x1), (2, .int x2), (3, .int x3)] [] D Q := by
  refine x_iload_n rfl rfl ?_
  refine x_iload_n rfl rfl ?_
  refine x_icmp_ge (tgt := 24) rfl rfl (fun c => ?_) (fun c => ?_)
  · have h := h.1 c
    refine x_iload_n rfl rfl ?_
    exact x_iret rfl rfl h
  · have h := h.2 c
    refine x_iload_n rfl rfl ?_
    refine x_aload_n rfl rfl ?_
    refine x_gI lf_Odds_59 k0 rfl rfl ?_
    refine x_iload_n rfl rfl ?_
    refine x_isub rfl ?_
    refine x_imul rfl ?_
    refine x_istore_n (i := 2) (L1 := [(2, .int (x2 * ((D.1 a0 8) - x3))), (0, .ref a0), (1, .int x1), (3, .int x3)]) rfl rfl (Nat.le_of_ble_eq_true rfl) rfl ?_
    refine x_iinc (i := 3) (v := x3 + (1 : Int32)) (L1 := [(3, .int (x3 + (1 : Int32))), (2, .int (x2 * ((D.1 a0 8) - x3))), (0, .ref a0), (1, .int x1)]) rfl rfl rfl (Nat.le_of_ble_eq_true rfl) rfl ?_
    refine x_goto (tgt := 4) rfl rfl ?_
    exact xP_sub [2, 3, 1, 0] rfl h
theorem s_Odds_goodOrders_0 {d : Nat} {D : xD} {Q : Option Value → xD → Prop} {a0 : Nat} {x1 : Int32} (k0 : xk a0 = 11) (h : xCi d m_Odds_hasAlike [.ref a0] D (fun r2 D1 => (r2 = 0 → (0 < x1 → xCi d m_Odds_key [.ref a0] D1 (fun r4 D3 => xCi d m_Row_get [.ref (a0 + 11), .int r4] D3 (fun r6 D5 => (r6 = (-1 : Int32) → xPf (d + 1) m_Odds_goodOrders 45 [(0, .ref a0), (1, .int x1), (2, .int r4), (3, .int (0 : Int32)), (4, .int (0 : Int32))] [] D5 Q) ∧ (¬ r6 = (-1 : Int32) → Q (some (.int r6)) D5)))) ∧ (¬ 0 < x1 → Q (some (.int (0 : Int32))) D1)) ∧ (¬ r2 = 0 → xCi d m_Odds_orders [.ref a0, .int x1] D1 (fun r8 D7 => Q (some (.int r8)) D7)))) : xPf (d + 1) m_Odds_goodOrders 0 [(0, .ref a0), (1, .int x1)] [] D Q := by
  refine x_aload_n rfl rfl ?_
  refine x_vi lm_Odds_109 vf_Odds_hasAlike k0 rfl rfl (Nat.le_of_ble_eq_true rfl) rfl h (fun r2 D1 h => ?_)
  refine x_if_eq (tgt := 13) rfl rfl (fun c => ?_) (fun c => ?_)
  · have h := h.1 c
    refine x_iload_n rfl rfl ?_
    refine x_if_gt (tgt := 19) rfl rfl (fun c => ?_) (fun c => ?_)
    · have h := h.1 c
      refine x_aload_n rfl rfl ?_
      refine x_vi lm_Odds_113 vf_Odds_key k0 rfl rfl (Nat.le_of_ble_eq_true rfl) rfl h (fun r4 D3 h => ?_)
      refine x_istore_n (i := 2) (L1 := [(2, .int r4), (0, .ref a0), (1, .int x1)]) rfl rfl (Nat.le_of_ble_eq_true rfl) rfl ?_
      refine x_aload_n rfl rfl ?_
      refine x_gR lf_Odds_32 k0 rfl rfl ?_
      refine x_iload_n rfl rfl ?_
      refine x_vi lm_Odds_79 vf_Row_get (ck_11_5 k0) rfl rfl (Nat.le_of_ble_eq_true rfl) rfl h (fun r6 D5 h => ?_)
      refine x_istore_n (i := 3) (L1 := [(3, .int r6), (2, .int r4), (0, .ref a0), (1, .int x1)]) rfl rfl (Nat.le_of_ble_eq_true rfl) rfl ?_
      refine x_iload_n rfl rfl ?_
      refine x_iconst (v := (-1 : Int32)) rfl rfl ?_
      refine x_icmp_eq (tgt := 40) rfl rfl (fun c => ?_) (fun c => ?_)
      · have h := h.1 c
        refine x_iconst (v := (0 : Int32)) rfl rfl ?_
        refine x_istore_n (i := 3) (L1 := [(3, .int (0 : Int32)), (2, .int r4), (0, .ref a0), (1, .int x1)]) rfl rfl (Nat.le_of_ble_eq_true rfl) rfl ?_
        refine x_iconst (v := (0 : Int32)) rfl rfl ?_
        refine x_istore (i := 4) (L1 := [(4, .int (0 : Int32)), (3, .int (0 : Int32)), (2, .int r4), (0, .ref a0), (1, .int x1)]) rfl (Nat.le_of_ble_eq_true rfl) rfl ?_
        exact xP_sub [3, 4, 2, 1, 0] rfl h
      · have h := h.2 c
        refine x_iload_n rfl rfl ?_
        exact x_iret rfl rfl h
    · have h := h.2 c
      refine x_iconst (v := (0 : Int32)) rfl rfl ?_
      exact x_iret rfl rfl h
  · have h := h.2 c
    refine x_aload_n rfl rfl ?_
    refine x_iload_n rfl rfl ?_
    refine x_vi lm_Odds_102 vf_Odds_orders k0 rfl rfl (Nat.le_of_ble_eq_true rfl) rfl h (fun r8 D7 h => ?_)
    exact x_iret rfl rfl h
theorem s_Odds_goodOrders_45 {d : Nat} {D : xD} {Q : Option Value → xD → Prop} {a0 : Nat} {x1 : Int32} {x2 : Int32} {x3 : Int32} {x4 : Int32} (k0 : xk a0 = 11) (h : ((4 : Int32) ≤ x4 → xCv d m_Row_set [.ref (a0 + 11), .int x2, .int x3] D (fun D1 => Q (some (.int x3)) D1)) ∧ (¬ (4 : Int32) ≤ x4 → xCi d m_Row_get [.ref (a0 + 3), .int x4] D (fun r3 D2 => (r3 ≤ 0 → xPf (d + 1) m_Odds_goodOrders 45 [(0, .ref a0), (1, .int x1), (2, .int x2), (3, .int x3), (4, .int (x4 + (1 : Int32)))] [] D2 Q) ∧ (¬ r3 ≤ 0 → xCv d m_Odds_draw [.ref a0, .int x4, .int (1 : Int32)] D2 (fun D4 => xCi d m_Odds_bestOrders [.ref a0, .int (x1 - (1 : Int32))] D4 (fun r6 D5 => xCv d m_Odds_draw [.ref a0, .int x4, .int (-1 : Int32)] D5 (fun D7 => xPf (d + 1) m_Odds_goodOrders 45 [(0, .ref a0), (1, .int x1), (2, .int x2), (3, .int (x3 + (r3 * r6))), (4, .int (x4 + (1 : Int32)))] [] D7 Q))))))) : xPf (d + 1) m_Odds_goodOrders 45 [(0, .ref a0), (1, .int x1), (2, .int x2), (3, .int x3), (4, .int x4)] [] D Q := by
  refine x_iload rfl rfl ?_
  refine x_iconst (v := (4 : Int32)) rfl rfl ?_
  refine x_icmp_ge (tgt := 100) rfl rfl (fun c => ?_) (fun c => ?_)
  · have h := h.1 c
    refine x_aload_n rfl rfl ?_
    refine x_gR lf_Odds_32 k0 rfl rfl ?_
    refine x_iload_n rfl rfl ?_
    refine x_iload_n rfl rfl ?_
    refine x_vv lm_Odds_70 vf_Row_set (ck_11_5 k0) rfl rfl (Nat.le_of_ble_eq_true rfl) rfl h (fun D1 h => ?_)
    refine x_iload_n rfl rfl ?_
    exact x_iret rfl rfl h
  · have h := h.2 c
    refine x_aload_n rfl rfl ?_
    refine x_gR lf_Odds_20 k0 rfl rfl ?_
    refine x_iload rfl rfl ?_
    refine x_vi lm_Odds_79 vf_Row_get (ck_11_1 k0) rfl rfl (Nat.le_of_ble_eq_true rfl) rfl h (fun r3 D2 h => ?_)
    refine x_istore (i := 5) (L1 := [(5, .int r3), (0, .ref a0), (1, .int x1), (2, .int x2), (3, .int x3), (4, .int x4)]) rfl (Nat.le_of_ble_eq_true rfl) rfl ?_
    refine x_iload rfl rfl ?_
    refine x_if_le (tgt := 94) rfl rfl (fun c => ?_) (fun c => ?_)
    · have h := h.1 c
      refine x_iinc (i := 4) (v := x4 + (1 : Int32)) (L1 := [(4, .int (x4 + (1 : Int32))), (5, .int r3), (0, .ref a0), (1, .int x1), (2, .int x2), (3, .int x3)]) rfl rfl rfl (Nat.le_of_ble_eq_true rfl) rfl ?_
      refine x_goto (tgt := 45) rfl rfl ?_
      exact xP_sub [2, 3, 4, 5, 0] rfl h
    · have h := h.2 c
      refine x_aload_n rfl rfl ?_
      refine x_iload rfl rfl ?_
      refine x_iconst (v := (1 : Int32)) rfl rfl ?_
      refine x_vv lm_Odds_116 vf_Odds_draw k0 rfl rfl (Nat.le_of_ble_eq_true rfl) rfl h (fun D4 h => ?_)
      refine x_iload_n rfl rfl ?_
      refine x_iload rfl rfl ?_
      refine x_aload_n rfl rfl ?_
      refine x_iload_n rfl rfl ?_
      refine x_iconst (v := (1 : Int32)) rfl rfl ?_
      refine x_isub rfl ?_
      refine x_si lm_Odds_119 sf_Odds_bestOrders rfl rfl (Nat.le_of_ble_eq_true rfl) rfl h (fun r6 D5 h => ?_)
      refine x_imul rfl ?_
      refine x_iadd rfl ?_
      refine x_istore_n (i := 3) (L1 := [(3, .int (x3 + (r3 * r6))), (5, .int r3), (0, .ref a0), (1, .int x1), (2, .int x2), (4, .int x4)]) rfl rfl (Nat.le_of_ble_eq_true rfl) rfl ?_
      refine x_aload_n rfl rfl ?_
      refine x_iload rfl rfl ?_
      refine x_iconst (v := (-1 : Int32)) rfl rfl ?_
      refine x_vv lm_Odds_116 vf_Odds_draw k0 rfl rfl (Nat.le_of_ble_eq_true rfl) rfl h (fun D7 h => ?_)
      refine x_iinc (i := 4) (v := x4 + (1 : Int32)) (L1 := [(4, .int (x4 + (1 : Int32))), (3, .int (x3 + (r3 * r6))), (5, .int r3), (0, .ref a0), (1, .int x1), (2, .int x2)]) rfl rfl rfl (Nat.le_of_ble_eq_true rfl) rfl ?_
      refine x_goto (tgt := 45) rfl rfl ?_
      exact xP_sub [3, 4, 5, 1, 0] rfl h
theorem s_Odds_bestOrders_0 {d : Nat} {D : xD} {Q : Option Value → xD → Prop} {a0 : Nat} {x1 : Int32} (k0 : xk a0 = 11) (h : xPf (d + 1) m_Odds_bestOrders 4 [(0, .ref a0), (1, .int x1), (2, .int (0 : Int32)), (3, .int (0 : Int32))] [] D Q) : xPf (d + 1) m_Odds_bestOrders 0 [(0, .ref a0), (1, .int x1)] [] D Q := by
  refine x_iconst (v := (0 : Int32)) rfl rfl ?_
  refine x_istore_n (i := 2) (L1 := [(2, .int (0 : Int32)), (0, .ref a0), (1, .int x1)]) rfl rfl (Nat.le_of_ble_eq_true rfl) rfl ?_
  refine x_iconst (v := (0 : Int32)) rfl rfl ?_
  refine x_istore_n (i := 3) (L1 := [(3, .int (0 : Int32)), (2, .int (0 : Int32)), (0, .ref a0), (1, .int x1)]) rfl rfl (Nat.le_of_ble_eq_true rfl) rfl ?_
  exact xP_sub [2, 3, 1, 0] rfl h
theorem s_Odds_bestOrders_4 {d : Nat} {D : xD} {Q : Option Value → xD → Prop} {a0 : Nat} {x1 : Int32} {x2 : Int32} {x3 : Int32} (k0 : xk a0 = 11) (h : ((4 : Int32) ≤ x3 → Q (some (.int x2)) D) ∧ (¬ (4 : Int32) ≤ x3 → xCi d m_Row_get [.ref (a0 + 1), .int x3] D (fun r2 D1 => (r2 ≤ 0 → xPf (d + 1) m_Odds_bestOrders 4 [(0, .ref a0), (1, .int x1), (2, .int x2), (3, .int (x3 + (1 : Int32)))] [] D1 Q) ∧ (¬ r2 ≤ 0 → xCi d m_Odds_ordersWithout [.ref a0, .int x3, .int x1] D1 (fun r4 D3 => ∀ r5 : Int32, r5 = (if x2 < r4 then r4 else x2) → xPf (d + 1) m_Odds_bestOrders 4 [(0, .ref a0), (1, .int x1), (2, .int r5), (3, .int (x3 + (1 : Int32)))] [] D3 Q))))) : xPf (d + 1) m_Odds_bestOrders 4 [(0, .ref a0), (1, .int x1), (2, .int x2), (3, .int x3)] [] D Q := by
  refine x_iload_n rfl rfl ?_
  refine x_iconst (v := (4 : Int32)) rfl rfl ?_
  refine x_icmp_ge (tgt := 37) rfl rfl (fun c => ?_) (fun c => ?_)
  · have h := h.1 c
    refine x_iload_n rfl rfl ?_
    exact x_iret rfl rfl h
  · have h := h.2 c
    refine x_aload_n rfl rfl ?_
    refine x_gR lf_Odds_14 k0 rfl rfl ?_
    refine x_iload_n rfl rfl ?_
    refine x_vi lm_Odds_79 vf_Row_get (ck_11_0 k0) rfl rfl (Nat.le_of_ble_eq_true rfl) rfl h (fun r2 D1 h => ?_)
    refine x_if_le (tgt := 31) rfl rfl (fun c => ?_) (fun c => ?_)
    · have h := h.1 c
      refine x_iinc (i := 3) (v := x3 + (1 : Int32)) (L1 := [(3, .int (x3 + (1 : Int32))), (0, .ref a0), (1, .int x1), (2, .int x2)]) rfl rfl rfl (Nat.le_of_ble_eq_true rfl) rfl ?_
      refine x_goto (tgt := 4) rfl rfl ?_
      exact xP_sub [1, 2, 3, 0] rfl h
    · have h := h.2 c
      refine x_iload_n rfl rfl ?_
      refine x_aload_n rfl rfl ?_
      refine x_iload_n rfl rfl ?_
      refine x_iload_n rfl rfl ?_
      refine x_vi lm_Odds_122 vf_Odds_ordersWithout k0 rfl rfl (Nat.le_of_ble_eq_true rfl) rfl h (fun r4 D3 h => ?_)
      refine x_mxn wd_1288 (Nat.le_of_ble_eq_true rfl) rfl (fun r5 er5 => ?_)
      have h := h r5 er5
      refine x_istore_n (i := 2) (L1 := [(2, .int r5), (0, .ref a0), (1, .int x1), (3, .int x3)]) rfl rfl (Nat.le_of_ble_eq_true rfl) rfl ?_
      refine x_iinc (i := 3) (v := x3 + (1 : Int32)) (L1 := [(3, .int (x3 + (1 : Int32))), (2, .int r5), (0, .ref a0), (1, .int x1)]) rfl rfl rfl (Nat.le_of_ble_eq_true rfl) rfl ?_
      refine x_goto (tgt := 4) rfl rfl ?_
      exact xP_sub [2, 3, 1, 0] rfl h
theorem s_Odds_ordersWithout_0 {d : Nat} {D : xD} {Q : Option Value → xD → Prop} {a0 : Nat} {x1 : Int32} {x2 : Int32} (k0 : xk a0 = 11) (h : xCv d m_Row_add [.ref (a0 + 1), .int x1, .int (-1 : Int32)] D (fun D1 => xCi d m_Odds_goodOrders [.ref a0, .int x2] D1 (fun r3 D2 => xCv d m_Row_add [.ref (a0 + 1), .int x1, .int (1 : Int32)] D2 (fun D4 => Q (some (.int r3)) D4)))) : xPf (d + 1) m_Odds_ordersWithout 0 [(0, .ref a0), (1, .int x1), (2, .int x2)] [] D Q := by
  refine x_aload_n rfl rfl ?_
  refine x_gR lf_Odds_14 k0 rfl rfl ?_
  refine x_iload_n rfl rfl ?_
  refine x_iconst (v := (-1 : Int32)) rfl rfl ?_
  refine x_vv lm_Odds_86 vf_Row_add (ck_11_0 k0) rfl rfl (Nat.le_of_ble_eq_true rfl) rfl h (fun D1 h => ?_)
  refine x_aload_n rfl rfl ?_
  refine x_iload_n rfl rfl ?_
  refine x_si lm_Odds_98 sf_Odds_goodOrders rfl rfl (Nat.le_of_ble_eq_true rfl) rfl h (fun r3 D2 h => ?_)
  refine x_istore_n (i := 3) (L1 := [(3, .int r3), (0, .ref a0), (1, .int x1), (2, .int x2)]) rfl rfl (Nat.le_of_ble_eq_true rfl) rfl ?_
  refine x_aload_n rfl rfl ?_
  refine x_gR lf_Odds_14 k0 rfl rfl ?_
  refine x_iload_n rfl rfl ?_
  refine x_iconst (v := (1 : Int32)) rfl rfl ?_
  refine x_vv lm_Odds_86 vf_Row_add (ck_11_0 k0) rfl rfl (Nat.le_of_ble_eq_true rfl) rfl h (fun D4 h => ?_)
  refine x_iload_n rfl rfl ?_
  exact x_iret rfl rfl h
theorem s_Odds_draw_0 {d : Nat} {D : xD} {Q : Option Value → xD → Prop} {a0 : Nat} {x1 : Int32} {x2 : Int32} (k0 : xk a0 = 11) (h : xCv d m_Row_add [.ref (a0 + 3), .int x1, .int (-x2)] D (fun D1 => xCv d m_Row_add [.ref (a0 + 1), .int x1, .int x2] D1 (fun D2 => xCv d m_Row_add [.ref (a0 + 5), .int x1, .int x2] D2 (fun D3 => ∀ D4 : xD, D4 = (xu D3.1 a0 8 ((D3.1 a0 8) - x2), D3.2) → Q none D4)))) : xPf (d + 1) m_Odds_draw 0 [(0, .ref a0), (1, .int x1), (2, .int x2)] [] D Q := by
  refine x_aload_n rfl rfl ?_
  refine x_gR lf_Odds_20 k0 rfl rfl ?_
  refine x_iload_n rfl rfl ?_
  refine x_iload_n rfl rfl ?_
  refine x_ineg rfl ?_
  refine x_vv lm_Odds_86 vf_Row_add (ck_11_1 k0) rfl rfl (Nat.le_of_ble_eq_true rfl) rfl h (fun D1 h => ?_)
  refine x_aload_n rfl rfl ?_
  refine x_gR lf_Odds_14 k0 rfl rfl ?_
  refine x_iload_n rfl rfl ?_
  refine x_iload_n rfl rfl ?_
  refine x_vv lm_Odds_86 vf_Row_add (ck_11_0 k0) rfl rfl (Nat.le_of_ble_eq_true rfl) rfl h (fun D2 h => ?_)
  refine x_aload_n rfl rfl ?_
  refine x_gR lf_Odds_23 k0 rfl rfl ?_
  refine x_iload_n rfl rfl ?_
  refine x_iload_n rfl rfl ?_
  refine x_vv lm_Odds_86 vf_Row_add (ck_11_2 k0) rfl rfl (Nat.le_of_ble_eq_true rfl) rfl h (fun D3 h => ?_)
  refine x_aload_n rfl rfl ?_
  refine x_dup rfl rfl ?_
  refine x_gI lf_Odds_59 k0 rfl rfl ?_
  refine x_iload_n rfl rfl ?_
  refine x_isub rfl ?_
  refine x_pIn lp_Odds_59 nf_11_8 k0 rfl rfl (fun D4 eD4 => ?_)
  have h := h D4 eD4
  exact x_vret rfl rfl h
theorem s_Odds_key_0 {d : Nat} {D : xD} {Q : Option Value → xD → Prop} {a0 : Nat} (k0 : xk a0 = 11) (h : xCi d m_Row_get [.ref (a0 + 1), .int (0 : Int32)] D (fun r2 D1 => xCi d m_Row_get [.ref (a0 + 1), .int (1 : Int32)] D1 (fun r4 D3 => xCi d m_Row_get [.ref (a0 + 1), .int (2 : Int32)] D3 (fun r6 D5 => xCi d m_Row_get [.ref (a0 + 5), .int (0 : Int32)] D5 (fun r8 D7 => xCi d m_Row_get [.ref (a0 + 5), .int (1 : Int32)] D7 (fun r10 D9 => xCi d m_Row_get [.ref (a0 + 5), .int (2 : Int32)] D9 (fun r12 D11 => xCi d m_Row_get [.ref (a0 + 5), .int (3 : Int32)] D11 (fun r14 D13 => xCi d m_Row_get [.ref (a0 + 7), .int (((r2 * (25 : Int32)) + (r4 * (5 : Int32))) + r6)] D13 (fun r16 D15 => xCi d m_Row_get [.ref (a0 + 9), .int ((((r8 * (125 : Int32)) + (r10 * (25 : Int32))) + (r12 * (5 : Int32))) + r14)] D15 (fun r18 D17 => Q (some (.int ((r16 * (210 : Int32)) + r18))) D17)))))))))) : xPf (d + 1) m_Odds_key 0 [(0, .ref a0)] [] D Q := by
  refine x_aload_n rfl rfl ?_
  refine x_gR lf_Odds_14 k0 rfl rfl ?_
  refine x_iconst (v := (0 : Int32)) rfl rfl ?_
  refine x_vi lm_Odds_79 vf_Row_get (ck_11_0 k0) rfl rfl (Nat.le_of_ble_eq_true rfl) rfl h (fun r2 D1 h => ?_)
  refine x_bipush (v := (25 : Int32)) rfl rfl ?_
  refine x_imul rfl ?_
  refine x_aload_n rfl rfl ?_
  refine x_gR lf_Odds_14 k0 rfl rfl ?_
  refine x_iconst (v := (1 : Int32)) rfl rfl ?_
  refine x_vi lm_Odds_79 vf_Row_get (ck_11_0 k0) rfl rfl (Nat.le_of_ble_eq_true rfl) rfl h (fun r4 D3 h => ?_)
  refine x_iconst (v := (5 : Int32)) rfl rfl ?_
  refine x_imul rfl ?_
  refine x_iadd rfl ?_
  refine x_aload_n rfl rfl ?_
  refine x_gR lf_Odds_14 k0 rfl rfl ?_
  refine x_iconst (v := (2 : Int32)) rfl rfl ?_
  refine x_vi lm_Odds_79 vf_Row_get (ck_11_0 k0) rfl rfl (Nat.le_of_ble_eq_true rfl) rfl h (fun r6 D5 h => ?_)
  refine x_iadd rfl ?_
  refine x_istore_n (i := 1) (L1 := [(1, .int (((r2 * (25 : Int32)) + (r4 * (5 : Int32))) + r6)), (0, .ref a0)]) rfl rfl (Nat.le_of_ble_eq_true rfl) rfl ?_
  refine x_aload_n rfl rfl ?_
  refine x_gR lf_Odds_23 k0 rfl rfl ?_
  refine x_iconst (v := (0 : Int32)) rfl rfl ?_
  refine x_vi lm_Odds_79 vf_Row_get (ck_11_2 k0) rfl rfl (Nat.le_of_ble_eq_true rfl) rfl h (fun r8 D7 h => ?_)
  refine x_bipush (v := (125 : Int32)) rfl rfl ?_
  refine x_imul rfl ?_
  refine x_aload_n rfl rfl ?_
  refine x_gR lf_Odds_23 k0 rfl rfl ?_
  refine x_iconst (v := (1 : Int32)) rfl rfl ?_
  refine x_vi lm_Odds_79 vf_Row_get (ck_11_2 k0) rfl rfl (Nat.le_of_ble_eq_true rfl) rfl h (fun r10 D9 h => ?_)
  refine x_bipush (v := (25 : Int32)) rfl rfl ?_
  refine x_imul rfl ?_
  refine x_iadd rfl ?_
  refine x_aload_n rfl rfl ?_
  refine x_gR lf_Odds_23 k0 rfl rfl ?_
  refine x_iconst (v := (2 : Int32)) rfl rfl ?_
  refine x_vi lm_Odds_79 vf_Row_get (ck_11_2 k0) rfl rfl (Nat.le_of_ble_eq_true rfl) rfl h (fun r12 D11 h => ?_)
  refine x_iconst (v := (5 : Int32)) rfl rfl ?_
  refine x_imul rfl ?_
  refine x_iadd rfl ?_
  refine x_aload_n rfl rfl ?_
  refine x_gR lf_Odds_23 k0 rfl rfl ?_
  refine x_iconst (v := (3 : Int32)) rfl rfl ?_
  refine x_vi lm_Odds_79 vf_Row_get (ck_11_2 k0) rfl rfl (Nat.le_of_ble_eq_true rfl) rfl h (fun r14 D13 h => ?_)
  refine x_iadd rfl ?_
  refine x_istore_n (i := 2) (L1 := [(2, .int ((((r8 * (125 : Int32)) + (r10 * (25 : Int32))) + (r12 * (5 : Int32))) + r14)), (1, .int (((r2 * (25 : Int32)) + (r4 * (5 : Int32))) + r6)), (0, .ref a0)]) rfl rfl (Nat.le_of_ble_eq_true rfl) rfl ?_
  refine x_aload_n rfl rfl ?_
  refine x_gR lf_Odds_26 k0 rfl rfl ?_
  refine x_iload_n rfl rfl ?_
  refine x_vi lm_Odds_79 vf_Row_get (ck_11_3 k0) rfl rfl (Nat.le_of_ble_eq_true rfl) rfl h (fun r16 D15 h => ?_)
  refine x_sipush (v := (210 : Int32)) rfl rfl ?_
  refine x_imul rfl ?_
  refine x_aload_n rfl rfl ?_
  refine x_gR lf_Odds_29 k0 rfl rfl ?_
  refine x_iload_n rfl rfl ?_
  refine x_vi lm_Odds_79 vf_Row_get (ck_11_4 k0) rfl rfl (Nat.le_of_ble_eq_true rfl) rfl h (fun r18 D17 h => ?_)
  refine x_iadd rfl ?_
  exact x_iret rfl rfl h
theorem s_Odds_bestHandedOn_0 {d : Nat} {D : xD} {Q : Option Value → xD → Prop} {a0 : Nat} {x1 : Int32} {x2 : Int32} (k0 : xk a0 = 11) (h : xCi d m_Row_get [.ref (a0 + 3), .int x2] D (fun r2 D1 => (r2 = 0 → Q (some (.int (-1 : Int32))) D1) ∧ (¬ r2 = 0 → xCi d m_Odds_hasAlike [.ref a0] D1 (fun r4 D3 => (r4 = 0 → xCv d m_Odds_forget [.ref a0] D3 (fun D5 => xCv d m_Odds_draw [.ref a0, .int x2, .int (1 : Int32)] D5 (fun D6 => xPf (d + 1) m_Odds_bestHandedOn 38 [(0, .ref a0), (1, .int x1), (2, .int x2), (3, .int (-1 : Int32)), (4, .int (0 : Int32)), (5, .int (0 : Int32))] [] D6 Q))) ∧ (¬ r4 = 0 → Q (some (.int (-1 : Int32))) D3))))) : xPf (d + 1) m_Odds_bestHandedOn 0 [(0, .ref a0), (1, .int x1), (2, .int x2)] [] D Q := by
  refine x_aload_n rfl rfl ?_
  refine x_gR lf_Odds_20 k0 rfl rfl ?_
  refine x_iload_n rfl rfl ?_
  refine x_vi lm_Odds_79 vf_Row_get (ck_11_1 k0) rfl rfl (Nat.le_of_ble_eq_true rfl) rfl h (fun r2 D1 h => ?_)
  refine x_if_eq (tgt := 18) rfl rfl (fun c => ?_) (fun c => ?_)
  · have h := h.1 c
    refine x_iconst (v := (-1 : Int32)) rfl rfl ?_
    exact x_iret rfl rfl h
  · have h := h.2 c
    refine x_aload_n rfl rfl ?_
    refine x_vi lm_Odds_109 vf_Odds_hasAlike k0 rfl rfl (Nat.le_of_ble_eq_true rfl) rfl h (fun r4 D3 h => ?_)
    refine x_if_eq (tgt := 20) rfl rfl (fun c => ?_) (fun c => ?_)
    · have h := h.1 c
      refine x_aload_n rfl rfl ?_
      refine x_vv lm_Odds_95 vf_Odds_forget k0 rfl rfl (Nat.le_of_ble_eq_true rfl) rfl h (fun D5 h => ?_)
      refine x_aload_n rfl rfl ?_
      refine x_iload_n rfl rfl ?_
      refine x_iconst (v := (1 : Int32)) rfl rfl ?_
      refine x_vv lm_Odds_116 vf_Odds_draw k0 rfl rfl (Nat.le_of_ble_eq_true rfl) rfl h (fun D6 h => ?_)
      refine x_iconst (v := (-1 : Int32)) rfl rfl ?_
      refine x_istore_n (i := 3) (L1 := [(3, .int (-1 : Int32)), (0, .ref a0), (1, .int x1), (2, .int x2)]) rfl rfl (Nat.le_of_ble_eq_true rfl) rfl ?_
      refine x_iconst (v := (0 : Int32)) rfl rfl ?_
      refine x_istore (i := 4) (L1 := [(4, .int (0 : Int32)), (3, .int (-1 : Int32)), (0, .ref a0), (1, .int x1), (2, .int x2)]) rfl (Nat.le_of_ble_eq_true rfl) rfl ?_
      refine x_iconst (v := (0 : Int32)) rfl rfl ?_
      refine x_istore (i := 5) (L1 := [(5, .int (0 : Int32)), (4, .int (0 : Int32)), (3, .int (-1 : Int32)), (0, .ref a0), (1, .int x1), (2, .int x2)]) rfl (Nat.le_of_ble_eq_true rfl) rfl ?_
      exact xP_sub [3, 4, 5, 2, 1, 0] rfl h
    · have h := h.2 c
      refine x_iconst (v := (-1 : Int32)) rfl rfl ?_
      exact x_iret rfl rfl h
theorem s_Odds_bestHandedOn_38 {d : Nat} {D : xD} {Q : Option Value → xD → Prop} {a0 : Nat} {x1 : Int32} {x2 : Int32} {x3 : Int32} {x4 : Int32} {x5 : Int32} (k0 : xk a0 = 11) (h : ((4 : Int32) ≤ x5 → Q (some (.int x3)) D) ∧ (¬ (4 : Int32) ≤ x5 → xCi d m_Row_get [.ref (a0 + 1), .int x5] D (fun r2 D1 => (r2 ≤ 0 → xPf (d + 1) m_Odds_bestHandedOn 38 [(0, .ref a0), (1, .int x1), (2, .int x2), (3, .int x3), (4, .int x4), (5, .int (x5 + (1 : Int32)))] [] D1 Q) ∧ (¬ r2 ≤ 0 → xCi d m_Odds_ordersWithout [.ref a0, .int x5, .int (x1 - (1 : Int32))] D1 (fun r4 D3 => (x3 = (-1 : Int32) → xPf (d + 1) m_Odds_bestHandedOn 38 [(0, .ref a0), (1, .int x1), (2, .int x2), (3, .int x5), (4, .int r4), (5, .int (x5 + (1 : Int32)))] [] D3 Q) ∧ (¬ x3 = (-1 : Int32) → (r4 ≤ x4 → xPf (d + 1) m_Odds_bestHandedOn 38 [(0, .ref a0), (1, .int x1), (2, .int x2), (3, .int x3), (4, .int x4), (5, .int (x5 + (1 : Int32)))] [] D3 Q) ∧ (¬ r4 ≤ x4 → xPf (d + 1) m_Odds_bestHandedOn 38 [(0, .ref a0), (1, .int x1), (2, .int x2), (3, .int x5), (4, .int r4), (5, .int (x5 + (1 : Int32)))] [] D3 Q))))))) : xPf (d + 1) m_Odds_bestHandedOn 38 [(0, .ref a0), (1, .int x1), (2, .int x2), (3, .int x3), (4, .int x4), (5, .int x5)] [] D Q := by
  refine x_iload rfl rfl ?_
  refine x_iconst (v := (4 : Int32)) rfl rfl ?_
  refine x_icmp_ge (tgt := 92) rfl rfl (fun c => ?_) (fun c => ?_)
  · have h := h.1 c
    refine x_iload_n rfl rfl ?_
    exact x_iret rfl rfl h
  · have h := h.2 c
    refine x_aload_n rfl rfl ?_
    refine x_gR lf_Odds_14 k0 rfl rfl ?_
    refine x_iload rfl rfl ?_
    refine x_vi lm_Odds_79 vf_Row_get (ck_11_0 k0) rfl rfl (Nat.le_of_ble_eq_true rfl) rfl h (fun r2 D1 h => ?_)
    refine x_if_le (tgt := 86) rfl rfl (fun c => ?_) (fun c => ?_)
    · have h := h.1 c
      refine x_iinc (i := 5) (v := x5 + (1 : Int32)) (L1 := [(5, .int (x5 + (1 : Int32))), (0, .ref a0), (1, .int x1), (2, .int x2), (3, .int x3), (4, .int x4)]) rfl rfl rfl (Nat.le_of_ble_eq_true rfl) rfl ?_
      refine x_goto (tgt := 38) rfl rfl ?_
      exact xP_sub [1, 2, 3, 4, 5, 0] rfl h
    · have h := h.2 c
      refine x_aload_n rfl rfl ?_
      refine x_iload rfl rfl ?_
      refine x_iload_n rfl rfl ?_
      refine x_iconst (v := (1 : Int32)) rfl rfl ?_
      refine x_isub rfl ?_
      refine x_vi lm_Odds_122 vf_Odds_ordersWithout k0 rfl rfl (Nat.le_of_ble_eq_true rfl) rfl h (fun r4 D3 h => ?_)
      refine x_istore (i := 6) (L1 := [(6, .int r4), (0, .ref a0), (1, .int x1), (2, .int x2), (3, .int x3), (4, .int x4), (5, .int x5)]) rfl (Nat.le_of_ble_eq_true rfl) rfl ?_
      refine x_iload_n rfl rfl ?_
      refine x_iconst (v := (-1 : Int32)) rfl rfl ?_
      refine x_icmp_eq (tgt := 79) rfl rfl (fun c => ?_) (fun c => ?_)
      · have h := h.1 c
        refine x_iload rfl rfl ?_
        refine x_istore_n (i := 3) (L1 := [(3, .int x5), (6, .int r4), (0, .ref a0), (1, .int x1), (2, .int x2), (4, .int x4), (5, .int x5)]) rfl rfl (Nat.le_of_ble_eq_true rfl) rfl ?_
        refine x_iload rfl rfl ?_
        refine x_istore (i := 4) (L1 := [(4, .int r4), (3, .int x5), (6, .int r4), (0, .ref a0), (1, .int x1), (2, .int x2), (5, .int x5)]) rfl (Nat.le_of_ble_eq_true rfl) rfl ?_
        refine x_iinc (i := 5) (v := x5 + (1 : Int32)) (L1 := [(5, .int (x5 + (1 : Int32))), (4, .int r4), (3, .int x5), (6, .int r4), (0, .ref a0), (1, .int x1), (2, .int x2)]) rfl rfl rfl (Nat.le_of_ble_eq_true rfl) rfl ?_
        refine x_goto (tgt := 38) rfl rfl ?_
        exact xP_sub [4, 5, 6, 2, 1, 0] rfl h
      · have h := h.2 c
        refine x_iload rfl rfl ?_
        refine x_iload rfl rfl ?_
        refine x_icmp_le (tgt := 86) rfl rfl (fun c => ?_) (fun c => ?_)
        · have h := h.1 c
          refine x_iinc (i := 5) (v := x5 + (1 : Int32)) (L1 := [(5, .int (x5 + (1 : Int32))), (6, .int r4), (0, .ref a0), (1, .int x1), (2, .int x2), (3, .int x3), (4, .int x4)]) rfl rfl rfl (Nat.le_of_ble_eq_true rfl) rfl ?_
          refine x_goto (tgt := 38) rfl rfl ?_
          exact xP_sub [2, 3, 4, 5, 6, 0] rfl h
        · have h := h.2 c
          refine x_iload rfl rfl ?_
          refine x_istore_n (i := 3) (L1 := [(3, .int x5), (6, .int r4), (0, .ref a0), (1, .int x1), (2, .int x2), (4, .int x4), (5, .int x5)]) rfl rfl (Nat.le_of_ble_eq_true rfl) rfl ?_
          refine x_iload rfl rfl ?_
          refine x_istore (i := 4) (L1 := [(4, .int r4), (3, .int x5), (6, .int r4), (0, .ref a0), (1, .int x1), (2, .int x2), (5, .int x5)]) rfl (Nat.le_of_ble_eq_true rfl) rfl ?_
          refine x_iinc (i := 5) (v := x5 + (1 : Int32)) (L1 := [(5, .int (x5 + (1 : Int32))), (4, .int r4), (3, .int x5), (6, .int r4), (0, .ref a0), (1, .int x1), (2, .int x2)]) rfl rfl rfl (Nat.le_of_ble_eq_true rfl) rfl ?_
          refine x_goto (tgt := 38) rfl rfl ?_
          exact xP_sub [4, 5, 6, 2, 1, 0] rfl h
theorem s_Odds_likelyAlone_0 {d : Nat} {D : xD} {Q : Option Value → xD → Prop} {a0 : Nat} {x1 : Int32} {x2 : Int32} {x3 : Int32} (k0 : xk a0 = 11) (h : xCi d m_Row_get [.ref (a0 + 1), .int x1] D (fun r2 D1 => xCl d m_Odds_choicesWith [.ref a0, .int x1, .int x2, .int ((D.1 a0 7) - r2)] D1 (fun r4 D3 => xCl d m_Odds_choices [.int (D3.1 a0 8), .int x2] D3 (fun r6 D5 => xCl d m_S_leastTerms [.long r4, .long r6, .int x3] D5 (fun r8 D7 => Q (some (.long r8)) D7))))) : xPf (d + 1) m_Odds_likelyAlone 0 [(0, .ref a0), (1, .int x1), (2, .int x2), (3, .int x3)] [] D Q := by
  refine x_aload_n rfl rfl ?_
  refine x_iload_n rfl rfl ?_
  refine x_iload_n rfl rfl ?_
  refine x_aload_n rfl rfl ?_
  refine x_gI lf_Odds_54 k0 rfl rfl ?_
  refine x_aload_n rfl rfl ?_
  refine x_gR lf_Odds_14 k0 rfl rfl ?_
  refine x_iload_n rfl rfl ?_
  refine x_vi lm_Odds_79 vf_Row_get (ck_11_0 k0) rfl rfl (Nat.le_of_ble_eq_true rfl) rfl h (fun r2 D1 h => ?_)
  refine x_isub rfl ?_
  refine x_vl lm_Odds_131 vf_Odds_choicesWith k0 rfl rfl (Nat.le_of_ble_eq_true rfl) rfl h (fun r4 D3 h => ?_)
  refine x_lstore (i := 4) (L1 := [(4, .long r4), (0, .ref a0), (1, .int x1), (2, .int x2), (3, .int x3)]) rfl (Nat.le_of_ble_eq_true rfl) rfl ?_
  refine x_lload rfl rfl ?_
  refine x_aload_n rfl rfl ?_
  refine x_gI lf_Odds_59 k0 rfl rfl ?_
  refine x_iload_n rfl rfl ?_
  refine x_sl lm_Odds_135 sf_Odds_choices rfl rfl (Nat.le_of_ble_eq_true rfl) rfl h (fun r6 D5 h => ?_)
  refine x_iload_n rfl rfl ?_
  refine x_sl lm_Odds_105 sf_S_leastTerms rfl rfl (Nat.le_of_ble_eq_true rfl) rfl h (fun r8 D7 h => ?_)
  exact x_lret rfl rfl h
theorem s_Odds_likelyKept_0 {d : Nat} {D : xD} {Q : Option Value → xD → Prop} {a0 : Nat} {x1 : Int32} {x2 : Int32} {x3 : Int32} (k0 : xk a0 = 11) (h : xCl d m_Odds_choicesWith [.ref a0, .int x1, .int (D.1 a0 7), .int x2] D (fun r2 D1 => xCl d m_Odds_choices [.int (D1.1 a0 8), .int (D1.1 a0 7)] D1 (fun r4 D3 => xCl d m_S_leastTerms [.long r2, .long r4, .int x3] D3 (fun r6 D5 => Q (some (.long r6)) D5)))) : xPf (d + 1) m_Odds_likelyKept 0 [(0, .ref a0), (1, .int x1), (2, .int x2), (3, .int x3)] [] D Q := by
  refine x_aload_n rfl rfl ?_
  refine x_iload_n rfl rfl ?_
  refine x_aload_n rfl rfl ?_
  refine x_gI lf_Odds_54 k0 rfl rfl ?_
  refine x_iload_n rfl rfl ?_
  refine x_vl lm_Odds_131 vf_Odds_choicesWith k0 rfl rfl (Nat.le_of_ble_eq_true rfl) rfl h (fun r2 D1 h => ?_)
  refine x_aload_n rfl rfl ?_
  refine x_gI lf_Odds_59 k0 rfl rfl ?_
  refine x_aload_n rfl rfl ?_
  refine x_gI lf_Odds_54 k0 rfl rfl ?_
  refine x_sl lm_Odds_135 sf_Odds_choices rfl rfl (Nat.le_of_ble_eq_true rfl) rfl h (fun r4 D3 h => ?_)
  refine x_iload_n rfl rfl ?_
  refine x_sl lm_Odds_105 sf_S_leastTerms rfl rfl (Nat.le_of_ble_eq_true rfl) rfl h (fun r6 D5 h => ?_)
  exact x_lret rfl rfl h
theorem s_Odds_choicesWith_0 {d : Nat} {D : xD} {Q : Option Value → xD → Prop} {a0 : Nat} {x1 : Int32} {x2 : Int32} {x3 : Int32} (k0 : xk a0 = 11) (h : xCi d m_Row_get [.ref (a0 + 3), .int x1] D (fun r2 D1 => ∀ r3 : Int32, r3 = (if (0 : Int32) < x3 then x3 else (0 : Int32)) → xPf (d + 1) m_Odds_choicesWith 20 [(0, .ref a0), (1, .int x1), (2, .int x2), (3, .int x3), (4, .int r2), (5, .long (0 : Int64)), (7, .int r3)] [] D1 Q)) : xPf (d + 1) m_Odds_choicesWith 0 [(0, .ref a0), (1, .int x1), (2, .int x2), (3, .int x3)] [] D Q := by
  refine x_aload_n rfl rfl ?_
  refine x_gR lf_Odds_20 k0 rfl rfl ?_
  refine x_iload_n rfl rfl ?_
  refine x_vi lm_Odds_79 vf_Row_get (ck_11_1 k0) rfl rfl (Nat.le_of_ble_eq_true rfl) rfl h (fun r2 D1 h => ?_)
  refine x_istore (i := 4) (L1 := [(4, .int r2), (0, .ref a0), (1, .int x1), (2, .int x2), (3, .int x3)]) rfl (Nat.le_of_ble_eq_true rfl) rfl ?_
  refine x_lconst (v := 0) rfl rfl ?_
  refine x_lstore (i := 5) (L1 := [(5, .long (0 : Int64)), (4, .int r2), (0, .ref a0), (1, .int x1), (2, .int x2), (3, .int x3)]) rfl (Nat.le_of_ble_eq_true rfl) rfl ?_
  refine x_iconst (v := (0 : Int32)) rfl rfl ?_
  refine x_iload_n rfl rfl ?_
  refine x_mxn wd_1288 (Nat.le_of_ble_eq_true rfl) rfl (fun r3 er3 => ?_)
  have h := h r3 er3
  refine x_istore (i := 7) (L1 := [(7, .int r3), (5, .long (0 : Int64)), (4, .int r2), (0, .ref a0), (1, .int x1), (2, .int x2), (3, .int x3)]) rfl (Nat.le_of_ble_eq_true rfl) rfl ?_
  exact xP_sub [3, 4, 5, 6, 2, 1, 0] rfl h
theorem s_Odds_choicesWith_20 {d : Nat} {D : xD} {Q : Option Value → xD → Prop} {a0 : Nat} {x1 : Int32} {x2 : Int32} {x3 : Int32} {x4 : Int32} {x5 : Int64} {x7 : Int32} (k0 : xk a0 = 11) (h : (x2 < x7 → Q (some (.long x5)) D) ∧ (¬ x2 < x7 → xCl d m_Odds_choices [.int x4, .int x7] D (fun r2 D1 => xCl d m_Odds_choices [.int ((D1.1 a0 8) - x4), .int (x2 - x7)] D1 (fun r4 D3 => xPf (d + 1) m_Odds_choicesWith 20 [(0, .ref a0), (1, .int x1), (2, .int x2), (3, .int x3), (4, .int x4), (5, .long (x5 + (r2 * r4))), (7, .int (x7 + (1 : Int32)))] [] D3 Q)))) : xPf (d + 1) m_Odds_choicesWith 20 [(0, .ref a0), (1, .int x1), (2, .int x2), (3, .int x3), (4, .int x4), (5, .long x5), (7, .int x7)] [] D Q := by
  refine x_iload rfl rfl ?_
  refine x_iload_n rfl rfl ?_
  refine x_icmp_gt (tgt := 59) rfl rfl (fun c => ?_) (fun c => ?_)
  · have h := h.1 c
    refine x_lload rfl rfl ?_
    exact x_lret rfl rfl h
  · have h := h.2 c
    refine x_lload rfl rfl ?_
    refine x_iload rfl rfl ?_
    refine x_iload rfl rfl ?_
    refine x_sl lm_Odds_135 sf_Odds_choices rfl rfl (Nat.le_of_ble_eq_true rfl) rfl h (fun r2 D1 h => ?_)
    refine x_aload_n rfl rfl ?_
    refine x_gI lf_Odds_59 k0 rfl rfl ?_
    refine x_iload rfl rfl ?_
    refine x_isub rfl ?_
    refine x_iload_n rfl rfl ?_
    refine x_iload rfl rfl ?_
    refine x_isub rfl ?_
    refine x_sl lm_Odds_135 sf_Odds_choices rfl rfl (Nat.le_of_ble_eq_true rfl) rfl h (fun r4 D3 h => ?_)
    refine x_lmul rfl ?_
    refine x_ladd rfl ?_
    refine x_lstore (i := 5) (L1 := [(5, .long (x5 + (r2 * r4))), (0, .ref a0), (1, .int x1), (2, .int x2), (3, .int x3), (4, .int x4), (7, .int x7)]) rfl (Nat.le_of_ble_eq_true rfl) rfl ?_
    refine x_iinc (i := 7) (v := x7 + (1 : Int32)) (L1 := [(7, .int (x7 + (1 : Int32))), (5, .long (x5 + (r2 * r4))), (0, .ref a0), (1, .int x1), (2, .int x2), (3, .int x3), (4, .int x4)]) rfl rfl rfl (Nat.le_of_ble_eq_true rfl) rfl ?_
    refine x_goto (tgt := 20) rfl rfl ?_
    exact xP_sub [2, 3, 4, 5, 6, 1, 0] rfl h
theorem s_Odds_choices_0 {d : Nat} {D : xD} {Q : Option Value → xD → Prop} {x0 : Int32} {x1 : Int32}  (h : (x1 < 0 → Q (some (.long (0 : Int64))) D) ∧ (¬ x1 < 0 → (x1 ≤ x0 → xPf (d + 1) m_Odds_choices 16 [(0, .int x0), (1, .int x1), (2, .long (1 : Int64)), (4, .int (1 : Int32))] [] D Q) ∧ (¬ x1 ≤ x0 → Q (some (.long (0 : Int64))) D))) : xPf (d + 1) m_Odds_choices 0 [(0, .int x0), (1, .int x1)] [] D Q := by
  refine x_iload_n rfl rfl ?_
  refine x_if_lt (tgt := 9) rfl rfl (fun c => ?_) (fun c => ?_)
  · have h := h.1 c
    refine x_lconst (v := 0) rfl rfl ?_
    exact x_lret rfl rfl h
  · have h := h.2 c
    refine x_iload_n rfl rfl ?_
    refine x_iload_n rfl rfl ?_
    refine x_icmp_le (tgt := 11) rfl rfl (fun c => ?_) (fun c => ?_)
    · have h := h.1 c
      refine x_lconst (v := 1) rfl rfl ?_
      refine x_lstore_n (i := 2) (L1 := [(2, .long (1 : Int64)), (0, .int x0), (1, .int x1)]) rfl rfl (Nat.le_of_ble_eq_true rfl) rfl ?_
      refine x_iconst (v := (1 : Int32)) rfl rfl ?_
      refine x_istore (i := 4) (L1 := [(4, .int (1 : Int32)), (2, .long (1 : Int64)), (0, .int x0), (1, .int x1)]) rfl (Nat.le_of_ble_eq_true rfl) rfl ?_
      exact xP_sub [2, 3, 1, 0] rfl h
    · have h := h.2 c
      refine x_lconst (v := 0) rfl rfl ?_
      exact x_lret rfl rfl h
theorem s_Odds_choices_16 {d : Nat} {D : xD} {Q : Option Value → xD → Prop} {x0 : Int32} {x1 : Int32} {x2 : Int64} {x4 : Int32}  (h : (x1 < x4 → Q (some (.long x2)) D) ∧ (¬ x1 < x4 → ¬ x4.toInt64 = 0 ∧ xPf (d + 1) m_Odds_choices 16 [(0, .int x0), (1, .int x1), (2, .long ((x2 * (((x0 - x1) + x4).toInt64)) / x4.toInt64)), (4, .int (x4 + (1 : Int32)))] [] D Q)) : xPf (d + 1) m_Odds_choices 16 [(0, .int x0), (1, .int x1), (2, .long x2), (4, .int x4)] [] D Q := by
  refine x_iload rfl rfl ?_
  refine x_iload_n rfl rfl ?_
  refine x_icmp_gt (tgt := 42) rfl rfl (fun c => ?_) (fun c => ?_)
  · have h := h.1 c
    refine x_lload_n rfl rfl ?_
    exact x_lret rfl rfl h
  · have h := h.2 c
    refine x_lload_n rfl rfl ?_
    refine x_iload_n rfl rfl ?_
    refine x_iload_n rfl rfl ?_
    refine x_isub rfl ?_
    refine x_iload rfl rfl ?_
    refine x_iadd rfl ?_
    refine x_i2l rfl ?_
    refine x_lmul rfl ?_
    refine x_iload rfl rfl ?_
    refine x_i2l rfl ?_
    refine x_ldiv rfl h.1 ?_
    have h := h.2
    refine x_lstore_n (i := 2) (L1 := [(2, .long ((x2 * (((x0 - x1) + x4).toInt64)) / x4.toInt64)), (0, .int x0), (1, .int x1), (4, .int x4)]) rfl rfl (Nat.le_of_ble_eq_true rfl) rfl ?_
    refine x_iinc (i := 4) (v := x4 + (1 : Int32)) (L1 := [(4, .int (x4 + (1 : Int32))), (2, .long ((x2 * (((x0 - x1) + x4).toInt64)) / x4.toInt64)), (0, .int x0), (1, .int x1)]) rfl rfl rfl (Nat.le_of_ble_eq_true rfl) rfl ?_
    refine x_goto (tgt := 16) rfl rfl ?_
    exact xP_sub [2, 3, 1, 0] rfl h
theorem s_Odds_soonestBy_0 {d : Nat} {D : xD} {Q : Option Value → xD → Prop} {a0 : Nat} {a1 : Nat} {x2 : Int32} (k0 : xk a0 = 11) (k1 : xk a1 = 2) (h : xPf (d + 1) m_Odds_soonestBy 2 [(0, .ref a0), (1, .ref a1), (2, .int x2), (3, .int (0 : Int32))] [] D Q) : xPf (d + 1) m_Odds_soonestBy 0 [(0, .ref a0), (1, .ref a1), (2, .int x2)] [] D Q := by
  refine x_iconst (v := (0 : Int32)) rfl rfl ?_
  refine x_istore_n (i := 3) (L1 := [(3, .int (0 : Int32)), (0, .ref a0), (1, .ref a1), (2, .int x2)]) rfl rfl (Nat.le_of_ble_eq_true rfl) rfl ?_
  exact xP_sub [1, 2, 3, 0] rfl h
theorem s_Odds_soonestBy_2 {d : Nat} {D : xD} {Q : Option Value → xD → Prop} {a0 : Nat} {a1 : Nat} {x2 : Int32} {x3 : Int32} (k0 : xk a0 = 11) (k1 : xk a1 = 2) (h : xCi d m_Row_size [.ref a1] D (fun r2 D1 => (r2 ≤ x3 → xPf (d + 1) m_Odds_soonestBy 32 [(0, .ref a0), (1, .ref a1), (2, .int x2), (3, .int (0 : Int32))] [] D1 Q) ∧ (¬ r2 ≤ x3 → xCi d m_Row_get [.ref a1, .int x3] D1 (fun r4 D3 => (r4 < (D3.1 a0 6) → xPf (d + 1) m_Odds_soonestBy 2 [(0, .ref a0), (1, .ref a1), (2, .int x2), (3, .int (x3 + (1 : Int32)))] [] D3 Q) ∧ (¬ r4 < (D3.1 a0 6) → Q (some (.int (-1 : Int32))) D3))))) : xPf (d + 1) m_Odds_soonestBy 2 [(0, .ref a0), (1, .ref a1), (2, .int x2), (3, .int x3)] [] D Q := by
  refine x_iload_n rfl rfl ?_
  refine x_aload_n rfl rfl ?_
  refine x_vi lm_Odds_76 vf_Row_size k1 rfl rfl (Nat.le_of_ble_eq_true rfl) rfl h (fun r2 D1 h => ?_)
  refine x_icmp_ge (tgt := 30) rfl rfl (fun c => ?_) (fun c => ?_)
  · have h := h.1 c
    refine x_iconst (v := (0 : Int32)) rfl rfl ?_
    refine x_istore_n (i := 3) (L1 := [(3, .int (0 : Int32)), (0, .ref a0), (1, .ref a1), (2, .int x2)]) rfl rfl (Nat.le_of_ble_eq_true rfl) rfl ?_
    exact xP_sub [1, 2, 3, 0] rfl h
  · have h := h.2 c
    refine x_aload_n rfl rfl ?_
    refine x_iload_n rfl rfl ?_
    refine x_vi lm_Odds_79 vf_Row_get k1 rfl rfl (Nat.le_of_ble_eq_true rfl) rfl h (fun r4 D3 h => ?_)
    refine x_aload_n rfl rfl ?_
    refine x_gI lf_Odds_48 k0 rfl rfl ?_
    refine x_icmp_lt (tgt := 24) rfl rfl (fun c => ?_) (fun c => ?_)
    · have h := h.1 c
      refine x_iinc (i := 3) (v := x3 + (1 : Int32)) (L1 := [(3, .int (x3 + (1 : Int32))), (0, .ref a0), (1, .ref a1), (2, .int x2)]) rfl rfl rfl (Nat.le_of_ble_eq_true rfl) rfl ?_
      refine x_goto (tgt := 2) rfl rfl ?_
      exact xP_sub [1, 2, 3, 0] rfl h
    · have h := h.2 c
      refine x_iconst (v := (-1 : Int32)) rfl rfl ?_
      exact x_iret rfl rfl h
theorem s_Odds_soonestBy_32 {d : Nat} {D : xD} {Q : Option Value → xD → Prop} {a0 : Nat} {a1 : Nat} {x2 : Int32} {x3 : Int32} (k0 : xk a0 = 11) (k1 : xk a1 = 2) (h : ((D.1 a0 6) ≤ x3 → xPf (d + 1) m_Odds_soonestBy 73 [(0, .ref a0), (1, .ref a1), (2, .int x2), (3, .int (0 : Int32))] [] D Q) ∧ (¬ (D.1 a0 6) ≤ x3 → xCi d m_Row_get [.ref (a0 + 1), .int x3] D (fun r2 D1 => (r2 < (D1.1 a0 7) → xPf (d + 1) m_Odds_soonestBy 32 [(0, .ref a0), (1, .ref a1), (2, .int x2), (3, .int (x3 + (1 : Int32)))] [] D1 Q) ∧ (¬ r2 < (D1.1 a0 7) → (x2 = 0 → Q (some (.int (0 : Int32))) D1) ∧ (¬ x2 = 0 → Q (some (.int x3)) D1))))) : xPf (d + 1) m_Odds_soonestBy 32 [(0, .ref a0), (1, .ref a1), (2, .int x2), (3, .int x3)] [] D Q := by
  refine x_iload_n rfl rfl ?_
  refine x_aload_n rfl rfl ?_
  refine x_gI lf_Odds_48 k0 rfl rfl ?_
  refine x_icmp_ge (tgt := 71) rfl rfl (fun c => ?_) (fun c => ?_)
  · have h := h.1 c
    refine x_iconst (v := (0 : Int32)) rfl rfl ?_
    refine x_istore_n (i := 3) (L1 := [(3, .int (0 : Int32)), (0, .ref a0), (1, .ref a1), (2, .int x2)]) rfl rfl (Nat.le_of_ble_eq_true rfl) rfl ?_
    exact xP_sub [1, 2, 3, 0] rfl h
  · have h := h.2 c
    refine x_aload_n rfl rfl ?_
    refine x_gR lf_Odds_14 k0 rfl rfl ?_
    refine x_iload_n rfl rfl ?_
    refine x_vi lm_Odds_79 vf_Row_get (ck_11_0 k0) rfl rfl (Nat.le_of_ble_eq_true rfl) rfl h (fun r2 D1 h => ?_)
    refine x_aload_n rfl rfl ?_
    refine x_gI lf_Odds_54 k0 rfl rfl ?_
    refine x_icmp_lt (tgt := 65) rfl rfl (fun c => ?_) (fun c => ?_)
    · have h := h.1 c
      refine x_iinc (i := 3) (v := x3 + (1 : Int32)) (L1 := [(3, .int (x3 + (1 : Int32))), (0, .ref a0), (1, .ref a1), (2, .int x2)]) rfl rfl rfl (Nat.le_of_ble_eq_true rfl) rfl ?_
      refine x_goto (tgt := 32) rfl rfl ?_
      exact xP_sub [1, 2, 3, 0] rfl h
    · have h := h.2 c
      refine x_iload_n rfl rfl ?_
      refine x_if_eq (tgt := 63) rfl rfl (fun c => ?_) (fun c => ?_)
      · have h := h.1 c
        refine x_iconst (v := (0 : Int32)) rfl rfl ?_
        exact x_iret rfl rfl h
      · have h := h.2 c
        refine x_iload_n rfl rfl ?_
        refine x_goto (tgt := 64) rfl rfl ?_
        exact x_iret rfl rfl h
theorem s_Odds_soonestBy_73 {d : Nat} {D : xD} {Q : Option Value → xD → Prop} {a0 : Nat} {a1 : Nat} {x2 : Int32} {x3 : Int32} (k0 : xk a0 = 11) (k1 : xk a1 = 2) (h : xCi d m_Row_size [.ref a1] D (fun r2 D1 => (r2 ≤ x3 → Q (some (.int (-1 : Int32))) D1) ∧ (¬ r2 ≤ x3 → xCi d m_Row_get [.ref a1, .int x3] D1 (fun r4 D3 => xCv d m_Row_add [.ref (a0 + 1), .int r4, .int (1 : Int32)] D3 (fun D5 => xCi d m_Row_get [.ref (a0 + 1), .int r4] D5 (fun r7 D6 => (r7 < (D6.1 a0 7) → xPf (d + 1) m_Odds_soonestBy 73 [(0, .ref a0), (1, .ref a1), (2, .int x2), (3, .int (x3 + (1 : Int32)))] [] D6 Q) ∧ (¬ r7 < (D6.1 a0 7) → (x2 = 0 → Q (some (.int (x3 + (1 : Int32)))) D6) ∧ (¬ x2 = 0 → Q (some (.int r4)) D6)))))))) : xPf (d + 1) m_Odds_soonestBy 73 [(0, .ref a0), (1, .ref a1), (2, .int x2), (3, .int x3)] [] D Q := by
  refine x_iload_n rfl rfl ?_
  refine x_aload_n rfl rfl ?_
  refine x_vi lm_Odds_76 vf_Row_size k1 rfl rfl (Nat.le_of_ble_eq_true rfl) rfl h (fun r2 D1 h => ?_)
  refine x_icmp_ge (tgt := 133) rfl rfl (fun c => ?_) (fun c => ?_)
  · have h := h.1 c
    refine x_iconst (v := (-1 : Int32)) rfl rfl ?_
    exact x_iret rfl rfl h
  · have h := h.2 c
    refine x_aload_n rfl rfl ?_
    refine x_iload_n rfl rfl ?_
    refine x_vi lm_Odds_79 vf_Row_get k1 rfl rfl (Nat.le_of_ble_eq_true rfl) rfl h (fun r4 D3 h => ?_)
    refine x_istore (i := 4) (L1 := [(4, .int r4), (0, .ref a0), (1, .ref a1), (2, .int x2), (3, .int x3)]) rfl (Nat.le_of_ble_eq_true rfl) rfl ?_
    refine x_aload_n rfl rfl ?_
    refine x_gR lf_Odds_14 k0 rfl rfl ?_
    refine x_iload rfl rfl ?_
    refine x_iconst (v := (1 : Int32)) rfl rfl ?_
    refine x_vv lm_Odds_86 vf_Row_add (ck_11_0 k0) rfl rfl (Nat.le_of_ble_eq_true rfl) rfl h (fun D5 h => ?_)
    refine x_aload_n rfl rfl ?_
    refine x_gR lf_Odds_14 k0 rfl rfl ?_
    refine x_iload rfl rfl ?_
    refine x_vi lm_Odds_79 vf_Row_get (ck_11_0 k0) rfl rfl (Nat.le_of_ble_eq_true rfl) rfl h (fun r7 D6 h => ?_)
    refine x_aload_n rfl rfl ?_
    refine x_gI lf_Odds_54 k0 rfl rfl ?_
    refine x_icmp_lt (tgt := 127) rfl rfl (fun c => ?_) (fun c => ?_)
    · have h := h.1 c
      refine x_iinc (i := 3) (v := x3 + (1 : Int32)) (L1 := [(3, .int (x3 + (1 : Int32))), (4, .int r4), (0, .ref a0), (1, .ref a1), (2, .int x2)]) rfl rfl rfl (Nat.le_of_ble_eq_true rfl) rfl ?_
      refine x_goto (tgt := 73) rfl rfl ?_
      exact xP_sub [2, 3, 4, 0] rfl h
    · have h := h.2 c
      refine x_iload_n rfl rfl ?_
      refine x_if_eq (tgt := 123) rfl rfl (fun c => ?_) (fun c => ?_)
      · have h := h.1 c
        refine x_iload_n rfl rfl ?_
        refine x_iconst (v := (1 : Int32)) rfl rfl ?_
        refine x_iadd rfl ?_
        exact x_iret rfl rfl h
      · have h := h.2 c
        refine x_iload rfl rfl ?_
        refine x_goto (tgt := 126) rfl rfl ?_
        exact x_iret rfl rfl h
