theorem s_Deal_start_0 {d : Nat} {D : xD} {Q : Option Value → xD → Prop} {a0 : Nat} {a1 : Nat} {a2 : Nat} (k0 : xk a0 = 8) (k1 : xk a1 = 4) (k2 : xk a2 = 2) (h : xCi d m_Table_people [.ref a1] D (fun r2 D1 => ∀ D3 : xD, D3 = (xu D1.1 a0 5 r2, D1.2) → xCi d m_Table_alike [.ref a1] D3 (fun r5 D4 => ∀ D6 : xD, D6 = (xu D4.1 a0 6 r5, D4.2) → xCi d m_Table_kinds [.ref a1] D6 (fun r8 D7 => ∀ D9 : xD, D9 = (xu D7.1 a0 7 r8, D7.2) → ∀ D10 : xD, D10 = (xu D9.1 a0 8 (0 : Int32), D9.2) → ∀ D11 : xD, D11 = (xu D10.1 a0 9 (D10.1 a0 5), D10.2) → xCv d m_Row_fill [.ref (a0 + 1), .int (78 : Int32), .int (0 : Int32)] D11 (fun D12 => xCv d m_Row_fill [.ref (a0 + 3), .int (D12.1 a0 5), .int (D12.1 a0 6)] D12 (fun D13 => xCv d m_Row_fill [.ref (a0 + 7), .int (7 : Int32), .int (0 : Int32)] D13 (fun D14 => xCv d m_Row_fill [.ref (a0 + 9), .int (7 : Int32), .int (0 : Int32)] D14 (fun D15 => xPf (d + 1) m_Deal_start 87 [(0, .ref a0), (1, .ref a1), (2, .ref a2), (3, .int (0 : Int32)), (4, .int (0 : Int32))] [] D15 Q)))))))) : xPf (d + 1) m_Deal_start 0 [(0, .ref a0), (1, .ref a1), (2, .ref a2)] [] D Q := by
  refine x_aload_n rfl rfl ?_
  refine x_aload_n rfl rfl ?_
  refine x_vi lm_Deal_36 vf_Table_people k1 rfl rfl (Nat.le_of_ble_eq_true rfl) rfl h (fun r2 D1 h => ?_)
  refine x_pIn lp_Deal_42 nf_8_5 k0 rfl rfl (fun D3 eD3 => ?_)
  have h := h D3 eD3
  refine x_aload_n rfl rfl ?_
  refine x_aload_n rfl rfl ?_
  refine x_vi lm_Deal_45 vf_Table_alike k1 rfl rfl (Nat.le_of_ble_eq_true rfl) rfl h (fun r5 D4 h => ?_)
  refine x_pIn lp_Deal_48 nf_8_6 k0 rfl rfl (fun D6 eD6 => ?_)
  have h := h D6 eD6
  refine x_aload_n rfl rfl ?_
  refine x_aload_n rfl rfl ?_
  refine x_vi lm_Deal_50 vf_Table_kinds k1 rfl rfl (Nat.le_of_ble_eq_true rfl) rfl h (fun r8 D7 h => ?_)
  refine x_pIn lp_Deal_53 nf_8_7 k0 rfl rfl (fun D9 eD9 => ?_)
  have h := h D9 eD9
  refine x_aload_n rfl rfl ?_
  refine x_iconst (v := (0 : Int32)) rfl rfl ?_
  refine x_pIn lp_Deal_55 nf_8_8 k0 rfl rfl (fun D10 eD10 => ?_)
  have h := h D10 eD10
  refine x_aload_n rfl rfl ?_
  refine x_aload_n rfl rfl ?_
  refine x_gI lf_Deal_42 k0 rfl rfl ?_
  refine x_pIn lp_Deal_58 nf_8_9 k0 rfl rfl (fun D11 eD11 => ?_)
  have h := h D11 eD11
  refine x_aload_n rfl rfl ?_
  refine x_gR lf_Deal_14 k0 rfl rfl ?_
  refine x_bipush (v := (78 : Int32)) rfl rfl ?_
  refine x_iconst (v := (0 : Int32)) rfl rfl ?_
  refine x_vv lm_Deal_32 vf_Row_fill (ck_8_0 k0) rfl rfl (Nat.le_of_ble_eq_true rfl) rfl h (fun D12 h => ?_)
  refine x_aload_n rfl rfl ?_
  refine x_gR lf_Deal_20 k0 rfl rfl ?_
  refine x_aload_n rfl rfl ?_
  refine x_gI lf_Deal_42 k0 rfl rfl ?_
  refine x_aload_n rfl rfl ?_
  refine x_gI lf_Deal_48 k0 rfl rfl ?_
  refine x_vv lm_Deal_32 vf_Row_fill (ck_8_1 k0) rfl rfl (Nat.le_of_ble_eq_true rfl) rfl h (fun D13 h => ?_)
  refine x_aload_n rfl rfl ?_
  refine x_gR lf_Deal_26 k0 rfl rfl ?_
  refine x_bipush (v := (7 : Int32)) rfl rfl ?_
  refine x_iconst (v := (0 : Int32)) rfl rfl ?_
  refine x_vv lm_Deal_32 vf_Row_fill (ck_8_3 k0) rfl rfl (Nat.le_of_ble_eq_true rfl) rfl h (fun D14 h => ?_)
  refine x_aload_n rfl rfl ?_
  refine x_gR lf_Deal_29 k0 rfl rfl ?_
  refine x_bipush (v := (7 : Int32)) rfl rfl ?_
  refine x_iconst (v := (0 : Int32)) rfl rfl ?_
  refine x_vv lm_Deal_32 vf_Row_fill (ck_8_4 k0) rfl rfl (Nat.le_of_ble_eq_true rfl) rfl h (fun D15 h => ?_)
  refine x_iconst (v := (0 : Int32)) rfl rfl ?_
  refine x_istore_n (i := 3) (L1 := [(3, .int (0 : Int32)), (0, .ref a0), (1, .ref a1), (2, .ref a2)]) rfl rfl (Nat.le_of_ble_eq_true rfl) rfl ?_
  refine x_iconst (v := (0 : Int32)) rfl rfl ?_
  refine x_istore (i := 4) (L1 := [(4, .int (0 : Int32)), (3, .int (0 : Int32)), (0, .ref a0), (1, .ref a1), (2, .ref a2)]) rfl (Nat.le_of_ble_eq_true rfl) rfl ?_
  exact xP_sub [2, 3, 4, 1, 0] rfl h
theorem s_Deal_start_87 {d : Nat} {D : xD} {Q : Option Value → xD → Prop} {a0 : Nat} {a1 : Nat} {a2 : Nat} {x3 : Int32} {x4 : Int32} (k0 : xk a0 = 8) (k1 : xk a1 = 4) (k2 : xk a2 = 2) (h : ((D.1 a0 5) ≤ x4 → xPf (d + 1) m_Deal_start 142 [(0, .ref a0), (1, .ref a1), (2, .ref a2), (3, .int x3), (4, .int x4)] [] D Q) ∧ (¬ (D.1 a0 5) ≤ x4 → xPf (d + 1) m_Deal_start 99 [(0, .ref a0), (1, .ref a1), (2, .ref a2), (3, .int x3), (4, .int x4), (5, .int (0 : Int32))] [] D Q)) : xPf (d + 1) m_Deal_start 87 [(0, .ref a0), (1, .ref a1), (2, .ref a2), (3, .int x3), (4, .int x4)] [] D Q := by
  refine x_iload rfl rfl ?_
  refine x_aload_n rfl rfl ?_
  refine x_gI lf_Deal_42 k0 rfl rfl ?_
  refine x_icmp_ge (tgt := 142) rfl rfl (fun c => ?_) (fun c => ?_)
  · have h := h.1 c
    exact h
  · have h := h.2 c
    refine x_iconst (v := (0 : Int32)) rfl rfl ?_
    refine x_istore (i := 5) (L1 := [(5, .int (0 : Int32)), (0, .ref a0), (1, .ref a1), (2, .ref a2), (3, .int x3), (4, .int x4)]) rfl (Nat.le_of_ble_eq_true rfl) rfl ?_
    exact xP_sub [1, 2, 3, 4, 5, 0] rfl h
theorem s_Deal_start_99 {d : Nat} {D : xD} {Q : Option Value → xD → Prop} {a0 : Nat} {a1 : Nat} {a2 : Nat} {x3 : Int32} {x4 : Int32} {x5 : Int32} (k0 : xk a0 = 8) (k1 : xk a1 = 4) (k2 : xk a2 = 2) (h : ((D.1 a0 6) ≤ x5 → xPf (d + 1) m_Deal_start 87 [(0, .ref a0), (1, .ref a1), (2, .ref a2), (3, .int x3), (4, .int (x4 + (1 : Int32)))] [] D Q) ∧ (¬ (D.1 a0 6) ≤ x5 → xCi d m_Row_get [.ref a2, .int x3] D (fun r2 D1 => xCv d m_Row_add [.ref (a0 + 1), .int ((x4 * (13 : Int32)) + r2), .int (1 : Int32)] D1 (fun D3 => xPf (d + 1) m_Deal_start 99 [(0, .ref a0), (1, .ref a1), (2, .ref a2), (3, .int (x3 + (1 : Int32))), (4, .int x4), (5, .int (x5 + (1 : Int32)))] [] D3 Q)))) : xPf (d + 1) m_Deal_start 99 [(0, .ref a0), (1, .ref a1), (2, .ref a2), (3, .int x3), (4, .int x4), (5, .int x5)] [] D Q := by
  refine x_iload rfl rfl ?_
  refine x_aload_n rfl rfl ?_
  refine x_gI lf_Deal_48 k0 rfl rfl ?_
  refine x_icmp_ge (tgt := 136) rfl rfl (fun c => ?_) (fun c => ?_)
  · have h := h.1 c
    refine x_iinc (i := 4) (v := x4 + (1 : Int32)) (L1 := [(4, .int (x4 + (1 : Int32))), (0, .ref a0), (1, .ref a1), (2, .ref a2), (3, .int x3), (5, .int x5)]) rfl rfl rfl (Nat.le_of_ble_eq_true rfl) rfl ?_
    refine x_goto (tgt := 87) rfl rfl ?_
    exact xP_sub [1, 2, 3, 4, 0] rfl h
  · have h := h.2 c
    refine x_aload_n rfl rfl ?_
    refine x_gR lf_Deal_14 k0 rfl rfl ?_
    refine x_iload rfl rfl ?_
    refine x_bipush (v := (13 : Int32)) rfl rfl ?_
    refine x_imul rfl ?_
    refine x_aload_n rfl rfl ?_
    refine x_iload_n rfl rfl ?_
    refine x_vi lm_Deal_61 vf_Row_get k2 rfl rfl (Nat.le_of_ble_eq_true rfl) rfl h (fun r2 D1 h => ?_)
    refine x_iadd rfl ?_
    refine x_iconst (v := (1 : Int32)) rfl rfl ?_
    refine x_vv lm_Deal_65 vf_Row_add (ck_8_0 k0) rfl rfl (Nat.le_of_ble_eq_true rfl) rfl h (fun D3 h => ?_)
    refine x_iinc (i := 3) (v := x3 + (1 : Int32)) (L1 := [(3, .int (x3 + (1 : Int32))), (0, .ref a0), (1, .ref a1), (2, .ref a2), (4, .int x4), (5, .int x5)]) rfl rfl rfl (Nat.le_of_ble_eq_true rfl) rfl ?_
    refine x_iinc (i := 5) (v := x5 + (1 : Int32)) (L1 := [(5, .int (x5 + (1 : Int32))), (3, .int (x3 + (1 : Int32))), (0, .ref a0), (1, .ref a1), (2, .ref a2), (4, .int x4)]) rfl rfl rfl (Nat.le_of_ble_eq_true rfl) rfl ?_
    refine x_goto (tgt := 99) rfl rfl ?_
    exact xP_sub [2, 3, 4, 1, 5, 0] rfl h
theorem s_Deal_start_142 {d : Nat} {D : xD} {Q : Option Value → xD → Prop} {a0 : Nat} {a1 : Nat} {a2 : Nat} {x3 : Int32} {x4 : Int32} (k0 : xk a0 = 8) (k1 : xk a1 = 4) (k2 : xk a2 = 2) (h : xCi d m_Row_size [.ref a2] D (fun r2 D1 => (r2 ≤ x3 → Q none D1) ∧ (¬ r2 ≤ x3 → xCi d m_Row_get [.ref a2, .int x3] D1 (fun r4 D3 => xCv d m_Deal_enter [.ref a0, .int (D1.1 a0 8), .int r4] D3 (fun D5 => xPf (d + 1) m_Deal_start 142 [(0, .ref a0), (1, .ref a1), (2, .ref a2), (3, .int (x3 + (1 : Int32))), (4, .int x4)] [] D5 Q))))) : xPf (d + 1) m_Deal_start 142 [(0, .ref a0), (1, .ref a1), (2, .ref a2), (3, .int x3), (4, .int x4)] [] D Q := by
  refine x_iload_n rfl rfl ?_
  refine x_aload_n rfl rfl ?_
  refine x_vi lm_Deal_68 vf_Row_size k2 rfl rfl (Nat.le_of_ble_eq_true rfl) rfl h (fun r2 D1 h => ?_)
  refine x_icmp_ge (tgt := 169) rfl rfl (fun c => ?_) (fun c => ?_)
  · have h := h.1 c
    exact x_vret rfl rfl h
  · have h := h.2 c
    refine x_aload_n rfl rfl ?_
    refine x_aload_n rfl rfl ?_
    refine x_gI lf_Deal_55 k0 rfl rfl ?_
    refine x_aload_n rfl rfl ?_
    refine x_iload_n rfl rfl ?_
    refine x_vi lm_Deal_61 vf_Row_get k2 rfl rfl (Nat.le_of_ble_eq_true rfl) rfl h (fun r4 D3 h => ?_)
    refine x_vv lm_Deal_71 vf_Deal_enter k0 rfl rfl (Nat.le_of_ble_eq_true rfl) rfl h (fun D5 h => ?_)
    refine x_iinc (i := 3) (v := x3 + (1 : Int32)) (L1 := [(3, .int (x3 + (1 : Int32))), (0, .ref a0), (1, .ref a1), (2, .ref a2), (4, .int x4)]) rfl rfl rfl (Nat.le_of_ble_eq_true rfl) rfl ?_
    refine x_goto (tgt := 142) rfl rfl ?_
    exact xP_sub [1, 2, 3, 0, 4] rfl h
theorem s_Deal_copy_0 {d : Nat} {D : xD} {Q : Option Value → xD → Prop} {a0 : Nat} {a1 : Nat} (k0 : xk a0 = 8) (k1 : xk a1 = 8) (h : xCv d m_Row_copy [.ref (a0 + 1), .ref (a1 + 1)] D (fun D1 => xCv d m_Row_copy [.ref (a0 + 3), .ref (a1 + 3)] D1 (fun D2 => xCv d m_Row_copy [.ref (a0 + 5), .ref (a1 + 5)] D2 (fun D3 => xCv d m_Row_copy [.ref (a0 + 7), .ref (a1 + 7)] D3 (fun D4 => xCv d m_Row_copy [.ref (a0 + 9), .ref (a1 + 9)] D4 (fun D5 => ∀ D6 : xD, D6 = (xu D5.1 a0 5 (D5.1 a1 5), D5.2) → ∀ D7 : xD, D7 = (xu D6.1 a0 6 (D6.1 a1 6), D6.2) → ∀ D8 : xD, D8 = (xu D7.1 a0 7 (D7.1 a1 7), D7.2) → ∀ D9 : xD, D9 = (xu D8.1 a0 8 (D8.1 a1 8), D8.2) → ∀ D10 : xD, D10 = (xu D9.1 a0 9 (D9.1 a1 9), D9.2) → Q none D10)))))) : xPf (d + 1) m_Deal_copy 0 [(0, .ref a0), (1, .ref a1)] [] D Q := by
  refine x_aload_n rfl rfl ?_
  refine x_gR lf_Deal_14 k0 rfl rfl ?_
  refine x_aload_n rfl rfl ?_
  refine x_gR lf_Deal_14 k1 rfl rfl ?_
  refine x_vv lm_Deal_74 vf_Row_copy (ck_8_0 k0) rfl rfl (Nat.le_of_ble_eq_true rfl) rfl h (fun D1 h => ?_)
  refine x_aload_n rfl rfl ?_
  refine x_gR lf_Deal_20 k0 rfl rfl ?_
  refine x_aload_n rfl rfl ?_
  refine x_gR lf_Deal_20 k1 rfl rfl ?_
  refine x_vv lm_Deal_74 vf_Row_copy (ck_8_1 k0) rfl rfl (Nat.le_of_ble_eq_true rfl) rfl h (fun D2 h => ?_)
  refine x_aload_n rfl rfl ?_
  refine x_gR lf_Deal_23 k0 rfl rfl ?_
  refine x_aload_n rfl rfl ?_
  refine x_gR lf_Deal_23 k1 rfl rfl ?_
  refine x_vv lm_Deal_74 vf_Row_copy (ck_8_2 k0) rfl rfl (Nat.le_of_ble_eq_true rfl) rfl h (fun D3 h => ?_)
  refine x_aload_n rfl rfl ?_
  refine x_gR lf_Deal_26 k0 rfl rfl ?_
  refine x_aload_n rfl rfl ?_
  refine x_gR lf_Deal_26 k1 rfl rfl ?_
  refine x_vv lm_Deal_74 vf_Row_copy (ck_8_3 k0) rfl rfl (Nat.le_of_ble_eq_true rfl) rfl h (fun D4 h => ?_)
  refine x_aload_n rfl rfl ?_
  refine x_gR lf_Deal_29 k0 rfl rfl ?_
  refine x_aload_n rfl rfl ?_
  refine x_gR lf_Deal_29 k1 rfl rfl ?_
  refine x_vv lm_Deal_74 vf_Row_copy (ck_8_4 k0) rfl rfl (Nat.le_of_ble_eq_true rfl) rfl h (fun D5 h => ?_)
  refine x_aload_n rfl rfl ?_
  refine x_aload_n rfl rfl ?_
  refine x_gI lf_Deal_42 k1 rfl rfl ?_
  refine x_pIn lp_Deal_42 nf_8_5 k0 rfl rfl (fun D6 eD6 => ?_)
  have h := h D6 eD6
  refine x_aload_n rfl rfl ?_
  refine x_aload_n rfl rfl ?_
  refine x_gI lf_Deal_48 k1 rfl rfl ?_
  refine x_pIn lp_Deal_48 nf_8_6 k0 rfl rfl (fun D7 eD7 => ?_)
  have h := h D7 eD7
  refine x_aload_n rfl rfl ?_
  refine x_aload_n rfl rfl ?_
  refine x_gI lf_Deal_53 k1 rfl rfl ?_
  refine x_pIn lp_Deal_53 nf_8_7 k0 rfl rfl (fun D8 eD8 => ?_)
  have h := h D8 eD8
  refine x_aload_n rfl rfl ?_
  refine x_aload_n rfl rfl ?_
  refine x_gI lf_Deal_55 k1 rfl rfl ?_
  refine x_pIn lp_Deal_55 nf_8_8 k0 rfl rfl (fun D9 eD9 => ?_)
  have h := h D9 eD9
  refine x_aload_n rfl rfl ?_
  refine x_aload_n rfl rfl ?_
  refine x_gI lf_Deal_58 k1 rfl rfl ?_
  refine x_pIn lp_Deal_58 nf_8_9 k0 rfl rfl (fun D10 eD10 => ?_)
  have h := h D10 eD10
  exact x_vret rfl rfl h
theorem s_Deal_liesAs_0 {d : Nat} {D : xD} {Q : Option Value → xD → Prop} {a0 : Nat} {a1 : Nat} (k0 : xk a0 = 8) (k1 : xk a1 = 8) (h : xPf (d + 1) m_Deal_liesAs 2 [(0, .ref a0), (1, .ref a1), (2, .int (0 : Int32))] [] D Q) : xPf (d + 1) m_Deal_liesAs 0 [(0, .ref a0), (1, .ref a1)] [] D Q := by
  refine x_iconst (v := (0 : Int32)) rfl rfl ?_
  refine x_istore_n (i := 2) (L1 := [(2, .int (0 : Int32)), (0, .ref a0), (1, .ref a1)]) rfl rfl (Nat.le_of_ble_eq_true rfl) rfl ?_
  exact xP_sub [1, 2, 0] rfl h
theorem s_Deal_liesAs_2 {d : Nat} {D : xD} {Q : Option Value → xD → Prop} {a0 : Nat} {a1 : Nat} {x2 : Int32} (k0 : xk a0 = 8) (k1 : xk a1 = 8) (h : ((D.1 a0 5) < x2 → xPf (d + 1) m_Deal_liesAs 33 [(0, .ref a0), (1, .ref a1), (2, .int (0 : Int32))] [] D Q) ∧ (¬ (D.1 a0 5) < x2 → xCi d m_Deal_waitsFor [.ref a0, .int x2] D (fun r2 D1 => xCi d m_Deal_waitsFor [.ref a1, .int x2] D1 (fun r4 D3 => (r2 = r4 → xPf (d + 1) m_Deal_liesAs 2 [(0, .ref a0), (1, .ref a1), (2, .int (x2 + (1 : Int32)))] [] D3 Q) ∧ (¬ r2 = r4 → Q (some (.int (0 : Int32))) D3))))) : xPf (d + 1) m_Deal_liesAs 2 [(0, .ref a0), (1, .ref a1), (2, .int x2)] [] D Q := by
  refine x_iload_n rfl rfl ?_
  refine x_aload_n rfl rfl ?_
  refine x_gI lf_Deal_42 k0 rfl rfl ?_
  refine x_icmp_gt (tgt := 31) rfl rfl (fun c => ?_) (fun c => ?_)
  · have h := h.1 c
    refine x_iconst (v := (0 : Int32)) rfl rfl ?_
    refine x_istore_n (i := 2) (L1 := [(2, .int (0 : Int32)), (0, .ref a0), (1, .ref a1)]) rfl rfl (Nat.le_of_ble_eq_true rfl) rfl ?_
    exact xP_sub [1, 2, 0] rfl h
  · have h := h.2 c
    refine x_aload_n rfl rfl ?_
    refine x_iload_n rfl rfl ?_
    refine x_vi lm_Deal_78 vf_Deal_waitsFor k0 rfl rfl (Nat.le_of_ble_eq_true rfl) rfl h (fun r2 D1 h => ?_)
    refine x_aload_n rfl rfl ?_
    refine x_iload_n rfl rfl ?_
    refine x_vi lm_Deal_78 vf_Deal_waitsFor k1 rfl rfl (Nat.le_of_ble_eq_true rfl) rfl h (fun r4 D3 h => ?_)
    refine x_icmp_eq (tgt := 25) rfl rfl (fun c => ?_) (fun c => ?_)
    · have h := h.1 c
      refine x_iinc (i := 2) (v := x2 + (1 : Int32)) (L1 := [(2, .int (x2 + (1 : Int32))), (0, .ref a0), (1, .ref a1)]) rfl rfl rfl (Nat.le_of_ble_eq_true rfl) rfl ?_
      refine x_goto (tgt := 2) rfl rfl ?_
      exact xP_sub [1, 2, 0] rfl h
    · have h := h.2 c
      refine x_iconst (v := (0 : Int32)) rfl rfl ?_
      exact x_zr rfl (Or.inl rfl) rfl h
theorem s_Deal_liesAs_33 {d : Nat} {D : xD} {Q : Option Value → xD → Prop} {a0 : Nat} {a1 : Nat} {x2 : Int32} (k0 : xk a0 = 8) (k1 : xk a1 = 8) (h : (((D.1 a0 5) * (13 : Int32)) ≤ x2 → xPf (d + 1) m_Deal_liesAs 73 [(0, .ref a0), (1, .ref a1), (2, .int (0 : Int32))] [] D Q) ∧ (¬ ((D.1 a0 5) * (13 : Int32)) ≤ x2 → xCi d m_Row_get [.ref (a0 + 1), .int x2] D (fun r2 D1 => xCi d m_Row_get [.ref (a1 + 1), .int x2] D1 (fun r4 D3 => (r2 = r4 → xPf (d + 1) m_Deal_liesAs 33 [(0, .ref a0), (1, .ref a1), (2, .int (x2 + (1 : Int32)))] [] D3 Q) ∧ (¬ r2 = r4 → Q (some (.int (0 : Int32))) D3))))) : xPf (d + 1) m_Deal_liesAs 33 [(0, .ref a0), (1, .ref a1), (2, .int x2)] [] D Q := by
  refine x_iload_n rfl rfl ?_
  refine x_aload_n rfl rfl ?_
  refine x_gI lf_Deal_42 k0 rfl rfl ?_
  refine x_bipush (v := (13 : Int32)) rfl rfl ?_
  refine x_imul rfl ?_
  refine x_icmp_ge (tgt := 71) rfl rfl (fun c => ?_) (fun c => ?_)
  · have h := h.1 c
    refine x_iconst (v := (0 : Int32)) rfl rfl ?_
    refine x_istore_n (i := 2) (L1 := [(2, .int (0 : Int32)), (0, .ref a0), (1, .ref a1)]) rfl rfl (Nat.le_of_ble_eq_true rfl) rfl ?_
    exact xP_sub [1, 2, 0] rfl h
  · have h := h.2 c
    refine x_aload_n rfl rfl ?_
    refine x_gR lf_Deal_14 k0 rfl rfl ?_
    refine x_iload_n rfl rfl ?_
    refine x_vi lm_Deal_61 vf_Row_get (ck_8_0 k0) rfl rfl (Nat.le_of_ble_eq_true rfl) rfl h (fun r2 D1 h => ?_)
    refine x_aload_n rfl rfl ?_
    refine x_gR lf_Deal_14 k1 rfl rfl ?_
    refine x_iload_n rfl rfl ?_
    refine x_vi lm_Deal_61 vf_Row_get (ck_8_0 k1) rfl rfl (Nat.le_of_ble_eq_true rfl) rfl h (fun r4 D3 h => ?_)
    refine x_icmp_eq (tgt := 65) rfl rfl (fun c => ?_) (fun c => ?_)
    · have h := h.1 c
      refine x_iinc (i := 2) (v := x2 + (1 : Int32)) (L1 := [(2, .int (x2 + (1 : Int32))), (0, .ref a0), (1, .ref a1)]) rfl rfl rfl (Nat.le_of_ble_eq_true rfl) rfl ?_
      refine x_goto (tgt := 33) rfl rfl ?_
      exact xP_sub [1, 2, 0] rfl h
    · have h := h.2 c
      refine x_iconst (v := (0 : Int32)) rfl rfl ?_
      exact x_zr rfl (Or.inl rfl) rfl h
theorem s_Deal_liesAs_73 {d : Nat} {D : xD} {Q : Option Value → xD → Prop} {a0 : Nat} {a1 : Nat} {x2 : Int32} (k0 : xk a0 = 8) (k1 : xk a1 = 8) (h : ((D.1 a0 5) < x2 → Q (some (.int (1 : Int32))) D) ∧ (¬ (D.1 a0 5) < x2 → xPf (d + 1) m_Deal_liesAs 83 [(0, .ref a0), (1, .ref a1), (2, .int x2), (3, .int (0 : Int32))] [] D Q)) : xPf (d + 1) m_Deal_liesAs 73 [(0, .ref a0), (1, .ref a1), (2, .int x2)] [] D Q := by
  refine x_iload_n rfl rfl ?_
  refine x_aload_n rfl rfl ?_
  refine x_gI lf_Deal_42 k0 rfl rfl ?_
  refine x_icmp_gt (tgt := 121) rfl rfl (fun c => ?_) (fun c => ?_)
  · have h := h.1 c
    refine x_iconst (v := (1 : Int32)) rfl rfl ?_
    exact x_zr rfl (Or.inr rfl) rfl h
  · have h := h.2 c
    refine x_iconst (v := (0 : Int32)) rfl rfl ?_
    refine x_istore_n (i := 3) (L1 := [(3, .int (0 : Int32)), (0, .ref a0), (1, .ref a1), (2, .int x2)]) rfl rfl (Nat.le_of_ble_eq_true rfl) rfl ?_
    exact xP_sub [1, 2, 3, 0] rfl h
theorem s_Deal_liesAs_83 {d : Nat} {D : xD} {Q : Option Value → xD → Prop} {a0 : Nat} {a1 : Nat} {x2 : Int32} {x3 : Int32} (k0 : xk a0 = 8) (k1 : xk a1 = 8) (h : xCi d m_Deal_waitsFor [.ref a0, .int x2] D (fun r2 D1 => (r2 ≤ x3 → xPf (d + 1) m_Deal_liesAs 73 [(0, .ref a0), (1, .ref a1), (2, .int (x2 + (1 : Int32)))] [] D1 Q) ∧ (¬ r2 ≤ x3 → xCi d m_Deal_waiting [.ref a0, .int x2, .int x3] D1 (fun r4 D3 => xCi d m_Deal_waiting [.ref a1, .int x2, .int x3] D3 (fun r6 D5 => (r4 = r6 → xPf (d + 1) m_Deal_liesAs 83 [(0, .ref a0), (1, .ref a1), (2, .int x2), (3, .int (x3 + (1 : Int32)))] [] D5 Q) ∧ (¬ r4 = r6 → Q (some (.int (0 : Int32))) D5)))))) : xPf (d + 1) m_Deal_liesAs 83 [(0, .ref a0), (1, .ref a1), (2, .int x2), (3, .int x3)] [] D Q := by
  refine x_iload_n rfl rfl ?_
  refine x_aload_n rfl rfl ?_
  refine x_iload_n rfl rfl ?_
  refine x_vi lm_Deal_78 vf_Deal_waitsFor k0 rfl rfl (Nat.le_of_ble_eq_true rfl) rfl h (fun r2 D1 h => ?_)
  refine x_icmp_ge (tgt := 115) rfl rfl (fun c => ?_) (fun c => ?_)
  · have h := h.1 c
    refine x_iinc (i := 2) (v := x2 + (1 : Int32)) (L1 := [(2, .int (x2 + (1 : Int32))), (0, .ref a0), (1, .ref a1), (3, .int x3)]) rfl rfl rfl (Nat.le_of_ble_eq_true rfl) rfl ?_
    refine x_goto (tgt := 73) rfl rfl ?_
    exact xP_sub [1, 2, 0] rfl h
  · have h := h.2 c
    refine x_aload_n rfl rfl ?_
    refine x_iload_n rfl rfl ?_
    refine x_iload_n rfl rfl ?_
    refine x_vi lm_Deal_81 vf_Deal_waiting k0 rfl rfl (Nat.le_of_ble_eq_true rfl) rfl h (fun r4 D3 h => ?_)
    refine x_aload_n rfl rfl ?_
    refine x_iload_n rfl rfl ?_
    refine x_iload_n rfl rfl ?_
    refine x_vi lm_Deal_81 vf_Deal_waiting k1 rfl rfl (Nat.le_of_ble_eq_true rfl) rfl h (fun r6 D5 h => ?_)
    refine x_icmp_eq (tgt := 109) rfl rfl (fun c => ?_) (fun c => ?_)
    · have h := h.1 c
      refine x_iinc (i := 3) (v := x3 + (1 : Int32)) (L1 := [(3, .int (x3 + (1 : Int32))), (0, .ref a0), (1, .ref a1), (2, .int x2)]) rfl rfl rfl (Nat.le_of_ble_eq_true rfl) rfl ?_
      refine x_goto (tgt := 83) rfl rfl ?_
      exact xP_sub [1, 2, 3, 0] rfl h
    · have h := h.2 c
      refine x_iconst (v := (0 : Int32)) rfl rfl ?_
      exact x_zr rfl (Or.inl rfl) rfl h
theorem s_Deal_waiting_0 {d : Nat} {D : xD} {Q : Option Value → xD → Prop} {a0 : Nat} {x1 : Int32} {x2 : Int32} (k0 : xk a0 = 8) (h : xCi d m_Deal_laneTo [.ref a0, .int x1] D (fun r2 D1 => xCi d m_Row_get [.ref (a0 + 7), .int r2] D1 (fun r4 D3 => xCi d m_Row_get [.ref (a0 + 5), .int ((r2 * (52 : Int32)) + ((r4 + x2) - (r4 + x2) / (52 : Int32) * (52 : Int32)))] D3 (fun r6 D5 => Q (some (.int r6)) D5)))) : xPf (d + 1) m_Deal_waiting 0 [(0, .ref a0), (1, .int x1), (2, .int x2)] [] D Q := by
  refine x_aload_n rfl rfl ?_
  refine x_iload_n rfl rfl ?_
  refine x_vi lm_Deal_85 vf_Deal_laneTo k0 rfl rfl (Nat.le_of_ble_eq_true rfl) rfl h (fun r2 D1 h => ?_)
  refine x_istore_n (i := 3) (L1 := [(3, .int r2), (0, .ref a0), (1, .int x1), (2, .int x2)]) rfl rfl (Nat.le_of_ble_eq_true rfl) rfl ?_
  refine x_aload_n rfl rfl ?_
  refine x_gR lf_Deal_23 k0 rfl rfl ?_
  refine x_iload_n rfl rfl ?_
  refine x_bipush (v := (52 : Int32)) rfl rfl ?_
  refine x_imul rfl ?_
  refine x_aload_n rfl rfl ?_
  refine x_gR lf_Deal_26 k0 rfl rfl ?_
  refine x_iload_n rfl rfl ?_
  refine x_vi lm_Deal_61 vf_Row_get (ck_8_3 k0) rfl rfl (Nat.le_of_ble_eq_true rfl) rfl h (fun r4 D3 h => ?_)
  refine x_iload_n rfl rfl ?_
  refine x_iadd rfl ?_
  refine x_bipush (v := (52 : Int32)) rfl rfl ?_
  refine x_irem rfl (by decide) ?_
  refine x_iadd rfl ?_
  refine x_vi lm_Deal_61 vf_Row_get (ck_8_2 k0) rfl rfl (Nat.le_of_ble_eq_true rfl) rfl h (fun r6 D5 h => ?_)
  exact x_iret rfl rfl h
theorem s_Deal_holdsCards_0 {d : Nat} {D : xD} {Q : Option Value → xD → Prop} {a0 : Nat} {x1 : Int32} (k0 : xk a0 = 8) (h : xCi d m_Row_get [.ref (a0 + 3), .int x1] D (fun r2 D1 => Q (some (.int r2)) D1)) : xPf (d + 1) m_Deal_holdsCards 0 [(0, .ref a0), (1, .int x1)] [] D Q := by
  refine x_aload_n rfl rfl ?_
  refine x_gR lf_Deal_20 k0 rfl rfl ?_
  refine x_iload_n rfl rfl ?_
  refine x_vi lm_Deal_61 vf_Row_get (ck_8_1 k0) rfl rfl (Nat.le_of_ble_eq_true rfl) rfl h (fun r2 D1 h => ?_)
  exact x_iret rfl rfl h
theorem s_Deal_holdsOf_0 {d : Nat} {D : xD} {Q : Option Value → xD → Prop} {a0 : Nat} {x1 : Int32} {x2 : Int32} (k0 : xk a0 = 8) (h : xCi d m_Row_get [.ref (a0 + 1), .int ((x1 * (13 : Int32)) + x2)] D (fun r2 D1 => Q (some (.int r2)) D1)) : xPf (d + 1) m_Deal_holdsOf 0 [(0, .ref a0), (1, .int x1), (2, .int x2)] [] D Q := by
  refine x_aload_n rfl rfl ?_
  refine x_gR lf_Deal_14 k0 rfl rfl ?_
  refine x_iload_n rfl rfl ?_
  refine x_bipush (v := (13 : Int32)) rfl rfl ?_
  refine x_imul rfl ?_
  refine x_iload_n rfl rfl ?_
  refine x_iadd rfl ?_
  refine x_vi lm_Deal_61 vf_Row_get (ck_8_0 k0) rfl rfl (Nat.le_of_ble_eq_true rfl) rfl h (fun r2 D1 h => ?_)
  exact x_iret rfl rfl h
theorem s_Deal_waitsFor_0 {d : Nat} {D : xD} {Q : Option Value → xD → Prop} {a0 : Nat} {x1 : Int32} (k0 : xk a0 = 8) (h : xCi d m_Deal_laneTo [.ref a0, .int x1] D (fun r2 D1 => xCi d m_Row_get [.ref (a0 + 9), .int r2] D1 (fun r4 D3 => Q (some (.int r4)) D3))) : xPf (d + 1) m_Deal_waitsFor 0 [(0, .ref a0), (1, .int x1)] [] D Q := by
  refine x_aload_n rfl rfl ?_
  refine x_gR lf_Deal_29 k0 rfl rfl ?_
  refine x_aload_n rfl rfl ?_
  refine x_iload_n rfl rfl ?_
  refine x_vi lm_Deal_85 vf_Deal_laneTo k0 rfl rfl (Nat.le_of_ble_eq_true rfl) rfl h (fun r2 D1 h => ?_)
  refine x_vi lm_Deal_61 vf_Row_get (ck_8_4 k0) rfl rfl (Nat.le_of_ble_eq_true rfl) rfl h (fun r4 D3 h => ?_)
  exact x_iret rfl rfl h
theorem s_Deal_away_0 {d : Nat} {D : xD} {Q : Option Value → xD → Prop} {a0 : Nat} (k0 : xk a0 = 8) (h : xCi d m_Row_get [.ref (a0 + 9), .int (D.1 a0 9)] D (fun r2 D1 => Q (some (.int r2)) D1)) : xPf (d + 1) m_Deal_away 0 [(0, .ref a0)] [] D Q := by
  refine x_aload_n rfl rfl ?_
  refine x_gR lf_Deal_29 k0 rfl rfl ?_
  refine x_aload_n rfl rfl ?_
  refine x_gI lf_Deal_58 k0 rfl rfl ?_
  refine x_vi lm_Deal_61 vf_Row_get (ck_8_4 k0) rfl rfl (Nat.le_of_ble_eq_true rfl) rfl h (fun r2 D1 h => ?_)
  exact x_iret rfl rfl h
theorem s_Deal_hasAlike_0 {d : Nat} {D : xD} {Q : Option Value → xD → Prop} {a0 : Nat} {x1 : Int32} (k0 : xk a0 = 8) (h : xPf (d + 1) m_Deal_hasAlike 2 [(0, .ref a0), (1, .int x1), (2, .int (0 : Int32))] [] D Q) : xPf (d + 1) m_Deal_hasAlike 0 [(0, .ref a0), (1, .int x1)] [] D Q := by
  refine x_iconst (v := (0 : Int32)) rfl rfl ?_
  refine x_istore_n (i := 2) (L1 := [(2, .int (0 : Int32)), (0, .ref a0), (1, .int x1)]) rfl rfl (Nat.le_of_ble_eq_true rfl) rfl ?_
  exact xP_sub [1, 2, 0] rfl h
theorem s_Deal_hasAlike_2 {d : Nat} {D : xD} {Q : Option Value → xD → Prop} {a0 : Nat} {x1 : Int32} {x2 : Int32} (k0 : xk a0 = 8) (h : ((D.1 a0 7) ≤ x2 → Q (some (.int (0 : Int32))) D) ∧ (¬ (D.1 a0 7) ≤ x2 → xCi d m_Row_get [.ref (a0 + 3), .int x1] D (fun r2 D1 => (¬ r2 = (D1.1 a0 6) → xPf (d + 1) m_Deal_hasAlike 2 [(0, .ref a0), (1, .int x1), (2, .int (x2 + (1 : Int32)))] [] D1 Q) ∧ (r2 = (D1.1 a0 6) → xCi d m_Deal_holdsOf [.ref a0, .int x1, .int x2] D1 (fun r4 D3 => (¬ r4 = (D3.1 a0 6) → xPf (d + 1) m_Deal_hasAlike 2 [(0, .ref a0), (1, .int x1), (2, .int (x2 + (1 : Int32)))] [] D3 Q) ∧ (r4 = (D3.1 a0 6) → Q (some (.int (1 : Int32))) D3)))))) : xPf (d + 1) m_Deal_hasAlike 2 [(0, .ref a0), (1, .int x1), (2, .int x2)] [] D Q := by
  refine x_iload_n rfl rfl ?_
  refine x_aload_n rfl rfl ?_
  refine x_gI lf_Deal_53 k0 rfl rfl ?_
  refine x_icmp_ge (tgt := 46) rfl rfl (fun c => ?_) (fun c => ?_)
  · have h := h.1 c
    refine x_iconst (v := (0 : Int32)) rfl rfl ?_
    exact x_zr rfl (Or.inl rfl) rfl h
  · have h := h.2 c
    refine x_aload_n rfl rfl ?_
    refine x_gR lf_Deal_20 k0 rfl rfl ?_
    refine x_iload_n rfl rfl ?_
    refine x_vi lm_Deal_61 vf_Row_get (ck_8_1 k0) rfl rfl (Nat.le_of_ble_eq_true rfl) rfl h (fun r2 D1 h => ?_)
    refine x_aload_n rfl rfl ?_
    refine x_gI lf_Deal_48 k0 rfl rfl ?_
    refine x_icmp_ne (tgt := 40) rfl rfl (fun c => ?_) (fun c => ?_)
    · have h := h.1 c
      refine x_iinc (i := 2) (v := x2 + (1 : Int32)) (L1 := [(2, .int (x2 + (1 : Int32))), (0, .ref a0), (1, .int x1)]) rfl rfl rfl (Nat.le_of_ble_eq_true rfl) rfl ?_
      refine x_goto (tgt := 2) rfl rfl ?_
      exact xP_sub [1, 2, 0] rfl h
    · have h := h.2 c
      refine x_aload_n rfl rfl ?_
      refine x_iload_n rfl rfl ?_
      refine x_iload_n rfl rfl ?_
      refine x_vi lm_Deal_88 vf_Deal_holdsOf k0 rfl rfl (Nat.le_of_ble_eq_true rfl) rfl h (fun r4 D3 h => ?_)
      refine x_aload_n rfl rfl ?_
      refine x_gI lf_Deal_48 k0 rfl rfl ?_
      refine x_icmp_ne (tgt := 40) rfl rfl (fun c => ?_) (fun c => ?_)
      · have h := h.1 c
        refine x_iinc (i := 2) (v := x2 + (1 : Int32)) (L1 := [(2, .int (x2 + (1 : Int32))), (0, .ref a0), (1, .int x1)]) rfl rfl rfl (Nat.le_of_ble_eq_true rfl) rfl ?_
        refine x_goto (tgt := 2) rfl rfl ?_
        exact xP_sub [1, 2, 0] rfl h
      · have h := h.2 c
        refine x_iconst (v := (1 : Int32)) rfl rfl ?_
        exact x_zr rfl (Or.inr rfl) rfl h
theorem s_Deal_firstAlike_0 {d : Nat} {D : xD} {Q : Option Value → xD → Prop} {a0 : Nat} (k0 : xk a0 = 8) (h : xPf (d + 1) m_Deal_firstAlike 2 [(0, .ref a0), (1, .int (0 : Int32))] [] D Q) : xPf (d + 1) m_Deal_firstAlike 0 [(0, .ref a0)] [] D Q := by
  refine x_iconst (v := (0 : Int32)) rfl rfl ?_
  refine x_istore_n (i := 1) (L1 := [(1, .int (0 : Int32)), (0, .ref a0)]) rfl rfl (Nat.le_of_ble_eq_true rfl) rfl ?_
  exact xP_sub [1, 0] rfl h
theorem s_Deal_firstAlike_2 {d : Nat} {D : xD} {Q : Option Value → xD → Prop} {a0 : Nat} {x1 : Int32} (k0 : xk a0 = 8) (h : ((D.1 a0 5) ≤ x1 → Q (some (.int (-1 : Int32))) D) ∧ (¬ (D.1 a0 5) ≤ x1 → xCi d m_Deal_hasAlike [.ref a0, .int x1] D (fun r2 D1 => (r2 = 0 → xPf (d + 1) m_Deal_firstAlike 2 [(0, .ref a0), (1, .int (x1 + (1 : Int32)))] [] D1 Q) ∧ (¬ r2 = 0 → Q (some (.int x1)) D1)))) : xPf (d + 1) m_Deal_firstAlike 2 [(0, .ref a0), (1, .int x1)] [] D Q := by
  refine x_iload_n rfl rfl ?_
  refine x_aload_n rfl rfl ?_
  refine x_gI lf_Deal_42 k0 rfl rfl ?_
  refine x_icmp_ge (tgt := 26) rfl rfl (fun c => ?_) (fun c => ?_)
  · have h := h.1 c
    refine x_iconst (v := (-1 : Int32)) rfl rfl ?_
    exact x_iret rfl rfl h
  · have h := h.2 c
    refine x_aload_n rfl rfl ?_
    refine x_iload_n rfl rfl ?_
    refine x_vi lm_Deal_91 vf_Deal_hasAlike k0 rfl rfl (Nat.le_of_ble_eq_true rfl) rfl h (fun r2 D1 h => ?_)
    refine x_if_eq (tgt := 20) rfl rfl (fun c => ?_) (fun c => ?_)
    · have h := h.1 c
      refine x_iinc (i := 1) (v := x1 + (1 : Int32)) (L1 := [(1, .int (x1 + (1 : Int32))), (0, .ref a0)]) rfl rfl rfl (Nat.le_of_ble_eq_true rfl) rfl ?_
      refine x_goto (tgt := 2) rfl rfl ?_
      exact xP_sub [1, 0] rfl h
    · have h := h.2 c
      refine x_iload_n rfl rfl ?_
      exact x_iret rfl rfl h
theorem s_Deal_laneTo_0 {d : Nat} {D : xD} {Q : Option Value → xD → Prop} {a0 : Nat} {x1 : Int32} (k0 : xk a0 = 8) (h : (¬ x1 = (D.1 a0 5) → (¬ x1 = 0 → Q (some (.int x1)) D) ∧ (x1 = 0 → Q (some (.int (D.1 a0 8))) D)) ∧ (x1 = (D.1 a0 5) → Q (some (.int (D.1 a0 9))) D)) : xPf (d + 1) m_Deal_laneTo 0 [(0, .ref a0), (1, .int x1)] [] D Q := by
  refine x_iload_n rfl rfl ?_
  refine x_aload_n rfl rfl ?_
  refine x_gI lf_Deal_42 k0 rfl rfl ?_
  refine x_icmp_ne (tgt := 13) rfl rfl (fun c => ?_) (fun c => ?_)
  · have h := h.1 c
    refine x_iload_n rfl rfl ?_
    refine x_if_ne (tgt := 24) rfl rfl (fun c => ?_) (fun c => ?_)
    · have h := h.1 c
      refine x_iload_n rfl rfl ?_
      exact x_iret rfl rfl h
    · have h := h.2 c
      refine x_aload_n rfl rfl ?_
      refine x_gI lf_Deal_55 k0 rfl rfl ?_
      refine x_goto (tgt := 25) rfl rfl ?_
      exact x_iret rfl rfl h
  · have h := h.2 c
    refine x_aload_n rfl rfl ?_
    refine x_gI lf_Deal_58 k0 rfl rfl ?_
    exact x_iret rfl rfl h
theorem s_Deal_take_0 {d : Nat} {D : xD} {Q : Option Value → xD → Prop} {a0 : Nat} {x1 : Int32} (k0 : xk a0 = 8) (h : (¬ x1 = 0 → xCi d m_Deal_laneTo [.ref a0, .int x1] D (fun r2 D1 => xCi d m_Deal_leave [.ref a0, .int r2] D1 (fun r4 D3 => (r4 = (-1 : Int32) → Q (some (.int r4)) D3) ∧ (¬ r4 = (-1 : Int32) → xCv d m_Row_add [.ref (a0 + 1), .int ((x1 * (13 : Int32)) + r4), .int (1 : Int32)] D3 (fun D5 => xCv d m_Row_add [.ref (a0 + 3), .int x1, .int (1 : Int32)] D5 (fun D6 => Q (some (.int r4)) D6)))))) ∧ (x1 = 0 → xCi d m_Row_get [.ref (a0 + 9), .int (D.1 a0 8)] D (fun r8 D7 => (¬ r8 = 0 → xCi d m_Deal_laneTo [.ref a0, .int x1] D7 (fun r10 D9 => xCi d m_Deal_leave [.ref a0, .int r10] D9 (fun r12 D11 => (r12 = (-1 : Int32) → Q (some (.int r12)) D11) ∧ (¬ r12 = (-1 : Int32) → xCv d m_Row_add [.ref (a0 + 1), .int ((x1 * (13 : Int32)) + r12), .int (1 : Int32)] D11 (fun D13 => xCv d m_Row_add [.ref (a0 + 3), .int x1, .int (1 : Int32)] D13 (fun D14 => Q (some (.int r12)) D14)))))) ∧ (r8 = 0 → ∀ D15 : xD, D15 = (xu D7.1 a0 8 (D7.1 a0 9), D7.2) → ∀ D16 : xD, D16 = (xu D15.1 a0 9 (D7.1 a0 8), D15.2) → xCi d m_Deal_laneTo [.ref a0, .int x1] D16 (fun r18 D17 => xCi d m_Deal_leave [.ref a0, .int r18] D17 (fun r20 D19 => (r20 = (-1 : Int32) → Q (some (.int r20)) D19) ∧ (¬ r20 = (-1 : Int32) → xCv d m_Row_add [.ref (a0 + 1), .int ((x1 * (13 : Int32)) + r20), .int (1 : Int32)] D19 (fun D21 => xCv d m_Row_add [.ref (a0 + 3), .int x1, .int (1 : Int32)] D21 (fun D22 => Q (some (.int r20)) D22))))))))) : xPf (d + 1) m_Deal_take 0 [(0, .ref a0), (1, .int x1)] [] D Q := by
  refine x_iload_n rfl rfl ?_
  refine x_if_ne (tgt := 36) rfl rfl (fun c => ?_) (fun c => ?_)
  · have h := h.1 c
    refine x_aload_n rfl rfl ?_
    refine x_aload_n rfl rfl ?_
    refine x_iload_n rfl rfl ?_
    refine x_vi lm_Deal_85 vf_Deal_laneTo k0 rfl rfl (Nat.le_of_ble_eq_true rfl) rfl h (fun r2 D1 h => ?_)
    refine x_vi lm_Deal_95 vf_Deal_leave k0 rfl rfl (Nat.le_of_ble_eq_true rfl) rfl h (fun r4 D3 h => ?_)
    refine x_istore_n (i := 2) (L1 := [(2, .int r4), (0, .ref a0), (1, .int x1)]) rfl rfl (Nat.le_of_ble_eq_true rfl) rfl ?_
    refine x_iload_n rfl rfl ?_
    refine x_iconst (v := (-1 : Int32)) rfl rfl ?_
    refine x_icmp_eq (tgt := 74) rfl rfl (fun c => ?_) (fun c => ?_)
    · have h := h.1 c
      refine x_iload_n rfl rfl ?_
      exact x_iret rfl rfl h
    · have h := h.2 c
      refine x_aload_n rfl rfl ?_
      refine x_gR lf_Deal_14 k0 rfl rfl ?_
      refine x_iload_n rfl rfl ?_
      refine x_bipush (v := (13 : Int32)) rfl rfl ?_
      refine x_imul rfl ?_
      refine x_iload_n rfl rfl ?_
      refine x_iadd rfl ?_
      refine x_iconst (v := (1 : Int32)) rfl rfl ?_
      refine x_vv lm_Deal_65 vf_Row_add (ck_8_0 k0) rfl rfl (Nat.le_of_ble_eq_true rfl) rfl h (fun D5 h => ?_)
      refine x_aload_n rfl rfl ?_
      refine x_gR lf_Deal_20 k0 rfl rfl ?_
      refine x_iload_n rfl rfl ?_
      refine x_iconst (v := (1 : Int32)) rfl rfl ?_
      refine x_vv lm_Deal_65 vf_Row_add (ck_8_1 k0) rfl rfl (Nat.le_of_ble_eq_true rfl) rfl h (fun D6 h => ?_)
      refine x_iload_n rfl rfl ?_
      exact x_iret rfl rfl h
  · have h := h.2 c
    refine x_aload_n rfl rfl ?_
    refine x_gR lf_Deal_29 k0 rfl rfl ?_
    refine x_aload_n rfl rfl ?_
    refine x_gI lf_Deal_55 k0 rfl rfl ?_
    refine x_vi lm_Deal_61 vf_Row_get (ck_8_4 k0) rfl rfl (Nat.le_of_ble_eq_true rfl) rfl h (fun r8 D7 h => ?_)
    refine x_if_ne (tgt := 36) rfl rfl (fun c => ?_) (fun c => ?_)
    · have h := h.1 c
      refine x_aload_n rfl rfl ?_
      refine x_aload_n rfl rfl ?_
      refine x_iload_n rfl rfl ?_
      refine x_vi lm_Deal_85 vf_Deal_laneTo k0 rfl rfl (Nat.le_of_ble_eq_true rfl) rfl h (fun r10 D9 h => ?_)
      refine x_vi lm_Deal_95 vf_Deal_leave k0 rfl rfl (Nat.le_of_ble_eq_true rfl) rfl h (fun r12 D11 h => ?_)
      refine x_istore_n (i := 2) (L1 := [(2, .int r12), (0, .ref a0), (1, .int x1)]) rfl rfl (Nat.le_of_ble_eq_true rfl) rfl ?_
      refine x_iload_n rfl rfl ?_
      refine x_iconst (v := (-1 : Int32)) rfl rfl ?_
      refine x_icmp_eq (tgt := 74) rfl rfl (fun c => ?_) (fun c => ?_)
      · have h := h.1 c
        refine x_iload_n rfl rfl ?_
        exact x_iret rfl rfl h
      · have h := h.2 c
        refine x_aload_n rfl rfl ?_
        refine x_gR lf_Deal_14 k0 rfl rfl ?_
        refine x_iload_n rfl rfl ?_
        refine x_bipush (v := (13 : Int32)) rfl rfl ?_
        refine x_imul rfl ?_
        refine x_iload_n rfl rfl ?_
        refine x_iadd rfl ?_
        refine x_iconst (v := (1 : Int32)) rfl rfl ?_
        refine x_vv lm_Deal_65 vf_Row_add (ck_8_0 k0) rfl rfl (Nat.le_of_ble_eq_true rfl) rfl h (fun D13 h => ?_)
        refine x_aload_n rfl rfl ?_
        refine x_gR lf_Deal_20 k0 rfl rfl ?_
        refine x_iload_n rfl rfl ?_
        refine x_iconst (v := (1 : Int32)) rfl rfl ?_
        refine x_vv lm_Deal_65 vf_Row_add (ck_8_1 k0) rfl rfl (Nat.le_of_ble_eq_true rfl) rfl h (fun D14 h => ?_)
        refine x_iload_n rfl rfl ?_
        exact x_iret rfl rfl h
    · have h := h.2 c
      refine x_aload_n rfl rfl ?_
      refine x_gI lf_Deal_55 k0 rfl rfl ?_
      refine x_istore_n (i := 2) (L1 := [(2, .int (D7.1 a0 8)), (0, .ref a0), (1, .int x1)]) rfl rfl (Nat.le_of_ble_eq_true rfl) rfl ?_
      refine x_aload_n rfl rfl ?_
      refine x_aload_n rfl rfl ?_
      refine x_gI lf_Deal_58 k0 rfl rfl ?_
      refine x_pIn lp_Deal_55 nf_8_8 k0 rfl rfl (fun D15 eD15 => ?_)
      have h := h D15 eD15
      refine x_aload_n rfl rfl ?_
      refine x_iload_n rfl rfl ?_
      refine x_pIn lp_Deal_58 nf_8_9 k0 rfl rfl (fun D16 eD16 => ?_)
      have h := h D16 eD16
      refine x_aload_n rfl rfl ?_
      refine x_aload_n rfl rfl ?_
      refine x_iload_n rfl rfl ?_
      refine x_vi lm_Deal_85 vf_Deal_laneTo k0 rfl rfl (Nat.le_of_ble_eq_true rfl) rfl h (fun r18 D17 h => ?_)
      refine x_vi lm_Deal_95 vf_Deal_leave k0 rfl rfl (Nat.le_of_ble_eq_true rfl) rfl h (fun r20 D19 h => ?_)
      refine x_istore_n (i := 2) (L1 := [(2, .int r20), (0, .ref a0), (1, .int x1)]) rfl rfl (Nat.le_of_ble_eq_true rfl) rfl ?_
      refine x_iload_n rfl rfl ?_
      refine x_iconst (v := (-1 : Int32)) rfl rfl ?_
      refine x_icmp_eq (tgt := 74) rfl rfl (fun c => ?_) (fun c => ?_)
      · have h := h.1 c
        refine x_iload_n rfl rfl ?_
        exact x_iret rfl rfl h
      · have h := h.2 c
        refine x_aload_n rfl rfl ?_
        refine x_gR lf_Deal_14 k0 rfl rfl ?_
        refine x_iload_n rfl rfl ?_
        refine x_bipush (v := (13 : Int32)) rfl rfl ?_
        refine x_imul rfl ?_
        refine x_iload_n rfl rfl ?_
        refine x_iadd rfl ?_
        refine x_iconst (v := (1 : Int32)) rfl rfl ?_
        refine x_vv lm_Deal_65 vf_Row_add (ck_8_0 k0) rfl rfl (Nat.le_of_ble_eq_true rfl) rfl h (fun D21 h => ?_)
        refine x_aload_n rfl rfl ?_
        refine x_gR lf_Deal_20 k0 rfl rfl ?_
        refine x_iload_n rfl rfl ?_
        refine x_iconst (v := (1 : Int32)) rfl rfl ?_
        refine x_vv lm_Deal_65 vf_Row_add (ck_8_1 k0) rfl rfl (Nat.le_of_ble_eq_true rfl) rfl h (fun D22 h => ?_)
        refine x_iload_n rfl rfl ?_
        exact x_iret rfl rfl h
theorem s_Deal_handOn_0 {d : Nat} {D : xD} {Q : Option Value → xD → Prop} {a0 : Nat} {x1 : Int32} {x2 : Int32} (k0 : xk a0 = 8) (h : xCv d m_Row_add [.ref (a0 + 1), .int ((x1 * (13 : Int32)) + x2), .int (-1 : Int32)] D (fun D1 => xCv d m_Row_add [.ref (a0 + 3), .int x1, .int (-1 : Int32)] D1 (fun D2 => xCi d m_Deal_laneTo [.ref a0, .int (x1 + (1 : Int32))] D2 (fun r4 D3 => xCv d m_Deal_enter [.ref a0, .int r4, .int x2] D3 (fun D5 => Q none D5))))) : xPf (d + 1) m_Deal_handOn 0 [(0, .ref a0), (1, .int x1), (2, .int x2)] [] D Q := by
  refine x_aload_n rfl rfl ?_
  refine x_gR lf_Deal_14 k0 rfl rfl ?_
  refine x_iload_n rfl rfl ?_
  refine x_bipush (v := (13 : Int32)) rfl rfl ?_
  refine x_imul rfl ?_
  refine x_iload_n rfl rfl ?_
  refine x_iadd rfl ?_
  refine x_iconst (v := (-1 : Int32)) rfl rfl ?_
  refine x_vv lm_Deal_65 vf_Row_add (ck_8_0 k0) rfl rfl (Nat.le_of_ble_eq_true rfl) rfl h (fun D1 h => ?_)
  refine x_aload_n rfl rfl ?_
  refine x_gR lf_Deal_20 k0 rfl rfl ?_
  refine x_iload_n rfl rfl ?_
  refine x_iconst (v := (-1 : Int32)) rfl rfl ?_
  refine x_vv lm_Deal_65 vf_Row_add (ck_8_1 k0) rfl rfl (Nat.le_of_ble_eq_true rfl) rfl h (fun D2 h => ?_)
  refine x_aload_n rfl rfl ?_
  refine x_aload_n rfl rfl ?_
  refine x_iload_n rfl rfl ?_
  refine x_iconst (v := (1 : Int32)) rfl rfl ?_
  refine x_iadd rfl ?_
  refine x_vi lm_Deal_85 vf_Deal_laneTo k0 rfl rfl (Nat.le_of_ble_eq_true rfl) rfl h (fun r4 D3 h => ?_)
  refine x_iload_n rfl rfl ?_
  refine x_vv lm_Deal_71 vf_Deal_enter k0 rfl rfl (Nat.le_of_ble_eq_true rfl) rfl h (fun D5 h => ?_)
  exact x_vret rfl rfl h
theorem s_Deal_enter_0 {d : Nat} {D : xD} {Q : Option Value → xD → Prop} {a0 : Nat} {x1 : Int32} {x2 : Int32} (k0 : xk a0 = 8) (h : xCi d m_Row_get [.ref (a0 + 7), .int x1] D (fun r2 D1 => xCi d m_Row_get [.ref (a0 + 9), .int x1] D1 (fun r4 D3 => xCv d m_Row_set [.ref (a0 + 5), .int ((x1 * (52 : Int32)) + ((r2 + r4) - (r2 + r4) / (52 : Int32) * (52 : Int32))), .int x2] D3 (fun D5 => xCv d m_Row_add [.ref (a0 + 9), .int x1, .int (1 : Int32)] D5 (fun D6 => Q none D6))))) : xPf (d + 1) m_Deal_enter 0 [(0, .ref a0), (1, .int x1), (2, .int x2)] [] D Q := by
  refine x_aload_n rfl rfl ?_
  refine x_gR lf_Deal_26 k0 rfl rfl ?_
  refine x_iload_n rfl rfl ?_
  refine x_vi lm_Deal_61 vf_Row_get (ck_8_3 k0) rfl rfl (Nat.le_of_ble_eq_true rfl) rfl h (fun r2 D1 h => ?_)
  refine x_aload_n rfl rfl ?_
  refine x_gR lf_Deal_29 k0 rfl rfl ?_
  refine x_iload_n rfl rfl ?_
  refine x_vi lm_Deal_61 vf_Row_get (ck_8_4 k0) rfl rfl (Nat.le_of_ble_eq_true rfl) rfl h (fun r4 D3 h => ?_)
  refine x_iadd rfl ?_
  refine x_bipush (v := (52 : Int32)) rfl rfl ?_
  refine x_irem rfl (by decide) ?_
  refine x_istore_n (i := 3) (L1 := [(3, .int ((r2 + r4) - (r2 + r4) / (52 : Int32) * (52 : Int32))), (0, .ref a0), (1, .int x1), (2, .int x2)]) rfl rfl (Nat.le_of_ble_eq_true rfl) rfl ?_
  refine x_aload_n rfl rfl ?_
  refine x_gR lf_Deal_23 k0 rfl rfl ?_
  refine x_iload_n rfl rfl ?_
  refine x_bipush (v := (52 : Int32)) rfl rfl ?_
  refine x_imul rfl ?_
  refine x_iload_n rfl rfl ?_
  refine x_iadd rfl ?_
  refine x_iload_n rfl rfl ?_
  refine x_vv lm_Deal_98 vf_Row_set (ck_8_2 k0) rfl rfl (Nat.le_of_ble_eq_true rfl) rfl h (fun D5 h => ?_)
  refine x_aload_n rfl rfl ?_
  refine x_gR lf_Deal_29 k0 rfl rfl ?_
  refine x_iload_n rfl rfl ?_
  refine x_iconst (v := (1 : Int32)) rfl rfl ?_
  refine x_vv lm_Deal_65 vf_Row_add (ck_8_4 k0) rfl rfl (Nat.le_of_ble_eq_true rfl) rfl h (fun D6 h => ?_)
  exact x_vret rfl rfl h
theorem s_Deal_leave_0 {d : Nat} {D : xD} {Q : Option Value → xD → Prop} {a0 : Nat} {x1 : Int32} (k0 : xk a0 = 8) (h : xCi d m_Row_get [.ref (a0 + 9), .int x1] D (fun r2 D1 => (¬ r2 = 0 → xCi d m_Row_get [.ref (a0 + 7), .int x1] D1 (fun r4 D3 => xCv d m_Row_set [.ref (a0 + 7), .int x1, .int ((r4 + (1 : Int32)) - (r4 + (1 : Int32)) / (52 : Int32) * (52 : Int32))] D3 (fun D5 => xCv d m_Row_add [.ref (a0 + 9), .int x1, .int (-1 : Int32)] D5 (fun D6 => xCi d m_Row_get [.ref (a0 + 5), .int ((x1 * (52 : Int32)) + r4)] D6 (fun r8 D7 => Q (some (.int r8)) D7))))) ∧ (r2 = 0 → Q (some (.int (-1 : Int32))) D1))) : xPf (d + 1) m_Deal_leave 0 [(0, .ref a0), (1, .int x1)] [] D Q := by
  refine x_aload_n rfl rfl ?_
  refine x_gR lf_Deal_29 k0 rfl rfl ?_
  refine x_iload_n rfl rfl ?_
  refine x_vi lm_Deal_61 vf_Row_get (ck_8_4 k0) rfl rfl (Nat.le_of_ble_eq_true rfl) rfl h (fun r2 D1 h => ?_)
  refine x_if_ne (tgt := 13) rfl rfl (fun c => ?_) (fun c => ?_)
  · have h := h.1 c
    refine x_aload_n rfl rfl ?_
    refine x_gR lf_Deal_26 k0 rfl rfl ?_
    refine x_iload_n rfl rfl ?_
    refine x_vi lm_Deal_61 vf_Row_get (ck_8_3 k0) rfl rfl (Nat.le_of_ble_eq_true rfl) rfl h (fun r4 D3 h => ?_)
    refine x_istore_n (i := 2) (L1 := [(2, .int r4), (0, .ref a0), (1, .int x1)]) rfl rfl (Nat.le_of_ble_eq_true rfl) rfl ?_
    refine x_aload_n rfl rfl ?_
    refine x_gR lf_Deal_26 k0 rfl rfl ?_
    refine x_iload_n rfl rfl ?_
    refine x_iload_n rfl rfl ?_
    refine x_iconst (v := (1 : Int32)) rfl rfl ?_
    refine x_iadd rfl ?_
    refine x_bipush (v := (52 : Int32)) rfl rfl ?_
    refine x_irem rfl (by decide) ?_
    refine x_vv lm_Deal_98 vf_Row_set (ck_8_3 k0) rfl rfl (Nat.le_of_ble_eq_true rfl) rfl h (fun D5 h => ?_)
    refine x_aload_n rfl rfl ?_
    refine x_gR lf_Deal_29 k0 rfl rfl ?_
    refine x_iload_n rfl rfl ?_
    refine x_iconst (v := (-1 : Int32)) rfl rfl ?_
    refine x_vv lm_Deal_65 vf_Row_add (ck_8_4 k0) rfl rfl (Nat.le_of_ble_eq_true rfl) rfl h (fun D6 h => ?_)
    refine x_aload_n rfl rfl ?_
    refine x_gR lf_Deal_23 k0 rfl rfl ?_
    refine x_iload_n rfl rfl ?_
    refine x_bipush (v := (52 : Int32)) rfl rfl ?_
    refine x_imul rfl ?_
    refine x_iload_n rfl rfl ?_
    refine x_iadd rfl ?_
    refine x_vi lm_Deal_61 vf_Row_get (ck_8_2 k0) rfl rfl (Nat.le_of_ble_eq_true rfl) rfl h (fun r8 D7 h => ?_)
    exact x_iret rfl rfl h
  · have h := h.2 c
    refine x_iconst (v := (-1 : Int32)) rfl rfl ?_
    exact x_iret rfl rfl h
theorem s_Deal_fewest_0 {d : Nat} {D : xD} {Q : Option Value → xD → Prop} {a0 : Nat} {x1 : Int32} {x2 : Int32} (k0 : xk a0 = 8) (h : xPf (d + 1) m_Deal_fewest 15 [(0, .ref a0), (1, .int x1), (2, .int x2), (3, .int (x1 * (13 : Int32))), (4, .int x2), (5, .int (52 : Int32)), (6, .int (0 : Int32))] [] D Q) : xPf (d + 1) m_Deal_fewest 0 [(0, .ref a0), (1, .int x1), (2, .int x2)] [] D Q := by
  refine x_iload_n rfl rfl ?_
  refine x_bipush (v := (13 : Int32)) rfl rfl ?_
  refine x_imul rfl ?_
  refine x_istore_n (i := 3) (L1 := [(3, .int (x1 * (13 : Int32))), (0, .ref a0), (1, .int x1), (2, .int x2)]) rfl rfl (Nat.le_of_ble_eq_true rfl) rfl ?_
  refine x_iload_n rfl rfl ?_
  refine x_istore (i := 4) (L1 := [(4, .int x2), (3, .int (x1 * (13 : Int32))), (0, .ref a0), (1, .int x1), (2, .int x2)]) rfl (Nat.le_of_ble_eq_true rfl) rfl ?_
  refine x_bipush (v := (52 : Int32)) rfl rfl ?_
  refine x_istore (i := 5) (L1 := [(5, .int (52 : Int32)), (4, .int x2), (3, .int (x1 * (13 : Int32))), (0, .ref a0), (1, .int x1), (2, .int x2)]) rfl (Nat.le_of_ble_eq_true rfl) rfl ?_
  refine x_iconst (v := (0 : Int32)) rfl rfl ?_
  refine x_istore (i := 6) (L1 := [(6, .int (0 : Int32)), (5, .int (52 : Int32)), (4, .int x2), (3, .int (x1 * (13 : Int32))), (0, .ref a0), (1, .int x1), (2, .int x2)]) rfl (Nat.le_of_ble_eq_true rfl) rfl ?_
  exact xP_sub [4, 5, 6, 3, 2, 1, 0] rfl h
theorem s_Deal_fewest_15 {d : Nat} {D : xD} {Q : Option Value → xD → Prop} {a0 : Nat} {x1 : Int32} {x2 : Int32} {x3 : Int32} {x4 : Int32} {x5 : Int32} {x6 : Int32} (k0 : xk a0 = 8) (h : ((D.1 a0 7) ≤ x6 → Q (some (.int x4)) D) ∧ (¬ (D.1 a0 7) ≤ x6 → xCi d m_Row_get [.ref (a0 + 1), .int (x3 + x6)] D (fun r2 D1 => (r2 ≤ 0 → xPf (d + 1) m_Deal_fewest 15 [(0, .ref a0), (1, .int x1), (2, .int x2), (3, .int x3), (4, .int x4), (5, .int x5), (6, .int (x6 + (1 : Int32)))] [] D1 Q) ∧ (¬ r2 ≤ 0 → (x5 < r2 → xPf (d + 1) m_Deal_fewest 15 [(0, .ref a0), (1, .int x1), (2, .int x2), (3, .int x3), (4, .int x4), (5, .int x5), (6, .int (x6 + (1 : Int32)))] [] D1 Q) ∧ (¬ x5 < r2 → (x6 = x2 → xPf (d + 1) m_Deal_fewest 15 [(0, .ref a0), (1, .int x1), (2, .int x2), (3, .int x3), (4, .int x4), (5, .int x5), (6, .int (x6 + (1 : Int32)))] [] D1 Q) ∧ (¬ x6 = x2 → xPf (d + 1) m_Deal_fewest 15 [(0, .ref a0), (1, .int x1), (2, .int x2), (3, .int x3), (4, .int x6), (5, .int r2), (6, .int (x6 + (1 : Int32)))] [] D1 Q)))))) : xPf (d + 1) m_Deal_fewest 15 [(0, .ref a0), (1, .int x1), (2, .int x2), (3, .int x3), (4, .int x4), (5, .int x5), (6, .int x6)] [] D Q := by
  refine x_iload rfl rfl ?_
  refine x_aload_n rfl rfl ?_
  refine x_gI lf_Deal_53 k0 rfl rfl ?_
  refine x_icmp_ge (tgt := 69) rfl rfl (fun c => ?_) (fun c => ?_)
  · have h := h.1 c
    refine x_iload rfl rfl ?_
    exact x_iret rfl rfl h
  · have h := h.2 c
    refine x_aload_n rfl rfl ?_
    refine x_gR lf_Deal_14 k0 rfl rfl ?_
    refine x_iload_n rfl rfl ?_
    refine x_iload rfl rfl ?_
    refine x_iadd rfl ?_
    refine x_vi lm_Deal_61 vf_Row_get (ck_8_0 k0) rfl rfl (Nat.le_of_ble_eq_true rfl) rfl h (fun r2 D1 h => ?_)
    refine x_istore (i := 7) (L1 := [(7, .int r2), (0, .ref a0), (1, .int x1), (2, .int x2), (3, .int x3), (4, .int x4), (5, .int x5), (6, .int x6)]) rfl (Nat.le_of_ble_eq_true rfl) rfl ?_
    refine x_iload rfl rfl ?_
    refine x_if_le (tgt := 63) rfl rfl (fun c => ?_) (fun c => ?_)
    · have h := h.1 c
      refine x_iinc (i := 6) (v := x6 + (1 : Int32)) (L1 := [(6, .int (x6 + (1 : Int32))), (7, .int r2), (0, .ref a0), (1, .int x1), (2, .int x2), (3, .int x3), (4, .int x4), (5, .int x5)]) rfl rfl rfl (Nat.le_of_ble_eq_true rfl) rfl ?_
      refine x_goto (tgt := 15) rfl rfl ?_
      exact xP_sub [2, 3, 4, 5, 6, 7, 0] rfl h
    · have h := h.2 c
      refine x_iload rfl rfl ?_
      refine x_iload rfl rfl ?_
      refine x_icmp_gt (tgt := 63) rfl rfl (fun c => ?_) (fun c => ?_)
      · have h := h.1 c
        refine x_iinc (i := 6) (v := x6 + (1 : Int32)) (L1 := [(6, .int (x6 + (1 : Int32))), (7, .int r2), (0, .ref a0), (1, .int x1), (2, .int x2), (3, .int x3), (4, .int x4), (5, .int x5)]) rfl rfl rfl (Nat.le_of_ble_eq_true rfl) rfl ?_
        refine x_goto (tgt := 15) rfl rfl ?_
        exact xP_sub [2, 3, 4, 5, 6, 7, 0] rfl h
      · have h := h.2 c
        refine x_iload rfl rfl ?_
        refine x_iload_n rfl rfl ?_
        refine x_icmp_eq (tgt := 63) rfl rfl (fun c => ?_) (fun c => ?_)
        · have h := h.1 c
          refine x_iinc (i := 6) (v := x6 + (1 : Int32)) (L1 := [(6, .int (x6 + (1 : Int32))), (7, .int r2), (0, .ref a0), (1, .int x1), (2, .int x2), (3, .int x3), (4, .int x4), (5, .int x5)]) rfl rfl rfl (Nat.le_of_ble_eq_true rfl) rfl ?_
          refine x_goto (tgt := 15) rfl rfl ?_
          exact xP_sub [2, 3, 4, 5, 6, 7, 0] rfl h
        · have h := h.2 c
          refine x_iload rfl rfl ?_
          refine x_istore (i := 4) (L1 := [(4, .int x6), (7, .int r2), (0, .ref a0), (1, .int x1), (2, .int x2), (3, .int x3), (5, .int x5), (6, .int x6)]) rfl (Nat.le_of_ble_eq_true rfl) rfl ?_
          refine x_iload rfl rfl ?_
          refine x_istore (i := 5) (L1 := [(5, .int r2), (4, .int x6), (7, .int r2), (0, .ref a0), (1, .int x1), (2, .int x2), (3, .int x3), (6, .int x6)]) rfl (Nat.le_of_ble_eq_true rfl) rfl ?_
          refine x_iinc (i := 6) (v := x6 + (1 : Int32)) (L1 := [(6, .int (x6 + (1 : Int32))), (5, .int r2), (4, .int x6), (7, .int r2), (0, .ref a0), (1, .int x1), (2, .int x2), (3, .int x3)]) rfl rfl rfl (Nat.le_of_ble_eq_true rfl) rfl ?_
          refine x_goto (tgt := 15) rfl rfl ?_
          exact xP_sub [4, 5, 6, 7, 2, 1, 0] rfl h
theorem s_Deal_greatest_0 {d : Nat} {D : xD} {Q : Option Value → xD → Prop} {a0 : Nat} {x1 : Int32} {x2 : Int32} (k0 : xk a0 = 8) (h : xPf (d + 1) m_Deal_greatest 7 [(0, .ref a0), (1, .int x1), (2, .int x2), (3, .int ((D.1 a0 7) - (1 : Int32)))] [] D Q) : xPf (d + 1) m_Deal_greatest 0 [(0, .ref a0), (1, .int x1), (2, .int x2)] [] D Q := by
  refine x_aload_n rfl rfl ?_
  refine x_gI lf_Deal_53 k0 rfl rfl ?_
  refine x_iconst (v := (1 : Int32)) rfl rfl ?_
  refine x_isub rfl ?_
  refine x_istore_n (i := 3) (L1 := [(3, .int ((D.1 a0 7) - (1 : Int32))), (0, .ref a0), (1, .int x1), (2, .int x2)]) rfl rfl (Nat.le_of_ble_eq_true rfl) rfl ?_
  exact xP_sub [1, 2, 3, 0] rfl h
theorem s_Deal_greatest_7 {d : Nat} {D : xD} {Q : Option Value → xD → Prop} {a0 : Nat} {x1 : Int32} {x2 : Int32} {x3 : Int32} (k0 : xk a0 = 8) (h : (x3 < 0 → Q (some (.int x2)) D) ∧ (¬ x3 < 0 → (x3 = x2 → xPf (d + 1) m_Deal_greatest 7 [(0, .ref a0), (1, .int x1), (2, .int x2), (3, .int (x3 + (-1 : Int32)))] [] D Q) ∧ (¬ x3 = x2 → xCi d m_Row_get [.ref (a0 + 1), .int ((x1 * (13 : Int32)) + x3)] D (fun r2 D1 => (r2 ≤ 0 → xPf (d + 1) m_Deal_greatest 7 [(0, .ref a0), (1, .int x1), (2, .int x2), (3, .int (x3 + (-1 : Int32)))] [] D1 Q) ∧ (¬ r2 ≤ 0 → Q (some (.int x3)) D1))))) : xPf (d + 1) m_Deal_greatest 7 [(0, .ref a0), (1, .int x1), (2, .int x2), (3, .int x3)] [] D Q := by
  refine x_iload_n rfl rfl ?_
  refine x_if_lt (tgt := 40) rfl rfl (fun c => ?_) (fun c => ?_)
  · have h := h.1 c
    refine x_iload_n rfl rfl ?_
    exact x_iret rfl rfl h
  · have h := h.2 c
    refine x_iload_n rfl rfl ?_
    refine x_iload_n rfl rfl ?_
    refine x_icmp_eq (tgt := 34) rfl rfl (fun c => ?_) (fun c => ?_)
    · have h := h.1 c
      refine x_iinc (i := 3) (v := x3 + (-1 : Int32)) (L1 := [(3, .int (x3 + (-1 : Int32))), (0, .ref a0), (1, .int x1), (2, .int x2)]) rfl rfl rfl (Nat.le_of_ble_eq_true rfl) rfl ?_
      refine x_goto (tgt := 7) rfl rfl ?_
      exact xP_sub [1, 2, 3, 0] rfl h
    · have h := h.2 c
      refine x_aload_n rfl rfl ?_
      refine x_gR lf_Deal_14 k0 rfl rfl ?_
      refine x_iload_n rfl rfl ?_
      refine x_bipush (v := (13 : Int32)) rfl rfl ?_
      refine x_imul rfl ?_
      refine x_iload_n rfl rfl ?_
      refine x_iadd rfl ?_
      refine x_vi lm_Deal_61 vf_Row_get (ck_8_0 k0) rfl rfl (Nat.le_of_ble_eq_true rfl) rfl h (fun r2 D1 h => ?_)
      refine x_if_le (tgt := 34) rfl rfl (fun c => ?_) (fun c => ?_)
      · have h := h.1 c
        refine x_iinc (i := 3) (v := x3 + (-1 : Int32)) (L1 := [(3, .int (x3 + (-1 : Int32))), (0, .ref a0), (1, .int x1), (2, .int x2)]) rfl rfl rfl (Nat.le_of_ble_eq_true rfl) rfl ?_
        refine x_goto (tgt := 7) rfl rfl ?_
        exact xP_sub [1, 2, 3, 0] rfl h
      · have h := h.2 c
        refine x_iload_n rfl rfl ?_
        exact x_iret rfl rfl h
theorem s_Deeds_play_0 {d : Nat} {D : xD} {Q : Option Value → xD → Prop} {a0 : Nat} {a1 : Nat} {a2 : Nat} {a3 : Nat} {x4 : Int32} (k0 : xk a0 = 7) (k1 : xk a1 = 4) (k2 : xk a2 = 2) (k3 : xk a3 = 2) (h : xCi d m_Table_people [.ref a1] D (fun r2 D1 => ∀ D3 : xD, D3 = (xu D1.1 a0 3 r2, D1.2) → xCi d m_Table_alike [.ref a1] D3 (fun r5 D4 => ∀ D6 : xD, D6 = (xu D4.1 a0 4 r5, D4.2) → xCv d m_Deal_start [.ref (a0 + 1), .ref a1, .ref a2] D6 (fun D7 => xCv d m_Row_clear [.ref (a0 + 12)] D7 (fun D8 => xCv d m_Row_fill [.ref (a0 + 14), .int (D8.1 a0 3), .int (0 : Int32)] D8 (fun D9 => ∀ D10 : xD, D10 = (xu D9.1 a0 5 (0 : Int32), D9.2) → ∀ D11 : xD, D11 = (xu D10.1 a0 6 (0 : Int32), D10.2) → ∀ D12 : xD, D12 = (xu D11.1 a0 7 (-1 : Int32), D11.2) → xCi d m_Row_size [.ref a3] D12 (fun r14 D13 => ∀ r15 : Int32, r15 = (if (r14 / (3 : Int32)) < x4 then (r14 / (3 : Int32)) else x4) → xPf (d + 1) m_Deeds_play 75 [(0, .ref a0), (1, .ref a1), (2, .ref a2), (3, .ref a3), (4, .int x4), (5, .int r15), (6, .int (0 : Int32))] [] D13 Q))))))) : xPf (d + 1) m_Deeds_play 0 [(0, .ref a0), (1, .ref a1), (2, .ref a2), (3, .ref a3), (4, .int x4)] [] D Q := by
  refine x_aload_n rfl rfl ?_
  refine x_aload_n rfl rfl ?_
  refine x_vi lm_Deeds_30 vf_Table_people k1 rfl rfl (Nat.le_of_ble_eq_true rfl) rfl h (fun r2 D1 h => ?_)
  refine x_pIn lp_Deeds_36 nf_7_3 k0 rfl rfl (fun D3 eD3 => ?_)
  have h := h D3 eD3
  refine x_aload_n rfl rfl ?_
  refine x_aload_n rfl rfl ?_
  refine x_vi lm_Deeds_39 vf_Table_alike k1 rfl rfl (Nat.le_of_ble_eq_true rfl) rfl h (fun r5 D4 h => ?_)
  refine x_pIn lp_Deeds_42 nf_7_4 k0 rfl rfl (fun D6 eD6 => ?_)
  have h := h D6 eD6
  refine x_aload_n rfl rfl ?_
  refine x_gR lf_Deeds_12 k0 rfl rfl ?_
  refine x_aload_n rfl rfl ?_
  refine x_aload_n rfl rfl ?_
  refine x_vv lm_Deeds_44 vf_Deal_start (ck_7_0 k0) rfl rfl (Nat.le_of_ble_eq_true rfl) rfl h (fun D7 h => ?_)
  refine x_aload_n rfl rfl ?_
  refine x_gR lf_Deeds_23 k0 rfl rfl ?_
  refine x_vv lm_Deeds_48 vf_Row_clear (ck_7_1 k0) rfl rfl (Nat.le_of_ble_eq_true rfl) rfl h (fun D8 h => ?_)
  refine x_aload_n rfl rfl ?_
  refine x_gR lf_Deeds_27 k0 rfl rfl ?_
  refine x_aload_n rfl rfl ?_
  refine x_gI lf_Deeds_36 k0 rfl rfl ?_
  refine x_iconst (v := (0 : Int32)) rfl rfl ?_
  refine x_vv lm_Deeds_51 vf_Row_fill (ck_7_2 k0) rfl rfl (Nat.le_of_ble_eq_true rfl) rfl h (fun D9 h => ?_)
  refine x_aload_n rfl rfl ?_
  refine x_iconst (v := (0 : Int32)) rfl rfl ?_
  refine x_pIn lp_Deeds_55 nf_7_5 k0 rfl rfl (fun D10 eD10 => ?_)
  have h := h D10 eD10
  refine x_aload_n rfl rfl ?_
  refine x_iconst (v := (0 : Int32)) rfl rfl ?_
  refine x_pIn lp_Deeds_58 nf_7_6 k0 rfl rfl (fun D11 eD11 => ?_)
  have h := h D11 eD11
  refine x_aload_n rfl rfl ?_
  refine x_iconst (v := (-1 : Int32)) rfl rfl ?_
  refine x_pIn lp_Deeds_61 nf_7_7 k0 rfl rfl (fun D12 eD12 => ?_)
  have h := h D12 eD12
  refine x_iload rfl rfl ?_
  refine x_aload_n rfl rfl ?_
  refine x_vi lm_Deeds_64 vf_Row_size k3 rfl rfl (Nat.le_of_ble_eq_true rfl) rfl h (fun r14 D13 h => ?_)
  refine x_iconst (v := (3 : Int32)) rfl rfl ?_
  refine x_idiv rfl (by decide) ?_
  refine x_mnn wd_903 (Nat.le_of_ble_eq_true rfl) rfl (fun r15 er15 => ?_)
  have h := h r15 er15
  refine x_istore (i := 5) (L1 := [(5, .int r15), (0, .ref a0), (1, .ref a1), (2, .ref a2), (3, .ref a3), (4, .int x4)]) rfl (Nat.le_of_ble_eq_true rfl) rfl ?_
  refine x_iconst (v := (0 : Int32)) rfl rfl ?_
  refine x_istore (i := 6) (L1 := [(6, .int (0 : Int32)), (5, .int r15), (0, .ref a0), (1, .ref a1), (2, .ref a2), (3, .ref a3), (4, .int x4)]) rfl (Nat.le_of_ble_eq_true rfl) rfl ?_
  exact xP_sub [2, 3, 4, 5, 6, 1, 0] rfl h
theorem s_Deeds_play_75 {d : Nat} {D : xD} {Q : Option Value → xD → Prop} {a0 : Nat} {a1 : Nat} {a2 : Nat} {a3 : Nat} {x4 : Int32} {x5 : Int32} {x6 : Int32} (k0 : xk a0 = 7) (k1 : xk a1 = 4) (k2 : xk a2 = 2) (k3 : xk a3 = 2) (h : (x5 ≤ x6 → Q (some (.int x5)) D) ∧ (¬ x5 ≤ x6 → xCi d m_Row_get [.ref a3, .int (x6 * (3 : Int32))] D (fun r2 D1 => xCi d m_Row_get [.ref a3, .int ((x6 * (3 : Int32)) + (1 : Int32))] D1 (fun r4 D3 => xCi d m_Row_get [.ref a3, .int ((x6 * (3 : Int32)) + (2 : Int32))] D3 (fun r6 D5 => xCi d m_Deeds_happens [.ref a0, .int r2, .int r4, .int r6] D5 (fun r8 D7 => (¬ r8 = 0 → xPf (d + 1) m_Deeds_play 75 [(0, .ref a0), (1, .ref a1), (2, .ref a2), (3, .ref a3), (4, .int x4), (5, .int x5), (6, .int (x6 + (1 : Int32)))] [] D7 Q) ∧ (r8 = 0 → Q (some (.int x6)) D7))))))) : xPf (d + 1) m_Deeds_play 75 [(0, .ref a0), (1, .ref a1), (2, .ref a2), (3, .ref a3), (4, .int x4), (5, .int x5), (6, .int x6)] [] D Q := by
  refine x_iload rfl rfl ?_
  refine x_iload rfl rfl ?_
  refine x_icmp_ge (tgt := 126) rfl rfl (fun c => ?_) (fun c => ?_)
  · have h := h.1 c
    refine x_iload rfl rfl ?_
    exact x_iret rfl rfl h
  · have h := h.2 c
    refine x_iload rfl rfl ?_
    refine x_iconst (v := (3 : Int32)) rfl rfl ?_
    refine x_imul rfl ?_
    refine x_istore (i := 7) (L1 := [(7, .int (x6 * (3 : Int32))), (0, .ref a0), (1, .ref a1), (2, .ref a2), (3, .ref a3), (4, .int x4), (5, .int x5), (6, .int x6)]) rfl (Nat.le_of_ble_eq_true rfl) rfl ?_
    refine x_aload_n rfl rfl ?_
    refine x_aload_n rfl rfl ?_
    refine x_iload rfl rfl ?_
    refine x_vi lm_Deeds_73 vf_Row_get k3 rfl rfl (Nat.le_of_ble_eq_true rfl) rfl h (fun r2 D1 h => ?_)
    refine x_aload_n rfl rfl ?_
    refine x_iload rfl rfl ?_
    refine x_iconst (v := (1 : Int32)) rfl rfl ?_
    refine x_iadd rfl ?_
    refine x_vi lm_Deeds_73 vf_Row_get k3 rfl rfl (Nat.le_of_ble_eq_true rfl) rfl h (fun r4 D3 h => ?_)
    refine x_aload_n rfl rfl ?_
    refine x_iload rfl rfl ?_
    refine x_iconst (v := (2 : Int32)) rfl rfl ?_
    refine x_iadd rfl ?_
    refine x_vi lm_Deeds_73 vf_Row_get k3 rfl rfl (Nat.le_of_ble_eq_true rfl) rfl h (fun r6 D5 h => ?_)
    refine x_vi lm_Deeds_77 vf_Deeds_happens k0 rfl rfl (Nat.le_of_ble_eq_true rfl) rfl h (fun r8 D7 h => ?_)
    refine x_if_ne (tgt := 120) rfl rfl (fun c => ?_) (fun c => ?_)
    · have h := h.1 c
      refine x_iinc (i := 6) (v := x6 + (1 : Int32)) (L1 := [(6, .int (x6 + (1 : Int32))), (7, .int (x6 * (3 : Int32))), (0, .ref a0), (1, .ref a1), (2, .ref a2), (3, .ref a3), (4, .int x4), (5, .int x5)]) rfl rfl rfl (Nat.le_of_ble_eq_true rfl) rfl ?_
      refine x_goto (tgt := 75) rfl rfl ?_
      exact xP_sub [2, 3, 4, 5, 6, 7, 0] rfl h
    · have h := h.2 c
      refine x_iload rfl rfl ?_
      exact x_iret rfl rfl h
theorem s_Deeds_happens_0 {d : Nat} {D : xD} {Q : Option Value → xD → Prop} {a0 : Nat} {x1 : Int32} {x2 : Int32} {x3 : Int32} (k0 : xk a0 = 7) (h : ((D.1 a0 7) = (-1 : Int32) → (¬ x1 = (4 : Int32) → (x2 < 0 → Q (some (.int (0 : Int32))) D) ∧ (¬ x2 < 0 → (x2 < (D.1 a0 3) → (x1 = (0 : Int32) → xCi d m_Deal_holdsCards [.ref (a0 + 1), .int x2] D (fun r3 D2 => (¬ r3 = (D2.1 a0 4) → Q (some (.int (0 : Int32))) D2) ∧ (r3 = (D2.1 a0 4) → xCi d m_Deal_take [.ref (a0 + 1), .int x2] D2 (fun r5 D4 => (r5 = (-1 : Int32) → Q (some (.int (0 : Int32))) D4) ∧ (¬ r5 = (-1 : Int32) → Q (some (.int (1 : Int32))) D4))))) ∧ (x1 = (1 : Int32) → xCi d m_Deeds_handsOn [.ref a0, .int x2, .int x3] D (fun r7 D6 => (r7 = 0 ∨ r7 = 1) ∧ Q (some (.int r7)) D6)) ∧ (x1 = (2 : Int32) → xCi d m_Deeds_reaches [.ref a0, .int x2] D (fun r9 D8 => (r9 = 0 ∨ r9 = 1) ∧ Q (some (.int r9)) D8)) ∧ (((x1).toInt < 0 ∨ 2 < (x1).toInt) → ∀ D1 : xD, D1 = (xu D.1 a0 6 ((D.1 a0 6) + (1 : Int32)), D.2) → Q (some (.int (1 : Int32))) D1)) ∧ (¬ x2 < (D.1 a0 3) → Q (some (.int (0 : Int32))) D))) ∧ (x1 = (4 : Int32) → ∀ D10 : xD, D10 = (xu D.1 a0 5 ((D.1 a0 5) + x2), D.2) → Q (some (.int (1 : Int32))) D10)) ∧ (¬ (D.1 a0 7) = (-1 : Int32) → Q (some (.int (0 : Int32))) D)) : xPf (d + 1) m_Deeds_happens 0 [(0, .ref a0), (1, .int x1), (2, .int x2), (3, .int x3)] [] D Q := by
  refine x_aload_n rfl rfl ?_
  refine x_gI lf_Deeds_61 k0 rfl rfl ?_
  refine x_iconst (v := (-1 : Int32)) rfl rfl ?_
  refine x_icmp_eq (tgt := 10) rfl rfl (fun c => ?_) (fun c => ?_)
  · have h := h.1 c
    refine x_iload_n rfl rfl ?_
    refine x_iconst (v := (4 : Int32)) rfl rfl ?_
    refine x_icmp_ne (tgt := 27) rfl rfl (fun c => ?_) (fun c => ?_)
    · have h := h.1 c
      refine x_iload_n rfl rfl ?_
      refine x_if_lt (tgt := 39) rfl rfl (fun c => ?_) (fun c => ?_)
      · have h := h.1 c
        refine x_iconst (v := (0 : Int32)) rfl rfl ?_
        exact x_zr rfl (Or.inl rfl) rfl h
      · have h := h.2 c
        refine x_iload_n rfl rfl ?_
        refine x_aload_n rfl rfl ?_
        refine x_gI lf_Deeds_36 k0 rfl rfl ?_
        refine x_icmp_lt (tgt := 41) rfl rfl (fun c => ?_) (fun c => ?_)
        · have h := h.1 c
          refine x_iload_n rfl rfl ?_
          rcases Decidable.em ((x1).toInt < 0 ∨ 2 < (x1).toInt) with q | q
          · refine x_tableOut (tgt := 114) rfl q rfl ?_
            have h := h.2.2.2 q
            refine x_aload_n rfl rfl ?_
            refine x_dup rfl rfl ?_
            refine x_gI lf_Deeds_58 k0 rfl rfl ?_
            refine x_iconst (v := (1 : Int32)) rfl rfl ?_
            refine x_iadd rfl ?_
            refine x_pIn lp_Deeds_58 nf_7_6 k0 rfl rfl (fun D1 eD1 => ?_)
            have h := h D1 eD1
            refine x_iconst (v := (1 : Int32)) rfl rfl ?_
            exact x_zr rfl (Or.inr rfl) rfl h
          · have q : (x1).toInt = 0 ∨ (x1).toInt = 1 ∨ (x1).toInt = 2 := by omega
            rcases q with q | q | q
            · have q : x1 = (0 : Int32) := Int32.toInt_inj.mp q
              refine x_tabK (k := (0 : Int32)) (tgt := 68) q rfl (by decide) (by decide) rfl rfl ?_
              have h := h.1 q
              refine x_aload_n rfl rfl ?_
              refine x_gR lf_Deeds_12 k0 rfl rfl ?_
              refine x_iload_n rfl rfl ?_
              refine x_vi lm_Deeds_81 vf_Deal_holdsCards (ck_7_0 k0) rfl rfl (Nat.le_of_ble_eq_true rfl) rfl h (fun r3 D2 h => ?_)
              refine x_aload_n rfl rfl ?_
              refine x_gI lf_Deeds_42 k0 rfl rfl ?_
              refine x_icmp_ne (tgt := 99) rfl rfl (fun c => ?_) (fun c => ?_)
              · have h := h.1 c
                refine x_iconst (v := (0 : Int32)) rfl rfl ?_
                exact x_zr rfl (Or.inl rfl) rfl h
              · have h := h.2 c
                refine x_aload_n rfl rfl ?_
                refine x_gR lf_Deeds_12 k0 rfl rfl ?_
                refine x_iload_n rfl rfl ?_
                refine x_vi lm_Deeds_84 vf_Deal_take (ck_7_0 k0) rfl rfl (Nat.le_of_ble_eq_true rfl) rfl h (fun r5 D4 h => ?_)
                refine x_iconst (v := (-1 : Int32)) rfl rfl ?_
                refine x_icmp_eq (tgt := 99) rfl rfl (fun c => ?_) (fun c => ?_)
                · have h := h.1 c
                  refine x_iconst (v := (0 : Int32)) rfl rfl ?_
                  exact x_zr rfl (Or.inl rfl) rfl h
                · have h := h.2 c
                  refine x_iconst (v := (1 : Int32)) rfl rfl ?_
                  refine x_goto (tgt := 100) rfl rfl ?_
                  exact x_zr rfl (Or.inr rfl) rfl h
            · have q : x1 = (1 : Int32) := Int32.toInt_inj.mp q
              refine x_tabK (k := (1 : Int32)) (tgt := 101) q rfl (by decide) (by decide) rfl rfl ?_
              have h := h.2.1 q
              refine x_aload_n rfl rfl ?_
              refine x_iload_n rfl rfl ?_
              refine x_iload_n rfl rfl ?_
              refine x_vi lm_Deeds_87 vf_Deeds_handsOn k0 rfl rfl (Nat.le_of_ble_eq_true rfl) rfl h (fun r7 D6 h => ?_)
              exact x_zr rfl h.1 rfl h.2
            · have q : x1 = (2 : Int32) := Int32.toInt_inj.mp q
              refine x_tabK (k := (2 : Int32)) (tgt := 108) q rfl (by decide) (by decide) rfl rfl ?_
              have h := h.2.2.1 q
              refine x_aload_n rfl rfl ?_
              refine x_iload_n rfl rfl ?_
              refine x_vi lm_Deeds_91 vf_Deeds_reaches k0 rfl rfl (Nat.le_of_ble_eq_true rfl) rfl h (fun r9 D8 h => ?_)
              exact x_zr rfl h.1 rfl h.2
        · have h := h.2 c
          refine x_iconst (v := (0 : Int32)) rfl rfl ?_
          exact x_zr rfl (Or.inl rfl) rfl h
    · have h := h.2 c
      refine x_aload_n rfl rfl ?_
      refine x_dup rfl rfl ?_
      refine x_gI lf_Deeds_55 k0 rfl rfl ?_
      refine x_iload_n rfl rfl ?_
      refine x_iadd rfl ?_
      refine x_pIn lp_Deeds_55 nf_7_5 k0 rfl rfl (fun D10 eD10 => ?_)
      have h := h D10 eD10
      refine x_iconst (v := (1 : Int32)) rfl rfl ?_
      exact x_zr rfl (Or.inr rfl) rfl h
  · have h := h.2 c
    refine x_iconst (v := (0 : Int32)) rfl rfl ?_
    exact x_zr rfl (Or.inl rfl) rfl h
theorem s_Deeds_handsOn_0 {d : Nat} {D : xD} {Q : Option Value → xD → Prop} {a0 : Nat} {x1 : Int32} {x2 : Int32} (k0 : xk a0 = 7) (h : xCi d m_Deal_holdsCards [.ref (a0 + 1), .int x1] D (fun r2 D1 => (¬ r2 = ((D1.1 a0 4) + (1 : Int32)) → Q (some (.int (0 : Int32))) D1) ∧ (r2 = ((D1.1 a0 4) + (1 : Int32)) → xCi d m_Deal_holdsOf [.ref (a0 + 1), .int x1, .int x2] D1 (fun r4 D3 => (¬ r4 = 0 → xCv d m_Deal_handOn [.ref (a0 + 1), .int x1, .int x2] D3 (fun D5 => Q (some (.int (1 : Int32))) D5)) ∧ (r4 = 0 → Q (some (.int (0 : Int32))) D3))))) : xPf (d + 1) m_Deeds_handsOn 0 [(0, .ref a0), (1, .int x1), (2, .int x2)] [] D Q := by
  refine x_aload_n rfl rfl ?_
  refine x_gR lf_Deeds_12 k0 rfl rfl ?_
  refine x_iload_n rfl rfl ?_
  refine x_vi lm_Deeds_81 vf_Deal_holdsCards (ck_7_0 k0) rfl rfl (Nat.le_of_ble_eq_true rfl) rfl h (fun r2 D1 h => ?_)
  refine x_aload_n rfl rfl ?_
  refine x_gI lf_Deeds_42 k0 rfl rfl ?_
  refine x_iconst (v := (1 : Int32)) rfl rfl ?_
  refine x_iadd rfl ?_
  refine x_icmp_ne (tgt := 29) rfl rfl (fun c => ?_) (fun c => ?_)
  · have h := h.1 c
    refine x_iconst (v := (0 : Int32)) rfl rfl ?_
    exact x_zr rfl (Or.inl rfl) rfl h
  · have h := h.2 c
    refine x_aload_n rfl rfl ?_
    refine x_gR lf_Deeds_12 k0 rfl rfl ?_
    refine x_iload_n rfl rfl ?_
    refine x_iload_n rfl rfl ?_
    refine x_vi lm_Deeds_95 vf_Deal_holdsOf (ck_7_0 k0) rfl rfl (Nat.le_of_ble_eq_true rfl) rfl h (fun r4 D3 h => ?_)
    refine x_if_ne (tgt := 31) rfl rfl (fun c => ?_) (fun c => ?_)
    · have h := h.1 c
      refine x_aload_n rfl rfl ?_
      refine x_gR lf_Deeds_12 k0 rfl rfl ?_
      refine x_iload_n rfl rfl ?_
      refine x_iload_n rfl rfl ?_
      refine x_vv lm_Deeds_98 vf_Deal_handOn (ck_7_0 k0) rfl rfl (Nat.le_of_ble_eq_true rfl) rfl h (fun D5 h => ?_)
      refine x_iconst (v := (1 : Int32)) rfl rfl ?_
      exact x_zr rfl (Or.inr rfl) rfl h
    · have h := h.2 c
      refine x_iconst (v := (0 : Int32)) rfl rfl ?_
      exact x_zr rfl (Or.inl rfl) rfl h
theorem s_Deeds_reaches_0 {d : Nat} {D : xD} {Q : Option Value → xD → Prop} {a0 : Nat} {x1 : Int32} (k0 : xk a0 = 7) (h : xCi d m_Row_countOf [.ref (a0 + 12), .int x1] D (fun r2 D1 => (r2 ≤ 0 → xCi d m_Row_size [.ref (a0 + 12)] D1 (fun r4 D3 => (¬ r4 = 0 → xCv d m_Row_push [.ref (a0 + 12), .int x1] D3 (fun D5 => xCi d m_Row_size [.ref (a0 + 12)] D5 (fun r7 D6 => (¬ r7 = ((D6.1 a0 3) - (1 : Int32)) → Q (some (.int (1 : Int32))) D6) ∧ (r7 = ((D6.1 a0 3) - (1 : Int32)) → xCi d m_Deeds_withoutSpoon [.ref a0] D6 (fun r9 D8 => ∀ D10 : xD, D10 = (xu D8.1 a0 7 r9, D8.2) → xCv d m_Row_add [.ref (a0 + 14), .int (D10.1 a0 7), .int (1 : Int32)] D10 (fun D11 => Q (some (.int (1 : Int32))) D11)))))) ∧ (r4 = 0 → xCi d m_Deal_hasAlike [.ref (a0 + 1), .int x1] D3 (fun r13 D12 => (¬ r13 = 0 → xCv d m_Row_push [.ref (a0 + 12), .int x1] D12 (fun D14 => xCi d m_Row_size [.ref (a0 + 12)] D14 (fun r16 D15 => (¬ r16 = ((D15.1 a0 3) - (1 : Int32)) → Q (some (.int (1 : Int32))) D15) ∧ (r16 = ((D15.1 a0 3) - (1 : Int32)) → xCi d m_Deeds_withoutSpoon [.ref a0] D15 (fun r18 D17 => ∀ D19 : xD, D19 = (xu D17.1 a0 7 r18, D17.2) → xCv d m_Row_add [.ref (a0 + 14), .int (D19.1 a0 7), .int (1 : Int32)] D19 (fun D20 => Q (some (.int (1 : Int32))) D20)))))) ∧ (r13 = 0 → xCv d m_Row_add [.ref (a0 + 14), .int x1, .int (1 : Int32)] D12 (fun D21 => Q (some (.int (1 : Int32))) D21)))))) ∧ (¬ r2 ≤ 0 → Q (some (.int (0 : Int32))) D1))) : xPf (d + 1) m_Deeds_reaches 0 [(0, .ref a0), (1, .int x1)] [] D Q := by
  refine x_aload_n rfl rfl ?_
  refine x_gR lf_Deeds_23 k0 rfl rfl ?_
  refine x_iload_n rfl rfl ?_
  refine x_vi lm_Deeds_101 vf_Row_countOf (ck_7_1 k0) rfl rfl (Nat.le_of_ble_eq_true rfl) rfl h (fun r2 D1 h => ?_)
  refine x_if_le (tgt := 13) rfl rfl (fun c => ?_) (fun c => ?_)
  · have h := h.1 c
    refine x_aload_n rfl rfl ?_
    refine x_gR lf_Deeds_23 k0 rfl rfl ?_
    refine x_vi lm_Deeds_64 vf_Row_size (ck_7_1 k0) rfl rfl (Nat.le_of_ble_eq_true rfl) rfl h (fun r4 D3 h => ?_)
    refine x_if_ne (tgt := 45) rfl rfl (fun c => ?_) (fun c => ?_)
    · have h := h.1 c
      refine x_aload_n rfl rfl ?_
      refine x_gR lf_Deeds_23 k0 rfl rfl ?_
      refine x_iload_n rfl rfl ?_
      refine x_vv lm_Deeds_110 vf_Row_push (ck_7_1 k0) rfl rfl (Nat.le_of_ble_eq_true rfl) rfl h (fun D5 h => ?_)
      refine x_aload_n rfl rfl ?_
      refine x_gR lf_Deeds_23 k0 rfl rfl ?_
      refine x_vi lm_Deeds_64 vf_Row_size (ck_7_1 k0) rfl rfl (Nat.le_of_ble_eq_true rfl) rfl h (fun r7 D6 h => ?_)
      refine x_aload_n rfl rfl ?_
      refine x_gI lf_Deeds_36 k0 rfl rfl ?_
      refine x_iconst (v := (1 : Int32)) rfl rfl ?_
      refine x_isub rfl ?_
      refine x_icmp_ne (tgt := 89) rfl rfl (fun c => ?_) (fun c => ?_)
      · have h := h.1 c
        refine x_iconst (v := (1 : Int32)) rfl rfl ?_
        exact x_zr rfl (Or.inr rfl) rfl h
      · have h := h.2 c
        refine x_aload_n rfl rfl ?_
        refine x_aload_n rfl rfl ?_
        refine x_vi lm_Deeds_113 vf_Deeds_withoutSpoon k0 rfl rfl (Nat.le_of_ble_eq_true rfl) rfl h (fun r9 D8 h => ?_)
        refine x_pIn lp_Deeds_61 nf_7_7 k0 rfl rfl (fun D10 eD10 => ?_)
        have h := h D10 eD10
        refine x_aload_n rfl rfl ?_
        refine x_gR lf_Deeds_27 k0 rfl rfl ?_
        refine x_aload_n rfl rfl ?_
        refine x_gI lf_Deeds_61 k0 rfl rfl ?_
        refine x_iconst (v := (1 : Int32)) rfl rfl ?_
        refine x_vv lm_Deeds_107 vf_Row_add (ck_7_2 k0) rfl rfl (Nat.le_of_ble_eq_true rfl) rfl h (fun D11 h => ?_)
        refine x_iconst (v := (1 : Int32)) rfl rfl ?_
        exact x_zr rfl (Or.inr rfl) rfl h
    · have h := h.2 c
      refine x_aload_n rfl rfl ?_
      refine x_gR lf_Deeds_12 k0 rfl rfl ?_
      refine x_iload_n rfl rfl ?_
      refine x_vi lm_Deeds_104 vf_Deal_hasAlike (ck_7_0 k0) rfl rfl (Nat.le_of_ble_eq_true rfl) rfl h (fun r13 D12 h => ?_)
      refine x_if_ne (tgt := 45) rfl rfl (fun c => ?_) (fun c => ?_)
      · have h := h.1 c
        refine x_aload_n rfl rfl ?_
        refine x_gR lf_Deeds_23 k0 rfl rfl ?_
        refine x_iload_n rfl rfl ?_
        refine x_vv lm_Deeds_110 vf_Row_push (ck_7_1 k0) rfl rfl (Nat.le_of_ble_eq_true rfl) rfl h (fun D14 h => ?_)
        refine x_aload_n rfl rfl ?_
        refine x_gR lf_Deeds_23 k0 rfl rfl ?_
        refine x_vi lm_Deeds_64 vf_Row_size (ck_7_1 k0) rfl rfl (Nat.le_of_ble_eq_true rfl) rfl h (fun r16 D15 h => ?_)
        refine x_aload_n rfl rfl ?_
        refine x_gI lf_Deeds_36 k0 rfl rfl ?_
        refine x_iconst (v := (1 : Int32)) rfl rfl ?_
        refine x_isub rfl ?_
        refine x_icmp_ne (tgt := 89) rfl rfl (fun c => ?_) (fun c => ?_)
        · have h := h.1 c
          refine x_iconst (v := (1 : Int32)) rfl rfl ?_
          exact x_zr rfl (Or.inr rfl) rfl h
        · have h := h.2 c
          refine x_aload_n rfl rfl ?_
          refine x_aload_n rfl rfl ?_
          refine x_vi lm_Deeds_113 vf_Deeds_withoutSpoon k0 rfl rfl (Nat.le_of_ble_eq_true rfl) rfl h (fun r18 D17 h => ?_)
          refine x_pIn lp_Deeds_61 nf_7_7 k0 rfl rfl (fun D19 eD19 => ?_)
          have h := h D19 eD19
          refine x_aload_n rfl rfl ?_
          refine x_gR lf_Deeds_27 k0 rfl rfl ?_
          refine x_aload_n rfl rfl ?_
          refine x_gI lf_Deeds_61 k0 rfl rfl ?_
          refine x_iconst (v := (1 : Int32)) rfl rfl ?_
          refine x_vv lm_Deeds_107 vf_Row_add (ck_7_2 k0) rfl rfl (Nat.le_of_ble_eq_true rfl) rfl h (fun D20 h => ?_)
          refine x_iconst (v := (1 : Int32)) rfl rfl ?_
          exact x_zr rfl (Or.inr rfl) rfl h
      · have h := h.2 c
        refine x_aload_n rfl rfl ?_
        refine x_gR lf_Deeds_27 k0 rfl rfl ?_
        refine x_iload_n rfl rfl ?_
        refine x_iconst (v := (1 : Int32)) rfl rfl ?_
        refine x_vv lm_Deeds_107 vf_Row_add (ck_7_2 k0) rfl rfl (Nat.le_of_ble_eq_true rfl) rfl h (fun D21 h => ?_)
        refine x_iconst (v := (1 : Int32)) rfl rfl ?_
        exact x_zr rfl (Or.inr rfl) rfl h
  · have h := h.2 c
    refine x_iconst (v := (0 : Int32)) rfl rfl ?_
    exact x_zr rfl (Or.inl rfl) rfl h
theorem s_Deeds_withoutSpoon_0 {d : Nat} {D : xD} {Q : Option Value → xD → Prop} {a0 : Nat} (k0 : xk a0 = 7) (h : xPf (d + 1) m_Deeds_withoutSpoon 2 [(0, .ref a0), (1, .int (0 : Int32))] [] D Q) : xPf (d + 1) m_Deeds_withoutSpoon 0 [(0, .ref a0)] [] D Q := by
  refine x_iconst (v := (0 : Int32)) rfl rfl ?_
  refine x_istore_n (i := 1) (L1 := [(1, .int (0 : Int32)), (0, .ref a0)]) rfl rfl (Nat.le_of_ble_eq_true rfl) rfl ?_
  exact xP_sub [1, 0] rfl h
theorem s_Deeds_withoutSpoon_2 {d : Nat} {D : xD} {Q : Option Value → xD → Prop} {a0 : Nat} {x1 : Int32} (k0 : xk a0 = 7) (h : ((D.1 a0 3) ≤ x1 → Q (some (.int (-1 : Int32))) D) ∧ (¬ (D.1 a0 3) ≤ x1 → xCi d m_Row_countOf [.ref (a0 + 12), .int x1] D (fun r2 D1 => (¬ r2 = 0 → xPf (d + 1) m_Deeds_withoutSpoon 2 [(0, .ref a0), (1, .int (x1 + (1 : Int32)))] [] D1 Q) ∧ (r2 = 0 → Q (some (.int x1)) D1)))) : xPf (d + 1) m_Deeds_withoutSpoon 2 [(0, .ref a0), (1, .int x1)] [] D Q := by
  refine x_iload_n rfl rfl ?_
  refine x_aload_n rfl rfl ?_
  refine x_gI lf_Deeds_36 k0 rfl rfl ?_
  refine x_icmp_ge (tgt := 29) rfl rfl (fun c => ?_) (fun c => ?_)
  · have h := h.1 c
    refine x_iconst (v := (-1 : Int32)) rfl rfl ?_
    exact x_iret rfl rfl h
  · have h := h.2 c
    refine x_aload_n rfl rfl ?_
    refine x_gR lf_Deeds_23 k0 rfl rfl ?_
    refine x_iload_n rfl rfl ?_
    refine x_vi lm_Deeds_101 vf_Row_countOf (ck_7_1 k0) rfl rfl (Nat.le_of_ble_eq_true rfl) rfl h (fun r2 D1 h => ?_)
    refine x_if_ne (tgt := 23) rfl rfl (fun c => ?_) (fun c => ?_)
    · have h := h.1 c
      refine x_iinc (i := 1) (v := x1 + (1 : Int32)) (L1 := [(1, .int (x1 + (1 : Int32))), (0, .ref a0)]) rfl rfl rfl (Nat.le_of_ble_eq_true rfl) rfl ?_
      refine x_goto (tgt := 2) rfl rfl ?_
      exact xP_sub [1, 0] rfl h
    · have h := h.2 c
      refine x_iload_n rfl rfl ?_
      exact x_iret rfl rfl h
theorem s_Deeds_answer_0 {d : Nat} {D : xD} {Q : Option Value → xD → Prop} {a0 : Nat} {x1 : Int32} (k0 : xk a0 = 7) (h : (x1 = (0 : Int32) → Q (some (.int (D.1 a0 5))) D) ∧ (x1 = (1 : Int32) → xCi d m_Row_size [.ref (a0 + 12)] D (fun r4 D3 => Q (some (.int r4)) D3)) ∧ (x1 = (2 : Int32) → Q (some (.int (D.1 a0 7))) D) ∧ (x1 = (3 : Int32) → xCi d m_Deal_away [.ref (a0 + 1)] D (fun r6 D5 => Q (some (.int r6)) D5)) ∧ (x1 = (4 : Int32) → xCi d m_Deal_waitsFor [.ref (a0 + 1), .int (0 : Int32)] D (fun r8 D7 => Q (some (.int r8)) D7)) ∧ (x1 = (5 : Int32) → Q (some (.int (D.1 a0 6))) D) ∧ (((x1).toInt < 0 ∨ 5 < (x1).toInt) → xCi d m_Deeds_answerOf [.ref a0, .int x1] D (fun r2 D1 => Q (some (.int r2)) D1))) : xPf (d + 1) m_Deeds_answer 0 [(0, .ref a0), (1, .int x1)] [] D Q := by
  refine x_iload_n rfl rfl ?_
  rcases Decidable.em ((x1).toInt < 0 ∨ 5 < (x1).toInt) with q | q
  · refine x_tableOut (tgt := 80) rfl q rfl ?_
    have h := h.2.2.2.2.2.2 q
    refine x_aload_n rfl rfl ?_
    refine x_iload_n rfl rfl ?_
    refine x_vi lm_Deeds_122 vf_Deeds_answerOf k0 rfl rfl (Nat.le_of_ble_eq_true rfl) rfl h (fun r2 D1 h => ?_)
    exact x_iret rfl rfl h
  · have q : (x1).toInt = 0 ∨ (x1).toInt = 1 ∨ (x1).toInt = 2 ∨ (x1).toInt = 3 ∨ (x1).toInt = 4 ∨ (x1).toInt = 5 := by omega
    rcases q with q | q | q | q | q | q
    · have q : x1 = (0 : Int32) := Int32.toInt_inj.mp q
      refine x_tabK (k := (0 : Int32)) (tgt := 40) q rfl (by decide) (by decide) rfl rfl ?_
      have h := h.1 q
      refine x_aload_n rfl rfl ?_
      refine x_gI lf_Deeds_55 k0 rfl rfl ?_
      exact x_iret rfl rfl h
    · have q : x1 = (1 : Int32) := Int32.toInt_inj.mp q
      refine x_tabK (k := (1 : Int32)) (tgt := 45) q rfl (by decide) (by decide) rfl rfl ?_
      have h := h.2.1 q
      refine x_aload_n rfl rfl ?_
      refine x_gR lf_Deeds_23 k0 rfl rfl ?_
      refine x_vi lm_Deeds_64 vf_Row_size (ck_7_1 k0) rfl rfl (Nat.le_of_ble_eq_true rfl) rfl h (fun r4 D3 h => ?_)
      exact x_iret rfl rfl h
    · have q : x1 = (2 : Int32) := Int32.toInt_inj.mp q
      refine x_tabK (k := (2 : Int32)) (tgt := 53) q rfl (by decide) (by decide) rfl rfl ?_
      have h := h.2.2.1 q
      refine x_aload_n rfl rfl ?_
      refine x_gI lf_Deeds_61 k0 rfl rfl ?_
      exact x_iret rfl rfl h
    · have q : x1 = (3 : Int32) := Int32.toInt_inj.mp q
      refine x_tabK (k := (3 : Int32)) (tgt := 58) q rfl (by decide) (by decide) rfl rfl ?_
      have h := h.2.2.2.1 q
      refine x_aload_n rfl rfl ?_
      refine x_gR lf_Deeds_12 k0 rfl rfl ?_
      refine x_vi lm_Deeds_116 vf_Deal_away (ck_7_0 k0) rfl rfl (Nat.le_of_ble_eq_true rfl) rfl h (fun r6 D5 h => ?_)
      exact x_iret rfl rfl h
    · have q : x1 = (4 : Int32) := Int32.toInt_inj.mp q
      refine x_tabK (k := (4 : Int32)) (tgt := 66) q rfl (by decide) (by decide) rfl rfl ?_
      have h := h.2.2.2.2.1 q
      refine x_aload_n rfl rfl ?_
      refine x_gR lf_Deeds_12 k0 rfl rfl ?_
      refine x_iconst (v := (0 : Int32)) rfl rfl ?_
      refine x_vi lm_Deeds_119 vf_Deal_waitsFor (ck_7_0 k0) rfl rfl (Nat.le_of_ble_eq_true rfl) rfl h (fun r8 D7 h => ?_)
      exact x_iret rfl rfl h
    · have q : x1 = (5 : Int32) := Int32.toInt_inj.mp q
      refine x_tabK (k := (5 : Int32)) (tgt := 75) q rfl (by decide) (by decide) rfl rfl ?_
      have h := h.2.2.2.2.2.1 q
      refine x_aload_n rfl rfl ?_
      refine x_gI lf_Deeds_58 k0 rfl rfl ?_
      exact x_iret rfl rfl h
theorem s_Deeds_answerOf_0 {d : Nat} {D : xD} {Q : Option Value → xD → Prop} {a0 : Nat} {x1 : Int32} (k0 : xk a0 = 7) (h : (x1 < (10 : Int32) → (x1 < (20 : Int32) → (x1 < (30 : Int32) → Q (some (.int (-2 : Int32))) D) ∧ (¬ x1 < (30 : Int32) → (((30 : Int32) + (D.1 a0 3)) ≤ x1 → Q (some (.int (-2 : Int32))) D) ∧ (¬ ((30 : Int32) + (D.1 a0 3)) ≤ x1 → xCi d m_Deal_waitsFor [.ref (a0 + 1), .int (x1 - (30 : Int32))] D (fun r2 D1 => Q (some (.int r2)) D1)))) ∧ (¬ x1 < (20 : Int32) → (((20 : Int32) + (D.1 a0 3)) ≤ x1 → (x1 < (30 : Int32) → Q (some (.int (-2 : Int32))) D) ∧ (¬ x1 < (30 : Int32) → (((30 : Int32) + (D.1 a0 3)) ≤ x1 → Q (some (.int (-2 : Int32))) D) ∧ (¬ ((30 : Int32) + (D.1 a0 3)) ≤ x1 → xCi d m_Deal_waitsFor [.ref (a0 + 1), .int (x1 - (30 : Int32))] D (fun r4 D3 => Q (some (.int r4)) D3)))) ∧ (¬ ((20 : Int32) + (D.1 a0 3)) ≤ x1 → xCi d m_Row_get [.ref (a0 + 14), .int (x1 - (20 : Int32))] D (fun r6 D5 => Q (some (.int r6)) D5)))) ∧ (¬ x1 < (10 : Int32) → xCi d m_Row_size [.ref (a0 + 12)] D (fun r8 D7 => (((10 : Int32) + r8) ≤ x1 → (x1 < (20 : Int32) → (x1 < (30 : Int32) → Q (some (.int (-2 : Int32))) D7) ∧ (¬ x1 < (30 : Int32) → (((30 : Int32) + (D7.1 a0 3)) ≤ x1 → Q (some (.int (-2 : Int32))) D7) ∧ (¬ ((30 : Int32) + (D7.1 a0 3)) ≤ x1 → xCi d m_Deal_waitsFor [.ref (a0 + 1), .int (x1 - (30 : Int32))] D7 (fun r10 D9 => Q (some (.int r10)) D9)))) ∧ (¬ x1 < (20 : Int32) → (((20 : Int32) + (D7.1 a0 3)) ≤ x1 → (x1 < (30 : Int32) → Q (some (.int (-2 : Int32))) D7) ∧ (¬ x1 < (30 : Int32) → (((30 : Int32) + (D7.1 a0 3)) ≤ x1 → Q (some (.int (-2 : Int32))) D7) ∧ (¬ ((30 : Int32) + (D7.1 a0 3)) ≤ x1 → xCi d m_Deal_waitsFor [.ref (a0 + 1), .int (x1 - (30 : Int32))] D7 (fun r12 D11 => Q (some (.int r12)) D11)))) ∧ (¬ ((20 : Int32) + (D7.1 a0 3)) ≤ x1 → xCi d m_Row_get [.ref (a0 + 14), .int (x1 - (20 : Int32))] D7 (fun r14 D13 => Q (some (.int r14)) D13)))) ∧ (¬ ((10 : Int32) + r8) ≤ x1 → xCi d m_Row_get [.ref (a0 + 12), .int (x1 - (10 : Int32))] D7 (fun r16 D15 => Q (some (.int r16)) D15))))) : xPf (d + 1) m_Deeds_answerOf 0 [(0, .ref a0), (1, .int x1)] [] D Q := by
  refine x_iload_n rfl rfl ?_
  refine x_bipush (v := (10 : Int32)) rfl rfl ?_
  refine x_icmp_lt (tgt := 32) rfl rfl (fun c => ?_) (fun c => ?_)
  · have h := h.1 c
    refine x_iload_n rfl rfl ?_
    refine x_bipush (v := (20 : Int32)) rfl rfl ?_
    refine x_icmp_lt (tgt := 61) rfl rfl (fun c => ?_) (fun c => ?_)
    · have h := h.1 c
      refine x_iload_n rfl rfl ?_
      refine x_bipush (v := (30 : Int32)) rfl rfl ?_
      refine x_icmp_lt (tgt := 92) rfl rfl (fun c => ?_) (fun c => ?_)
      · have h := h.1 c
        refine x_bipush (v := (-2 : Int32)) rfl rfl ?_
        exact x_iret rfl rfl h
      · have h := h.2 c
        refine x_iload_n rfl rfl ?_
        refine x_bipush (v := (30 : Int32)) rfl rfl ?_
        refine x_aload_n rfl rfl ?_
        refine x_gI lf_Deeds_36 k0 rfl rfl ?_
        refine x_iadd rfl ?_
        refine x_icmp_ge (tgt := 92) rfl rfl (fun c => ?_) (fun c => ?_)
        · have h := h.1 c
          refine x_bipush (v := (-2 : Int32)) rfl rfl ?_
          exact x_iret rfl rfl h
        · have h := h.2 c
          refine x_aload_n rfl rfl ?_
          refine x_gR lf_Deeds_12 k0 rfl rfl ?_
          refine x_iload_n rfl rfl ?_
          refine x_bipush (v := (30 : Int32)) rfl rfl ?_
          refine x_isub rfl ?_
          refine x_vi lm_Deeds_119 vf_Deal_waitsFor (ck_7_0 k0) rfl rfl (Nat.le_of_ble_eq_true rfl) rfl h (fun r2 D1 h => ?_)
          refine x_goto (tgt := 94) rfl rfl ?_
          exact x_iret rfl rfl h
    · have h := h.2 c
      refine x_iload_n rfl rfl ?_
      refine x_bipush (v := (20 : Int32)) rfl rfl ?_
      refine x_aload_n rfl rfl ?_
      refine x_gI lf_Deeds_36 k0 rfl rfl ?_
      refine x_iadd rfl ?_
      refine x_icmp_ge (tgt := 61) rfl rfl (fun c => ?_) (fun c => ?_)
      · have h := h.1 c
        refine x_iload_n rfl rfl ?_
        refine x_bipush (v := (30 : Int32)) rfl rfl ?_
        refine x_icmp_lt (tgt := 92) rfl rfl (fun c => ?_) (fun c => ?_)
        · have h := h.1 c
          refine x_bipush (v := (-2 : Int32)) rfl rfl ?_
          exact x_iret rfl rfl h
        · have h := h.2 c
          refine x_iload_n rfl rfl ?_
          refine x_bipush (v := (30 : Int32)) rfl rfl ?_
          refine x_aload_n rfl rfl ?_
          refine x_gI lf_Deeds_36 k0 rfl rfl ?_
          refine x_iadd rfl ?_
          refine x_icmp_ge (tgt := 92) rfl rfl (fun c => ?_) (fun c => ?_)
          · have h := h.1 c
            refine x_bipush (v := (-2 : Int32)) rfl rfl ?_
            exact x_iret rfl rfl h
          · have h := h.2 c
            refine x_aload_n rfl rfl ?_
            refine x_gR lf_Deeds_12 k0 rfl rfl ?_
            refine x_iload_n rfl rfl ?_
            refine x_bipush (v := (30 : Int32)) rfl rfl ?_
            refine x_isub rfl ?_
            refine x_vi lm_Deeds_119 vf_Deal_waitsFor (ck_7_0 k0) rfl rfl (Nat.le_of_ble_eq_true rfl) rfl h (fun r4 D3 h => ?_)
            refine x_goto (tgt := 94) rfl rfl ?_
            exact x_iret rfl rfl h
      · have h := h.2 c
        refine x_aload_n rfl rfl ?_
        refine x_gR lf_Deeds_27 k0 rfl rfl ?_
        refine x_iload_n rfl rfl ?_
        refine x_bipush (v := (20 : Int32)) rfl rfl ?_
        refine x_isub rfl ?_
        refine x_vi lm_Deeds_73 vf_Row_get (ck_7_2 k0) rfl rfl (Nat.le_of_ble_eq_true rfl) rfl h (fun r6 D5 h => ?_)
        exact x_iret rfl rfl h
  · have h := h.2 c
    refine x_iload_n rfl rfl ?_
    refine x_bipush (v := (10 : Int32)) rfl rfl ?_
    refine x_aload_n rfl rfl ?_
    refine x_gR lf_Deeds_23 k0 rfl rfl ?_
    refine x_vi lm_Deeds_64 vf_Row_size (ck_7_1 k0) rfl rfl (Nat.le_of_ble_eq_true rfl) rfl h (fun r8 D7 h => ?_)
    refine x_iadd rfl ?_
    refine x_icmp_ge (tgt := 32) rfl rfl (fun c => ?_) (fun c => ?_)
    · have h := h.1 c
      refine x_iload_n rfl rfl ?_
      refine x_bipush (v := (20 : Int32)) rfl rfl ?_
      refine x_icmp_lt (tgt := 61) rfl rfl (fun c => ?_) (fun c => ?_)
      · have h := h.1 c
        refine x_iload_n rfl rfl ?_
        refine x_bipush (v := (30 : Int32)) rfl rfl ?_
        refine x_icmp_lt (tgt := 92) rfl rfl (fun c => ?_) (fun c => ?_)
        · have h := h.1 c
          refine x_bipush (v := (-2 : Int32)) rfl rfl ?_
          exact x_iret rfl rfl h
        · have h := h.2 c
          refine x_iload_n rfl rfl ?_
          refine x_bipush (v := (30 : Int32)) rfl rfl ?_
          refine x_aload_n rfl rfl ?_
          refine x_gI lf_Deeds_36 k0 rfl rfl ?_
          refine x_iadd rfl ?_
          refine x_icmp_ge (tgt := 92) rfl rfl (fun c => ?_) (fun c => ?_)
          · have h := h.1 c
            refine x_bipush (v := (-2 : Int32)) rfl rfl ?_
            exact x_iret rfl rfl h
          · have h := h.2 c
            refine x_aload_n rfl rfl ?_
            refine x_gR lf_Deeds_12 k0 rfl rfl ?_
            refine x_iload_n rfl rfl ?_
            refine x_bipush (v := (30 : Int32)) rfl rfl ?_
            refine x_isub rfl ?_
            refine x_vi lm_Deeds_119 vf_Deal_waitsFor (ck_7_0 k0) rfl rfl (Nat.le_of_ble_eq_true rfl) rfl h (fun r10 D9 h => ?_)
            refine x_goto (tgt := 94) rfl rfl ?_
            exact x_iret rfl rfl h
      · have h := h.2 c
        refine x_iload_n rfl rfl ?_
        refine x_bipush (v := (20 : Int32)) rfl rfl ?_
        refine x_aload_n rfl rfl ?_
        refine x_gI lf_Deeds_36 k0 rfl rfl ?_
        refine x_iadd rfl ?_
        refine x_icmp_ge (tgt := 61) rfl rfl (fun c => ?_) (fun c => ?_)
        · have h := h.1 c
          refine x_iload_n rfl rfl ?_
          refine x_bipush (v := (30 : Int32)) rfl rfl ?_
          refine x_icmp_lt (tgt := 92) rfl rfl (fun c => ?_) (fun c => ?_)
          · have h := h.1 c
            refine x_bipush (v := (-2 : Int32)) rfl rfl ?_
            exact x_iret rfl rfl h
          · have h := h.2 c
            refine x_iload_n rfl rfl ?_
            refine x_bipush (v := (30 : Int32)) rfl rfl ?_
            refine x_aload_n rfl rfl ?_
            refine x_gI lf_Deeds_36 k0 rfl rfl ?_
            refine x_iadd rfl ?_
            refine x_icmp_ge (tgt := 92) rfl rfl (fun c => ?_) (fun c => ?_)
            · have h := h.1 c
              refine x_bipush (v := (-2 : Int32)) rfl rfl ?_
              exact x_iret rfl rfl h
            · have h := h.2 c
              refine x_aload_n rfl rfl ?_
              refine x_gR lf_Deeds_12 k0 rfl rfl ?_
              refine x_iload_n rfl rfl ?_
              refine x_bipush (v := (30 : Int32)) rfl rfl ?_
              refine x_isub rfl ?_
              refine x_vi lm_Deeds_119 vf_Deal_waitsFor (ck_7_0 k0) rfl rfl (Nat.le_of_ble_eq_true rfl) rfl h (fun r12 D11 h => ?_)
              refine x_goto (tgt := 94) rfl rfl ?_
              exact x_iret rfl rfl h
        · have h := h.2 c
          refine x_aload_n rfl rfl ?_
          refine x_gR lf_Deeds_27 k0 rfl rfl ?_
          refine x_iload_n rfl rfl ?_
          refine x_bipush (v := (20 : Int32)) rfl rfl ?_
          refine x_isub rfl ?_
          refine x_vi lm_Deeds_73 vf_Row_get (ck_7_2 k0) rfl rfl (Nat.le_of_ble_eq_true rfl) rfl h (fun r14 D13 h => ?_)
          exact x_iret rfl rfl h
    · have h := h.2 c
      refine x_aload_n rfl rfl ?_
      refine x_gR lf_Deeds_23 k0 rfl rfl ?_
      refine x_iload_n rfl rfl ?_
      refine x_bipush (v := (10 : Int32)) rfl rfl ?_
      refine x_isub rfl ?_
      refine x_vi lm_Deeds_73 vf_Row_get (ck_7_1 k0) rfl rfl (Nat.le_of_ble_eq_true rfl) rfl h (fun r16 D15 h => ?_)
      exact x_iret rfl rfl h
theorem s_Evenings_shuffledBy_0 {d : Nat} {D : xD} {Q : Option Value → xD → Prop} {a0 : Nat} {a1 : Nat} {x2 : Int32} (k0 : xk a0 = 10) (k1 : xk a1 = 4) (h : ∀ D1 : xD, D1 = (xu D.1 a0 8 x2, D.2) → xCv d m_Evenings_shuffle [.ref a0, .ref a1] D1 (fun D2 => Q (some (.ref (a0 + 33))) D2)) : xPf (d + 1) m_Evenings_shuffledBy 0 [(0, .ref a0), (1, .ref a1), (2, .int x2)] [] D Q := by
  refine x_aload_n rfl rfl ?_
  refine x_iload_n rfl rfl ?_
  refine x_pIn lp_Evenings_49 nf_10_8 k0 rfl rfl (fun D1 eD1 => ?_)
  have h := h D1 eD1
  refine x_aload_n rfl rfl ?_
  refine x_aload_n rfl rfl ?_
  refine x_vv lm_Evenings_53 vf_Evenings_shuffle k0 rfl rfl (Nat.le_of_ble_eq_true rfl) rfl h (fun D2 h => ?_)
  refine x_aload_n rfl rfl ?_
  refine x_gR lf_Evenings_23 k0 rfl rfl ?_
  exact x_aret rfl rfl h
theorem s_Evenings_shuffle_0 {d : Nat} {D : xD} {Q : Option Value → xD → Prop} {a0 : Nat} {a1 : Nat} (k0 : xk a0 = 10) (k1 : xk a1 = 4) (h : xCv d m_Row_clear [.ref (a0 + 33)] D (fun D1 => xCi d m_Table_number [.ref a1, .int (1 : Int32)] D1 (fun r3 D2 => xPf (d + 1) m_Evenings_shuffle 15 [(0, .ref a0), (1, .ref a1), (2, .int r3), (3, .int (0 : Int32))] [] D2 Q))) : xPf (d + 1) m_Evenings_shuffle 0 [(0, .ref a0), (1, .ref a1)] [] D Q := by
  refine x_aload_n rfl rfl ?_
  refine x_gR lf_Evenings_23 k0 rfl rfl ?_
  refine x_vv lm_Evenings_57 vf_Row_clear (ck_10_1 k0) rfl rfl (Nat.le_of_ble_eq_true rfl) rfl h (fun D1 h => ?_)
  refine x_aload_n rfl rfl ?_
  refine x_iconst (v := (1 : Int32)) rfl rfl ?_
  refine x_vi lm_Evenings_60 vf_Table_number k1 rfl rfl (Nat.le_of_ble_eq_true rfl) rfl h (fun r3 D2 h => ?_)
  refine x_istore_n (i := 2) (L1 := [(2, .int r3), (0, .ref a0), (1, .ref a1)]) rfl rfl (Nat.le_of_ble_eq_true rfl) rfl ?_
  refine x_iconst (v := (0 : Int32)) rfl rfl ?_
  refine x_istore_n (i := 3) (L1 := [(3, .int (0 : Int32)), (2, .int r3), (0, .ref a0), (1, .ref a1)]) rfl rfl (Nat.le_of_ble_eq_true rfl) rfl ?_
  exact xP_sub [2, 3, 1, 0] rfl h
theorem s_Evenings_shuffle_15 {d : Nat} {D : xD} {Q : Option Value → xD → Prop} {a0 : Nat} {a1 : Nat} {x2 : Int32} {x3 : Int32} (k0 : xk a0 = 10) (k1 : xk a1 = 4) (h : xCi d m_Table_kinds [.ref a1] D (fun r2 D1 => (r2 ≤ x3 → xCi d m_Row_size [.ref (a0 + 33)] D1 (fun r4 D3 => xPf (d + 1) m_Evenings_shuffle 62 [(0, .ref a0), (1, .ref a1), (2, .int x2), (3, .int (r4 - (1 : Int32)))] [] D3 Q)) ∧ (¬ r2 ≤ x3 → xPf (d + 1) m_Evenings_shuffle 26 [(0, .ref a0), (1, .ref a1), (2, .int x2), (3, .int x3), (4, .int (0 : Int32))] [] D1 Q))) : xPf (d + 1) m_Evenings_shuffle 15 [(0, .ref a0), (1, .ref a1), (2, .int x2), (3, .int x3)] [] D Q := by
  refine x_iload_n rfl rfl ?_
  refine x_aload_n rfl rfl ?_
  refine x_vi lm_Evenings_64 vf_Table_kinds k1 rfl rfl (Nat.le_of_ble_eq_true rfl) rfl h (fun r2 D1 h => ?_)
  refine x_icmp_ge (tgt := 52) rfl rfl (fun c => ?_) (fun c => ?_)
  · have h := h.1 c
    refine x_aload_n rfl rfl ?_
    refine x_gR lf_Evenings_23 k0 rfl rfl ?_
    refine x_vi lm_Evenings_71 vf_Row_size (ck_10_1 k0) rfl rfl (Nat.le_of_ble_eq_true rfl) rfl h (fun r4 D3 h => ?_)
    refine x_iconst (v := (1 : Int32)) rfl rfl ?_
    refine x_isub rfl ?_
    refine x_istore_n (i := 3) (L1 := [(3, .int (r4 - (1 : Int32))), (0, .ref a0), (1, .ref a1), (2, .int x2)]) rfl rfl (Nat.le_of_ble_eq_true rfl) rfl ?_
    exact xP_sub [1, 2, 3, 0] rfl h
  · have h := h.2 c
    refine x_iconst (v := (0 : Int32)) rfl rfl ?_
    refine x_istore (i := 4) (L1 := [(4, .int (0 : Int32)), (0, .ref a0), (1, .ref a1), (2, .int x2), (3, .int x3)]) rfl (Nat.le_of_ble_eq_true rfl) rfl ?_
    exact xP_sub [1, 2, 3, 4, 0] rfl h
theorem s_Evenings_shuffle_26 {d : Nat} {D : xD} {Q : Option Value → xD → Prop} {a0 : Nat} {a1 : Nat} {x2 : Int32} {x3 : Int32} {x4 : Int32} (k0 : xk a0 = 10) (k1 : xk a1 = 4) (h : (x2 ≤ x4 → xPf (d + 1) m_Evenings_shuffle 15 [(0, .ref a0), (1, .ref a1), (2, .int x2), (3, .int (x3 + (1 : Int32)))] [] D Q) ∧ (¬ x2 ≤ x4 → xCv d m_Row_push [.ref (a0 + 33), .int x3] D (fun D1 => xPf (d + 1) m_Evenings_shuffle 26 [(0, .ref a0), (1, .ref a1), (2, .int x2), (3, .int x3), (4, .int (x4 + (1 : Int32)))] [] D1 Q))) : xPf (d + 1) m_Evenings_shuffle 26 [(0, .ref a0), (1, .ref a1), (2, .int x2), (3, .int x3), (4, .int x4)] [] D Q := by
  refine x_iload rfl rfl ?_
  refine x_iload_n rfl rfl ?_
  refine x_icmp_ge (tgt := 46) rfl rfl (fun c => ?_) (fun c => ?_)
  · have h := h.1 c
    refine x_iinc (i := 3) (v := x3 + (1 : Int32)) (L1 := [(3, .int (x3 + (1 : Int32))), (0, .ref a0), (1, .ref a1), (2, .int x2), (4, .int x4)]) rfl rfl rfl (Nat.le_of_ble_eq_true rfl) rfl ?_
    refine x_goto (tgt := 15) rfl rfl ?_
    exact xP_sub [1, 2, 3, 0] rfl h
  · have h := h.2 c
    refine x_aload_n rfl rfl ?_
    refine x_gR lf_Evenings_23 k0 rfl rfl ?_
    refine x_iload_n rfl rfl ?_
    refine x_vv lm_Evenings_68 vf_Row_push (ck_10_1 k0) rfl rfl (Nat.le_of_ble_eq_true rfl) rfl h (fun D1 h => ?_)
    refine x_iinc (i := 4) (v := x4 + (1 : Int32)) (L1 := [(4, .int (x4 + (1 : Int32))), (0, .ref a0), (1, .ref a1), (2, .int x2), (3, .int x3)]) rfl rfl rfl (Nat.le_of_ble_eq_true rfl) rfl ?_
    refine x_goto (tgt := 26) rfl rfl ?_
    exact xP_sub [1, 2, 3, 4, 0] rfl h
theorem s_Evenings_shuffle_62 {d : Nat} {D : xD} {Q : Option Value → xD → Prop} {a0 : Nat} {a1 : Nat} {x2 : Int32} {x3 : Int32} (k0 : xk a0 = 10) (k1 : xk a1 = 4) (h : (x3 < (1 : Int32) → Q none D) ∧ (¬ x3 < (1 : Int32) → xCi d m_Evenings_draw [.ref a0, .int (x3 + (1 : Int32))] D (fun r2 D1 => xCv d m_Row_swap [.ref (a0 + 33), .int x3, .int r2] D1 (fun D3 => xPf (d + 1) m_Evenings_shuffle 62 [(0, .ref a0), (1, .ref a1), (2, .int x2), (3, .int (x3 + (-1 : Int32)))] [] D3 Q)))) : xPf (d + 1) m_Evenings_shuffle 62 [(0, .ref a0), (1, .ref a1), (2, .int x2), (3, .int x3)] [] D Q := by
  refine x_iload_n rfl rfl ?_
  refine x_iconst (v := (1 : Int32)) rfl rfl ?_
  refine x_icmp_lt (tgt := 88) rfl rfl (fun c => ?_) (fun c => ?_)
  · have h := h.1 c
    exact x_vret rfl rfl h
  · have h := h.2 c
    refine x_aload_n rfl rfl ?_
    refine x_gR lf_Evenings_23 k0 rfl rfl ?_
    refine x_iload_n rfl rfl ?_
    refine x_aload_n rfl rfl ?_
    refine x_iload_n rfl rfl ?_
    refine x_iconst (v := (1 : Int32)) rfl rfl ?_
    refine x_iadd rfl ?_
    refine x_vi lm_Evenings_74 vf_Evenings_draw k0 rfl rfl (Nat.le_of_ble_eq_true rfl) rfl h (fun r2 D1 h => ?_)
    refine x_vv lm_Evenings_77 vf_Row_swap (ck_10_1 k0) rfl rfl (Nat.le_of_ble_eq_true rfl) rfl h (fun D3 h => ?_)
    refine x_iinc (i := 3) (v := x3 + (-1 : Int32)) (L1 := [(3, .int (x3 + (-1 : Int32))), (0, .ref a0), (1, .ref a1), (2, .int x2)]) rfl rfl rfl (Nat.le_of_ble_eq_true rfl) rfl ?_
    refine x_goto (tgt := 62) rfl rfl ?_
    exact xP_sub [1, 2, 3, 0] rfl h
theorem s_Evenings_draw_0 {d : Nat} {D : xD} {Q : Option Value → xD → Prop} {a0 : Nat} {x1 : Int32} (k0 : xk a0 = 10) (h : ∀ D1 : xD, D1 = (xu D.1 a0 8 (((D.1 a0 8) * (1103515245 : Int32)) + (12345 : Int32)), D.2) → (x1 ≤ 0 → Q (some (.int (0 : Int32))) D1) ∧ (¬ x1 ≤ 0 → ¬ x1 = 0 ∧ Q (some (.int ((((D1.1 a0 8).toUInt32 >>> ((16 : Int32).toUInt32 &&& Int32.toUInt32 31)).toInt32) - (((D1.1 a0 8).toUInt32 >>> ((16 : Int32).toUInt32 &&& Int32.toUInt32 31)).toInt32) / x1 * x1))) D1)) : xPf (d + 1) m_Evenings_draw 0 [(0, .ref a0), (1, .int x1)] [] D Q := by
  refine x_aload_n rfl rfl ?_
  refine x_aload_n rfl rfl ?_
  refine x_gI lf_Evenings_49 k0 rfl rfl ?_
  refine x_ldc wd_1111 rfl ?_
  refine x_imul rfl ?_
  refine x_sipush (v := (12345 : Int32)) rfl rfl ?_
  refine x_iadd rfl ?_
  refine x_pIn lp_Evenings_49 nf_10_8 k0 rfl rfl (fun D1 eD1 => ?_)
  have h := h D1 eD1
  refine x_iload_n rfl rfl ?_
  refine x_if_le (tgt := 31) rfl rfl (fun c => ?_) (fun c => ?_)
  · have h := h.1 c
    refine x_iconst (v := (0 : Int32)) rfl rfl ?_
    exact x_iret rfl rfl h
  · have h := h.2 c
    refine x_aload_n rfl rfl ?_
    refine x_gI lf_Evenings_49 k0 rfl rfl ?_
    refine x_bipush (v := (16 : Int32)) rfl rfl ?_
    refine x_iushr rfl ?_
    refine x_iload_n rfl rfl ?_
    refine x_irem rfl h.1 ?_
    have h := h.2
    refine x_goto (tgt := 32) rfl rfl ?_
    exact x_iret rfl rfl h
theorem s_Evenings_spend_0 {d : Nat} {D : xD} {Q : Option Value → xD → Prop} {a0 : Nat} {a1 : Nat} {x2 : Int32} (k0 : xk a0 = 10) (k1 : xk a1 = 4) (h : ∀ D1 : xD, D1 = (xu D.1 a0 8 x2, D.2) → ∀ D2 : xD, D2 = (xu D1.1 a0 9 (0 : Int32), D1.2) → ∀ D3 : xD, D3 = (xu D2.1 a0 10 (-1 : Int32), D2.2) → ∀ D4 : xD, D4 = (xu D3.1 a0 11 (-1 : Int32), D3.2) → xCi d m_Table_people [.ref a1] D4 (fun r6 D5 => xCv d m_Row_fill [.ref (a0 + 39), .int r6, .int (0 : Int32)] D5 (fun D7 => xCi d m_Table_people [.ref a1] D7 (fun r9 D8 => xCv d m_Row_fill [.ref (a0 + 41), .int r9, .int (-1 : Int32)] D8 (fun D10 => xCv d m_Row_clear [.ref (a0 + 43)] D10 (fun D11 => xPf (d + 1) m_Evenings_spend 53 [(0, .ref a0), (1, .ref a1), (2, .int x2), (3, .int (0 : Int32))] [] D11 Q)))))) : xPf (d + 1) m_Evenings_spend 0 [(0, .ref a0), (1, .ref a1), (2, .int x2)] [] D Q := by
  refine x_aload_n rfl rfl ?_
  refine x_iload_n rfl rfl ?_
  refine x_pIn lp_Evenings_49 nf_10_8 k0 rfl rfl (fun D1 eD1 => ?_)
  have h := h D1 eD1
  refine x_aload_n rfl rfl ?_
  refine x_iconst (v := (0 : Int32)) rfl rfl ?_
  refine x_pIn lp_Evenings_82 nf_10_9 k0 rfl rfl (fun D2 eD2 => ?_)
  have h := h D2 eD2
  refine x_aload_n rfl rfl ?_
  refine x_iconst (v := (-1 : Int32)) rfl rfl ?_
  refine x_pIn lp_Evenings_85 nf_10_10 k0 rfl rfl (fun D3 eD3 => ?_)
  have h := h D3 eD3
  refine x_aload_n rfl rfl ?_
  refine x_iconst (v := (-1 : Int32)) rfl rfl ?_
  refine x_pIn lp_Evenings_88 nf_10_11 k0 rfl rfl (fun D4 eD4 => ?_)
  have h := h D4 eD4
  refine x_aload_n rfl rfl ?_
  refine x_gR lf_Evenings_33 k0 rfl rfl ?_
  refine x_aload_n rfl rfl ?_
  refine x_vi lm_Evenings_91 vf_Table_people k1 rfl rfl (Nat.le_of_ble_eq_true rfl) rfl h (fun r6 D5 h => ?_)
  refine x_iconst (v := (0 : Int32)) rfl rfl ?_
  refine x_vv lm_Evenings_94 vf_Row_fill (ck_10_4 k0) rfl rfl (Nat.le_of_ble_eq_true rfl) rfl h (fun D7 h => ?_)
  refine x_aload_n rfl rfl ?_
  refine x_gR lf_Evenings_36 k0 rfl rfl ?_
  refine x_aload_n rfl rfl ?_
  refine x_vi lm_Evenings_91 vf_Table_people k1 rfl rfl (Nat.le_of_ble_eq_true rfl) rfl h (fun r9 D8 h => ?_)
  refine x_iconst (v := (-1 : Int32)) rfl rfl ?_
  refine x_vv lm_Evenings_94 vf_Row_fill (ck_10_5 k0) rfl rfl (Nat.le_of_ble_eq_true rfl) rfl h (fun D10 h => ?_)
  refine x_aload_n rfl rfl ?_
  refine x_gR lf_Evenings_39 k0 rfl rfl ?_
  refine x_vv lm_Evenings_57 vf_Row_clear (ck_10_6 k0) rfl rfl (Nat.le_of_ble_eq_true rfl) rfl h (fun D11 h => ?_)
  refine x_iconst (v := (0 : Int32)) rfl rfl ?_
  refine x_istore_n (i := 3) (L1 := [(3, .int (0 : Int32)), (0, .ref a0), (1, .ref a1), (2, .int x2)]) rfl rfl (Nat.le_of_ble_eq_true rfl) rfl ?_
  exact xP_sub [1, 2, 3, 0] rfl h
theorem s_Evenings_spend_53 {d : Nat} {D : xD} {Q : Option Value → xD → Prop} {a0 : Nat} {a1 : Nat} {x2 : Int32} {x3 : Int32} (k0 : xk a0 = 10) (k1 : xk a1 = 4) (h : xCi d m_Table_people [.ref a1] D (fun r2 D1 => (r2 ≤ x3 → xPf (d + 1) m_Evenings_spend 80 [(0, .ref a0), (1, .ref a1), (2, .int x2), (3, .int (1 : Int32)), (4, .int (0 : Int32))] [] D1 Q) ∧ (¬ r2 ≤ x3 → xCv d m_Row_push [.ref (a0 + 43), .int x3] D1 (fun D3 => xPf (d + 1) m_Evenings_spend 53 [(0, .ref a0), (1, .ref a1), (2, .int x2), (3, .int (x3 + (1 : Int32)))] [] D3 Q)))) : xPf (d + 1) m_Evenings_spend 53 [(0, .ref a0), (1, .ref a1), (2, .int x2), (3, .int x3)] [] D Q := by
  refine x_iload_n rfl rfl ?_
  refine x_aload_n rfl rfl ?_
  refine x_vi lm_Evenings_91 vf_Table_people k1 rfl rfl (Nat.le_of_ble_eq_true rfl) rfl h (fun r2 D1 h => ?_)
  refine x_icmp_ge (tgt := 75) rfl rfl (fun c => ?_) (fun c => ?_)
  · have h := h.1 c
    refine x_iconst (v := (1 : Int32)) rfl rfl ?_
    refine x_istore_n (i := 3) (L1 := [(3, .int (1 : Int32)), (0, .ref a0), (1, .ref a1), (2, .int x2)]) rfl rfl (Nat.le_of_ble_eq_true rfl) rfl ?_
    refine x_iconst (v := (0 : Int32)) rfl rfl ?_
    refine x_istore (i := 4) (L1 := [(4, .int (0 : Int32)), (3, .int (1 : Int32)), (0, .ref a0), (1, .ref a1), (2, .int x2)]) rfl (Nat.le_of_ble_eq_true rfl) rfl ?_
    exact xP_sub [2, 3, 4, 1, 0] rfl h
  · have h := h.2 c
    refine x_aload_n rfl rfl ?_
    refine x_gR lf_Evenings_39 k0 rfl rfl ?_
    refine x_iload_n rfl rfl ?_
    refine x_vv lm_Evenings_68 vf_Row_push (ck_10_6 k0) rfl rfl (Nat.le_of_ble_eq_true rfl) rfl h (fun D3 h => ?_)
    refine x_iinc (i := 3) (v := x3 + (1 : Int32)) (L1 := [(3, .int (x3 + (1 : Int32))), (0, .ref a0), (1, .ref a1), (2, .int x2)]) rfl rfl rfl (Nat.le_of_ble_eq_true rfl) rfl ?_
    refine x_goto (tgt := 53) rfl rfl ?_
    exact xP_sub [1, 2, 3, 0] rfl h
theorem s_Evenings_spend_80 {d : Nat} {D : xD} {Q : Option Value → xD → Prop} {a0 : Nat} {a1 : Nat} {x2 : Int32} {x3 : Int32} {x4 : Int32} (k0 : xk a0 = 10) (k1 : xk a1 = 4) (h : ((100 : Int32) ≤ x4 → xCi d m_Row_size [.ref (a0 + 43)] D (fun r2 D1 => (¬ r2 = (1 : Int32) → Q none D1) ∧ (r2 = (1 : Int32) → xCi d m_Row_get [.ref (a0 + 43), .int (0 : Int32)] D1 (fun r4 D3 => ∀ D5 : xD, D5 = (xu D3.1 a0 10 r4, D3.2) → Q none D5)))) ∧ (¬ (100 : Int32) ≤ x4 → (x3 = 0 → xCi d m_Row_size [.ref (a0 + 43)] D (fun r7 D6 => (¬ r7 = (1 : Int32) → Q none D6) ∧ (r7 = (1 : Int32) → xCi d m_Row_get [.ref (a0 + 43), .int (0 : Int32)] D6 (fun r9 D8 => ∀ D10 : xD, D10 = (xu D8.1 a0 10 r9, D8.2) → Q none D10)))) ∧ (¬ x3 = 0 → xCi d m_Row_size [.ref (a0 + 43)] D (fun r12 D11 => (r12 ≤ (1 : Int32) → xCi d m_Row_size [.ref (a0 + 43)] D11 (fun r14 D13 => (¬ r14 = (1 : Int32) → Q none D13) ∧ (r14 = (1 : Int32) → xCi d m_Row_get [.ref (a0 + 43), .int (0 : Int32)] D13 (fun r16 D15 => ∀ D17 : xD, D17 = (xu D15.1 a0 10 r16, D15.2) → Q none D17)))) ∧ (¬ r12 ≤ (1 : Int32) → xCi d m_Evenings_playOfThoseLeft [.ref a0, .ref a1] D11 (fun r19 D18 => xPf (d + 1) m_Evenings_spend 80 [(0, .ref a0), (1, .ref a1), (2, .int x2), (3, .int r19), (4, .int (x4 + (1 : Int32)))] [] D18 Q)))))) : xPf (d + 1) m_Evenings_spend 80 [(0, .ref a0), (1, .ref a1), (2, .int x2), (3, .int x3), (4, .int x4)] [] D Q := by
  refine x_iload rfl rfl ?_
  refine x_bipush (v := (100 : Int32)) rfl rfl ?_
  refine x_icmp_ge (tgt := 114) rfl rfl (fun c => ?_) (fun c => ?_)
  · have h := h.1 c
    refine x_aload_n rfl rfl ?_
    refine x_gR lf_Evenings_39 k0 rfl rfl ?_
    refine x_vi lm_Evenings_71 vf_Row_size (ck_10_6 k0) rfl rfl (Nat.le_of_ble_eq_true rfl) rfl h (fun r2 D1 h => ?_)
    refine x_iconst (v := (1 : Int32)) rfl rfl ?_
    refine x_icmp_ne (tgt := 137) rfl rfl (fun c => ?_) (fun c => ?_)
    · have h := h.1 c
      exact x_vret rfl rfl h
    · have h := h.2 c
      refine x_aload_n rfl rfl ?_
      refine x_aload_n rfl rfl ?_
      refine x_gR lf_Evenings_39 k0 rfl rfl ?_
      refine x_iconst (v := (0 : Int32)) rfl rfl ?_
      refine x_vi lm_Evenings_101 vf_Row_get (ck_10_6 k0) rfl rfl (Nat.le_of_ble_eq_true rfl) rfl h (fun r4 D3 h => ?_)
      refine x_pIn lp_Evenings_85 nf_10_10 k0 rfl rfl (fun D5 eD5 => ?_)
      have h := h D5 eD5
      exact x_vret rfl rfl h
  · have h := h.2 c
    refine x_iload_n rfl rfl ?_
    refine x_if_eq (tgt := 114) rfl rfl (fun c => ?_) (fun c => ?_)
    · have h := h.1 c
      refine x_aload_n rfl rfl ?_
      refine x_gR lf_Evenings_39 k0 rfl rfl ?_
      refine x_vi lm_Evenings_71 vf_Row_size (ck_10_6 k0) rfl rfl (Nat.le_of_ble_eq_true rfl) rfl h (fun r7 D6 h => ?_)
      refine x_iconst (v := (1 : Int32)) rfl rfl ?_
      refine x_icmp_ne (tgt := 137) rfl rfl (fun c => ?_) (fun c => ?_)
      · have h := h.1 c
        exact x_vret rfl rfl h
      · have h := h.2 c
        refine x_aload_n rfl rfl ?_
        refine x_aload_n rfl rfl ?_
        refine x_gR lf_Evenings_39 k0 rfl rfl ?_
        refine x_iconst (v := (0 : Int32)) rfl rfl ?_
        refine x_vi lm_Evenings_101 vf_Row_get (ck_10_6 k0) rfl rfl (Nat.le_of_ble_eq_true rfl) rfl h (fun r9 D8 h => ?_)
        refine x_pIn lp_Evenings_85 nf_10_10 k0 rfl rfl (fun D10 eD10 => ?_)
        have h := h D10 eD10
        exact x_vret rfl rfl h
    · have h := h.2 c
      refine x_aload_n rfl rfl ?_
      refine x_gR lf_Evenings_39 k0 rfl rfl ?_
      refine x_vi lm_Evenings_71 vf_Row_size (ck_10_6 k0) rfl rfl (Nat.le_of_ble_eq_true rfl) rfl h (fun r12 D11 h => ?_)
      refine x_iconst (v := (1 : Int32)) rfl rfl ?_
      refine x_icmp_le (tgt := 114) rfl rfl (fun c => ?_) (fun c => ?_)
      · have h := h.1 c
        refine x_aload_n rfl rfl ?_
        refine x_gR lf_Evenings_39 k0 rfl rfl ?_
        refine x_vi lm_Evenings_71 vf_Row_size (ck_10_6 k0) rfl rfl (Nat.le_of_ble_eq_true rfl) rfl h (fun r14 D13 h => ?_)
        refine x_iconst (v := (1 : Int32)) rfl rfl ?_
        refine x_icmp_ne (tgt := 137) rfl rfl (fun c => ?_) (fun c => ?_)
        · have h := h.1 c
          exact x_vret rfl rfl h
        · have h := h.2 c
          refine x_aload_n rfl rfl ?_
          refine x_aload_n rfl rfl ?_
          refine x_gR lf_Evenings_39 k0 rfl rfl ?_
          refine x_iconst (v := (0 : Int32)) rfl rfl ?_
          refine x_vi lm_Evenings_101 vf_Row_get (ck_10_6 k0) rfl rfl (Nat.le_of_ble_eq_true rfl) rfl h (fun r16 D15 h => ?_)
          refine x_pIn lp_Evenings_85 nf_10_10 k0 rfl rfl (fun D17 eD17 => ?_)
          have h := h D17 eD17
          exact x_vret rfl rfl h
      · have h := h.2 c
        refine x_aload_n rfl rfl ?_
        refine x_aload_n rfl rfl ?_
        refine x_vi lm_Evenings_97 vf_Evenings_playOfThoseLeft k0 rfl rfl (Nat.le_of_ble_eq_true rfl) rfl h (fun r19 D18 h => ?_)
        refine x_istore_n (i := 3) (L1 := [(3, .int r19), (0, .ref a0), (1, .ref a1), (2, .int x2), (4, .int x4)]) rfl rfl (Nat.le_of_ble_eq_true rfl) rfl ?_
        refine x_iinc (i := 4) (v := x4 + (1 : Int32)) (L1 := [(4, .int (x4 + (1 : Int32))), (3, .int r19), (0, .ref a0), (1, .ref a1), (2, .int x2)]) rfl rfl rfl (Nat.le_of_ble_eq_true rfl) rfl ?_
        refine x_goto (tgt := 80) rfl rfl ?_
        exact xP_sub [2, 3, 4, 1, 0] rfl h
theorem s_Evenings_playOfThoseLeft_0 {d : Nat} {D : xD} {Q : Option Value → xD → Prop} {a0 : Nat} {a1 : Nat} (k0 : xk a0 = 10) (k1 : xk a1 = 4) (h : xCv d m_Table_copyEmpty [.ref (a0 + 45), .ref a1] D (fun D1 => xPf (d + 1) m_Evenings_playOfThoseLeft 10 [(0, .ref a0), (1, .ref a1), (2, .int (0 : Int32))] [] D1 Q)) : xPf (d + 1) m_Evenings_playOfThoseLeft 0 [(0, .ref a0), (1, .ref a1)] [] D Q := by
  refine x_aload_n rfl rfl ?_
  refine x_gR lf_Evenings_45 k0 rfl rfl ?_
  refine x_aload_n rfl rfl ?_
  refine x_vv lm_Evenings_104 vf_Table_copyEmpty (ck_10_7 k0) rfl rfl (Nat.le_of_ble_eq_true rfl) rfl h (fun D1 h => ?_)
  refine x_iconst (v := (0 : Int32)) rfl rfl ?_
  refine x_istore_n (i := 2) (L1 := [(2, .int (0 : Int32)), (0, .ref a0), (1, .ref a1)]) rfl rfl (Nat.le_of_ble_eq_true rfl) rfl ?_
  exact xP_sub [1, 2, 0] rfl h
theorem s_Evenings_playOfThoseLeft_10 {d : Nat} {D : xD} {Q : Option Value → xD → Prop} {a0 : Nat} {a1 : Nat} {x2 : Int32} (k0 : xk a0 = 10) (k1 : xk a1 = 4) (h : xCi d m_Row_size [.ref (a0 + 43)] D (fun r2 D1 => (r2 ≤ x2 → xCv d m_Evenings_shuffle [.ref a0, .ref a1] D1 (fun D3 => xCv d m_Rounds_play [.ref (a0 + 1), .ref (a0 + 45), .ref (a0 + 33), .int (2000 : Int32)] D3 (fun D4 => (¬ (D4.1 (a0 + 1) 6) = (-1 : Int32) → xCi d m_Table_lastOf [.ref (a0 + 45), .int (D4.1 (a0 + 1) 6), .int (D4.1 (a0 + 1) 7)] D4 (fun r6 D5 => xCi d m_Row_get [.ref (a0 + 43), .int r6] D5 (fun r8 D7 => xCv d m_Row_add [.ref (a0 + 39), .int r8, .int (1 : Int32)] D7 (fun D9 => xCi d m_Row_get [.ref (a0 + 39), .int r8] D9 (fun r11 D10 => xCi d m_Table_number [.ref a1, .int (3 : Int32)] D10 (fun r13 D12 => (r11 < r13 → ∀ D14 : xD, D14 = (xu D12.1 a0 9 ((D12.1 a0 9) + (1 : Int32)), D12.2) → Q (some (.int (1 : Int32))) D14) ∧ (¬ r11 < r13 → xCv d m_Row_set [.ref (a0 + 41), .int r8, .int (D12.1 a0 9)] D12 (fun D15 => (¬ (D15.1 a0 11) = (-1 : Int32) → ∀ D16 : xD, D16 = (xu D15.1 a0 11 (D15.1 a0 11), D15.2) → xCv d m_Row_remove [.ref (a0 + 43), .int r6] D16 (fun D17 => ∀ D18 : xD, D18 = (xu D17.1 a0 9 ((D17.1 a0 9) + (1 : Int32)), D17.2) → Q (some (.int (1 : Int32))) D18)) ∧ ((D15.1 a0 11) = (-1 : Int32) → ∀ D19 : xD, D19 = (xu D15.1 a0 11 r8, D15.2) → xCv d m_Row_remove [.ref (a0 + 43), .int r6] D19 (fun D20 => ∀ D21 : xD, D21 = (xu D20.1 a0 9 ((D20.1 a0 9) + (1 : Int32)), D20.2) → Q (some (.int (1 : Int32))) D21)))))))))) ∧ ((D4.1 (a0 + 1) 6) = (-1 : Int32) → Q (some (.int (0 : Int32))) D4)))) ∧ (¬ r2 ≤ x2 → xCi d m_Row_get [.ref (a0 + 43), .int x2] D1 (fun r23 D22 => xCv d m_Table_seat [.ref (a0 + 45), .ref a1, .int r23] D22 (fun D24 => xPf (d + 1) m_Evenings_playOfThoseLeft 10 [(0, .ref a0), (1, .ref a1), (2, .int (x2 + (1 : Int32)))] [] D24 Q))))) : xPf (d + 1) m_Evenings_playOfThoseLeft 10 [(0, .ref a0), (1, .ref a1), (2, .int x2)] [] D Q := by
  refine x_iload_n rfl rfl ?_
  refine x_aload_n rfl rfl ?_
  refine x_gR lf_Evenings_39 k0 rfl rfl ?_
  refine x_vi lm_Evenings_71 vf_Row_size (ck_10_6 k0) rfl rfl (Nat.le_of_ble_eq_true rfl) rfl h (fun r2 D1 h => ?_)
  refine x_icmp_ge (tgt := 43) rfl rfl (fun c => ?_) (fun c => ?_)
  · have h := h.1 c
    refine x_aload_n rfl rfl ?_
    refine x_aload_n rfl rfl ?_
    refine x_vv lm_Evenings_53 vf_Evenings_shuffle k0 rfl rfl (Nat.le_of_ble_eq_true rfl) rfl h (fun D3 h => ?_)
    refine x_aload_n rfl rfl ?_
    refine x_gR lf_Evenings_12 k0 rfl rfl ?_
    refine x_aload_n rfl rfl ?_
    refine x_gR lf_Evenings_45 k0 rfl rfl ?_
    refine x_aload_n rfl rfl ?_
    refine x_gR lf_Evenings_23 k0 rfl rfl ?_
    refine x_sipush (v := (2000 : Int32)) rfl rfl ?_
    refine x_vv lm_Evenings_111 vf_Rounds_play (ck_10_0 k0) rfl rfl (Nat.le_of_ble_eq_true rfl) rfl h (fun D4 h => ?_)
    refine x_aload_n rfl rfl ?_
    refine x_gR lf_Evenings_12 k0 rfl rfl ?_
    refine x_gI lf_Evenings_115 (ck_10_0 k0) rfl rfl ?_
    refine x_iconst (v := (-1 : Int32)) rfl rfl ?_
    refine x_icmp_ne (tgt := 79) rfl rfl (fun c => ?_) (fun c => ?_)
    · have h := h.1 c
      refine x_aload_n rfl rfl ?_
      refine x_gR lf_Evenings_45 k0 rfl rfl ?_
      refine x_aload_n rfl rfl ?_
      refine x_gR lf_Evenings_12 k0 rfl rfl ?_
      refine x_gI lf_Evenings_115 (ck_10_0 k0) rfl rfl ?_
      refine x_aload_n rfl rfl ?_
      refine x_gR lf_Evenings_12 k0 rfl rfl ?_
      refine x_gI lf_Evenings_118 (ck_10_0 k0) rfl rfl ?_
      refine x_vi lm_Evenings_121 vf_Table_lastOf (ck_10_7 k0) rfl rfl (Nat.le_of_ble_eq_true rfl) rfl h (fun r6 D5 h => ?_)
      refine x_istore_n (i := 2) (L1 := [(2, .int r6), (0, .ref a0), (1, .ref a1)]) rfl rfl (Nat.le_of_ble_eq_true rfl) rfl ?_
      refine x_aload_n rfl rfl ?_
      refine x_gR lf_Evenings_39 k0 rfl rfl ?_
      refine x_iload_n rfl rfl ?_
      refine x_vi lm_Evenings_101 vf_Row_get (ck_10_6 k0) rfl rfl (Nat.le_of_ble_eq_true rfl) rfl h (fun r8 D7 h => ?_)
      refine x_istore_n (i := 3) (L1 := [(3, .int r8), (2, .int r6), (0, .ref a0), (1, .ref a1)]) rfl rfl (Nat.le_of_ble_eq_true rfl) rfl ?_
      refine x_aload_n rfl rfl ?_
      refine x_gR lf_Evenings_33 k0 rfl rfl ?_
      refine x_iload_n rfl rfl ?_
      refine x_iconst (v := (1 : Int32)) rfl rfl ?_
      refine x_vv lm_Evenings_125 vf_Row_add (ck_10_4 k0) rfl rfl (Nat.le_of_ble_eq_true rfl) rfl h (fun D9 h => ?_)
      refine x_aload_n rfl rfl ?_
      refine x_gR lf_Evenings_33 k0 rfl rfl ?_
      refine x_iload_n rfl rfl ?_
      refine x_vi lm_Evenings_101 vf_Row_get (ck_10_4 k0) rfl rfl (Nat.le_of_ble_eq_true rfl) rfl h (fun r11 D10 h => ?_)
      refine x_aload_n rfl rfl ?_
      refine x_iconst (v := (3 : Int32)) rfl rfl ?_
      refine x_vi lm_Evenings_60 vf_Table_number k1 rfl rfl (Nat.le_of_ble_eq_true rfl) rfl h (fun r13 D12 h => ?_)
      refine x_icmp_lt (tgt := 175) rfl rfl (fun c => ?_) (fun c => ?_)
      · have h := h.1 c
        refine x_aload_n rfl rfl ?_
        refine x_dup rfl rfl ?_
        refine x_gI lf_Evenings_82 k0 rfl rfl ?_
        refine x_iconst (v := (1 : Int32)) rfl rfl ?_
        refine x_iadd rfl ?_
        refine x_pIn lp_Evenings_82 nf_10_9 k0 rfl rfl (fun D14 eD14 => ?_)
        have h := h D14 eD14
        refine x_iconst (v := (1 : Int32)) rfl rfl ?_
        exact x_zr rfl (Or.inr rfl) rfl h
      · have h := h.2 c
        refine x_aload_n rfl rfl ?_
        refine x_gR lf_Evenings_36 k0 rfl rfl ?_
        refine x_iload_n rfl rfl ?_
        refine x_aload_n rfl rfl ?_
        refine x_gI lf_Evenings_82 k0 rfl rfl ?_
        refine x_vv lm_Evenings_128 vf_Row_set (ck_10_5 k0) rfl rfl (Nat.le_of_ble_eq_true rfl) rfl h (fun D15 h => ?_)
        refine x_aload_n rfl rfl ?_
        refine x_aload_n rfl rfl ?_
        refine x_gI lf_Evenings_88 k0 rfl rfl ?_
        refine x_iconst (v := (-1 : Int32)) rfl rfl ?_
        refine x_icmp_ne (tgt := 160) rfl rfl (fun c => ?_) (fun c => ?_)
        · have h := h.1 c
          refine x_aload_n rfl rfl ?_
          refine x_gI lf_Evenings_88 k0 rfl rfl ?_
          refine x_pIn lp_Evenings_88 nf_10_11 k0 rfl rfl (fun D16 eD16 => ?_)
          have h := h D16 eD16
          refine x_aload_n rfl rfl ?_
          refine x_gR lf_Evenings_39 k0 rfl rfl ?_
          refine x_iload_n rfl rfl ?_
          refine x_vv lm_Evenings_131 vf_Row_remove (ck_10_6 k0) rfl rfl (Nat.le_of_ble_eq_true rfl) rfl h (fun D17 h => ?_)
          refine x_aload_n rfl rfl ?_
          refine x_dup rfl rfl ?_
          refine x_gI lf_Evenings_82 k0 rfl rfl ?_
          refine x_iconst (v := (1 : Int32)) rfl rfl ?_
          refine x_iadd rfl ?_
          refine x_pIn lp_Evenings_82 nf_10_9 k0 rfl rfl (fun D18 eD18 => ?_)
          have h := h D18 eD18
          refine x_iconst (v := (1 : Int32)) rfl rfl ?_
          exact x_zr rfl (Or.inr rfl) rfl h
        · have h := h.2 c
          refine x_iload_n rfl rfl ?_
          refine x_goto (tgt := 164) rfl rfl ?_
          refine x_pIn lp_Evenings_88 nf_10_11 k0 rfl rfl (fun D19 eD19 => ?_)
          have h := h D19 eD19
          refine x_aload_n rfl rfl ?_
          refine x_gR lf_Evenings_39 k0 rfl rfl ?_
          refine x_iload_n rfl rfl ?_
          refine x_vv lm_Evenings_131 vf_Row_remove (ck_10_6 k0) rfl rfl (Nat.le_of_ble_eq_true rfl) rfl h (fun D20 h => ?_)
          refine x_aload_n rfl rfl ?_
          refine x_dup rfl rfl ?_
          refine x_gI lf_Evenings_82 k0 rfl rfl ?_
          refine x_iconst (v := (1 : Int32)) rfl rfl ?_
          refine x_iadd rfl ?_
          refine x_pIn lp_Evenings_82 nf_10_9 k0 rfl rfl (fun D21 eD21 => ?_)
          have h := h D21 eD21
          refine x_iconst (v := (1 : Int32)) rfl rfl ?_
          exact x_zr rfl (Or.inr rfl) rfl h
    · have h := h.2 c
      refine x_iconst (v := (0 : Int32)) rfl rfl ?_
      exact x_zr rfl (Or.inl rfl) rfl h
  · have h := h.2 c
    refine x_aload_n rfl rfl ?_
    refine x_gR lf_Evenings_45 k0 rfl rfl ?_
    refine x_aload_n rfl rfl ?_
    refine x_aload_n rfl rfl ?_
    refine x_gR lf_Evenings_39 k0 rfl rfl ?_
    refine x_iload_n rfl rfl ?_
    refine x_vi lm_Evenings_101 vf_Row_get (ck_10_6 k0) rfl rfl (Nat.le_of_ble_eq_true rfl) rfl h (fun r23 D22 h => ?_)
    refine x_vv lm_Evenings_107 vf_Table_seat (ck_10_7 k0) rfl rfl (Nat.le_of_ble_eq_true rfl) rfl h (fun D24 h => ?_)
    refine x_iinc (i := 2) (v := x2 + (1 : Int32)) (L1 := [(2, .int (x2 + (1 : Int32))), (0, .ref a0), (1, .ref a1)]) rfl rfl rfl (Nat.le_of_ble_eq_true rfl) rfl ?_
    refine x_goto (tgt := 10) rfl rfl ?_
    exact xP_sub [1, 2, 0] rfl h
theorem s_Evenings_answer_0 {d : Nat} {D : xD} {Q : Option Value → xD → Prop} {a0 : Nat} {x1 : Int32} (k0 : xk a0 = 10) (h : (¬ x1 = 0 → (¬ x1 = (1 : Int32) → Q (some (.int (D.1 a0 11))) D) ∧ (x1 = (1 : Int32) → Q (some (.int (D.1 a0 9))) D)) ∧ (x1 = 0 → Q (some (.int (D.1 a0 10))) D)) : xPf (d + 1) m_Evenings_answer 0 [(0, .ref a0), (1, .int x1)] [] D Q := by
  refine x_iload_n rfl rfl ?_
  refine x_if_ne (tgt := 9) rfl rfl (fun c => ?_) (fun c => ?_)
  · have h := h.1 c
    refine x_iload_n rfl rfl ?_
    refine x_iconst (v := (1 : Int32)) rfl rfl ?_
    refine x_icmp_ne (tgt := 21) rfl rfl (fun c => ?_) (fun c => ?_)
    · have h := h.1 c
      refine x_aload_n rfl rfl ?_
      refine x_gI lf_Evenings_88 k0 rfl rfl ?_
      exact x_iret rfl rfl h
    · have h := h.2 c
      refine x_aload_n rfl rfl ?_
      refine x_gI lf_Evenings_82 k0 rfl rfl ?_
      refine x_goto (tgt := 25) rfl rfl ?_
      exact x_iret rfl rfl h
  · have h := h.2 c
    refine x_aload_n rfl rfl ?_
    refine x_gI lf_Evenings_85 k0 rfl rfl ?_
    exact x_iret rfl rfl h
theorem s_Evenings_answerOf_0 {d : Nat} {D : xD} {Q : Option Value → xD → Prop} {a0 : Nat} {x1 : Int32} {x2 : Int32} (k0 : xk a0 = 10) (h : (x2 = 0 → xCi d m_Row_get [.ref (a0 + 41), .int x1] D (fun r2 D1 => Q (some (.int r2)) D1)) ∧ (¬ x2 = 0 → xCi d m_Row_get [.ref (a0 + 39), .int x1] D (fun r4 D3 => Q (some (.int r4)) D3))) : xPf (d + 1) m_Evenings_answerOf 0 [(0, .ref a0), (1, .int x1), (2, .int x2)] [] D Q := by
  refine x_iload_n rfl rfl ?_
  refine x_if_eq (tgt := 15) rfl rfl (fun c => ?_) (fun c => ?_)
  · have h := h.1 c
    refine x_aload_n rfl rfl ?_
    refine x_gR lf_Evenings_36 k0 rfl rfl ?_
    refine x_iload_n rfl rfl ?_
    refine x_vi lm_Evenings_101 vf_Row_get (ck_10_5 k0) rfl rfl (Nat.le_of_ble_eq_true rfl) rfl h (fun r2 D1 h => ?_)
    exact x_iret rfl rfl h
  · have h := h.2 c
    refine x_aload_n rfl rfl ?_
    refine x_gR lf_Evenings_33 k0 rfl rfl ?_
    refine x_iload_n rfl rfl ?_
    refine x_vi lm_Evenings_101 vf_Row_get (ck_10_4 k0) rfl rfl (Nat.le_of_ble_eq_true rfl) rfl h (fun r4 D3 h => ?_)
    refine x_goto (tgt := 23) rfl rfl ?_
    exact x_iret rfl rfl h
theorem s_Evenings_playRounds_0 {d : Nat} {D : xD} {Q : Option Value → xD → Prop} {a0 : Nat} {a1 : Nat} {x2 : Int32} {x3 : Int32} (k0 : xk a0 = 10) (k1 : xk a1 = 4) (h : ∀ D1 : xD, D1 = (xu D.1 a0 8 x2, D.2) → xCv d m_Row_clear [.ref (a0 + 35)] D1 (fun D2 => xCv d m_Row_clear [.ref (a0 + 37)] D2 (fun D3 => xPf (d + 1) m_Evenings_playRounds 22 [(0, .ref a0), (1, .ref a1), (2, .int x2), (3, .int x3), (4, .int (0 : Int32))] [] D3 Q))) : xPf (d + 1) m_Evenings_playRounds 0 [(0, .ref a0), (1, .ref a1), (2, .int x2), (3, .int x3)] [] D Q := by
  refine x_aload_n rfl rfl ?_
  refine x_iload_n rfl rfl ?_
  refine x_pIn lp_Evenings_49 nf_10_8 k0 rfl rfl (fun D1 eD1 => ?_)
  have h := h D1 eD1
  refine x_aload_n rfl rfl ?_
  refine x_gR lf_Evenings_27 k0 rfl rfl ?_
  refine x_vv lm_Evenings_57 vf_Row_clear (ck_10_2 k0) rfl rfl (Nat.le_of_ble_eq_true rfl) rfl h (fun D2 h => ?_)
  refine x_aload_n rfl rfl ?_
  refine x_gR lf_Evenings_30 k0 rfl rfl ?_
  refine x_vv lm_Evenings_57 vf_Row_clear (ck_10_3 k0) rfl rfl (Nat.le_of_ble_eq_true rfl) rfl h (fun D3 h => ?_)
  refine x_iconst (v := (0 : Int32)) rfl rfl ?_
  refine x_istore (i := 4) (L1 := [(4, .int (0 : Int32)), (0, .ref a0), (1, .ref a1), (2, .int x2), (3, .int x3)]) rfl (Nat.le_of_ble_eq_true rfl) rfl ?_
  exact xP_sub [1, 2, 3, 4, 0] rfl h
theorem s_Evenings_playRounds_22 {d : Nat} {D : xD} {Q : Option Value → xD → Prop} {a0 : Nat} {a1 : Nat} {x2 : Int32} {x3 : Int32} {x4 : Int32} (k0 : xk a0 = 10) (k1 : xk a1 = 4) (h : (x3 ≤ x4 → Q none D) ∧ (¬ x3 ≤ x4 → xCv d m_Evenings_shuffle [.ref a0, .ref a1] D (fun D1 => xCv d m_Rounds_play [.ref (a0 + 1), .ref a1, .ref (a0 + 33), .int (2000 : Int32)] D1 (fun D2 => xCv d m_Row_push [.ref (a0 + 35), .int (D2.1 (a0 + 1) 6)] D2 (fun D3 => xCv d m_Row_push [.ref (a0 + 37), .int (D3.1 (a0 + 1) 7)] D3 (fun D4 => xPf (d + 1) m_Evenings_playRounds 22 [(0, .ref a0), (1, .ref a1), (2, .int x2), (3, .int x3), (4, .int (x4 + (1 : Int32)))] [] D4 Q)))))) : xPf (d + 1) m_Evenings_playRounds 22 [(0, .ref a0), (1, .ref a1), (2, .int x2), (3, .int x3), (4, .int x4)] [] D Q := by
  refine x_iload rfl rfl ?_
  refine x_iload_n rfl rfl ?_
  refine x_icmp_ge (tgt := 82) rfl rfl (fun c => ?_) (fun c => ?_)
  · have h := h.1 c
    exact x_vret rfl rfl h
  · have h := h.2 c
    refine x_aload_n rfl rfl ?_
    refine x_aload_n rfl rfl ?_
    refine x_vv lm_Evenings_53 vf_Evenings_shuffle k0 rfl rfl (Nat.le_of_ble_eq_true rfl) rfl h (fun D1 h => ?_)
    refine x_aload_n rfl rfl ?_
    refine x_gR lf_Evenings_12 k0 rfl rfl ?_
    refine x_aload_n rfl rfl ?_
    refine x_aload_n rfl rfl ?_
    refine x_gR lf_Evenings_23 k0 rfl rfl ?_
    refine x_sipush (v := (2000 : Int32)) rfl rfl ?_
    refine x_vv lm_Evenings_111 vf_Rounds_play (ck_10_0 k0) rfl rfl (Nat.le_of_ble_eq_true rfl) rfl h (fun D2 h => ?_)
    refine x_aload_n rfl rfl ?_
    refine x_gR lf_Evenings_27 k0 rfl rfl ?_
    refine x_aload_n rfl rfl ?_
    refine x_gR lf_Evenings_12 k0 rfl rfl ?_
    refine x_gI lf_Evenings_115 (ck_10_0 k0) rfl rfl ?_
    refine x_vv lm_Evenings_68 vf_Row_push (ck_10_2 k0) rfl rfl (Nat.le_of_ble_eq_true rfl) rfl h (fun D3 h => ?_)
    refine x_aload_n rfl rfl ?_
    refine x_gR lf_Evenings_30 k0 rfl rfl ?_
    refine x_aload_n rfl rfl ?_
    refine x_gR lf_Evenings_12 k0 rfl rfl ?_
    refine x_gI lf_Evenings_118 (ck_10_0 k0) rfl rfl ?_
    refine x_vv lm_Evenings_68 vf_Row_push (ck_10_3 k0) rfl rfl (Nat.le_of_ble_eq_true rfl) rfl h (fun D4 h => ?_)
    refine x_iinc (i := 4) (v := x4 + (1 : Int32)) (L1 := [(4, .int (x4 + (1 : Int32))), (0, .ref a0), (1, .ref a1), (2, .int x2), (3, .int x3)]) rfl rfl rfl (Nat.le_of_ble_eq_true rfl) rfl ?_
    refine x_goto (tgt := 22) rfl rfl ?_
    exact xP_sub [1, 2, 3, 4, 0] rfl h
theorem s_Evenings_timesFirst_0 {d : Nat} {D : xD} {Q : Option Value → xD → Prop} {a0 : Nat} {x1 : Int32} (k0 : xk a0 = 10) (h : xCi d m_Row_countOf [.ref (a0 + 35), .int x1] D (fun r2 D1 => Q (some (.int r2)) D1)) : xPf (d + 1) m_Evenings_timesFirst 0 [(0, .ref a0), (1, .int x1)] [] D Q := by
  refine x_aload_n rfl rfl ?_
  refine x_gR lf_Evenings_27 k0 rfl rfl ?_
  refine x_iload_n rfl rfl ?_
  refine x_vi lm_Evenings_134 vf_Row_countOf (ck_10_2 k0) rfl rfl (Nat.le_of_ble_eq_true rfl) rfl h (fun r2 D1 h => ?_)
  exact x_iret rfl rfl h
theorem s_Evenings_timesLast_0 {d : Nat} {D : xD} {Q : Option Value → xD → Prop} {a0 : Nat} {a1 : Nat} {x2 : Int32} (k0 : xk a0 = 10) (k1 : xk a1 = 4) (h : xPf (d + 1) m_Evenings_timesLast 5 [(0, .ref a0), (1, .ref a1), (2, .int x2), (3, .int (0 : Int32)), (4, .int (0 : Int32))] [] D Q) : xPf (d + 1) m_Evenings_timesLast 0 [(0, .ref a0), (1, .ref a1), (2, .int x2)] [] D Q := by
  refine x_iconst (v := (0 : Int32)) rfl rfl ?_
  refine x_istore_n (i := 3) (L1 := [(3, .int (0 : Int32)), (0, .ref a0), (1, .ref a1), (2, .int x2)]) rfl rfl (Nat.le_of_ble_eq_true rfl) rfl ?_
  refine x_iconst (v := (0 : Int32)) rfl rfl ?_
  refine x_istore (i := 4) (L1 := [(4, .int (0 : Int32)), (3, .int (0 : Int32)), (0, .ref a0), (1, .ref a1), (2, .int x2)]) rfl (Nat.le_of_ble_eq_true rfl) rfl ?_
  exact xP_sub [2, 3, 4, 1, 0] rfl h
theorem s_Evenings_timesLast_5 {d : Nat} {D : xD} {Q : Option Value → xD → Prop} {a0 : Nat} {a1 : Nat} {x2 : Int32} {x3 : Int32} {x4 : Int32} (k0 : xk a0 = 10) (k1 : xk a1 = 4) (h : xCi d m_Row_size [.ref (a0 + 35)] D (fun r2 D1 => (r2 ≤ x4 → Q (some (.int x3)) D1) ∧ (¬ r2 ≤ x4 → xCi d m_Row_get [.ref (a0 + 35), .int x4] D1 (fun r4 D3 => (r4 = (-1 : Int32) → xPf (d + 1) m_Evenings_timesLast 5 [(0, .ref a0), (1, .ref a1), (2, .int x2), (3, .int x3), (4, .int (x4 + (1 : Int32)))] [] D3 Q) ∧ (¬ r4 = (-1 : Int32) → xCi d m_Row_get [.ref (a0 + 35), .int x4] D3 (fun r6 D5 => xCi d m_Row_get [.ref (a0 + 37), .int x4] D5 (fun r8 D7 => xCi d m_Table_lastOf [.ref a1, .int r6, .int r8] D7 (fun r10 D9 => (¬ r10 = x2 → xPf (d + 1) m_Evenings_timesLast 5 [(0, .ref a0), (1, .ref a1), (2, .int x2), (3, .int x3), (4, .int (x4 + (1 : Int32)))] [] D9 Q) ∧ (r10 = x2 → xPf (d + 1) m_Evenings_timesLast 5 [(0, .ref a0), (1, .ref a1), (2, .int x2), (3, .int (x3 + (1 : Int32))), (4, .int (x4 + (1 : Int32)))] [] D9 Q))))))))) : xPf (d + 1) m_Evenings_timesLast 5 [(0, .ref a0), (1, .ref a1), (2, .int x2), (3, .int x3), (4, .int x4)] [] D Q := by
  refine x_iload rfl rfl ?_
  refine x_aload_n rfl rfl ?_
  refine x_gR lf_Evenings_27 k0 rfl rfl ?_
  refine x_vi lm_Evenings_71 vf_Row_size (ck_10_2 k0) rfl rfl (Nat.le_of_ble_eq_true rfl) rfl h (fun r2 D1 h => ?_)
  refine x_icmp_ge (tgt := 65) rfl rfl (fun c => ?_) (fun c => ?_)
  · have h := h.1 c
    refine x_iload_n rfl rfl ?_
    exact x_iret rfl rfl h
  · have h := h.2 c
    refine x_aload_n rfl rfl ?_
    refine x_gR lf_Evenings_27 k0 rfl rfl ?_
    refine x_iload rfl rfl ?_
    refine x_vi lm_Evenings_101 vf_Row_get (ck_10_2 k0) rfl rfl (Nat.le_of_ble_eq_true rfl) rfl h (fun r4 D3 h => ?_)
    refine x_iconst (v := (-1 : Int32)) rfl rfl ?_
    refine x_icmp_eq (tgt := 59) rfl rfl (fun c => ?_) (fun c => ?_)
    · have h := h.1 c
      refine x_iinc (i := 4) (v := x4 + (1 : Int32)) (L1 := [(4, .int (x4 + (1 : Int32))), (0, .ref a0), (1, .ref a1), (2, .int x2), (3, .int x3)]) rfl rfl rfl (Nat.le_of_ble_eq_true rfl) rfl ?_
      refine x_goto (tgt := 5) rfl rfl ?_
      exact xP_sub [1, 2, 3, 4, 0] rfl h
    · have h := h.2 c
      refine x_aload_n rfl rfl ?_
      refine x_aload_n rfl rfl ?_
      refine x_gR lf_Evenings_27 k0 rfl rfl ?_
      refine x_iload rfl rfl ?_
      refine x_vi lm_Evenings_101 vf_Row_get (ck_10_2 k0) rfl rfl (Nat.le_of_ble_eq_true rfl) rfl h (fun r6 D5 h => ?_)
      refine x_aload_n rfl rfl ?_
      refine x_gR lf_Evenings_30 k0 rfl rfl ?_
      refine x_iload rfl rfl ?_
      refine x_vi lm_Evenings_101 vf_Row_get (ck_10_3 k0) rfl rfl (Nat.le_of_ble_eq_true rfl) rfl h (fun r8 D7 h => ?_)
      refine x_vi lm_Evenings_121 vf_Table_lastOf k1 rfl rfl (Nat.le_of_ble_eq_true rfl) rfl h (fun r10 D9 h => ?_)
      refine x_iload_n rfl rfl ?_
      refine x_icmp_ne (tgt := 59) rfl rfl (fun c => ?_) (fun c => ?_)
      · have h := h.1 c
        refine x_iinc (i := 4) (v := x4 + (1 : Int32)) (L1 := [(4, .int (x4 + (1 : Int32))), (0, .ref a0), (1, .ref a1), (2, .int x2), (3, .int x3)]) rfl rfl rfl (Nat.le_of_ble_eq_true rfl) rfl ?_
        refine x_goto (tgt := 5) rfl rfl ?_
        exact xP_sub [1, 2, 3, 4, 0] rfl h
      · have h := h.2 c
        refine x_iinc (i := 3) (v := x3 + (1 : Int32)) (L1 := [(3, .int (x3 + (1 : Int32))), (0, .ref a0), (1, .ref a1), (2, .int x2), (4, .int x4)]) rfl rfl rfl (Nat.le_of_ble_eq_true rfl) rfl ?_
        refine x_iinc (i := 4) (v := x4 + (1 : Int32)) (L1 := [(4, .int (x4 + (1 : Int32))), (3, .int (x3 + (1 : Int32))), (0, .ref a0), (1, .ref a1), (2, .int x2)]) rfl rfl rfl (Nat.le_of_ble_eq_true rfl) rfl ?_
        refine x_goto (tgt := 5) rfl rfl ?_
        exact xP_sub [2, 3, 4, 1, 0] rfl h
theorem s_Evenings_leastValue_0 {d : Nat} {D : xD} {Q : Option Value → xD → Prop} {x0 : Int32}  (h : (x0 = 0 → Q (some (.int (1 : Int32))) D) ∧ (¬ x0 = 0 → (¬ x0 = (1 : Int32) → Q (some (.int (0 : Int32))) D) ∧ (x0 = (1 : Int32) → Q (some (.int (1 : Int32))) D))) : xPf (d + 1) m_Evenings_leastValue 0 [(0, .int x0)] [] D Q := by
  refine x_iload_n rfl rfl ?_
  refine x_if_eq (tgt := 9) rfl rfl (fun c => ?_) (fun c => ?_)
  · have h := h.1 c
    refine x_iconst (v := (1 : Int32)) rfl rfl ?_
    refine x_goto (tgt := 14) rfl rfl ?_
    exact x_iret rfl rfl h
  · have h := h.2 c
    refine x_iload_n rfl rfl ?_
    refine x_iconst (v := (1 : Int32)) rfl rfl ?_
    refine x_icmp_ne (tgt := 13) rfl rfl (fun c => ?_) (fun c => ?_)
    · have h := h.1 c
      refine x_iconst (v := (0 : Int32)) rfl rfl ?_
      exact x_iret rfl rfl h
    · have h := h.2 c
      refine x_iconst (v := (1 : Int32)) rfl rfl ?_
      refine x_goto (tgt := 14) rfl rfl ?_
      exact x_iret rfl rfl h
theorem s_Evenings_greatestValue_0 {d : Nat} {D : xD} {Q : Option Value → xD → Prop} {a0 : Nat} {x1 : Int32} (k0 : xk a0 = 4) (h : (x1 = (3 : Int32) → Q (some (.int (20 : Int32))) D) ∧ (x1 = (4 : Int32) → Q (some (.int (3 : Int32))) D) ∧ (x1 = (5 : Int32) → xCi d m_Table_people [.ref a0] D (fun r2 D1 => Q (some (.int (r2 - (1 : Int32)))) D1)) ∧ (((x1).toInt < 3 ∨ 5 < (x1).toInt) → Q (some (.int (9 : Int32))) D)) : xPf (d + 1) m_Evenings_greatestValue 0 [(0, .ref a0), (1, .int x1)] [] D Q := by
  refine x_iload_n rfl rfl ?_
  rcases Decidable.em ((x1).toInt < 3 ∨ 5 < (x1).toInt) with q | q
  · refine x_tableOut (tgt := 40) rfl q rfl ?_
    have h := h.2.2.2 q
    refine x_bipush (v := (9 : Int32)) rfl rfl ?_
    exact x_iret rfl rfl h
  · have q : (x1).toInt = 3 ∨ (x1).toInt = 4 ∨ (x1).toInt = 5 := by omega
    rcases q with q | q | q
    · have q : x1 = (3 : Int32) := Int32.toInt_inj.mp q
      refine x_tabK (k := (3 : Int32)) (tgt := 28) q rfl (by decide) (by decide) rfl rfl ?_
      have h := h.1 q
      refine x_bipush (v := (20 : Int32)) rfl rfl ?_
      exact x_iret rfl rfl h
    · have q : x1 = (4 : Int32) := Int32.toInt_inj.mp q
      refine x_tabK (k := (4 : Int32)) (tgt := 31) q rfl (by decide) (by decide) rfl rfl ?_
      have h := h.2.1 q
      refine x_iconst (v := (3 : Int32)) rfl rfl ?_
      exact x_iret rfl rfl h
    · have q : x1 = (5 : Int32) := Int32.toInt_inj.mp q
      refine x_tabK (k := (5 : Int32)) (tgt := 33) q rfl (by decide) (by decide) rfl rfl ?_
      have h := h.2.2.1 q
      refine x_aload_n rfl rfl ?_
      refine x_vi lm_Evenings_91 vf_Table_people k0 rfl rfl (Nat.le_of_ble_eq_true rfl) rfl h (fun r2 D1 h => ?_)
      refine x_iconst (v := (1 : Int32)) rfl rfl ?_
      refine x_isub rfl ?_
      exact x_iret rfl rfl h
theorem s_Evenings_wouldBe_0 {d : Nat} {D : xD} {Q : Option Value → xD → Prop} {a0 : Nat} {a1 : Nat} {x2 : Int32} {x3 : Int32} {x4 : Int32} {x5 : Int32} {x6 : Int32} {x7 : Int32} (k0 : xk a0 = 10) (k1 : xk a1 = 4) (h : xCi d m_Evenings_change [.ref a0, .ref a1, .int x4, .int x5, .int x6] D (fun r2 D1 => xCv d m_Evenings_playRounds [.ref a0, .ref (a0 + 45), .int x2, .int x3] D1 (fun D3 => (x7 = 0 → xCi d m_Evenings_timesLast [.ref a0, .ref (a0 + 45), .int r2] D3 (fun r5 D4 => Q (some (.int r5)) D4)) ∧ (¬ x7 = 0 → xCi d m_Evenings_timesFirst [.ref a0, .int r2] D3 (fun r7 D6 => Q (some (.int r7)) D6))))) : xPf (d + 1) m_Evenings_wouldBe 0 [(0, .ref a0), (1, .ref a1), (2, .int x2), (3, .int x3), (4, .int x4), (5, .int x5), (6, .int x6), (7, .int x7)] [] D Q := by
  refine x_aload_n rfl rfl ?_
  refine x_aload_n rfl rfl ?_
  refine x_iload rfl rfl ?_
  refine x_iload rfl rfl ?_
  refine x_iload rfl rfl ?_
  refine x_vi lm_Evenings_137 vf_Evenings_change k0 rfl rfl (Nat.le_of_ble_eq_true rfl) rfl h (fun r2 D1 h => ?_)
  refine x_istore (i := 8) (L1 := [(8, .int r2), (0, .ref a0), (1, .ref a1), (2, .int x2), (3, .int x3), (4, .int x4), (5, .int x5), (6, .int x6), (7, .int x7)]) rfl (Nat.le_of_ble_eq_true rfl) rfl ?_
  refine x_aload_n rfl rfl ?_
  refine x_aload_n rfl rfl ?_
  refine x_gR lf_Evenings_45 k0 rfl rfl ?_
  refine x_iload_n rfl rfl ?_
  refine x_iload_n rfl rfl ?_
  refine x_vv lm_Evenings_141 vf_Evenings_playRounds k0 rfl rfl (Nat.le_of_ble_eq_true rfl) rfl h (fun D3 h => ?_)
  refine x_iload rfl rfl ?_
  refine x_if_eq (tgt := 37) rfl rfl (fun c => ?_) (fun c => ?_)
  · have h := h.1 c
    refine x_aload_n rfl rfl ?_
    refine x_aload_n rfl rfl ?_
    refine x_gR lf_Evenings_45 k0 rfl rfl ?_
    refine x_iload rfl rfl ?_
    refine x_vi lm_Evenings_148 vf_Evenings_timesLast k0 rfl rfl (Nat.le_of_ble_eq_true rfl) rfl h (fun r5 D4 h => ?_)
    exact x_iret rfl rfl h
  · have h := h.2 c
    refine x_aload_n rfl rfl ?_
    refine x_iload rfl rfl ?_
    refine x_vi lm_Evenings_145 vf_Evenings_timesFirst k0 rfl rfl (Nat.le_of_ble_eq_true rfl) rfl h (fun r7 D6 h => ?_)
    refine x_goto (tgt := 47) rfl rfl ?_
    exact x_iret rfl rfl h
theorem s_Evenings_better_0 {d : Nat} {D : xD} {Q : Option Value → xD → Prop} {a0 : Nat} {a1 : Nat} {x2 : Int32} {x3 : Int32} {x4 : Int32} {x5 : Int32} (k0 : xk a0 = 10) (k1 : xk a1 = 4) (h : xCi d m_Evenings_greatestValue [.ref a1, .int x5] D (fun r2 D1 => xCi d m_Evenings_leastValue [.int x5] D1 (fun r4 D3 => xPf (d + 1) m_Evenings_better 21 [(0, .ref a0), (1, .ref a1), (2, .int x2), (3, .int x3), (4, .int x4), (5, .int x5), (6, .int (-1 : Int32)), (7, .int (0 : Int32)), (8, .int r2), (9, .int r4)] [] D3 Q))) : xPf (d + 1) m_Evenings_better 0 [(0, .ref a0), (1, .ref a1), (2, .int x2), (3, .int x3), (4, .int x4), (5, .int x5)] [] D Q := by
  refine x_iconst (v := (-1 : Int32)) rfl rfl ?_
  refine x_istore (i := 6) (L1 := [(6, .int (-1 : Int32)), (0, .ref a0), (1, .ref a1), (2, .int x2), (3, .int x3), (4, .int x4), (5, .int x5)]) rfl (Nat.le_of_ble_eq_true rfl) rfl ?_
  refine x_iconst (v := (0 : Int32)) rfl rfl ?_
  refine x_istore (i := 7) (L1 := [(7, .int (0 : Int32)), (6, .int (-1 : Int32)), (0, .ref a0), (1, .ref a1), (2, .int x2), (3, .int x3), (4, .int x4), (5, .int x5)]) rfl (Nat.le_of_ble_eq_true rfl) rfl ?_
  refine x_aload_n rfl rfl ?_
  refine x_iload rfl rfl ?_
  refine x_si lm_Evenings_152 sf_Evenings_greatestValue rfl rfl (Nat.le_of_ble_eq_true rfl) rfl h (fun r2 D1 h => ?_)
  refine x_istore (i := 8) (L1 := [(8, .int r2), (7, .int (0 : Int32)), (6, .int (-1 : Int32)), (0, .ref a0), (1, .ref a1), (2, .int x2), (3, .int x3), (4, .int x4), (5, .int x5)]) rfl (Nat.le_of_ble_eq_true rfl) rfl ?_
  refine x_iload rfl rfl ?_
  refine x_si lm_Evenings_155 sf_Evenings_leastValue rfl rfl (Nat.le_of_ble_eq_true rfl) rfl h (fun r4 D3 h => ?_)
  refine x_istore (i := 9) (L1 := [(9, .int r4), (8, .int r2), (7, .int (0 : Int32)), (6, .int (-1 : Int32)), (0, .ref a0), (1, .ref a1), (2, .int x2), (3, .int x3), (4, .int x4), (5, .int x5)]) rfl (Nat.le_of_ble_eq_true rfl) rfl ?_
  exact xP_sub [4, 5, 6, 7, 8, 9, 3, 2, 1, 0] rfl h
theorem s_Evenings_better_21 {d : Nat} {D : xD} {Q : Option Value → xD → Prop} {a0 : Nat} {a1 : Nat} {x2 : Int32} {x3 : Int32} {x4 : Int32} {x5 : Int32} {x6 : Int32} {x7 : Int32} {x8 : Int32} {x9 : Int32} (k0 : xk a0 = 10) (k1 : xk a1 = 4) (h : (x8 < x9 → Q (some (.int x6)) D) ∧ (¬ x8 < x9 → xCi d m_Evenings_change [.ref a0, .ref a1, .int x4, .int x5, .int x9] D (fun r2 D1 => (x6 = (-1 : Int32) → xCv d m_Evenings_playRounds [.ref a0, .ref (a0 + 45), .int x2, .int x3] D1 (fun D3 => xPf (d + 1) m_Evenings_better 74 [(0, .ref a0), (1, .ref a1), (2, .int x2), (3, .int x3), (4, .int x4), (5, .int x5), (6, .int x6), (7, .int x7), (8, .int x8), (9, .int x9), (10, .int r2)] [] D3 Q)) ∧ (¬ x6 = (-1 : Int32) → (x5 = 0 → xCv d m_Evenings_playRounds [.ref a0, .ref (a0 + 45), .int x2, .int x3] D1 (fun D4 => xPf (d + 1) m_Evenings_better 74 [(0, .ref a0), (1, .ref a1), (2, .int x2), (3, .int x3), (4, .int x4), (5, .int x5), (6, .int x6), (7, .int x7), (8, .int x8), (9, .int x9), (10, .int r2)] [] D4 Q)) ∧ (¬ x5 = 0 → (x5 = (4 : Int32) → xCv d m_Evenings_playRounds [.ref a0, .ref (a0 + 45), .int x2, .int x3] D1 (fun D5 => xPf (d + 1) m_Evenings_better 74 [(0, .ref a0), (1, .ref a1), (2, .int x2), (3, .int x3), (4, .int x4), (5, .int x5), (6, .int x6), (7, .int x7), (8, .int x8), (9, .int x9), (10, .int r2)] [] D5 Q)) ∧ (¬ x5 = (4 : Int32) → (¬ x5 = (5 : Int32) → xPf (d + 1) m_Evenings_better 74 [(0, .ref a0), (1, .ref a1), (2, .int x2), (3, .int x3), (4, .int x4), (5, .int x5), (6, .int x6), (7, .int x7), (8, .int x8), (9, .int x9), (10, .int r2)] [] D1 Q) ∧ (x5 = (5 : Int32) → xCv d m_Evenings_playRounds [.ref a0, .ref (a0 + 45), .int x2, .int x3] D1 (fun D6 => xPf (d + 1) m_Evenings_better 74 [(0, .ref a0), (1, .ref a1), (2, .int x2), (3, .int x3), (4, .int x4), (5, .int x5), (6, .int x6), (7, .int x7), (8, .int x8), (9, .int x9), (10, .int r2)] [] D6 Q)))))))) : xPf (d + 1) m_Evenings_better 21 [(0, .ref a0), (1, .ref a1), (2, .int x2), (3, .int x3), (4, .int x4), (5, .int x5), (6, .int x6), (7, .int x7), (8, .int x8), (9, .int x9)] [] D Q := by
  refine x_iload rfl rfl ?_
  refine x_iload rfl rfl ?_
  refine x_icmp_gt (tgt := 113) rfl rfl (fun c => ?_) (fun c => ?_)
  · have h := h.1 c
    refine x_iload rfl rfl ?_
    exact x_iret rfl rfl h
  · have h := h.2 c
    refine x_aload_n rfl rfl ?_
    refine x_aload_n rfl rfl ?_
    refine x_iload rfl rfl ?_
    refine x_iload rfl rfl ?_
    refine x_iload rfl rfl ?_
    refine x_vi lm_Evenings_137 vf_Evenings_change k0 rfl rfl (Nat.le_of_ble_eq_true rfl) rfl h (fun r2 D1 h => ?_)
    refine x_istore (i := 10) (L1 := [(10, .int r2), (0, .ref a0), (1, .ref a1), (2, .int x2), (3, .int x3), (4, .int x4), (5, .int x5), (6, .int x6), (7, .int x7), (8, .int x8), (9, .int x9)]) rfl (Nat.le_of_ble_eq_true rfl) rfl ?_
    refine x_iload rfl rfl ?_
    refine x_iconst (v := (-1 : Int32)) rfl rfl ?_
    refine x_icmp_eq (tgt := 64) rfl rfl (fun c => ?_) (fun c => ?_)
    · have h := h.1 c
      refine x_aload_n rfl rfl ?_
      refine x_aload_n rfl rfl ?_
      refine x_gR lf_Evenings_45 k0 rfl rfl ?_
      refine x_iload_n rfl rfl ?_
      refine x_iload_n rfl rfl ?_
      refine x_vv lm_Evenings_141 vf_Evenings_playRounds k0 rfl rfl (Nat.le_of_ble_eq_true rfl) rfl h (fun D3 h => ?_)
      exact xP_sub [1, 2, 3, 4, 5, 6, 7, 8, 9, 10, 0] rfl h
    · have h := h.2 c
      refine x_iload rfl rfl ?_
      refine x_if_eq (tgt := 64) rfl rfl (fun c => ?_) (fun c => ?_)
      · have h := h.1 c
        refine x_aload_n rfl rfl ?_
        refine x_aload_n rfl rfl ?_
        refine x_gR lf_Evenings_45 k0 rfl rfl ?_
        refine x_iload_n rfl rfl ?_
        refine x_iload_n rfl rfl ?_
        refine x_vv lm_Evenings_141 vf_Evenings_playRounds k0 rfl rfl (Nat.le_of_ble_eq_true rfl) rfl h (fun D4 h => ?_)
        exact xP_sub [1, 2, 3, 4, 5, 6, 7, 8, 9, 10, 0] rfl h
      · have h := h.2 c
        refine x_iload rfl rfl ?_
        refine x_iconst (v := (4 : Int32)) rfl rfl ?_
        refine x_icmp_eq (tgt := 64) rfl rfl (fun c => ?_) (fun c => ?_)
        · have h := h.1 c
          refine x_aload_n rfl rfl ?_
          refine x_aload_n rfl rfl ?_
          refine x_gR lf_Evenings_45 k0 rfl rfl ?_
          refine x_iload_n rfl rfl ?_
          refine x_iload_n rfl rfl ?_
          refine x_vv lm_Evenings_141 vf_Evenings_playRounds k0 rfl rfl (Nat.le_of_ble_eq_true rfl) rfl h (fun D5 h => ?_)
          exact xP_sub [1, 2, 3, 4, 5, 6, 7, 8, 9, 10, 0] rfl h
        · have h := h.2 c
          refine x_iload rfl rfl ?_
          refine x_iconst (v := (5 : Int32)) rfl rfl ?_
          refine x_icmp_ne (tgt := 74) rfl rfl (fun c => ?_) (fun c => ?_)
          · have h := h.1 c
            exact xP_sub [1, 2, 3, 4, 5, 6, 7, 8, 9, 10, 0] rfl h
          · have h := h.2 c
            refine x_aload_n rfl rfl ?_
            refine x_aload_n rfl rfl ?_
            refine x_gR lf_Evenings_45 k0 rfl rfl ?_
            refine x_iload_n rfl rfl ?_
            refine x_iload_n rfl rfl ?_
            refine x_vv lm_Evenings_141 vf_Evenings_playRounds k0 rfl rfl (Nat.le_of_ble_eq_true rfl) rfl h (fun D6 h => ?_)
            exact xP_sub [1, 2, 3, 4, 5, 6, 7, 8, 9, 10, 0] rfl h
theorem s_Evenings_better_74 {d : Nat} {D : xD} {Q : Option Value → xD → Prop} {a0 : Nat} {a1 : Nat} {x2 : Int32} {x3 : Int32} {x4 : Int32} {x5 : Int32} {x6 : Int32} {x7 : Int32} {x8 : Int32} {x9 : Int32} {x10 : Int32} (k0 : xk a0 = 10) (k1 : xk a1 = 4) (h : xCi d m_Evenings_timesLast [.ref a0, .ref (a0 + 45), .int x10] D (fun r2 D1 => (x6 = (-1 : Int32) → xPf (d + 1) m_Evenings_better 21 [(0, .ref a0), (1, .ref a1), (2, .int x2), (3, .int x3), (4, .int x4), (5, .int x5), (6, .int x9), (7, .int r2), (8, .int x8), (9, .int (x9 + (1 : Int32)))] [] D1 Q) ∧ (¬ x6 = (-1 : Int32) → (x7 ≤ r2 → xPf (d + 1) m_Evenings_better 21 [(0, .ref a0), (1, .ref a1), (2, .int x2), (3, .int x3), (4, .int x4), (5, .int x5), (6, .int x6), (7, .int x7), (8, .int x8), (9, .int (x9 + (1 : Int32)))] [] D1 Q) ∧ (¬ x7 ≤ r2 → xPf (d + 1) m_Evenings_better 21 [(0, .ref a0), (1, .ref a1), (2, .int x2), (3, .int x3), (4, .int x4), (5, .int x5), (6, .int x9), (7, .int r2), (8, .int x8), (9, .int (x9 + (1 : Int32)))] [] D1 Q)))) : xPf (d + 1) m_Evenings_better 74 [(0, .ref a0), (1, .ref a1), (2, .int x2), (3, .int x3), (4, .int x4), (5, .int x5), (6, .int x6), (7, .int x7), (8, .int x8), (9, .int x9), (10, .int x10)] [] D Q := by
  refine x_aload_n rfl rfl ?_
  refine x_aload_n rfl rfl ?_
  refine x_gR lf_Evenings_45 k0 rfl rfl ?_
  refine x_iload rfl rfl ?_
  refine x_vi lm_Evenings_148 vf_Evenings_timesLast k0 rfl rfl (Nat.le_of_ble_eq_true rfl) rfl h (fun r2 D1 h => ?_)
  refine x_istore (i := 11) (L1 := [(11, .int r2), (0, .ref a0), (1, .ref a1), (2, .int x2), (3, .int x3), (4, .int x4), (5, .int x5), (6, .int x6), (7, .int x7), (8, .int x8), (9, .int x9), (10, .int x10)]) rfl (Nat.le_of_ble_eq_true rfl) rfl ?_
  refine x_iload rfl rfl ?_
  refine x_iconst (v := (-1 : Int32)) rfl rfl ?_
  refine x_icmp_eq (tgt := 99) rfl rfl (fun c => ?_) (fun c => ?_)
  · have h := h.1 c
    refine x_iload rfl rfl ?_
    refine x_istore (i := 6) (L1 := [(6, .int x9), (11, .int r2), (0, .ref a0), (1, .ref a1), (2, .int x2), (3, .int x3), (4, .int x4), (5, .int x5), (7, .int x7), (8, .int x8), (9, .int x9), (10, .int x10)]) rfl (Nat.le_of_ble_eq_true rfl) rfl ?_
    refine x_iload rfl rfl ?_
    refine x_istore (i := 7) (L1 := [(7, .int r2), (6, .int x9), (11, .int r2), (0, .ref a0), (1, .ref a1), (2, .int x2), (3, .int x3), (4, .int x4), (5, .int x5), (8, .int x8), (9, .int x9), (10, .int x10)]) rfl (Nat.le_of_ble_eq_true rfl) rfl ?_
    refine x_iinc (i := 9) (v := x9 + (1 : Int32)) (L1 := [(9, .int (x9 + (1 : Int32))), (7, .int r2), (6, .int x9), (11, .int r2), (0, .ref a0), (1, .ref a1), (2, .int x2), (3, .int x3), (4, .int x4), (5, .int x5), (8, .int x8), (10, .int x10)]) rfl rfl rfl (Nat.le_of_ble_eq_true rfl) rfl ?_
    refine x_goto (tgt := 21) rfl rfl ?_
    exact xP_sub [4, 5, 6, 7, 8, 9, 2, 1, 10, 0] rfl h
  · have h := h.2 c
    refine x_iload rfl rfl ?_
    refine x_iload rfl rfl ?_
    refine x_icmp_ge (tgt := 107) rfl rfl (fun c => ?_) (fun c => ?_)
    · have h := h.1 c
      refine x_iinc (i := 9) (v := x9 + (1 : Int32)) (L1 := [(9, .int (x9 + (1 : Int32))), (11, .int r2), (0, .ref a0), (1, .ref a1), (2, .int x2), (3, .int x3), (4, .int x4), (5, .int x5), (6, .int x6), (7, .int x7), (8, .int x8), (10, .int x10)]) rfl rfl rfl (Nat.le_of_ble_eq_true rfl) rfl ?_
      refine x_goto (tgt := 21) rfl rfl ?_
      exact xP_sub [2, 3, 4, 5, 6, 7, 8, 9, 10, 0] rfl h
    · have h := h.2 c
      refine x_iload rfl rfl ?_
      refine x_istore (i := 6) (L1 := [(6, .int x9), (11, .int r2), (0, .ref a0), (1, .ref a1), (2, .int x2), (3, .int x3), (4, .int x4), (5, .int x5), (7, .int x7), (8, .int x8), (9, .int x9), (10, .int x10)]) rfl (Nat.le_of_ble_eq_true rfl) rfl ?_
      refine x_iload rfl rfl ?_
      refine x_istore (i := 7) (L1 := [(7, .int r2), (6, .int x9), (11, .int r2), (0, .ref a0), (1, .ref a1), (2, .int x2), (3, .int x3), (4, .int x4), (5, .int x5), (8, .int x8), (9, .int x9), (10, .int x10)]) rfl (Nat.le_of_ble_eq_true rfl) rfl ?_
      refine x_iinc (i := 9) (v := x9 + (1 : Int32)) (L1 := [(9, .int (x9 + (1 : Int32))), (7, .int r2), (6, .int x9), (11, .int r2), (0, .ref a0), (1, .ref a1), (2, .int x2), (3, .int x3), (4, .int x4), (5, .int x5), (8, .int x8), (10, .int x10)]) rfl rfl rfl (Nat.le_of_ble_eq_true rfl) rfl ?_
      refine x_goto (tgt := 21) rfl rfl ?_
      exact xP_sub [4, 5, 6, 7, 8, 9, 2, 1, 10, 0] rfl h
theorem s_Evenings_change_0 {d : Nat} {D : xD} {Q : Option Value → xD → Prop} {a0 : Nat} {a1 : Nat} {x2 : Int32} {x3 : Int32} {x4 : Int32} (k0 : xk a0 = 10) (k1 : xk a1 = 4) (h : (¬ x3 = (5 : Int32) → xCv d m_Table_copy [.ref (a0 + 45), .ref a1] D (fun D1 => xCv d m_Table_setOf [.ref (a0 + 45), .int x2, .int x3, .int x4] D1 (fun D2 => xCi d m_Table_of [.ref (a0 + 45), .int x2, .int (5 : Int32)] D2 (fun r4 D3 => (¬ r4 = (-1 : Int32) → Q (some (.int x2)) D3) ∧ (r4 = (-1 : Int32) → xCv d m_Table_setOf [.ref (a0 + 45), .int x2, .int (5 : Int32), .int (0 : Int32)] D3 (fun D5 => Q (some (.int x2)) D5)))))) ∧ (x3 = (5 : Int32) → xCv d m_Evenings_reseat [.ref a0, .ref a1, .int x2, .int x4] D (fun D6 => Q (some (.int x4)) D6))) : xPf (d + 1) m_Evenings_change 0 [(0, .ref a0), (1, .ref a1), (2, .int x2), (3, .int x3), (4, .int x4)] [] D Q := by
  refine x_iload_n rfl rfl ?_
  refine x_iconst (v := (5 : Int32)) rfl rfl ?_
  refine x_icmp_ne (tgt := 16) rfl rfl (fun c => ?_) (fun c => ?_)
  · have h := h.1 c
    refine x_aload_n rfl rfl ?_
    refine x_gR lf_Evenings_45 k0 rfl rfl ?_
    refine x_aload_n rfl rfl ?_
    refine x_vv lm_Evenings_161 vf_Table_copy (ck_10_7 k0) rfl rfl (Nat.le_of_ble_eq_true rfl) rfl h (fun D1 h => ?_)
    refine x_aload_n rfl rfl ?_
    refine x_gR lf_Evenings_45 k0 rfl rfl ?_
    refine x_iload_n rfl rfl ?_
    refine x_iload_n rfl rfl ?_
    refine x_iload rfl rfl ?_
    refine x_vv lm_Evenings_164 vf_Table_setOf (ck_10_7 k0) rfl rfl (Nat.le_of_ble_eq_true rfl) rfl h (fun D2 h => ?_)
    refine x_aload_n rfl rfl ?_
    refine x_gR lf_Evenings_45 k0 rfl rfl ?_
    refine x_iload_n rfl rfl ?_
    refine x_iconst (v := (5 : Int32)) rfl rfl ?_
    refine x_vi lm_Evenings_168 vf_Table_of (ck_10_7 k0) rfl rfl (Nat.le_of_ble_eq_true rfl) rfl h (fun r4 D3 h => ?_)
    refine x_iconst (v := (-1 : Int32)) rfl rfl ?_
    refine x_icmp_ne (tgt := 58) rfl rfl (fun c => ?_) (fun c => ?_)
    · have h := h.1 c
      refine x_iload_n rfl rfl ?_
      exact x_iret rfl rfl h
    · have h := h.2 c
      refine x_aload_n rfl rfl ?_
      refine x_gR lf_Evenings_45 k0 rfl rfl ?_
      refine x_iload_n rfl rfl ?_
      refine x_iconst (v := (5 : Int32)) rfl rfl ?_
      refine x_iconst (v := (0 : Int32)) rfl rfl ?_
      refine x_vv lm_Evenings_164 vf_Table_setOf (ck_10_7 k0) rfl rfl (Nat.le_of_ble_eq_true rfl) rfl h (fun D5 h => ?_)
      refine x_iload_n rfl rfl ?_
      exact x_iret rfl rfl h
  · have h := h.2 c
    refine x_aload_n rfl rfl ?_
    refine x_aload_n rfl rfl ?_
    refine x_iload_n rfl rfl ?_
    refine x_iload rfl rfl ?_
    refine x_vv lm_Evenings_158 vf_Evenings_reseat k0 rfl rfl (Nat.le_of_ble_eq_true rfl) rfl h (fun D6 h => ?_)
    refine x_iload rfl rfl ?_
    exact x_iret rfl rfl h
theorem s_Evenings_reseat_0 {d : Nat} {D : xD} {Q : Option Value → xD → Prop} {a0 : Nat} {a1 : Nat} {x2 : Int32} {x3 : Int32} (k0 : xk a0 = 10) (k1 : xk a1 = 4) (h : xCv d m_Table_copyEmpty [.ref (a0 + 45), .ref a1] D (fun D1 => xPf (d + 1) m_Evenings_reseat 14 [(0, .ref a0), (1, .ref a1), (2, .int x2), (3, .int x3), (4, .int (0 : Int32)), (5, .int (0 : Int32))] [] D1 Q)) : xPf (d + 1) m_Evenings_reseat 0 [(0, .ref a0), (1, .ref a1), (2, .int x2), (3, .int x3)] [] D Q := by
  refine x_aload_n rfl rfl ?_
  refine x_gR lf_Evenings_45 k0 rfl rfl ?_
  refine x_aload_n rfl rfl ?_
  refine x_vv lm_Evenings_104 vf_Table_copyEmpty (ck_10_7 k0) rfl rfl (Nat.le_of_ble_eq_true rfl) rfl h (fun D1 h => ?_)
  refine x_iconst (v := (0 : Int32)) rfl rfl ?_
  refine x_istore (i := 4) (L1 := [(4, .int (0 : Int32)), (0, .ref a0), (1, .ref a1), (2, .int x2), (3, .int x3)]) rfl (Nat.le_of_ble_eq_true rfl) rfl ?_
  refine x_iconst (v := (0 : Int32)) rfl rfl ?_
  refine x_istore (i := 5) (L1 := [(5, .int (0 : Int32)), (4, .int (0 : Int32)), (0, .ref a0), (1, .ref a1), (2, .int x2), (3, .int x3)]) rfl (Nat.le_of_ble_eq_true rfl) rfl ?_
  exact xP_sub [2, 3, 4, 5, 1, 0] rfl h
theorem s_Evenings_reseat_14 {d : Nat} {D : xD} {Q : Option Value → xD → Prop} {a0 : Nat} {a1 : Nat} {x2 : Int32} {x3 : Int32} {x4 : Int32} {x5 : Int32} (k0 : xk a0 = 10) (k1 : xk a1 = 4) (h : xCi d m_Table_people [.ref a1] D (fun r2 D1 => (r2 ≤ x5 → Q none D1) ∧ (¬ r2 ≤ x5 → (¬ x5 = x3 → (¬ x4 = x2 → xCv d m_Table_seat [.ref (a0 + 45), .ref a1, .int (x4 + (0 : Int32))] D1 (fun D3 => xPf (d + 1) m_Evenings_reseat 14 [(0, .ref a0), (1, .ref a1), (2, .int x2), (3, .int x3), (4, .int ((x4 + (0 : Int32)) + (1 : Int32))), (5, .int (x5 + (1 : Int32)))] [] D3 Q)) ∧ (x4 = x2 → xCv d m_Table_seat [.ref (a0 + 45), .ref a1, .int (x4 + (1 : Int32))] D1 (fun D4 => xPf (d + 1) m_Evenings_reseat 14 [(0, .ref a0), (1, .ref a1), (2, .int x2), (3, .int x3), (4, .int ((x4 + (1 : Int32)) + (1 : Int32))), (5, .int (x5 + (1 : Int32)))] [] D4 Q))) ∧ (x5 = x3 → xCv d m_Table_seat [.ref (a0 + 45), .ref a1, .int x2] D1 (fun D5 => xPf (d + 1) m_Evenings_reseat 14 [(0, .ref a0), (1, .ref a1), (2, .int x2), (3, .int x3), (4, .int x4), (5, .int (x5 + (1 : Int32)))] [] D5 Q))))) : xPf (d + 1) m_Evenings_reseat 14 [(0, .ref a0), (1, .ref a1), (2, .int x2), (3, .int x3), (4, .int x4), (5, .int x5)] [] D Q := by
  refine x_iload rfl rfl ?_
  refine x_aload_n rfl rfl ?_
  refine x_vi lm_Evenings_91 vf_Table_people k1 rfl rfl (Nat.le_of_ble_eq_true rfl) rfl h (fun r2 D1 h => ?_)
  refine x_icmp_ge (tgt := 76) rfl rfl (fun c => ?_) (fun c => ?_)
  · have h := h.1 c
    exact x_vret rfl rfl h
  · have h := h.2 c
    refine x_iload rfl rfl ?_
    refine x_iload_n rfl rfl ?_
    refine x_icmp_ne (tgt := 41) rfl rfl (fun c => ?_) (fun c => ?_)
    · have h := h.1 c
      refine x_iload rfl rfl ?_
      refine x_iload rfl rfl ?_
      refine x_iload_n rfl rfl ?_
      refine x_icmp_ne (tgt := 53) rfl rfl (fun c => ?_) (fun c => ?_)
      · have h := h.1 c
        refine x_iconst (v := (0 : Int32)) rfl rfl ?_
        refine x_iadd rfl ?_
        refine x_istore (i := 4) (L1 := [(4, .int (x4 + (0 : Int32))), (0, .ref a0), (1, .ref a1), (2, .int x2), (3, .int x3), (5, .int x5)]) rfl (Nat.le_of_ble_eq_true rfl) rfl ?_
        refine x_aload_n rfl rfl ?_
        refine x_gR lf_Evenings_45 k0 rfl rfl ?_
        refine x_aload_n rfl rfl ?_
        refine x_iload rfl rfl ?_
        refine x_vv lm_Evenings_107 vf_Table_seat (ck_10_7 k0) rfl rfl (Nat.le_of_ble_eq_true rfl) rfl h (fun D3 h => ?_)
        refine x_iinc (i := 4) (v := (x4 + (0 : Int32)) + (1 : Int32)) (L1 := [(4, .int ((x4 + (0 : Int32)) + (1 : Int32))), (0, .ref a0), (1, .ref a1), (2, .int x2), (3, .int x3), (5, .int x5)]) rfl rfl rfl (Nat.le_of_ble_eq_true rfl) rfl ?_
        refine x_iinc (i := 5) (v := x5 + (1 : Int32)) (L1 := [(5, .int (x5 + (1 : Int32))), (4, .int ((x4 + (0 : Int32)) + (1 : Int32))), (0, .ref a0), (1, .ref a1), (2, .int x2), (3, .int x3)]) rfl rfl rfl (Nat.le_of_ble_eq_true rfl) rfl ?_
        refine x_goto (tgt := 14) rfl rfl ?_
        exact xP_sub [2, 3, 4, 5, 1, 0] rfl h
      · have h := h.2 c
        refine x_iconst (v := (1 : Int32)) rfl rfl ?_
        refine x_goto (tgt := 54) rfl rfl ?_
        refine x_iadd rfl ?_
        refine x_istore (i := 4) (L1 := [(4, .int (x4 + (1 : Int32))), (0, .ref a0), (1, .ref a1), (2, .int x2), (3, .int x3), (5, .int x5)]) rfl (Nat.le_of_ble_eq_true rfl) rfl ?_
        refine x_aload_n rfl rfl ?_
        refine x_gR lf_Evenings_45 k0 rfl rfl ?_
        refine x_aload_n rfl rfl ?_
        refine x_iload rfl rfl ?_
        refine x_vv lm_Evenings_107 vf_Table_seat (ck_10_7 k0) rfl rfl (Nat.le_of_ble_eq_true rfl) rfl h (fun D4 h => ?_)
        refine x_iinc (i := 4) (v := (x4 + (1 : Int32)) + (1 : Int32)) (L1 := [(4, .int ((x4 + (1 : Int32)) + (1 : Int32))), (0, .ref a0), (1, .ref a1), (2, .int x2), (3, .int x3), (5, .int x5)]) rfl rfl rfl (Nat.le_of_ble_eq_true rfl) rfl ?_
        refine x_iinc (i := 5) (v := x5 + (1 : Int32)) (L1 := [(5, .int (x5 + (1 : Int32))), (4, .int ((x4 + (1 : Int32)) + (1 : Int32))), (0, .ref a0), (1, .ref a1), (2, .int x2), (3, .int x3)]) rfl rfl rfl (Nat.le_of_ble_eq_true rfl) rfl ?_
        refine x_goto (tgt := 14) rfl rfl ?_
        exact xP_sub [2, 3, 4, 5, 1, 0] rfl h
    · have h := h.2 c
      refine x_aload_n rfl rfl ?_
      refine x_gR lf_Evenings_45 k0 rfl rfl ?_
      refine x_aload_n rfl rfl ?_
      refine x_iload_n rfl rfl ?_
      refine x_vv lm_Evenings_107 vf_Table_seat (ck_10_7 k0) rfl rfl (Nat.le_of_ble_eq_true rfl) rfl h (fun D5 h => ?_)
      refine x_goto (tgt := 70) rfl rfl ?_
      refine x_iinc (i := 5) (v := x5 + (1 : Int32)) (L1 := [(5, .int (x5 + (1 : Int32))), (0, .ref a0), (1, .ref a1), (2, .int x2), (3, .int x3), (4, .int x4)]) rfl rfl rfl (Nat.le_of_ble_eq_true rfl) rfl ?_
      refine x_goto (tgt := 14) rfl rfl ?_
      exact xP_sub [1, 2, 3, 4, 5, 0] rfl h
theorem s_Rounds_play_0 {d : Nat} {D : xD} {Q : Option Value → xD → Prop} {a0 : Nat} {a1 : Nat} {a2 : Nat} {x3 : Int32} (k0 : xk a0 = 9) (k1 : xk a1 = 4) (k2 : xk a2 = 2) (h : xCi d m_Table_people [.ref a1] D (fun r2 D1 => xCi d m_Rounds_samePacesEach [.ref a1] D1 (fun r4 D3 => xCv d m_Deal_start [.ref (a0 + 1), .ref a1, .ref a2] D3 (fun D5 => xCv d m_Row_fill [.ref (a0 + 12), .int r2, .int (0 : Int32)] D5 (fun D6 => ∀ D7 : xD, D7 = (xu D6.1 a0 5 (-1 : Int32), D6.2) → ∀ D8 : xD, D8 = (xu D7.1 a0 7 (0 : Int32), D7.2) → xCi d m_Deal_firstAlike [.ref (a0 + 1)] D8 (fun r10 D9 => ∀ D11 : xD, D11 = (xu D9.1 a0 6 r10, D9.2) → xPf (d + 1) m_Rounds_play 52 [(0, .ref a0), (1, .ref a1), (2, .ref a2), (3, .int x3), (4, .int r2), (5, .int r4)] [] D11 Q)))))) : xPf (d + 1) m_Rounds_play 0 [(0, .ref a0), (1, .ref a1), (2, .ref a2), (3, .int x3)] [] D Q := by
  refine x_aload_n rfl rfl ?_
  refine x_vi lm_Rounds_40 vf_Table_people k1 rfl rfl (Nat.le_of_ble_eq_true rfl) rfl h (fun r2 D1 h => ?_)
  refine x_istore (i := 4) (L1 := [(4, .int r2), (0, .ref a0), (1, .ref a1), (2, .ref a2), (3, .int x3)]) rfl (Nat.le_of_ble_eq_true rfl) rfl ?_
  refine x_aload_n rfl rfl ?_
  refine x_si lm_Rounds_44 sf_Rounds_samePacesEach rfl rfl (Nat.le_of_ble_eq_true rfl) rfl h (fun r4 D3 h => ?_)
  refine x_istore (i := 5) (L1 := [(5, .int r4), (4, .int r2), (0, .ref a0), (1, .ref a1), (2, .ref a2), (3, .int x3)]) rfl (Nat.le_of_ble_eq_true rfl) rfl ?_
  refine x_aload_n rfl rfl ?_
  refine x_gR lf_Rounds_12 k0 rfl rfl ?_
  refine x_aload_n rfl rfl ?_
  refine x_aload_n rfl rfl ?_
  refine x_vv lm_Rounds_48 vf_Deal_start (ck_9_0 k0) rfl rfl (Nat.le_of_ble_eq_true rfl) rfl h (fun D5 h => ?_)
  refine x_aload_n rfl rfl ?_
  refine x_gR lf_Rounds_23 k0 rfl rfl ?_
  refine x_iload rfl rfl ?_
  refine x_iconst (v := (0 : Int32)) rfl rfl ?_
  refine x_vv lm_Rounds_52 vf_Row_fill (ck_9_1 k0) rfl rfl (Nat.le_of_ble_eq_true rfl) rfl h (fun D6 h => ?_)
  refine x_aload_n rfl rfl ?_
  refine x_iconst (v := (-1 : Int32)) rfl rfl ?_
  refine x_pIn lp_Rounds_56 nf_9_5 k0 rfl rfl (fun D7 eD7 => ?_)
  have h := h D7 eD7
  refine x_aload_n rfl rfl ?_
  refine x_iconst (v := (0 : Int32)) rfl rfl ?_
  refine x_pIn lp_Rounds_60 nf_9_7 k0 rfl rfl (fun D8 eD8 => ?_)
  have h := h D8 eD8
  refine x_aload_n rfl rfl ?_
  refine x_aload_n rfl rfl ?_
  refine x_gR lf_Rounds_12 k0 rfl rfl ?_
  refine x_vi lm_Rounds_63 vf_Deal_firstAlike (ck_9_0 k0) rfl rfl (Nat.le_of_ble_eq_true rfl) rfl h (fun r10 D9 h => ?_)
  refine x_pIn lp_Rounds_66 nf_9_6 k0 rfl rfl (fun D11 eD11 => ?_)
  have h := h D11 eD11
  exact xP_sub [2, 3, 4, 5, 1, 0] rfl h
theorem s_Rounds_play_52 {d : Nat} {D : xD} {Q : Option Value → xD → Prop} {a0 : Nat} {a1 : Nat} {a2 : Nat} {x3 : Int32} {x4 : Int32} {x5 : Int32} (k0 : xk a0 = 9) (k1 : xk a1 = 4) (k2 : xk a2 = 2) (h : (¬ (D.1 a0 6) = (-1 : Int32) → Q none D) ∧ ((D.1 a0 6) = (-1 : Int32) → (x3 ≤ (D.1 a0 7) → Q none D) ∧ (¬ x3 ≤ (D.1 a0 7) → ∀ D1 : xD, D1 = (xu D.1 a0 7 ((D.1 a0 7) + (1 : Int32)), D.2) → xPf (d + 1) m_Rounds_play 81 [(0, .ref a0), (1, .ref a1), (2, .ref a2), (3, .int x3), (4, .int x4), (5, .int x5), (6, .int (0 : Int32))] [] D1 Q))) : xPf (d + 1) m_Rounds_play 52 [(0, .ref a0), (1, .ref a1), (2, .ref a2), (3, .int x3), (4, .int x4), (5, .int x5)] [] D Q := by
  refine x_aload_n rfl rfl ?_
  refine x_gI lf_Rounds_66 k0 rfl rfl ?_
  refine x_iconst (v := (-1 : Int32)) rfl rfl ?_
  refine x_icmp_ne (tgt := 163) rfl rfl (fun c => ?_) (fun c => ?_)
  · have h := h.1 c
    exact x_vret rfl rfl h
  · have h := h.2 c
    refine x_aload_n rfl rfl ?_
    refine x_gI lf_Rounds_60 k0 rfl rfl ?_
    refine x_iload_n rfl rfl ?_
    refine x_icmp_ge (tgt := 163) rfl rfl (fun c => ?_) (fun c => ?_)
    · have h := h.1 c
      exact x_vret rfl rfl h
    · have h := h.2 c
      refine x_aload_n rfl rfl ?_
      refine x_dup rfl rfl ?_
      refine x_gI lf_Rounds_60 k0 rfl rfl ?_
      refine x_iconst (v := (1 : Int32)) rfl rfl ?_
      refine x_iadd rfl ?_
      refine x_pIn lp_Rounds_60 nf_9_7 k0 rfl rfl (fun D1 eD1 => ?_)
      have h := h D1 eD1
      refine x_iconst (v := (0 : Int32)) rfl rfl ?_
      refine x_istore (i := 6) (L1 := [(6, .int (0 : Int32)), (0, .ref a0), (1, .ref a1), (2, .ref a2), (3, .int x3), (4, .int x4), (5, .int x5)]) rfl (Nat.le_of_ble_eq_true rfl) rfl ?_
      exact xP_sub [1, 2, 3, 4, 5, 6, 0] rfl h
theorem s_Rounds_play_81 {d : Nat} {D : xD} {Q : Option Value → xD → Prop} {a0 : Nat} {a1 : Nat} {a2 : Nat} {x3 : Int32} {x4 : Int32} {x5 : Int32} {x6 : Int32} (k0 : xk a0 = 9) (k1 : xk a1 = 4) (k2 : xk a2 = 2) (h : (x4 ≤ x6 → xPf (d + 1) m_Rounds_play 132 [(0, .ref a0), (1, .ref a1), (2, .ref a2), (3, .int x3), (4, .int x4), (5, .int x5), (6, .int x6)] [] D Q) ∧ (¬ x4 ≤ x6 → (¬ (D.1 a0 6) = (-1 : Int32) → xPf (d + 1) m_Rounds_play 132 [(0, .ref a0), (1, .ref a1), (2, .ref a2), (3, .int x3), (4, .int x4), (5, .int x5), (6, .int x6)] [] D Q) ∧ ((D.1 a0 6) = (-1 : Int32) → xCi d m_Table_goesInto [.ref a1, .int x6, .int (0 : Int32), .int (D.1 a0 7)] D (fun r2 D1 => (r2 = 0 → xPf (d + 1) m_Rounds_play 81 [(0, .ref a0), (1, .ref a1), (2, .ref a2), (3, .int x3), (4, .int x4), (5, .int x5), (6, .int (x6 + (1 : Int32)))] [] D1 Q) ∧ (¬ r2 = 0 → xCi d m_Rounds_turn [.ref a0, .ref a1, .int x6] D1 (fun r4 D3 => (r4 = 0 → xPf (d + 1) m_Rounds_play 81 [(0, .ref a0), (1, .ref a1), (2, .ref a2), (3, .int x3), (4, .int x4), (5, .int x5), (6, .int (x6 + (1 : Int32)))] [] D3 Q) ∧ (¬ r4 = 0 → ∀ D5 : xD, D5 = (xu D3.1 a0 6 x6, D3.2) → xPf (d + 1) m_Rounds_play 81 [(0, .ref a0), (1, .ref a1), (2, .ref a2), (3, .int x3), (4, .int x4), (5, .int x5), (6, .int (x6 + (1 : Int32)))] [] D5 Q))))))) : xPf (d + 1) m_Rounds_play 81 [(0, .ref a0), (1, .ref a1), (2, .ref a2), (3, .int x3), (4, .int x4), (5, .int x5), (6, .int x6)] [] D Q := by
  refine x_iload rfl rfl ?_
  refine x_iload rfl rfl ?_
  refine x_icmp_ge (tgt := 132) rfl rfl (fun c => ?_) (fun c => ?_)
  · have h := h.1 c
    exact h
  · have h := h.2 c
    refine x_aload_n rfl rfl ?_
    refine x_gI lf_Rounds_66 k0 rfl rfl ?_
    refine x_iconst (v := (-1 : Int32)) rfl rfl ?_
    refine x_icmp_ne (tgt := 132) rfl rfl (fun c => ?_) (fun c => ?_)
    · have h := h.1 c
      exact h
    · have h := h.2 c
      refine x_aload_n rfl rfl ?_
      refine x_iload rfl rfl ?_
      refine x_iconst (v := (0 : Int32)) rfl rfl ?_
      refine x_aload_n rfl rfl ?_
      refine x_gI lf_Rounds_60 k0 rfl rfl ?_
      refine x_vi lm_Rounds_69 vf_Table_goesInto k1 rfl rfl (Nat.le_of_ble_eq_true rfl) rfl h (fun r2 D1 h => ?_)
      refine x_if_eq (tgt := 126) rfl rfl (fun c => ?_) (fun c => ?_)
      · have h := h.1 c
        refine x_iinc (i := 6) (v := x6 + (1 : Int32)) (L1 := [(6, .int (x6 + (1 : Int32))), (0, .ref a0), (1, .ref a1), (2, .ref a2), (3, .int x3), (4, .int x4), (5, .int x5)]) rfl rfl rfl (Nat.le_of_ble_eq_true rfl) rfl ?_
        refine x_goto (tgt := 81) rfl rfl ?_
        exact xP_sub [1, 2, 3, 4, 5, 6, 0] rfl h
      · have h := h.2 c
        refine x_aload_n rfl rfl ?_
        refine x_aload_n rfl rfl ?_
        refine x_iload rfl rfl ?_
        refine x_vi lm_Rounds_73 vf_Rounds_turn k0 rfl rfl (Nat.le_of_ble_eq_true rfl) rfl h (fun r4 D3 h => ?_)
        refine x_if_eq (tgt := 126) rfl rfl (fun c => ?_) (fun c => ?_)
        · have h := h.1 c
          refine x_iinc (i := 6) (v := x6 + (1 : Int32)) (L1 := [(6, .int (x6 + (1 : Int32))), (0, .ref a0), (1, .ref a1), (2, .ref a2), (3, .int x3), (4, .int x4), (5, .int x5)]) rfl rfl rfl (Nat.le_of_ble_eq_true rfl) rfl ?_
          refine x_goto (tgt := 81) rfl rfl ?_
          exact xP_sub [1, 2, 3, 4, 5, 6, 0] rfl h
        · have h := h.2 c
          refine x_aload_n rfl rfl ?_
          refine x_iload rfl rfl ?_
          refine x_pIn lp_Rounds_66 nf_9_6 k0 rfl rfl (fun D5 eD5 => ?_)
          have h := h D5 eD5
          refine x_iinc (i := 6) (v := x6 + (1 : Int32)) (L1 := [(6, .int (x6 + (1 : Int32))), (0, .ref a0), (1, .ref a1), (2, .ref a2), (3, .int x3), (4, .int x4), (5, .int x5)]) rfl rfl rfl (Nat.le_of_ble_eq_true rfl) rfl ?_
          refine x_goto (tgt := 81) rfl rfl ?_
          exact xP_sub [1, 2, 3, 4, 5, 6, 0] rfl h
theorem s_Rounds_play_132 {d : Nat} {D : xD} {Q : Option Value → xD → Prop} {a0 : Nat} {a1 : Nat} {a2 : Nat} {x3 : Int32} {x4 : Int32} {x5 : Int32} {x6 : Int32} (k0 : xk a0 = 9) (k1 : xk a1 = 4) (k2 : xk a2 = 2) (h : (¬ (D.1 a0 6) = (-1 : Int32) → xPf (d + 1) m_Rounds_play 52 [(0, .ref a0), (1, .ref a1), (2, .ref a2), (3, .int x3), (4, .int x4), (5, .int x5)] [] D Q) ∧ ((D.1 a0 6) = (-1 : Int32) → (x5 ≤ 0 → xPf (d + 1) m_Rounds_play 52 [(0, .ref a0), (1, .ref a1), (2, .ref a2), (3, .int x3), (4, .int x4), (5, .int x5)] [] D Q) ∧ (¬ x5 ≤ 0 → ¬ x5 = 0 ∧ (¬ ((D.1 a0 7) - (D.1 a0 7) / x5 * x5) = 0 → xPf (d + 1) m_Rounds_play 52 [(0, .ref a0), (1, .ref a1), (2, .ref a2), (3, .int x3), (4, .int x4), (5, .int x5)] [] D Q) ∧ (((D.1 a0 7) - (D.1 a0 7) / x5 * x5) = 0 → xCv d m_Rounds_leap [.ref a0, .int x3] D (fun D1 => xPf (d + 1) m_Rounds_play 52 [(0, .ref a0), (1, .ref a1), (2, .ref a2), (3, .int x3), (4, .int x4), (5, .int x5)] [] D1 Q))))) : xPf (d + 1) m_Rounds_play 132 [(0, .ref a0), (1, .ref a1), (2, .ref a2), (3, .int x3), (4, .int x4), (5, .int x5), (6, .int x6)] [] D Q := by
  refine x_aload_n rfl rfl ?_
  refine x_gI lf_Rounds_66 k0 rfl rfl ?_
  refine x_iconst (v := (-1 : Int32)) rfl rfl ?_
  refine x_icmp_ne (tgt := 52) rfl rfl (fun c => ?_) (fun c => ?_)
  · have h := h.1 c
    exact xP_sub [0, 1, 2, 3, 4, 5] rfl h
  · have h := h.2 c
    refine x_iload rfl rfl ?_
    refine x_if_le (tgt := 52) rfl rfl (fun c => ?_) (fun c => ?_)
    · have h := h.1 c
      exact xP_sub [0, 1, 2, 3, 4, 5] rfl h
    · have h := h.2 c
      refine x_aload_n rfl rfl ?_
      refine x_gI lf_Rounds_60 k0 rfl rfl ?_
      refine x_iload rfl rfl ?_
      refine x_irem rfl h.1 ?_
      have h := h.2
      refine x_if_ne (tgt := 52) rfl rfl (fun c => ?_) (fun c => ?_)
      · have h := h.1 c
        exact xP_sub [0, 1, 2, 3, 4, 5] rfl h
      · have h := h.2 c
        refine x_aload_n rfl rfl ?_
        refine x_iload_n rfl rfl ?_
        refine x_vv lm_Rounds_77 vf_Rounds_leap k0 rfl rfl (Nat.le_of_ble_eq_true rfl) rfl h (fun D1 h => ?_)
        refine x_goto (tgt := 52) rfl rfl ?_
        exact xP_sub [0, 1, 2, 3, 4, 5] rfl h
theorem s_Rounds_samePacesEach_0 {d : Nat} {D : xD} {Q : Option Value → xD → Prop} {a0 : Nat} (k0 : xk a0 = 4) (h : xPf (d + 1) m_Rounds_samePacesEach 4 [(0, .ref a0), (1, .int (1 : Int32)), (2, .int (0 : Int32))] [] D Q) : xPf (d + 1) m_Rounds_samePacesEach 0 [(0, .ref a0)] [] D Q := by
  refine x_iconst (v := (1 : Int32)) rfl rfl ?_
  refine x_istore_n (i := 1) (L1 := [(1, .int (1 : Int32)), (0, .ref a0)]) rfl rfl (Nat.le_of_ble_eq_true rfl) rfl ?_
  refine x_iconst (v := (0 : Int32)) rfl rfl ?_
  refine x_istore_n (i := 2) (L1 := [(2, .int (0 : Int32)), (1, .int (1 : Int32)), (0, .ref a0)]) rfl rfl (Nat.le_of_ble_eq_true rfl) rfl ?_
  exact xP_sub [2, 1, 0] rfl h
theorem s_Rounds_samePacesEach_4 {d : Nat} {D : xD} {Q : Option Value → xD → Prop} {a0 : Nat} {x1 : Int32} {x2 : Int32} (k0 : xk a0 = 4) (h : xCi d m_Table_people [.ref a0] D (fun r2 D1 => (r2 ≤ x2 → Q (some (.int x1)) D1) ∧ (¬ r2 ≤ x2 → xPf (d + 1) m_Rounds_samePacesEach 17 [(0, .ref a0), (1, .int x1), (2, .int x2), (3, .int x1), (4, .int (1 : Int32))] [] D1 Q))) : xPf (d + 1) m_Rounds_samePacesEach 4 [(0, .ref a0), (1, .int x1), (2, .int x2)] [] D Q := by
  refine x_iload_n rfl rfl ?_
  refine x_aload_n rfl rfl ?_
  refine x_vi lm_Rounds_40 vf_Table_people k0 rfl rfl (Nat.le_of_ble_eq_true rfl) rfl h (fun r2 D1 h => ?_)
  refine x_icmp_ge (tgt := 54) rfl rfl (fun c => ?_) (fun c => ?_)
  · have h := h.1 c
    refine x_iload_n rfl rfl ?_
    exact x_iret rfl rfl h
  · have h := h.2 c
    refine x_iload_n rfl rfl ?_
    refine x_istore_n (i := 3) (L1 := [(3, .int x1), (0, .ref a0), (1, .int x1), (2, .int x2)]) rfl rfl (Nat.le_of_ble_eq_true rfl) rfl ?_
    refine x_iconst (v := (1 : Int32)) rfl rfl ?_
    refine x_istore (i := 4) (L1 := [(4, .int (1 : Int32)), (3, .int x1), (0, .ref a0), (1, .int x1), (2, .int x2)]) rfl (Nat.le_of_ble_eq_true rfl) rfl ?_
    exact xP_sub [2, 3, 4, 1, 0] rfl h
theorem s_Rounds_samePacesEach_17 {d : Nat} {D : xD} {Q : Option Value → xD → Prop} {a0 : Nat} {x1 : Int32} {x2 : Int32} {x3 : Int32} {x4 : Int32} (k0 : xk a0 = 4) (h : xCi d m_Table_of [.ref a0, .int x2, .int (0 : Int32)] D (fun r2 D1 => (r2 ≤ x4 → xPf (d + 1) m_Rounds_samePacesEach 4 [(0, .ref a0), (1, .int x1), (2, .int (x2 + (1 : Int32)))] [] D1 Q) ∧ (¬ r2 ≤ x4 → xCi d m_Table_goesInto [.ref a0, .int x2, .int (0 : Int32), .int x1] D1 (fun r4 D3 => (¬ r4 = 0 → xPf (d + 1) m_Rounds_samePacesEach 4 [(0, .ref a0), (1, .int x1), (2, .int (x2 + (1 : Int32)))] [] D3 Q) ∧ (r4 = 0 → xPf (d + 1) m_Rounds_samePacesEach 17 [(0, .ref a0), (1, .int (x1 + x3)), (2, .int x2), (3, .int x3), (4, .int (x4 + (1 : Int32)))] [] D3 Q))))) : xPf (d + 1) m_Rounds_samePacesEach 17 [(0, .ref a0), (1, .int x1), (2, .int x2), (3, .int x3), (4, .int x4)] [] D Q := by
  refine x_iload rfl rfl ?_
  refine x_aload_n rfl rfl ?_
  refine x_iload_n rfl rfl ?_
  refine x_iconst (v := (0 : Int32)) rfl rfl ?_
  refine x_vi lm_Rounds_80 vf_Table_of k0 rfl rfl (Nat.le_of_ble_eq_true rfl) rfl h (fun r2 D1 h => ?_)
  refine x_icmp_ge (tgt := 48) rfl rfl (fun c => ?_) (fun c => ?_)
  · have h := h.1 c
    refine x_iinc (i := 2) (v := x2 + (1 : Int32)) (L1 := [(2, .int (x2 + (1 : Int32))), (0, .ref a0), (1, .int x1), (3, .int x3), (4, .int x4)]) rfl rfl rfl (Nat.le_of_ble_eq_true rfl) rfl ?_
    refine x_goto (tgt := 4) rfl rfl ?_
    exact xP_sub [1, 2, 0] rfl h
  · have h := h.2 c
    refine x_aload_n rfl rfl ?_
    refine x_iload_n rfl rfl ?_
    refine x_iconst (v := (0 : Int32)) rfl rfl ?_
    refine x_iload_n rfl rfl ?_
    refine x_vi lm_Rounds_69 vf_Table_goesInto k0 rfl rfl (Nat.le_of_ble_eq_true rfl) rfl h (fun r4 D3 h => ?_)
    refine x_if_ne (tgt := 48) rfl rfl (fun c => ?_) (fun c => ?_)
    · have h := h.1 c
      refine x_iinc (i := 2) (v := x2 + (1 : Int32)) (L1 := [(2, .int (x2 + (1 : Int32))), (0, .ref a0), (1, .int x1), (3, .int x3), (4, .int x4)]) rfl rfl rfl (Nat.le_of_ble_eq_true rfl) rfl ?_
      refine x_goto (tgt := 4) rfl rfl ?_
      exact xP_sub [1, 2, 0] rfl h
    · have h := h.2 c
      refine x_iload_n rfl rfl ?_
      refine x_iload_n rfl rfl ?_
      refine x_iadd rfl ?_
      refine x_istore_n (i := 1) (L1 := [(1, .int (x1 + x3)), (0, .ref a0), (2, .int x2), (3, .int x3), (4, .int x4)]) rfl rfl (Nat.le_of_ble_eq_true rfl) rfl ?_
      refine x_iinc (i := 4) (v := x4 + (1 : Int32)) (L1 := [(4, .int (x4 + (1 : Int32))), (1, .int (x1 + x3)), (0, .ref a0), (2, .int x2), (3, .int x3)]) rfl rfl rfl (Nat.le_of_ble_eq_true rfl) rfl ?_
      refine x_goto (tgt := 17) rfl rfl ?_
      exact xP_sub [2, 1, 3, 4, 0] rfl h
theorem s_Rounds_leap_0 {d : Nat} {D : xD} {Q : Option Value → xD → Prop} {a0 : Nat} {x1 : Int32} (k0 : xk a0 = 9) (h : ((D.1 a0 5) ≤ 0 → xPf (d + 1) m_Rounds_leap 107 [(0, .ref a0), (1, .int x1), (2, .int ((D.1 a0 7) - (D.1 a0 5)))] [] D Q) ∧ (¬ (D.1 a0 5) ≤ 0 → (((D.1 a0 7) - (D.1 a0 5)) ≤ 0 → xPf (d + 1) m_Rounds_leap 107 [(0, .ref a0), (1, .int x1), (2, .int ((D.1 a0 7) - (D.1 a0 5)))] [] D Q) ∧ (¬ ((D.1 a0 7) - (D.1 a0 5)) ≤ 0 → xCi d m_Deal_liesAs [.ref (a0 + 1), .ref (a0 + 19)] D (fun r2 D1 => (r2 = 0 → xPf (d + 1) m_Rounds_leap 107 [(0, .ref a0), (1, .int x1), (2, .int ((D.1 a0 7) - (D.1 a0 5)))] [] D1 Q) ∧ (¬ r2 = 0 → ¬ ((D.1 a0 7) - (D.1 a0 5)) = 0 ∧ xPf (d + 1) m_Rounds_leap 47 [(0, .ref a0), (1, .int x1), (2, .int ((D.1 a0 7) - (D.1 a0 5))), (3, .int ((x1 - (D1.1 a0 7)) / ((D.1 a0 7) - (D.1 a0 5)))), (4, .int (0 : Int32))] [] D1 Q))))) : xPf (d + 1) m_Rounds_leap 0 [(0, .ref a0), (1, .int x1)] [] D Q := by
  refine x_aload_n rfl rfl ?_
  refine x_gI lf_Rounds_60 k0 rfl rfl ?_
  refine x_aload_n rfl rfl ?_
  refine x_gI lf_Rounds_56 k0 rfl rfl ?_
  refine x_isub rfl ?_
  refine x_istore_n (i := 2) (L1 := [(2, .int ((D.1 a0 7) - (D.1 a0 5))), (0, .ref a0), (1, .int x1)]) rfl rfl (Nat.le_of_ble_eq_true rfl) rfl ?_
  refine x_aload_n rfl rfl ?_
  refine x_gI lf_Rounds_56 k0 rfl rfl ?_
  refine x_if_le (tgt := 107) rfl rfl (fun c => ?_) (fun c => ?_)
  · have h := h.1 c
    exact xP_sub [1, 2, 0] rfl h
  · have h := h.2 c
    refine x_iload_n rfl rfl ?_
    refine x_if_le (tgt := 107) rfl rfl (fun c => ?_) (fun c => ?_)
    · have h := h.1 c
      exact xP_sub [1, 2, 0] rfl h
    · have h := h.2 c
      refine x_aload_n rfl rfl ?_
      refine x_gR lf_Rounds_12 k0 rfl rfl ?_
      refine x_aload_n rfl rfl ?_
      refine x_gR lf_Rounds_34 k0 rfl rfl ?_
      refine x_vi lm_Rounds_84 vf_Deal_liesAs (ck_9_0 k0) rfl rfl (Nat.le_of_ble_eq_true rfl) rfl h (fun r2 D1 h => ?_)
      refine x_if_eq (tgt := 107) rfl rfl (fun c => ?_) (fun c => ?_)
      · have h := h.1 c
        exact xP_sub [1, 2, 0] rfl h
      · have h := h.2 c
        refine x_iload_n rfl rfl ?_
        refine x_aload_n rfl rfl ?_
        refine x_gI lf_Rounds_60 k0 rfl rfl ?_
        refine x_isub rfl ?_
        refine x_iload_n rfl rfl ?_
        refine x_idiv rfl h.1 ?_
        have h := h.2
        refine x_istore_n (i := 3) (L1 := [(3, .int ((x1 - (D1.1 a0 7)) / ((D.1 a0 7) - (D.1 a0 5)))), (2, .int ((D.1 a0 7) - (D.1 a0 5))), (0, .ref a0), (1, .int x1)]) rfl rfl (Nat.le_of_ble_eq_true rfl) rfl ?_
        refine x_iconst (v := (0 : Int32)) rfl rfl ?_
        refine x_istore (i := 4) (L1 := [(4, .int (0 : Int32)), (3, .int ((x1 - (D1.1 a0 7)) / ((D.1 a0 7) - (D.1 a0 5)))), (2, .int ((D.1 a0 7) - (D.1 a0 5))), (0, .ref a0), (1, .int x1)]) rfl (Nat.le_of_ble_eq_true rfl) rfl ?_
        exact xP_sub [3, 4, 2, 1, 0] rfl h
theorem s_Rounds_leap_47 {d : Nat} {D : xD} {Q : Option Value → xD → Prop} {a0 : Nat} {x1 : Int32} {x2 : Int32} {x3 : Int32} {x4 : Int32} (k0 : xk a0 = 9) (h : xCi d m_Row_size [.ref (a0 + 12)] D (fun r2 D1 => (r2 ≤ x4 → ∀ D3 : xD, D3 = (xu D1.1 a0 7 ((D1.1 a0 7) + (x3 * x2)), D1.2) → xPf (d + 1) m_Rounds_leap 107 [(0, .ref a0), (1, .int x1), (2, .int x2)] [] D3 Q) ∧ (¬ r2 ≤ x4 → xCi d m_Row_get [.ref (a0 + 12), .int x4] D1 (fun r5 D4 => xCi d m_Row_get [.ref (a0 + 30), .int x4] D4 (fun r7 D6 => xCv d m_Row_add [.ref (a0 + 12), .int x4, .int (x3 * (r5 - r7))] D6 (fun D8 => xPf (d + 1) m_Rounds_leap 47 [(0, .ref a0), (1, .int x1), (2, .int x2), (3, .int x3), (4, .int (x4 + (1 : Int32)))] [] D8 Q)))))) : xPf (d + 1) m_Rounds_leap 47 [(0, .ref a0), (1, .int x1), (2, .int x2), (3, .int x3), (4, .int x4)] [] D Q := by
  refine x_iload rfl rfl ?_
  refine x_aload_n rfl rfl ?_
  refine x_gR lf_Rounds_23 k0 rfl rfl ?_
  refine x_vi lm_Rounds_88 vf_Row_size (ck_9_1 k0) rfl rfl (Nat.le_of_ble_eq_true rfl) rfl h (fun r2 D1 h => ?_)
  refine x_icmp_ge (tgt := 95) rfl rfl (fun c => ?_) (fun c => ?_)
  · have h := h.1 c
    refine x_aload_n rfl rfl ?_
    refine x_dup rfl rfl ?_
    refine x_gI lf_Rounds_60 k0 rfl rfl ?_
    refine x_iload_n rfl rfl ?_
    refine x_iload_n rfl rfl ?_
    refine x_imul rfl ?_
    refine x_iadd rfl ?_
    refine x_pIn lp_Rounds_60 nf_9_7 k0 rfl rfl (fun D3 eD3 => ?_)
    have h := h D3 eD3
    exact xP_sub [0, 1, 2] rfl h
  · have h := h.2 c
    refine x_aload_n rfl rfl ?_
    refine x_gR lf_Rounds_23 k0 rfl rfl ?_
    refine x_iload rfl rfl ?_
    refine x_iload_n rfl rfl ?_
    refine x_aload_n rfl rfl ?_
    refine x_gR lf_Rounds_23 k0 rfl rfl ?_
    refine x_iload rfl rfl ?_
    refine x_vi lm_Rounds_91 vf_Row_get (ck_9_1 k0) rfl rfl (Nat.le_of_ble_eq_true rfl) rfl h (fun r5 D4 h => ?_)
    refine x_aload_n rfl rfl ?_
    refine x_gR lf_Rounds_37 k0 rfl rfl ?_
    refine x_iload rfl rfl ?_
    refine x_vi lm_Rounds_91 vf_Row_get (ck_9_4 k0) rfl rfl (Nat.le_of_ble_eq_true rfl) rfl h (fun r7 D6 h => ?_)
    refine x_isub rfl ?_
    refine x_imul rfl ?_
    refine x_vv lm_Rounds_95 vf_Row_add (ck_9_1 k0) rfl rfl (Nat.le_of_ble_eq_true rfl) rfl h (fun D8 h => ?_)
    refine x_iinc (i := 4) (v := x4 + (1 : Int32)) (L1 := [(4, .int (x4 + (1 : Int32))), (0, .ref a0), (1, .int x1), (2, .int x2), (3, .int x3)]) rfl rfl rfl (Nat.le_of_ble_eq_true rfl) rfl ?_
    refine x_goto (tgt := 47) rfl rfl ?_
    exact xP_sub [1, 2, 3, 4, 0] rfl h
theorem s_Rounds_leap_107 {d : Nat} {D : xD} {Q : Option Value → xD → Prop} {a0 : Nat} {x1 : Int32} {x2 : Int32} (k0 : xk a0 = 9) (h : ((D.1 a0 5) = (-1 : Int32) → xPf (d + 1) m_Rounds_leap 128 [(0, .ref a0), (1, .int x1), (2, .int x2)] [] D Q) ∧ (¬ (D.1 a0 5) = (-1 : Int32) → ((D.1 a0 7) < ((2 : Int32) * (D.1 a0 5)) → Q none D) ∧ (¬ (D.1 a0 7) < ((2 : Int32) * (D.1 a0 5)) → xPf (d + 1) m_Rounds_leap 128 [(0, .ref a0), (1, .int x1), (2, .int x2)] [] D Q))) : xPf (d + 1) m_Rounds_leap 107 [(0, .ref a0), (1, .int x1), (2, .int x2)] [] D Q := by
  refine x_aload_n rfl rfl ?_
  refine x_gI lf_Rounds_56 k0 rfl rfl ?_
  refine x_iconst (v := (-1 : Int32)) rfl rfl ?_
  refine x_icmp_eq (tgt := 128) rfl rfl (fun c => ?_) (fun c => ?_)
  · have h := h.1 c
    exact h
  · have h := h.2 c
    refine x_aload_n rfl rfl ?_
    refine x_gI lf_Rounds_60 k0 rfl rfl ?_
    refine x_iconst (v := (2 : Int32)) rfl rfl ?_
    refine x_aload_n rfl rfl ?_
    refine x_gI lf_Rounds_56 k0 rfl rfl ?_
    refine x_imul rfl ?_
    refine x_icmp_lt (tgt := 158) rfl rfl (fun c => ?_) (fun c => ?_)
    · have h := h.1 c
      exact x_vret rfl rfl h
    · have h := h.2 c
      exact h
theorem s_Rounds_leap_128 {d : Nat} {D : xD} {Q : Option Value → xD → Prop} {a0 : Nat} {x1 : Int32} {x2 : Int32} (k0 : xk a0 = 9) (h : xCv d m_Deal_copy [.ref (a0 + 19), .ref (a0 + 1)] D (fun D1 => xCv d m_Row_copy [.ref (a0 + 30), .ref (a0 + 12)] D1 (fun D2 => ∀ D3 : xD, D3 = (xu D2.1 a0 5 (D2.1 a0 7), D2.2) → Q none D3))) : xPf (d + 1) m_Rounds_leap 128 [(0, .ref a0), (1, .int x1), (2, .int x2)] [] D Q := by
  refine x_aload_n rfl rfl ?_
  refine x_gR lf_Rounds_34 k0 rfl rfl ?_
  refine x_aload_n rfl rfl ?_
  refine x_gR lf_Rounds_12 k0 rfl rfl ?_
  refine x_vv lm_Rounds_98 vf_Deal_copy (ck_9_3 k0) rfl rfl (Nat.le_of_ble_eq_true rfl) rfl h (fun D1 h => ?_)
  refine x_aload_n rfl rfl ?_
  refine x_gR lf_Rounds_37 k0 rfl rfl ?_
  refine x_aload_n rfl rfl ?_
  refine x_gR lf_Rounds_23 k0 rfl rfl ?_
  refine x_vv lm_Rounds_102 vf_Row_copy (ck_9_4 k0) rfl rfl (Nat.le_of_ble_eq_true rfl) rfl h (fun D2 h => ?_)
  refine x_aload_n rfl rfl ?_
  refine x_aload_n rfl rfl ?_
  refine x_gI lf_Rounds_60 k0 rfl rfl ?_
  refine x_pIn lp_Rounds_56 nf_9_5 k0 rfl rfl (fun D3 eD3 => ?_)
  have h := h D3 eD3
  exact x_vret rfl rfl h
theorem s_Rounds_turn_0 {d : Nat} {D : xD} {Q : Option Value → xD → Prop} {a0 : Nat} {a1 : Nat} {x2 : Int32} (k0 : xk a0 = 9) (k1 : xk a1 = 4) (h : xCi d m_Deal_take [.ref (a0 + 1), .int x2] D (fun r2 D1 => (¬ r2 = (-1 : Int32) → xCi d m_Rounds_choice [.ref a0, .ref a1, .int x2, .int r2] D1 (fun r4 D3 => xCv d m_Deal_handOn [.ref (a0 + 1), .int x2, .int r4] D3 (fun D5 => xCv d m_Row_add [.ref (a0 + 12), .int x2, .int (1 : Int32)] D5 (fun D6 => xCi d m_Deal_holdsOf [.ref (a0 + 1), .int x2, .int r2] D6 (fun r8 D7 => xCi d m_Table_alike [.ref a1] D7 (fun r10 D9 => (¬ r8 = r10 → Q (some (.int (0 : Int32))) D9) ∧ (r8 = r10 → Q (some (.int (1 : Int32))) D9))))))) ∧ (r2 = (-1 : Int32) → Q (some (.int (0 : Int32))) D1))) : xPf (d + 1) m_Rounds_turn 0 [(0, .ref a0), (1, .ref a1), (2, .int x2)] [] D Q := by
  refine x_aload_n rfl rfl ?_
  refine x_gR lf_Rounds_12 k0 rfl rfl ?_
  refine x_iload_n rfl rfl ?_
  refine x_vi lm_Rounds_105 vf_Deal_take (ck_9_0 k0) rfl rfl (Nat.le_of_ble_eq_true rfl) rfl h (fun r2 D1 h => ?_)
  refine x_istore_n (i := 3) (L1 := [(3, .int r2), (0, .ref a0), (1, .ref a1), (2, .int x2)]) rfl rfl (Nat.le_of_ble_eq_true rfl) rfl ?_
  refine x_iload_n rfl rfl ?_
  refine x_iconst (v := (-1 : Int32)) rfl rfl ?_
  refine x_icmp_ne (tgt := 16) rfl rfl (fun c => ?_) (fun c => ?_)
  · have h := h.1 c
    refine x_aload_n rfl rfl ?_
    refine x_gR lf_Rounds_12 k0 rfl rfl ?_
    refine x_iload_n rfl rfl ?_
    refine x_aload_n rfl rfl ?_
    refine x_aload_n rfl rfl ?_
    refine x_iload_n rfl rfl ?_
    refine x_iload_n rfl rfl ?_
    refine x_vi lm_Rounds_108 vf_Rounds_choice k0 rfl rfl (Nat.le_of_ble_eq_true rfl) rfl h (fun r4 D3 h => ?_)
    refine x_vv lm_Rounds_112 vf_Deal_handOn (ck_9_0 k0) rfl rfl (Nat.le_of_ble_eq_true rfl) rfl h (fun D5 h => ?_)
    refine x_aload_n rfl rfl ?_
    refine x_gR lf_Rounds_23 k0 rfl rfl ?_
    refine x_iload_n rfl rfl ?_
    refine x_iconst (v := (1 : Int32)) rfl rfl ?_
    refine x_vv lm_Rounds_95 vf_Row_add (ck_9_1 k0) rfl rfl (Nat.le_of_ble_eq_true rfl) rfl h (fun D6 h => ?_)
    refine x_aload_n rfl rfl ?_
    refine x_gR lf_Rounds_12 k0 rfl rfl ?_
    refine x_iload_n rfl rfl ?_
    refine x_iload_n rfl rfl ?_
    refine x_vi lm_Rounds_115 vf_Deal_holdsOf (ck_9_0 k0) rfl rfl (Nat.le_of_ble_eq_true rfl) rfl h (fun r8 D7 h => ?_)
    refine x_aload_n rfl rfl ?_
    refine x_vi lm_Rounds_118 vf_Table_alike k1 rfl rfl (Nat.le_of_ble_eq_true rfl) rfl h (fun r10 D9 h => ?_)
    refine x_icmp_ne (tgt := 60) rfl rfl (fun c => ?_) (fun c => ?_)
    · have h := h.1 c
      refine x_iconst (v := (0 : Int32)) rfl rfl ?_
      exact x_zr rfl (Or.inl rfl) rfl h
    · have h := h.2 c
      refine x_iconst (v := (1 : Int32)) rfl rfl ?_
      refine x_goto (tgt := 61) rfl rfl ?_
      exact x_zr rfl (Or.inr rfl) rfl h
  · have h := h.2 c
    refine x_iconst (v := (0 : Int32)) rfl rfl ?_
    exact x_zr rfl (Or.inl rfl) rfl h
theorem s_Rounds_choice_0 {d : Nat} {D : xD} {Q : Option Value → xD → Prop} {a0 : Nat} {a1 : Nat} {x2 : Int32} {x3 : Int32} (k0 : xk a0 = 9) (k1 : xk a1 = 4) (h : xCi d m_Table_of [.ref a1, .int x2, .int (5 : Int32)] D (fun r2 D1 => xCi d m_Table_of [.ref a1, .int x2, .int (4 : Int32)] D1 (fun r4 D3 => (r4 = (1 : Int32) → xCi d m_Deal_greatest [.ref (a0 + 1), .int x2, .int r2] D3 (fun r8 D7 => Q (some (.int r8)) D7)) ∧ (r4 = (2 : Int32) → xCi d m_Deal_fewest [.ref (a0 + 1), .int x2, .int r2] D3 (fun r10 D9 => Q (some (.int r10)) D9)) ∧ (r4 = (3 : Int32) → Q (some (.int x3)) D3) ∧ (((r4).toInt < 1 ∨ 3 < (r4).toInt) → xCi d m_Deal_fewest [.ref (a0 + 1), .int x2, .int (-1 : Int32)] D3 (fun r6 D5 => Q (some (.int r6)) D5))))) : xPf (d + 1) m_Rounds_choice 0 [(0, .ref a0), (1, .ref a1), (2, .int x2), (3, .int x3)] [] D Q := by
  refine x_aload_n rfl rfl ?_
  refine x_iload_n rfl rfl ?_
  refine x_iconst (v := (5 : Int32)) rfl rfl ?_
  refine x_vi lm_Rounds_80 vf_Table_of k1 rfl rfl (Nat.le_of_ble_eq_true rfl) rfl h (fun r2 D1 h => ?_)
  refine x_istore (i := 4) (L1 := [(4, .int r2), (0, .ref a0), (1, .ref a1), (2, .int x2), (3, .int x3)]) rfl (Nat.le_of_ble_eq_true rfl) rfl ?_
  refine x_aload_n rfl rfl ?_
  refine x_iload_n rfl rfl ?_
  refine x_iconst (v := (4 : Int32)) rfl rfl ?_
  refine x_vi lm_Rounds_80 vf_Table_of k1 rfl rfl (Nat.le_of_ble_eq_true rfl) rfl h (fun r4 D3 h => ?_)
  rcases Decidable.em ((r4).toInt < 1 ∨ 3 < (r4).toInt) with q | q
  · refine x_tableOut (tgt := 64) rfl q rfl ?_
    have h := h.2.2.2 q
    refine x_aload_n rfl rfl ?_
    refine x_gR lf_Rounds_12 k0 rfl rfl ?_
    refine x_iload_n rfl rfl ?_
    refine x_iconst (v := (-1 : Int32)) rfl rfl ?_
    refine x_vi lm_Rounds_124 vf_Deal_fewest (ck_9_0 k0) rfl rfl (Nat.le_of_ble_eq_true rfl) rfl h (fun r6 D5 h => ?_)
    exact x_iret rfl rfl h
  · have q : (r4).toInt = 1 ∨ (r4).toInt = 2 ∨ (r4).toInt = 3 := by omega
    rcases q with q | q | q
    · have q : r4 = (1 : Int32) := Int32.toInt_inj.mp q
      refine x_tabK (k := (1 : Int32)) (tgt := 40) q rfl (by decide) (by decide) rfl rfl ?_
      have h := h.1 q
      refine x_aload_n rfl rfl ?_
      refine x_gR lf_Rounds_12 k0 rfl rfl ?_
      refine x_iload_n rfl rfl ?_
      refine x_iload rfl rfl ?_
      refine x_vi lm_Rounds_121 vf_Deal_greatest (ck_9_0 k0) rfl rfl (Nat.le_of_ble_eq_true rfl) rfl h (fun r8 D7 h => ?_)
      exact x_iret rfl rfl h
    · have q : r4 = (2 : Int32) := Int32.toInt_inj.mp q
      refine x_tabK (k := (2 : Int32)) (tgt := 51) q rfl (by decide) (by decide) rfl rfl ?_
      have h := h.2.1 q
      refine x_aload_n rfl rfl ?_
      refine x_gR lf_Rounds_12 k0 rfl rfl ?_
      refine x_iload_n rfl rfl ?_
      refine x_iload rfl rfl ?_
      refine x_vi lm_Rounds_124 vf_Deal_fewest (ck_9_0 k0) rfl rfl (Nat.le_of_ble_eq_true rfl) rfl h (fun r10 D9 h => ?_)
      exact x_iret rfl rfl h
    · have q : r4 = (3 : Int32) := Int32.toInt_inj.mp q
      refine x_tabK (k := (3 : Int32)) (tgt := 62) q rfl (by decide) (by decide) rfl rfl ?_
      have h := h.2.2.1 q
      refine x_iload_n rfl rfl ?_
      exact x_iret rfl rfl h
theorem s_Rounds_answer_0 {d : Nat} {D : xD} {Q : Option Value → xD → Prop} {a0 : Nat} {a1 : Nat} {a2 : Nat} {x3 : Int32} (k0 : xk a0 = 9) (k1 : xk a1 = 4) (k2 : xk a2 = 2) (h : (¬ x3 = (3 : Int32) → (¬ (D.1 a0 6) = (-1 : Int32) → (x3 = (0 : Int32) → Q (some (.int (D.1 a0 7))) D) ∧ (x3 = (1 : Int32) → Q (some (.int (D.1 a0 6))) D) ∧ (x3 = (2 : Int32) → xCi d m_Table_lastOf [.ref a1, .int (D.1 a0 6), .int (D.1 a0 7)] D (fun r2 D1 => Q (some (.int r2)) D1)) ∧ (((x3).toInt < 0 ∨ 2 < (x3).toInt) → Q (some (.int (-1 : Int32))) D)) ∧ ((D.1 a0 6) = (-1 : Int32) → (¬ x3 = (4 : Int32) → Q (some (.int (-1 : Int32))) D) ∧ (x3 = (4 : Int32) → xCi d m_Rounds_mends [.ref a0, .ref a1, .ref a2] D (fun r4 D3 => Q (some (.int r4)) D3)))) ∧ (x3 = (3 : Int32) → xPf (d + 1) m_Rounds_answer 11 [(0, .ref a0), (1, .ref a1), (2, .ref a2), (3, .int x3), (4, .int (0 : Int32)), (5, .int (0 : Int32))] [] D Q)) : xPf (d + 1) m_Rounds_answer 0 [(0, .ref a0), (1, .ref a1), (2, .ref a2), (3, .int x3)] [] D Q := by
  refine x_iload_n rfl rfl ?_
  refine x_iconst (v := (3 : Int32)) rfl rfl ?_
  refine x_icmp_ne (tgt := 43) rfl rfl (fun c => ?_) (fun c => ?_)
  · have h := h.1 c
    refine x_aload_n rfl rfl ?_
    refine x_gI lf_Rounds_66 k0 rfl rfl ?_
    refine x_iconst (v := (-1 : Int32)) rfl rfl ?_
    refine x_icmp_ne (tgt := 67) rfl rfl (fun c => ?_) (fun c => ?_)
    · have h := h.1 c
      refine x_iload_n rfl rfl ?_
      rcases Decidable.em ((x3).toInt < 0 ∨ 2 < (x3).toInt) with q | q
      · refine x_tableOut (tgt := 119) rfl q rfl ?_
        have h := h.2.2.2 q
        refine x_iconst (v := (-1 : Int32)) rfl rfl ?_
        exact x_iret rfl rfl h
      · have q : (x3).toInt = 0 ∨ (x3).toInt = 1 ∨ (x3).toInt = 2 := by omega
        rcases q with q | q | q
        · have q : x3 = (0 : Int32) := Int32.toInt_inj.mp q
          refine x_tabK (k := (0 : Int32)) (tgt := 96) q rfl (by decide) (by decide) rfl rfl ?_
          have h := h.1 q
          refine x_aload_n rfl rfl ?_
          refine x_gI lf_Rounds_60 k0 rfl rfl ?_
          exact x_iret rfl rfl h
        · have q : x3 = (1 : Int32) := Int32.toInt_inj.mp q
          refine x_tabK (k := (1 : Int32)) (tgt := 101) q rfl (by decide) (by decide) rfl rfl ?_
          have h := h.2.1 q
          refine x_aload_n rfl rfl ?_
          refine x_gI lf_Rounds_66 k0 rfl rfl ?_
          exact x_iret rfl rfl h
        · have q : x3 = (2 : Int32) := Int32.toInt_inj.mp q
          refine x_tabK (k := (2 : Int32)) (tgt := 106) q rfl (by decide) (by decide) rfl rfl ?_
          have h := h.2.2.1 q
          refine x_aload_n rfl rfl ?_
          refine x_aload_n rfl rfl ?_
          refine x_gI lf_Rounds_66 k0 rfl rfl ?_
          refine x_aload_n rfl rfl ?_
          refine x_gI lf_Rounds_60 k0 rfl rfl ?_
          refine x_vi lm_Rounds_131 vf_Table_lastOf k1 rfl rfl (Nat.le_of_ble_eq_true rfl) rfl h (fun r2 D1 h => ?_)
          exact x_iret rfl rfl h
    · have h := h.2 c
      refine x_iload_n rfl rfl ?_
      refine x_iconst (v := (4 : Int32)) rfl rfl ?_
      refine x_icmp_ne (tgt := 65) rfl rfl (fun c => ?_) (fun c => ?_)
      · have h := h.1 c
        refine x_iconst (v := (-1 : Int32)) rfl rfl ?_
        exact x_iret rfl rfl h
      · have h := h.2 c
        refine x_aload_n rfl rfl ?_
        refine x_aload_n rfl rfl ?_
        refine x_aload_n rfl rfl ?_
        refine x_vi lm_Rounds_127 vf_Rounds_mends k0 rfl rfl (Nat.le_of_ble_eq_true rfl) rfl h (fun r4 D3 h => ?_)
        refine x_goto (tgt := 66) rfl rfl ?_
        exact x_iret rfl rfl h
  · have h := h.2 c
    refine x_iconst (v := (0 : Int32)) rfl rfl ?_
    refine x_istore (i := 4) (L1 := [(4, .int (0 : Int32)), (0, .ref a0), (1, .ref a1), (2, .ref a2), (3, .int x3)]) rfl (Nat.le_of_ble_eq_true rfl) rfl ?_
    refine x_iconst (v := (0 : Int32)) rfl rfl ?_
    refine x_istore (i := 5) (L1 := [(5, .int (0 : Int32)), (4, .int (0 : Int32)), (0, .ref a0), (1, .ref a1), (2, .ref a2), (3, .int x3)]) rfl (Nat.le_of_ble_eq_true rfl) rfl ?_
    exact xP_sub [2, 3, 4, 5, 1, 0] rfl h
theorem s_Rounds_answer_11 {d : Nat} {D : xD} {Q : Option Value → xD → Prop} {a0 : Nat} {a1 : Nat} {a2 : Nat} {x3 : Int32} {x4 : Int32} {x5 : Int32} (k0 : xk a0 = 9) (k1 : xk a1 = 4) (k2 : xk a2 = 2) (h : xCi d m_Table_people [.ref a1] D (fun r2 D1 => (r2 ≤ x5 → Q (some (.int x4)) D1) ∧ (¬ r2 ≤ x5 → xCi d m_Row_get [.ref (a0 + 12), .int x5] D1 (fun r4 D3 => xPf (d + 1) m_Rounds_answer 11 [(0, .ref a0), (1, .ref a1), (2, .ref a2), (3, .int x3), (4, .int (x4 + r4)), (5, .int (x5 + (1 : Int32)))] [] D3 Q)))) : xPf (d + 1) m_Rounds_answer 11 [(0, .ref a0), (1, .ref a1), (2, .ref a2), (3, .int x3), (4, .int x4), (5, .int x5)] [] D Q := by
  refine x_iload rfl rfl ?_
  refine x_aload_n rfl rfl ?_
  refine x_vi lm_Rounds_40 vf_Table_people k1 rfl rfl (Nat.le_of_ble_eq_true rfl) rfl h (fun r2 D1 h => ?_)
  refine x_icmp_ge (tgt := 40) rfl rfl (fun c => ?_) (fun c => ?_)
  · have h := h.1 c
    refine x_iload rfl rfl ?_
    exact x_iret rfl rfl h
  · have h := h.2 c
    refine x_iload rfl rfl ?_
    refine x_aload_n rfl rfl ?_
    refine x_gR lf_Rounds_23 k0 rfl rfl ?_
    refine x_iload rfl rfl ?_
    refine x_vi lm_Rounds_91 vf_Row_get (ck_9_1 k0) rfl rfl (Nat.le_of_ble_eq_true rfl) rfl h (fun r4 D3 h => ?_)
    refine x_iadd rfl ?_
    refine x_istore (i := 4) (L1 := [(4, .int (x4 + r4)), (0, .ref a0), (1, .ref a1), (2, .ref a2), (3, .int x3), (5, .int x5)]) rfl (Nat.le_of_ble_eq_true rfl) rfl ?_
    refine x_iinc (i := 5) (v := x5 + (1 : Int32)) (L1 := [(5, .int (x5 + (1 : Int32))), (4, .int (x4 + r4)), (0, .ref a0), (1, .ref a1), (2, .ref a2), (3, .int x3)]) rfl rfl rfl (Nat.le_of_ble_eq_true rfl) rfl ?_
    refine x_goto (tgt := 11) rfl rfl ?_
    exact xP_sub [2, 3, 4, 5, 1, 0] rfl h
theorem s_Rounds_answerOf_0 {d : Nat} {D : xD} {Q : Option Value → xD → Prop} {a0 : Nat} {a1 : Nat} {x2 : Int32} {x3 : Int32} (k0 : xk a0 = 9) (k1 : xk a1 = 4) (h : (¬ x3 = 0 → (¬ (D.1 a0 6) = (-1 : Int32) → xCi d m_Table_spoonOf [.ref a1, .int x2, .int (D.1 a0 6), .int (D.1 a0 7)] D (fun r2 D1 => Q (some (.int r2)) D1)) ∧ ((D.1 a0 6) = (-1 : Int32) → Q (some (.int (-1 : Int32))) D)) ∧ (x3 = 0 → xCi d m_Row_get [.ref (a0 + 12), .int x2] D (fun r4 D3 => Q (some (.int r4)) D3))) : xPf (d + 1) m_Rounds_answerOf 0 [(0, .ref a0), (1, .ref a1), (2, .int x2), (3, .int x3)] [] D Q := by
  refine x_iload_n rfl rfl ?_
  refine x_if_ne (tgt := 13) rfl rfl (fun c => ?_) (fun c => ?_)
  · have h := h.1 c
    refine x_aload_n rfl rfl ?_
    refine x_gI lf_Rounds_66 k0 rfl rfl ?_
    refine x_iconst (v := (-1 : Int32)) rfl rfl ?_
    refine x_icmp_ne (tgt := 25) rfl rfl (fun c => ?_) (fun c => ?_)
    · have h := h.1 c
      refine x_aload_n rfl rfl ?_
      refine x_iload_n rfl rfl ?_
      refine x_aload_n rfl rfl ?_
      refine x_gI lf_Rounds_66 k0 rfl rfl ?_
      refine x_aload_n rfl rfl ?_
      refine x_gI lf_Rounds_60 k0 rfl rfl ?_
      refine x_vi lm_Rounds_134 vf_Table_spoonOf k1 rfl rfl (Nat.le_of_ble_eq_true rfl) rfl h (fun r2 D1 h => ?_)
      exact x_iret rfl rfl h
    · have h := h.2 c
      refine x_iconst (v := (-1 : Int32)) rfl rfl ?_
      refine x_goto (tgt := 38) rfl rfl ?_
      exact x_iret rfl rfl h
  · have h := h.2 c
    refine x_aload_n rfl rfl ?_
    refine x_gR lf_Rounds_23 k0 rfl rfl ?_
    refine x_iload_n rfl rfl ?_
    refine x_vi lm_Rounds_91 vf_Row_get (ck_9_1 k0) rfl rfl (Nat.le_of_ble_eq_true rfl) rfl h (fun r4 D3 h => ?_)
    exact x_iret rfl rfl h
theorem s_Rounds_mends_0 {d : Nat} {D : xD} {Q : Option Value → xD → Prop} {a0 : Nat} {a1 : Nat} {a2 : Nat} (k0 : xk a0 = 9) (k1 : xk a1 = 4) (k2 : xk a2 = 2) (h : xPf (d + 1) m_Rounds_mends 2 [(0, .ref a0), (1, .ref a1), (2, .ref a2), (3, .int (0 : Int32))] [] D Q) : xPf (d + 1) m_Rounds_mends 0 [(0, .ref a0), (1, .ref a1), (2, .ref a2)] [] D Q := by
  refine x_iconst (v := (0 : Int32)) rfl rfl ?_
  refine x_istore_n (i := 3) (L1 := [(3, .int (0 : Int32)), (0, .ref a0), (1, .ref a1), (2, .ref a2)]) rfl rfl (Nat.le_of_ble_eq_true rfl) rfl ?_
  exact xP_sub [1, 2, 3, 0] rfl h
theorem s_Rounds_mends_2 {d : Nat} {D : xD} {Q : Option Value → xD → Prop} {a0 : Nat} {a1 : Nat} {a2 : Nat} {x3 : Int32} (k0 : xk a0 = 9) (k1 : xk a1 = 4) (k2 : xk a2 = 2) (h : xCi d m_Table_people [.ref a1] D (fun r2 D1 => (r2 ≤ x3 → Q (some (.int (-1 : Int32))) D1) ∧ (¬ r2 ≤ x3 → xCi d m_Table_of [.ref a1, .int x3, .int (4 : Int32)] D1 (fun r4 D3 => (r4 = 0 → xPf (d + 1) m_Rounds_mends 2 [(0, .ref a0), (1, .ref a1), (2, .ref a2), (3, .int (x3 + (1 : Int32)))] [] D3 Q) ∧ (¬ r4 = 0 → xCv d m_Table_copy [.ref (a0 + 14), .ref a1] D3 (fun D5 => xCv d m_Table_setOf [.ref (a0 + 14), .int x3, .int (4 : Int32), .int (0 : Int32)] D5 (fun D6 => xCv d m_Rounds_play [.ref a0, .ref (a0 + 14), .ref a2, .int (2000 : Int32)] D6 (fun D7 => ((D7.1 a0 6) = (-1 : Int32) → xPf (d + 1) m_Rounds_mends 2 [(0, .ref a0), (1, .ref a1), (2, .ref a2), (3, .int (x3 + (1 : Int32)))] [] D7 Q) ∧ (¬ (D7.1 a0 6) = (-1 : Int32) → Q (some (.int x3)) D7))))))))) : xPf (d + 1) m_Rounds_mends 2 [(0, .ref a0), (1, .ref a1), (2, .ref a2), (3, .int x3)] [] D Q := by
  refine x_iload_n rfl rfl ?_
  refine x_aload_n rfl rfl ?_
  refine x_vi lm_Rounds_40 vf_Table_people k1 rfl rfl (Nat.le_of_ble_eq_true rfl) rfl h (fun r2 D1 h => ?_)
  refine x_icmp_ge (tgt := 65) rfl rfl (fun c => ?_) (fun c => ?_)
  · have h := h.1 c
    refine x_iconst (v := (-1 : Int32)) rfl rfl ?_
    exact x_iret rfl rfl h
  · have h := h.2 c
    refine x_aload_n rfl rfl ?_
    refine x_iload_n rfl rfl ?_
    refine x_iconst (v := (4 : Int32)) rfl rfl ?_
    refine x_vi lm_Rounds_80 vf_Table_of k1 rfl rfl (Nat.le_of_ble_eq_true rfl) rfl h (fun r4 D3 h => ?_)
    refine x_if_eq (tgt := 59) rfl rfl (fun c => ?_) (fun c => ?_)
    · have h := h.1 c
      refine x_iinc (i := 3) (v := x3 + (1 : Int32)) (L1 := [(3, .int (x3 + (1 : Int32))), (0, .ref a0), (1, .ref a1), (2, .ref a2)]) rfl rfl rfl (Nat.le_of_ble_eq_true rfl) rfl ?_
      refine x_goto (tgt := 2) rfl rfl ?_
      exact xP_sub [1, 2, 3, 0] rfl h
    · have h := h.2 c
      refine x_aload_n rfl rfl ?_
      refine x_gR lf_Rounds_30 k0 rfl rfl ?_
      refine x_aload_n rfl rfl ?_
      refine x_vv lm_Rounds_138 vf_Table_copy (ck_9_2 k0) rfl rfl (Nat.le_of_ble_eq_true rfl) rfl h (fun D5 h => ?_)
      refine x_aload_n rfl rfl ?_
      refine x_gR lf_Rounds_30 k0 rfl rfl ?_
      refine x_iload_n rfl rfl ?_
      refine x_iconst (v := (4 : Int32)) rfl rfl ?_
      refine x_iconst (v := (0 : Int32)) rfl rfl ?_
      refine x_vv lm_Rounds_141 vf_Table_setOf (ck_9_2 k0) rfl rfl (Nat.le_of_ble_eq_true rfl) rfl h (fun D6 h => ?_)
      refine x_aload_n rfl rfl ?_
      refine x_aload_n rfl rfl ?_
      refine x_gR lf_Rounds_30 k0 rfl rfl ?_
      refine x_aload_n rfl rfl ?_
      refine x_sipush (v := (2000 : Int32)) rfl rfl ?_
      refine x_vv lm_Rounds_145 vf_Rounds_play k0 rfl rfl (Nat.le_of_ble_eq_true rfl) rfl h (fun D7 h => ?_)
      refine x_aload_n rfl rfl ?_
      refine x_gI lf_Rounds_66 k0 rfl rfl ?_
      refine x_iconst (v := (-1 : Int32)) rfl rfl ?_
      refine x_icmp_eq (tgt := 59) rfl rfl (fun c => ?_) (fun c => ?_)
      · have h := h.1 c
        refine x_iinc (i := 3) (v := x3 + (1 : Int32)) (L1 := [(3, .int (x3 + (1 : Int32))), (0, .ref a0), (1, .ref a1), (2, .ref a2)]) rfl rfl rfl (Nat.le_of_ble_eq_true rfl) rfl ?_
        refine x_goto (tgt := 2) rfl rfl ?_
        exact xP_sub [1, 2, 3, 0] rfl h
      · have h := h.2 c
        refine x_iload_n rfl rfl ?_
        exact x_iret rfl rfl h
