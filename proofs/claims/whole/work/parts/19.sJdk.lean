theorem s_Arrays_fill_0 {d : Nat} {D : xD} {Q : Option Value → xD → Prop} {a0 : Nat} {x1 : Int32} (k0 : xk a0 = 100) (h : xPf (d + 1) m_Arrays_fill 5 [(0, .ref a0), (1, .int x1), (2, .int (0 : Int32)), (3, .int (Int32.ofNat (xl a0)))] [] D Q) : xPf (d + 1) m_Arrays_fill 0 [(0, .ref a0), (1, .int x1)] [] D Q := by
  refine x_iconst (v := (0 : Int32)) rfl rfl ?_
  refine x_istore_n (i := 2) (L1 := [(2, .int (0 : Int32)), (0, .ref a0), (1, .int x1)]) rfl rfl (Nat.le_of_ble_eq_true rfl) rfl ?_
  refine x_aload_n rfl rfl ?_
  refine x_alen (t := 0) k0 (by decide) (xlt k0 (by decide)) rfl rfl ?_
  refine x_istore_n (i := 3) (L1 := [(3, .int (Int32.ofNat (xl a0))), (2, .int (0 : Int32)), (0, .ref a0), (1, .int x1)]) rfl rfl (Nat.le_of_ble_eq_true rfl) rfl ?_
  exact xP_sub [2, 3, 1, 0] rfl h
theorem s_Arrays_fill_5 {d : Nat} {D : xD} {Q : Option Value → xD → Prop} {a0 : Nat} {x1 : Int32} {x2 : Int32} {x3 : Int32} (k0 : xk a0 = 100) (h : (x3 ≤ x2 → Q none D) ∧ (¬ x3 ≤ x2 → vp_in x2 (xl a0) ∧ ∀ D1 : xD, D1 = (xu D.1 a0 (x2 : Int32).toNatClampNeg x1, D.2) → xPf (d + 1) m_Arrays_fill 5 [(0, .ref a0), (1, .int x1), (2, .int (x2 + (1 : Int32))), (3, .int x3)] [] D1 Q)) : xPf (d + 1) m_Arrays_fill 5 [(0, .ref a0), (1, .int x1), (2, .int x2), (3, .int x3)] [] D Q := by
  refine x_iload_n rfl rfl ?_
  refine x_iload_n rfl rfl ?_
  refine x_icmp_ge (tgt := 20) rfl rfl (fun c => ?_) (fun c => ?_)
  · have h := h.1 c
    exact x_vret rfl rfl h
  · have h := h.2 c
    refine x_aload_n rfl rfl ?_
    refine x_iload_n rfl rfl ?_
    refine x_iload_n rfl rfl ?_
    refine x_iastn k0 h.1 rfl (fun D1 eD1 => ?_)
    have h := h.2 D1 eD1
    refine x_iinc (i := 2) (v := x2 + (1 : Int32)) (L1 := [(2, .int (x2 + (1 : Int32))), (0, .ref a0), (1, .int x1), (3, .int x3)]) rfl rfl rfl (Nat.le_of_ble_eq_true rfl) rfl ?_
    refine x_goto (tgt := 5) rfl rfl ?_
    exact xP_sub [1, 2, 0, 3] rfl h
theorem s_Integer_bitCount_0 {d : Nat} {D : xD} {Q : Option Value → xD → Prop} {x0 : Int32}  (h : Q (some (.int ((((((((x0 - (((x0.toUInt32 >>> ((1 : Int32).toUInt32 &&& Int32.toUInt32 31)).toInt32) &&& (1431655765 : Int32))) &&& (858993459 : Int32)) + ((((x0 - (((x0.toUInt32 >>> ((1 : Int32).toUInt32 &&& Int32.toUInt32 31)).toInt32) &&& (1431655765 : Int32))).toUInt32 >>> ((2 : Int32).toUInt32 &&& Int32.toUInt32 31)).toInt32) &&& (858993459 : Int32))) + (((((x0 - (((x0.toUInt32 >>> ((1 : Int32).toUInt32 &&& Int32.toUInt32 31)).toInt32) &&& (1431655765 : Int32))) &&& (858993459 : Int32)) + ((((x0 - (((x0.toUInt32 >>> ((1 : Int32).toUInt32 &&& Int32.toUInt32 31)).toInt32) &&& (1431655765 : Int32))).toUInt32 >>> ((2 : Int32).toUInt32 &&& Int32.toUInt32 31)).toInt32) &&& (858993459 : Int32))).toUInt32 >>> ((4 : Int32).toUInt32 &&& Int32.toUInt32 31)).toInt32)) &&& (252645135 : Int32)) + (((((((x0 - (((x0.toUInt32 >>> ((1 : Int32).toUInt32 &&& Int32.toUInt32 31)).toInt32) &&& (1431655765 : Int32))) &&& (858993459 : Int32)) + ((((x0 - (((x0.toUInt32 >>> ((1 : Int32).toUInt32 &&& Int32.toUInt32 31)).toInt32) &&& (1431655765 : Int32))).toUInt32 >>> ((2 : Int32).toUInt32 &&& Int32.toUInt32 31)).toInt32) &&& (858993459 : Int32))) + (((((x0 - (((x0.toUInt32 >>> ((1 : Int32).toUInt32 &&& Int32.toUInt32 31)).toInt32) &&& (1431655765 : Int32))) &&& (858993459 : Int32)) + ((((x0 - (((x0.toUInt32 >>> ((1 : Int32).toUInt32 &&& Int32.toUInt32 31)).toInt32) &&& (1431655765 : Int32))).toUInt32 >>> ((2 : Int32).toUInt32 &&& Int32.toUInt32 31)).toInt32) &&& (858993459 : Int32))).toUInt32 >>> ((4 : Int32).toUInt32 &&& Int32.toUInt32 31)).toInt32)) &&& (252645135 : Int32)).toUInt32 >>> ((8 : Int32).toUInt32 &&& Int32.toUInt32 31)).toInt32)) + ((((((((x0 - (((x0.toUInt32 >>> ((1 : Int32).toUInt32 &&& Int32.toUInt32 31)).toInt32) &&& (1431655765 : Int32))) &&& (858993459 : Int32)) + ((((x0 - (((x0.toUInt32 >>> ((1 : Int32).toUInt32 &&& Int32.toUInt32 31)).toInt32) &&& (1431655765 : Int32))).toUInt32 >>> ((2 : Int32).toUInt32 &&& Int32.toUInt32 31)).toInt32) &&& (858993459 : Int32))) + (((((x0 - (((x0.toUInt32 >>> ((1 : Int32).toUInt32 &&& Int32.toUInt32 31)).toInt32) &&& (1431655765 : Int32))) &&& (858993459 : Int32)) + ((((x0 - (((x0.toUInt32 >>> ((1 : Int32).toUInt32 &&& Int32.toUInt32 31)).toInt32) &&& (1431655765 : Int32))).toUInt32 >>> ((2 : Int32).toUInt32 &&& Int32.toUInt32 31)).toInt32) &&& (858993459 : Int32))).toUInt32 >>> ((4 : Int32).toUInt32 &&& Int32.toUInt32 31)).toInt32)) &&& (252645135 : Int32)) + (((((((x0 - (((x0.toUInt32 >>> ((1 : Int32).toUInt32 &&& Int32.toUInt32 31)).toInt32) &&& (1431655765 : Int32))) &&& (858993459 : Int32)) + ((((x0 - (((x0.toUInt32 >>> ((1 : Int32).toUInt32 &&& Int32.toUInt32 31)).toInt32) &&& (1431655765 : Int32))).toUInt32 >>> ((2 : Int32).toUInt32 &&& Int32.toUInt32 31)).toInt32) &&& (858993459 : Int32))) + (((((x0 - (((x0.toUInt32 >>> ((1 : Int32).toUInt32 &&& Int32.toUInt32 31)).toInt32) &&& (1431655765 : Int32))) &&& (858993459 : Int32)) + ((((x0 - (((x0.toUInt32 >>> ((1 : Int32).toUInt32 &&& Int32.toUInt32 31)).toInt32) &&& (1431655765 : Int32))).toUInt32 >>> ((2 : Int32).toUInt32 &&& Int32.toUInt32 31)).toInt32) &&& (858993459 : Int32))).toUInt32 >>> ((4 : Int32).toUInt32 &&& Int32.toUInt32 31)).toInt32)) &&& (252645135 : Int32)).toUInt32 >>> ((8 : Int32).toUInt32 &&& Int32.toUInt32 31)).toInt32)).toUInt32 >>> ((16 : Int32).toUInt32 &&& Int32.toUInt32 31)).toInt32)) &&& (63 : Int32)))) D) : xPf (d + 1) m_Integer_bitCount 0 [(0, .int x0)] [] D Q := by
  refine x_iload_n rfl rfl ?_
  refine x_iload_n rfl rfl ?_
  refine x_iconst (v := (1 : Int32)) rfl rfl ?_
  refine x_iushr rfl ?_
  refine x_ldcw wd_1411 rfl ?_
  refine x_iand rfl ?_
  refine x_isub rfl ?_
  refine x_istore_n (i := 0) (L1 := [(0, .int (x0 - (((x0.toUInt32 >>> ((1 : Int32).toUInt32 &&& Int32.toUInt32 31)).toInt32) &&& (1431655765 : Int32))))]) rfl rfl (Nat.le_of_ble_eq_true rfl) rfl ?_
  refine x_iload_n rfl rfl ?_
  refine x_ldcw wd_1412 rfl ?_
  refine x_iand rfl ?_
  refine x_iload_n rfl rfl ?_
  refine x_iconst (v := (2 : Int32)) rfl rfl ?_
  refine x_iushr rfl ?_
  refine x_ldcw wd_1412 rfl ?_
  refine x_iand rfl ?_
  refine x_iadd rfl ?_
  refine x_istore_n (i := 0) (L1 := [(0, .int (((x0 - (((x0.toUInt32 >>> ((1 : Int32).toUInt32 &&& Int32.toUInt32 31)).toInt32) &&& (1431655765 : Int32))) &&& (858993459 : Int32)) + ((((x0 - (((x0.toUInt32 >>> ((1 : Int32).toUInt32 &&& Int32.toUInt32 31)).toInt32) &&& (1431655765 : Int32))).toUInt32 >>> ((2 : Int32).toUInt32 &&& Int32.toUInt32 31)).toInt32) &&& (858993459 : Int32))))]) rfl rfl (Nat.le_of_ble_eq_true rfl) rfl ?_
  refine x_iload_n rfl rfl ?_
  refine x_iload_n rfl rfl ?_
  refine x_iconst (v := (4 : Int32)) rfl rfl ?_
  refine x_iushr rfl ?_
  refine x_iadd rfl ?_
  refine x_ldcw wd_1413 rfl ?_
  refine x_iand rfl ?_
  refine x_istore_n (i := 0) (L1 := [(0, .int (((((x0 - (((x0.toUInt32 >>> ((1 : Int32).toUInt32 &&& Int32.toUInt32 31)).toInt32) &&& (1431655765 : Int32))) &&& (858993459 : Int32)) + ((((x0 - (((x0.toUInt32 >>> ((1 : Int32).toUInt32 &&& Int32.toUInt32 31)).toInt32) &&& (1431655765 : Int32))).toUInt32 >>> ((2 : Int32).toUInt32 &&& Int32.toUInt32 31)).toInt32) &&& (858993459 : Int32))) + (((((x0 - (((x0.toUInt32 >>> ((1 : Int32).toUInt32 &&& Int32.toUInt32 31)).toInt32) &&& (1431655765 : Int32))) &&& (858993459 : Int32)) + ((((x0 - (((x0.toUInt32 >>> ((1 : Int32).toUInt32 &&& Int32.toUInt32 31)).toInt32) &&& (1431655765 : Int32))).toUInt32 >>> ((2 : Int32).toUInt32 &&& Int32.toUInt32 31)).toInt32) &&& (858993459 : Int32))).toUInt32 >>> ((4 : Int32).toUInt32 &&& Int32.toUInt32 31)).toInt32)) &&& (252645135 : Int32)))]) rfl rfl (Nat.le_of_ble_eq_true rfl) rfl ?_
  refine x_iload_n rfl rfl ?_
  refine x_iload_n rfl rfl ?_
  refine x_bipush (v := (8 : Int32)) rfl rfl ?_
  refine x_iushr rfl ?_
  refine x_iadd rfl ?_
  refine x_istore_n (i := 0) (L1 := [(0, .int ((((((x0 - (((x0.toUInt32 >>> ((1 : Int32).toUInt32 &&& Int32.toUInt32 31)).toInt32) &&& (1431655765 : Int32))) &&& (858993459 : Int32)) + ((((x0 - (((x0.toUInt32 >>> ((1 : Int32).toUInt32 &&& Int32.toUInt32 31)).toInt32) &&& (1431655765 : Int32))).toUInt32 >>> ((2 : Int32).toUInt32 &&& Int32.toUInt32 31)).toInt32) &&& (858993459 : Int32))) + (((((x0 - (((x0.toUInt32 >>> ((1 : Int32).toUInt32 &&& Int32.toUInt32 31)).toInt32) &&& (1431655765 : Int32))) &&& (858993459 : Int32)) + ((((x0 - (((x0.toUInt32 >>> ((1 : Int32).toUInt32 &&& Int32.toUInt32 31)).toInt32) &&& (1431655765 : Int32))).toUInt32 >>> ((2 : Int32).toUInt32 &&& Int32.toUInt32 31)).toInt32) &&& (858993459 : Int32))).toUInt32 >>> ((4 : Int32).toUInt32 &&& Int32.toUInt32 31)).toInt32)) &&& (252645135 : Int32)) + (((((((x0 - (((x0.toUInt32 >>> ((1 : Int32).toUInt32 &&& Int32.toUInt32 31)).toInt32) &&& (1431655765 : Int32))) &&& (858993459 : Int32)) + ((((x0 - (((x0.toUInt32 >>> ((1 : Int32).toUInt32 &&& Int32.toUInt32 31)).toInt32) &&& (1431655765 : Int32))).toUInt32 >>> ((2 : Int32).toUInt32 &&& Int32.toUInt32 31)).toInt32) &&& (858993459 : Int32))) + (((((x0 - (((x0.toUInt32 >>> ((1 : Int32).toUInt32 &&& Int32.toUInt32 31)).toInt32) &&& (1431655765 : Int32))) &&& (858993459 : Int32)) + ((((x0 - (((x0.toUInt32 >>> ((1 : Int32).toUInt32 &&& Int32.toUInt32 31)).toInt32) &&& (1431655765 : Int32))).toUInt32 >>> ((2 : Int32).toUInt32 &&& Int32.toUInt32 31)).toInt32) &&& (858993459 : Int32))).toUInt32 >>> ((4 : Int32).toUInt32 &&& Int32.toUInt32 31)).toInt32)) &&& (252645135 : Int32)).toUInt32 >>> ((8 : Int32).toUInt32 &&& Int32.toUInt32 31)).toInt32)))]) rfl rfl (Nat.le_of_ble_eq_true rfl) rfl ?_
  refine x_iload_n rfl rfl ?_
  refine x_iload_n rfl rfl ?_
  refine x_bipush (v := (16 : Int32)) rfl rfl ?_
  refine x_iushr rfl ?_
  refine x_iadd rfl ?_
  refine x_istore_n (i := 0) (L1 := [(0, .int (((((((x0 - (((x0.toUInt32 >>> ((1 : Int32).toUInt32 &&& Int32.toUInt32 31)).toInt32) &&& (1431655765 : Int32))) &&& (858993459 : Int32)) + ((((x0 - (((x0.toUInt32 >>> ((1 : Int32).toUInt32 &&& Int32.toUInt32 31)).toInt32) &&& (1431655765 : Int32))).toUInt32 >>> ((2 : Int32).toUInt32 &&& Int32.toUInt32 31)).toInt32) &&& (858993459 : Int32))) + (((((x0 - (((x0.toUInt32 >>> ((1 : Int32).toUInt32 &&& Int32.toUInt32 31)).toInt32) &&& (1431655765 : Int32))) &&& (858993459 : Int32)) + ((((x0 - (((x0.toUInt32 >>> ((1 : Int32).toUInt32 &&& Int32.toUInt32 31)).toInt32) &&& (1431655765 : Int32))).toUInt32 >>> ((2 : Int32).toUInt32 &&& Int32.toUInt32 31)).toInt32) &&& (858993459 : Int32))).toUInt32 >>> ((4 : Int32).toUInt32 &&& Int32.toUInt32 31)).toInt32)) &&& (252645135 : Int32)) + (((((((x0 - (((x0.toUInt32 >>> ((1 : Int32).toUInt32 &&& Int32.toUInt32 31)).toInt32) &&& (1431655765 : Int32))) &&& (858993459 : Int32)) + ((((x0 - (((x0.toUInt32 >>> ((1 : Int32).toUInt32 &&& Int32.toUInt32 31)).toInt32) &&& (1431655765 : Int32))).toUInt32 >>> ((2 : Int32).toUInt32 &&& Int32.toUInt32 31)).toInt32) &&& (858993459 : Int32))) + (((((x0 - (((x0.toUInt32 >>> ((1 : Int32).toUInt32 &&& Int32.toUInt32 31)).toInt32) &&& (1431655765 : Int32))) &&& (858993459 : Int32)) + ((((x0 - (((x0.toUInt32 >>> ((1 : Int32).toUInt32 &&& Int32.toUInt32 31)).toInt32) &&& (1431655765 : Int32))).toUInt32 >>> ((2 : Int32).toUInt32 &&& Int32.toUInt32 31)).toInt32) &&& (858993459 : Int32))).toUInt32 >>> ((4 : Int32).toUInt32 &&& Int32.toUInt32 31)).toInt32)) &&& (252645135 : Int32)).toUInt32 >>> ((8 : Int32).toUInt32 &&& Int32.toUInt32 31)).toInt32)) + ((((((((x0 - (((x0.toUInt32 >>> ((1 : Int32).toUInt32 &&& Int32.toUInt32 31)).toInt32) &&& (1431655765 : Int32))) &&& (858993459 : Int32)) + ((((x0 - (((x0.toUInt32 >>> ((1 : Int32).toUInt32 &&& Int32.toUInt32 31)).toInt32) &&& (1431655765 : Int32))).toUInt32 >>> ((2 : Int32).toUInt32 &&& Int32.toUInt32 31)).toInt32) &&& (858993459 : Int32))) + (((((x0 - (((x0.toUInt32 >>> ((1 : Int32).toUInt32 &&& Int32.toUInt32 31)).toInt32) &&& (1431655765 : Int32))) &&& (858993459 : Int32)) + ((((x0 - (((x0.toUInt32 >>> ((1 : Int32).toUInt32 &&& Int32.toUInt32 31)).toInt32) &&& (1431655765 : Int32))).toUInt32 >>> ((2 : Int32).toUInt32 &&& Int32.toUInt32 31)).toInt32) &&& (858993459 : Int32))).toUInt32 >>> ((4 : Int32).toUInt32 &&& Int32.toUInt32 31)).toInt32)) &&& (252645135 : Int32)) + (((((((x0 - (((x0.toUInt32 >>> ((1 : Int32).toUInt32 &&& Int32.toUInt32 31)).toInt32) &&& (1431655765 : Int32))) &&& (858993459 : Int32)) + ((((x0 - (((x0.toUInt32 >>> ((1 : Int32).toUInt32 &&& Int32.toUInt32 31)).toInt32) &&& (1431655765 : Int32))).toUInt32 >>> ((2 : Int32).toUInt32 &&& Int32.toUInt32 31)).toInt32) &&& (858993459 : Int32))) + (((((x0 - (((x0.toUInt32 >>> ((1 : Int32).toUInt32 &&& Int32.toUInt32 31)).toInt32) &&& (1431655765 : Int32))) &&& (858993459 : Int32)) + ((((x0 - (((x0.toUInt32 >>> ((1 : Int32).toUInt32 &&& Int32.toUInt32 31)).toInt32) &&& (1431655765 : Int32))).toUInt32 >>> ((2 : Int32).toUInt32 &&& Int32.toUInt32 31)).toInt32) &&& (858993459 : Int32))).toUInt32 >>> ((4 : Int32).toUInt32 &&& Int32.toUInt32 31)).toInt32)) &&& (252645135 : Int32)).toUInt32 >>> ((8 : Int32).toUInt32 &&& Int32.toUInt32 31)).toInt32)).toUInt32 >>> ((16 : Int32).toUInt32 &&& Int32.toUInt32 31)).toInt32)))]) rfl rfl (Nat.le_of_ble_eq_true rfl) rfl ?_
  refine x_iload_n rfl rfl ?_
  refine x_bipush (v := (63 : Int32)) rfl rfl ?_
  refine x_iand rfl ?_
  exact x_iret rfl rfl h
theorem s_String_length_0 {d : Nat} {D : xD} {Q : Option Value → xD → Prop} {a0 : Nat} (hs : a0 < 21) (h : xCi d m_String_coder [.ref (100000 + a0)] D (fun r1 D2 => Q (some (.int ((Int32.ofNat (xslens.getD a0 0)) >>> (r1 &&& 31)))) D2)) : xPf (d + 1) m_String_length 0 [(0, .ref (100000 + a0))] [] D Q := by
  refine x_aload_n rfl rfl ?_
  refine x_sval wd_2343 hs rfl ?_
  refine x_slen hs rfl ?_
  refine x_aload_n rfl rfl ?_
  refine x_svi (y := m_String_coder) hs wd_587 y_String_coder wd_588 wd_589 rfl rfl rfl (Nat.le_of_ble_eq_true rfl) rfl h (fun r1 D2 h => ?_)
  refine x_ishr rfl ?_
  exact x_iret rfl rfl h
theorem s_String_coder_0 {d : Nat} {D : xD} {Q : Option Value → xD → Prop} {a0 : Nat} (hs : a0 < 21) (h : ((1 : Int32) = 0 → narrow .byte (.int (1 : Int32)) = .int (1 : Int32) ∧ Q (some (.int (1 : Int32))) D) ∧ (¬ (1 : Int32) = 0 → narrow .byte (.int (0 : Int32)) = .int (0 : Int32) ∧ Q (some (.int (0 : Int32))) D)) : xPf (d + 1) m_String_coder 0 [(0, .ref (100000 + a0))] [] D Q := by
  refine x_gets1 wd_591 rfl ?_
  refine x_if_eq (tgt := 13) rfl rfl (fun c => ?_) (fun c => ?_)
  · have h := h.1 c
    refine x_iconst (v := (1 : Int32)) rfl rfl ?_
    exact x_cret (ty := .byte) rfl h.1 rfl h.2
  · have h := h.2 c
    refine x_aload_n rfl rfl ?_
    refine x_scod wd_2344 hs rfl ?_
    refine x_goto (tgt := 14) rfl rfl ?_
    exact x_cret (ty := .byte) rfl h.1 rfl h.2
theorem s_String_charAt_0 {d : Nat} {D : xD} {Q : Option Value → xD → Prop} {a0 : Nat} {x1 : Int32} (hs : a0 < 21) (h : xCi d m_String_isLatin1 [.ref (100000 + a0)] D (fun r1 D2 => (r1 = 0 → False) ∧ (¬ r1 = 0 → xCi d m_Latin_charAt [.ref (200000 + a0), .int x1] D2 (fun r4 D3 => narrow .char (.int r4) = .int r4 ∧ Q (some (.int r4)) D3)))) : xPf (d + 1) m_String_charAt 0 [(0, .ref (100000 + a0)), (1, .int x1)] [] D Q := by
  refine x_aload_n rfl rfl ?_
  refine x_svi (y := m_String_isLatin1) hs wd_597 y_String_isLatin1 wd_598 wd_599 rfl rfl rfl (Nat.le_of_ble_eq_true rfl) rfl h (fun r1 D2 h => ?_)
  refine x_if_eq (tgt := 16) rfl rfl (fun c => ?_) (fun c => ?_)
  · have h := h.1 c
    refine x_aload_n rfl rfl ?_
    refine x_sval wd_2343 hs rfl ?_
    refine x_iload_n rfl rfl ?_
    exact h.elim
  · have h := h.2 c
    refine x_aload_n rfl rfl ?_
    refine x_sval wd_2343 hs rfl ?_
    refine x_iload_n rfl rfl ?_
    refine x_si lm_String_495 sf_Latin_charAt rfl rfl (Nat.le_of_ble_eq_true rfl) rfl h (fun r4 D3 h => ?_)
    exact x_cret (ty := .char) rfl h.1 rfl h.2
theorem s_String_isLatin1_0 {d : Nat} {D : xD} {Q : Option Value → xD → Prop} {a0 : Nat} (hs : a0 < 21) (h : ((1 : Int32) = 0 → Q (some (.int (0 : Int32))) D) ∧ (¬ (1 : Int32) = 0 → (¬ (0 : Int32) = 0 → Q (some (.int (0 : Int32))) D) ∧ ((0 : Int32) = 0 → Q (some (.int (1 : Int32))) D))) : xPf (d + 1) m_String_isLatin1 0 [(0, .ref (100000 + a0))] [] D Q := by
  refine x_gets1 wd_591 rfl ?_
  refine x_if_eq (tgt := 17) rfl rfl (fun c => ?_) (fun c => ?_)
  · have h := h.1 c
    refine x_iconst (v := (0 : Int32)) rfl rfl ?_
    exact x_zr rfl (Or.inl rfl) rfl h
  · have h := h.2 c
    refine x_aload_n rfl rfl ?_
    refine x_scod wd_2344 hs rfl ?_
    refine x_if_ne (tgt := 17) rfl rfl (fun c => ?_) (fun c => ?_)
    · have h := h.1 c
      refine x_iconst (v := (0 : Int32)) rfl rfl ?_
      exact x_zr rfl (Or.inl rfl) rfl h
    · have h := h.2 c
      refine x_iconst (v := (1 : Int32)) rfl rfl ?_
      refine x_goto (tgt := 18) rfl rfl ?_
      exact x_zr rfl (Or.inr rfl) rfl h
theorem s_Latin_charAt_0 {d : Nat} {D : xD} {Q : Option Value → xD → Prop} {a0 : Nat} {x1 : Int32} (hs : a0 < 21) (h : xCv d m_String_checkIndex [.int x1, .int (Int32.ofNat (xslens.getD a0 0))] D (fun D1 => vp_in x1 (xslens.getD a0 0) ∧ narrow .char (.int (((((xsbyts.getD a0 []).getD (x1 : Int32).toNatClampNeg 0) &&& (255 : Int32)).toUInt32 % 65536).toInt32)) = .int (((((xsbyts.getD a0 []).getD (x1 : Int32).toNatClampNeg 0) &&& (255 : Int32)).toUInt32 % 65536).toInt32) ∧ Q (some (.int (((((xsbyts.getD a0 []).getD (x1 : Int32).toNatClampNeg 0) &&& (255 : Int32)).toUInt32 % 65536).toInt32))) D1)) : xPf (d + 1) m_Latin_charAt 0 [(0, .ref (200000 + a0)), (1, .int x1)] [] D Q := by
  refine x_iload_n rfl rfl ?_
  refine x_aload_n rfl rfl ?_
  refine x_slen hs rfl ?_
  refine x_sv lm_Latin_9 sf_String_checkIndex rfl rfl (Nat.le_of_ble_eq_true rfl) rfl h (fun D1 h => ?_)
  refine x_aload_n rfl rfl ?_
  refine x_iload_n rfl rfl ?_
  refine x_sbld hs h.1 rfl ?_
  have h := h.2
  refine x_sipush (v := (255 : Int32)) rfl rfl ?_
  refine x_iand rfl ?_
  refine x_i2c rfl ?_
  exact x_cret (ty := .char) rfl h.1 rfl h.2
theorem s_String_checkIndex_0 {d : Nat} {D : xD} {Q : Option Value → xD → Prop} {x0 : Int32} {x1 : Int32}  (h : xCi d m_Pre_checkIndex [.int x0, .int x1, .ref 300000] D (fun r2 D1 => Q none D1)) (hn : xCi d m_Pre_checkIndex [.int x0, .int x1, .null] D (fun r2 D1 => Q none D1)) : xPf (d + 1) m_String_checkIndex 0 [(0, .int x0), (1, .int x1)] [] D Q := by
  refine x_iload_n rfl rfl ?_
  refine x_iload_n rfl rfl ?_
  refine x_gets2 wd_607 rfl ?_ ?_
  · refine x_si lm_String_1059 sf_Pre_checkIndex rfl rfl (Nat.le_of_ble_eq_true rfl) rfl h (fun r2 D1 h => ?_)
    refine x_pop rfl rfl ?_
    exact x_vret rfl rfl h
  · refine x_si lm_String_1059 sf_Pre_checkIndex rfl rfl (Nat.le_of_ble_eq_true rfl) rfl hn (fun r2 D1 h => ?_)
    refine x_pop rfl rfl ?_
    exact x_vret rfl rfl h
theorem s_Pre_checkIndex_0 {d : Nat} {D : xD} {Q : Option Value → xD → Prop} {x0 : Int32} {x1 : Int32}  (h : (x0 < 0 → False) ∧ (¬ x0 < 0 → (x0 < x1 → Q (some (.int x0)) D) ∧ (¬ x0 < x1 → False))) : xPf (d + 1) m_Pre_checkIndex 0 [(0, .int x0), (1, .int x1), (2, .ref 300000)] [] D Q := by
  refine x_iload_n rfl rfl ?_
  refine x_if_lt (tgt := 9) rfl rfl (fun c => ?_) (fun c => ?_)
  · have h := h.1 c
    refine x_aload_n rfl rfl ?_
    refine x_iload_n rfl rfl ?_
    refine x_iload_n rfl rfl ?_
    exact h.elim
  · have h := h.2 c
    refine x_iload_n rfl rfl ?_
    refine x_iload_n rfl rfl ?_
    refine x_icmp_lt (tgt := 16) rfl rfl (fun c => ?_) (fun c => ?_)
    · have h := h.1 c
      refine x_iload_n rfl rfl ?_
      exact x_iret rfl rfl h
    · have h := h.2 c
      refine x_aload_n rfl rfl ?_
      refine x_iload_n rfl rfl ?_
      refine x_iload_n rfl rfl ?_
      exact h.elim
theorem s_Pre_checkIndexN_0 {d : Nat} {D : xD} {Q : Option Value → xD → Prop} {x0 : Int32} {x1 : Int32}  (h : (x0 < 0 → False) ∧ (¬ x0 < 0 → (x0 < x1 → Q (some (.int x0)) D) ∧ (¬ x0 < x1 → False))) : xPf (d + 1) m_Pre_checkIndex 0 [(0, .int x0), (1, .int x1), (2, .null)] [] D Q := by
  refine x_iload_n rfl rfl ?_
  refine x_if_lt (tgt := 9) rfl rfl (fun c => ?_) (fun c => ?_)
  · have h := h.1 c
    refine x_aload_nN rfl rfl ?_
    refine x_iload_n rfl rfl ?_
    refine x_iload_n rfl rfl ?_
    exact h.elim
  · have h := h.2 c
    refine x_iload_n rfl rfl ?_
    refine x_iload_n rfl rfl ?_
    refine x_icmp_lt (tgt := 16) rfl rfl (fun c => ?_) (fun c => ?_)
    · have h := h.1 c
      refine x_iload_n rfl rfl ?_
      exact x_iret rfl rfl h
    · have h := h.2 c
      refine x_aload_nN rfl rfl ?_
      refine x_iload_n rfl rfl ?_
      refine x_iload_n rfl rfl ?_
      exact h.elim
