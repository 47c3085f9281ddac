theorem s_S_feed_0 {d : Nat} {D : xD} {Q : Option Value → xD → Prop} {a0 : Nat} {x1 : Int32} {x2 : Int32} {x3 : Int32} {x4 : Int32} {x5 : Int32} (k0 : xk a0 = 0) (h : xCi d m_Row_size [.ref ((a0 + 1) + 1)] D (fun r2 D1 => ((r2 + (20 : Int32)) ≤ (600 : Int32) → xCv d m_S_write [.ref a0, .int x1] D1 (fun D3 => xCv d m_S_write [.ref a0, .int x2] D3 (fun D4 => xCv d m_S_write [.ref a0, .int x3] D4 (fun D5 => xCv d m_S_write [.ref a0, .int x4] D5 (fun D6 => xCv d m_S_write [.ref a0, .int x5] D6 (fun D7 => xCi d m_Row_size [.ref ((a0 + 1) + 1)] D7 (fun r9 D8 => Q (some (.int r9)) D8))))))) ∧ (¬ (r2 + (20 : Int32)) ≤ (600 : Int32) → Q (some (.int (-1 : Int32))) D1))) : xPf (d + 1) m_S_feed 0 [(0, .ref a0), (1, .int x1), (2, .int x2), (3, .int x3), (4, .int x4), (5, .int x5)] [] D Q := by
  refine x_aload_n rfl rfl ?_
  refine x_gR lf_S_10 k0 rfl rfl ?_
  refine x_gR lf_S_75 (ck_0_0 k0) rfl rfl ?_
  refine x_vi lm_S_78 vf_Row_size (ck_1_0 (ck_0_0 k0)) rfl rfl (Nat.le_of_ble_eq_true rfl) rfl h (fun r2 D1 h => ?_)
  refine x_bipush (v := (20 : Int32)) rfl rfl ?_
  refine x_iadd rfl ?_
  refine x_sipush (v := (600 : Int32)) rfl rfl ?_
  refine x_icmp_le (tgt := 21) rfl rfl (fun c => ?_) (fun c => ?_)
  · have h := h.1 c
    refine x_aload_n rfl rfl ?_
    refine x_iload_n rfl rfl ?_
    refine x_vv lm_S_82 vf_S_write k0 rfl rfl (Nat.le_of_ble_eq_true rfl) rfl h (fun D3 h => ?_)
    refine x_aload_n rfl rfl ?_
    refine x_iload_n rfl rfl ?_
    refine x_vv lm_S_82 vf_S_write k0 rfl rfl (Nat.le_of_ble_eq_true rfl) rfl h (fun D4 h => ?_)
    refine x_aload_n rfl rfl ?_
    refine x_iload_n rfl rfl ?_
    refine x_vv lm_S_82 vf_S_write k0 rfl rfl (Nat.le_of_ble_eq_true rfl) rfl h (fun D5 h => ?_)
    refine x_aload_n rfl rfl ?_
    refine x_iload rfl rfl ?_
    refine x_vv lm_S_82 vf_S_write k0 rfl rfl (Nat.le_of_ble_eq_true rfl) rfl h (fun D6 h => ?_)
    refine x_aload_n rfl rfl ?_
    refine x_iload rfl rfl ?_
    refine x_vv lm_S_82 vf_S_write k0 rfl rfl (Nat.le_of_ble_eq_true rfl) rfl h (fun D7 h => ?_)
    refine x_aload_n rfl rfl ?_
    refine x_gR lf_S_10 k0 rfl rfl ?_
    refine x_gR lf_S_75 (ck_0_0 k0) rfl rfl ?_
    refine x_vi lm_S_78 vf_Row_size (ck_1_0 (ck_0_0 k0)) rfl rfl (Nat.le_of_ble_eq_true rfl) rfl h (fun r9 D8 h => ?_)
    exact x_iret rfl rfl h
  · have h := h.2 c
    refine x_iconst (v := (-1 : Int32)) rfl rfl ?_
    exact x_iret rfl rfl h
theorem s_S_write_0 {d : Nat} {D : xD} {Q : Option Value → xD → Prop} {a0 : Nat} {x1 : Int32} (k0 : xk a0 = 0) (h : xPf (d + 1) m_S_write 3 [(0, .ref a0), (1, .int x1), (2, .int (24 : Int32))] [] D Q) : xPf (d + 1) m_S_write 0 [(0, .ref a0), (1, .int x1)] [] D Q := by
  refine x_bipush (v := (24 : Int32)) rfl rfl ?_
  refine x_istore_n (i := 2) (L1 := [(2, .int (24 : Int32)), (0, .ref a0), (1, .int x1)]) rfl rfl (Nat.le_of_ble_eq_true rfl) rfl ?_
  exact xP_sub [1, 2, 0] rfl h
theorem s_S_write_3 {d : Nat} {D : xD} {Q : Option Value → xD → Prop} {a0 : Nat} {x1 : Int32} {x2 : Int32} (k0 : xk a0 = 0) (h : (x2 < 0 → Q none D) ∧ (¬ x2 < 0 → xCv d m_Row_push [.ref ((a0 + 1) + 1), .int (((x1.toUInt32 >>> (x2.toUInt32 &&& Int32.toUInt32 31)).toInt32) &&& (255 : Int32))] D (fun D1 => xPf (d + 1) m_S_write 3 [(0, .ref a0), (1, .int x1), (2, .int (x2 + (-8 : Int32)))] [] D1 Q))) : xPf (d + 1) m_S_write 3 [(0, .ref a0), (1, .int x1), (2, .int x2)] [] D Q := by
  refine x_iload_n rfl rfl ?_
  refine x_if_lt (tgt := 30) rfl rfl (fun c => ?_) (fun c => ?_)
  · have h := h.1 c
    exact x_vret rfl rfl h
  · have h := h.2 c
    refine x_aload_n rfl rfl ?_
    refine x_gR lf_S_10 k0 rfl rfl ?_
    refine x_gR lf_S_75 (ck_0_0 k0) rfl rfl ?_
    refine x_iload_n rfl rfl ?_
    refine x_iload_n rfl rfl ?_
    refine x_iushr rfl ?_
    refine x_sipush (v := (255 : Int32)) rfl rfl ?_
    refine x_iand rfl ?_
    refine x_vv lm_S_85 vf_Row_push (ck_1_0 (ck_0_0 k0)) rfl rfl (Nat.le_of_ble_eq_true rfl) rfl h (fun D1 h => ?_)
    refine x_iinc (i := 2) (v := x2 + (-8 : Int32)) (L1 := [(2, .int (x2 + (-8 : Int32))), (0, .ref a0), (1, .int x1)]) rfl rfl rfl (Nat.le_of_ble_eq_true rfl) rfl ?_
    refine x_goto (tgt := 3) rfl rfl ?_
    exact xP_sub [1, 2, 0] rfl h
theorem s_S_end_0 {d : Nat} {D : xD} {Q : Option Value → xD → Prop} {a0 : Nat} {x1 : Int32} (k0 : xk a0 = 0) (h : (x1 < 0 → Q (some (.int (-1 : Int32))) D) ∧ (¬ x1 < 0 → xCi d m_Row_size [.ref ((a0 + 1) + 1)] D (fun r2 D1 => (x1 ≤ r2 → xCv d m_Row_cut [.ref ((a0 + 1) + 1), .int x1] D1 (fun D3 => Q (some (.int x1)) D3)) ∧ (¬ x1 ≤ r2 → Q (some (.int (-1 : Int32))) D1)))) : xPf (d + 1) m_S_end 0 [(0, .ref a0), (1, .int x1)] [] D Q := by
  refine x_iload_n rfl rfl ?_
  refine x_if_lt (tgt := 18) rfl rfl (fun c => ?_) (fun c => ?_)
  · have h := h.1 c
    refine x_iconst (v := (-1 : Int32)) rfl rfl ?_
    exact x_iret rfl rfl h
  · have h := h.2 c
    refine x_iload_n rfl rfl ?_
    refine x_aload_n rfl rfl ?_
    refine x_gR lf_S_10 k0 rfl rfl ?_
    refine x_gR lf_S_75 (ck_0_0 k0) rfl rfl ?_
    refine x_vi lm_S_78 vf_Row_size (ck_1_0 (ck_0_0 k0)) rfl rfl (Nat.le_of_ble_eq_true rfl) rfl h (fun r2 D1 h => ?_)
    refine x_icmp_le (tgt := 20) rfl rfl (fun c => ?_) (fun c => ?_)
    · have h := h.1 c
      refine x_aload_n rfl rfl ?_
      refine x_gR lf_S_10 k0 rfl rfl ?_
      refine x_gR lf_S_75 (ck_0_0 k0) rfl rfl ?_
      refine x_iload_n rfl rfl ?_
      refine x_vv lm_S_88 vf_Row_cut (ck_1_0 (ck_0_0 k0)) rfl rfl (Nat.le_of_ble_eq_true rfl) rfl h (fun D3 h => ?_)
      refine x_iload_n rfl rfl ?_
      exact x_iret rfl rfl h
    · have h := h.2 c
      refine x_iconst (v := (-1 : Int32)) rfl rfl ?_
      exact x_iret rfl rfl h
theorem s_S_text_0 {d : Nat} {D : xD} {Q : Option Value → xD → Prop} {a0 : Nat} {x1 : Int32} {x2 : Int32} (k0 : xk a0 = 0) (h : xCi d m_Told_howMany [.ref (a0 + 1), .int x1] D (fun r2 D1 => (¬ x2 = (-1 : Int32) → ∀ D3 : xD, D3 = (xu D1.1 (a0 + 1) 3 (0 : Int32), D1.2) → ∀ D4 : xD, D4 = (xu D3.1 (a0 + 1) 4 (-1 : Int32), D3.2) → (r2 = (-2 : Int32) → xCv d m_Row_clear [.ref ((a0 + 1) + 1)] D4 (fun D5 => Q (some (.int (-2 : Int32))) D5)) ∧ (¬ r2 = (-2 : Int32) → (x2 < 0 → xCv d m_Row_clear [.ref ((a0 + 1) + 1)] D4 (fun D6 => Q (some (.int (-2 : Int32))) D6)) ∧ (¬ x2 < 0 → ((2 : Int32) ≤ x2 → xCv d m_Row_clear [.ref ((a0 + 1) + 1)] D4 (fun D7 => Q (some (.int (-2 : Int32))) D7)) ∧ (¬ (2 : Int32) ≤ x2 → (x2 < r2 → xCv d m_Reader_read [.ref (a0 + 180), .ref ((a0 + 1) + 1), .int x1] D4 (fun D8 => xCv d m_Row_clear [.ref ((a0 + 1) + 1)] D8 (fun D9 => ∀ D10 : xD, D10 = (xu D9.1 (a0 + 1) 3 (D9.1 (a0 + 180) 9), D9.2) → ∀ D11 : xD, D11 = (xu D10.1 (a0 + 1) 4 (D10.1 (a0 + 180) 10), D10.2) → ((D11.1 (a0 + 1) 3) = 0 → xCv d m_Told_keep [.ref (a0 + 1), .int x1, .int x2, .ref ((a0 + 180) + 3)] D11 (fun D12 => Q (some (.int x2)) D12)) ∧ (¬ (D11.1 (a0 + 1) 3) = 0 → Q (some (.int (-1 : Int32))) D11)))) ∧ (¬ x2 < r2 → xCv d m_Row_clear [.ref ((a0 + 1) + 1)] D4 (fun D13 => Q (some (.int (-2 : Int32))) D13)))))) ∧ (x2 = (-1 : Int32) → ∀ D14 : xD, D14 = (xu D1.1 (a0 + 1) 3 (0 : Int32), D1.2) → ∀ D15 : xD, D15 = (xu D14.1 (a0 + 1) 4 (-1 : Int32), D14.2) → (r2 = (-2 : Int32) → xCv d m_Row_clear [.ref ((a0 + 1) + 1)] D15 (fun D16 => Q (some (.int (-2 : Int32))) D16)) ∧ (¬ r2 = (-2 : Int32) → (r2 < 0 → xCv d m_Row_clear [.ref ((a0 + 1) + 1)] D15 (fun D17 => Q (some (.int (-2 : Int32))) D17)) ∧ (¬ r2 < 0 → ((2 : Int32) ≤ r2 → xCv d m_Row_clear [.ref ((a0 + 1) + 1)] D15 (fun D18 => Q (some (.int (-2 : Int32))) D18)) ∧ (¬ (2 : Int32) ≤ r2 → (x2 < r2 → xCv d m_Reader_read [.ref (a0 + 180), .ref ((a0 + 1) + 1), .int x1] D15 (fun D19 => xCv d m_Row_clear [.ref ((a0 + 1) + 1)] D19 (fun D20 => ∀ D21 : xD, D21 = (xu D20.1 (a0 + 1) 3 (D20.1 (a0 + 180) 9), D20.2) → ∀ D22 : xD, D22 = (xu D21.1 (a0 + 1) 4 (D21.1 (a0 + 180) 10), D21.2) → ((D22.1 (a0 + 1) 3) = 0 → xCv d m_Told_keep [.ref (a0 + 1), .int x1, .int r2, .ref ((a0 + 180) + 3)] D22 (fun D23 => Q (some (.int r2)) D23)) ∧ (¬ (D22.1 (a0 + 1) 3) = 0 → Q (some (.int (-1 : Int32))) D22)))) ∧ (¬ x2 < r2 → xCv d m_Row_clear [.ref ((a0 + 1) + 1)] D15 (fun D24 => Q (some (.int (-2 : Int32))) D24)))))))) : xPf (d + 1) m_S_text 0 [(0, .ref a0), (1, .int x1), (2, .int x2)] [] D Q := by
  refine x_aload_n rfl rfl ?_
  refine x_gR lf_S_10 k0 rfl rfl ?_
  refine x_iload_n rfl rfl ?_
  refine x_vi lm_S_91 vf_Told_howMany (ck_0_0 k0) rfl rfl (Nat.le_of_ble_eq_true rfl) rfl h (fun r2 D1 h => ?_)
  refine x_istore_n (i := 3) (L1 := [(3, .int r2), (0, .ref a0), (1, .int x1), (2, .int x2)]) rfl rfl (Nat.le_of_ble_eq_true rfl) rfl ?_
  refine x_iload_n rfl rfl ?_
  refine x_iconst (v := (-1 : Int32)) rfl rfl ?_
  refine x_icmp_ne (tgt := 18) rfl rfl (fun c => ?_) (fun c => ?_)
  · have h := h.1 c
    refine x_iload_n rfl rfl ?_
    refine x_istore (i := 4) (L1 := [(4, .int x2), (3, .int r2), (0, .ref a0), (1, .int x1), (2, .int x2)]) rfl (Nat.le_of_ble_eq_true rfl) rfl ?_
    refine x_aload_n rfl rfl ?_
    refine x_gR lf_S_10 k0 rfl rfl ?_
    refine x_iconst (v := (0 : Int32)) rfl rfl ?_
    refine x_pIn lp_S_95 nf_1_3 (ck_0_0 k0) rfl rfl (fun D3 eD3 => ?_)
    have h := h D3 eD3
    refine x_aload_n rfl rfl ?_
    refine x_gR lf_S_10 k0 rfl rfl ?_
    refine x_iconst (v := (-1 : Int32)) rfl rfl ?_
    refine x_pIn lp_S_99 nf_1_4 (ck_0_0 k0) rfl rfl (fun D4 eD4 => ?_)
    have h := h D4 eD4
    refine x_iload_n rfl rfl ?_
    refine x_bipush (v := (-2 : Int32)) rfl rfl ?_
    refine x_icmp_eq (tgt := 59) rfl rfl (fun c => ?_) (fun c => ?_)
    · have h := h.1 c
      refine x_aload_n rfl rfl ?_
      refine x_gR lf_S_10 k0 rfl rfl ?_
      refine x_gR lf_S_75 (ck_0_0 k0) rfl rfl ?_
      refine x_vv lm_S_102 vf_Row_clear (ck_1_0 (ck_0_0 k0)) rfl rfl (Nat.le_of_ble_eq_true rfl) rfl h (fun D5 h => ?_)
      refine x_bipush (v := (-2 : Int32)) rfl rfl ?_
      exact x_iret rfl rfl h
    · have h := h.2 c
      refine x_iload rfl rfl ?_
      refine x_if_lt (tgt := 59) rfl rfl (fun c => ?_) (fun c => ?_)
      · have h := h.1 c
        refine x_aload_n rfl rfl ?_
        refine x_gR lf_S_10 k0 rfl rfl ?_
        refine x_gR lf_S_75 (ck_0_0 k0) rfl rfl ?_
        refine x_vv lm_S_102 vf_Row_clear (ck_1_0 (ck_0_0 k0)) rfl rfl (Nat.le_of_ble_eq_true rfl) rfl h (fun D6 h => ?_)
        refine x_bipush (v := (-2 : Int32)) rfl rfl ?_
        exact x_iret rfl rfl h
      · have h := h.2 c
        refine x_iload rfl rfl ?_
        refine x_iconst (v := (2 : Int32)) rfl rfl ?_
        refine x_icmp_ge (tgt := 59) rfl rfl (fun c => ?_) (fun c => ?_)
        · have h := h.1 c
          refine x_aload_n rfl rfl ?_
          refine x_gR lf_S_10 k0 rfl rfl ?_
          refine x_gR lf_S_75 (ck_0_0 k0) rfl rfl ?_
          refine x_vv lm_S_102 vf_Row_clear (ck_1_0 (ck_0_0 k0)) rfl rfl (Nat.le_of_ble_eq_true rfl) rfl h (fun D7 h => ?_)
          refine x_bipush (v := (-2 : Int32)) rfl rfl ?_
          exact x_iret rfl rfl h
        · have h := h.2 c
          refine x_iload_n rfl rfl ?_
          refine x_iload_n rfl rfl ?_
          refine x_icmp_lt (tgt := 72) rfl rfl (fun c => ?_) (fun c => ?_)
          · have h := h.1 c
            refine x_aload_n rfl rfl ?_
            refine x_gR lf_S_32 k0 rfl rfl ?_
            refine x_aload_n rfl rfl ?_
            refine x_gR lf_S_10 k0 rfl rfl ?_
            refine x_gR lf_S_75 (ck_0_0 k0) rfl rfl ?_
            refine x_iload_n rfl rfl ?_
            refine x_vv lm_S_105 vf_Reader_read (ck_0_3 k0) rfl rfl (Nat.le_of_ble_eq_true rfl) rfl h (fun D8 h => ?_)
            refine x_aload_n rfl rfl ?_
            refine x_gR lf_S_10 k0 rfl rfl ?_
            refine x_gR lf_S_75 (ck_0_0 k0) rfl rfl ?_
            refine x_vv lm_S_102 vf_Row_clear (ck_1_0 (ck_0_0 k0)) rfl rfl (Nat.le_of_ble_eq_true rfl) rfl h (fun D9 h => ?_)
            refine x_aload_n rfl rfl ?_
            refine x_gR lf_S_10 k0 rfl rfl ?_
            refine x_aload_n rfl rfl ?_
            refine x_gR lf_S_32 k0 rfl rfl ?_
            refine x_gI lf_S_109 (ck_0_3 k0) rfl rfl ?_
            refine x_pIn lp_S_95 nf_1_3 (ck_0_0 k0) rfl rfl (fun D10 eD10 => ?_)
            have h := h D10 eD10
            refine x_aload_n rfl rfl ?_
            refine x_gR lf_S_10 k0 rfl rfl ?_
            refine x_aload_n rfl rfl ?_
            refine x_gR lf_S_32 k0 rfl rfl ?_
            refine x_gI lf_S_110 (ck_0_3 k0) rfl rfl ?_
            refine x_pIn lp_S_99 nf_1_4 (ck_0_0 k0) rfl rfl (fun D11 eD11 => ?_)
            have h := h D11 eD11
            refine x_aload_n rfl rfl ?_
            refine x_gR lf_S_10 k0 rfl rfl ?_
            refine x_gI lf_S_95 (ck_0_0 k0) rfl rfl ?_
            refine x_if_eq (tgt := 137) rfl rfl (fun c => ?_) (fun c => ?_)
            · have h := h.1 c
              refine x_aload_n rfl rfl ?_
              refine x_gR lf_S_10 k0 rfl rfl ?_
              refine x_iload_n rfl rfl ?_
              refine x_iload rfl rfl ?_
              refine x_aload_n rfl rfl ?_
              refine x_gR lf_S_32 k0 rfl rfl ?_
              refine x_gR lf_S_111 (ck_0_3 k0) rfl rfl ?_
              refine x_vv lm_S_115 vf_Told_keep (ck_0_0 k0) rfl rfl (Nat.le_of_ble_eq_true rfl) rfl h (fun D12 h => ?_)
              refine x_iload rfl rfl ?_
              exact x_iret rfl rfl h
            · have h := h.2 c
              refine x_iconst (v := (-1 : Int32)) rfl rfl ?_
              exact x_iret rfl rfl h
          · have h := h.2 c
            refine x_aload_n rfl rfl ?_
            refine x_gR lf_S_10 k0 rfl rfl ?_
            refine x_gR lf_S_75 (ck_0_0 k0) rfl rfl ?_
            refine x_vv lm_S_102 vf_Row_clear (ck_1_0 (ck_0_0 k0)) rfl rfl (Nat.le_of_ble_eq_true rfl) rfl h (fun D13 h => ?_)
            refine x_bipush (v := (-2 : Int32)) rfl rfl ?_
            exact x_iret rfl rfl h
  · have h := h.2 c
    refine x_iload_n rfl rfl ?_
    refine x_goto (tgt := 19) rfl rfl ?_
    refine x_istore (i := 4) (L1 := [(4, .int r2), (3, .int r2), (0, .ref a0), (1, .int x1), (2, .int x2)]) rfl (Nat.le_of_ble_eq_true rfl) rfl ?_
    refine x_aload_n rfl rfl ?_
    refine x_gR lf_S_10 k0 rfl rfl ?_
    refine x_iconst (v := (0 : Int32)) rfl rfl ?_
    refine x_pIn lp_S_95 nf_1_3 (ck_0_0 k0) rfl rfl (fun D14 eD14 => ?_)
    have h := h D14 eD14
    refine x_aload_n rfl rfl ?_
    refine x_gR lf_S_10 k0 rfl rfl ?_
    refine x_iconst (v := (-1 : Int32)) rfl rfl ?_
    refine x_pIn lp_S_99 nf_1_4 (ck_0_0 k0) rfl rfl (fun D15 eD15 => ?_)
    have h := h D15 eD15
    refine x_iload_n rfl rfl ?_
    refine x_bipush (v := (-2 : Int32)) rfl rfl ?_
    refine x_icmp_eq (tgt := 59) rfl rfl (fun c => ?_) (fun c => ?_)
    · have h := h.1 c
      refine x_aload_n rfl rfl ?_
      refine x_gR lf_S_10 k0 rfl rfl ?_
      refine x_gR lf_S_75 (ck_0_0 k0) rfl rfl ?_
      refine x_vv lm_S_102 vf_Row_clear (ck_1_0 (ck_0_0 k0)) rfl rfl (Nat.le_of_ble_eq_true rfl) rfl h (fun D16 h => ?_)
      refine x_bipush (v := (-2 : Int32)) rfl rfl ?_
      exact x_iret rfl rfl h
    · have h := h.2 c
      refine x_iload rfl rfl ?_
      refine x_if_lt (tgt := 59) rfl rfl (fun c => ?_) (fun c => ?_)
      · have h := h.1 c
        refine x_aload_n rfl rfl ?_
        refine x_gR lf_S_10 k0 rfl rfl ?_
        refine x_gR lf_S_75 (ck_0_0 k0) rfl rfl ?_
        refine x_vv lm_S_102 vf_Row_clear (ck_1_0 (ck_0_0 k0)) rfl rfl (Nat.le_of_ble_eq_true rfl) rfl h (fun D17 h => ?_)
        refine x_bipush (v := (-2 : Int32)) rfl rfl ?_
        exact x_iret rfl rfl h
      · have h := h.2 c
        refine x_iload rfl rfl ?_
        refine x_iconst (v := (2 : Int32)) rfl rfl ?_
        refine x_icmp_ge (tgt := 59) rfl rfl (fun c => ?_) (fun c => ?_)
        · have h := h.1 c
          refine x_aload_n rfl rfl ?_
          refine x_gR lf_S_10 k0 rfl rfl ?_
          refine x_gR lf_S_75 (ck_0_0 k0) rfl rfl ?_
          refine x_vv lm_S_102 vf_Row_clear (ck_1_0 (ck_0_0 k0)) rfl rfl (Nat.le_of_ble_eq_true rfl) rfl h (fun D18 h => ?_)
          refine x_bipush (v := (-2 : Int32)) rfl rfl ?_
          exact x_iret rfl rfl h
        · have h := h.2 c
          refine x_iload_n rfl rfl ?_
          refine x_iload_n rfl rfl ?_
          refine x_icmp_lt (tgt := 72) rfl rfl (fun c => ?_) (fun c => ?_)
          · have h := h.1 c
            refine x_aload_n rfl rfl ?_
            refine x_gR lf_S_32 k0 rfl rfl ?_
            refine x_aload_n rfl rfl ?_
            refine x_gR lf_S_10 k0 rfl rfl ?_
            refine x_gR lf_S_75 (ck_0_0 k0) rfl rfl ?_
            refine x_iload_n rfl rfl ?_
            refine x_vv lm_S_105 vf_Reader_read (ck_0_3 k0) rfl rfl (Nat.le_of_ble_eq_true rfl) rfl h (fun D19 h => ?_)
            refine x_aload_n rfl rfl ?_
            refine x_gR lf_S_10 k0 rfl rfl ?_
            refine x_gR lf_S_75 (ck_0_0 k0) rfl rfl ?_
            refine x_vv lm_S_102 vf_Row_clear (ck_1_0 (ck_0_0 k0)) rfl rfl (Nat.le_of_ble_eq_true rfl) rfl h (fun D20 h => ?_)
            refine x_aload_n rfl rfl ?_
            refine x_gR lf_S_10 k0 rfl rfl ?_
            refine x_aload_n rfl rfl ?_
            refine x_gR lf_S_32 k0 rfl rfl ?_
            refine x_gI lf_S_109 (ck_0_3 k0) rfl rfl ?_
            refine x_pIn lp_S_95 nf_1_3 (ck_0_0 k0) rfl rfl (fun D21 eD21 => ?_)
            have h := h D21 eD21
            refine x_aload_n rfl rfl ?_
            refine x_gR lf_S_10 k0 rfl rfl ?_
            refine x_aload_n rfl rfl ?_
            refine x_gR lf_S_32 k0 rfl rfl ?_
            refine x_gI lf_S_110 (ck_0_3 k0) rfl rfl ?_
            refine x_pIn lp_S_99 nf_1_4 (ck_0_0 k0) rfl rfl (fun D22 eD22 => ?_)
            have h := h D22 eD22
            refine x_aload_n rfl rfl ?_
            refine x_gR lf_S_10 k0 rfl rfl ?_
            refine x_gI lf_S_95 (ck_0_0 k0) rfl rfl ?_
            refine x_if_eq (tgt := 137) rfl rfl (fun c => ?_) (fun c => ?_)
            · have h := h.1 c
              refine x_aload_n rfl rfl ?_
              refine x_gR lf_S_10 k0 rfl rfl ?_
              refine x_iload_n rfl rfl ?_
              refine x_iload rfl rfl ?_
              refine x_aload_n rfl rfl ?_
              refine x_gR lf_S_32 k0 rfl rfl ?_
              refine x_gR lf_S_111 (ck_0_3 k0) rfl rfl ?_
              refine x_vv lm_S_115 vf_Told_keep (ck_0_0 k0) rfl rfl (Nat.le_of_ble_eq_true rfl) rfl h (fun D23 h => ?_)
              refine x_iload rfl rfl ?_
              exact x_iret rfl rfl h
            · have h := h.2 c
              refine x_iconst (v := (-1 : Int32)) rfl rfl ?_
              exact x_iret rfl rfl h
          · have h := h.2 c
            refine x_aload_n rfl rfl ?_
            refine x_gR lf_S_10 k0 rfl rfl ?_
            refine x_gR lf_S_75 (ck_0_0 k0) rfl rfl ?_
            refine x_vv lm_S_102 vf_Row_clear (ck_1_0 (ck_0_0 k0)) rfl rfl (Nat.le_of_ble_eq_true rfl) rfl h (fun D24 h => ?_)
            refine x_bipush (v := (-2 : Int32)) rfl rfl ?_
            exact x_iret rfl rfl h
theorem s_S_fault_0 {d : Nat} {D : xD} {Q : Option Value → xD → Prop} {a0 : Nat} {x1 : Int32} (k0 : xk a0 = 0) (h : (¬ x1 = 0 → (¬ x1 = (1 : Int32) → Q (some (.int (-1 : Int32))) D) ∧ (x1 = (1 : Int32) → Q (some (.int (D.1 (a0 + 1) 4))) D)) ∧ (x1 = 0 → Q (some (.int (D.1 (a0 + 1) 3))) D)) : xPf (d + 1) m_S_fault 0 [(0, .ref a0), (1, .int x1)] [] D Q := by
  refine x_iload_n rfl rfl ?_
  refine x_if_ne (tgt := 12) rfl rfl (fun c => ?_) (fun c => ?_)
  · have h := h.1 c
    refine x_iload_n rfl rfl ?_
    refine x_iconst (v := (1 : Int32)) rfl rfl ?_
    refine x_icmp_ne (tgt := 27) rfl rfl (fun c => ?_) (fun c => ?_)
    · have h := h.1 c
      refine x_iconst (v := (-1 : Int32)) rfl rfl ?_
      exact x_iret rfl rfl h
    · have h := h.2 c
      refine x_aload_n rfl rfl ?_
      refine x_gR lf_S_10 k0 rfl rfl ?_
      refine x_gI lf_S_99 (ck_0_0 k0) rfl rfl ?_
      refine x_goto (tgt := 28) rfl rfl ?_
      exact x_iret rfl rfl h
  · have h := h.2 c
    refine x_aload_n rfl rfl ?_
    refine x_gR lf_S_10 k0 rfl rfl ?_
    refine x_gI lf_S_95 (ck_0_0 k0) rfl rfl ?_
    exact x_iret rfl rfl h
theorem s_S_table_0 {d : Nat} {D : xD} {Q : Option Value → xD → Prop} {a0 : Nat} {x1 : Int32} {x2 : Int32} (k0 : xk a0 = 0) (h : xCq d m_S_tableAt [.ref a0, .int x1] D (fun o2 D1 => (o2 = none → Q (some (.int (-1 : Int32))) D1) ∧ (∀ b3, o2 = some b3 → xk b3 = 4 ∧ (x2 < 0 → Q (some (.int (-1 : Int32))) D1) ∧ (¬ x2 < 0 → (x2 < (6 : Int32) → xCi d m_Table_number [.ref b3, .int x2] D1 (fun r6 D5 => Q (some (.int r6)) D5)) ∧ (¬ x2 < (6 : Int32) → Q (some (.int (-1 : Int32))) D1))))) : xPf (d + 1) m_S_table 0 [(0, .ref a0), (1, .int x1), (2, .int x2)] [] D Q := by
  refine x_aload_n rfl rfl ?_
  refine x_iload_n rfl rfl ?_
  refine x_vq lm_S_119 vf_S_tableAt k0 rfl rfl (Nat.le_of_ble_eq_true rfl) rfl h (fun D1 h => ?_) (fun b3 D1 h => ?_)
  · have h := h.1 rfl
    refine x_astore_nN (i := 3) (L1 := [(3, .null), (0, .ref a0), (1, .int x1), (2, .int x2)]) rfl rfl (Nat.le_of_ble_eq_true rfl) rfl ?_
    refine x_aload_nN rfl rfl ?_
    refine x_ifnullN (tgt := 20) rfl rfl ?_
    refine x_iconst (v := (-1 : Int32)) rfl rfl ?_
    refine x_goto (tgt := 29) rfl rfl ?_
    exact x_iret rfl rfl h
  · obtain ⟨k4, h⟩ := h.2 b3 rfl
    refine x_astore_n (i := 3) (L1 := [(3, .ref b3), (0, .ref a0), (1, .int x1), (2, .int x2)]) rfl rfl (Nat.le_of_ble_eq_true rfl) rfl ?_
    refine x_aload_n rfl rfl ?_
    refine x_ifnull rfl ?_
    refine x_iload_n rfl rfl ?_
    refine x_if_lt (tgt := 20) rfl rfl (fun c => ?_) (fun c => ?_)
    · have h := h.1 c
      refine x_iconst (v := (-1 : Int32)) rfl rfl ?_
      refine x_goto (tgt := 29) rfl rfl ?_
      exact x_iret rfl rfl h
    · have h := h.2 c
      refine x_iload_n rfl rfl ?_
      refine x_bipush (v := (6 : Int32)) rfl rfl ?_
      refine x_icmp_lt (tgt := 24) rfl rfl (fun c => ?_) (fun c => ?_)
      · have h := h.1 c
        refine x_aload_n rfl rfl ?_
        refine x_iload_n rfl rfl ?_
        refine x_vi lm_S_123 vf_Table_number k4 rfl rfl (Nat.le_of_ble_eq_true rfl) rfl h (fun r6 D5 h => ?_)
        exact x_iret rfl rfl h
      · have h := h.2 c
        refine x_iconst (v := (-1 : Int32)) rfl rfl ?_
        refine x_goto (tgt := 29) rfl rfl ?_
        exact x_iret rfl rfl h
theorem s_S_person_0 {d : Nat} {D : xD} {Q : Option Value → xD → Prop} {a0 : Nat} {x1 : Int32} {x2 : Int32} {x3 : Int32} (k0 : xk a0 = 0) (h : xCq d m_S_tableAt [.ref a0, .int x1] D (fun o2 D1 => (o2 = none → Q (some (.int (-2 : Int32))) D1) ∧ (∀ b3, o2 = some b3 → xk b3 = 4 ∧ xCi d m_Table_has [.ref b3, .int x2] D1 (fun r6 D5 => (r6 = 0 → Q (some (.int (-2 : Int32))) D5) ∧ (¬ r6 = 0 → (x3 < 0 → Q (some (.int (-2 : Int32))) D5) ∧ (¬ x3 < 0 → (x3 < (7 : Int32) → xCi d m_Table_of [.ref b3, .int x2, .int x3] D5 (fun r8 D7 => Q (some (.int r8)) D7)) ∧ (¬ x3 < (7 : Int32) → Q (some (.int (-2 : Int32))) D5))))))) : xPf (d + 1) m_S_person 0 [(0, .ref a0), (1, .int x1), (2, .int x2), (3, .int x3)] [] D Q := by
  refine x_aload_n rfl rfl ?_
  refine x_iload_n rfl rfl ?_
  refine x_vq lm_S_119 vf_S_tableAt k0 rfl rfl (Nat.le_of_ble_eq_true rfl) rfl h (fun D1 h => ?_) (fun b3 D1 h => ?_)
  · have h := h.1 rfl
    refine x_astoreN (i := 4) (L1 := [(4, .null), (0, .ref a0), (1, .int x1), (2, .int x2), (3, .int x3)]) rfl (Nat.le_of_ble_eq_true rfl) rfl ?_
    refine x_aloadN rfl rfl ?_
    refine x_ifnullN (tgt := 31) rfl rfl ?_
    refine x_bipush (v := (-2 : Int32)) rfl rfl ?_
    exact x_iret rfl rfl h
  · obtain ⟨k4, h⟩ := h.2 b3 rfl
    refine x_astore (i := 4) (L1 := [(4, .ref b3), (0, .ref a0), (1, .int x1), (2, .int x2), (3, .int x3)]) rfl (Nat.le_of_ble_eq_true rfl) rfl ?_
    refine x_aload rfl rfl ?_
    refine x_ifnull rfl ?_
    refine x_aload rfl rfl ?_
    refine x_iload_n rfl rfl ?_
    refine x_vi lm_S_128 vf_Table_has k4 rfl rfl (Nat.le_of_ble_eq_true rfl) rfl h (fun r6 D5 h => ?_)
    refine x_if_eq (tgt := 31) rfl rfl (fun c => ?_) (fun c => ?_)
    · have h := h.1 c
      refine x_bipush (v := (-2 : Int32)) rfl rfl ?_
      exact x_iret rfl rfl h
    · have h := h.2 c
      refine x_iload_n rfl rfl ?_
      refine x_if_lt (tgt := 31) rfl rfl (fun c => ?_) (fun c => ?_)
      · have h := h.1 c
        refine x_bipush (v := (-2 : Int32)) rfl rfl ?_
        exact x_iret rfl rfl h
      · have h := h.2 c
        refine x_iload_n rfl rfl ?_
        refine x_bipush (v := (7 : Int32)) rfl rfl ?_
        refine x_icmp_lt (tgt := 34) rfl rfl (fun c => ?_) (fun c => ?_)
        · have h := h.1 c
          refine x_aload rfl rfl ?_
          refine x_iload_n rfl rfl ?_
          refine x_iload_n rfl rfl ?_
          refine x_vi lm_S_132 vf_Table_of k4 rfl rfl (Nat.le_of_ble_eq_true rfl) rfl h (fun r8 D7 h => ?_)
          exact x_iret rfl rfl h
        · have h := h.2 c
          refine x_bipush (v := (-2 : Int32)) rfl rfl ?_
          exact x_iret rfl rfl h
theorem s_S_card_0 {d : Nat} {D : xD} {Q : Option Value → xD → Prop} {a0 : Nat} {x1 : Int32} {x2 : Int32} (k0 : xk a0 = 0) (h : xCq d m_S_heapAt [.ref a0, .int x1] D (fun o2 D1 => (o2 = none → Q (some (.int (-2 : Int32))) D1) ∧ (∀ b3, o2 = some b3 → xk b3 = 2 ∧ (¬ x2 = (-1 : Int32) → xCi d m_Row_reaches [.ref b3, .int x2] D1 (fun r6 D5 => (r6 = 0 → Q (some (.int (-2 : Int32))) D5) ∧ (¬ r6 = 0 → xCi d m_Row_get [.ref b3, .int x2] D5 (fun r8 D7 => Q (some (.int r8)) D7)))) ∧ (x2 = (-1 : Int32) → xCi d m_Row_size [.ref b3] D1 (fun r10 D9 => Q (some (.int r10)) D9))))) : xPf (d + 1) m_S_card 0 [(0, .ref a0), (1, .int x1), (2, .int x2)] [] D Q := by
  refine x_aload_n rfl rfl ?_
  refine x_iload_n rfl rfl ?_
  refine x_vq lm_S_136 vf_S_heapAt k0 rfl rfl (Nat.le_of_ble_eq_true rfl) rfl h (fun D1 h => ?_) (fun b3 D1 h => ?_)
  · have h := h.1 rfl
    refine x_astore_nN (i := 3) (L1 := [(3, .null), (0, .ref a0), (1, .int x1), (2, .int x2)]) rfl rfl (Nat.le_of_ble_eq_true rfl) rfl ?_
    refine x_aload_nN rfl rfl ?_
    refine x_ifnonnullN rfl ?_
    refine x_bipush (v := (-2 : Int32)) rfl rfl ?_
    exact x_iret rfl rfl h
  · obtain ⟨k4, h⟩ := h.2 b3 rfl
    refine x_astore_n (i := 3) (L1 := [(3, .ref b3), (0, .ref a0), (1, .int x1), (2, .int x2)]) rfl rfl (Nat.le_of_ble_eq_true rfl) rfl ?_
    refine x_aload_n rfl rfl ?_
    refine x_ifnonnull (tgt := 13) rfl rfl ?_
    refine x_iload_n rfl rfl ?_
    refine x_iconst (v := (-1 : Int32)) rfl rfl ?_
    refine x_icmp_ne (tgt := 23) rfl rfl (fun c => ?_) (fun c => ?_)
    · have h := h.1 c
      refine x_aload_n rfl rfl ?_
      refine x_iload_n rfl rfl ?_
      refine x_vi lm_S_140 vf_Row_reaches k4 rfl rfl (Nat.le_of_ble_eq_true rfl) rfl h (fun r6 D5 h => ?_)
      refine x_if_eq (tgt := 39) rfl rfl (fun c => ?_) (fun c => ?_)
      · have h := h.1 c
        refine x_bipush (v := (-2 : Int32)) rfl rfl ?_
        exact x_iret rfl rfl h
      · have h := h.2 c
        refine x_aload_n rfl rfl ?_
        refine x_iload_n rfl rfl ?_
        refine x_vi lm_S_143 vf_Row_get k4 rfl rfl (Nat.le_of_ble_eq_true rfl) rfl h (fun r8 D7 h => ?_)
        refine x_goto (tgt := 41) rfl rfl ?_
        exact x_iret rfl rfl h
    · have h := h.2 c
      refine x_aload_n rfl rfl ?_
      refine x_vi lm_S_78 vf_Row_size k4 rfl rfl (Nat.le_of_ble_eq_true rfl) rfl h (fun r10 D9 h => ?_)
      exact x_iret rfl rfl h
theorem s_S_fits_0 {d : Nat} {D : xD} {Q : Option Value → xD → Prop} {a0 : Nat} {x1 : Int32} {x2 : Int32} (k0 : xk a0 = 0) (h : xCq d m_S_tableAt [.ref a0, .int x1] D (fun o2 D1 => (o2 = none → xCq d m_S_heapAt [.ref a0, .int x2] D1 (fun o6 D5 => (o6 = none → Q (some (.int (-1 : Int32))) D5) ∧ (∀ b7, o6 = some b7 → xk b7 = 2 ∧ Q (some (.int (-1 : Int32))) D5))) ∧ (∀ b3, o2 = some b3 → xk b3 = 4 ∧ xCq d m_S_heapAt [.ref a0, .int x2] D1 (fun o10 D9 => (o10 = none → Q (some (.int (-1 : Int32))) D9) ∧ (∀ b11, o10 = some b11 → xk b11 = 2 ∧ xCi d m_Table_suits [.ref b3, .ref b11] D9 (fun r14 D13 => (r14 = 0 → Q (some (.int (0 : Int32))) D13) ∧ (¬ r14 = 0 → Q (some (.int (1 : Int32))) D13))))))) : xPf (d + 1) m_S_fits 0 [(0, .ref a0), (1, .int x1), (2, .int x2)] [] D Q := by
  refine x_aload_n rfl rfl ?_
  refine x_iload_n rfl rfl ?_
  refine x_vq lm_S_119 vf_S_tableAt k0 rfl rfl (Nat.le_of_ble_eq_true rfl) rfl h (fun D1 h => ?_) (fun b3 D1 h => ?_)
  · have h := h.1 rfl
    refine x_astore_nN (i := 3) (L1 := [(3, .null), (0, .ref a0), (1, .int x1), (2, .int x2)]) rfl rfl (Nat.le_of_ble_eq_true rfl) rfl ?_
    refine x_aload_n rfl rfl ?_
    refine x_iload_n rfl rfl ?_
    refine x_vq lm_S_136 vf_S_heapAt k0 rfl rfl (Nat.le_of_ble_eq_true rfl) rfl h (fun D5 h => ?_) (fun b7 D5 h => ?_)
    · have h := h.1 rfl
      refine x_astoreN (i := 4) (L1 := [(4, .null), (3, .null), (0, .ref a0), (1, .int x1), (2, .int x2)]) rfl (Nat.le_of_ble_eq_true rfl) rfl ?_
      refine x_aload_nN rfl rfl ?_
      refine x_ifnullN (tgt := 22) rfl rfl ?_
      refine x_iconst (v := (-1 : Int32)) rfl rfl ?_
      exact x_iret rfl rfl h
    · obtain ⟨k8, h⟩ := h.2 b7 rfl
      refine x_astore (i := 4) (L1 := [(4, .ref b7), (3, .null), (0, .ref a0), (1, .int x1), (2, .int x2)]) rfl (Nat.le_of_ble_eq_true rfl) rfl ?_
      refine x_aload_nN rfl rfl ?_
      refine x_ifnullN (tgt := 22) rfl rfl ?_
      refine x_iconst (v := (-1 : Int32)) rfl rfl ?_
      exact x_iret rfl rfl h
  · obtain ⟨k4, h⟩ := h.2 b3 rfl
    refine x_astore_n (i := 3) (L1 := [(3, .ref b3), (0, .ref a0), (1, .int x1), (2, .int x2)]) rfl rfl (Nat.le_of_ble_eq_true rfl) rfl ?_
    refine x_aload_n rfl rfl ?_
    refine x_iload_n rfl rfl ?_
    refine x_vq lm_S_136 vf_S_heapAt k0 rfl rfl (Nat.le_of_ble_eq_true rfl) rfl h (fun D9 h => ?_) (fun b11 D9 h => ?_)
    · have h := h.1 rfl
      refine x_astoreN (i := 4) (L1 := [(4, .null), (3, .ref b3), (0, .ref a0), (1, .int x1), (2, .int x2)]) rfl (Nat.le_of_ble_eq_true rfl) rfl ?_
      refine x_aload_n rfl rfl ?_
      refine x_ifnull rfl ?_
      refine x_aloadN rfl rfl ?_
      refine x_ifnonnullN rfl ?_
      refine x_iconst (v := (-1 : Int32)) rfl rfl ?_
      exact x_iret rfl rfl h
    · obtain ⟨k12, h⟩ := h.2 b11 rfl
      refine x_astore (i := 4) (L1 := [(4, .ref b11), (3, .ref b3), (0, .ref a0), (1, .int x1), (2, .int x2)]) rfl (Nat.le_of_ble_eq_true rfl) rfl ?_
      refine x_aload_n rfl rfl ?_
      refine x_ifnull rfl ?_
      refine x_aload rfl rfl ?_
      refine x_ifnonnull (tgt := 24) rfl rfl ?_
      refine x_aload_n rfl rfl ?_
      refine x_aload rfl rfl ?_
      refine x_vi lm_S_146 vf_Table_suits k4 rfl rfl (Nat.le_of_ble_eq_true rfl) rfl h (fun r14 D13 h => ?_)
      refine x_if_eq (tgt := 37) rfl rfl (fun c => ?_) (fun c => ?_)
      · have h := h.1 c
        refine x_iconst (v := (0 : Int32)) rfl rfl ?_
        exact x_iret rfl rfl h
      · have h := h.2 c
        refine x_iconst (v := (1 : Int32)) rfl rfl ?_
        refine x_goto (tgt := 38) rfl rfl ?_
        exact x_iret rfl rfl h
theorem s_S_deed_0 {d : Nat} {D : xD} {Q : Option Value → xD → Prop} {a0 : Nat} {x1 : Int32} {x2 : Int32} {x3 : Int32} (k0 : xk a0 = 0) (h : xCq d m_S_bookAt [.ref a0, .int x1] D (fun o2 D1 => (o2 = none → Q (some (.int (-2 : Int32))) D1) ∧ (∀ b3, o2 = some b3 → xk b3 = 2 ∧ xCi d m_Row_size [.ref b3] D1 (fun r6 D5 => (¬ x2 = (-1 : Int32) → (x2 < 0 → Q (some (.int (-2 : Int32))) D5) ∧ (¬ x2 < 0 → ((r6 / (3 : Int32)) ≤ x2 → Q (some (.int (-2 : Int32))) D5) ∧ (¬ (r6 / (3 : Int32)) ≤ x2 → (x3 < 0 → Q (some (.int (-2 : Int32))) D5) ∧ (¬ x3 < 0 → (x3 < (3 : Int32) → xCi d m_Row_get [.ref b3, .int ((x2 * (3 : Int32)) + x3)] D5 (fun r8 D7 => Q (some (.int r8)) D7)) ∧ (¬ x3 < (3 : Int32) → Q (some (.int (-2 : Int32))) D5))))) ∧ (x2 = (-1 : Int32) → (¬ x3 = 0 → Q (some (.int (-2 : Int32))) D5) ∧ (x3 = 0 → Q (some (.int (r6 / (3 : Int32)))) D5)))))) : xPf (d + 1) m_S_deed 0 [(0, .ref a0), (1, .int x1), (2, .int x2), (3, .int x3)] [] D Q := by
  refine x_aload_n rfl rfl ?_
  refine x_iload_n rfl rfl ?_
  refine x_vq lm_S_150 vf_S_bookAt k0 rfl rfl (Nat.le_of_ble_eq_true rfl) rfl h (fun D1 h => ?_) (fun b3 D1 h => ?_)
  · have h := h.1 rfl
    refine x_astoreN (i := 4) (L1 := [(4, .null), (0, .ref a0), (1, .int x1), (2, .int x2), (3, .int x3)]) rfl (Nat.le_of_ble_eq_true rfl) rfl ?_
    refine x_aloadN rfl rfl ?_
    refine x_ifnonnullN rfl ?_
    refine x_bipush (v := (-2 : Int32)) rfl rfl ?_
    exact x_iret rfl rfl h
  · obtain ⟨k4, h⟩ := h.2 b3 rfl
    refine x_astore (i := 4) (L1 := [(4, .ref b3), (0, .ref a0), (1, .int x1), (2, .int x2), (3, .int x3)]) rfl (Nat.le_of_ble_eq_true rfl) rfl ?_
    refine x_aload rfl rfl ?_
    refine x_ifnonnull (tgt := 15) rfl rfl ?_
    refine x_aload rfl rfl ?_
    refine x_vi lm_S_78 vf_Row_size k4 rfl rfl (Nat.le_of_ble_eq_true rfl) rfl h (fun r6 D5 h => ?_)
    refine x_iconst (v := (3 : Int32)) rfl rfl ?_
    refine x_idiv rfl (by decide) ?_
    refine x_istore (i := 5) (L1 := [(5, .int (r6 / (3 : Int32))), (4, .ref b3), (0, .ref a0), (1, .int x1), (2, .int x2), (3, .int x3)]) rfl (Nat.le_of_ble_eq_true rfl) rfl ?_
    refine x_iload_n rfl rfl ?_
    refine x_iconst (v := (-1 : Int32)) rfl rfl ?_
    refine x_icmp_ne (tgt := 41) rfl rfl (fun c => ?_) (fun c => ?_)
    · have h := h.1 c
      refine x_iload_n rfl rfl ?_
      refine x_if_lt (tgt := 60) rfl rfl (fun c => ?_) (fun c => ?_)
      · have h := h.1 c
        refine x_bipush (v := (-2 : Int32)) rfl rfl ?_
        exact x_iret rfl rfl h
      · have h := h.2 c
        refine x_iload_n rfl rfl ?_
        refine x_iload rfl rfl ?_
        refine x_icmp_ge (tgt := 60) rfl rfl (fun c => ?_) (fun c => ?_)
        · have h := h.1 c
          refine x_bipush (v := (-2 : Int32)) rfl rfl ?_
          exact x_iret rfl rfl h
        · have h := h.2 c
          refine x_iload_n rfl rfl ?_
          refine x_if_lt (tgt := 60) rfl rfl (fun c => ?_) (fun c => ?_)
          · have h := h.1 c
            refine x_bipush (v := (-2 : Int32)) rfl rfl ?_
            exact x_iret rfl rfl h
          · have h := h.2 c
            refine x_iload_n rfl rfl ?_
            refine x_iconst (v := (3 : Int32)) rfl rfl ?_
            refine x_icmp_lt (tgt := 63) rfl rfl (fun c => ?_) (fun c => ?_)
            · have h := h.1 c
              refine x_aload rfl rfl ?_
              refine x_iload_n rfl rfl ?_
              refine x_iconst (v := (3 : Int32)) rfl rfl ?_
              refine x_imul rfl ?_
              refine x_iload_n rfl rfl ?_
              refine x_iadd rfl ?_
              refine x_vi lm_S_143 vf_Row_get k4 rfl rfl (Nat.le_of_ble_eq_true rfl) rfl h (fun r8 D7 h => ?_)
              exact x_iret rfl rfl h
            · have h := h.2 c
              refine x_bipush (v := (-2 : Int32)) rfl rfl ?_
              exact x_iret rfl rfl h
    · have h := h.2 c
      refine x_iload_n rfl rfl ?_
      refine x_if_ne (tgt := 38) rfl rfl (fun c => ?_) (fun c => ?_)
      · have h := h.1 c
        refine x_bipush (v := (-2 : Int32)) rfl rfl ?_
        exact x_iret rfl rfl h
      · have h := h.2 c
        refine x_iload rfl rfl ?_
        refine x_goto (tgt := 40) rfl rfl ?_
        exact x_iret rfl rfl h
theorem s_S_stop_0 {d : Nat} {D : xD} {Q : Option Value → xD → Prop} {a0 : Nat} {x1 : Int32} {x2 : Int32} {x3 : Int32} (k0 : xk a0 = 0) (h : xCq d m_S_tableAt [.ref a0, .int x1] D (fun o2 D1 => (o2 = none → xCq d m_S_heapAt [.ref a0, .int x2] D1 (fun o6 D5 => (o6 = none → xCq d m_S_bookAt [.ref a0, .int x3] D5 (fun o10 D9 => (o10 = none → Q (some (.int (-1 : Int32))) D9) ∧ (∀ b11, o10 = some b11 → xk b11 = 2 ∧ Q (some (.int (-1 : Int32))) D9))) ∧ (∀ b7, o6 = some b7 → xk b7 = 2 ∧ xCq d m_S_bookAt [.ref a0, .int x3] D5 (fun o14 D13 => (o14 = none → Q (some (.int (-1 : Int32))) D13) ∧ (∀ b15, o14 = some b15 → xk b15 = 2 ∧ Q (some (.int (-1 : Int32))) D13))))) ∧ (∀ b3, o2 = some b3 → xk b3 = 4 ∧ xCq d m_S_heapAt [.ref a0, .int x2] D1 (fun o18 D17 => (o18 = none → xCq d m_S_bookAt [.ref a0, .int x3] D17 (fun o22 D21 => (o22 = none → Q (some (.int (-1 : Int32))) D21) ∧ (∀ b23, o22 = some b23 → xk b23 = 2 ∧ Q (some (.int (-1 : Int32))) D21))) ∧ (∀ b19, o18 = some b19 → xk b19 = 2 ∧ xCq d m_S_bookAt [.ref a0, .int x3] D17 (fun o26 D25 => (o26 = none → Q (some (.int (-1 : Int32))) D25) ∧ (∀ b27, o26 = some b27 → xk b27 = 2 ∧ xCi d m_Table_suits [.ref b3, .ref b19] D25 (fun r30 D29 => (¬ r30 = 0 → xCi d m_Deeds_play [.ref (a0 + 206), .ref b3, .ref b19, .ref b27, .int (40 : Int32)] D29 (fun r32 D31 => Q (some (.int r32)) D31)) ∧ (r30 = 0 → Q (some (.int (-1 : Int32))) D29))))))))) : xPf (d + 1) m_S_stop 0 [(0, .ref a0), (1, .int x1), (2, .int x2), (3, .int x3)] [] D Q := by
  refine x_aload_n rfl rfl ?_
  refine x_iload_n rfl rfl ?_
  refine x_vq lm_S_119 vf_S_tableAt k0 rfl rfl (Nat.le_of_ble_eq_true rfl) rfl h (fun D1 h => ?_) (fun b3 D1 h => ?_)
  · have h := h.1 rfl
    refine x_astoreN (i := 4) (L1 := [(4, .null), (0, .ref a0), (1, .int x1), (2, .int x2), (3, .int x3)]) rfl (Nat.le_of_ble_eq_true rfl) rfl ?_
    refine x_aload_n rfl rfl ?_
    refine x_iload_n rfl rfl ?_
    refine x_vq lm_S_136 vf_S_heapAt k0 rfl rfl (Nat.le_of_ble_eq_true rfl) rfl h (fun D5 h => ?_) (fun b7 D5 h => ?_)
    · have h := h.1 rfl
      refine x_astoreN (i := 5) (L1 := [(5, .null), (4, .null), (0, .ref a0), (1, .int x1), (2, .int x2), (3, .int x3)]) rfl (Nat.le_of_ble_eq_true rfl) rfl ?_
      refine x_aload_n rfl rfl ?_
      refine x_iload_n rfl rfl ?_
      refine x_vq lm_S_150 vf_S_bookAt k0 rfl rfl (Nat.le_of_ble_eq_true rfl) rfl h (fun D9 h => ?_) (fun b11 D9 h => ?_)
      · have h := h.1 rfl
        refine x_astoreN (i := 6) (L1 := [(6, .null), (5, .null), (4, .null), (0, .ref a0), (1, .int x1), (2, .int x2), (3, .int x3)]) rfl (Nat.le_of_ble_eq_true rfl) rfl ?_
        refine x_aloadN rfl rfl ?_
        refine x_ifnullN (tgt := 46) rfl rfl ?_
        refine x_iconst (v := (-1 : Int32)) rfl rfl ?_
        exact x_iret rfl rfl h
      · obtain ⟨k12, h⟩ := h.2 b11 rfl
        refine x_astore (i := 6) (L1 := [(6, .ref b11), (5, .null), (4, .null), (0, .ref a0), (1, .int x1), (2, .int x2), (3, .int x3)]) rfl (Nat.le_of_ble_eq_true rfl) rfl ?_
        refine x_aloadN rfl rfl ?_
        refine x_ifnullN (tgt := 46) rfl rfl ?_
        refine x_iconst (v := (-1 : Int32)) rfl rfl ?_
        exact x_iret rfl rfl h
    · obtain ⟨k8, h⟩ := h.2 b7 rfl
      refine x_astore (i := 5) (L1 := [(5, .ref b7), (4, .null), (0, .ref a0), (1, .int x1), (2, .int x2), (3, .int x3)]) rfl (Nat.le_of_ble_eq_true rfl) rfl ?_
      refine x_aload_n rfl rfl ?_
      refine x_iload_n rfl rfl ?_
      refine x_vq lm_S_150 vf_S_bookAt k0 rfl rfl (Nat.le_of_ble_eq_true rfl) rfl h (fun D13 h => ?_) (fun b15 D13 h => ?_)
      · have h := h.1 rfl
        refine x_astoreN (i := 6) (L1 := [(6, .null), (5, .ref b7), (4, .null), (0, .ref a0), (1, .int x1), (2, .int x2), (3, .int x3)]) rfl (Nat.le_of_ble_eq_true rfl) rfl ?_
        refine x_aloadN rfl rfl ?_
        refine x_ifnullN (tgt := 46) rfl rfl ?_
        refine x_iconst (v := (-1 : Int32)) rfl rfl ?_
        exact x_iret rfl rfl h
      · obtain ⟨k16, h⟩ := h.2 b15 rfl
        refine x_astore (i := 6) (L1 := [(6, .ref b15), (5, .ref b7), (4, .null), (0, .ref a0), (1, .int x1), (2, .int x2), (3, .int x3)]) rfl (Nat.le_of_ble_eq_true rfl) rfl ?_
        refine x_aloadN rfl rfl ?_
        refine x_ifnullN (tgt := 46) rfl rfl ?_
        refine x_iconst (v := (-1 : Int32)) rfl rfl ?_
        exact x_iret rfl rfl h
  · obtain ⟨k4, h⟩ := h.2 b3 rfl
    refine x_astore (i := 4) (L1 := [(4, .ref b3), (0, .ref a0), (1, .int x1), (2, .int x2), (3, .int x3)]) rfl (Nat.le_of_ble_eq_true rfl) rfl ?_
    refine x_aload_n rfl rfl ?_
    refine x_iload_n rfl rfl ?_
    refine x_vq lm_S_136 vf_S_heapAt k0 rfl rfl (Nat.le_of_ble_eq_true rfl) rfl h (fun D17 h => ?_) (fun b19 D17 h => ?_)
    · have h := h.1 rfl
      refine x_astoreN (i := 5) (L1 := [(5, .null), (4, .ref b3), (0, .ref a0), (1, .int x1), (2, .int x2), (3, .int x3)]) rfl (Nat.le_of_ble_eq_true rfl) rfl ?_
      refine x_aload_n rfl rfl ?_
      refine x_iload_n rfl rfl ?_
      refine x_vq lm_S_150 vf_S_bookAt k0 rfl rfl (Nat.le_of_ble_eq_true rfl) rfl h (fun D21 h => ?_) (fun b23 D21 h => ?_)
      · have h := h.1 rfl
        refine x_astoreN (i := 6) (L1 := [(6, .null), (5, .null), (4, .ref b3), (0, .ref a0), (1, .int x1), (2, .int x2), (3, .int x3)]) rfl (Nat.le_of_ble_eq_true rfl) rfl ?_
        refine x_aload rfl rfl ?_
        refine x_ifnull rfl ?_
        refine x_aloadN rfl rfl ?_
        refine x_ifnullN (tgt := 46) rfl rfl ?_
        refine x_iconst (v := (-1 : Int32)) rfl rfl ?_
        exact x_iret rfl rfl h
      · obtain ⟨k24, h⟩ := h.2 b23 rfl
        refine x_astore (i := 6) (L1 := [(6, .ref b23), (5, .null), (4, .ref b3), (0, .ref a0), (1, .int x1), (2, .int x2), (3, .int x3)]) rfl (Nat.le_of_ble_eq_true rfl) rfl ?_
        refine x_aload rfl rfl ?_
        refine x_ifnull rfl ?_
        refine x_aloadN rfl rfl ?_
        refine x_ifnullN (tgt := 46) rfl rfl ?_
        refine x_iconst (v := (-1 : Int32)) rfl rfl ?_
        exact x_iret rfl rfl h
    · obtain ⟨k20, h⟩ := h.2 b19 rfl
      refine x_astore (i := 5) (L1 := [(5, .ref b19), (4, .ref b3), (0, .ref a0), (1, .int x1), (2, .int x2), (3, .int x3)]) rfl (Nat.le_of_ble_eq_true rfl) rfl ?_
      refine x_aload_n rfl rfl ?_
      refine x_iload_n rfl rfl ?_
      refine x_vq lm_S_150 vf_S_bookAt k0 rfl rfl (Nat.le_of_ble_eq_true rfl) rfl h (fun D25 h => ?_) (fun b27 D25 h => ?_)
      · have h := h.1 rfl
        refine x_astoreN (i := 6) (L1 := [(6, .null), (5, .ref b19), (4, .ref b3), (0, .ref a0), (1, .int x1), (2, .int x2), (3, .int x3)]) rfl (Nat.le_of_ble_eq_true rfl) rfl ?_
        refine x_aload rfl rfl ?_
        refine x_ifnull rfl ?_
        refine x_aload rfl rfl ?_
        refine x_ifnull rfl ?_
        refine x_aloadN rfl rfl ?_
        refine x_ifnullN (tgt := 46) rfl rfl ?_
        refine x_iconst (v := (-1 : Int32)) rfl rfl ?_
        exact x_iret rfl rfl h
      · obtain ⟨k28, h⟩ := h.2 b27 rfl
        refine x_astore (i := 6) (L1 := [(6, .ref b27), (5, .ref b19), (4, .ref b3), (0, .ref a0), (1, .int x1), (2, .int x2), (3, .int x3)]) rfl (Nat.le_of_ble_eq_true rfl) rfl ?_
        refine x_aload rfl rfl ?_
        refine x_ifnull rfl ?_
        refine x_aload rfl rfl ?_
        refine x_ifnull rfl ?_
        refine x_aload rfl rfl ?_
        refine x_ifnull rfl ?_
        refine x_aload rfl rfl ?_
        refine x_aload rfl rfl ?_
        refine x_vi lm_S_146 vf_Table_suits k4 rfl rfl (Nat.le_of_ble_eq_true rfl) rfl h (fun r30 D29 h => ?_)
        refine x_if_ne (tgt := 48) rfl rfl (fun c => ?_) (fun c => ?_)
        · have h := h.1 c
          refine x_aload_n rfl rfl ?_
          refine x_gR lf_S_39 k0 rfl rfl ?_
          refine x_aload rfl rfl ?_
          refine x_aload rfl rfl ?_
          refine x_aload rfl rfl ?_
          refine x_bipush (v := (40 : Int32)) rfl rfl ?_
          refine x_vi lm_S_153 vf_Deeds_play (ck_0_4 k0) rfl rfl (Nat.le_of_ble_eq_true rfl) rfl h (fun r32 D31 h => ?_)
          exact x_iret rfl rfl h
        · have h := h.2 c
          refine x_iconst (v := (-1 : Int32)) rfl rfl ?_
          exact x_iret rfl rfl h
theorem s_S_state_0 {d : Nat} {D : xD} {Q : Option Value → xD → Prop} {a0 : Nat} {x1 : Int32} {x2 : Int32} {x3 : Int32} {x4 : Int32} {x5 : Int32} (k0 : xk a0 = 0) (h : xCi d m_S_comesTo [.ref a0, .int x1, .int x2, .int x3, .int x4] D (fun r2 D1 => (r2 = 0 → Q (some (.int (-2 : Int32))) D1) ∧ (¬ r2 = 0 → xCi d m_Deeds_answer [.ref (a0 + 206), .int x5] D1 (fun r4 D3 => Q (some (.int r4)) D3)))) : xPf (d + 1) m_S_state 0 [(0, .ref a0), (1, .int x1), (2, .int x2), (3, .int x3), (4, .int x4), (5, .int x5)] [] D Q := by
  refine x_aload_n rfl rfl ?_
  refine x_iload_n rfl rfl ?_
  refine x_iload_n rfl rfl ?_
  refine x_iload_n rfl rfl ?_
  refine x_iload rfl rfl ?_
  refine x_vi lm_S_157 vf_S_comesTo k0 rfl rfl (Nat.le_of_ble_eq_true rfl) rfl h (fun r2 D1 h => ?_)
  refine x_if_eq (tgt := 24) rfl rfl (fun c => ?_) (fun c => ?_)
  · have h := h.1 c
    refine x_bipush (v := (-2 : Int32)) rfl rfl ?_
    exact x_iret rfl rfl h
  · have h := h.2 c
    refine x_aload_n rfl rfl ?_
    refine x_gR lf_S_39 k0 rfl rfl ?_
    refine x_iload rfl rfl ?_
    refine x_vi lm_S_161 vf_Deeds_answer (ck_0_4 k0) rfl rfl (Nat.le_of_ble_eq_true rfl) rfl h (fun r4 D3 h => ?_)
    refine x_goto (tgt := 26) rfl rfl ?_
    exact x_iret rfl rfl h
theorem s_S_holds_0 {d : Nat} {D : xD} {Q : Option Value → xD → Prop} {a0 : Nat} {x1 : Int32} {x2 : Int32} {x3 : Int32} {x4 : Int32} {x5 : Int32} {x6 : Int32} (k0 : xk a0 = 0) (h : xCq d m_S_tableAt [.ref a0, .int x1] D (fun o2 D1 => (o2 = none → Q (some (.int (-2 : Int32))) D1) ∧ (∀ b3, o2 = some b3 → xk b3 = 4 ∧ xCi d m_Table_has [.ref b3, .int x5] D1 (fun r6 D5 => (r6 = 0 → Q (some (.int (-2 : Int32))) D5) ∧ (¬ r6 = 0 → xCi d m_S_comesTo [.ref a0, .int x1, .int x2, .int x3, .int x4] D5 (fun r8 D7 => (¬ r8 = 0 → (¬ x6 = (-1 : Int32) → xCi d m_Table_hasKind [.ref b3, .int x6] D7 (fun r10 D9 => (r10 = 0 → Q (some (.int (-2 : Int32))) D9) ∧ (¬ r10 = 0 → xCi d m_Deal_holdsOf [.ref ((a0 + 206) + 1), .int x5, .int x6] D9 (fun r12 D11 => Q (some (.int r12)) D11)))) ∧ (x6 = (-1 : Int32) → xCi d m_Deal_holdsCards [.ref ((a0 + 206) + 1), .int x5] D7 (fun r14 D13 => Q (some (.int r14)) D13))) ∧ (r8 = 0 → Q (some (.int (-2 : Int32))) D7))))))) : xPf (d + 1) m_S_holds 0 [(0, .ref a0), (1, .int x1), (2, .int x2), (3, .int x3), (4, .int x4), (5, .int x5), (6, .int x6)] [] D Q := by
  refine x_aload_n rfl rfl ?_
  refine x_iload_n rfl rfl ?_
  refine x_vq lm_S_119 vf_S_tableAt k0 rfl rfl (Nat.le_of_ble_eq_true rfl) rfl h (fun D1 h => ?_) (fun b3 D1 h => ?_)
  · have h := h.1 rfl
    refine x_astoreN (i := 7) (L1 := [(7, .null), (0, .ref a0), (1, .int x1), (2, .int x2), (3, .int x3), (4, .int x4), (5, .int x5), (6, .int x6)]) rfl (Nat.le_of_ble_eq_true rfl) rfl ?_
    refine x_aloadN rfl rfl ?_
    refine x_ifnullN (tgt := 34) rfl rfl ?_
    refine x_bipush (v := (-2 : Int32)) rfl rfl ?_
    exact x_iret rfl rfl h
  · obtain ⟨k4, h⟩ := h.2 b3 rfl
    refine x_astore (i := 7) (L1 := [(7, .ref b3), (0, .ref a0), (1, .int x1), (2, .int x2), (3, .int x3), (4, .int x4), (5, .int x5), (6, .int x6)]) rfl (Nat.le_of_ble_eq_true rfl) rfl ?_
    refine x_aload rfl rfl ?_
    refine x_ifnull rfl ?_
    refine x_aload rfl rfl ?_
    refine x_iload rfl rfl ?_
    refine x_vi lm_S_128 vf_Table_has k4 rfl rfl (Nat.le_of_ble_eq_true rfl) rfl h (fun r6 D5 h => ?_)
    refine x_if_eq (tgt := 34) rfl rfl (fun c => ?_) (fun c => ?_)
    · have h := h.1 c
      refine x_bipush (v := (-2 : Int32)) rfl rfl ?_
      exact x_iret rfl rfl h
    · have h := h.2 c
      refine x_aload_n rfl rfl ?_
      refine x_iload_n rfl rfl ?_
      refine x_iload_n rfl rfl ?_
      refine x_iload_n rfl rfl ?_
      refine x_iload rfl rfl ?_
      refine x_vi lm_S_157 vf_S_comesTo k0 rfl rfl (Nat.le_of_ble_eq_true rfl) rfl h (fun r8 D7 h => ?_)
      refine x_if_ne (tgt := 37) rfl rfl (fun c => ?_) (fun c => ?_)
      · have h := h.1 c
        refine x_iload rfl rfl ?_
        refine x_iconst (v := (-1 : Int32)) rfl rfl ?_
        refine x_icmp_ne (tgt := 56) rfl rfl (fun c => ?_) (fun c => ?_)
        · have h := h.1 c
          refine x_aload rfl rfl ?_
          refine x_iload rfl rfl ?_
          refine x_vi lm_S_173 vf_Table_hasKind k4 rfl rfl (Nat.le_of_ble_eq_true rfl) rfl h (fun r10 D9 h => ?_)
          refine x_if_eq (tgt := 83) rfl rfl (fun c => ?_) (fun c => ?_)
          · have h := h.1 c
            refine x_bipush (v := (-2 : Int32)) rfl rfl ?_
            exact x_iret rfl rfl h
          · have h := h.2 c
            refine x_aload_n rfl rfl ?_
            refine x_gR lf_S_39 k0 rfl rfl ?_
            refine x_gR lf_S_164 (ck_0_4 k0) rfl rfl ?_
            refine x_iload rfl rfl ?_
            refine x_iload rfl rfl ?_
            refine x_vi lm_S_176 vf_Deal_holdsOf (ck_7_0 (ck_0_4 k0)) rfl rfl (Nat.le_of_ble_eq_true rfl) rfl h (fun r12 D11 h => ?_)
            refine x_goto (tgt := 85) rfl rfl ?_
            exact x_iret rfl rfl h
        · have h := h.2 c
          refine x_aload_n rfl rfl ?_
          refine x_gR lf_S_39 k0 rfl rfl ?_
          refine x_gR lf_S_164 (ck_0_4 k0) rfl rfl ?_
          refine x_iload rfl rfl ?_
          refine x_vi lm_S_168 vf_Deal_holdsCards (ck_7_0 (ck_0_4 k0)) rfl rfl (Nat.le_of_ble_eq_true rfl) rfl h (fun r14 D13 h => ?_)
          exact x_iret rfl rfl h
      · have h := h.2 c
        refine x_bipush (v := (-2 : Int32)) rfl rfl ?_
        exact x_iret rfl rfl h
theorem s_S_comesTo_0 {d : Nat} {D : xD} {Q : Option Value → xD → Prop} {a0 : Nat} {x1 : Int32} {x2 : Int32} {x3 : Int32} {x4 : Int32} (k0 : xk a0 = 0) (h : xCq d m_S_tableAt [.ref a0, .int x1] D (fun o2 D1 => (o2 = none → xCq d m_S_heapAt [.ref a0, .int x2] D1 (fun o6 D5 => (o6 = none → xCq d m_S_bookAt [.ref a0, .int x3] D5 (fun o10 D9 => (o10 = none → (x4 < 0 → Q (some (.int (0 : Int32))) D9) ∧ (¬ x4 < 0 → Q (some (.int (0 : Int32))) D9)) ∧ (∀ b11, o10 = some b11 → xk b11 = 2 ∧ (x4 < 0 → Q (some (.int (0 : Int32))) D9) ∧ (¬ x4 < 0 → Q (some (.int (0 : Int32))) D9)))) ∧ (∀ b7, o6 = some b7 → xk b7 = 2 ∧ xCq d m_S_bookAt [.ref a0, .int x3] D5 (fun o14 D13 => (o14 = none → (x4 < 0 → Q (some (.int (0 : Int32))) D13) ∧ (¬ x4 < 0 → Q (some (.int (0 : Int32))) D13)) ∧ (∀ b15, o14 = some b15 → xk b15 = 2 ∧ (x4 < 0 → Q (some (.int (0 : Int32))) D13) ∧ (¬ x4 < 0 → Q (some (.int (0 : Int32))) D13)))))) ∧ (∀ b3, o2 = some b3 → xk b3 = 4 ∧ xCq d m_S_heapAt [.ref a0, .int x2] D1 (fun o18 D17 => (o18 = none → xCq d m_S_bookAt [.ref a0, .int x3] D17 (fun o22 D21 => (o22 = none → (x4 < 0 → Q (some (.int (0 : Int32))) D21) ∧ (¬ x4 < 0 → Q (some (.int (0 : Int32))) D21)) ∧ (∀ b23, o22 = some b23 → xk b23 = 2 ∧ (x4 < 0 → Q (some (.int (0 : Int32))) D21) ∧ (¬ x4 < 0 → Q (some (.int (0 : Int32))) D21)))) ∧ (∀ b19, o18 = some b19 → xk b19 = 2 ∧ xCq d m_S_bookAt [.ref a0, .int x3] D17 (fun o26 D25 => (o26 = none → (x4 < 0 → Q (some (.int (0 : Int32))) D25) ∧ (¬ x4 < 0 → Q (some (.int (0 : Int32))) D25)) ∧ (∀ b27, o26 = some b27 → xk b27 = 2 ∧ (x4 < 0 → Q (some (.int (0 : Int32))) D25) ∧ (¬ x4 < 0 → xCi d m_Table_suits [.ref b3, .ref b19] D25 (fun r30 D29 => (¬ r30 = 0 → xCi d m_Deeds_play [.ref (a0 + 206), .ref b3, .ref b19, .ref b27, .int x4] D29 (fun r32 D31 => (¬ r32 = x4 → Q (some (.int (0 : Int32))) D31) ∧ (r32 = x4 → Q (some (.int (1 : Int32))) D31))) ∧ (r30 = 0 → Q (some (.int (0 : Int32))) D29)))))))))) : xPf (d + 1) m_S_comesTo 0 [(0, .ref a0), (1, .int x1), (2, .int x2), (3, .int x3), (4, .int x4)] [] D Q := by
  refine x_aload_n rfl rfl ?_
  refine x_iload_n rfl rfl ?_
  refine x_vq lm_S_119 vf_S_tableAt k0 rfl rfl (Nat.le_of_ble_eq_true rfl) rfl h (fun D1 h => ?_) (fun b3 D1 h => ?_)
  · have h := h.1 rfl
    refine x_astoreN (i := 5) (L1 := [(5, .null), (0, .ref a0), (1, .int x1), (2, .int x2), (3, .int x3), (4, .int x4)]) rfl (Nat.le_of_ble_eq_true rfl) rfl ?_
    refine x_aload_n rfl rfl ?_
    refine x_iload_n rfl rfl ?_
    refine x_vq lm_S_136 vf_S_heapAt k0 rfl rfl (Nat.le_of_ble_eq_true rfl) rfl h (fun D5 h => ?_) (fun b7 D5 h => ?_)
    · have h := h.1 rfl
      refine x_astoreN (i := 6) (L1 := [(6, .null), (5, .null), (0, .ref a0), (1, .int x1), (2, .int x2), (3, .int x3), (4, .int x4)]) rfl (Nat.le_of_ble_eq_true rfl) rfl ?_
      refine x_aload_n rfl rfl ?_
      refine x_iload_n rfl rfl ?_
      refine x_vq lm_S_150 vf_S_bookAt k0 rfl rfl (Nat.le_of_ble_eq_true rfl) rfl h (fun D9 h => ?_) (fun b11 D9 h => ?_)
      · have h := h.1 rfl
        refine x_astoreN (i := 7) (L1 := [(7, .null), (6, .null), (5, .null), (0, .ref a0), (1, .int x1), (2, .int x2), (3, .int x3), (4, .int x4)]) rfl (Nat.le_of_ble_eq_true rfl) rfl ?_
        refine x_iload rfl rfl ?_
        refine x_if_lt (tgt := 51) rfl rfl (fun c => ?_) (fun c => ?_)
        · have h := h.1 c
          refine x_iconst (v := (0 : Int32)) rfl rfl ?_
          exact x_zr rfl (Or.inl rfl) rfl h
        · have h := h.2 c
          refine x_aloadN rfl rfl ?_
          refine x_ifnullN (tgt := 51) rfl rfl ?_
          refine x_iconst (v := (0 : Int32)) rfl rfl ?_
          exact x_zr rfl (Or.inl rfl) rfl h
      · obtain ⟨k12, h⟩ := h.2 b11 rfl
        refine x_astore (i := 7) (L1 := [(7, .ref b11), (6, .null), (5, .null), (0, .ref a0), (1, .int x1), (2, .int x2), (3, .int x3), (4, .int x4)]) rfl (Nat.le_of_ble_eq_true rfl) rfl ?_
        refine x_iload rfl rfl ?_
        refine x_if_lt (tgt := 51) rfl rfl (fun c => ?_) (fun c => ?_)
        · have h := h.1 c
          refine x_iconst (v := (0 : Int32)) rfl rfl ?_
          exact x_zr rfl (Or.inl rfl) rfl h
        · have h := h.2 c
          refine x_aloadN rfl rfl ?_
          refine x_ifnullN (tgt := 51) rfl rfl ?_
          refine x_iconst (v := (0 : Int32)) rfl rfl ?_
          exact x_zr rfl (Or.inl rfl) rfl h
    · obtain ⟨k8, h⟩ := h.2 b7 rfl
      refine x_astore (i := 6) (L1 := [(6, .ref b7), (5, .null), (0, .ref a0), (1, .int x1), (2, .int x2), (3, .int x3), (4, .int x4)]) rfl (Nat.le_of_ble_eq_true rfl) rfl ?_
      refine x_aload_n rfl rfl ?_
      refine x_iload_n rfl rfl ?_
      refine x_vq lm_S_150 vf_S_bookAt k0 rfl rfl (Nat.le_of_ble_eq_true rfl) rfl h (fun D13 h => ?_) (fun b15 D13 h => ?_)
      · have h := h.1 rfl
        refine x_astoreN (i := 7) (L1 := [(7, .null), (6, .ref b7), (5, .null), (0, .ref a0), (1, .int x1), (2, .int x2), (3, .int x3), (4, .int x4)]) rfl (Nat.le_of_ble_eq_true rfl) rfl ?_
        refine x_iload rfl rfl ?_
        refine x_if_lt (tgt := 51) rfl rfl (fun c => ?_) (fun c => ?_)
        · have h := h.1 c
          refine x_iconst (v := (0 : Int32)) rfl rfl ?_
          exact x_zr rfl (Or.inl rfl) rfl h
        · have h := h.2 c
          refine x_aloadN rfl rfl ?_
          refine x_ifnullN (tgt := 51) rfl rfl ?_
          refine x_iconst (v := (0 : Int32)) rfl rfl ?_
          exact x_zr rfl (Or.inl rfl) rfl h
      · obtain ⟨k16, h⟩ := h.2 b15 rfl
        refine x_astore (i := 7) (L1 := [(7, .ref b15), (6, .ref b7), (5, .null), (0, .ref a0), (1, .int x1), (2, .int x2), (3, .int x3), (4, .int x4)]) rfl (Nat.le_of_ble_eq_true rfl) rfl ?_
        refine x_iload rfl rfl ?_
        refine x_if_lt (tgt := 51) rfl rfl (fun c => ?_) (fun c => ?_)
        · have h := h.1 c
          refine x_iconst (v := (0 : Int32)) rfl rfl ?_
          exact x_zr rfl (Or.inl rfl) rfl h
        · have h := h.2 c
          refine x_aloadN rfl rfl ?_
          refine x_ifnullN (tgt := 51) rfl rfl ?_
          refine x_iconst (v := (0 : Int32)) rfl rfl ?_
          exact x_zr rfl (Or.inl rfl) rfl h
  · obtain ⟨k4, h⟩ := h.2 b3 rfl
    refine x_astore (i := 5) (L1 := [(5, .ref b3), (0, .ref a0), (1, .int x1), (2, .int x2), (3, .int x3), (4, .int x4)]) rfl (Nat.le_of_ble_eq_true rfl) rfl ?_
    refine x_aload_n rfl rfl ?_
    refine x_iload_n rfl rfl ?_
    refine x_vq lm_S_136 vf_S_heapAt k0 rfl rfl (Nat.le_of_ble_eq_true rfl) rfl h (fun D17 h => ?_) (fun b19 D17 h => ?_)
    · have h := h.1 rfl
      refine x_astoreN (i := 6) (L1 := [(6, .null), (5, .ref b3), (0, .ref a0), (1, .int x1), (2, .int x2), (3, .int x3), (4, .int x4)]) rfl (Nat.le_of_ble_eq_true rfl) rfl ?_
      refine x_aload_n rfl rfl ?_
      refine x_iload_n rfl rfl ?_
      refine x_vq lm_S_150 vf_S_bookAt k0 rfl rfl (Nat.le_of_ble_eq_true rfl) rfl h (fun D21 h => ?_) (fun b23 D21 h => ?_)
      · have h := h.1 rfl
        refine x_astoreN (i := 7) (L1 := [(7, .null), (6, .null), (5, .ref b3), (0, .ref a0), (1, .int x1), (2, .int x2), (3, .int x3), (4, .int x4)]) rfl (Nat.le_of_ble_eq_true rfl) rfl ?_
        refine x_iload rfl rfl ?_
        refine x_if_lt (tgt := 51) rfl rfl (fun c => ?_) (fun c => ?_)
        · have h := h.1 c
          refine x_iconst (v := (0 : Int32)) rfl rfl ?_
          exact x_zr rfl (Or.inl rfl) rfl h
        · have h := h.2 c
          refine x_aload rfl rfl ?_
          refine x_ifnull rfl ?_
          refine x_aloadN rfl rfl ?_
          refine x_ifnullN (tgt := 51) rfl rfl ?_
          refine x_iconst (v := (0 : Int32)) rfl rfl ?_
          exact x_zr rfl (Or.inl rfl) rfl h
      · obtain ⟨k24, h⟩ := h.2 b23 rfl
        refine x_astore (i := 7) (L1 := [(7, .ref b23), (6, .null), (5, .ref b3), (0, .ref a0), (1, .int x1), (2, .int x2), (3, .int x3), (4, .int x4)]) rfl (Nat.le_of_ble_eq_true rfl) rfl ?_
        refine x_iload rfl rfl ?_
        refine x_if_lt (tgt := 51) rfl rfl (fun c => ?_) (fun c => ?_)
        · have h := h.1 c
          refine x_iconst (v := (0 : Int32)) rfl rfl ?_
          exact x_zr rfl (Or.inl rfl) rfl h
        · have h := h.2 c
          refine x_aload rfl rfl ?_
          refine x_ifnull rfl ?_
          refine x_aloadN rfl rfl ?_
          refine x_ifnullN (tgt := 51) rfl rfl ?_
          refine x_iconst (v := (0 : Int32)) rfl rfl ?_
          exact x_zr rfl (Or.inl rfl) rfl h
    · obtain ⟨k20, h⟩ := h.2 b19 rfl
      refine x_astore (i := 6) (L1 := [(6, .ref b19), (5, .ref b3), (0, .ref a0), (1, .int x1), (2, .int x2), (3, .int x3), (4, .int x4)]) rfl (Nat.le_of_ble_eq_true rfl) rfl ?_
      refine x_aload_n rfl rfl ?_
      refine x_iload_n rfl rfl ?_
      refine x_vq lm_S_150 vf_S_bookAt k0 rfl rfl (Nat.le_of_ble_eq_true rfl) rfl h (fun D25 h => ?_) (fun b27 D25 h => ?_)
      · have h := h.1 rfl
        refine x_astoreN (i := 7) (L1 := [(7, .null), (6, .ref b19), (5, .ref b3), (0, .ref a0), (1, .int x1), (2, .int x2), (3, .int x3), (4, .int x4)]) rfl (Nat.le_of_ble_eq_true rfl) rfl ?_
        refine x_iload rfl rfl ?_
        refine x_if_lt (tgt := 51) rfl rfl (fun c => ?_) (fun c => ?_)
        · have h := h.1 c
          refine x_iconst (v := (0 : Int32)) rfl rfl ?_
          exact x_zr rfl (Or.inl rfl) rfl h
        · have h := h.2 c
          refine x_aload rfl rfl ?_
          refine x_ifnull rfl ?_
          refine x_aload rfl rfl ?_
          refine x_ifnull rfl ?_
          refine x_aloadN rfl rfl ?_
          refine x_ifnullN (tgt := 51) rfl rfl ?_
          refine x_iconst (v := (0 : Int32)) rfl rfl ?_
          exact x_zr rfl (Or.inl rfl) rfl h
      · obtain ⟨k28, h⟩ := h.2 b27 rfl
        refine x_astore (i := 7) (L1 := [(7, .ref b27), (6, .ref b19), (5, .ref b3), (0, .ref a0), (1, .int x1), (2, .int x2), (3, .int x3), (4, .int x4)]) rfl (Nat.le_of_ble_eq_true rfl) rfl ?_
        refine x_iload rfl rfl ?_
        refine x_if_lt (tgt := 51) rfl rfl (fun c => ?_) (fun c => ?_)
        · have h := h.1 c
          refine x_iconst (v := (0 : Int32)) rfl rfl ?_
          exact x_zr rfl (Or.inl rfl) rfl h
        · have h := h.2 c
          refine x_aload rfl rfl ?_
          refine x_ifnull rfl ?_
          refine x_aload rfl rfl ?_
          refine x_ifnull rfl ?_
          refine x_aload rfl rfl ?_
          refine x_ifnull rfl ?_
          refine x_aload rfl rfl ?_
          refine x_aload rfl rfl ?_
          refine x_vi lm_S_146 vf_Table_suits k4 rfl rfl (Nat.le_of_ble_eq_true rfl) rfl h (fun r30 D29 h => ?_)
          refine x_if_ne (tgt := 53) rfl rfl (fun c => ?_) (fun c => ?_)
          · have h := h.1 c
            refine x_aload_n rfl rfl ?_
            refine x_gR lf_S_39 k0 rfl rfl ?_
            refine x_aload rfl rfl ?_
            refine x_aload rfl rfl ?_
            refine x_aload rfl rfl ?_
            refine x_iload rfl rfl ?_
            refine x_vi lm_S_153 vf_Deeds_play (ck_0_4 k0) rfl rfl (Nat.le_of_ble_eq_true rfl) rfl h (fun r32 D31 h => ?_)
            refine x_iload rfl rfl ?_
            refine x_icmp_ne (tgt := 77) rfl rfl (fun c => ?_) (fun c => ?_)
            · have h := h.1 c
              refine x_iconst (v := (0 : Int32)) rfl rfl ?_
              exact x_zr rfl (Or.inl rfl) rfl h
            · have h := h.2 c
              refine x_iconst (v := (1 : Int32)) rfl rfl ?_
              refine x_goto (tgt := 78) rfl rfl ?_
              exact x_zr rfl (Or.inr rfl) rfl h
          · have h := h.2 c
            refine x_iconst (v := (0 : Int32)) rfl rfl ?_
            exact x_zr rfl (Or.inl rfl) rfl h
theorem s_S_round_0 {d : Nat} {D : xD} {Q : Option Value → xD → Prop} {a0 : Nat} {x1 : Int32} {x2 : Int32} {x3 : Int32} (k0 : xk a0 = 0) (h : xCq d m_S_tableAt [.ref a0, .int x1] D (fun o2 D1 => (o2 = none → xCq d m_S_heapAt [.ref a0, .int x2] D1 (fun o6 D5 => (o6 = none → Q (some (.int (-2 : Int32))) D5) ∧ (∀ b7, o6 = some b7 → xk b7 = 2 ∧ Q (some (.int (-2 : Int32))) D5))) ∧ (∀ b3, o2 = some b3 → xk b3 = 4 ∧ xCq d m_S_heapAt [.ref a0, .int x2] D1 (fun o10 D9 => (o10 = none → Q (some (.int (-2 : Int32))) D9) ∧ (∀ b11, o10 = some b11 → xk b11 = 2 ∧ xCi d m_Table_suits [.ref b3, .ref b11] D9 (fun r14 D13 => (¬ r14 = 0 → xCi d m_S_personAsked [.ref b3, .int x3] D13 (fun r16 D15 => (x3 < 0 → Q (some (.int (-2 : Int32))) D15) ∧ (¬ x3 < 0 → (x3 ≤ (4 : Int32) → xCv d m_Rounds_play [.ref (a0 + 222), .ref b3, .ref b11, .int (2000 : Int32)] D15 (fun D17 => (¬ r16 = (-1 : Int32) → ((20 : Int32) ≤ x3 → xCi d m_Rounds_answerOf [.ref (a0 + 222), .ref b3, .int r16, .int (0 : Int32)] D17 (fun r19 D18 => Q (some (.int r19)) D18)) ∧ (¬ (20 : Int32) ≤ x3 → xCi d m_Rounds_answerOf [.ref (a0 + 222), .ref b3, .int r16, .int (1 : Int32)] D17 (fun r21 D20 => Q (some (.int r21)) D20))) ∧ (r16 = (-1 : Int32) → xCi d m_Rounds_answer [.ref (a0 + 222), .ref b3, .ref b11, .int x3] D17 (fun r23 D22 => Q (some (.int r23)) D22)))) ∧ (¬ x3 ≤ (4 : Int32) → (¬ r16 = (-1 : Int32) → xCv d m_Rounds_play [.ref (a0 + 222), .ref b3, .ref b11, .int (2000 : Int32)] D15 (fun D24 => (¬ r16 = (-1 : Int32) → ((20 : Int32) ≤ x3 → xCi d m_Rounds_answerOf [.ref (a0 + 222), .ref b3, .int r16, .int (0 : Int32)] D24 (fun r26 D25 => Q (some (.int r26)) D25)) ∧ (¬ (20 : Int32) ≤ x3 → xCi d m_Rounds_answerOf [.ref (a0 + 222), .ref b3, .int r16, .int (1 : Int32)] D24 (fun r28 D27 => Q (some (.int r28)) D27))) ∧ (r16 = (-1 : Int32) → xCi d m_Rounds_answer [.ref (a0 + 222), .ref b3, .ref b11, .int x3] D24 (fun r30 D29 => Q (some (.int r30)) D29)))) ∧ (r16 = (-1 : Int32) → Q (some (.int (-2 : Int32))) D15))))) ∧ (r14 = 0 → Q (some (.int (-2 : Int32))) D13))))))) : xPf (d + 1) m_S_round 0 [(0, .ref a0), (1, .int x1), (2, .int x2), (3, .int x3)] [] D Q := by
  refine x_aload_n rfl rfl ?_
  refine x_iload_n rfl rfl ?_
  refine x_vq lm_S_119 vf_S_tableAt k0 rfl rfl (Nat.le_of_ble_eq_true rfl) rfl h (fun D1 h => ?_) (fun b3 D1 h => ?_)
  · have h := h.1 rfl
    refine x_astoreN (i := 4) (L1 := [(4, .null), (0, .ref a0), (1, .int x1), (2, .int x2), (3, .int x3)]) rfl (Nat.le_of_ble_eq_true rfl) rfl ?_
    refine x_aload_n rfl rfl ?_
    refine x_iload_n rfl rfl ?_
    refine x_vq lm_S_136 vf_S_heapAt k0 rfl rfl (Nat.le_of_ble_eq_true rfl) rfl h (fun D5 h => ?_) (fun b7 D5 h => ?_)
    · have h := h.1 rfl
      refine x_astoreN (i := 5) (L1 := [(5, .null), (4, .null), (0, .ref a0), (1, .int x1), (2, .int x2), (3, .int x3)]) rfl (Nat.le_of_ble_eq_true rfl) rfl ?_
      refine x_aloadN rfl rfl ?_
      refine x_ifnullN (tgt := 34) rfl rfl ?_
      refine x_bipush (v := (-2 : Int32)) rfl rfl ?_
      exact x_iret rfl rfl h
    · obtain ⟨k8, h⟩ := h.2 b7 rfl
      refine x_astore (i := 5) (L1 := [(5, .ref b7), (4, .null), (0, .ref a0), (1, .int x1), (2, .int x2), (3, .int x3)]) rfl (Nat.le_of_ble_eq_true rfl) rfl ?_
      refine x_aloadN rfl rfl ?_
      refine x_ifnullN (tgt := 34) rfl rfl ?_
      refine x_bipush (v := (-2 : Int32)) rfl rfl ?_
      exact x_iret rfl rfl h
  · obtain ⟨k4, h⟩ := h.2 b3 rfl
    refine x_astore (i := 4) (L1 := [(4, .ref b3), (0, .ref a0), (1, .int x1), (2, .int x2), (3, .int x3)]) rfl (Nat.le_of_ble_eq_true rfl) rfl ?_
    refine x_aload_n rfl rfl ?_
    refine x_iload_n rfl rfl ?_
    refine x_vq lm_S_136 vf_S_heapAt k0 rfl rfl (Nat.le_of_ble_eq_true rfl) rfl h (fun D9 h => ?_) (fun b11 D9 h => ?_)
    · have h := h.1 rfl
      refine x_astoreN (i := 5) (L1 := [(5, .null), (4, .ref b3), (0, .ref a0), (1, .int x1), (2, .int x2), (3, .int x3)]) rfl (Nat.le_of_ble_eq_true rfl) rfl ?_
      refine x_aload rfl rfl ?_
      refine x_ifnull rfl ?_
      refine x_aloadN rfl rfl ?_
      refine x_ifnullN (tgt := 34) rfl rfl ?_
      refine x_bipush (v := (-2 : Int32)) rfl rfl ?_
      exact x_iret rfl rfl h
    · obtain ⟨k12, h⟩ := h.2 b11 rfl
      refine x_astore (i := 5) (L1 := [(5, .ref b11), (4, .ref b3), (0, .ref a0), (1, .int x1), (2, .int x2), (3, .int x3)]) rfl (Nat.le_of_ble_eq_true rfl) rfl ?_
      refine x_aload rfl rfl ?_
      refine x_ifnull rfl ?_
      refine x_aload rfl rfl ?_
      refine x_ifnull rfl ?_
      refine x_aload rfl rfl ?_
      refine x_aload rfl rfl ?_
      refine x_vi lm_S_146 vf_Table_suits k4 rfl rfl (Nat.le_of_ble_eq_true rfl) rfl h (fun r14 D13 h => ?_)
      refine x_if_ne (tgt := 37) rfl rfl (fun c => ?_) (fun c => ?_)
      · have h := h.1 c
        refine x_aload rfl rfl ?_
        refine x_iload_n rfl rfl ?_
        refine x_si lm_S_179 sf_S_personAsked rfl rfl (Nat.le_of_ble_eq_true rfl) rfl h (fun r16 D15 h => ?_)
        refine x_istore (i := 6) (L1 := [(6, .int r16), (5, .ref b11), (4, .ref b3), (0, .ref a0), (1, .int x1), (2, .int x2), (3, .int x3)]) rfl (Nat.le_of_ble_eq_true rfl) rfl ?_
        refine x_iload_n rfl rfl ?_
        refine x_if_lt (tgt := 60) rfl rfl (fun c => ?_) (fun c => ?_)
        · have h := h.1 c
          refine x_bipush (v := (-2 : Int32)) rfl rfl ?_
          exact x_iret rfl rfl h
        · have h := h.2 c
          refine x_iload_n rfl rfl ?_
          refine x_iconst (v := (4 : Int32)) rfl rfl ?_
          refine x_icmp_le (tgt := 63) rfl rfl (fun c => ?_) (fun c => ?_)
          · have h := h.1 c
            refine x_aload_n rfl rfl ?_
            refine x_gR lf_S_46 k0 rfl rfl ?_
            refine x_aload rfl rfl ?_
            refine x_aload rfl rfl ?_
            refine x_sipush (v := (2000 : Int32)) rfl rfl ?_
            refine x_vv lm_S_183 vf_Rounds_play (ck_0_5 k0) rfl rfl (Nat.le_of_ble_eq_true rfl) rfl h (fun D17 h => ?_)
            refine x_iload rfl rfl ?_
            refine x_iconst (v := (-1 : Int32)) rfl rfl ?_
            refine x_icmp_ne (tgt := 98) rfl rfl (fun c => ?_) (fun c => ?_)
            · have h := h.1 c
              refine x_aload_n rfl rfl ?_
              refine x_gR lf_S_46 k0 rfl rfl ?_
              refine x_aload rfl rfl ?_
              refine x_iload rfl rfl ?_
              refine x_iload_n rfl rfl ?_
              refine x_bipush (v := (20 : Int32)) rfl rfl ?_
              refine x_icmp_ge (tgt := 116) rfl rfl (fun c => ?_) (fun c => ?_)
              · have h := h.1 c
                refine x_iconst (v := (0 : Int32)) rfl rfl ?_
                refine x_vi lm_S_189 vf_Rounds_answerOf (ck_0_5 k0) rfl rfl (Nat.le_of_ble_eq_true rfl) rfl h (fun r19 D18 h => ?_)
                exact x_iret rfl rfl h
              · have h := h.2 c
                refine x_iconst (v := (1 : Int32)) rfl rfl ?_
                refine x_goto (tgt := 117) rfl rfl ?_
                refine x_vi lm_S_189 vf_Rounds_answerOf (ck_0_5 k0) rfl rfl (Nat.le_of_ble_eq_true rfl) rfl h (fun r21 D20 h => ?_)
                exact x_iret rfl rfl h
            · have h := h.2 c
              refine x_aload_n rfl rfl ?_
              refine x_gR lf_S_46 k0 rfl rfl ?_
              refine x_aload rfl rfl ?_
              refine x_aload rfl rfl ?_
              refine x_iload_n rfl rfl ?_
              refine x_vi lm_S_186 vf_Rounds_answer (ck_0_5 k0) rfl rfl (Nat.le_of_ble_eq_true rfl) rfl h (fun r23 D22 h => ?_)
              refine x_goto (tgt := 120) rfl rfl ?_
              exact x_iret rfl rfl h
          · have h := h.2 c
            refine x_iload rfl rfl ?_
            refine x_iconst (v := (-1 : Int32)) rfl rfl ?_
            refine x_icmp_ne (tgt := 63) rfl rfl (fun c => ?_) (fun c => ?_)
            · have h := h.1 c
              refine x_aload_n rfl rfl ?_
              refine x_gR lf_S_46 k0 rfl rfl ?_
              refine x_aload rfl rfl ?_
              refine x_aload rfl rfl ?_
              refine x_sipush (v := (2000 : Int32)) rfl rfl ?_
              refine x_vv lm_S_183 vf_Rounds_play (ck_0_5 k0) rfl rfl (Nat.le_of_ble_eq_true rfl) rfl h (fun D24 h => ?_)
              refine x_iload rfl rfl ?_
              refine x_iconst (v := (-1 : Int32)) rfl rfl ?_
              refine x_icmp_ne (tgt := 98) rfl rfl (fun c => ?_) (fun c => ?_)
              · have h := h.1 c
                refine x_aload_n rfl rfl ?_
                refine x_gR lf_S_46 k0 rfl rfl ?_
                refine x_aload rfl rfl ?_
                refine x_iload rfl rfl ?_
                refine x_iload_n rfl rfl ?_
                refine x_bipush (v := (20 : Int32)) rfl rfl ?_
                refine x_icmp_ge (tgt := 116) rfl rfl (fun c => ?_) (fun c => ?_)
                · have h := h.1 c
                  refine x_iconst (v := (0 : Int32)) rfl rfl ?_
                  refine x_vi lm_S_189 vf_Rounds_answerOf (ck_0_5 k0) rfl rfl (Nat.le_of_ble_eq_true rfl) rfl h (fun r26 D25 h => ?_)
                  exact x_iret rfl rfl h
                · have h := h.2 c
                  refine x_iconst (v := (1 : Int32)) rfl rfl ?_
                  refine x_goto (tgt := 117) rfl rfl ?_
                  refine x_vi lm_S_189 vf_Rounds_answerOf (ck_0_5 k0) rfl rfl (Nat.le_of_ble_eq_true rfl) rfl h (fun r28 D27 h => ?_)
                  exact x_iret rfl rfl h
              · have h := h.2 c
                refine x_aload_n rfl rfl ?_
                refine x_gR lf_S_46 k0 rfl rfl ?_
                refine x_aload rfl rfl ?_
                refine x_aload rfl rfl ?_
                refine x_iload_n rfl rfl ?_
                refine x_vi lm_S_186 vf_Rounds_answer (ck_0_5 k0) rfl rfl (Nat.le_of_ble_eq_true rfl) rfl h (fun r30 D29 h => ?_)
                refine x_goto (tgt := 120) rfl rfl ?_
                exact x_iret rfl rfl h
            · have h := h.2 c
              refine x_bipush (v := (-2 : Int32)) rfl rfl ?_
              exact x_iret rfl rfl h
      · have h := h.2 c
        refine x_bipush (v := (-2 : Int32)) rfl rfl ?_
        exact x_iret rfl rfl h
theorem s_S_personAsked_0 {d : Nat} {D : xD} {Q : Option Value → xD → Prop} {a0 : Nat} {x1 : Int32} (k0 : xk a0 = 4) (h : (x1 < (20 : Int32) → (x1 < (10 : Int32) → Q (some (.int (-1 : Int32))) D) ∧ (¬ x1 < (10 : Int32) → xCi d m_Table_has [.ref a0, .int (x1 - (10 : Int32))] D (fun r2 D1 => (r2 = 0 → Q (some (.int (-1 : Int32))) D1) ∧ (¬ r2 = 0 → Q (some (.int (x1 - (10 : Int32)))) D1)))) ∧ (¬ x1 < (20 : Int32) → (x1 < (10 : Int32) → Q (some (.int (-1 : Int32))) D) ∧ (¬ x1 < (10 : Int32) → xCi d m_Table_has [.ref a0, .int (x1 - (20 : Int32))] D (fun r4 D3 => (r4 = 0 → Q (some (.int (-1 : Int32))) D3) ∧ (¬ r4 = 0 → Q (some (.int (x1 - (20 : Int32)))) D3))))) : xPf (d + 1) m_S_personAsked 0 [(0, .ref a0), (1, .int x1)] [] D Q := by
  refine x_iload_n rfl rfl ?_
  refine x_bipush (v := (20 : Int32)) rfl rfl ?_
  refine x_icmp_lt (tgt := 13) rfl rfl (fun c => ?_) (fun c => ?_)
  · have h := h.1 c
    refine x_iload_n rfl rfl ?_
    refine x_bipush (v := (10 : Int32)) rfl rfl ?_
    refine x_isub rfl ?_
    refine x_istore_n (i := 2) (L1 := [(2, .int (x1 - (10 : Int32))), (0, .ref a0), (1, .int x1)]) rfl rfl (Nat.le_of_ble_eq_true rfl) rfl ?_
    refine x_iload_n rfl rfl ?_
    refine x_bipush (v := (10 : Int32)) rfl rfl ?_
    refine x_icmp_lt (tgt := 36) rfl rfl (fun c => ?_) (fun c => ?_)
    · have h := h.1 c
      refine x_iconst (v := (-1 : Int32)) rfl rfl ?_
      exact x_iret rfl rfl h
    · have h := h.2 c
      refine x_aload_n rfl rfl ?_
      refine x_iload_n rfl rfl ?_
      refine x_vi lm_S_128 vf_Table_has k0 rfl rfl (Nat.le_of_ble_eq_true rfl) rfl h (fun r2 D1 h => ?_)
      refine x_if_eq (tgt := 36) rfl rfl (fun c => ?_) (fun c => ?_)
      · have h := h.1 c
        refine x_iconst (v := (-1 : Int32)) rfl rfl ?_
        exact x_iret rfl rfl h
      · have h := h.2 c
        refine x_iload_n rfl rfl ?_
        refine x_goto (tgt := 37) rfl rfl ?_
        exact x_iret rfl rfl h
  · have h := h.2 c
    refine x_iload_n rfl rfl ?_
    refine x_bipush (v := (20 : Int32)) rfl rfl ?_
    refine x_isub rfl ?_
    refine x_goto (tgt := 17) rfl rfl ?_
    refine x_istore_n (i := 2) (L1 := [(2, .int (x1 - (20 : Int32))), (0, .ref a0), (1, .int x1)]) rfl rfl (Nat.le_of_ble_eq_true rfl) rfl ?_
    refine x_iload_n rfl rfl ?_
    refine x_bipush (v := (10 : Int32)) rfl rfl ?_
    refine x_icmp_lt (tgt := 36) rfl rfl (fun c => ?_) (fun c => ?_)
    · have h := h.1 c
      refine x_iconst (v := (-1 : Int32)) rfl rfl ?_
      exact x_iret rfl rfl h
    · have h := h.2 c
      refine x_aload_n rfl rfl ?_
      refine x_iload_n rfl rfl ?_
      refine x_vi lm_S_128 vf_Table_has k0 rfl rfl (Nat.le_of_ble_eq_true rfl) rfl h (fun r4 D3 h => ?_)
      refine x_if_eq (tgt := 36) rfl rfl (fun c => ?_) (fun c => ?_)
      · have h := h.1 c
        refine x_iconst (v := (-1 : Int32)) rfl rfl ?_
        exact x_iret rfl rfl h
      · have h := h.2 c
        refine x_iload_n rfl rfl ?_
        refine x_goto (tgt := 37) rfl rfl ?_
        exact x_iret rfl rfl h
theorem s_S_behind_0 {d : Nat} {D : xD} {Q : Option Value → xD → Prop} {a0 : Nat} {x1 : Int32} {x2 : Int32} {x3 : Int32} {x4 : Int32} {x5 : Int32} (k0 : xk a0 = 0) (h : xCq d m_S_tableAt [.ref a0, .int x1] D (fun o2 D1 => (o2 = none → xCq d m_S_heapAt [.ref a0, .int x2] D1 (fun o6 D5 => (o6 = none → Q (some (.int (-2 : Int32))) D5) ∧ (∀ b7, o6 = some b7 → xk b7 = 2 ∧ Q (some (.int (-2 : Int32))) D5))) ∧ (∀ b3, o2 = some b3 → xk b3 = 4 ∧ xCq d m_S_heapAt [.ref a0, .int x2] D1 (fun o10 D9 => (o10 = none → Q (some (.int (-2 : Int32))) D9) ∧ (∀ b11, o10 = some b11 → xk b11 = 2 ∧ xCi d m_Table_suits [.ref b3, .ref b11] D9 (fun r14 D13 => (r14 = 0 → Q (some (.int (-2 : Int32))) D13) ∧ (¬ r14 = 0 → xCi d m_Table_has [.ref b3, .int x4] D13 (fun r16 D15 => (¬ r16 = 0 → (x3 < 0 → Q (some (.int (-2 : Int32))) D15) ∧ (¬ x3 < 0 → ((2000 : Int32) < x3 → Q (some (.int (-2 : Int32))) D15) ∧ (¬ (2000 : Int32) < x3 → (x5 = (-1 : Int32) → xCv d m_Rounds_play [.ref (a0 + 222), .ref b3, .ref b11, .int x3] D15 (fun D17 => (¬ x5 = (-1 : Int32) → xCi d m_Deal_holdsOf [.ref ((a0 + 222) + 1), .int x4, .int x5] D17 (fun r19 D18 => Q (some (.int r19)) D18)) ∧ (x5 = (-1 : Int32) → xCi d m_Deal_waitsFor [.ref ((a0 + 222) + 1), .int x4] D17 (fun r21 D20 => Q (some (.int r21)) D20)))) ∧ (¬ x5 = (-1 : Int32) → xCi d m_Table_hasKind [.ref b3, .int x5] D15 (fun r23 D22 => (¬ r23 = 0 → xCv d m_Rounds_play [.ref (a0 + 222), .ref b3, .ref b11, .int x3] D22 (fun D24 => (¬ x5 = (-1 : Int32) → xCi d m_Deal_holdsOf [.ref ((a0 + 222) + 1), .int x4, .int x5] D24 (fun r26 D25 => Q (some (.int r26)) D25)) ∧ (x5 = (-1 : Int32) → xCi d m_Deal_waitsFor [.ref ((a0 + 222) + 1), .int x4] D24 (fun r28 D27 => Q (some (.int r28)) D27)))) ∧ (r23 = 0 → Q (some (.int (-2 : Int32))) D22)))))) ∧ (r16 = 0 → Q (some (.int (-2 : Int32))) D15))))))))) : xPf (d + 1) m_S_behind 0 [(0, .ref a0), (1, .int x1), (2, .int x2), (3, .int x3), (4, .int x4), (5, .int x5)] [] D Q := by
  refine x_aload_n rfl rfl ?_
  refine x_iload_n rfl rfl ?_
  refine x_vq lm_S_119 vf_S_tableAt k0 rfl rfl (Nat.le_of_ble_eq_true rfl) rfl h (fun D1 h => ?_) (fun b3 D1 h => ?_)
  · have h := h.1 rfl
    refine x_astoreN (i := 6) (L1 := [(6, .null), (0, .ref a0), (1, .int x1), (2, .int x2), (3, .int x3), (4, .int x4), (5, .int x5)]) rfl (Nat.le_of_ble_eq_true rfl) rfl ?_
    refine x_aload_n rfl rfl ?_
    refine x_iload_n rfl rfl ?_
    refine x_vq lm_S_136 vf_S_heapAt k0 rfl rfl (Nat.le_of_ble_eq_true rfl) rfl h (fun D5 h => ?_) (fun b7 D5 h => ?_)
    · have h := h.1 rfl
      refine x_astoreN (i := 7) (L1 := [(7, .null), (6, .null), (0, .ref a0), (1, .int x1), (2, .int x2), (3, .int x3), (4, .int x4), (5, .int x5)]) rfl (Nat.le_of_ble_eq_true rfl) rfl ?_
      refine x_aloadN rfl rfl ?_
      refine x_ifnullN (tgt := 44) rfl rfl ?_
      refine x_bipush (v := (-2 : Int32)) rfl rfl ?_
      exact x_iret rfl rfl h
    · obtain ⟨k8, h⟩ := h.2 b7 rfl
      refine x_astore (i := 7) (L1 := [(7, .ref b7), (6, .null), (0, .ref a0), (1, .int x1), (2, .int x2), (3, .int x3), (4, .int x4), (5, .int x5)]) rfl (Nat.le_of_ble_eq_true rfl) rfl ?_
      refine x_aloadN rfl rfl ?_
      refine x_ifnullN (tgt := 44) rfl rfl ?_
      refine x_bipush (v := (-2 : Int32)) rfl rfl ?_
      exact x_iret rfl rfl h
  · obtain ⟨k4, h⟩ := h.2 b3 rfl
    refine x_astore (i := 6) (L1 := [(6, .ref b3), (0, .ref a0), (1, .int x1), (2, .int x2), (3, .int x3), (4, .int x4), (5, .int x5)]) rfl (Nat.le_of_ble_eq_true rfl) rfl ?_
    refine x_aload_n rfl rfl ?_
    refine x_iload_n rfl rfl ?_
    refine x_vq lm_S_136 vf_S_heapAt k0 rfl rfl (Nat.le_of_ble_eq_true rfl) rfl h (fun D9 h => ?_) (fun b11 D9 h => ?_)
    · have h := h.1 rfl
      refine x_astoreN (i := 7) (L1 := [(7, .null), (6, .ref b3), (0, .ref a0), (1, .int x1), (2, .int x2), (3, .int x3), (4, .int x4), (5, .int x5)]) rfl (Nat.le_of_ble_eq_true rfl) rfl ?_
      refine x_aload rfl rfl ?_
      refine x_ifnull rfl ?_
      refine x_aloadN rfl rfl ?_
      refine x_ifnullN (tgt := 44) rfl rfl ?_
      refine x_bipush (v := (-2 : Int32)) rfl rfl ?_
      exact x_iret rfl rfl h
    · obtain ⟨k12, h⟩ := h.2 b11 rfl
      refine x_astore (i := 7) (L1 := [(7, .ref b11), (6, .ref b3), (0, .ref a0), (1, .int x1), (2, .int x2), (3, .int x3), (4, .int x4), (5, .int x5)]) rfl (Nat.le_of_ble_eq_true rfl) rfl ?_
      refine x_aload rfl rfl ?_
      refine x_ifnull rfl ?_
      refine x_aload rfl rfl ?_
      refine x_ifnull rfl ?_
      refine x_aload rfl rfl ?_
      refine x_aload rfl rfl ?_
      refine x_vi lm_S_146 vf_Table_suits k4 rfl rfl (Nat.le_of_ble_eq_true rfl) rfl h (fun r14 D13 h => ?_)
      refine x_if_eq (tgt := 44) rfl rfl (fun c => ?_) (fun c => ?_)
      · have h := h.1 c
        refine x_bipush (v := (-2 : Int32)) rfl rfl ?_
        exact x_iret rfl rfl h
      · have h := h.2 c
        refine x_aload rfl rfl ?_
        refine x_iload rfl rfl ?_
        refine x_vi lm_S_128 vf_Table_has k4 rfl rfl (Nat.le_of_ble_eq_true rfl) rfl h (fun r16 D15 h => ?_)
        refine x_if_ne (tgt := 47) rfl rfl (fun c => ?_) (fun c => ?_)
        · have h := h.1 c
          refine x_iload_n rfl rfl ?_
          refine x_if_lt (tgt := 74) rfl rfl (fun c => ?_) (fun c => ?_)
          · have h := h.1 c
            refine x_bipush (v := (-2 : Int32)) rfl rfl ?_
            exact x_iret rfl rfl h
          · have h := h.2 c
            refine x_iload_n rfl rfl ?_
            refine x_sipush (v := (2000 : Int32)) rfl rfl ?_
            refine x_icmp_gt (tgt := 74) rfl rfl (fun c => ?_) (fun c => ?_)
            · have h := h.1 c
              refine x_bipush (v := (-2 : Int32)) rfl rfl ?_
              exact x_iret rfl rfl h
            · have h := h.2 c
              refine x_iload rfl rfl ?_
              refine x_iconst (v := (-1 : Int32)) rfl rfl ?_
              refine x_icmp_eq (tgt := 77) rfl rfl (fun c => ?_) (fun c => ?_)
              · have h := h.1 c
                refine x_aload_n rfl rfl ?_
                refine x_gR lf_S_46 k0 rfl rfl ?_
                refine x_aload rfl rfl ?_
                refine x_aload rfl rfl ?_
                refine x_iload_n rfl rfl ?_
                refine x_vv lm_S_183 vf_Rounds_play (ck_0_5 k0) rfl rfl (Nat.le_of_ble_eq_true rfl) rfl h (fun D17 h => ?_)
                refine x_iload rfl rfl ?_
                refine x_iconst (v := (-1 : Int32)) rfl rfl ?_
                refine x_icmp_ne (tgt := 110) rfl rfl (fun c => ?_) (fun c => ?_)
                · have h := h.1 c
                  refine x_aload_n rfl rfl ?_
                  refine x_gR lf_S_46 k0 rfl rfl ?_
                  refine x_gR lf_S_193 (ck_0_5 k0) rfl rfl ?_
                  refine x_iload rfl rfl ?_
                  refine x_iload rfl rfl ?_
                  refine x_vi lm_S_176 vf_Deal_holdsOf (ck_9_0 (ck_0_5 k0)) rfl rfl (Nat.le_of_ble_eq_true rfl) rfl h (fun r19 D18 h => ?_)
                  exact x_iret rfl rfl h
                · have h := h.2 c
                  refine x_aload_n rfl rfl ?_
                  refine x_gR lf_S_46 k0 rfl rfl ?_
                  refine x_gR lf_S_193 (ck_0_5 k0) rfl rfl ?_
                  refine x_iload rfl rfl ?_
                  refine x_vi lm_S_194 vf_Deal_waitsFor (ck_9_0 (ck_0_5 k0)) rfl rfl (Nat.le_of_ble_eq_true rfl) rfl h (fun r21 D20 h => ?_)
                  refine x_goto (tgt := 124) rfl rfl ?_
                  exact x_iret rfl rfl h
              · have h := h.2 c
                refine x_aload rfl rfl ?_
                refine x_iload rfl rfl ?_
                refine x_vi lm_S_173 vf_Table_hasKind k4 rfl rfl (Nat.le_of_ble_eq_true rfl) rfl h (fun r23 D22 h => ?_)
                refine x_if_ne (tgt := 77) rfl rfl (fun c => ?_) (fun c => ?_)
                · have h := h.1 c
                  refine x_aload_n rfl rfl ?_
                  refine x_gR lf_S_46 k0 rfl rfl ?_
                  refine x_aload rfl rfl ?_
                  refine x_aload rfl rfl ?_
                  refine x_iload_n rfl rfl ?_
                  refine x_vv lm_S_183 vf_Rounds_play (ck_0_5 k0) rfl rfl (Nat.le_of_ble_eq_true rfl) rfl h (fun D24 h => ?_)
                  refine x_iload rfl rfl ?_
                  refine x_iconst (v := (-1 : Int32)) rfl rfl ?_
                  refine x_icmp_ne (tgt := 110) rfl rfl (fun c => ?_) (fun c => ?_)
                  · have h := h.1 c
                    refine x_aload_n rfl rfl ?_
                    refine x_gR lf_S_46 k0 rfl rfl ?_
                    refine x_gR lf_S_193 (ck_0_5 k0) rfl rfl ?_
                    refine x_iload rfl rfl ?_
                    refine x_iload rfl rfl ?_
                    refine x_vi lm_S_176 vf_Deal_holdsOf (ck_9_0 (ck_0_5 k0)) rfl rfl (Nat.le_of_ble_eq_true rfl) rfl h (fun r26 D25 h => ?_)
                    exact x_iret rfl rfl h
                  · have h := h.2 c
                    refine x_aload_n rfl rfl ?_
                    refine x_gR lf_S_46 k0 rfl rfl ?_
                    refine x_gR lf_S_193 (ck_0_5 k0) rfl rfl ?_
                    refine x_iload rfl rfl ?_
                    refine x_vi lm_S_194 vf_Deal_waitsFor (ck_9_0 (ck_0_5 k0)) rfl rfl (Nat.le_of_ble_eq_true rfl) rfl h (fun r28 D27 h => ?_)
                    refine x_goto (tgt := 124) rfl rfl ?_
                    exact x_iret rfl rfl h
                · have h := h.2 c
                  refine x_bipush (v := (-2 : Int32)) rfl rfl ?_
                  exact x_iret rfl rfl h
        · have h := h.2 c
          refine x_bipush (v := (-2 : Int32)) rfl rfl ?_
          exact x_iret rfl rfl h
theorem s_S_shuffled_0 {d : Nat} {D : xD} {Q : Option Value → xD → Prop} {a0 : Nat} {x1 : Int32} {x2 : Int32} {x3 : Int32} (k0 : xk a0 = 0) (h : xCq d m_S_tableAt [.ref a0, .int x1] D (fun o2 D1 => (o2 = none → Q (some (.int (-1 : Int32))) D1) ∧ (∀ b3, o2 = some b3 → xk b3 = 4 ∧ xCq d m_Evenings_shuffledBy [.ref (a0 + 254), .ref b3, .int x2] D1 (fun o6 D5 => (o6 = none → False) ∧ (∀ b7, o6 = some b7 → xk b7 = 2 ∧ xCi d m_Row_reaches [.ref b7, .int x3] D5 (fun r10 D9 => (r10 = 0 → Q (some (.int (-1 : Int32))) D9) ∧ (¬ r10 = 0 → xCi d m_Row_get [.ref b7, .int x3] D9 (fun r12 D11 => Q (some (.int r12)) D11)))))))) : xPf (d + 1) m_S_shuffled 0 [(0, .ref a0), (1, .int x1), (2, .int x2), (3, .int x3)] [] D Q := by
  refine x_aload_n rfl rfl ?_
  refine x_iload_n rfl rfl ?_
  refine x_vq lm_S_119 vf_S_tableAt k0 rfl rfl (Nat.le_of_ble_eq_true rfl) rfl h (fun D1 h => ?_) (fun b3 D1 h => ?_)
  · have h := h.1 rfl
    refine x_astoreN (i := 4) (L1 := [(4, .null), (0, .ref a0), (1, .int x1), (2, .int x2), (3, .int x3)]) rfl (Nat.le_of_ble_eq_true rfl) rfl ?_
    refine x_aloadN rfl rfl ?_
    refine x_ifnonnullN rfl ?_
    refine x_iconst (v := (-1 : Int32)) rfl rfl ?_
    exact x_iret rfl rfl h
  · obtain ⟨k4, h⟩ := h.2 b3 rfl
    refine x_astore (i := 4) (L1 := [(4, .ref b3), (0, .ref a0), (1, .int x1), (2, .int x2), (3, .int x3)]) rfl (Nat.le_of_ble_eq_true rfl) rfl ?_
    refine x_aload rfl rfl ?_
    refine x_ifnonnull (tgt := 14) rfl rfl ?_
    refine x_aload_n rfl rfl ?_
    refine x_gR lf_S_53 k0 rfl rfl ?_
    refine x_aload rfl rfl ?_
    refine x_iload_n rfl rfl ?_
    refine x_vq lm_S_197 vf_Evenings_shuffledBy (ck_0_6 k0) rfl rfl (Nat.le_of_ble_eq_true rfl) rfl h (fun D5 h => ?_) (fun b7 D5 h => ?_)
    · have h := h.1 rfl
      refine x_astoreN (i := 5) (L1 := [(5, .null), (4, .ref b3), (0, .ref a0), (1, .int x1), (2, .int x2), (3, .int x3)]) rfl (Nat.le_of_ble_eq_true rfl) rfl ?_
      refine x_aloadN rfl rfl ?_
      refine x_iload_n rfl rfl ?_
      exact h.elim
    · obtain ⟨k8, h⟩ := h.2 b7 rfl
      refine x_astore (i := 5) (L1 := [(5, .ref b7), (4, .ref b3), (0, .ref a0), (1, .int x1), (2, .int x2), (3, .int x3)]) rfl (Nat.le_of_ble_eq_true rfl) rfl ?_
      refine x_aload rfl rfl ?_
      refine x_iload_n rfl rfl ?_
      refine x_vi lm_S_140 vf_Row_reaches k8 rfl rfl (Nat.le_of_ble_eq_true rfl) rfl h (fun r10 D9 h => ?_)
      refine x_if_eq (tgt := 44) rfl rfl (fun c => ?_) (fun c => ?_)
      · have h := h.1 c
        refine x_iconst (v := (-1 : Int32)) rfl rfl ?_
        exact x_iret rfl rfl h
      · have h := h.2 c
        refine x_aload rfl rfl ?_
        refine x_iload_n rfl rfl ?_
        refine x_vi lm_S_143 vf_Row_get k8 rfl rfl (Nat.le_of_ble_eq_true rfl) rfl h (fun r12 D11 h => ?_)
        refine x_goto (tgt := 45) rfl rfl ?_
        exact x_iret rfl rfl h
theorem s_S_evening_0 {d : Nat} {D : xD} {Q : Option Value → xD → Prop} {a0 : Nat} {x1 : Int32} {x2 : Int32} {x3 : Int32} (k0 : xk a0 = 0) (h : xCq d m_S_tableAt [.ref a0, .int x1] D (fun o2 D1 => (o2 = none → Q (some (.int (-2 : Int32))) D1) ∧ (∀ b3, o2 = some b3 → xk b3 = 4 ∧ xCi d m_S_personAsked [.ref b3, .int x3] D1 (fun r6 D5 => (x3 < 0 → Q (some (.int (-2 : Int32))) D5) ∧ (¬ x3 < 0 → (x3 ≤ (2 : Int32) → xCv d m_Evenings_spend [.ref (a0 + 254), .ref b3, .int x2] D5 (fun D7 => (¬ r6 = (-1 : Int32) → ((20 : Int32) ≤ x3 → xCi d m_Evenings_answerOf [.ref (a0 + 254), .int r6, .int (0 : Int32)] D7 (fun r9 D8 => Q (some (.int r9)) D8)) ∧ (¬ (20 : Int32) ≤ x3 → xCi d m_Evenings_answerOf [.ref (a0 + 254), .int r6, .int (1 : Int32)] D7 (fun r11 D10 => Q (some (.int r11)) D10))) ∧ (r6 = (-1 : Int32) → xCi d m_Evenings_answer [.ref (a0 + 254), .int x3] D7 (fun r13 D12 => Q (some (.int r13)) D12)))) ∧ (¬ x3 ≤ (2 : Int32) → (¬ r6 = (-1 : Int32) → xCv d m_Evenings_spend [.ref (a0 + 254), .ref b3, .int x2] D5 (fun D14 => (¬ r6 = (-1 : Int32) → ((20 : Int32) ≤ x3 → xCi d m_Evenings_answerOf [.ref (a0 + 254), .int r6, .int (0 : Int32)] D14 (fun r16 D15 => Q (some (.int r16)) D15)) ∧ (¬ (20 : Int32) ≤ x3 → xCi d m_Evenings_answerOf [.ref (a0 + 254), .int r6, .int (1 : Int32)] D14 (fun r18 D17 => Q (some (.int r18)) D17))) ∧ (r6 = (-1 : Int32) → xCi d m_Evenings_answer [.ref (a0 + 254), .int x3] D14 (fun r20 D19 => Q (some (.int r20)) D19)))) ∧ (r6 = (-1 : Int32) → Q (some (.int (-2 : Int32))) D5))))))) : xPf (d + 1) m_S_evening 0 [(0, .ref a0), (1, .int x1), (2, .int x2), (3, .int x3)] [] D Q := by
  refine x_aload_n rfl rfl ?_
  refine x_iload_n rfl rfl ?_
  refine x_vq lm_S_119 vf_S_tableAt k0 rfl rfl (Nat.le_of_ble_eq_true rfl) rfl h (fun D1 h => ?_) (fun b3 D1 h => ?_)
  · have h := h.1 rfl
    refine x_astoreN (i := 4) (L1 := [(4, .null), (0, .ref a0), (1, .int x1), (2, .int x2), (3, .int x3)]) rfl (Nat.le_of_ble_eq_true rfl) rfl ?_
    refine x_aloadN rfl rfl ?_
    refine x_ifnonnullN rfl ?_
    refine x_bipush (v := (-2 : Int32)) rfl rfl ?_
    exact x_iret rfl rfl h
  · obtain ⟨k4, h⟩ := h.2 b3 rfl
    refine x_astore (i := 4) (L1 := [(4, .ref b3), (0, .ref a0), (1, .int x1), (2, .int x2), (3, .int x3)]) rfl (Nat.le_of_ble_eq_true rfl) rfl ?_
    refine x_aload rfl rfl ?_
    refine x_ifnonnull (tgt := 15) rfl rfl ?_
    refine x_aload rfl rfl ?_
    refine x_iload_n rfl rfl ?_
    refine x_si lm_S_179 sf_S_personAsked rfl rfl (Nat.le_of_ble_eq_true rfl) rfl h (fun r6 D5 h => ?_)
    refine x_istore (i := 5) (L1 := [(5, .int r6), (4, .ref b3), (0, .ref a0), (1, .int x1), (2, .int x2), (3, .int x3)]) rfl (Nat.le_of_ble_eq_true rfl) rfl ?_
    refine x_iload_n rfl rfl ?_
    refine x_if_lt (tgt := 38) rfl rfl (fun c => ?_) (fun c => ?_)
    · have h := h.1 c
      refine x_bipush (v := (-2 : Int32)) rfl rfl ?_
      exact x_iret rfl rfl h
    · have h := h.2 c
      refine x_iload_n rfl rfl ?_
      refine x_iconst (v := (2 : Int32)) rfl rfl ?_
      refine x_icmp_le (tgt := 41) rfl rfl (fun c => ?_) (fun c => ?_)
      · have h := h.1 c
        refine x_aload_n rfl rfl ?_
        refine x_gR lf_S_53 k0 rfl rfl ?_
        refine x_aload rfl rfl ?_
        refine x_iload_n rfl rfl ?_
        refine x_vv lm_S_201 vf_Evenings_spend (ck_0_6 k0) rfl rfl (Nat.le_of_ble_eq_true rfl) rfl h (fun D7 h => ?_)
        refine x_iload rfl rfl ?_
        refine x_iconst (v := (-1 : Int32)) rfl rfl ?_
        refine x_icmp_ne (tgt := 68) rfl rfl (fun c => ?_) (fun c => ?_)
        · have h := h.1 c
          refine x_aload_n rfl rfl ?_
          refine x_gR lf_S_53 k0 rfl rfl ?_
          refine x_iload rfl rfl ?_
          refine x_iload_n rfl rfl ?_
          refine x_bipush (v := (20 : Int32)) rfl rfl ?_
          refine x_icmp_ge (tgt := 84) rfl rfl (fun c => ?_) (fun c => ?_)
          · have h := h.1 c
            refine x_iconst (v := (0 : Int32)) rfl rfl ?_
            refine x_vi lm_S_206 vf_Evenings_answerOf (ck_0_6 k0) rfl rfl (Nat.le_of_ble_eq_true rfl) rfl h (fun r9 D8 h => ?_)
            exact x_iret rfl rfl h
          · have h := h.2 c
            refine x_iconst (v := (1 : Int32)) rfl rfl ?_
            refine x_goto (tgt := 85) rfl rfl ?_
            refine x_vi lm_S_206 vf_Evenings_answerOf (ck_0_6 k0) rfl rfl (Nat.le_of_ble_eq_true rfl) rfl h (fun r11 D10 h => ?_)
            exact x_iret rfl rfl h
        · have h := h.2 c
          refine x_aload_n rfl rfl ?_
          refine x_gR lf_S_53 k0 rfl rfl ?_
          refine x_iload_n rfl rfl ?_
          refine x_vi lm_S_205 vf_Evenings_answer (ck_0_6 k0) rfl rfl (Nat.le_of_ble_eq_true rfl) rfl h (fun r13 D12 h => ?_)
          refine x_goto (tgt := 88) rfl rfl ?_
          exact x_iret rfl rfl h
      · have h := h.2 c
        refine x_iload rfl rfl ?_
        refine x_iconst (v := (-1 : Int32)) rfl rfl ?_
        refine x_icmp_ne (tgt := 41) rfl rfl (fun c => ?_) (fun c => ?_)
        · have h := h.1 c
          refine x_aload_n rfl rfl ?_
          refine x_gR lf_S_53 k0 rfl rfl ?_
          refine x_aload rfl rfl ?_
          refine x_iload_n rfl rfl ?_
          refine x_vv lm_S_201 vf_Evenings_spend (ck_0_6 k0) rfl rfl (Nat.le_of_ble_eq_true rfl) rfl h (fun D14 h => ?_)
          refine x_iload rfl rfl ?_
          refine x_iconst (v := (-1 : Int32)) rfl rfl ?_
          refine x_icmp_ne (tgt := 68) rfl rfl (fun c => ?_) (fun c => ?_)
          · have h := h.1 c
            refine x_aload_n rfl rfl ?_
            refine x_gR lf_S_53 k0 rfl rfl ?_
            refine x_iload rfl rfl ?_
            refine x_iload_n rfl rfl ?_
            refine x_bipush (v := (20 : Int32)) rfl rfl ?_
            refine x_icmp_ge (tgt := 84) rfl rfl (fun c => ?_) (fun c => ?_)
            · have h := h.1 c
              refine x_iconst (v := (0 : Int32)) rfl rfl ?_
              refine x_vi lm_S_206 vf_Evenings_answerOf (ck_0_6 k0) rfl rfl (Nat.le_of_ble_eq_true rfl) rfl h (fun r16 D15 h => ?_)
              exact x_iret rfl rfl h
            · have h := h.2 c
              refine x_iconst (v := (1 : Int32)) rfl rfl ?_
              refine x_goto (tgt := 85) rfl rfl ?_
              refine x_vi lm_S_206 vf_Evenings_answerOf (ck_0_6 k0) rfl rfl (Nat.le_of_ble_eq_true rfl) rfl h (fun r18 D17 h => ?_)
              exact x_iret rfl rfl h
          · have h := h.2 c
            refine x_aload_n rfl rfl ?_
            refine x_gR lf_S_53 k0 rfl rfl ?_
            refine x_iload_n rfl rfl ?_
            refine x_vi lm_S_205 vf_Evenings_answer (ck_0_6 k0) rfl rfl (Nat.le_of_ble_eq_true rfl) rfl h (fun r20 D19 h => ?_)
            refine x_goto (tgt := 88) rfl rfl ?_
            exact x_iret rfl rfl h
        · have h := h.2 c
          refine x_bipush (v := (-2 : Int32)) rfl rfl ?_
          exact x_iret rfl rfl h
theorem s_S_luck_0 {d : Nat} {D : xD} {Q : Option Value → xD → Prop} {a0 : Nat} {x1 : Int32} {x2 : Int32} {x3 : Int32} {x4 : Int32} (k0 : xk a0 = 0) (h : xCq d m_S_tableAt [.ref a0, .int x1] D (fun o2 D1 => (o2 = none → Q (some (.int (-1 : Int32))) D1) ∧ (∀ b3, o2 = some b3 → xk b3 = 4 ∧ (x3 < (1 : Int32) → Q (some (.int (-1 : Int32))) D1) ∧ (¬ x3 < (1 : Int32) → (x3 ≤ (20 : Int32) → xCi d m_S_personAsked [.ref b3, .int x4] D1 (fun r6 D5 => (x4 = 0 → xCv d m_Evenings_playRounds [.ref (a0 + 254), .ref b3, .int x2, .int x3] D5 (fun D7 => (¬ r6 = (-1 : Int32) → ((20 : Int32) ≤ x4 → xCi d m_Evenings_timesLast [.ref (a0 + 254), .ref b3, .int r6] D7 (fun r9 D8 => Q (some (.int r9)) D8)) ∧ (¬ (20 : Int32) ≤ x4 → xCi d m_Evenings_timesFirst [.ref (a0 + 254), .int r6] D7 (fun r11 D10 => Q (some (.int r11)) D10))) ∧ (r6 = (-1 : Int32) → xCi d m_Evenings_timesFirst [.ref (a0 + 254), .int (-1 : Int32)] D7 (fun r13 D12 => Q (some (.int r13)) D12)))) ∧ (¬ x4 = 0 → (¬ r6 = (-1 : Int32) → xCv d m_Evenings_playRounds [.ref (a0 + 254), .ref b3, .int x2, .int x3] D5 (fun D14 => (¬ r6 = (-1 : Int32) → ((20 : Int32) ≤ x4 → xCi d m_Evenings_timesLast [.ref (a0 + 254), .ref b3, .int r6] D14 (fun r16 D15 => Q (some (.int r16)) D15)) ∧ (¬ (20 : Int32) ≤ x4 → xCi d m_Evenings_timesFirst [.ref (a0 + 254), .int r6] D14 (fun r18 D17 => Q (some (.int r18)) D17))) ∧ (r6 = (-1 : Int32) → xCi d m_Evenings_timesFirst [.ref (a0 + 254), .int (-1 : Int32)] D14 (fun r20 D19 => Q (some (.int r20)) D19)))) ∧ (r6 = (-1 : Int32) → Q (some (.int (-1 : Int32))) D5)))) ∧ (¬ x3 ≤ (20 : Int32) → Q (some (.int (-1 : Int32))) D1))))) : xPf (d + 1) m_S_luck 0 [(0, .ref a0), (1, .int x1), (2, .int x2), (3, .int x3), (4, .int x4)] [] D Q := by
  refine x_aload_n rfl rfl ?_
  refine x_iload_n rfl rfl ?_
  refine x_vq lm_S_119 vf_S_tableAt k0 rfl rfl (Nat.le_of_ble_eq_true rfl) rfl h (fun D1 h => ?_) (fun b3 D1 h => ?_)
  · have h := h.1 rfl
    refine x_astoreN (i := 5) (L1 := [(5, .null), (0, .ref a0), (1, .int x1), (2, .int x2), (3, .int x3), (4, .int x4)]) rfl (Nat.le_of_ble_eq_true rfl) rfl ?_
    refine x_aloadN rfl rfl ?_
    refine x_ifnullN (tgt := 23) rfl rfl ?_
    refine x_iconst (v := (-1 : Int32)) rfl rfl ?_
    exact x_iret rfl rfl h
  · obtain ⟨k4, h⟩ := h.2 b3 rfl
    refine x_astore (i := 5) (L1 := [(5, .ref b3), (0, .ref a0), (1, .int x1), (2, .int x2), (3, .int x3), (4, .int x4)]) rfl (Nat.le_of_ble_eq_true rfl) rfl ?_
    refine x_aload rfl rfl ?_
    refine x_ifnull rfl ?_
    refine x_iload_n rfl rfl ?_
    refine x_iconst (v := (1 : Int32)) rfl rfl ?_
    refine x_icmp_lt (tgt := 23) rfl rfl (fun c => ?_) (fun c => ?_)
    · have h := h.1 c
      refine x_iconst (v := (-1 : Int32)) rfl rfl ?_
      exact x_iret rfl rfl h
    · have h := h.2 c
      refine x_iload_n rfl rfl ?_
      refine x_bipush (v := (20 : Int32)) rfl rfl ?_
      refine x_icmp_le (tgt := 25) rfl rfl (fun c => ?_) (fun c => ?_)
      · have h := h.1 c
        refine x_aload rfl rfl ?_
        refine x_iload rfl rfl ?_
        refine x_si lm_S_179 sf_S_personAsked rfl rfl (Nat.le_of_ble_eq_true rfl) rfl h (fun r6 D5 h => ?_)
        refine x_istore (i := 6) (L1 := [(6, .int r6), (5, .ref b3), (0, .ref a0), (1, .int x1), (2, .int x2), (3, .int x3), (4, .int x4)]) rfl (Nat.le_of_ble_eq_true rfl) rfl ?_
        refine x_iload rfl rfl ?_
        refine x_if_eq (tgt := 47) rfl rfl (fun c => ?_) (fun c => ?_)
        · have h := h.1 c
          refine x_aload_n rfl rfl ?_
          refine x_gR lf_S_53 k0 rfl rfl ?_
          refine x_aload rfl rfl ?_
          refine x_iload_n rfl rfl ?_
          refine x_iload_n rfl rfl ?_
          refine x_vv lm_S_209 vf_Evenings_playRounds (ck_0_6 k0) rfl rfl (Nat.le_of_ble_eq_true rfl) rfl h (fun D7 h => ?_)
          refine x_iload rfl rfl ?_
          refine x_iconst (v := (-1 : Int32)) rfl rfl ?_
          refine x_icmp_ne (tgt := 73) rfl rfl (fun c => ?_) (fun c => ?_)
          · have h := h.1 c
            refine x_iload rfl rfl ?_
            refine x_bipush (v := (20 : Int32)) rfl rfl ?_
            refine x_icmp_ge (tgt := 92) rfl rfl (fun c => ?_) (fun c => ?_)
            · have h := h.1 c
              refine x_aload_n rfl rfl ?_
              refine x_gR lf_S_53 k0 rfl rfl ?_
              refine x_aload rfl rfl ?_
              refine x_iload rfl rfl ?_
              refine x_vi lm_S_216 vf_Evenings_timesLast (ck_0_6 k0) rfl rfl (Nat.le_of_ble_eq_true rfl) rfl h (fun r9 D8 h => ?_)
              exact x_iret rfl rfl h
            · have h := h.2 c
              refine x_aload_n rfl rfl ?_
              refine x_gR lf_S_53 k0 rfl rfl ?_
              refine x_iload rfl rfl ?_
              refine x_vi lm_S_213 vf_Evenings_timesFirst (ck_0_6 k0) rfl rfl (Nat.le_of_ble_eq_true rfl) rfl h (fun r11 D10 h => ?_)
              refine x_goto (tgt := 103) rfl rfl ?_
              exact x_iret rfl rfl h
          · have h := h.2 c
            refine x_aload_n rfl rfl ?_
            refine x_gR lf_S_53 k0 rfl rfl ?_
            refine x_iconst (v := (-1 : Int32)) rfl rfl ?_
            refine x_vi lm_S_213 vf_Evenings_timesFirst (ck_0_6 k0) rfl rfl (Nat.le_of_ble_eq_true rfl) rfl h (fun r13 D12 h => ?_)
            exact x_iret rfl rfl h
        · have h := h.2 c
          refine x_iload rfl rfl ?_
          refine x_iconst (v := (-1 : Int32)) rfl rfl ?_
          refine x_icmp_ne (tgt := 47) rfl rfl (fun c => ?_) (fun c => ?_)
          · have h := h.1 c
            refine x_aload_n rfl rfl ?_
            refine x_gR lf_S_53 k0 rfl rfl ?_
            refine x_aload rfl rfl ?_
            refine x_iload_n rfl rfl ?_
            refine x_iload_n rfl rfl ?_
            refine x_vv lm_S_209 vf_Evenings_playRounds (ck_0_6 k0) rfl rfl (Nat.le_of_ble_eq_true rfl) rfl h (fun D14 h => ?_)
            refine x_iload rfl rfl ?_
            refine x_iconst (v := (-1 : Int32)) rfl rfl ?_
            refine x_icmp_ne (tgt := 73) rfl rfl (fun c => ?_) (fun c => ?_)
            · have h := h.1 c
              refine x_iload rfl rfl ?_
              refine x_bipush (v := (20 : Int32)) rfl rfl ?_
              refine x_icmp_ge (tgt := 92) rfl rfl (fun c => ?_) (fun c => ?_)
              · have h := h.1 c
                refine x_aload_n rfl rfl ?_
                refine x_gR lf_S_53 k0 rfl rfl ?_
                refine x_aload rfl rfl ?_
                refine x_iload rfl rfl ?_
                refine x_vi lm_S_216 vf_Evenings_timesLast (ck_0_6 k0) rfl rfl (Nat.le_of_ble_eq_true rfl) rfl h (fun r16 D15 h => ?_)
                exact x_iret rfl rfl h
              · have h := h.2 c
                refine x_aload_n rfl rfl ?_
                refine x_gR lf_S_53 k0 rfl rfl ?_
                refine x_iload rfl rfl ?_
                refine x_vi lm_S_213 vf_Evenings_timesFirst (ck_0_6 k0) rfl rfl (Nat.le_of_ble_eq_true rfl) rfl h (fun r18 D17 h => ?_)
                refine x_goto (tgt := 103) rfl rfl ?_
                exact x_iret rfl rfl h
            · have h := h.2 c
              refine x_aload_n rfl rfl ?_
              refine x_gR lf_S_53 k0 rfl rfl ?_
              refine x_iconst (v := (-1 : Int32)) rfl rfl ?_
              refine x_vi lm_S_213 vf_Evenings_timesFirst (ck_0_6 k0) rfl rfl (Nat.le_of_ble_eq_true rfl) rfl h (fun r20 D19 h => ?_)
              exact x_iret rfl rfl h
          · have h := h.2 c
            refine x_iconst (v := (-1 : Int32)) rfl rfl ?_
            exact x_iret rfl rfl h
      · have h := h.2 c
        refine x_iconst (v := (-1 : Int32)) rfl rfl ?_
        exact x_iret rfl rfl h
theorem s_S_otherwise_0 {d : Nat} {D : xD} {Q : Option Value → xD → Prop} {a0 : Nat} {x1 : Int32} {x2 : Int32} {x3 : Int32} {x4 : Int32} {x5 : Int32} {x6 : Int32} {x7 : Int32} (k0 : xk a0 = 0) (h : xCq d m_S_tableAt [.ref a0, .int x1] D (fun o2 D1 => (o2 = none → Q (some (.int (-1 : Int32))) D1) ∧ (∀ b3, o2 = some b3 → xk b3 = 4 ∧ xCi d m_Table_has [.ref b3, .int x4] D1 (fun r6 D5 => (r6 = 0 → Q (some (.int (-1 : Int32))) D5) ∧ (¬ r6 = 0 → (x3 < (1 : Int32) → Q (some (.int (-1 : Int32))) D5) ∧ (¬ x3 < (1 : Int32) → ((20 : Int32) < x3 → Q (some (.int (-1 : Int32))) D5) ∧ (¬ (20 : Int32) < x3 → (x5 < 0 → Q (some (.int (-1 : Int32))) D5) ∧ (¬ x5 < 0 → (x5 ≤ (5 : Int32) → (¬ x6 = (-1 : Int32) → xCi d m_Evenings_leastValue [.int x5] D5 (fun r8 D7 => (x6 < r8 → Q (some (.int (-1 : Int32))) D7) ∧ (¬ x6 < r8 → xCi d m_Evenings_greatestValue [.ref b3, .int x5] D7 (fun r10 D9 => (x6 ≤ r10 → xCi d m_Evenings_wouldBe [.ref (a0 + 254), .ref b3, .int x2, .int x3, .int x4, .int x5, .int x6, .int x7] D9 (fun r12 D11 => Q (some (.int r12)) D11)) ∧ (¬ x6 ≤ r10 → Q (some (.int (-1 : Int32))) D9))))) ∧ (x6 = (-1 : Int32) → xCi d m_Evenings_better [.ref (a0 + 254), .ref b3, .int x2, .int x3, .int x4, .int x5] D5 (fun r14 D13 => Q (some (.int r14)) D13))) ∧ (¬ x5 ≤ (5 : Int32) → Q (some (.int (-1 : Int32))) D5))))))))) : xPf (d + 1) m_S_otherwise 0 [(0, .ref a0), (1, .int x1), (2, .int x2), (3, .int x3), (4, .int x4), (5, .int x5), (6, .int x6), (7, .int x7)] [] D Q := by
  refine x_aload_n rfl rfl ?_
  refine x_iload_n rfl rfl ?_
  refine x_vq lm_S_119 vf_S_tableAt k0 rfl rfl (Nat.le_of_ble_eq_true rfl) rfl h (fun D1 h => ?_) (fun b3 D1 h => ?_)
  · have h := h.1 rfl
    refine x_astoreN (i := 8) (L1 := [(8, .null), (0, .ref a0), (1, .int x1), (2, .int x2), (3, .int x3), (4, .int x4), (5, .int x5), (6, .int x6), (7, .int x7)]) rfl (Nat.le_of_ble_eq_true rfl) rfl ?_
    refine x_aloadN rfl rfl ?_
    refine x_ifnullN (tgt := 44) rfl rfl ?_
    refine x_iconst (v := (-1 : Int32)) rfl rfl ?_
    exact x_iret rfl rfl h
  · obtain ⟨k4, h⟩ := h.2 b3 rfl
    refine x_astore (i := 8) (L1 := [(8, .ref b3), (0, .ref a0), (1, .int x1), (2, .int x2), (3, .int x3), (4, .int x4), (5, .int x5), (6, .int x6), (7, .int x7)]) rfl (Nat.le_of_ble_eq_true rfl) rfl ?_
    refine x_aload rfl rfl ?_
    refine x_ifnull rfl ?_
    refine x_aload rfl rfl ?_
    refine x_iload rfl rfl ?_
    refine x_vi lm_S_128 vf_Table_has k4 rfl rfl (Nat.le_of_ble_eq_true rfl) rfl h (fun r6 D5 h => ?_)
    refine x_if_eq (tgt := 44) rfl rfl (fun c => ?_) (fun c => ?_)
    · have h := h.1 c
      refine x_iconst (v := (-1 : Int32)) rfl rfl ?_
      exact x_iret rfl rfl h
    · have h := h.2 c
      refine x_iload_n rfl rfl ?_
      refine x_iconst (v := (1 : Int32)) rfl rfl ?_
      refine x_icmp_lt (tgt := 44) rfl rfl (fun c => ?_) (fun c => ?_)
      · have h := h.1 c
        refine x_iconst (v := (-1 : Int32)) rfl rfl ?_
        exact x_iret rfl rfl h
      · have h := h.2 c
        refine x_iload_n rfl rfl ?_
        refine x_bipush (v := (20 : Int32)) rfl rfl ?_
        refine x_icmp_gt (tgt := 44) rfl rfl (fun c => ?_) (fun c => ?_)
        · have h := h.1 c
          refine x_iconst (v := (-1 : Int32)) rfl rfl ?_
          exact x_iret rfl rfl h
        · have h := h.2 c
          refine x_iload rfl rfl ?_
          refine x_if_lt (tgt := 44) rfl rfl (fun c => ?_) (fun c => ?_)
          · have h := h.1 c
            refine x_iconst (v := (-1 : Int32)) rfl rfl ?_
            exact x_iret rfl rfl h
          · have h := h.2 c
            refine x_iload rfl rfl ?_
            refine x_iconst (v := (5 : Int32)) rfl rfl ?_
            refine x_icmp_le (tgt := 46) rfl rfl (fun c => ?_) (fun c => ?_)
            · have h := h.1 c
              refine x_iload rfl rfl ?_
              refine x_iconst (v := (-1 : Int32)) rfl rfl ?_
              refine x_icmp_ne (tgt := 68) rfl rfl (fun c => ?_) (fun c => ?_)
              · have h := h.1 c
                refine x_iload rfl rfl ?_
                refine x_iload rfl rfl ?_
                refine x_si lm_S_223 sf_Evenings_leastValue rfl rfl (Nat.le_of_ble_eq_true rfl) rfl h (fun r8 D7 h => ?_)
                refine x_icmp_lt (tgt := 90) rfl rfl (fun c => ?_) (fun c => ?_)
                · have h := h.1 c
                  refine x_iconst (v := (-1 : Int32)) rfl rfl ?_
                  exact x_iret rfl rfl h
                · have h := h.2 c
                  refine x_iload rfl rfl ?_
                  refine x_aload rfl rfl ?_
                  refine x_iload rfl rfl ?_
                  refine x_si lm_S_226 sf_Evenings_greatestValue rfl rfl (Nat.le_of_ble_eq_true rfl) rfl h (fun r10 D9 h => ?_)
                  refine x_icmp_le (tgt := 92) rfl rfl (fun c => ?_) (fun c => ?_)
                  · have h := h.1 c
                    refine x_aload_n rfl rfl ?_
                    refine x_gR lf_S_53 k0 rfl rfl ?_
                    refine x_aload rfl rfl ?_
                    refine x_iload_n rfl rfl ?_
                    refine x_iload_n rfl rfl ?_
                    refine x_iload rfl rfl ?_
                    refine x_iload rfl rfl ?_
                    refine x_iload rfl rfl ?_
                    refine x_iload rfl rfl ?_
                    refine x_vi lm_S_229 vf_Evenings_wouldBe (ck_0_6 k0) rfl rfl (Nat.le_of_ble_eq_true rfl) rfl h (fun r12 D11 h => ?_)
                    exact x_iret rfl rfl h
                  · have h := h.2 c
                    refine x_iconst (v := (-1 : Int32)) rfl rfl ?_
                    exact x_iret rfl rfl h
              · have h := h.2 c
                refine x_aload_n rfl rfl ?_
                refine x_gR lf_S_53 k0 rfl rfl ?_
                refine x_aload rfl rfl ?_
                refine x_iload_n rfl rfl ?_
                refine x_iload_n rfl rfl ?_
                refine x_iload rfl rfl ?_
                refine x_iload rfl rfl ?_
                refine x_vi lm_S_219 vf_Evenings_better (ck_0_6 k0) rfl rfl (Nat.le_of_ble_eq_true rfl) rfl h (fun r14 D13 h => ?_)
                exact x_iret rfl rfl h
            · have h := h.2 c
              refine x_iconst (v := (-1 : Int32)) rfl rfl ?_
              exact x_iret rfl rfl h
theorem s_S_hand_0 {d : Nat} {D : xD} {Q : Option Value → xD → Prop} {a0 : Nat} {x1 : Int32} {x2 : Int32} (k0 : xk a0 = 0) (h : xCq d m_Told_sheetAt [.ref (a0 + 1), .int (3 : Int32), .int x1] D (fun o2 D1 => (o2 = none → Q (some (.int (-2 : Int32))) D1) ∧ (∀ b3, o2 = some b3 → xk b3 = 3 ∧ (x2 = 0 → (¬ x2 = 0 → xCi d m_Row_size [.ref (b3 + 12)] D1 (fun r6 D5 => Q (some (.int r6)) D5)) ∧ (x2 = 0 → xCi d m_Row_size [.ref (b3 + 10)] D1 (fun r8 D7 => Q (some (.int r8)) D7))) ∧ (¬ x2 = 0 → (¬ x2 = (1 : Int32) → (x2 < (100 : Int32) → (x2 < (10 : Int32) → Q (some (.int (-2 : Int32))) D1) ∧ (¬ x2 < (10 : Int32) → xCi d m_Row_reaches [.ref (b3 + 10), .int (x2 - (10 : Int32))] D1 (fun r10 D9 => (r10 = 0 → Q (some (.int (-2 : Int32))) D9) ∧ (¬ r10 = 0 → xCi d m_Row_get [.ref (b3 + 10), .int (x2 - (10 : Int32))] D9 (fun r12 D11 => Q (some (.int r12)) D11))))) ∧ (¬ x2 < (100 : Int32) → xCi d m_Row_reaches [.ref (b3 + 12), .int (x2 - (100 : Int32))] D1 (fun r14 D13 => (r14 = 0 → Q (some (.int (-2 : Int32))) D13) ∧ (¬ r14 = 0 → xCi d m_Row_get [.ref (b3 + 12), .int (x2 - (100 : Int32))] D13 (fun r16 D15 => Q (some (.int r16)) D15))))) ∧ (x2 = (1 : Int32) → (¬ x2 = 0 → xCi d m_Row_size [.ref (b3 + 12)] D1 (fun r18 D17 => Q (some (.int r18)) D17)) ∧ (x2 = 0 → xCi d m_Row_size [.ref (b3 + 10)] D1 (fun r20 D19 => Q (some (.int r20)) D19))))))) : xPf (d + 1) m_S_hand 0 [(0, .ref a0), (1, .int x1), (2, .int x2)] [] D Q := by
  refine x_aload_n rfl rfl ?_
  refine x_gR lf_S_10 k0 rfl rfl ?_
  refine x_iconst (v := (3 : Int32)) rfl rfl ?_
  refine x_iload_n rfl rfl ?_
  refine x_vq lm_S_233 vf_Told_sheetAt (ck_0_0 k0) rfl rfl (Nat.le_of_ble_eq_true rfl) rfl h (fun D1 h => ?_) (fun b3 D1 h => ?_)
  · have h := h.1 rfl
    refine x_astore_nN (i := 3) (L1 := [(3, .null), (0, .ref a0), (1, .int x1), (2, .int x2)]) rfl rfl (Nat.le_of_ble_eq_true rfl) rfl ?_
    refine x_aload_nN rfl rfl ?_
    refine x_ifnonnullN rfl ?_
    refine x_bipush (v := (-2 : Int32)) rfl rfl ?_
    exact x_iret rfl rfl h
  · obtain ⟨k4, h⟩ := h.2 b3 rfl
    refine x_astore_n (i := 3) (L1 := [(3, .ref b3), (0, .ref a0), (1, .int x1), (2, .int x2)]) rfl rfl (Nat.le_of_ble_eq_true rfl) rfl ?_
    refine x_aload_n rfl rfl ?_
    refine x_ifnonnull (tgt := 17) rfl rfl ?_
    refine x_iload_n rfl rfl ?_
    refine x_if_eq (tgt := 26) rfl rfl (fun c => ?_) (fun c => ?_)
    · have h := h.1 c
      refine x_iload_n rfl rfl ?_
      refine x_if_ne (tgt := 40) rfl rfl (fun c => ?_) (fun c => ?_)
      · have h := h.1 c
        refine x_aload_n rfl rfl ?_
        refine x_gR lf_S_242 k4 rfl rfl ?_
        refine x_vi lm_S_78 vf_Row_size (ck_3_4 k4) rfl rfl (Nat.le_of_ble_eq_true rfl) rfl h (fun r6 D5 h => ?_)
        exact x_iret rfl rfl h
      · have h := h.2 c
        refine x_aload_n rfl rfl ?_
        refine x_gR lf_S_237 k4 rfl rfl ?_
        refine x_vi lm_S_78 vf_Row_size (ck_3_3 k4) rfl rfl (Nat.le_of_ble_eq_true rfl) rfl h (fun r8 D7 h => ?_)
        refine x_goto (tgt := 47) rfl rfl ?_
        exact x_iret rfl rfl h
    · have h := h.2 c
      refine x_iload_n rfl rfl ?_
      refine x_iconst (v := (1 : Int32)) rfl rfl ?_
      refine x_icmp_ne (tgt := 48) rfl rfl (fun c => ?_) (fun c => ?_)
      · have h := h.1 c
        refine x_iload_n rfl rfl ?_
        refine x_bipush (v := (100 : Int32)) rfl rfl ?_
        refine x_icmp_lt (tgt := 85) rfl rfl (fun c => ?_) (fun c => ?_)
        · have h := h.1 c
          refine x_iload_n rfl rfl ?_
          refine x_bipush (v := (10 : Int32)) rfl rfl ?_
          refine x_icmp_lt (tgt := 119) rfl rfl (fun c => ?_) (fun c => ?_)
          · have h := h.1 c
            refine x_bipush (v := (-2 : Int32)) rfl rfl ?_
            exact x_iret rfl rfl h
          · have h := h.2 c
            refine x_aload_n rfl rfl ?_
            refine x_gR lf_S_237 k4 rfl rfl ?_
            refine x_iload_n rfl rfl ?_
            refine x_bipush (v := (10 : Int32)) rfl rfl ?_
            refine x_isub rfl ?_
            refine x_vi lm_S_140 vf_Row_reaches (ck_3_3 k4) rfl rfl (Nat.le_of_ble_eq_true rfl) rfl h (fun r10 D9 h => ?_)
            refine x_if_eq (tgt := 119) rfl rfl (fun c => ?_) (fun c => ?_)
            · have h := h.1 c
              refine x_bipush (v := (-2 : Int32)) rfl rfl ?_
              exact x_iret rfl rfl h
            · have h := h.2 c
              refine x_aload_n rfl rfl ?_
              refine x_gR lf_S_237 k4 rfl rfl ?_
              refine x_iload_n rfl rfl ?_
              refine x_bipush (v := (10 : Int32)) rfl rfl ?_
              refine x_isub rfl ?_
              refine x_vi lm_S_143 vf_Row_get (ck_3_3 k4) rfl rfl (Nat.le_of_ble_eq_true rfl) rfl h (fun r12 D11 h => ?_)
              refine x_goto (tgt := 121) rfl rfl ?_
              exact x_iret rfl rfl h
        · have h := h.2 c
          refine x_aload_n rfl rfl ?_
          refine x_gR lf_S_242 k4 rfl rfl ?_
          refine x_iload_n rfl rfl ?_
          refine x_bipush (v := (100 : Int32)) rfl rfl ?_
          refine x_isub rfl ?_
          refine x_vi lm_S_140 vf_Row_reaches (ck_3_4 k4) rfl rfl (Nat.le_of_ble_eq_true rfl) rfl h (fun r14 D13 h => ?_)
          refine x_if_eq (tgt := 82) rfl rfl (fun c => ?_) (fun c => ?_)
          · have h := h.1 c
            refine x_bipush (v := (-2 : Int32)) rfl rfl ?_
            exact x_iret rfl rfl h
          · have h := h.2 c
            refine x_aload_n rfl rfl ?_
            refine x_gR lf_S_242 k4 rfl rfl ?_
            refine x_iload_n rfl rfl ?_
            refine x_bipush (v := (100 : Int32)) rfl rfl ?_
            refine x_isub rfl ?_
            refine x_vi lm_S_143 vf_Row_get (ck_3_4 k4) rfl rfl (Nat.le_of_ble_eq_true rfl) rfl h (fun r16 D15 h => ?_)
            refine x_goto (tgt := 84) rfl rfl ?_
            exact x_iret rfl rfl h
      · have h := h.2 c
        refine x_iload_n rfl rfl ?_
        refine x_if_ne (tgt := 40) rfl rfl (fun c => ?_) (fun c => ?_)
        · have h := h.1 c
          refine x_aload_n rfl rfl ?_
          refine x_gR lf_S_242 k4 rfl rfl ?_
          refine x_vi lm_S_78 vf_Row_size (ck_3_4 k4) rfl rfl (Nat.le_of_ble_eq_true rfl) rfl h (fun r18 D17 h => ?_)
          exact x_iret rfl rfl h
        · have h := h.2 c
          refine x_aload_n rfl rfl ?_
          refine x_gR lf_S_237 k4 rfl rfl ?_
          refine x_vi lm_S_78 vf_Row_size (ck_3_3 k4) rfl rfl (Nat.le_of_ble_eq_true rfl) rfl h (fun r20 D19 h => ?_)
          refine x_goto (tgt := 47) rfl rfl ?_
          exact x_iret rfl rfl h
theorem s_S_lies_0 {d : Nat} {D : xD} {Q : Option Value → xD → Prop} {a0 : Nat} {x1 : Int32} {x2 : Int32} (k0 : xk a0 = 0) (h : xCq d m_S_tableAt [.ref a0, .int x1] D (fun o2 D1 => (o2 = none → xCq d m_Told_sheetAt [.ref (a0 + 1), .int (3 : Int32), .int x2] D1 (fun o6 D5 => (o6 = none → Q (some (.int (0 : Int32))) D5) ∧ (∀ b7, o6 = some b7 → xk b7 = 3 ∧ Q (some (.int (0 : Int32))) D5))) ∧ (∀ b3, o2 = some b3 → xk b3 = 4 ∧ xCq d m_Told_sheetAt [.ref (a0 + 1), .int (3 : Int32), .int x2] D1 (fun o10 D9 => (o10 = none → Q (some (.int (0 : Int32))) D9) ∧ (∀ b11, o10 = some b11 → xk b11 = 3 ∧ xCi d m_Odds_lie [.ref (a0 + 304), .ref b3, .ref b11] D9 (fun r14 D13 => (r14 = 0 → Q (some (.int (0 : Int32))) D13) ∧ (¬ r14 = 0 → Q (some (.int (1 : Int32))) D13))))))) : xPf (d + 1) m_S_lies 0 [(0, .ref a0), (1, .int x1), (2, .int x2)] [] D Q := by
  refine x_aload_n rfl rfl ?_
  refine x_iload_n rfl rfl ?_
  refine x_vq lm_S_119 vf_S_tableAt k0 rfl rfl (Nat.le_of_ble_eq_true rfl) rfl h (fun D1 h => ?_) (fun b3 D1 h => ?_)
  · have h := h.1 rfl
    refine x_astore_nN (i := 3) (L1 := [(3, .null), (0, .ref a0), (1, .int x1), (2, .int x2)]) rfl rfl (Nat.le_of_ble_eq_true rfl) rfl ?_
    refine x_aload_n rfl rfl ?_
    refine x_gR lf_S_10 k0 rfl rfl ?_
    refine x_iconst (v := (3 : Int32)) rfl rfl ?_
    refine x_iload_n rfl rfl ?_
    refine x_vq lm_S_233 vf_Told_sheetAt (ck_0_0 k0) rfl rfl (Nat.le_of_ble_eq_true rfl) rfl h (fun D5 h => ?_) (fun b7 D5 h => ?_)
    · have h := h.1 rfl
      refine x_astoreN (i := 4) (L1 := [(4, .null), (3, .null), (0, .ref a0), (1, .int x1), (2, .int x2)]) rfl (Nat.le_of_ble_eq_true rfl) rfl ?_
      refine x_aload_nN rfl rfl ?_
      refine x_ifnullN (tgt := 43) rfl rfl ?_
      refine x_iconst (v := (0 : Int32)) rfl rfl ?_
      exact x_zr rfl (Or.inl rfl) rfl h
    · obtain ⟨k8, h⟩ := h.2 b7 rfl
      refine x_astore (i := 4) (L1 := [(4, .ref b7), (3, .null), (0, .ref a0), (1, .int x1), (2, .int x2)]) rfl (Nat.le_of_ble_eq_true rfl) rfl ?_
      refine x_aload_nN rfl rfl ?_
      refine x_ifnullN (tgt := 43) rfl rfl ?_
      refine x_iconst (v := (0 : Int32)) rfl rfl ?_
      exact x_zr rfl (Or.inl rfl) rfl h
  · obtain ⟨k4, h⟩ := h.2 b3 rfl
    refine x_astore_n (i := 3) (L1 := [(3, .ref b3), (0, .ref a0), (1, .int x1), (2, .int x2)]) rfl rfl (Nat.le_of_ble_eq_true rfl) rfl ?_
    refine x_aload_n rfl rfl ?_
    refine x_gR lf_S_10 k0 rfl rfl ?_
    refine x_iconst (v := (3 : Int32)) rfl rfl ?_
    refine x_iload_n rfl rfl ?_
    refine x_vq lm_S_233 vf_Told_sheetAt (ck_0_0 k0) rfl rfl (Nat.le_of_ble_eq_true rfl) rfl h (fun D9 h => ?_) (fun b11 D9 h => ?_)
    · have h := h.1 rfl
      refine x_astoreN (i := 4) (L1 := [(4, .null), (3, .ref b3), (0, .ref a0), (1, .int x1), (2, .int x2)]) rfl (Nat.le_of_ble_eq_true rfl) rfl ?_
      refine x_aload_n rfl rfl ?_
      refine x_ifnull rfl ?_
      refine x_aloadN rfl rfl ?_
      refine x_ifnullN (tgt := 43) rfl rfl ?_
      refine x_iconst (v := (0 : Int32)) rfl rfl ?_
      exact x_zr rfl (Or.inl rfl) rfl h
    · obtain ⟨k12, h⟩ := h.2 b11 rfl
      refine x_astore (i := 4) (L1 := [(4, .ref b11), (3, .ref b3), (0, .ref a0), (1, .int x1), (2, .int x2)]) rfl (Nat.le_of_ble_eq_true rfl) rfl ?_
      refine x_aload_n rfl rfl ?_
      refine x_ifnull rfl ?_
      refine x_aload rfl rfl ?_
      refine x_ifnull rfl ?_
      refine x_aload_n rfl rfl ?_
      refine x_gR lf_S_60 k0 rfl rfl ?_
      refine x_aload_n rfl rfl ?_
      refine x_aload rfl rfl ?_
      refine x_vi lm_S_245 vf_Odds_lie (ck_0_7 k0) rfl rfl (Nat.le_of_ble_eq_true rfl) rfl h (fun r14 D13 h => ?_)
      refine x_if_eq (tgt := 43) rfl rfl (fun c => ?_) (fun c => ?_)
      · have h := h.1 c
        refine x_iconst (v := (0 : Int32)) rfl rfl ?_
        exact x_zr rfl (Or.inl rfl) rfl h
      · have h := h.2 c
        refine x_iconst (v := (1 : Int32)) rfl rfl ?_
        refine x_goto (tgt := 44) rfl rfl ?_
        exact x_zr rfl (Or.inr rfl) rfl h
theorem s_S_unseen_0 {d : Nat} {D : xD} {Q : Option Value → xD → Prop} {a0 : Nat} {x1 : Int32} {x2 : Int32} {x3 : Int32} (k0 : xk a0 = 0) (h : xCq d m_S_tableAt [.ref a0, .int x1] D (fun o2 D1 => (o2 = none → Q (some (.int (-1 : Int32))) D1) ∧ (∀ b3, o2 = some b3 → xk b3 = 4 ∧ xCq d m_Told_sheetAt [.ref (a0 + 1), .int (3 : Int32), .int x2] D1 (fun o6 D5 => (o6 = none → Q (some (.int (-1 : Int32))) D5) ∧ (∀ b7, o6 = some b7 → xk b7 = 3 ∧ xCi d m_S_lies [.ref a0, .int x1, .int x2] D5 (fun r10 D9 => (¬ x3 = 0 → (r10 = 0 → Q (some (.int (-1 : Int32))) D9) ∧ (¬ r10 = 0 → xCi d m_Odds_answer [.ref (a0 + 304), .int x3] D9 (fun r12 D11 => Q (some (.int r12)) D11))) ∧ (x3 = 0 → (r10 = 0 → Q (some (.int (0 : Int32))) D9) ∧ (¬ r10 = 0 → Q (some (.int (1 : Int32))) D9)))))))) : xPf (d + 1) m_S_unseen 0 [(0, .ref a0), (1, .int x1), (2, .int x2), (3, .int x3)] [] D Q := by
  refine x_aload_n rfl rfl ?_
  refine x_iload_n rfl rfl ?_
  refine x_vq lm_S_119 vf_S_tableAt k0 rfl rfl (Nat.le_of_ble_eq_true rfl) rfl h (fun D1 h => ?_) (fun b3 D1 h => ?_)
  · have h := h.1 rfl
    refine x_ifnullN (tgt := 20) rfl rfl ?_
    refine x_iconst (v := (-1 : Int32)) rfl rfl ?_
    exact x_iret rfl rfl h
  · obtain ⟨k4, h⟩ := h.2 b3 rfl
    refine x_ifnull rfl ?_
    refine x_aload_n rfl rfl ?_
    refine x_gR lf_S_10 k0 rfl rfl ?_
    refine x_iconst (v := (3 : Int32)) rfl rfl ?_
    refine x_iload_n rfl rfl ?_
    refine x_vq lm_S_233 vf_Told_sheetAt (ck_0_0 k0) rfl rfl (Nat.le_of_ble_eq_true rfl) rfl h (fun D5 h => ?_) (fun b7 D5 h => ?_)
    · have h := h.1 rfl
      refine x_ifnonnullN rfl ?_
      refine x_iconst (v := (-1 : Int32)) rfl rfl ?_
      exact x_iret rfl rfl h
    · obtain ⟨k8, h⟩ := h.2 b7 rfl
      refine x_ifnonnull (tgt := 22) rfl rfl ?_
      refine x_aload_n rfl rfl ?_
      refine x_iload_n rfl rfl ?_
      refine x_iload_n rfl rfl ?_
      refine x_vi lm_S_249 vf_S_lies k0 rfl rfl (Nat.le_of_ble_eq_true rfl) rfl h (fun r10 D9 h => ?_)
      refine x_istore (i := 4) (L1 := [(4, .int r10), (0, .ref a0), (1, .int x1), (2, .int x2), (3, .int x3)]) rfl (Nat.le_of_ble_eq_true rfl) rfl ?_
      refine x_iload_n rfl rfl ?_
      refine x_if_ne (tgt := 45) rfl rfl (fun c => ?_) (fun c => ?_)
      · have h := h.1 c
        refine x_iload rfl rfl ?_
        refine x_if_eq (tgt := 61) rfl rfl (fun c => ?_) (fun c => ?_)
        · have h := h.1 c
          refine x_iconst (v := (-1 : Int32)) rfl rfl ?_
          exact x_iret rfl rfl h
        · have h := h.2 c
          refine x_aload_n rfl rfl ?_
          refine x_gR lf_S_60 k0 rfl rfl ?_
          refine x_iload_n rfl rfl ?_
          refine x_vi lm_S_253 vf_Odds_answer (ck_0_7 k0) rfl rfl (Nat.le_of_ble_eq_true rfl) rfl h (fun r12 D11 h => ?_)
          refine x_goto (tgt := 62) rfl rfl ?_
          exact x_iret rfl rfl h
      · have h := h.2 c
        refine x_iload rfl rfl ?_
        refine x_if_eq (tgt := 43) rfl rfl (fun c => ?_) (fun c => ?_)
        · have h := h.1 c
          refine x_iconst (v := (0 : Int32)) rfl rfl ?_
          exact x_iret rfl rfl h
        · have h := h.2 c
          refine x_iconst (v := (1 : Int32)) rfl rfl ?_
          refine x_goto (tgt := 44) rfl rfl ?_
          exact x_iret rfl rfl h
theorem s_S_within_0 {d : Nat} {D : xD} {Q : Option Value → xD → Prop} {a0 : Nat} {x1 : Int32} {x2 : Int32} {x3 : Int32} {x4 : Int32} (k0 : xk a0 = 0) (h : xCi d m_S_lies [.ref a0, .int x1, .int x2] D (fun r2 D1 => (r2 = 0 → Q (some (.long (-1 : Int64))) D1) ∧ (¬ r2 = 0 → xCi d m_Odds_mayCome [.ref (a0 + 304), .int x3] D1 (fun r4 D3 => (r4 = 0 → Q (some (.long (-1 : Int64))) D3) ∧ (¬ r4 = 0 → ((D3.1 (a0 + 304) 6) ≤ (4 : Int32) → xCl d m_Odds_likely [.ref (a0 + 304), .int x3, .int x4] D3 (fun r6 D5 => Q (some (.long r6)) D5)) ∧ (¬ (D3.1 (a0 + 304) 6) ≤ (4 : Int32) → Q (some (.long (-1 : Int64))) D3)))))) : xPf (d + 1) m_S_within 0 [(0, .ref a0), (1, .int x1), (2, .int x2), (3, .int x3), (4, .int x4)] [] D Q := by
  refine x_aload_n rfl rfl ?_
  refine x_iload_n rfl rfl ?_
  refine x_iload_n rfl rfl ?_
  refine x_vi lm_S_249 vf_S_lies k0 rfl rfl (Nat.le_of_ble_eq_true rfl) rfl h (fun r2 D1 h => ?_)
  refine x_if_eq (tgt := 31) rfl rfl (fun c => ?_) (fun c => ?_)
  · have h := h.1 c
    refine x_ldc2 wd_1253 rfl ?_
    exact x_lret rfl rfl h
  · have h := h.2 c
    refine x_aload_n rfl rfl ?_
    refine x_gR lf_S_60 k0 rfl rfl ?_
    refine x_iload_n rfl rfl ?_
    refine x_vi lm_S_254 vf_Odds_mayCome (ck_0_7 k0) rfl rfl (Nat.le_of_ble_eq_true rfl) rfl h (fun r4 D3 h => ?_)
    refine x_if_eq (tgt := 31) rfl rfl (fun c => ?_) (fun c => ?_)
    · have h := h.1 c
      refine x_ldc2 wd_1253 rfl ?_
      exact x_lret rfl rfl h
    · have h := h.2 c
      refine x_aload_n rfl rfl ?_
      refine x_gR lf_S_60 k0 rfl rfl ?_
      refine x_gI lf_S_257 (ck_0_7 k0) rfl rfl ?_
      refine x_iconst (v := (4 : Int32)) rfl rfl ?_
      refine x_icmp_le (tgt := 35) rfl rfl (fun c => ?_) (fun c => ?_)
      · have h := h.1 c
        refine x_aload_n rfl rfl ?_
        refine x_gR lf_S_60 k0 rfl rfl ?_
        refine x_iload_n rfl rfl ?_
        refine x_iload rfl rfl ?_
        refine x_vl lm_S_262 vf_Odds_likely (ck_0_7 k0) rfl rfl (Nat.le_of_ble_eq_true rfl) rfl h (fun r6 D5 h => ?_)
        exact x_lret rfl rfl h
      · have h := h.2 c
        refine x_ldc2 wd_1253 rfl ?_
        exact x_lret rfl rfl h
theorem s_S_kept_0 {d : Nat} {D : xD} {Q : Option Value → xD → Prop} {a0 : Nat} {x1 : Int32} {x2 : Int32} {x3 : Int32} {x4 : Int32} (k0 : xk a0 = 0) (h : (x3 < (1 : Int32) → Q (some (.int (-1 : Int32))) D) ∧ (¬ x3 < (1 : Int32) → xCi d m_S_lies [.ref a0, .int x1, .int x2] D (fun r2 D1 => (r2 = 0 → Q (some (.int (-1 : Int32))) D1) ∧ (¬ r2 = 0 → xCi d m_Odds_mayCome [.ref (a0 + 304), .int x3] D1 (fun r4 D3 => (r4 = 0 → Q (some (.int (-1 : Int32))) D3) ∧ (¬ r4 = 0 → ((D3.1 (a0 + 304) 6) ≤ (4 : Int32) → xCi d m_Odds_bestHandedOn [.ref (a0 + 304), .int x3, .int x4] D3 (fun r6 D5 => Q (some (.int r6)) D5)) ∧ (¬ (D3.1 (a0 + 304) 6) ≤ (4 : Int32) → Q (some (.int (-1 : Int32))) D3))))))) : xPf (d + 1) m_S_kept 0 [(0, .ref a0), (1, .int x1), (2, .int x2), (3, .int x3), (4, .int x4)] [] D Q := by
  refine x_iload_n rfl rfl ?_
  refine x_iconst (v := (1 : Int32)) rfl rfl ?_
  refine x_icmp_lt (tgt := 36) rfl rfl (fun c => ?_) (fun c => ?_)
  · have h := h.1 c
    refine x_iconst (v := (-1 : Int32)) rfl rfl ?_
    exact x_iret rfl rfl h
  · have h := h.2 c
    refine x_aload_n rfl rfl ?_
    refine x_iload_n rfl rfl ?_
    refine x_iload_n rfl rfl ?_
    refine x_vi lm_S_249 vf_S_lies k0 rfl rfl (Nat.le_of_ble_eq_true rfl) rfl h (fun r2 D1 h => ?_)
    refine x_if_eq (tgt := 36) rfl rfl (fun c => ?_) (fun c => ?_)
    · have h := h.1 c
      refine x_iconst (v := (-1 : Int32)) rfl rfl ?_
      exact x_iret rfl rfl h
    · have h := h.2 c
      refine x_aload_n rfl rfl ?_
      refine x_gR lf_S_60 k0 rfl rfl ?_
      refine x_iload_n rfl rfl ?_
      refine x_vi lm_S_254 vf_Odds_mayCome (ck_0_7 k0) rfl rfl (Nat.le_of_ble_eq_true rfl) rfl h (fun r4 D3 h => ?_)
      refine x_if_eq (tgt := 36) rfl rfl (fun c => ?_) (fun c => ?_)
      · have h := h.1 c
        refine x_iconst (v := (-1 : Int32)) rfl rfl ?_
        exact x_iret rfl rfl h
      · have h := h.2 c
        refine x_aload_n rfl rfl ?_
        refine x_gR lf_S_60 k0 rfl rfl ?_
        refine x_gI lf_S_257 (ck_0_7 k0) rfl rfl ?_
        refine x_iconst (v := (4 : Int32)) rfl rfl ?_
        refine x_icmp_le (tgt := 38) rfl rfl (fun c => ?_) (fun c => ?_)
        · have h := h.1 c
          refine x_aload_n rfl rfl ?_
          refine x_gR lf_S_60 k0 rfl rfl ?_
          refine x_iload_n rfl rfl ?_
          refine x_iload rfl rfl ?_
          refine x_vi lm_S_266 vf_Odds_bestHandedOn (ck_0_7 k0) rfl rfl (Nat.le_of_ble_eq_true rfl) rfl h (fun r6 D5 h => ?_)
          exact x_iret rfl rfl h
        · have h := h.2 c
          refine x_iconst (v := (-1 : Int32)) rfl rfl ?_
          exact x_iret rfl rfl h
theorem s_S_alone_0 {d : Nat} {D : xD} {Q : Option Value → xD → Prop} {a0 : Nat} {x1 : Int32} {x2 : Int32} {x3 : Int32} {x4 : Int32} {x5 : Int32} (k0 : xk a0 = 0) (h : xCi d m_S_lies [.ref a0, .int x1, .int x2] D (fun r2 D1 => (r2 = 0 → Q (some (.long (-1 : Int64))) D1) ∧ (¬ r2 = 0 → xCi d m_Odds_mayCome [.ref (a0 + 304), .int x4] D1 (fun r4 D3 => (r4 = 0 → Q (some (.long (-1 : Int64))) D3) ∧ (¬ r4 = 0 → (x3 < 0 → Q (some (.long (-1 : Int64))) D3) ∧ (¬ x3 < 0 → (x3 < (D3.1 (a0 + 304) 6) → xCl d m_Odds_likelyAlone [.ref (a0 + 304), .int x3, .int x4, .int x5] D3 (fun r6 D5 => Q (some (.long r6)) D5)) ∧ (¬ x3 < (D3.1 (a0 + 304) 6) → Q (some (.long (-1 : Int64))) D3))))))) : xPf (d + 1) m_S_alone 0 [(0, .ref a0), (1, .int x1), (2, .int x2), (3, .int x3), (4, .int x4), (5, .int x5)] [] D Q := by
  refine x_aload_n rfl rfl ?_
  refine x_iload_n rfl rfl ?_
  refine x_iload_n rfl rfl ?_
  refine x_vi lm_S_249 vf_S_lies k0 rfl rfl (Nat.le_of_ble_eq_true rfl) rfl h (fun r2 D1 h => ?_)
  refine x_if_eq (tgt := 36) rfl rfl (fun c => ?_) (fun c => ?_)
  · have h := h.1 c
    refine x_ldc2 wd_1253 rfl ?_
    exact x_lret rfl rfl h
  · have h := h.2 c
    refine x_aload_n rfl rfl ?_
    refine x_gR lf_S_60 k0 rfl rfl ?_
    refine x_iload rfl rfl ?_
    refine x_vi lm_S_254 vf_Odds_mayCome (ck_0_7 k0) rfl rfl (Nat.le_of_ble_eq_true rfl) rfl h (fun r4 D3 h => ?_)
    refine x_if_eq (tgt := 36) rfl rfl (fun c => ?_) (fun c => ?_)
    · have h := h.1 c
      refine x_ldc2 wd_1253 rfl ?_
      exact x_lret rfl rfl h
    · have h := h.2 c
      refine x_iload_n rfl rfl ?_
      refine x_if_lt (tgt := 36) rfl rfl (fun c => ?_) (fun c => ?_)
      · have h := h.1 c
        refine x_ldc2 wd_1253 rfl ?_
        exact x_lret rfl rfl h
      · have h := h.2 c
        refine x_iload_n rfl rfl ?_
        refine x_aload_n rfl rfl ?_
        refine x_gR lf_S_60 k0 rfl rfl ?_
        refine x_gI lf_S_257 (ck_0_7 k0) rfl rfl ?_
        refine x_icmp_lt (tgt := 40) rfl rfl (fun c => ?_) (fun c => ?_)
        · have h := h.1 c
          refine x_aload_n rfl rfl ?_
          refine x_gR lf_S_60 k0 rfl rfl ?_
          refine x_iload_n rfl rfl ?_
          refine x_iload rfl rfl ?_
          refine x_iload rfl rfl ?_
          refine x_vl lm_S_269 vf_Odds_likelyAlone (ck_0_7 k0) rfl rfl (Nat.le_of_ble_eq_true rfl) rfl h (fun r6 D5 h => ?_)
          exact x_lret rfl rfl h
        · have h := h.2 c
          refine x_ldc2 wd_1253 rfl ?_
          exact x_lret rfl rfl h
theorem s_S_soonest_0 {d : Nat} {D : xD} {Q : Option Value → xD → Prop} {a0 : Nat} {x1 : Int32} {x2 : Int32} {x3 : Int32} {x4 : Int32} (k0 : xk a0 = 0) (h : xCq d m_S_heapAt [.ref a0, .int x3] D (fun o2 D1 => (o2 = none → Q (some (.int (-1 : Int32))) D1) ∧ (∀ b3, o2 = some b3 → xk b3 = 2 ∧ xCi d m_S_lies [.ref a0, .int x1, .int x2] D1 (fun r6 D5 => (¬ r6 = 0 → xCi d m_Odds_soonestBy [.ref (a0 + 304), .ref b3, .int x4] D5 (fun r8 D7 => Q (some (.int r8)) D7)) ∧ (r6 = 0 → Q (some (.int (-1 : Int32))) D5))))) : xPf (d + 1) m_S_soonest 0 [(0, .ref a0), (1, .int x1), (2, .int x2), (3, .int x3), (4, .int x4)] [] D Q := by
  refine x_aload_n rfl rfl ?_
  refine x_iload_n rfl rfl ?_
  refine x_vq lm_S_136 vf_S_heapAt k0 rfl rfl (Nat.le_of_ble_eq_true rfl) rfl h (fun D1 h => ?_) (fun b3 D1 h => ?_)
  · have h := h.1 rfl
    refine x_astoreN (i := 5) (L1 := [(5, .null), (0, .ref a0), (1, .int x1), (2, .int x2), (3, .int x3), (4, .int x4)]) rfl (Nat.le_of_ble_eq_true rfl) rfl ?_
    refine x_aloadN rfl rfl ?_
    refine x_ifnullN (tgt := 21) rfl rfl ?_
    refine x_iconst (v := (-1 : Int32)) rfl rfl ?_
    exact x_iret rfl rfl h
  · obtain ⟨k4, h⟩ := h.2 b3 rfl
    refine x_astore (i := 5) (L1 := [(5, .ref b3), (0, .ref a0), (1, .int x1), (2, .int x2), (3, .int x3), (4, .int x4)]) rfl (Nat.le_of_ble_eq_true rfl) rfl ?_
    refine x_aload rfl rfl ?_
    refine x_ifnull rfl ?_
    refine x_aload_n rfl rfl ?_
    refine x_iload_n rfl rfl ?_
    refine x_iload_n rfl rfl ?_
    refine x_vi lm_S_249 vf_S_lies k0 rfl rfl (Nat.le_of_ble_eq_true rfl) rfl h (fun r6 D5 h => ?_)
    refine x_if_ne (tgt := 23) rfl rfl (fun c => ?_) (fun c => ?_)
    · have h := h.1 c
      refine x_aload_n rfl rfl ?_
      refine x_gR lf_S_60 k0 rfl rfl ?_
      refine x_aload rfl rfl ?_
      refine x_iload rfl rfl ?_
      refine x_vi lm_S_273 vf_Odds_soonestBy (ck_0_7 k0) rfl rfl (Nat.le_of_ble_eq_true rfl) rfl h (fun r8 D7 h => ?_)
      exact x_iret rfl rfl h
    · have h := h.2 c
      refine x_iconst (v := (-1 : Int32)) rfl rfl ?_
      exact x_iret rfl rfl h
theorem s_S_keeps_0 {d : Nat} {D : xD} {Q : Option Value → xD → Prop} {a0 : Nat} {x1 : Int32} {x2 : Int32} {x3 : Int32} {x4 : Int32} {x5 : Int32} (k0 : xk a0 = 0) (h : xCi d m_S_lies [.ref a0, .int x1, .int x2] D (fun r2 D1 => (r2 = 0 → Q (some (.long (-1 : Int64))) D1) ∧ (¬ r2 = 0 → (x3 < 0 → Q (some (.long (-1 : Int64))) D1) ∧ (¬ x3 < 0 → ((D1.1 (a0 + 304) 6) ≤ x3 → Q (some (.long (-1 : Int64))) D1) ∧ (¬ (D1.1 (a0 + 304) 6) ≤ x3 → (x4 < 0 → Q (some (.long (-1 : Int64))) D1) ∧ (¬ x4 < 0 → (x4 ≤ (4 : Int32) → ((D1.1 (a0 + 304) 7) ≤ (D1.1 (a0 + 304) 8) → xCl d m_Odds_likelyKept [.ref (a0 + 304), .int x3, .int x4, .int x5] D1 (fun r4 D3 => Q (some (.long r4)) D3)) ∧ (¬ (D1.1 (a0 + 304) 7) ≤ (D1.1 (a0 + 304) 8) → Q (some (.long (-1 : Int64))) D1)) ∧ (¬ x4 ≤ (4 : Int32) → Q (some (.long (-1 : Int64))) D1))))))) : xPf (d + 1) m_S_keeps 0 [(0, .ref a0), (1, .int x1), (2, .int x2), (3, .int x3), (4, .int x4), (5, .int x5)] [] D Q := by
  refine x_aload_n rfl rfl ?_
  refine x_iload_n rfl rfl ?_
  refine x_iload_n rfl rfl ?_
  refine x_vi lm_S_249 vf_S_lies k0 rfl rfl (Nat.le_of_ble_eq_true rfl) rfl h (fun r2 D1 h => ?_)
  refine x_if_eq (tgt := 35) rfl rfl (fun c => ?_) (fun c => ?_)
  · have h := h.1 c
    refine x_ldc2 wd_1253 rfl ?_
    exact x_lret rfl rfl h
  · have h := h.2 c
    refine x_iload_n rfl rfl ?_
    refine x_if_lt (tgt := 35) rfl rfl (fun c => ?_) (fun c => ?_)
    · have h := h.1 c
      refine x_ldc2 wd_1253 rfl ?_
      exact x_lret rfl rfl h
    · have h := h.2 c
      refine x_iload_n rfl rfl ?_
      refine x_aload_n rfl rfl ?_
      refine x_gR lf_S_60 k0 rfl rfl ?_
      refine x_gI lf_S_257 (ck_0_7 k0) rfl rfl ?_
      refine x_icmp_ge (tgt := 35) rfl rfl (fun c => ?_) (fun c => ?_)
      · have h := h.1 c
        refine x_ldc2 wd_1253 rfl ?_
        exact x_lret rfl rfl h
      · have h := h.2 c
        refine x_iload rfl rfl ?_
        refine x_if_lt (tgt := 35) rfl rfl (fun c => ?_) (fun c => ?_)
        · have h := h.1 c
          refine x_ldc2 wd_1253 rfl ?_
          exact x_lret rfl rfl h
        · have h := h.2 c
          refine x_iload rfl rfl ?_
          refine x_iconst (v := (4 : Int32)) rfl rfl ?_
          refine x_icmp_le (tgt := 39) rfl rfl (fun c => ?_) (fun c => ?_)
          · have h := h.1 c
            refine x_aload_n rfl rfl ?_
            refine x_gR lf_S_60 k0 rfl rfl ?_
            refine x_gI lf_S_277 (ck_0_7 k0) rfl rfl ?_
            refine x_aload_n rfl rfl ?_
            refine x_gR lf_S_60 k0 rfl rfl ?_
            refine x_gI lf_S_280 (ck_0_7 k0) rfl rfl ?_
            refine x_icmp_ge (tgt := 62) rfl rfl (fun c => ?_) (fun c => ?_)
            · have h := h.1 c
              refine x_aload_n rfl rfl ?_
              refine x_gR lf_S_60 k0 rfl rfl ?_
              refine x_iload_n rfl rfl ?_
              refine x_iload rfl rfl ?_
              refine x_iload rfl rfl ?_
              refine x_vl lm_S_283 vf_Odds_likelyKept (ck_0_7 k0) rfl rfl (Nat.le_of_ble_eq_true rfl) rfl h (fun r4 D3 h => ?_)
              exact x_lret rfl rfl h
            · have h := h.2 c
              refine x_ldc2 wd_1253 rfl ?_
              refine x_goto (tgt := 74) rfl rfl ?_
              exact x_lret rfl rfl h
          · have h := h.2 c
            refine x_ldc2 wd_1253 rfl ?_
            exact x_lret rfl rfl h
theorem s_S_looks_0 {d : Nat} {D : xD} {Q : Option Value → xD → Prop} {a0 : Nat} {x1 : Int32} {x2 : Int32} {x3 : Int32} {x4 : Int32} (k0 : xk a0 = 0) (h : xCq d m_S_tableAt [.ref a0, .int x1] D (fun o2 D1 => (o2 = none → Q (some (.int (-1 : Int32))) D1) ∧ (∀ b3, o2 = some b3 → xk b3 = 4 ∧ xCi d m_Table_has [.ref b3, .int x3] D1 (fun r6 D5 => (¬ r6 = 0 → (¬ x4 = (-1 : Int32) → (x4 < 0 → Q (some (.int (-1 : Int32))) D5) ∧ (¬ x4 < 0 → ((60 : Int32) ≤ x4 → Q (some (.int (-1 : Int32))) D5) ∧ (¬ (60 : Int32) ≤ x4 → xCi d m_Table_lastOf [.ref b3, .int x3, .int x4] D5 (fun r8 D7 => Q (some (.int r8)) D7)))) ∧ (x4 = (-1 : Int32) → xCi d m_Table_has [.ref b3, .int x2] D5 (fun r10 D9 => (r10 = 0 → Q (some (.int (-1 : Int32))) D9) ∧ (¬ r10 = 0 → (x2 = x3 → Q (some (.int (-1 : Int32))) D9) ∧ (¬ x2 = x3 → xCi d m_Looks_lasts [.ref b3, .int x2, .int x3] D9 (fun r12 D11 => Q (some (.int r12)) D11)))))) ∧ (r6 = 0 → Q (some (.int (-1 : Int32))) D5))))) : xPf (d + 1) m_S_looks 0 [(0, .ref a0), (1, .int x1), (2, .int x2), (3, .int x3), (4, .int x4)] [] D Q := by
  refine x_aload_n rfl rfl ?_
  refine x_iload_n rfl rfl ?_
  refine x_vq lm_S_119 vf_S_tableAt k0 rfl rfl (Nat.le_of_ble_eq_true rfl) rfl h (fun D1 h => ?_) (fun b3 D1 h => ?_)
  · have h := h.1 rfl
    refine x_astoreN (i := 5) (L1 := [(5, .null), (0, .ref a0), (1, .int x1), (2, .int x2), (3, .int x3), (4, .int x4)]) rfl (Nat.le_of_ble_eq_true rfl) rfl ?_
    refine x_aloadN rfl rfl ?_
    refine x_ifnullN (tgt := 21) rfl rfl ?_
    refine x_iconst (v := (-1 : Int32)) rfl rfl ?_
    exact x_iret rfl rfl h
  · obtain ⟨k4, h⟩ := h.2 b3 rfl
    refine x_astore (i := 5) (L1 := [(5, .ref b3), (0, .ref a0), (1, .int x1), (2, .int x2), (3, .int x3), (4, .int x4)]) rfl (Nat.le_of_ble_eq_true rfl) rfl ?_
    refine x_aload rfl rfl ?_
    refine x_ifnull rfl ?_
    refine x_aload rfl rfl ?_
    refine x_iload_n rfl rfl ?_
    refine x_vi lm_S_128 vf_Table_has k4 rfl rfl (Nat.le_of_ble_eq_true rfl) rfl h (fun r6 D5 h => ?_)
    refine x_if_ne (tgt := 23) rfl rfl (fun c => ?_) (fun c => ?_)
    · have h := h.1 c
      refine x_iload rfl rfl ?_
      refine x_iconst (v := (-1 : Int32)) rfl rfl ?_
      refine x_icmp_ne (tgt := 55) rfl rfl (fun c => ?_) (fun c => ?_)
      · have h := h.1 c
        refine x_iload rfl rfl ?_
        refine x_if_lt (tgt := 78) rfl rfl (fun c => ?_) (fun c => ?_)
        · have h := h.1 c
          refine x_iconst (v := (-1 : Int32)) rfl rfl ?_
          exact x_iret rfl rfl h
        · have h := h.2 c
          refine x_iload rfl rfl ?_
          refine x_bipush (v := (60 : Int32)) rfl rfl ?_
          refine x_icmp_ge (tgt := 78) rfl rfl (fun c => ?_) (fun c => ?_)
          · have h := h.1 c
            refine x_iconst (v := (-1 : Int32)) rfl rfl ?_
            exact x_iret rfl rfl h
          · have h := h.2 c
            refine x_aload rfl rfl ?_
            refine x_iload_n rfl rfl ?_
            refine x_iload rfl rfl ?_
            refine x_vi lm_S_290 vf_Table_lastOf k4 rfl rfl (Nat.le_of_ble_eq_true rfl) rfl h (fun r8 D7 h => ?_)
            refine x_goto (tgt := 79) rfl rfl ?_
            exact x_iret rfl rfl h
      · have h := h.2 c
        refine x_aload rfl rfl ?_
        refine x_iload_n rfl rfl ?_
        refine x_vi lm_S_128 vf_Table_has k4 rfl rfl (Nat.le_of_ble_eq_true rfl) rfl h (fun r10 D9 h => ?_)
        refine x_if_eq (tgt := 53) rfl rfl (fun c => ?_) (fun c => ?_)
        · have h := h.1 c
          refine x_iconst (v := (-1 : Int32)) rfl rfl ?_
          exact x_iret rfl rfl h
        · have h := h.2 c
          refine x_iload_n rfl rfl ?_
          refine x_iload_n rfl rfl ?_
          refine x_icmp_eq (tgt := 53) rfl rfl (fun c => ?_) (fun c => ?_)
          · have h := h.1 c
            refine x_iconst (v := (-1 : Int32)) rfl rfl ?_
            exact x_iret rfl rfl h
          · have h := h.2 c
            refine x_aload rfl rfl ?_
            refine x_iload_n rfl rfl ?_
            refine x_iload_n rfl rfl ?_
            refine x_si lm_S_286 sf_Looks_lasts rfl rfl (Nat.le_of_ble_eq_true rfl) rfl h (fun r12 D11 h => ?_)
            refine x_goto (tgt := 54) rfl rfl ?_
            exact x_iret rfl rfl h
    · have h := h.2 c
      refine x_iconst (v := (-1 : Int32)) rfl rfl ?_
      exact x_iret rfl rfl h
theorem s_S_often_0 {d : Nat} {D : xD} {Q : Option Value → xD → Prop} {a0 : Nat} {x1 : Int32} {x2 : Int32} {x3 : Int32} (k0 : xk a0 = 0) (h : xCq d m_S_tableAt [.ref a0, .int x1] D (fun o2 D1 => (o2 = none → Q (some (.int (-1 : Int32))) D1) ∧ (∀ b3, o2 = some b3 → xk b3 = 4 ∧ xCi d m_Table_has [.ref b3, .int x2] D1 (fun r6 D5 => (r6 = 0 → Q (some (.int (-1 : Int32))) D5) ∧ (¬ r6 = 0 → xCi d m_Table_has [.ref b3, .int x3] D5 (fun r8 D7 => (r8 = 0 → Q (some (.int (-1 : Int32))) D7) ∧ (¬ r8 = 0 → (¬ x2 = x3 → xCi d m_Looks_bestEyes [.ref (a0 + 317), .ref b3, .int x2, .int x3] D7 (fun r10 D9 => Q (some (.int r10)) D9)) ∧ (x2 = x3 → Q (some (.int (-1 : Int32))) D7)))))))) : xPf (d + 1) m_S_often 0 [(0, .ref a0), (1, .int x1), (2, .int x2), (3, .int x3)] [] D Q := by
  refine x_aload_n rfl rfl ?_
  refine x_iload_n rfl rfl ?_
  refine x_vq lm_S_119 vf_S_tableAt k0 rfl rfl (Nat.le_of_ble_eq_true rfl) rfl h (fun D1 h => ?_) (fun b3 D1 h => ?_)
  · have h := h.1 rfl
    refine x_astoreN (i := 4) (L1 := [(4, .null), (0, .ref a0), (1, .int x1), (2, .int x2), (3, .int x3)]) rfl (Nat.le_of_ble_eq_true rfl) rfl ?_
    refine x_aloadN rfl rfl ?_
    refine x_ifnullN (tgt := 35) rfl rfl ?_
    refine x_iconst (v := (-1 : Int32)) rfl rfl ?_
    exact x_iret rfl rfl h
  · obtain ⟨k4, h⟩ := h.2 b3 rfl
    refine x_astore (i := 4) (L1 := [(4, .ref b3), (0, .ref a0), (1, .int x1), (2, .int x2), (3, .int x3)]) rfl (Nat.le_of_ble_eq_true rfl) rfl ?_
    refine x_aload rfl rfl ?_
    refine x_ifnull rfl ?_
    refine x_aload rfl rfl ?_
    refine x_iload_n rfl rfl ?_
    refine x_vi lm_S_128 vf_Table_has k4 rfl rfl (Nat.le_of_ble_eq_true rfl) rfl h (fun r6 D5 h => ?_)
    refine x_if_eq (tgt := 35) rfl rfl (fun c => ?_) (fun c => ?_)
    · have h := h.1 c
      refine x_iconst (v := (-1 : Int32)) rfl rfl ?_
      exact x_iret rfl rfl h
    · have h := h.2 c
      refine x_aload rfl rfl ?_
      refine x_iload_n rfl rfl ?_
      refine x_vi lm_S_128 vf_Table_has k4 rfl rfl (Nat.le_of_ble_eq_true rfl) rfl h (fun r8 D7 h => ?_)
      refine x_if_eq (tgt := 35) rfl rfl (fun c => ?_) (fun c => ?_)
      · have h := h.1 c
        refine x_iconst (v := (-1 : Int32)) rfl rfl ?_
        exact x_iret rfl rfl h
      · have h := h.2 c
        refine x_iload_n rfl rfl ?_
        refine x_iload_n rfl rfl ?_
        refine x_icmp_ne (tgt := 37) rfl rfl (fun c => ?_) (fun c => ?_)
        · have h := h.1 c
          refine x_aload_n rfl rfl ?_
          refine x_gR lf_S_67 k0 rfl rfl ?_
          refine x_aload rfl rfl ?_
          refine x_iload_n rfl rfl ?_
          refine x_iload_n rfl rfl ?_
          refine x_vi lm_S_293 vf_Looks_bestEyes (ck_0_8 k0) rfl rfl (Nat.le_of_ble_eq_true rfl) rfl h (fun r10 D9 h => ?_)
          exact x_iret rfl rfl h
        · have h := h.2 c
          refine x_iconst (v := (-1 : Int32)) rfl rfl ?_
          exact x_iret rfl rfl h
theorem s_S_rests_0 {d : Nat} {D : xD} {Q : Option Value → xD → Prop} {a0 : Nat} {x1 : Int32} {x2 : Int32} {x3 : Int32} (k0 : xk a0 = 0) (h : xCq d m_S_tableAt [.ref a0, .int x1] D (fun o2 D1 => (o2 = none → Q (some (.int (-1 : Int32))) D1) ∧ (∀ b3, o2 = some b3 → xk b3 = 4 ∧ xCi d m_Table_people [.ref b3] D1 (fun r6 D5 => (r6 ≤ (5 : Int32) → (¬ x2 = (-1 : Int32) → xCi d m_Table_has [.ref b3, .int x2] D5 (fun r8 D7 => (r8 = 0 → Q (some (.int (-1 : Int32))) D7) ∧ (¬ r8 = 0 → (x3 < 0 → Q (some (.int (-1 : Int32))) D7) ∧ (¬ x3 < 0 → xCi d m_Table_people [.ref b3] D7 (fun r10 D9 => xCi d m_Looks_waysOf [.int r10] D9 (fun r12 D11 => (x3 < r12 → xCi d m_Looks_costOf [.ref (a0 + 317), .ref b3, .int x2, .int x3] D11 (fun r14 D13 => Q (some (.int r14)) D13)) ∧ (¬ x3 < r12 → Q (some (.int (-1 : Int32))) D11))))))) ∧ (x2 = (-1 : Int32) → (x3 < (-1 : Int32) → Q (some (.int (-1 : Int32))) D5) ∧ (¬ x3 < (-1 : Int32) → xCi d m_Looks_resting [.ref (a0 + 317), .ref b3, .int x3] D5 (fun r16 D15 => Q (some (.int r16)) D15)))) ∧ (¬ r6 ≤ (5 : Int32) → Q (some (.int (-1 : Int32))) D5))))) : xPf (d + 1) m_S_rests 0 [(0, .ref a0), (1, .int x1), (2, .int x2), (3, .int x3)] [] D Q := by
  refine x_aload_n rfl rfl ?_
  refine x_iload_n rfl rfl ?_
  refine x_vq lm_S_119 vf_S_tableAt k0 rfl rfl (Nat.le_of_ble_eq_true rfl) rfl h (fun D1 h => ?_) (fun b3 D1 h => ?_)
  · have h := h.1 rfl
    refine x_astoreN (i := 4) (L1 := [(4, .null), (0, .ref a0), (1, .int x1), (2, .int x2), (3, .int x3)]) rfl (Nat.le_of_ble_eq_true rfl) rfl ?_
    refine x_aloadN rfl rfl ?_
    refine x_ifnullN (tgt := 21) rfl rfl ?_
    refine x_iconst (v := (-1 : Int32)) rfl rfl ?_
    exact x_iret rfl rfl h
  · obtain ⟨k4, h⟩ := h.2 b3 rfl
    refine x_astore (i := 4) (L1 := [(4, .ref b3), (0, .ref a0), (1, .int x1), (2, .int x2), (3, .int x3)]) rfl (Nat.le_of_ble_eq_true rfl) rfl ?_
    refine x_aload rfl rfl ?_
    refine x_ifnull rfl ?_
    refine x_aload rfl rfl ?_
    refine x_vi lm_S_296 vf_Table_people k4 rfl rfl (Nat.le_of_ble_eq_true rfl) rfl h (fun r6 D5 h => ?_)
    refine x_iconst (v := (5 : Int32)) rfl rfl ?_
    refine x_icmp_le (tgt := 23) rfl rfl (fun c => ?_) (fun c => ?_)
    · have h := h.1 c
      refine x_iload_n rfl rfl ?_
      refine x_iconst (v := (-1 : Int32)) rfl rfl ?_
      refine x_icmp_ne (tgt := 48) rfl rfl (fun c => ?_) (fun c => ?_)
      · have h := h.1 c
        refine x_aload rfl rfl ?_
        refine x_iload_n rfl rfl ?_
        refine x_vi lm_S_128 vf_Table_has k4 rfl rfl (Nat.le_of_ble_eq_true rfl) rfl h (fun r8 D7 h => ?_)
        refine x_if_eq (tgt := 73) rfl rfl (fun c => ?_) (fun c => ?_)
        · have h := h.1 c
          refine x_iconst (v := (-1 : Int32)) rfl rfl ?_
          exact x_iret rfl rfl h
        · have h := h.2 c
          refine x_iload_n rfl rfl ?_
          refine x_if_lt (tgt := 73) rfl rfl (fun c => ?_) (fun c => ?_)
          · have h := h.1 c
            refine x_iconst (v := (-1 : Int32)) rfl rfl ?_
            exact x_iret rfl rfl h
          · have h := h.2 c
            refine x_iload_n rfl rfl ?_
            refine x_aload rfl rfl ?_
            refine x_vi lm_S_296 vf_Table_people k4 rfl rfl (Nat.le_of_ble_eq_true rfl) rfl h (fun r10 D9 h => ?_)
            refine x_si lm_S_302 sf_Looks_waysOf rfl rfl (Nat.le_of_ble_eq_true rfl) rfl h (fun r12 D11 h => ?_)
            refine x_icmp_lt (tgt := 75) rfl rfl (fun c => ?_) (fun c => ?_)
            · have h := h.1 c
              refine x_aload_n rfl rfl ?_
              refine x_gR lf_S_67 k0 rfl rfl ?_
              refine x_aload rfl rfl ?_
              refine x_iload_n rfl rfl ?_
              refine x_iload_n rfl rfl ?_
              refine x_vi lm_S_305 vf_Looks_costOf (ck_0_8 k0) rfl rfl (Nat.le_of_ble_eq_true rfl) rfl h (fun r14 D13 h => ?_)
              exact x_iret rfl rfl h
            · have h := h.2 c
              refine x_iconst (v := (-1 : Int32)) rfl rfl ?_
              exact x_iret rfl rfl h
      · have h := h.2 c
        refine x_iload_n rfl rfl ?_
        refine x_iconst (v := (-1 : Int32)) rfl rfl ?_
        refine x_icmp_lt (tgt := 46) rfl rfl (fun c => ?_) (fun c => ?_)
        · have h := h.1 c
          refine x_iconst (v := (-1 : Int32)) rfl rfl ?_
          exact x_iret rfl rfl h
        · have h := h.2 c
          refine x_aload_n rfl rfl ?_
          refine x_gR lf_S_67 k0 rfl rfl ?_
          refine x_aload rfl rfl ?_
          refine x_iload_n rfl rfl ?_
          refine x_vi lm_S_299 vf_Looks_resting (ck_0_8 k0) rfl rfl (Nat.le_of_ble_eq_true rfl) rfl h (fun r16 D15 h => ?_)
          refine x_goto (tgt := 47) rfl rfl ?_
          exact x_iret rfl rfl h
    · have h := h.2 c
      refine x_iconst (v := (-1 : Int32)) rfl rfl ?_
      exact x_iret rfl rfl h
theorem s_S_even_0 {d : Nat} {D : xD} {Q : Option Value → xD → Prop} {a0 : Nat} {x1 : Int32} {x2 : Int32} (k0 : xk a0 = 0) (h : xCq d m_S_tableAt [.ref a0, .int x1] D (fun o2 D1 => (o2 = none → Q (some (.int (-1 : Int32))) D1) ∧ (∀ b3, o2 = some b3 → xk b3 = 4 ∧ xCi d m_Table_has [.ref b3, .int x2] D1 (fun r6 D5 => (¬ r6 = 0 → xCi d m_Looks_farther [.ref b3, .int x2] D5 (fun r8 D7 => Q (some (.int r8)) D7)) ∧ (r6 = 0 → Q (some (.int (-1 : Int32))) D5))))) : xPf (d + 1) m_S_even 0 [(0, .ref a0), (1, .int x1), (2, .int x2)] [] D Q := by
  refine x_aload_n rfl rfl ?_
  refine x_iload_n rfl rfl ?_
  refine x_vq lm_S_119 vf_S_tableAt k0 rfl rfl (Nat.le_of_ble_eq_true rfl) rfl h (fun D1 h => ?_) (fun b3 D1 h => ?_)
  · have h := h.1 rfl
    refine x_astore_nN (i := 3) (L1 := [(3, .null), (0, .ref a0), (1, .int x1), (2, .int x2)]) rfl rfl (Nat.le_of_ble_eq_true rfl) rfl ?_
    refine x_aload_nN rfl rfl ?_
    refine x_ifnullN (tgt := 18) rfl rfl ?_
    refine x_iconst (v := (-1 : Int32)) rfl rfl ?_
    refine x_goto (tgt := 27) rfl rfl ?_
    exact x_iret rfl rfl h
  · obtain ⟨k4, h⟩ := h.2 b3 rfl
    refine x_astore_n (i := 3) (L1 := [(3, .ref b3), (0, .ref a0), (1, .int x1), (2, .int x2)]) rfl rfl (Nat.le_of_ble_eq_true rfl) rfl ?_
    refine x_aload_n rfl rfl ?_
    refine x_ifnull rfl ?_
    refine x_aload_n rfl rfl ?_
    refine x_iload_n rfl rfl ?_
    refine x_vi lm_S_128 vf_Table_has k4 rfl rfl (Nat.le_of_ble_eq_true rfl) rfl h (fun r6 D5 h => ?_)
    refine x_if_ne (tgt := 22) rfl rfl (fun c => ?_) (fun c => ?_)
    · have h := h.1 c
      refine x_aload_n rfl rfl ?_
      refine x_iload_n rfl rfl ?_
      refine x_si lm_S_308 sf_Looks_farther rfl rfl (Nat.le_of_ble_eq_true rfl) rfl h (fun r8 D7 h => ?_)
      exact x_iret rfl rfl h
    · have h := h.2 c
      refine x_iconst (v := (-1 : Int32)) rfl rfl ?_
      refine x_goto (tgt := 27) rfl rfl ?_
      exact x_iret rfl rfl h
theorem s_S_feint_0 {d : Nat} {D : xD} {Q : Option Value → xD → Prop} {a0 : Nat} {x1 : Int32} {x2 : Int32} {x3 : Int32} (k0 : xk a0 = 0) (h : xCq d m_S_tableAt [.ref a0, .int x1] D (fun o2 D1 => (o2 = none → Q (some (.int (-1 : Int32))) D1) ∧ (∀ b3, o2 = some b3 → xk b3 = 4 ∧ xCi d m_Table_has [.ref b3, .int x2] D1 (fun r6 D5 => (¬ r6 = 0 → (¬ x3 = (-1 : Int32) → (x3 < 0 → Q (some (.int (-1 : Int32))) D5) ∧ (¬ x3 < 0 → ((60 : Int32) ≤ x3 → Q (some (.int (-1 : Int32))) D5) ∧ (¬ (60 : Int32) ≤ x3 → xCi d m_Looks_touching [.ref b3, .int x2, .int x3] D5 (fun r8 D7 => Q (some (.int r8)) D7)))) ∧ (x3 = (-1 : Int32) → xCi d m_Looks_lure [.ref b3, .int x2] D5 (fun r10 D9 => Q (some (.int r10)) D9))) ∧ (r6 = 0 → Q (some (.int (-1 : Int32))) D5))))) : xPf (d + 1) m_S_feint 0 [(0, .ref a0), (1, .int x1), (2, .int x2), (3, .int x3)] [] D Q := by
  refine x_aload_n rfl rfl ?_
  refine x_iload_n rfl rfl ?_
  refine x_vq lm_S_119 vf_S_tableAt k0 rfl rfl (Nat.le_of_ble_eq_true rfl) rfl h (fun D1 h => ?_) (fun b3 D1 h => ?_)
  · have h := h.1 rfl
    refine x_astoreN (i := 4) (L1 := [(4, .null), (0, .ref a0), (1, .int x1), (2, .int x2), (3, .int x3)]) rfl (Nat.le_of_ble_eq_true rfl) rfl ?_
    refine x_aloadN rfl rfl ?_
    refine x_ifnullN (tgt := 21) rfl rfl ?_
    refine x_iconst (v := (-1 : Int32)) rfl rfl ?_
    exact x_iret rfl rfl h
  · obtain ⟨k4, h⟩ := h.2 b3 rfl
    refine x_astore (i := 4) (L1 := [(4, .ref b3), (0, .ref a0), (1, .int x1), (2, .int x2), (3, .int x3)]) rfl (Nat.le_of_ble_eq_true rfl) rfl ?_
    refine x_aload rfl rfl ?_
    refine x_ifnull rfl ?_
    refine x_aload rfl rfl ?_
    refine x_iload_n rfl rfl ?_
    refine x_vi lm_S_128 vf_Table_has k4 rfl rfl (Nat.le_of_ble_eq_true rfl) rfl h (fun r6 D5 h => ?_)
    refine x_if_ne (tgt := 23) rfl rfl (fun c => ?_) (fun c => ?_)
    · have h := h.1 c
      refine x_iload_n rfl rfl ?_
      refine x_iconst (v := (-1 : Int32)) rfl rfl ?_
      refine x_icmp_ne (tgt := 35) rfl rfl (fun c => ?_) (fun c => ?_)
      · have h := h.1 c
        refine x_iload_n rfl rfl ?_
        refine x_if_lt (tgt := 55) rfl rfl (fun c => ?_) (fun c => ?_)
        · have h := h.1 c
          refine x_iconst (v := (-1 : Int32)) rfl rfl ?_
          exact x_iret rfl rfl h
        · have h := h.2 c
          refine x_iload_n rfl rfl ?_
          refine x_bipush (v := (60 : Int32)) rfl rfl ?_
          refine x_icmp_ge (tgt := 55) rfl rfl (fun c => ?_) (fun c => ?_)
          · have h := h.1 c
            refine x_iconst (v := (-1 : Int32)) rfl rfl ?_
            exact x_iret rfl rfl h
          · have h := h.2 c
            refine x_aload rfl rfl ?_
            refine x_iload_n rfl rfl ?_
            refine x_iload_n rfl rfl ?_
            refine x_si lm_S_314 sf_Looks_touching rfl rfl (Nat.le_of_ble_eq_true rfl) rfl h (fun r8 D7 h => ?_)
            refine x_goto (tgt := 56) rfl rfl ?_
            exact x_iret rfl rfl h
      · have h := h.2 c
        refine x_aload rfl rfl ?_
        refine x_iload_n rfl rfl ?_
        refine x_si lm_S_311 sf_Looks_lure rfl rfl (Nat.le_of_ble_eq_true rfl) rfl h (fun r10 D9 h => ?_)
        exact x_iret rfl rfl h
    · have h := h.2 c
      refine x_iconst (v := (-1 : Int32)) rfl rfl ?_
      exact x_iret rfl rfl h
theorem s_S_frame_0 {d : Nat} {D : xD} {Q : Option Value → xD → Prop} {a0 : Nat} {x1 : Int32} {x2 : Int32} {x3 : Int32} (k0 : xk a0 = 0) (h : xCq d m_S_filmAt [.ref a0, .int x1] D (fun o2 D1 => (o2 = none → Q (some (.int (-2 : Int32))) D1) ∧ (∀ b3, o2 = some b3 → xk b3 = 5 ∧ (¬ x2 = (-1 : Int32) → (x2 < 0 → Q (some (.int (-2 : Int32))) D1) ∧ (¬ x2 < 0 → xCi d m_Film_frames [.ref b3] D1 (fun r6 D5 => (x2 < r6 → (¬ x3 = 0 → (¬ x3 = (1 : Int32) → Q (some (.int (-2 : Int32))) D5) ∧ (x3 = (1 : Int32) → xCi d m_Film_who [.ref b3, .int x2] D5 (fun r8 D7 => Q (some (.int r8)) D7))) ∧ (x3 = 0 → xCi d m_Film_tenth [.ref b3, .int x2] D5 (fun r10 D9 => Q (some (.int r10)) D9))) ∧ (¬ x2 < r6 → Q (some (.int (-2 : Int32))) D5)))) ∧ (x2 = (-1 : Int32) → (¬ x3 = 0 → Q (some (.int (-2 : Int32))) D1) ∧ (x3 = 0 → xCi d m_Film_frames [.ref b3] D1 (fun r12 D11 => Q (some (.int r12)) D11)))))) : xPf (d + 1) m_S_frame 0 [(0, .ref a0), (1, .int x1), (2, .int x2), (3, .int x3)] [] D Q := by
  refine x_aload_n rfl rfl ?_
  refine x_iload_n rfl rfl ?_
  refine x_vq lm_S_317 vf_S_filmAt k0 rfl rfl (Nat.le_of_ble_eq_true rfl) rfl h (fun D1 h => ?_) (fun b3 D1 h => ?_)
  · have h := h.1 rfl
    refine x_astoreN (i := 4) (L1 := [(4, .null), (0, .ref a0), (1, .int x1), (2, .int x2), (3, .int x3)]) rfl (Nat.le_of_ble_eq_true rfl) rfl ?_
    refine x_aloadN rfl rfl ?_
    refine x_ifnonnullN rfl ?_
    refine x_bipush (v := (-2 : Int32)) rfl rfl ?_
    exact x_iret rfl rfl h
  · obtain ⟨k4, h⟩ := h.2 b3 rfl
    refine x_astore (i := 4) (L1 := [(4, .ref b3), (0, .ref a0), (1, .int x1), (2, .int x2), (3, .int x3)]) rfl (Nat.le_of_ble_eq_true rfl) rfl ?_
    refine x_aload rfl rfl ?_
    refine x_ifnonnull (tgt := 15) rfl rfl ?_
    refine x_iload_n rfl rfl ?_
    refine x_iconst (v := (-1 : Int32)) rfl rfl ?_
    refine x_icmp_ne (tgt := 35) rfl rfl (fun c => ?_) (fun c => ?_)
    · have h := h.1 c
      refine x_iload_n rfl rfl ?_
      refine x_if_lt (tgt := 48) rfl rfl (fun c => ?_) (fun c => ?_)
      · have h := h.1 c
        refine x_bipush (v := (-2 : Int32)) rfl rfl ?_
        exact x_iret rfl rfl h
      · have h := h.2 c
        refine x_iload_n rfl rfl ?_
        refine x_aload rfl rfl ?_
        refine x_vi lm_S_321 vf_Film_frames k4 rfl rfl (Nat.le_of_ble_eq_true rfl) rfl h (fun r6 D5 h => ?_)
        refine x_icmp_lt (tgt := 51) rfl rfl (fun c => ?_) (fun c => ?_)
        · have h := h.1 c
          refine x_iload_n rfl rfl ?_
          refine x_if_ne (tgt := 62) rfl rfl (fun c => ?_) (fun c => ?_)
          · have h := h.1 c
            refine x_iload_n rfl rfl ?_
            refine x_iconst (v := (1 : Int32)) rfl rfl ?_
            refine x_icmp_ne (tgt := 76) rfl rfl (fun c => ?_) (fun c => ?_)
            · have h := h.1 c
              refine x_bipush (v := (-2 : Int32)) rfl rfl ?_
              exact x_iret rfl rfl h
            · have h := h.2 c
              refine x_aload rfl rfl ?_
              refine x_iload_n rfl rfl ?_
              refine x_vi lm_S_329 vf_Film_who k4 rfl rfl (Nat.le_of_ble_eq_true rfl) rfl h (fun r8 D7 h => ?_)
              refine x_goto (tgt := 78) rfl rfl ?_
              exact x_iret rfl rfl h
          · have h := h.2 c
            refine x_aload rfl rfl ?_
            refine x_iload_n rfl rfl ?_
            refine x_vi lm_S_326 vf_Film_tenth k4 rfl rfl (Nat.le_of_ble_eq_true rfl) rfl h (fun r10 D9 h => ?_)
            exact x_iret rfl rfl h
        · have h := h.2 c
          refine x_bipush (v := (-2 : Int32)) rfl rfl ?_
          exact x_iret rfl rfl h
    · have h := h.2 c
      refine x_iload_n rfl rfl ?_
      refine x_if_ne (tgt := 32) rfl rfl (fun c => ?_) (fun c => ?_)
      · have h := h.1 c
        refine x_bipush (v := (-2 : Int32)) rfl rfl ?_
        exact x_iret rfl rfl h
      · have h := h.2 c
        refine x_aload rfl rfl ?_
        refine x_vi lm_S_321 vf_Film_frames k4 rfl rfl (Nat.le_of_ble_eq_true rfl) rfl h (fun r12 D11 h => ?_)
        refine x_goto (tgt := 34) rfl rfl ?_
        exact x_iret rfl rfl h
theorem s_S_film_0 {d : Nat} {D : xD} {Q : Option Value → xD → Prop} {a0 : Nat} {x1 : Int32} {x2 : Int32} {x3 : Int32} (k0 : xk a0 = 0) (h : xCq d m_S_tableAt [.ref a0, .int x1] D (fun o2 D1 => (o2 = none → xCq d m_S_filmAt [.ref a0, .int x2] D1 (fun o6 D5 => (o6 = none → Q (some (.int (-2 : Int32))) D5) ∧ (∀ b7, o6 = some b7 → xk b7 = 5 ∧ Q (some (.int (-2 : Int32))) D5))) ∧ (∀ b3, o2 = some b3 → xk b3 = 4 ∧ xCq d m_S_filmAt [.ref a0, .int x2] D1 (fun o10 D9 => (o10 = none → Q (some (.int (-2 : Int32))) D9) ∧ (∀ b11, o10 = some b11 → xk b11 = 5 ∧ xCi d m_S_personAsked [.ref b3, .int x3] D9 (fun r14 D13 => (¬ r14 = (-1 : Int32) → xCi d m_Film_firstWith [.ref b11, .int r14] D13 (fun r16 D15 => (¬ r16 = (-1 : Int32) → ((20 : Int32) ≤ x3 → xCi d m_Film_upTo [.ref b11, .int r14] D15 (fun r18 D17 => Q (some (.int r18)) D17)) ∧ (¬ (20 : Int32) ≤ x3 → xCi d m_Film_above [.ref b11, .int r14] D15 (fun r20 D19 => Q (some (.int r20)) D19))) ∧ (r16 = (-1 : Int32) → Q (some (.int (-2 : Int32))) D15))) ∧ (r14 = (-1 : Int32) → xCi d m_Table_people [.ref b3] D13 (fun r22 D21 => xCi d m_Film_answer [.ref b11, .int r22, .int x3] D21 (fun r24 D23 => Q (some (.int r24)) D23))))))))) : xPf (d + 1) m_S_film 0 [(0, .ref a0), (1, .int x1), (2, .int x2), (3, .int x3)] [] D Q := by
  refine x_aload_n rfl rfl ?_
  refine x_iload_n rfl rfl ?_
  refine x_vq lm_S_119 vf_S_tableAt k0 rfl rfl (Nat.le_of_ble_eq_true rfl) rfl h (fun D1 h => ?_) (fun b3 D1 h => ?_)
  · have h := h.1 rfl
    refine x_astoreN (i := 4) (L1 := [(4, .null), (0, .ref a0), (1, .int x1), (2, .int x2), (3, .int x3)]) rfl (Nat.le_of_ble_eq_true rfl) rfl ?_
    refine x_aload_n rfl rfl ?_
    refine x_iload_n rfl rfl ?_
    refine x_vq lm_S_317 vf_S_filmAt k0 rfl rfl (Nat.le_of_ble_eq_true rfl) rfl h (fun D5 h => ?_) (fun b7 D5 h => ?_)
    · have h := h.1 rfl
      refine x_astoreN (i := 5) (L1 := [(5, .null), (4, .null), (0, .ref a0), (1, .int x1), (2, .int x2), (3, .int x3)]) rfl (Nat.le_of_ble_eq_true rfl) rfl ?_
      refine x_aloadN rfl rfl ?_
      refine x_ifnullN (tgt := 24) rfl rfl ?_
      refine x_bipush (v := (-2 : Int32)) rfl rfl ?_
      exact x_iret rfl rfl h
    · obtain ⟨k8, h⟩ := h.2 b7 rfl
      refine x_astore (i := 5) (L1 := [(5, .ref b7), (4, .null), (0, .ref a0), (1, .int x1), (2, .int x2), (3, .int x3)]) rfl (Nat.le_of_ble_eq_true rfl) rfl ?_
      refine x_aloadN rfl rfl ?_
      refine x_ifnullN (tgt := 24) rfl rfl ?_
      refine x_bipush (v := (-2 : Int32)) rfl rfl ?_
      exact x_iret rfl rfl h
  · obtain ⟨k4, h⟩ := h.2 b3 rfl
    refine x_astore (i := 4) (L1 := [(4, .ref b3), (0, .ref a0), (1, .int x1), (2, .int x2), (3, .int x3)]) rfl (Nat.le_of_ble_eq_true rfl) rfl ?_
    refine x_aload_n rfl rfl ?_
    refine x_iload_n rfl rfl ?_
    refine x_vq lm_S_317 vf_S_filmAt k0 rfl rfl (Nat.le_of_ble_eq_true rfl) rfl h (fun D9 h => ?_) (fun b11 D9 h => ?_)
    · have h := h.1 rfl
      refine x_astoreN (i := 5) (L1 := [(5, .null), (4, .ref b3), (0, .ref a0), (1, .int x1), (2, .int x2), (3, .int x3)]) rfl (Nat.le_of_ble_eq_true rfl) rfl ?_
      refine x_aload rfl rfl ?_
      refine x_ifnull rfl ?_
      refine x_aloadN rfl rfl ?_
      refine x_ifnonnullN rfl ?_
      refine x_bipush (v := (-2 : Int32)) rfl rfl ?_
      exact x_iret rfl rfl h
    · obtain ⟨k12, h⟩ := h.2 b11 rfl
      refine x_astore (i := 5) (L1 := [(5, .ref b11), (4, .ref b3), (0, .ref a0), (1, .int x1), (2, .int x2), (3, .int x3)]) rfl (Nat.le_of_ble_eq_true rfl) rfl ?_
      refine x_aload rfl rfl ?_
      refine x_ifnull rfl ?_
      refine x_aload rfl rfl ?_
      refine x_ifnonnull (tgt := 27) rfl rfl ?_
      refine x_aload rfl rfl ?_
      refine x_iload_n rfl rfl ?_
      refine x_si lm_S_179 sf_S_personAsked rfl rfl (Nat.le_of_ble_eq_true rfl) rfl h (fun r14 D13 h => ?_)
      refine x_istore (i := 6) (L1 := [(6, .int r14), (5, .ref b11), (4, .ref b3), (0, .ref a0), (1, .int x1), (2, .int x2), (3, .int x3)]) rfl (Nat.le_of_ble_eq_true rfl) rfl ?_
      refine x_iload rfl rfl ?_
      refine x_iconst (v := (-1 : Int32)) rfl rfl ?_
      refine x_icmp_ne (tgt := 53) rfl rfl (fun c => ?_) (fun c => ?_)
      · have h := h.1 c
        refine x_aload rfl rfl ?_
        refine x_iload rfl rfl ?_
        refine x_vi lm_S_334 vf_Film_firstWith k12 rfl rfl (Nat.le_of_ble_eq_true rfl) rfl h (fun r16 D15 h => ?_)
        refine x_iconst (v := (-1 : Int32)) rfl rfl ?_
        refine x_icmp_ne (tgt := 67) rfl rfl (fun c => ?_) (fun c => ?_)
        · have h := h.1 c
          refine x_iload_n rfl rfl ?_
          refine x_bipush (v := (20 : Int32)) rfl rfl ?_
          refine x_icmp_ge (tgt := 83) rfl rfl (fun c => ?_) (fun c => ?_)
          · have h := h.1 c
            refine x_aload rfl rfl ?_
            refine x_iload rfl rfl ?_
            refine x_vi lm_S_340 vf_Film_upTo k12 rfl rfl (Nat.le_of_ble_eq_true rfl) rfl h (fun r18 D17 h => ?_)
            exact x_iret rfl rfl h
          · have h := h.2 c
            refine x_aload rfl rfl ?_
            refine x_iload rfl rfl ?_
            refine x_vi lm_S_337 vf_Film_above k12 rfl rfl (Nat.le_of_ble_eq_true rfl) rfl h (fun r20 D19 h => ?_)
            refine x_goto (tgt := 90) rfl rfl ?_
            exact x_iret rfl rfl h
        · have h := h.2 c
          refine x_bipush (v := (-2 : Int32)) rfl rfl ?_
          exact x_iret rfl rfl h
      · have h := h.2 c
        refine x_aload rfl rfl ?_
        refine x_aload rfl rfl ?_
        refine x_vi lm_S_296 vf_Table_people k4 rfl rfl (Nat.le_of_ble_eq_true rfl) rfl h (fun r22 D21 h => ?_)
        refine x_iload_n rfl rfl ?_
        refine x_vi lm_S_332 vf_Film_answer k12 rfl rfl (Nat.le_of_ble_eq_true rfl) rfl h (fun r24 D23 h => ?_)
        exact x_iret rfl rfl h
theorem s_S_pulled_0 {d : Nat} {D : xD} {Q : Option Value → xD → Prop} {a0 : Nat} {x1 : Int32} {x2 : Int32} {x3 : Int32} {x4 : Int32} (k0 : xk a0 = 0) (h : xCq d m_S_tableAt [.ref a0, .int x1] D (fun o2 D1 => (o2 = none → xCq d m_S_filmAt [.ref a0, .int x2] D1 (fun o6 D5 => (o6 = none → Q (some (.long (-1 : Int64))) D5) ∧ (∀ b7, o6 = some b7 → xk b7 = 5 ∧ Q (some (.long (-1 : Int64))) D5))) ∧ (∀ b3, o2 = some b3 → xk b3 = 4 ∧ xCq d m_S_filmAt [.ref a0, .int x2] D1 (fun o10 D9 => (o10 = none → Q (some (.long (-1 : Int64))) D9) ∧ (∀ b11, o10 = some b11 → xk b11 = 5 ∧ xCi d m_Table_has [.ref b3, .int x3] D9 (fun r14 D13 => (r14 = 0 → Q (some (.long (-1 : Int64))) D13) ∧ (¬ r14 = 0 → xCi d m_Film_firstWith [.ref b11, .int x3] D13 (fun r16 D15 => (¬ r16 = (-1 : Int32) → xCi d m_Table_people [.ref b3] D15 (fun r18 D17 => xCl d m_Film_likelyFirst [.ref b11, .int r18, .int x3, .int x4] D17 (fun r20 D19 => Q (some (.long r20)) D19))) ∧ (r16 = (-1 : Int32) → Q (some (.long (-1 : Int64))) D15))))))))) : xPf (d + 1) m_S_pulled 0 [(0, .ref a0), (1, .int x1), (2, .int x2), (3, .int x3), (4, .int x4)] [] D Q := by
  refine x_aload_n rfl rfl ?_
  refine x_iload_n rfl rfl ?_
  refine x_vq lm_S_119 vf_S_tableAt k0 rfl rfl (Nat.le_of_ble_eq_true rfl) rfl h (fun D1 h => ?_) (fun b3 D1 h => ?_)
  · have h := h.1 rfl
    refine x_astoreN (i := 5) (L1 := [(5, .null), (0, .ref a0), (1, .int x1), (2, .int x2), (3, .int x3), (4, .int x4)]) rfl (Nat.le_of_ble_eq_true rfl) rfl ?_
    refine x_aload_n rfl rfl ?_
    refine x_iload_n rfl rfl ?_
    refine x_vq lm_S_317 vf_S_filmAt k0 rfl rfl (Nat.le_of_ble_eq_true rfl) rfl h (fun D5 h => ?_) (fun b7 D5 h => ?_)
    · have h := h.1 rfl
      refine x_astoreN (i := 6) (L1 := [(6, .null), (5, .null), (0, .ref a0), (1, .int x1), (2, .int x2), (3, .int x3), (4, .int x4)]) rfl (Nat.le_of_ble_eq_true rfl) rfl ?_
      refine x_aloadN rfl rfl ?_
      refine x_ifnullN (tgt := 43) rfl rfl ?_
      refine x_ldc2 wd_1253 rfl ?_
      exact x_lret rfl rfl h
    · obtain ⟨k8, h⟩ := h.2 b7 rfl
      refine x_astore (i := 6) (L1 := [(6, .ref b7), (5, .null), (0, .ref a0), (1, .int x1), (2, .int x2), (3, .int x3), (4, .int x4)]) rfl (Nat.le_of_ble_eq_true rfl) rfl ?_
      refine x_aloadN rfl rfl ?_
      refine x_ifnullN (tgt := 43) rfl rfl ?_
      refine x_ldc2 wd_1253 rfl ?_
      exact x_lret rfl rfl h
  · obtain ⟨k4, h⟩ := h.2 b3 rfl
    refine x_astore (i := 5) (L1 := [(5, .ref b3), (0, .ref a0), (1, .int x1), (2, .int x2), (3, .int x3), (4, .int x4)]) rfl (Nat.le_of_ble_eq_true rfl) rfl ?_
    refine x_aload_n rfl rfl ?_
    refine x_iload_n rfl rfl ?_
    refine x_vq lm_S_317 vf_S_filmAt k0 rfl rfl (Nat.le_of_ble_eq_true rfl) rfl h (fun D9 h => ?_) (fun b11 D9 h => ?_)
    · have h := h.1 rfl
      refine x_astoreN (i := 6) (L1 := [(6, .null), (5, .ref b3), (0, .ref a0), (1, .int x1), (2, .int x2), (3, .int x3), (4, .int x4)]) rfl (Nat.le_of_ble_eq_true rfl) rfl ?_
      refine x_aload rfl rfl ?_
      refine x_ifnull rfl ?_
      refine x_aloadN rfl rfl ?_
      refine x_ifnullN (tgt := 43) rfl rfl ?_
      refine x_ldc2 wd_1253 rfl ?_
      exact x_lret rfl rfl h
    · obtain ⟨k12, h⟩ := h.2 b11 rfl
      refine x_astore (i := 6) (L1 := [(6, .ref b11), (5, .ref b3), (0, .ref a0), (1, .int x1), (2, .int x2), (3, .int x3), (4, .int x4)]) rfl (Nat.le_of_ble_eq_true rfl) rfl ?_
      refine x_aload rfl rfl ?_
      refine x_ifnull rfl ?_
      refine x_aload rfl rfl ?_
      refine x_ifnull rfl ?_
      refine x_aload rfl rfl ?_
      refine x_iload_n rfl rfl ?_
      refine x_vi lm_S_128 vf_Table_has k4 rfl rfl (Nat.le_of_ble_eq_true rfl) rfl h (fun r14 D13 h => ?_)
      refine x_if_eq (tgt := 43) rfl rfl (fun c => ?_) (fun c => ?_)
      · have h := h.1 c
        refine x_ldc2 wd_1253 rfl ?_
        exact x_lret rfl rfl h
      · have h := h.2 c
        refine x_aload rfl rfl ?_
        refine x_iload_n rfl rfl ?_
        refine x_vi lm_S_334 vf_Film_firstWith k12 rfl rfl (Nat.le_of_ble_eq_true rfl) rfl h (fun r16 D15 h => ?_)
        refine x_iconst (v := (-1 : Int32)) rfl rfl ?_
        refine x_icmp_ne (tgt := 47) rfl rfl (fun c => ?_) (fun c => ?_)
        · have h := h.1 c
          refine x_aload rfl rfl ?_
          refine x_aload rfl rfl ?_
          refine x_vi lm_S_296 vf_Table_people k4 rfl rfl (Nat.le_of_ble_eq_true rfl) rfl h (fun r18 D17 h => ?_)
          refine x_iload_n rfl rfl ?_
          refine x_iload rfl rfl ?_
          refine x_vl lm_S_343 vf_Film_likelyFirst k12 rfl rfl (Nat.le_of_ble_eq_true rfl) rfl h (fun r20 D19 h => ?_)
          exact x_lret rfl rfl h
        · have h := h.2 c
          refine x_ldc2 wd_1253 rfl ?_
          exact x_lret rfl rfl h
theorem s_S_count_0 {d : Nat} {D : xD} {Q : Option Value → xD → Prop} {a0 : Nat} {x1 : Int32} (k0 : xk a0 = 0) (h : xCi d m_Told_howMany [.ref (a0 + 1), .int x1] D (fun r2 D1 => Q (some (.int r2)) D1)) : xPf (d + 1) m_S_count 0 [(0, .ref a0), (1, .int x1)] [] D Q := by
  refine x_aload_n rfl rfl ?_
  refine x_gR lf_S_10 k0 rfl rfl ?_
  refine x_iload_n rfl rfl ?_
  refine x_vi lm_S_91 vf_Told_howMany (ck_0_0 k0) rfl rfl (Nat.le_of_ble_eq_true rfl) rfl h (fun r2 D1 h => ?_)
  exact x_iret rfl rfl h
theorem s_S_image_0 {d : Nat} {D : xD} {Q : Option Value → xD → Prop} {a0 : Nat} {x1 : Int32} (k0 : xk a0 = 0) (h : xCq d m_S_imageAt [.ref a0, .int x1] D (fun o2 D1 => (o2 = none → Q (some (.int (0 : Int32))) D1) ∧ (∀ b3, o2 = some b3 → xk b3 = 1 ∧ xCv d m_Told_copy [.ref b3, .ref (a0 + 1)] D1 (fun D5 => xCv d m_Row_set [.ref (a0 + 178), .int x1, .int (1 : Int32)] D5 (fun D6 => Q (some (.int (1 : Int32))) D6))))) : xPf (d + 1) m_S_image 0 [(0, .ref a0), (1, .int x1)] [] D Q := by
  refine x_aload_n rfl rfl ?_
  refine x_iload_n rfl rfl ?_
  refine x_vq lm_S_346 vf_S_imageAt k0 rfl rfl (Nat.le_of_ble_eq_true rfl) rfl h (fun D1 h => ?_) (fun b3 D1 h => ?_)
  · have h := h.1 rfl
    refine x_astore_nN (i := 2) (L1 := [(2, .null), (0, .ref a0), (1, .int x1)]) rfl rfl (Nat.le_of_ble_eq_true rfl) rfl ?_
    refine x_aload_nN rfl rfl ?_
    refine x_ifnonnullN rfl ?_
    refine x_iconst (v := (0 : Int32)) rfl rfl ?_
    exact x_zr rfl (Or.inl rfl) rfl h
  · obtain ⟨k4, h⟩ := h.2 b3 rfl
    refine x_astore_n (i := 2) (L1 := [(2, .ref b3), (0, .ref a0), (1, .int x1)]) rfl rfl (Nat.le_of_ble_eq_true rfl) rfl ?_
    refine x_aload_n rfl rfl ?_
    refine x_ifnonnull (tgt := 12) rfl rfl ?_
    refine x_aload_n rfl rfl ?_
    refine x_aload_n rfl rfl ?_
    refine x_gR lf_S_10 k0 rfl rfl ?_
    refine x_vv lm_S_350 vf_Told_copy k4 rfl rfl (Nat.le_of_ble_eq_true rfl) rfl h (fun D5 h => ?_)
    refine x_aload_n rfl rfl ?_
    refine x_gR lf_S_25 k0 rfl rfl ?_
    refine x_iload_n rfl rfl ?_
    refine x_iconst (v := (1 : Int32)) rfl rfl ?_
    refine x_vv lm_S_354 vf_Row_set (ck_0_2 k0) rfl rfl (Nat.le_of_ble_eq_true rfl) rfl h (fun D6 h => ?_)
    refine x_iconst (v := (1 : Int32)) rfl rfl ?_
    exact x_zr rfl (Or.inr rfl) rfl h
theorem s_S_again_0 {d : Nat} {D : xD} {Q : Option Value → xD → Prop} {a0 : Nat} {x1 : Int32} (k0 : xk a0 = 0) (h : xCq d m_S_imageAt [.ref a0, .int x1] D (fun o2 D1 => (o2 = none → Q (some (.int (0 : Int32))) D1) ∧ (∀ b3, o2 = some b3 → xk b3 = 1 ∧ xCi d m_Row_get [.ref (a0 + 178), .int x1] D1 (fun r6 D5 => (¬ r6 = 0 → xCv d m_Told_copy [.ref (a0 + 1), .ref b3] D5 (fun D7 => Q (some (.int (1 : Int32))) D7)) ∧ (r6 = 0 → Q (some (.int (0 : Int32))) D5))))) : xPf (d + 1) m_S_again 0 [(0, .ref a0), (1, .int x1)] [] D Q := by
  refine x_aload_n rfl rfl ?_
  refine x_iload_n rfl rfl ?_
  refine x_vq lm_S_346 vf_S_imageAt k0 rfl rfl (Nat.le_of_ble_eq_true rfl) rfl h (fun D1 h => ?_) (fun b3 D1 h => ?_)
  · have h := h.1 rfl
    refine x_astore_nN (i := 2) (L1 := [(2, .null), (0, .ref a0), (1, .int x1)]) rfl rfl (Nat.le_of_ble_eq_true rfl) rfl ?_
    refine x_aload_nN rfl rfl ?_
    refine x_ifnullN (tgt := 21) rfl rfl ?_
    refine x_iconst (v := (0 : Int32)) rfl rfl ?_
    exact x_zr rfl (Or.inl rfl) rfl h
  · obtain ⟨k4, h⟩ := h.2 b3 rfl
    refine x_astore_n (i := 2) (L1 := [(2, .ref b3), (0, .ref a0), (1, .int x1)]) rfl rfl (Nat.le_of_ble_eq_true rfl) rfl ?_
    refine x_aload_n rfl rfl ?_
    refine x_ifnull rfl ?_
    refine x_aload_n rfl rfl ?_
    refine x_gR lf_S_25 k0 rfl rfl ?_
    refine x_iload_n rfl rfl ?_
    refine x_vi lm_S_143 vf_Row_get (ck_0_2 k0) rfl rfl (Nat.le_of_ble_eq_true rfl) rfl h (fun r6 D5 h => ?_)
    refine x_if_ne (tgt := 23) rfl rfl (fun c => ?_) (fun c => ?_)
    · have h := h.1 c
      refine x_aload_n rfl rfl ?_
      refine x_gR lf_S_10 k0 rfl rfl ?_
      refine x_aload_n rfl rfl ?_
      refine x_vv lm_S_350 vf_Told_copy (ck_0_0 k0) rfl rfl (Nat.le_of_ble_eq_true rfl) rfl h (fun D7 h => ?_)
      refine x_iconst (v := (1 : Int32)) rfl rfl ?_
      exact x_zr rfl (Or.inr rfl) rfl h
    · have h := h.2 c
      refine x_iconst (v := (0 : Int32)) rfl rfl ?_
      exact x_zr rfl (Or.inl rfl) rfl h
theorem s_S_imageAt_0 {d : Nat} {D : xD} {Q : Option Value → xD → Prop} {a0 : Nat} {x1 : Int32} (k0 : xk a0 = 0) (h : (x1 < 0 → Q (some (.null)) D) ∧ (¬ x1 < 0 → ((Int32.ofNat (xl (a0 + 45))) ≤ x1 → Q (some (.null)) D) ∧ (¬ (Int32.ofNat (xl (a0 + 45))) ≤ x1 → vp_in x1 (xl (a0 + 45)) ∧ xk ((a0 + 45) + 1 + (x1 : Int32).toNatClampNeg * xw 4) = 1 ∧ Q (some (.ref ((a0 + 45) + 1 + (x1 : Int32).toNatClampNeg * xw 4))) D))) : xPf (d + 1) m_S_imageAt 0 [(0, .ref a0), (1, .int x1)] [] D Q := by
  refine x_iload_n rfl rfl ?_
  refine x_if_lt (tgt := 22) rfl rfl (fun c => ?_) (fun c => ?_)
  · have h := h.1 c
    refine x_null rfl ?_
    exact x_aretN rfl rfl h
  · have h := h.2 c
    refine x_iload_n rfl rfl ?_
    refine x_aload_n rfl rfl ?_
    refine x_gR lf_S_16 k0 rfl rfl ?_
    refine x_alen (t := 4) (ck_0_1 k0) (by decide) (xlt (ck_0_1 k0) (by decide)) rfl rfl ?_
    refine x_icmp_ge (tgt := 22) rfl rfl (fun c => ?_) (fun c => ?_)
    · have h := h.1 c
      refine x_null rfl ?_
      exact x_aretN rfl rfl h
    · have h := h.2 c
      refine x_aload_n rfl rfl ?_
      refine x_gR lf_S_16 k0 rfl rfl ?_
      refine x_iload_n rfl rfl ?_
      refine x_aald (t := 4) (ck_0_1 k0) (by decide) rfl (xlt (ck_0_1 k0) (by decide)) h.1 rfl ?_
      have h := h.2
      obtain ⟨k1, h⟩ := h
      refine x_goto (tgt := 23) rfl rfl ?_
      exact x_aret rfl rfl h
theorem s_S_tableAt_0 {d : Nat} {D : xD} {Q : Option Value → xD → Prop} {a0 : Nat} {x1 : Int32} (k0 : xk a0 = 0) (h : xCq d m_Told_sheetAt [.ref (a0 + 1), .int (0 : Int32), .int x1] D (fun o2 D1 => (o2 = none → Q (some (.null)) D1) ∧ (∀ b3, o2 = some b3 → xk b3 = 3 ∧ Q (some (.ref (b3 + 1))) D1))) : xPf (d + 1) m_S_tableAt 0 [(0, .ref a0), (1, .int x1)] [] D Q := by
  refine x_aload_n rfl rfl ?_
  refine x_gR lf_S_10 k0 rfl rfl ?_
  refine x_iconst (v := (0 : Int32)) rfl rfl ?_
  refine x_iload_n rfl rfl ?_
  refine x_vq lm_S_233 vf_Told_sheetAt (ck_0_0 k0) rfl rfl (Nat.le_of_ble_eq_true rfl) rfl h (fun D1 h => ?_) (fun b3 D1 h => ?_)
  · have h := h.1 rfl
    refine x_astore_nN (i := 2) (L1 := [(2, .null), (0, .ref a0), (1, .int x1)]) rfl rfl (Nat.le_of_ble_eq_true rfl) rfl ?_
    refine x_aload_nN rfl rfl ?_
    refine x_ifnonnullN rfl ?_
    refine x_null rfl ?_
    refine x_goto (tgt := 22) rfl rfl ?_
    exact x_aretN rfl rfl h
  · obtain ⟨k4, h⟩ := h.2 b3 rfl
    refine x_astore_n (i := 2) (L1 := [(2, .ref b3), (0, .ref a0), (1, .int x1)]) rfl rfl (Nat.le_of_ble_eq_true rfl) rfl ?_
    refine x_aload_n rfl rfl ?_
    refine x_ifnonnull (tgt := 18) rfl rfl ?_
    refine x_aload_n rfl rfl ?_
    refine x_gR lf_S_357 k4 rfl rfl ?_
    exact x_aret rfl rfl h
theorem s_S_heapAt_0 {d : Nat} {D : xD} {Q : Option Value → xD → Prop} {a0 : Nat} {x1 : Int32} (k0 : xk a0 = 0) (h : xCq d m_Told_sheetAt [.ref (a0 + 1), .int (1 : Int32), .int x1] D (fun o2 D1 => (o2 = none → Q (some (.null)) D1) ∧ (∀ b3, o2 = some b3 → xk b3 = 3 ∧ Q (some (.ref (b3 + 6))) D1))) : xPf (d + 1) m_S_heapAt 0 [(0, .ref a0), (1, .int x1)] [] D Q := by
  refine x_aload_n rfl rfl ?_
  refine x_gR lf_S_10 k0 rfl rfl ?_
  refine x_iconst (v := (1 : Int32)) rfl rfl ?_
  refine x_iload_n rfl rfl ?_
  refine x_vq lm_S_233 vf_Told_sheetAt (ck_0_0 k0) rfl rfl (Nat.le_of_ble_eq_true rfl) rfl h (fun D1 h => ?_) (fun b3 D1 h => ?_)
  · have h := h.1 rfl
    refine x_astore_nN (i := 2) (L1 := [(2, .null), (0, .ref a0), (1, .int x1)]) rfl rfl (Nat.le_of_ble_eq_true rfl) rfl ?_
    refine x_aload_nN rfl rfl ?_
    refine x_ifnonnullN rfl ?_
    refine x_null rfl ?_
    refine x_goto (tgt := 22) rfl rfl ?_
    exact x_aretN rfl rfl h
  · obtain ⟨k4, h⟩ := h.2 b3 rfl
    refine x_astore_n (i := 2) (L1 := [(2, .ref b3), (0, .ref a0), (1, .int x1)]) rfl rfl (Nat.le_of_ble_eq_true rfl) rfl ?_
    refine x_aload_n rfl rfl ?_
    refine x_ifnonnull (tgt := 18) rfl rfl ?_
    refine x_aload_n rfl rfl ?_
    refine x_gR lf_S_361 k4 rfl rfl ?_
    exact x_aret rfl rfl h
theorem s_S_bookAt_0 {d : Nat} {D : xD} {Q : Option Value → xD → Prop} {a0 : Nat} {x1 : Int32} (k0 : xk a0 = 0) (h : xCq d m_Told_sheetAt [.ref (a0 + 1), .int (2 : Int32), .int x1] D (fun o2 D1 => (o2 = none → Q (some (.null)) D1) ∧ (∀ b3, o2 = some b3 → xk b3 = 3 ∧ Q (some (.ref (b3 + 8))) D1))) : xPf (d + 1) m_S_bookAt 0 [(0, .ref a0), (1, .int x1)] [] D Q := by
  refine x_aload_n rfl rfl ?_
  refine x_gR lf_S_10 k0 rfl rfl ?_
  refine x_iconst (v := (2 : Int32)) rfl rfl ?_
  refine x_iload_n rfl rfl ?_
  refine x_vq lm_S_233 vf_Told_sheetAt (ck_0_0 k0) rfl rfl (Nat.le_of_ble_eq_true rfl) rfl h (fun D1 h => ?_) (fun b3 D1 h => ?_)
  · have h := h.1 rfl
    refine x_astore_nN (i := 2) (L1 := [(2, .null), (0, .ref a0), (1, .int x1)]) rfl rfl (Nat.le_of_ble_eq_true rfl) rfl ?_
    refine x_aload_nN rfl rfl ?_
    refine x_ifnonnullN rfl ?_
    refine x_null rfl ?_
    refine x_goto (tgt := 22) rfl rfl ?_
    exact x_aretN rfl rfl h
  · obtain ⟨k4, h⟩ := h.2 b3 rfl
    refine x_astore_n (i := 2) (L1 := [(2, .ref b3), (0, .ref a0), (1, .int x1)]) rfl rfl (Nat.le_of_ble_eq_true rfl) rfl ?_
    refine x_aload_n rfl rfl ?_
    refine x_ifnonnull (tgt := 18) rfl rfl ?_
    refine x_aload_n rfl rfl ?_
    refine x_gR lf_S_364 k4 rfl rfl ?_
    exact x_aret rfl rfl h
theorem s_S_filmAt_0 {d : Nat} {D : xD} {Q : Option Value → xD → Prop} {a0 : Nat} {x1 : Int32} (k0 : xk a0 = 0) (h : xCq d m_Told_sheetAt [.ref (a0 + 1), .int (4 : Int32), .int x1] D (fun o2 D1 => (o2 = none → Q (some (.null)) D1) ∧ (∀ b3, o2 = some b3 → xk b3 = 3 ∧ Q (some (.ref (b3 + 14))) D1))) : xPf (d + 1) m_S_filmAt 0 [(0, .ref a0), (1, .int x1)] [] D Q := by
  refine x_aload_n rfl rfl ?_
  refine x_gR lf_S_10 k0 rfl rfl ?_
  refine x_iconst (v := (4 : Int32)) rfl rfl ?_
  refine x_iload_n rfl rfl ?_
  refine x_vq lm_S_233 vf_Told_sheetAt (ck_0_0 k0) rfl rfl (Nat.le_of_ble_eq_true rfl) rfl h (fun D1 h => ?_) (fun b3 D1 h => ?_)
  · have h := h.1 rfl
    refine x_astore_nN (i := 2) (L1 := [(2, .null), (0, .ref a0), (1, .int x1)]) rfl rfl (Nat.le_of_ble_eq_true rfl) rfl ?_
    refine x_aload_nN rfl rfl ?_
    refine x_ifnonnullN rfl ?_
    refine x_null rfl ?_
    refine x_goto (tgt := 22) rfl rfl ?_
    exact x_aretN rfl rfl h
  · obtain ⟨k4, h⟩ := h.2 b3 rfl
    refine x_astore_n (i := 2) (L1 := [(2, .ref b3), (0, .ref a0), (1, .int x1)]) rfl rfl (Nat.le_of_ble_eq_true rfl) rfl ?_
    refine x_aload_n rfl rfl ?_
    refine x_ifnonnull (tgt := 18) rfl rfl ?_
    refine x_aload_n rfl rfl ?_
    refine x_gR lf_S_366 k4 rfl rfl ?_
    exact x_aret rfl rfl h
theorem s_S_leastTerms_0 {d : Nat} {D : xD} {Q : Option Value → xD → Prop} {x0 : Int64} {x2 : Int64} {x4 : Int32}  (h : xPf (d + 1) m_S_leastTerms 9 [(0, .long x0), (2, .long x2), (4, .int x4), (5, .long x2), (7, .long x0), (9, .int (0 : Int32))] [] D Q) : xPf (d + 1) m_S_leastTerms 0 [(0, .long x0), (2, .long x2), (4, .int x4)] [] D Q := by
  refine x_lload_n rfl rfl ?_
  refine x_lstore (i := 5) (L1 := [(5, .long x2), (0, .long x0), (2, .long x2), (4, .int x4)]) rfl (Nat.le_of_ble_eq_true rfl) rfl ?_
  refine x_lload_n rfl rfl ?_
  refine x_lstore (i := 7) (L1 := [(7, .long x0), (5, .long x2), (0, .long x0), (2, .long x2), (4, .int x4)]) rfl (Nat.le_of_ble_eq_true rfl) rfl ?_
  refine x_iconst (v := (0 : Int32)) rfl rfl ?_
  refine x_istore (i := 9) (L1 := [(9, .int (0 : Int32)), (7, .long x0), (5, .long x2), (0, .long x0), (2, .long x2), (4, .int x4)]) rfl (Nat.le_of_ble_eq_true rfl) rfl ?_
  exact xP_sub [3, 4, 5, 2, 1, 0] rfl h
theorem s_S_leastTerms_9 {d : Nat} {D : xD} {Q : Option Value → xD → Prop} {x0 : Int64} {x2 : Int64} {x4 : Int32} {x5 : Int64} {x7 : Int64} {x9 : Int32}  (h : ((100 : Int32) ≤ x9 → (¬ (lg_cmp x5 (0 : Int64)) = 0 → (x4 = 0 → ¬ x5 = 0 ∧ Q (some (.long (x0 / x5))) D) ∧ (¬ x4 = 0 → ¬ x5 = 0 ∧ Q (some (.long (x2 / x5))) D)) ∧ ((lg_cmp x5 (0 : Int64)) = 0 → Q (some (.long (0 : Int64))) D)) ∧ (¬ (100 : Int32) ≤ x9 → ((lg_cmp x7 (0 : Int64)) = 0 → (¬ (lg_cmp x5 (0 : Int64)) = 0 → (x4 = 0 → ¬ x5 = 0 ∧ Q (some (.long (x0 / x5))) D) ∧ (¬ x4 = 0 → ¬ x5 = 0 ∧ Q (some (.long (x2 / x5))) D)) ∧ ((lg_cmp x5 (0 : Int64)) = 0 → Q (some (.long (0 : Int64))) D)) ∧ (¬ (lg_cmp x7 (0 : Int64)) = 0 → ¬ x7 = 0 ∧ xPf (d + 1) m_S_leastTerms 9 [(0, .long x0), (2, .long x2), (4, .int x4), (5, .long x7), (7, .long (x5 - x5 / x7 * x7)), (9, .int (x9 + (1 : Int32)))] [] D Q))) : xPf (d + 1) m_S_leastTerms 9 [(0, .long x0), (2, .long x2), (4, .int x4), (5, .long x5), (7, .long x7), (9, .int x9)] [] D Q := by
  refine x_iload rfl rfl ?_
  refine x_bipush (v := (100 : Int32)) rfl rfl ?_
  refine x_icmp_ge (tgt := 44) rfl rfl (fun c => ?_) (fun c => ?_)
  · have h := h.1 c
    refine x_lload rfl rfl ?_
    refine x_lconst (v := 0) rfl rfl ?_
    refine x_lcmp rfl ?_
    refine x_if_ne (tgt := 53) rfl rfl (fun c => ?_) (fun c => ?_)
    · have h := h.1 c
      refine x_iload rfl rfl ?_
      refine x_if_eq (tgt := 65) rfl rfl (fun c => ?_) (fun c => ?_)
      · have h := h.1 c
        refine x_lload_n rfl rfl ?_
        refine x_lload rfl rfl ?_
        refine x_ldiv rfl h.1 ?_
        have h := h.2
        exact x_lret rfl rfl h
      · have h := h.2 c
        refine x_lload_n rfl rfl ?_
        refine x_lload rfl rfl ?_
        refine x_ldiv rfl h.1 ?_
        have h := h.2
        refine x_goto (tgt := 69) rfl rfl ?_
        exact x_lret rfl rfl h
    · have h := h.2 c
      refine x_lconst (v := 0) rfl rfl ?_
      exact x_lret rfl rfl h
  · have h := h.2 c
    refine x_lload rfl rfl ?_
    refine x_lconst (v := 0) rfl rfl ?_
    refine x_lcmp rfl ?_
    refine x_if_eq (tgt := 44) rfl rfl (fun c => ?_) (fun c => ?_)
    · have h := h.1 c
      refine x_lload rfl rfl ?_
      refine x_lconst (v := 0) rfl rfl ?_
      refine x_lcmp rfl ?_
      refine x_if_ne (tgt := 53) rfl rfl (fun c => ?_) (fun c => ?_)
      · have h := h.1 c
        refine x_iload rfl rfl ?_
        refine x_if_eq (tgt := 65) rfl rfl (fun c => ?_) (fun c => ?_)
        · have h := h.1 c
          refine x_lload_n rfl rfl ?_
          refine x_lload rfl rfl ?_
          refine x_ldiv rfl h.1 ?_
          have h := h.2
          exact x_lret rfl rfl h
        · have h := h.2 c
          refine x_lload_n rfl rfl ?_
          refine x_lload rfl rfl ?_
          refine x_ldiv rfl h.1 ?_
          have h := h.2
          refine x_goto (tgt := 69) rfl rfl ?_
          exact x_lret rfl rfl h
      · have h := h.2 c
        refine x_lconst (v := 0) rfl rfl ?_
        exact x_lret rfl rfl h
    · have h := h.2 c
      refine x_lload rfl rfl ?_
      refine x_lload rfl rfl ?_
      refine x_lrem rfl h.1 ?_
      have h := h.2
      refine x_lstore (i := 10) (L1 := [(10, .long (x5 - x5 / x7 * x7)), (0, .long x0), (2, .long x2), (4, .int x4), (5, .long x5), (7, .long x7), (9, .int x9)]) rfl (Nat.le_of_ble_eq_true rfl) rfl ?_
      refine x_lload rfl rfl ?_
      refine x_lstore (i := 5) (L1 := [(5, .long x7), (10, .long (x5 - x5 / x7 * x7)), (0, .long x0), (2, .long x2), (4, .int x4), (7, .long x7), (9, .int x9)]) rfl (Nat.le_of_ble_eq_true rfl) rfl ?_
      refine x_lload rfl rfl ?_
      refine x_lstore (i := 7) (L1 := [(7, .long (x5 - x5 / x7 * x7)), (5, .long x7), (10, .long (x5 - x5 / x7 * x7)), (0, .long x0), (2, .long x2), (4, .int x4), (9, .int x9)]) rfl (Nat.le_of_ble_eq_true rfl) rfl ?_
      refine x_iinc (i := 9) (v := x9 + (1 : Int32)) (L1 := [(9, .int (x9 + (1 : Int32))), (7, .long (x5 - x5 / x7 * x7)), (5, .long x7), (10, .long (x5 - x5 / x7 * x7)), (0, .long x0), (2, .long x2), (4, .int x4)]) rfl rfl rfl (Nat.le_of_ble_eq_true rfl) rfl ?_
      refine x_goto (tgt := 9) rfl rfl ?_
      exact xP_sub [4, 5, 6, 2, 1, 0] rfl h
