theorem s_M_ownNumber_0 {d : Nat} {D : xD} {Q : Option Value → xD → Prop} {a0 : Nat} (k0 : xk a0 = 13) (h : xPf (d + 1) m_M_ownNumber 4 [(0, .ref a0), (1, .int (0 : Int32)), (2, .int (0 : Int32))] [] D Q) : xPf (d + 1) m_M_ownNumber 0 [(0, .ref a0)] [] D Q := by
  refine x_iconst (v := (0 : Int32)) rfl rfl ?_
  refine x_istore_n (i := 1) (L1 := [(1, .int (0 : Int32)), (0, .ref a0)]) rfl rfl (Nat.le_of_ble_eq_true rfl) rfl ?_
  refine x_iconst (v := (0 : Int32)) rfl rfl ?_
  refine x_istore_n (i := 2) (L1 := [(2, .int (0 : Int32)), (1, .int (0 : Int32)), (0, .ref a0)]) rfl rfl (Nat.le_of_ble_eq_true rfl) rfl ?_
  exact xP_sub [2, 1, 0] rfl h
theorem s_M_ownNumber_4 {d : Nat} {D : xD} {Q : Option Value → xD → Prop} {a0 : Nat} {x1 : Int32} {x2 : Int32} (k0 : xk a0 = 13) (h : ((D.1 a0 27) ≤ x2 → Q (some (.int x1)) D) ∧ (¬ (D.1 a0 27) ≤ x2 → vp_in x2 (xl (a0 + 33)) ∧ vp_in x2 (xl (a0 + 38)) ∧ xPf (d + 1) m_M_ownNumber 4 [(0, .ref a0), (1, .int (x1 + ((D.1 (a0 + 33) (x2 : Int32).toNatClampNeg) * (D.1 (a0 + 38) (x2 : Int32).toNatClampNeg)))), (2, .int (x2 + (1 : Int32)))] [] D Q)) : xPf (d + 1) m_M_ownNumber 4 [(0, .ref a0), (1, .int x1), (2, .int x2)] [] D Q := by
  refine x_iload_n rfl rfl ?_
  refine x_aload_n rfl rfl ?_
  refine x_gI lf_M_335 k0 rfl rfl ?_
  refine x_icmp_ge (tgt := 34) rfl rfl (fun c => ?_) (fun c => ?_)
  · have h := h.1 c
    refine x_iload_n rfl rfl ?_
    exact x_iret rfl rfl h
  · have h := h.2 c
    refine x_iload_n rfl rfl ?_
    refine x_aload_n rfl rfl ?_
    refine x_gR lf_M_107 k0 rfl rfl ?_
    refine x_iload_n rfl rfl ?_
    refine x_iald (ck_13_66 k0) (xlt (ck_13_66 k0) (by decide)) h.1 rfl ?_
    have h := h.2
    refine x_aload_n rfl rfl ?_
    refine x_gR lf_M_123 k0 rfl rfl ?_
    refine x_iload_n rfl rfl ?_
    refine x_iald (ck_13_72 k0) (xlt (ck_13_72 k0) (by decide)) h.1 rfl ?_
    have h := h.2
    refine x_imul rfl ?_
    refine x_iadd rfl ?_
    refine x_istore_n (i := 1) (L1 := [(1, .int (x1 + ((D.1 (a0 + 33) (x2 : Int32).toNatClampNeg) * (D.1 (a0 + 38) (x2 : Int32).toNatClampNeg)))), (0, .ref a0), (2, .int x2)]) rfl rfl (Nat.le_of_ble_eq_true rfl) rfl ?_
    refine x_iinc (i := 2) (v := x2 + (1 : Int32)) (L1 := [(2, .int (x2 + (1 : Int32))), (1, .int (x1 + ((D.1 (a0 + 33) (x2 : Int32).toNatClampNeg) * (D.1 (a0 + 38) (x2 : Int32).toNatClampNeg)))), (0, .ref a0)]) rfl rfl rfl (Nat.le_of_ble_eq_true rfl) rfl ?_
    refine x_goto (tgt := 4) rfl rfl ?_
    exact xP_sub [2, 1, 0] rfl h
theorem s_M_common_0 {d : Nat} {D : xD} {Q : Option Value → xD → Prop} {x0 : Int64} {x2 : Int64}  (h : xPf (d + 1) m_M_common 6 [(0, .long x0), (2, .long x2), (4, .long x0), (6, .long x2)] [] D Q) : xPf (d + 1) m_M_common 0 [(0, .long x0), (2, .long x2)] [] D Q := by
  refine x_lload_n rfl rfl ?_
  refine x_lstore (i := 4) (L1 := [(4, .long x0), (0, .long x0), (2, .long x2)]) rfl (Nat.le_of_ble_eq_true rfl) rfl ?_
  refine x_lload_n rfl rfl ?_
  refine x_lstore (i := 6) (L1 := [(6, .long x2), (4, .long x0), (0, .long x0), (2, .long x2)]) rfl (Nat.le_of_ble_eq_true rfl) rfl ?_
  exact xP_sub [2, 3, 1, 0] rfl h
theorem s_M_common_6 {d : Nat} {D : xD} {Q : Option Value → xD → Prop} {x0 : Int64} {x2 : Int64} {x4 : Int64} {x6 : Int64}  (h : ((lg_cmp x6 (0 : Int64)) = 0 → Q (some (.long x4)) D) ∧ (¬ (lg_cmp x6 (0 : Int64)) = 0 → ¬ x6 = 0 ∧ xPf (d + 1) m_M_common 6 [(0, .long x0), (2, .long x2), (4, .long x6), (6, .long (x4 - x4 / x6 * x6))] [] D Q)) : xPf (d + 1) m_M_common 6 [(0, .long x0), (2, .long x2), (4, .long x4), (6, .long x6)] [] D Q := by
  refine x_lload rfl rfl ?_
  refine x_lconst (v := 0) rfl rfl ?_
  refine x_lcmp rfl ?_
  refine x_if_eq (tgt := 31) rfl rfl (fun c => ?_) (fun c => ?_)
  · have h := h.1 c
    refine x_lload rfl rfl ?_
    exact x_lret rfl rfl h
  · have h := h.2 c
    refine x_lload rfl rfl ?_
    refine x_lload rfl rfl ?_
    refine x_lrem rfl h.1 ?_
    have h := h.2
    refine x_lstore (i := 8) (L1 := [(8, .long (x4 - x4 / x6 * x6)), (0, .long x0), (2, .long x2), (4, .long x4), (6, .long x6)]) rfl (Nat.le_of_ble_eq_true rfl) rfl ?_
    refine x_lload rfl rfl ?_
    refine x_lstore (i := 4) (L1 := [(4, .long x6), (8, .long (x4 - x4 / x6 * x6)), (0, .long x0), (2, .long x2), (6, .long x6)]) rfl (Nat.le_of_ble_eq_true rfl) rfl ?_
    refine x_lload rfl rfl ?_
    refine x_lstore (i := 6) (L1 := [(6, .long (x4 - x4 / x6 * x6)), (4, .long x6), (8, .long (x4 - x4 / x6 * x6)), (0, .long x0), (2, .long x2)]) rfl (Nat.le_of_ble_eq_true rfl) rfl ?_
    refine x_goto (tgt := 6) rfl rfl ?_
    exact xP_sub [3, 4, 1, 0] rfl h
theorem s_M_least_0 {d : Nat} {D : xD} {Q : Option Value → xD → Prop} {x0 : Int64} {x2 : Int64} {x4 : Int32}  (h : (x4 = 0 → xCl d m_M_common [.long x0, .long x2] D (fun r2 D1 => ¬ r2 = 0 ∧ Q (some (.long (x0 / r2))) D1)) ∧ (¬ x4 = 0 → xCl d m_M_common [.long x0, .long x2] D (fun r4 D3 => ¬ r4 = 0 ∧ Q (some (.long (x2 / r4))) D3))) : xPf (d + 1) m_M_least 0 [(0, .long x0), (2, .long x2), (4, .int x4)] [] D Q := by
  refine x_iload rfl rfl ?_
  refine x_if_eq (tgt := 9) rfl rfl (fun c => ?_) (fun c => ?_)
  · have h := h.1 c
    refine x_lload_n rfl rfl ?_
    refine x_lload_n rfl rfl ?_
    refine x_lload_n rfl rfl ?_
    refine x_sl lm_M_565 sf_M_common rfl rfl (Nat.le_of_ble_eq_true rfl) rfl h (fun r2 D1 h => ?_)
    refine x_ldiv rfl h.1 ?_
    have h := h.2
    exact x_lret rfl rfl h
  · have h := h.2 c
    refine x_lload_n rfl rfl ?_
    refine x_goto (tgt := 10) rfl rfl ?_
    refine x_lload_n rfl rfl ?_
    refine x_lload_n rfl rfl ?_
    refine x_sl lm_M_565 sf_M_common rfl rfl (Nat.le_of_ble_eq_true rfl) rfl h (fun r4 D3 h => ?_)
    refine x_ldiv rfl h.1 ?_
    have h := h.2
    exact x_lret rfl rfl h
theorem s_M_layWithin_0 {d : Nat} {D : xD} {Q : Option Value → xD → Prop} {a0 : Nat} {x1 : Int32} {x2 : Int32} {x3 : Int32} (k0 : xk a0 = 13) (h : xCi d m_M_in [.int x3, .int (0 : Int32), .int (6 : Int32)] D (fun r2 D1 => (r2 = 0 → Q (some (.int (0 : Int32))) D1) ∧ (¬ r2 = 0 → xCi d m_M_fitsHand [.ref a0, .int x1, .int x2] D1 (fun r4 D3 => (r4 = 0 → Q (some (.int (0 : Int32))) D3) ∧ (¬ r4 = 0 → ((4 : Int32) < (D3.1 a0 27) → Q (some (.int (0 : Int32))) D3) ∧ (¬ (4 : Int32) < (D3.1 a0 27) → (x3 ≤ (D3.1 a0 68) → xCv d m_M_findWays [.ref a0, .int x3] D3 (fun D5 => Q (some (.int (1 : Int32))) D5)) ∧ (¬ x3 ≤ (D3.1 a0 68) → Q (some (.int (0 : Int32))) D3))))))) : xPf (d + 1) m_M_layWithin 0 [(0, .ref a0), (1, .int x1), (2, .int x2), (3, .int x3)] [] D Q := by
  refine x_iload_n rfl rfl ?_
  refine x_iconst (v := (0 : Int32)) rfl rfl ?_
  refine x_bipush (v := (6 : Int32)) rfl rfl ?_
  refine x_si lm_M_147 sf_M_in rfl rfl (Nat.le_of_ble_eq_true rfl) rfl h (fun r2 D1 h => ?_)
  refine x_if_eq (tgt := 35) rfl rfl (fun c => ?_) (fun c => ?_)
  · have h := h.1 c
    refine x_iconst (v := (0 : Int32)) rfl rfl ?_
    exact x_zr rfl (Or.inl rfl) rfl h
  · have h := h.2 c
    refine x_aload_n rfl rfl ?_
    refine x_iload_n rfl rfl ?_
    refine x_iload_n rfl rfl ?_
    refine x_vi lm_M_569 vf_M_fitsHand k0 rfl rfl (Nat.le_of_ble_eq_true rfl) rfl h (fun r4 D3 h => ?_)
    refine x_if_eq (tgt := 35) rfl rfl (fun c => ?_) (fun c => ?_)
    · have h := h.1 c
      refine x_iconst (v := (0 : Int32)) rfl rfl ?_
      exact x_zr rfl (Or.inl rfl) rfl h
    · have h := h.2 c
      refine x_aload_n rfl rfl ?_
      refine x_gI lf_M_335 k0 rfl rfl ?_
      refine x_iconst (v := (4 : Int32)) rfl rfl ?_
      refine x_icmp_gt (tgt := 35) rfl rfl (fun c => ?_) (fun c => ?_)
      · have h := h.1 c
        refine x_iconst (v := (0 : Int32)) rfl rfl ?_
        exact x_zr rfl (Or.inl rfl) rfl h
      · have h := h.2 c
        refine x_aload_n rfl rfl ?_
        refine x_gI lf_M_522 k0 rfl rfl ?_
        refine x_iload_n rfl rfl ?_
        refine x_icmp_ge (tgt := 37) rfl rfl (fun c => ?_) (fun c => ?_)
        · have h := h.1 c
          refine x_aload_n rfl rfl ?_
          refine x_iload_n rfl rfl ?_
          refine x_vv lm_M_572 vf_M_findWays k0 rfl rfl (Nat.le_of_ble_eq_true rfl) rfl h (fun D5 h => ?_)
          refine x_iconst (v := (1 : Int32)) rfl rfl ?_
          exact x_zr rfl (Or.inr rfl) rfl h
        · have h := h.2 c
          refine x_iconst (v := (0 : Int32)) rfl rfl ?_
          exact x_zr rfl (Or.inl rfl) rfl h
theorem s_M_within_0 {d : Nat} {D : xD} {Q : Option Value → xD → Prop} {a0 : Nat} {x1 : Int32} {x2 : Int32} {x3 : Int32} {x4 : Int32} (k0 : xk a0 = 13) (h : ∀ D1 : xD, D1 = (xu D.1 a0 0 (0 : Int32), D.2) → xCi d m_M_layWithin [.ref a0, .int x1, .int x2, .int x3] D1 (fun r3 D2 => (r3 = 0 → Q (some (.long (-1 : Int64))) D2) ∧ (¬ r3 = 0 → xCi d m_M_ownNumber [.ref a0] D2 (fun r5 D4 => vp_in r5 (xl (a0 + 36)) ∧ vp_in (D4.1 (a0 + 36) (r5 : Int32).toNatClampNeg) (xl (a0 + 37)) ∧ xCl d m_M_rows [.ref a0, .int (D4.1 a0 68), .int x3] D4 (fun r7 D6 => xCl d m_M_least [.long (D4.2 (a0 + 37) (D4.1 (a0 + 36) (r5 : Int32).toNatClampNeg : Int32).toNatClampNeg), .long r7, .int x4] D6 (fun r9 D8 => Q (some (.long r9)) D8)))))) : xPf (d + 1) m_M_within 0 [(0, .ref a0), (1, .int x1), (2, .int x2), (3, .int x3), (4, .int x4)] [] D Q := by
  refine x_aload_n rfl rfl ?_
  refine x_iconst (v := (0 : Int32)) rfl rfl ?_
  refine x_pIn lp_M_139 nf_13_0 k0 rfl rfl (fun D1 eD1 => ?_)
  have h := h D1 eD1
  refine x_aload_n rfl rfl ?_
  refine x_iload_n rfl rfl ?_
  refine x_iload_n rfl rfl ?_
  refine x_iload_n rfl rfl ?_
  refine x_vi lm_M_575 vf_M_layWithin k0 rfl rfl (Nat.le_of_ble_eq_true rfl) rfl h (fun r3 D2 h => ?_)
  refine x_if_eq (tgt := 46) rfl rfl (fun c => ?_) (fun c => ?_)
  · have h := h.1 c
    refine x_ldc2 wd_2203 rfl ?_
    exact x_lret rfl rfl h
  · have h := h.2 c
    refine x_aload_n rfl rfl ?_
    refine x_gR lf_M_119 k0 rfl rfl ?_
    refine x_aload_n rfl rfl ?_
    refine x_gR lf_M_116 k0 rfl rfl ?_
    refine x_aload_n rfl rfl ?_
    refine x_vi lm_M_578 vf_M_ownNumber k0 rfl rfl (Nat.le_of_ble_eq_true rfl) rfl h (fun r5 D4 h => ?_)
    refine x_iald (ck_13_70 k0) (xlt (ck_13_70 k0) (by decide)) h.1 rfl ?_
    have h := h.2
    refine x_lald (ck_13_71 k0) (xlt (ck_13_71 k0) (by decide)) h.1 rfl ?_
    have h := h.2
    refine x_aload_n rfl rfl ?_
    refine x_aload_n rfl rfl ?_
    refine x_gI lf_M_522 k0 rfl rfl ?_
    refine x_iload_n rfl rfl ?_
    refine x_vl lm_M_548 vf_M_rows k0 rfl rfl (Nat.le_of_ble_eq_true rfl) rfl h (fun r7 D6 h => ?_)
    refine x_iload rfl rfl ?_
    refine x_sl lm_M_581 sf_M_least rfl rfl (Nat.le_of_ble_eq_true rfl) rfl h (fun r9 D8 h => ?_)
    refine x_goto (tgt := 49) rfl rfl ?_
    exact x_lret rfl rfl h
theorem s_M_kept_0 {d : Nat} {D : xD} {Q : Option Value → xD → Prop} {a0 : Nat} {x1 : Int32} {x2 : Int32} {x3 : Int32} {x4 : Int32} (k0 : xk a0 = 13) (h : ∀ D1 : xD, D1 = (xu D.1 a0 0 (0 : Int32), D.2) → (x3 < (1 : Int32) → Q (some (.int (-1 : Int32))) D1) ∧ (¬ x3 < (1 : Int32) → xCi d m_M_layWithin [.ref a0, .int x1, .int x2, .int x3] D1 (fun r3 D2 => (r3 = 0 → Q (some (.int (-1 : Int32))) D2) ∧ (¬ r3 = 0 → xCi d m_M_isKind [.ref a0, .int x4] D2 (fun r5 D4 => (r5 = 0 → Q (some (.int (-1 : Int32))) D4) ∧ (¬ r5 = 0 → vp_in x4 (xl (a0 + 34)) ∧ ((D4.1 (a0 + 34) (x4 : Int32).toNatClampNeg) = 0 → Q (some (.int (-1 : Int32))) D4) ∧ (¬ (D4.1 (a0 + 34) (x4 : Int32).toNatClampNeg) = 0 → xCi d m_M_ownNumber [.ref a0] D4 (fun r7 D6 => xCi d m_M_hasAlike [.ref a0, .int r7] D6 (fun r9 D8 => (r9 = 0 → ∀ D10 : xD, D10 = (xu D8.1 a0 74 (-1 : Int32), D8.2) → xCi d m_M_ownNumber [.ref a0] D10 (fun r12 D11 => xCl d m_M_bestBy [.ref a0, .int (0 : Int32), .int r12, .int x4] D11 (fun r14 D13 => (0 ≤ (lg_cmp r14 (0 : Int64)) → Q (some (.int (D13.1 a0 74))) D13) ∧ (¬ 0 ≤ (lg_cmp r14 (0 : Int64)) → Q (some (.int (-1 : Int32))) D13)))) ∧ (¬ r9 = 0 → Q (some (.int (-1 : Int32))) D8)))))))))) : xPf (d + 1) m_M_kept 0 [(0, .ref a0), (1, .int x1), (2, .int x2), (3, .int x3), (4, .int x4)] [] D Q := by
  refine x_aload_n rfl rfl ?_
  refine x_iconst (v := (0 : Int32)) rfl rfl ?_
  refine x_pIn lp_M_139 nf_13_0 k0 rfl rfl (fun D1 eD1 => ?_)
  have h := h D1 eD1
  refine x_iload_n rfl rfl ?_
  refine x_iconst (v := (1 : Int32)) rfl rfl ?_
  refine x_icmp_lt (tgt := 50) rfl rfl (fun c => ?_) (fun c => ?_)
  · have h := h.1 c
    refine x_iconst (v := (-1 : Int32)) rfl rfl ?_
    exact x_iret rfl rfl h
  · have h := h.2 c
    refine x_aload_n rfl rfl ?_
    refine x_iload_n rfl rfl ?_
    refine x_iload_n rfl rfl ?_
    refine x_iload_n rfl rfl ?_
    refine x_vi lm_M_575 vf_M_layWithin k0 rfl rfl (Nat.le_of_ble_eq_true rfl) rfl h (fun r3 D2 h => ?_)
    refine x_if_eq (tgt := 50) rfl rfl (fun c => ?_) (fun c => ?_)
    · have h := h.1 c
      refine x_iconst (v := (-1 : Int32)) rfl rfl ?_
      exact x_iret rfl rfl h
    · have h := h.2 c
      refine x_aload_n rfl rfl ?_
      refine x_iload rfl rfl ?_
      refine x_vi lm_M_432 vf_M_isKind k0 rfl rfl (Nat.le_of_ble_eq_true rfl) rfl h (fun r5 D4 h => ?_)
      refine x_if_eq (tgt := 50) rfl rfl (fun c => ?_) (fun c => ?_)
      · have h := h.1 c
        refine x_iconst (v := (-1 : Int32)) rfl rfl ?_
        exact x_iret rfl rfl h
      · have h := h.2 c
        refine x_aload_n rfl rfl ?_
        refine x_gR lf_M_110 k0 rfl rfl ?_
        refine x_iload rfl rfl ?_
        refine x_iald (ck_13_67 k0) (xlt (ck_13_67 k0) (by decide)) h.1 rfl ?_
        have h := h.2
        refine x_if_eq (tgt := 50) rfl rfl (fun c => ?_) (fun c => ?_)
        · have h := h.1 c
          refine x_iconst (v := (-1 : Int32)) rfl rfl ?_
          exact x_iret rfl rfl h
        · have h := h.2 c
          refine x_aload_n rfl rfl ?_
          refine x_aload_n rfl rfl ?_
          refine x_vi lm_M_578 vf_M_ownNumber k0 rfl rfl (Nat.le_of_ble_eq_true rfl) rfl h (fun r7 D6 h => ?_)
          refine x_vi lm_M_545 vf_M_hasAlike k0 rfl rfl (Nat.le_of_ble_eq_true rfl) rfl h (fun r9 D8 h => ?_)
          refine x_if_eq (tgt := 52) rfl rfl (fun c => ?_) (fun c => ?_)
          · have h := h.1 c
            refine x_aload_n rfl rfl ?_
            refine x_iconst (v := (-1 : Int32)) rfl rfl ?_
            refine x_pIn lp_M_542 nf_13_74 k0 rfl rfl (fun D10 eD10 => ?_)
            have h := h D10 eD10
            refine x_aload_n rfl rfl ?_
            refine x_iconst (v := (0 : Int32)) rfl rfl ?_
            refine x_aload_n rfl rfl ?_
            refine x_vi lm_M_578 vf_M_ownNumber k0 rfl rfl (Nat.le_of_ble_eq_true rfl) rfl h (fun r12 D11 h => ?_)
            refine x_iload rfl rfl ?_
            refine x_vl lm_M_552 vf_M_bestBy k0 rfl rfl (Nat.le_of_ble_eq_true rfl) rfl h (fun r14 D13 h => ?_)
            refine x_lstore (i := 5) (L1 := [(5, .long r14), (0, .ref a0), (1, .int x1), (2, .int x2), (3, .int x3), (4, .int x4)]) rfl (Nat.le_of_ble_eq_true rfl) rfl ?_
            refine x_lload rfl rfl ?_
            refine x_lconst (v := 0) rfl rfl ?_
            refine x_lcmp rfl ?_
            refine x_if_ge (tgt := 81) rfl rfl (fun c => ?_) (fun c => ?_)
            · have h := h.1 c
              refine x_aload_n rfl rfl ?_
              refine x_gI lf_M_542 k0 rfl rfl ?_
              exact x_iret rfl rfl h
            · have h := h.2 c
              refine x_iconst (v := (-1 : Int32)) rfl rfl ?_
              refine x_goto (tgt := 85) rfl rfl ?_
              exact x_iret rfl rfl h
          · have h := h.2 c
            refine x_iconst (v := (-1 : Int32)) rfl rfl ?_
            exact x_iret rfl rfl h
theorem s_M_choose_0 {d : Nat} {D : xD} {Q : Option Value → xD → Prop} {x0 : Int32} {x1 : Int32}  (h : (x0 < x1 → xPf (d + 1) m_M_choose 18 [(0, .int x0), (1, .int x1), (2, .long (0 : Int64)), (4, .int (0 : Int32))] [] D Q) ∧ (¬ x0 < x1 → (0 ≤ x1 → xPf (d + 1) m_M_choose 18 [(0, .int x0), (1, .int x1), (2, .long (1 : Int64)), (4, .int (0 : Int32))] [] D Q) ∧ (¬ 0 ≤ x1 → xPf (d + 1) m_M_choose 18 [(0, .int x0), (1, .int x1), (2, .long (0 : Int64)), (4, .int (0 : Int32))] [] D Q))) : xPf (d + 1) m_M_choose 0 [(0, .int x0), (1, .int x1)] [] D Q := by
  refine x_iload_n rfl rfl ?_
  refine x_iload_n rfl rfl ?_
  refine x_icmp_gt (tgt := 9) rfl rfl (fun c => ?_) (fun c => ?_)
  · have h := h.1 c
    refine x_lconst (v := 0) rfl rfl ?_
    refine x_goto (tgt := 14) rfl rfl ?_
    refine x_lstore_n (i := 2) (L1 := [(2, .long (0 : Int64)), (0, .int x0), (1, .int x1)]) rfl rfl (Nat.le_of_ble_eq_true rfl) rfl ?_
    refine x_iconst (v := (0 : Int32)) rfl rfl ?_
    refine x_istore (i := 4) (L1 := [(4, .int (0 : Int32)), (2, .long (0 : Int64)), (0, .int x0), (1, .int x1)]) rfl (Nat.le_of_ble_eq_true rfl) rfl ?_
    exact xP_sub [2, 3, 1, 0] rfl h
  · have h := h.2 c
    refine x_iload_n rfl rfl ?_
    refine x_if_ge (tgt := 13) rfl rfl (fun c => ?_) (fun c => ?_)
    · have h := h.1 c
      refine x_lconst (v := 1) rfl rfl ?_
      refine x_lstore_n (i := 2) (L1 := [(2, .long (1 : Int64)), (0, .int x0), (1, .int x1)]) rfl rfl (Nat.le_of_ble_eq_true rfl) rfl ?_
      refine x_iconst (v := (0 : Int32)) rfl rfl ?_
      refine x_istore (i := 4) (L1 := [(4, .int (0 : Int32)), (2, .long (1 : Int64)), (0, .int x0), (1, .int x1)]) rfl (Nat.le_of_ble_eq_true rfl) rfl ?_
      exact xP_sub [2, 3, 1, 0] rfl h
    · have h := h.2 c
      refine x_lconst (v := 0) rfl rfl ?_
      refine x_goto (tgt := 14) rfl rfl ?_
      refine x_lstore_n (i := 2) (L1 := [(2, .long (0 : Int64)), (0, .int x0), (1, .int x1)]) rfl rfl (Nat.le_of_ble_eq_true rfl) rfl ?_
      refine x_iconst (v := (0 : Int32)) rfl rfl ?_
      refine x_istore (i := 4) (L1 := [(4, .int (0 : Int32)), (2, .long (0 : Int64)), (0, .int x0), (1, .int x1)]) rfl (Nat.le_of_ble_eq_true rfl) rfl ?_
      exact xP_sub [2, 3, 1, 0] rfl h
theorem s_M_choose_18 {d : Nat} {D : xD} {Q : Option Value → xD → Prop} {x0 : Int32} {x1 : Int32} {x2 : Int64} {x4 : Int32}  (h : (x1 ≤ x4 → Q (some (.long x2)) D) ∧ (¬ x1 ≤ x4 → ((lg_cmp x2 (0 : Int64)) ≤ 0 → Q (some (.long x2)) D) ∧ (¬ (lg_cmp x2 (0 : Int64)) ≤ 0 → ¬ ((x4 + (1 : Int32)).toInt64) = 0 ∧ xPf (d + 1) m_M_choose 18 [(0, .int x0), (1, .int x1), (2, .long ((x2 * ((x0 - x4).toInt64)) / ((x4 + (1 : Int32)).toInt64))), (4, .int (x4 + (1 : Int32)))] [] D Q))) : xPf (d + 1) m_M_choose 18 [(0, .int x0), (1, .int x1), (2, .long x2), (4, .int x4)] [] D Q := by
  refine x_iload rfl rfl ?_
  refine x_iload_n rfl rfl ?_
  refine x_icmp_ge (tgt := 50) rfl rfl (fun c => ?_) (fun c => ?_)
  · have h := h.1 c
    refine x_lload_n rfl rfl ?_
    exact x_lret rfl rfl h
  · have h := h.2 c
    refine x_lload_n rfl rfl ?_
    refine x_lconst (v := 0) rfl rfl ?_
    refine x_lcmp rfl ?_
    refine x_if_le (tgt := 50) rfl rfl (fun c => ?_) (fun c => ?_)
    · have h := h.1 c
      refine x_lload_n rfl rfl ?_
      exact x_lret rfl rfl h
    · have h := h.2 c
      refine x_lload_n rfl rfl ?_
      refine x_iload_n rfl rfl ?_
      refine x_iload rfl rfl ?_
      refine x_isub rfl ?_
      refine x_i2l rfl ?_
      refine x_lmul rfl ?_
      refine x_iload rfl rfl ?_
      refine x_iconst (v := (1 : Int32)) rfl rfl ?_
      refine x_iadd rfl ?_
      refine x_i2l rfl ?_
      refine x_ldiv rfl h.1 ?_
      have h := h.2
      refine x_lstore_n (i := 2) (L1 := [(2, .long ((x2 * ((x0 - x4).toInt64)) / ((x4 + (1 : Int32)).toInt64))), (0, .int x0), (1, .int x1), (4, .int x4)]) rfl rfl (Nat.le_of_ble_eq_true rfl) rfl ?_
      refine x_iinc (i := 4) (v := x4 + (1 : Int32)) (L1 := [(4, .int (x4 + (1 : Int32))), (2, .long ((x2 * ((x0 - x4).toInt64)) / ((x4 + (1 : Int32)).toInt64))), (0, .int x0), (1, .int x1)]) rfl rfl rfl (Nat.le_of_ble_eq_true rfl) rfl ?_
      refine x_goto (tgt := 18) rfl rfl ?_
      exact xP_sub [2, 3, 1, 0] rfl h
theorem s_M_drawnWith_0 {d : Nat} {D : xD} {Q : Option Value → xD → Prop} {a0 : Nat} {x1 : Int32} {x2 : Int32} {x3 : Int32} (k0 : xk a0 = 13) (h : xCi d m_M_greater [.int (0 : Int32), .int x3] D (fun r2 D1 => xPf (d + 1) m_M_drawnWith 10 [(0, .ref a0), (1, .int x1), (2, .int x2), (3, .int x3), (4, .long (0 : Int64)), (6, .int r2)] [] D1 Q)) : xPf (d + 1) m_M_drawnWith 0 [(0, .ref a0), (1, .int x1), (2, .int x2), (3, .int x3)] [] D Q := by
  refine x_lconst (v := 0) rfl rfl ?_
  refine x_lstore (i := 4) (L1 := [(4, .long (0 : Int64)), (0, .ref a0), (1, .int x1), (2, .int x2), (3, .int x3)]) rfl (Nat.le_of_ble_eq_true rfl) rfl ?_
  refine x_iconst (v := (0 : Int32)) rfl rfl ?_
  refine x_iload_n rfl rfl ?_
  refine x_si lm_M_211 sf_M_greater rfl rfl (Nat.le_of_ble_eq_true rfl) rfl h (fun r2 D1 h => ?_)
  refine x_istore (i := 6) (L1 := [(6, .int r2), (4, .long (0 : Int64)), (0, .ref a0), (1, .int x1), (2, .int x2), (3, .int x3)]) rfl (Nat.le_of_ble_eq_true rfl) rfl ?_
  exact xP_sub [2, 3, 4, 5, 1, 0] rfl h
theorem s_M_drawnWith_10 {d : Nat} {D : xD} {Q : Option Value → xD → Prop} {a0 : Nat} {x1 : Int32} {x2 : Int32} {x3 : Int32} {x4 : Int64} {x6 : Int32} (k0 : xk a0 = 13) (h : (x2 < x6 → Q (some (.long x4)) D) ∧ (¬ x2 < x6 → vp_in x1 (xl (a0 + 34)) ∧ xCl d m_M_choose [.int (D.1 (a0 + 34) (x1 : Int32).toNatClampNeg), .int x6] D (fun r2 D1 => vp_in x1 (xl (a0 + 34)) ∧ xCl d m_M_choose [.int ((D1.1 a0 68) - (D1.1 (a0 + 34) (x1 : Int32).toNatClampNeg)), .int (x2 - x6)] D1 (fun r4 D3 => xPf (d + 1) m_M_drawnWith 10 [(0, .ref a0), (1, .int x1), (2, .int x2), (3, .int x3), (4, .long (x4 + (r2 * r4))), (6, .int (x6 + (1 : Int32)))] [] D3 Q)))) : xPf (d + 1) m_M_drawnWith 10 [(0, .ref a0), (1, .int x1), (2, .int x2), (3, .int x3), (4, .long x4), (6, .int x6)] [] D Q := by
  refine x_iload rfl rfl ?_
  refine x_iload_n rfl rfl ?_
  refine x_icmp_gt (tgt := 57) rfl rfl (fun c => ?_) (fun c => ?_)
  · have h := h.1 c
    refine x_lload rfl rfl ?_
    exact x_lret rfl rfl h
  · have h := h.2 c
    refine x_lload rfl rfl ?_
    refine x_aload_n rfl rfl ?_
    refine x_gR lf_M_110 k0 rfl rfl ?_
    refine x_iload_n rfl rfl ?_
    refine x_iald (ck_13_67 k0) (xlt (ck_13_67 k0) (by decide)) h.1 rfl ?_
    have h := h.2
    refine x_iload rfl rfl ?_
    refine x_sl lm_M_585 sf_M_choose rfl rfl (Nat.le_of_ble_eq_true rfl) rfl h (fun r2 D1 h => ?_)
    refine x_aload_n rfl rfl ?_
    refine x_gI lf_M_522 k0 rfl rfl ?_
    refine x_aload_n rfl rfl ?_
    refine x_gR lf_M_110 k0 rfl rfl ?_
    refine x_iload_n rfl rfl ?_
    refine x_iald (ck_13_67 k0) (xlt (ck_13_67 k0) (by decide)) h.1 rfl ?_
    have h := h.2
    refine x_isub rfl ?_
    refine x_iload_n rfl rfl ?_
    refine x_iload rfl rfl ?_
    refine x_isub rfl ?_
    refine x_sl lm_M_585 sf_M_choose rfl rfl (Nat.le_of_ble_eq_true rfl) rfl h (fun r4 D3 h => ?_)
    refine x_lmul rfl ?_
    refine x_ladd rfl ?_
    refine x_lstore (i := 4) (L1 := [(4, .long (x4 + (r2 * r4))), (0, .ref a0), (1, .int x1), (2, .int x2), (3, .int x3), (6, .int x6)]) rfl (Nat.le_of_ble_eq_true rfl) rfl ?_
    refine x_iinc (i := 6) (v := x6 + (1 : Int32)) (L1 := [(6, .int (x6 + (1 : Int32))), (4, .long (x4 + (r2 * r4))), (0, .ref a0), (1, .int x1), (2, .int x2), (3, .int x3)]) rfl rfl rfl (Nat.le_of_ble_eq_true rfl) rfl ?_
    refine x_goto (tgt := 10) rfl rfl ?_
    exact xP_sub [2, 3, 4, 5, 1, 0] rfl h
theorem s_M_alone_0 {d : Nat} {D : xD} {Q : Option Value → xD → Prop} {a0 : Nat} {x1 : Int32} {x2 : Int32} {x3 : Int32} {x4 : Int32} {x5 : Int32} (k0 : xk a0 = 13) (h : ∀ D1 : xD, D1 = (xu D.1 a0 0 (0 : Int32), D.2) → xCi d m_M_in [.int x4, .int (0 : Int32), .int (6 : Int32)] D1 (fun r3 D2 => (r3 = 0 → Q (some (.long (-1 : Int64))) D2) ∧ (¬ r3 = 0 → xCi d m_M_fitsHand [.ref a0, .int x1, .int x2] D2 (fun r5 D4 => (r5 = 0 → Q (some (.long (-1 : Int64))) D4) ∧ (¬ r5 = 0 → xCi d m_M_isKind [.ref a0, .int x3] D4 (fun r7 D6 => (r7 = 0 → Q (some (.long (-1 : Int64))) D6) ∧ (¬ r7 = 0 → (x4 ≤ (D6.1 a0 68) → vp_in x3 (xl (a0 + 33)) ∧ xCl d m_M_drawnWith [.ref a0, .int x3, .int x4, .int ((D6.1 a0 29) - (D6.1 (a0 + 33) (x3 : Int32).toNatClampNeg))] D6 (fun r9 D8 => xCl d m_M_choose [.int (D8.1 a0 68), .int x4] D8 (fun r11 D10 => xCl d m_M_least [.long r9, .long r11, .int x5] D10 (fun r13 D12 => Q (some (.long r13)) D12)))) ∧ (¬ x4 ≤ (D6.1 a0 68) → Q (some (.long (-1 : Int64))) D6)))))))) : xPf (d + 1) m_M_alone 0 [(0, .ref a0), (1, .int x1), (2, .int x2), (3, .int x3), (4, .int x4), (5, .int x5)] [] D Q := by
  refine x_aload_n rfl rfl ?_
  refine x_iconst (v := (0 : Int32)) rfl rfl ?_
  refine x_pIn lp_M_139 nf_13_0 k0 rfl rfl (fun D1 eD1 => ?_)
  have h := h D1 eD1
  refine x_iload rfl rfl ?_
  refine x_iconst (v := (0 : Int32)) rfl rfl ?_
  refine x_bipush (v := (6 : Int32)) rfl rfl ?_
  refine x_si lm_M_147 sf_M_in rfl rfl (Nat.le_of_ble_eq_true rfl) rfl h (fun r3 D2 h => ?_)
  refine x_if_eq (tgt := 42) rfl rfl (fun c => ?_) (fun c => ?_)
  · have h := h.1 c
    refine x_ldc2 wd_2203 rfl ?_
    exact x_lret rfl rfl h
  · have h := h.2 c
    refine x_aload_n rfl rfl ?_
    refine x_iload_n rfl rfl ?_
    refine x_iload_n rfl rfl ?_
    refine x_vi lm_M_569 vf_M_fitsHand k0 rfl rfl (Nat.le_of_ble_eq_true rfl) rfl h (fun r5 D4 h => ?_)
    refine x_if_eq (tgt := 42) rfl rfl (fun c => ?_) (fun c => ?_)
    · have h := h.1 c
      refine x_ldc2 wd_2203 rfl ?_
      exact x_lret rfl rfl h
    · have h := h.2 c
      refine x_aload_n rfl rfl ?_
      refine x_iload_n rfl rfl ?_
      refine x_vi lm_M_432 vf_M_isKind k0 rfl rfl (Nat.le_of_ble_eq_true rfl) rfl h (fun r7 D6 h => ?_)
      refine x_if_eq (tgt := 42) rfl rfl (fun c => ?_) (fun c => ?_)
      · have h := h.1 c
        refine x_ldc2 wd_2203 rfl ?_
        exact x_lret rfl rfl h
      · have h := h.2 c
        refine x_aload_n rfl rfl ?_
        refine x_gI lf_M_522 k0 rfl rfl ?_
        refine x_iload rfl rfl ?_
        refine x_icmp_ge (tgt := 46) rfl rfl (fun c => ?_) (fun c => ?_)
        · have h := h.1 c
          refine x_aload_n rfl rfl ?_
          refine x_iload_n rfl rfl ?_
          refine x_iload rfl rfl ?_
          refine x_aload_n rfl rfl ?_
          refine x_gI lf_M_341 k0 rfl rfl ?_
          refine x_aload_n rfl rfl ?_
          refine x_gR lf_M_107 k0 rfl rfl ?_
          refine x_iload_n rfl rfl ?_
          refine x_iald (ck_13_66 k0) (xlt (ck_13_66 k0) (by decide)) h.1 rfl ?_
          have h := h.2
          refine x_isub rfl ?_
          refine x_vl lm_M_588 vf_M_drawnWith k0 rfl rfl (Nat.le_of_ble_eq_true rfl) rfl h (fun r9 D8 h => ?_)
          refine x_aload_n rfl rfl ?_
          refine x_gI lf_M_522 k0 rfl rfl ?_
          refine x_iload rfl rfl ?_
          refine x_sl lm_M_585 sf_M_choose rfl rfl (Nat.le_of_ble_eq_true rfl) rfl h (fun r11 D10 h => ?_)
          refine x_iload rfl rfl ?_
          refine x_sl lm_M_581 sf_M_least rfl rfl (Nat.le_of_ble_eq_true rfl) rfl h (fun r13 D12 h => ?_)
          exact x_lret rfl rfl h
        · have h := h.2 c
          refine x_ldc2 wd_2203 rfl ?_
          exact x_lret rfl rfl h
theorem s_M_soonest_0 {d : Nat} {D : xD} {Q : Option Value → xD → Prop} {a0 : Nat} {x1 : Int32} {x2 : Int32} {x3 : Int32} {x4 : Int32} (k0 : xk a0 = 13) (h : ∀ D1 : xD, D1 = (xu D.1 a0 0 (0 : Int32), D.2) → xCi d m_M_is [.ref a0, .int (1 : Int32), .int x3] D1 (fun r3 D2 => (r3 = 0 → Q (some (.int (-1 : Int32))) D2) ∧ (¬ r3 = 0 → xCi d m_M_fitsHand [.ref a0, .int x1, .int x2] D2 (fun r5 D4 => (¬ r5 = 0 → vp_in ((53 : Int32) * x3) (xl (a0 + 7)) ∧ xPf (d + 1) m_M_soonest 39 [(0, .ref a0), (1, .int x1), (2, .int x2), (3, .int x3), (4, .int x4), (5, .int (D4.1 (a0 + 7) ((53 : Int32) * x3 : Int32).toNatClampNeg)), (6, .int (0 : Int32))] [] D4 Q) ∧ (r5 = 0 → Q (some (.int (-1 : Int32))) D4))))) : xPf (d + 1) m_M_soonest 0 [(0, .ref a0), (1, .int x1), (2, .int x2), (3, .int x3), (4, .int x4)] [] D Q := by
  refine x_aload_n rfl rfl ?_
  refine x_iconst (v := (0 : Int32)) rfl rfl ?_
  refine x_pIn lp_M_139 nf_13_0 k0 rfl rfl (fun D1 eD1 => ?_)
  have h := h D1 eD1
  refine x_aload_n rfl rfl ?_
  refine x_iconst (v := (1 : Int32)) rfl rfl ?_
  refine x_iload_n rfl rfl ?_
  refine x_vi lm_M_319 vf_M_is k0 rfl rfl (Nat.le_of_ble_eq_true rfl) rfl h (fun r3 D2 h => ?_)
  refine x_if_eq (tgt := 23) rfl rfl (fun c => ?_) (fun c => ?_)
  · have h := h.1 c
    refine x_iconst (v := (-1 : Int32)) rfl rfl ?_
    exact x_iret rfl rfl h
  · have h := h.2 c
    refine x_aload_n rfl rfl ?_
    refine x_iload_n rfl rfl ?_
    refine x_iload_n rfl rfl ?_
    refine x_vi lm_M_569 vf_M_fitsHand k0 rfl rfl (Nat.le_of_ble_eq_true rfl) rfl h (fun r5 D4 h => ?_)
    refine x_if_ne (tgt := 25) rfl rfl (fun c => ?_) (fun c => ?_)
    · have h := h.1 c
      refine x_aload_n rfl rfl ?_
      refine x_gR lf_M_29 k0 rfl rfl ?_
      refine x_bipush (v := (53 : Int32)) rfl rfl ?_
      refine x_iload_n rfl rfl ?_
      refine x_imul rfl ?_
      refine x_iald (ck_13_7 k0) (xlt (ck_13_7 k0) (by decide)) h.1 rfl ?_
      have h := h.2
      refine x_istore (i := 5) (L1 := [(5, .int (D4.1 (a0 + 7) ((53 : Int32) * x3 : Int32).toNatClampNeg)), (0, .ref a0), (1, .int x1), (2, .int x2), (3, .int x3), (4, .int x4)]) rfl (Nat.le_of_ble_eq_true rfl) rfl ?_
      refine x_iconst (v := (0 : Int32)) rfl rfl ?_
      refine x_istore (i := 6) (L1 := [(6, .int (0 : Int32)), (5, .int (D4.1 (a0 + 7) ((53 : Int32) * x3 : Int32).toNatClampNeg)), (0, .ref a0), (1, .int x1), (2, .int x2), (3, .int x3), (4, .int x4)]) rfl (Nat.le_of_ble_eq_true rfl) rfl ?_
      exact xP_sub [2, 3, 4, 5, 6, 1, 0] rfl h
    · have h := h.2 c
      refine x_iconst (v := (-1 : Int32)) rfl rfl ?_
      exact x_iret rfl rfl h
theorem s_M_soonest_39 {d : Nat} {D : xD} {Q : Option Value → xD → Prop} {a0 : Nat} {x1 : Int32} {x2 : Int32} {x3 : Int32} {x4 : Int32} {x5 : Int32} {x6 : Int32} (k0 : xk a0 = 13) (h : (x5 ≤ x6 → xPf (d + 1) m_M_soonest 78 [(0, .ref a0), (1, .int x1), (2, .int x2), (3, .int x3), (4, .int x4), (5, .int x5), (6, .int (0 : Int32))] [] D Q) ∧ (¬ x5 ≤ x6 → vp_in ((((53 : Int32) * x3) + (1 : Int32)) + x6) (xl (a0 + 7)) ∧ ((D.1 (a0 + 7) ((((53 : Int32) * x3) + (1 : Int32)) + x6 : Int32).toNatClampNeg) < (D.1 a0 27) → xPf (d + 1) m_M_soonest 39 [(0, .ref a0), (1, .int x1), (2, .int x2), (3, .int x3), (4, .int x4), (5, .int x5), (6, .int (x6 + (1 : Int32)))] [] D Q) ∧ (¬ (D.1 (a0 + 7) ((((53 : Int32) * x3) + (1 : Int32)) + x6 : Int32).toNatClampNeg) < (D.1 a0 27) → Q (some (.int (-1 : Int32))) D))) : xPf (d + 1) m_M_soonest 39 [(0, .ref a0), (1, .int x1), (2, .int x2), (3, .int x3), (4, .int x4), (5, .int x5), (6, .int x6)] [] D Q := by
  refine x_iload rfl rfl ?_
  refine x_iload rfl rfl ?_
  refine x_icmp_ge (tgt := 75) rfl rfl (fun c => ?_) (fun c => ?_)
  · have h := h.1 c
    refine x_iconst (v := (0 : Int32)) rfl rfl ?_
    refine x_istore (i := 6) (L1 := [(6, .int (0 : Int32)), (0, .ref a0), (1, .int x1), (2, .int x2), (3, .int x3), (4, .int x4), (5, .int x5)]) rfl (Nat.le_of_ble_eq_true rfl) rfl ?_
    exact xP_sub [1, 2, 3, 4, 5, 6, 0] rfl h
  · have h := h.2 c
    refine x_aload_n rfl rfl ?_
    refine x_gR lf_M_29 k0 rfl rfl ?_
    refine x_bipush (v := (53 : Int32)) rfl rfl ?_
    refine x_iload_n rfl rfl ?_
    refine x_imul rfl ?_
    refine x_iconst (v := (1 : Int32)) rfl rfl ?_
    refine x_iadd rfl ?_
    refine x_iload rfl rfl ?_
    refine x_iadd rfl ?_
    refine x_iald (ck_13_7 k0) (xlt (ck_13_7 k0) (by decide)) h.1 rfl ?_
    have h := h.2
    refine x_aload_n rfl rfl ?_
    refine x_gI lf_M_335 k0 rfl rfl ?_
    refine x_icmp_lt (tgt := 69) rfl rfl (fun c => ?_) (fun c => ?_)
    · have h := h.1 c
      refine x_iinc (i := 6) (v := x6 + (1 : Int32)) (L1 := [(6, .int (x6 + (1 : Int32))), (0, .ref a0), (1, .int x1), (2, .int x2), (3, .int x3), (4, .int x4), (5, .int x5)]) rfl rfl rfl (Nat.le_of_ble_eq_true rfl) rfl ?_
      refine x_goto (tgt := 39) rfl rfl ?_
      exact xP_sub [1, 2, 3, 4, 5, 6, 0] rfl h
    · have h := h.2 c
      refine x_iconst (v := (-1 : Int32)) rfl rfl ?_
      exact x_iret rfl rfl h
theorem s_M_soonest_78 {d : Nat} {D : xD} {Q : Option Value → xD → Prop} {a0 : Nat} {x1 : Int32} {x2 : Int32} {x3 : Int32} {x4 : Int32} {x5 : Int32} {x6 : Int32} (k0 : xk a0 = 13) (h : (x5 < x6 → Q (some (.int (-1 : Int32))) D) ∧ (¬ x5 < x6 → (¬ x6 = 0 → vp_in (((53 : Int32) * x3) + x6) (xl (a0 + 7)) ∧ vp_in (D.1 (a0 + 7) (((53 : Int32) * x3) + x6 : Int32).toNatClampNeg) (xl (a0 + 33)) ∧ (¬ x6 = 0 → vp_in (D.1 (a0 + 7) (((53 : Int32) * x3) + x6 : Int32).toNatClampNeg) (xl (a0 + 33)) ∧ ∀ D1 : xD, D1 = (xu D.1 (a0 + 33) (D.1 (a0 + 7) (((53 : Int32) * x3) + x6 : Int32).toNatClampNeg : Int32).toNatClampNeg ((D.1 (a0 + 33) (D.1 (a0 + 7) (((53 : Int32) * x3) + x6 : Int32).toNatClampNeg : Int32).toNatClampNeg) + (1 : Int32)), D.2) → xPf (d + 1) m_M_soonest 127 [(0, .ref a0), (1, .int x1), (2, .int x2), (3, .int x3), (4, .int x4), (5, .int x5), (6, .int x6), (7, .int (0 : Int32))] [] D1 Q) ∧ (x6 = 0 → vp_in (D.1 (a0 + 7) (((53 : Int32) * x3) + x6 : Int32).toNatClampNeg) (xl (a0 + 33)) ∧ ∀ D2 : xD, D2 = (xu D.1 (a0 + 33) (D.1 (a0 + 7) (((53 : Int32) * x3) + x6 : Int32).toNatClampNeg : Int32).toNatClampNeg ((D.1 (a0 + 33) (D.1 (a0 + 7) (((53 : Int32) * x3) + x6 : Int32).toNatClampNeg : Int32).toNatClampNeg) + (0 : Int32)), D.2) → xPf (d + 1) m_M_soonest 127 [(0, .ref a0), (1, .int x1), (2, .int x2), (3, .int x3), (4, .int x4), (5, .int x5), (6, .int x6), (7, .int (0 : Int32))] [] D2 Q)) ∧ (x6 = 0 → vp_in (0 : Int32) (xl (a0 + 33)) ∧ (¬ x6 = 0 → vp_in (0 : Int32) (xl (a0 + 33)) ∧ ∀ D3 : xD, D3 = (xu D.1 (a0 + 33) ((0 : Int32) : Int32).toNatClampNeg ((D.1 (a0 + 33) ((0 : Int32) : Int32).toNatClampNeg) + (1 : Int32)), D.2) → xPf (d + 1) m_M_soonest 127 [(0, .ref a0), (1, .int x1), (2, .int x2), (3, .int x3), (4, .int x4), (5, .int x5), (6, .int x6), (7, .int (0 : Int32))] [] D3 Q) ∧ (x6 = 0 → vp_in (0 : Int32) (xl (a0 + 33)) ∧ ∀ D4 : xD, D4 = (xu D.1 (a0 + 33) ((0 : Int32) : Int32).toNatClampNeg ((D.1 (a0 + 33) ((0 : Int32) : Int32).toNatClampNeg) + (0 : Int32)), D.2) → xPf (d + 1) m_M_soonest 127 [(0, .ref a0), (1, .int x1), (2, .int x2), (3, .int x3), (4, .int x4), (5, .int x5), (6, .int x6), (7, .int (0 : Int32))] [] D4 Q)))) : xPf (d + 1) m_M_soonest 78 [(0, .ref a0), (1, .int x1), (2, .int x2), (3, .int x3), (4, .int x4), (5, .int x5), (6, .int x6)] [] D Q := by
  refine x_iload rfl rfl ?_
  refine x_iload rfl rfl ?_
  refine x_icmp_gt (tgt := 175) rfl rfl (fun c => ?_) (fun c => ?_)
  · have h := h.1 c
    refine x_iconst (v := (-1 : Int32)) rfl rfl ?_
    exact x_iret rfl rfl h
  · have h := h.2 c
    refine x_aload_n rfl rfl ?_
    refine x_gR lf_M_107 k0 rfl rfl ?_
    refine x_iload rfl rfl ?_
    refine x_if_ne (tgt := 98) rfl rfl (fun c => ?_) (fun c => ?_)
    · have h := h.1 c
      refine x_aload_n rfl rfl ?_
      refine x_gR lf_M_29 k0 rfl rfl ?_
      refine x_bipush (v := (53 : Int32)) rfl rfl ?_
      refine x_iload_n rfl rfl ?_
      refine x_imul rfl ?_
      refine x_iload rfl rfl ?_
      refine x_iadd rfl ?_
      refine x_iald (ck_13_7 k0) (xlt (ck_13_7 k0) (by decide)) h.1 rfl ?_
      have h := h.2
      refine x_dup2 rfl rfl rfl ?_
      refine x_iald (ck_13_66 k0) (xlt (ck_13_66 k0) (by decide)) h.1 rfl ?_
      have h := h.2
      refine x_iload rfl rfl ?_
      refine x_if_ne (tgt := 121) rfl rfl (fun c => ?_) (fun c => ?_)
      · have h := h.1 c
        refine x_iconst (v := (1 : Int32)) rfl rfl ?_
        refine x_iadd rfl ?_
        refine x_iastn (ck_13_66 k0) h.1 rfl (fun D1 eD1 => ?_)
        have h := h.2 D1 eD1
        refine x_iconst (v := (0 : Int32)) rfl rfl ?_
        refine x_istore (i := 7) (L1 := [(7, .int (0 : Int32)), (0, .ref a0), (1, .int x1), (2, .int x2), (3, .int x3), (4, .int x4), (5, .int x5), (6, .int x6)]) rfl (Nat.le_of_ble_eq_true rfl) rfl ?_
        exact xP_sub [1, 2, 3, 4, 5, 6, 7, 0] rfl h
      · have h := h.2 c
        refine x_iconst (v := (0 : Int32)) rfl rfl ?_
        refine x_goto (tgt := 122) rfl rfl ?_
        refine x_iadd rfl ?_
        refine x_iastn (ck_13_66 k0) h.1 rfl (fun D2 eD2 => ?_)
        have h := h.2 D2 eD2
        refine x_iconst (v := (0 : Int32)) rfl rfl ?_
        refine x_istore (i := 7) (L1 := [(7, .int (0 : Int32)), (0, .ref a0), (1, .int x1), (2, .int x2), (3, .int x3), (4, .int x4), (5, .int x5), (6, .int x6)]) rfl (Nat.le_of_ble_eq_true rfl) rfl ?_
        exact xP_sub [1, 2, 3, 4, 5, 6, 7, 0] rfl h
    · have h := h.2 c
      refine x_iconst (v := (0 : Int32)) rfl rfl ?_
      refine x_goto (tgt := 110) rfl rfl ?_
      refine x_dup2 rfl rfl rfl ?_
      refine x_iald (ck_13_66 k0) (xlt (ck_13_66 k0) (by decide)) h.1 rfl ?_
      have h := h.2
      refine x_iload rfl rfl ?_
      refine x_if_ne (tgt := 121) rfl rfl (fun c => ?_) (fun c => ?_)
      · have h := h.1 c
        refine x_iconst (v := (1 : Int32)) rfl rfl ?_
        refine x_iadd rfl ?_
        refine x_iastn (ck_13_66 k0) h.1 rfl (fun D3 eD3 => ?_)
        have h := h.2 D3 eD3
        refine x_iconst (v := (0 : Int32)) rfl rfl ?_
        refine x_istore (i := 7) (L1 := [(7, .int (0 : Int32)), (0, .ref a0), (1, .int x1), (2, .int x2), (3, .int x3), (4, .int x4), (5, .int x5), (6, .int x6)]) rfl (Nat.le_of_ble_eq_true rfl) rfl ?_
        exact xP_sub [1, 2, 3, 4, 5, 6, 7, 0] rfl h
      · have h := h.2 c
        refine x_iconst (v := (0 : Int32)) rfl rfl ?_
        refine x_goto (tgt := 122) rfl rfl ?_
        refine x_iadd rfl ?_
        refine x_iastn (ck_13_66 k0) h.1 rfl (fun D4 eD4 => ?_)
        have h := h.2 D4 eD4
        refine x_iconst (v := (0 : Int32)) rfl rfl ?_
        refine x_istore (i := 7) (L1 := [(7, .int (0 : Int32)), (0, .ref a0), (1, .int x1), (2, .int x2), (3, .int x3), (4, .int x4), (5, .int x5), (6, .int x6)]) rfl (Nat.le_of_ble_eq_true rfl) rfl ?_
        exact xP_sub [1, 2, 3, 4, 5, 6, 7, 0] rfl h
theorem s_M_soonest_127 {d : Nat} {D : xD} {Q : Option Value → xD → Prop} {a0 : Nat} {x1 : Int32} {x2 : Int32} {x3 : Int32} {x4 : Int32} {x5 : Int32} {x6 : Int32} {x7 : Int32} (k0 : xk a0 = 13) (h : ((D.1 a0 27) ≤ x7 → xPf (d + 1) m_M_soonest 78 [(0, .ref a0), (1, .int x1), (2, .int x2), (3, .int x3), (4, .int x4), (5, .int x5), (6, .int (x6 + (1 : Int32)))] [] D Q) ∧ (¬ (D.1 a0 27) ≤ x7 → vp_in x7 (xl (a0 + 33)) ∧ (¬ (D.1 (a0 + 33) (x7 : Int32).toNatClampNeg) = (D.1 a0 29) → xPf (d + 1) m_M_soonest 127 [(0, .ref a0), (1, .int x1), (2, .int x2), (3, .int x3), (4, .int x4), (5, .int x5), (6, .int x6), (7, .int (x7 + (1 : Int32)))] [] D Q) ∧ ((D.1 (a0 + 33) (x7 : Int32).toNatClampNeg) = (D.1 a0 29) → (x4 = 0 → Q (some (.int x6)) D) ∧ (¬ x4 = 0 → Q (some (.int x7)) D)))) : xPf (d + 1) m_M_soonest 127 [(0, .ref a0), (1, .int x1), (2, .int x2), (3, .int x3), (4, .int x4), (5, .int x5), (6, .int x6), (7, .int x7)] [] D Q := by
  refine x_iload rfl rfl ?_
  refine x_aload_n rfl rfl ?_
  refine x_gI lf_M_335 k0 rfl rfl ?_
  refine x_icmp_ge (tgt := 169) rfl rfl (fun c => ?_) (fun c => ?_)
  · have h := h.1 c
    refine x_iinc (i := 6) (v := x6 + (1 : Int32)) (L1 := [(6, .int (x6 + (1 : Int32))), (0, .ref a0), (1, .int x1), (2, .int x2), (3, .int x3), (4, .int x4), (5, .int x5), (7, .int x7)]) rfl rfl rfl (Nat.le_of_ble_eq_true rfl) rfl ?_
    refine x_goto (tgt := 78) rfl rfl ?_
    exact xP_sub [1, 2, 3, 4, 5, 6, 0] rfl h
  · have h := h.2 c
    refine x_aload_n rfl rfl ?_
    refine x_gR lf_M_107 k0 rfl rfl ?_
    refine x_iload rfl rfl ?_
    refine x_iald (ck_13_66 k0) (xlt (ck_13_66 k0) (by decide)) h.1 rfl ?_
    have h := h.2
    refine x_aload_n rfl rfl ?_
    refine x_gI lf_M_341 k0 rfl rfl ?_
    refine x_icmp_ne (tgt := 163) rfl rfl (fun c => ?_) (fun c => ?_)
    · have h := h.1 c
      refine x_iinc (i := 7) (v := x7 + (1 : Int32)) (L1 := [(7, .int (x7 + (1 : Int32))), (0, .ref a0), (1, .int x1), (2, .int x2), (3, .int x3), (4, .int x4), (5, .int x5), (6, .int x6)]) rfl rfl rfl (Nat.le_of_ble_eq_true rfl) rfl ?_
      refine x_goto (tgt := 127) rfl rfl ?_
      exact xP_sub [1, 2, 3, 4, 5, 6, 7, 0] rfl h
    · have h := h.2 c
      refine x_iload rfl rfl ?_
      refine x_if_eq (tgt := 160) rfl rfl (fun c => ?_) (fun c => ?_)
      · have h := h.1 c
        refine x_iload rfl rfl ?_
        exact x_iret rfl rfl h
      · have h := h.2 c
        refine x_iload rfl rfl ?_
        refine x_goto (tgt := 162) rfl rfl ?_
        exact x_iret rfl rfl h
theorem s_M_keeps_0 {d : Nat} {D : xD} {Q : Option Value → xD → Prop} {a0 : Nat} {x1 : Int32} {x2 : Int32} {x3 : Int32} {x4 : Int32} {x5 : Int32} (k0 : xk a0 = 13) (h : ∀ D1 : xD, D1 = (xu D.1 a0 0 (0 : Int32), D.2) → xCi d m_M_in [.int x4, .int (0 : Int32), .int (4 : Int32)] D1 (fun r3 D2 => (r3 = 0 → Q (some (.long (-1 : Int64))) D2) ∧ (¬ r3 = 0 → xCi d m_M_fitsHand [.ref a0, .int x1, .int x2] D2 (fun r5 D4 => (r5 = 0 → Q (some (.long (-1 : Int64))) D4) ∧ (¬ r5 = 0 → xCi d m_M_isKind [.ref a0, .int x3] D4 (fun r7 D6 => (r7 = 0 → Q (some (.long (-1 : Int64))) D6) ∧ (¬ r7 = 0 → ((D6.1 a0 29) ≤ (D6.1 a0 68) → xCl d m_M_drawnWith [.ref a0, .int x3, .int (D6.1 a0 29), .int x4] D6 (fun r9 D8 => xCl d m_M_choose [.int (D8.1 a0 68), .int (D8.1 a0 29)] D8 (fun r11 D10 => xCl d m_M_least [.long r9, .long r11, .int x5] D10 (fun r13 D12 => Q (some (.long r13)) D12)))) ∧ (¬ (D6.1 a0 29) ≤ (D6.1 a0 68) → Q (some (.long (-1 : Int64))) D6)))))))) : xPf (d + 1) m_M_keeps 0 [(0, .ref a0), (1, .int x1), (2, .int x2), (3, .int x3), (4, .int x4), (5, .int x5)] [] D Q := by
  refine x_aload_n rfl rfl ?_
  refine x_iconst (v := (0 : Int32)) rfl rfl ?_
  refine x_pIn lp_M_139 nf_13_0 k0 rfl rfl (fun D1 eD1 => ?_)
  have h := h D1 eD1
  refine x_iload rfl rfl ?_
  refine x_iconst (v := (0 : Int32)) rfl rfl ?_
  refine x_iconst (v := (4 : Int32)) rfl rfl ?_
  refine x_si lm_M_147 sf_M_in rfl rfl (Nat.le_of_ble_eq_true rfl) rfl h (fun r3 D2 h => ?_)
  refine x_if_eq (tgt := 43) rfl rfl (fun c => ?_) (fun c => ?_)
  · have h := h.1 c
    refine x_ldc2 wd_2203 rfl ?_
    exact x_lret rfl rfl h
  · have h := h.2 c
    refine x_aload_n rfl rfl ?_
    refine x_iload_n rfl rfl ?_
    refine x_iload_n rfl rfl ?_
    refine x_vi lm_M_569 vf_M_fitsHand k0 rfl rfl (Nat.le_of_ble_eq_true rfl) rfl h (fun r5 D4 h => ?_)
    refine x_if_eq (tgt := 43) rfl rfl (fun c => ?_) (fun c => ?_)
    · have h := h.1 c
      refine x_ldc2 wd_2203 rfl ?_
      exact x_lret rfl rfl h
    · have h := h.2 c
      refine x_aload_n rfl rfl ?_
      refine x_iload_n rfl rfl ?_
      refine x_vi lm_M_432 vf_M_isKind k0 rfl rfl (Nat.le_of_ble_eq_true rfl) rfl h (fun r7 D6 h => ?_)
      refine x_if_eq (tgt := 43) rfl rfl (fun c => ?_) (fun c => ?_)
      · have h := h.1 c
        refine x_ldc2 wd_2203 rfl ?_
        exact x_lret rfl rfl h
      · have h := h.2 c
        refine x_aload_n rfl rfl ?_
        refine x_gI lf_M_522 k0 rfl rfl ?_
        refine x_aload_n rfl rfl ?_
        refine x_gI lf_M_341 k0 rfl rfl ?_
        refine x_icmp_ge (tgt := 47) rfl rfl (fun c => ?_) (fun c => ?_)
        · have h := h.1 c
          refine x_aload_n rfl rfl ?_
          refine x_iload_n rfl rfl ?_
          refine x_aload_n rfl rfl ?_
          refine x_gI lf_M_341 k0 rfl rfl ?_
          refine x_iload rfl rfl ?_
          refine x_vl lm_M_588 vf_M_drawnWith k0 rfl rfl (Nat.le_of_ble_eq_true rfl) rfl h (fun r9 D8 h => ?_)
          refine x_aload_n rfl rfl ?_
          refine x_gI lf_M_522 k0 rfl rfl ?_
          refine x_aload_n rfl rfl ?_
          refine x_gI lf_M_341 k0 rfl rfl ?_
          refine x_sl lm_M_585 sf_M_choose rfl rfl (Nat.le_of_ble_eq_true rfl) rfl h (fun r11 D10 h => ?_)
          refine x_iload rfl rfl ?_
          refine x_sl lm_M_581 sf_M_least rfl rfl (Nat.le_of_ble_eq_true rfl) rfl h (fun r13 D12 h => ?_)
          exact x_lret rfl rfl h
        · have h := h.2 c
          refine x_ldc2 wd_2203 rfl ?_
          exact x_lret rfl rfl h
theorem s_M_lastsOf_0 {d : Nat} {D : xD} {Q : Option Value → xD → Prop} {a0 : Nat} {x1 : Int32} {x2 : Int32} (k0 : xk a0 = 13) (h : xPf (d + 1) m_M_lastsOf 5 [(0, .ref a0), (1, .int x1), (2, .int x2), (3, .int (0 : Int32)), (4, .int (0 : Int32))] [] D Q) : xPf (d + 1) m_M_lastsOf 0 [(0, .ref a0), (1, .int x1), (2, .int x2)] [] D Q := by
  refine x_iconst (v := (0 : Int32)) rfl rfl ?_
  refine x_istore_n (i := 3) (L1 := [(3, .int (0 : Int32)), (0, .ref a0), (1, .int x1), (2, .int x2)]) rfl rfl (Nat.le_of_ble_eq_true rfl) rfl ?_
  refine x_iconst (v := (0 : Int32)) rfl rfl ?_
  refine x_istore (i := 4) (L1 := [(4, .int (0 : Int32)), (3, .int (0 : Int32)), (0, .ref a0), (1, .int x1), (2, .int x2)]) rfl (Nat.le_of_ble_eq_true rfl) rfl ?_
  exact xP_sub [2, 3, 4, 1, 0] rfl h
theorem s_M_lastsOf_5 {d : Nat} {D : xD} {Q : Option Value → xD → Prop} {a0 : Nat} {x1 : Int32} {x2 : Int32} {x3 : Int32} {x4 : Int32} (k0 : xk a0 = 13) (h : ((60 : Int32) ≤ x4 → Q (some (.int x3)) D) ∧ (¬ (60 : Int32) ≤ x4 → xCi d m_M_lastBy [.ref a0, .int x2, .int x4] D (fun r2 D1 => (¬ r2 = x1 → xPf (d + 1) m_M_lastsOf 5 [(0, .ref a0), (1, .int x1), (2, .int x2), (3, .int (x3 + (0 : Int32))), (4, .int (x4 + (1 : Int32)))] [] D1 Q) ∧ (r2 = x1 → xPf (d + 1) m_M_lastsOf 5 [(0, .ref a0), (1, .int x1), (2, .int x2), (3, .int (x3 + (1 : Int32))), (4, .int (x4 + (1 : Int32)))] [] D1 Q)))) : xPf (d + 1) m_M_lastsOf 5 [(0, .ref a0), (1, .int x1), (2, .int x2), (3, .int x3), (4, .int x4)] [] D Q := by
  refine x_iload rfl rfl ?_
  refine x_bipush (v := (60 : Int32)) rfl rfl ?_
  refine x_icmp_ge (tgt := 37) rfl rfl (fun c => ?_) (fun c => ?_)
  · have h := h.1 c
    refine x_iload_n rfl rfl ?_
    exact x_iret rfl rfl h
  · have h := h.2 c
    refine x_iload_n rfl rfl ?_
    refine x_aload_n rfl rfl ?_
    refine x_iload_n rfl rfl ?_
    refine x_iload rfl rfl ?_
    refine x_vi lm_M_460 vf_M_lastBy k0 rfl rfl (Nat.le_of_ble_eq_true rfl) rfl h (fun r2 D1 h => ?_)
    refine x_iload_n rfl rfl ?_
    refine x_icmp_ne (tgt := 28) rfl rfl (fun c => ?_) (fun c => ?_)
    · have h := h.1 c
      refine x_iconst (v := (0 : Int32)) rfl rfl ?_
      refine x_iadd rfl ?_
      refine x_istore_n (i := 3) (L1 := [(3, .int (x3 + (0 : Int32))), (0, .ref a0), (1, .int x1), (2, .int x2), (4, .int x4)]) rfl rfl (Nat.le_of_ble_eq_true rfl) rfl ?_
      refine x_iinc (i := 4) (v := x4 + (1 : Int32)) (L1 := [(4, .int (x4 + (1 : Int32))), (3, .int (x3 + (0 : Int32))), (0, .ref a0), (1, .int x1), (2, .int x2)]) rfl rfl rfl (Nat.le_of_ble_eq_true rfl) rfl ?_
      refine x_goto (tgt := 5) rfl rfl ?_
      exact xP_sub [2, 3, 4, 1, 0] rfl h
    · have h := h.2 c
      refine x_iconst (v := (1 : Int32)) rfl rfl ?_
      refine x_goto (tgt := 29) rfl rfl ?_
      refine x_iadd rfl ?_
      refine x_istore_n (i := 3) (L1 := [(3, .int (x3 + (1 : Int32))), (0, .ref a0), (1, .int x1), (2, .int x2), (4, .int x4)]) rfl rfl (Nat.le_of_ble_eq_true rfl) rfl ?_
      refine x_iinc (i := 4) (v := x4 + (1 : Int32)) (L1 := [(4, .int (x4 + (1 : Int32))), (3, .int (x3 + (1 : Int32))), (0, .ref a0), (1, .int x1), (2, .int x2)]) rfl rfl rfl (Nat.le_of_ble_eq_true rfl) rfl ?_
      refine x_goto (tgt := 5) rfl rfl ?_
      exact xP_sub [2, 3, 4, 1, 0] rfl h
theorem s_M_looks_0 {d : Nat} {D : xD} {Q : Option Value → xD → Prop} {a0 : Nat} {x1 : Int32} {x2 : Int32} {x3 : Int32} {x4 : Int32} (k0 : xk a0 = 13) (h : ∀ D1 : xD, D1 = (xu D.1 a0 0 (0 : Int32), D.2) → xCi d m_M_hand1 [.ref a0, .int x1] D1 (fun r3 D2 => (r3 = 0 → Q (some (.int (-1 : Int32))) D2) ∧ (¬ r3 = 0 → xCi d m_M_isOne [.ref a0, .int x3] D2 (fun r5 D4 => (r5 = 0 → Q (some (.int (-1 : Int32))) D4) ∧ (¬ r5 = 0 → xCi d m_M_in [.int x4, .int (-1 : Int32), .int (59 : Int32)] D4 (fun r7 D6 => (¬ r7 = 0 → (x4 = (-1 : Int32) → xCi d m_M_isOne [.ref a0, .int x2] D6 (fun r9 D8 => (r9 = 0 → Q (some (.int (-1 : Int32))) D8) ∧ (¬ r9 = 0 → (x2 = x3 → Q (some (.int (-1 : Int32))) D8) ∧ (¬ x2 = x3 → xCi d m_M_lastsOf [.ref a0, .int x2, .int x3] D8 (fun r11 D10 => Q (some (.int r11)) D10))))) ∧ (¬ x4 = (-1 : Int32) → xCi d m_M_lastBy [.ref a0, .int x3, .int x4] D6 (fun r13 D12 => Q (some (.int r13)) D12))) ∧ (r7 = 0 → Q (some (.int (-1 : Int32))) D6))))))) : xPf (d + 1) m_M_looks 0 [(0, .ref a0), (1, .int x1), (2, .int x2), (3, .int x3), (4, .int x4)] [] D Q := by
  refine x_aload_n rfl rfl ?_
  refine x_iconst (v := (0 : Int32)) rfl rfl ?_
  refine x_pIn lp_M_139 nf_13_0 k0 rfl rfl (fun D1 eD1 => ?_)
  have h := h D1 eD1
  refine x_aload_n rfl rfl ?_
  refine x_iload_n rfl rfl ?_
  refine x_vi lm_M_356 vf_M_hand1 k0 rfl rfl (Nat.le_of_ble_eq_true rfl) rfl h (fun r3 D2 h => ?_)
  refine x_if_eq (tgt := 32) rfl rfl (fun c => ?_) (fun c => ?_)
  · have h := h.1 c
    refine x_iconst (v := (-1 : Int32)) rfl rfl ?_
    exact x_iret rfl rfl h
  · have h := h.2 c
    refine x_aload_n rfl rfl ?_
    refine x_iload_n rfl rfl ?_
    refine x_vi lm_M_359 vf_M_isOne k0 rfl rfl (Nat.le_of_ble_eq_true rfl) rfl h (fun r5 D4 h => ?_)
    refine x_if_eq (tgt := 32) rfl rfl (fun c => ?_) (fun c => ?_)
    · have h := h.1 c
      refine x_iconst (v := (-1 : Int32)) rfl rfl ?_
      exact x_iret rfl rfl h
    · have h := h.2 c
      refine x_iload rfl rfl ?_
      refine x_iconst (v := (-1 : Int32)) rfl rfl ?_
      refine x_bipush (v := (59 : Int32)) rfl rfl ?_
      refine x_si lm_M_147 sf_M_in rfl rfl (Nat.le_of_ble_eq_true rfl) rfl h (fun r7 D6 h => ?_)
      refine x_if_ne (tgt := 34) rfl rfl (fun c => ?_) (fun c => ?_)
      · have h := h.1 c
        refine x_iload rfl rfl ?_
        refine x_iconst (v := (-1 : Int32)) rfl rfl ?_
        refine x_icmp_eq (tgt := 48) rfl rfl (fun c => ?_) (fun c => ?_)
        · have h := h.1 c
          refine x_aload_n rfl rfl ?_
          refine x_iload_n rfl rfl ?_
          refine x_vi lm_M_359 vf_M_isOne k0 rfl rfl (Nat.le_of_ble_eq_true rfl) rfl h (fun r9 D8 h => ?_)
          refine x_if_eq (tgt := 70) rfl rfl (fun c => ?_) (fun c => ?_)
          · have h := h.1 c
            refine x_iconst (v := (-1 : Int32)) rfl rfl ?_
            exact x_iret rfl rfl h
          · have h := h.2 c
            refine x_iload_n rfl rfl ?_
            refine x_iload_n rfl rfl ?_
            refine x_icmp_eq (tgt := 70) rfl rfl (fun c => ?_) (fun c => ?_)
            · have h := h.1 c
              refine x_iconst (v := (-1 : Int32)) rfl rfl ?_
              exact x_iret rfl rfl h
            · have h := h.2 c
              refine x_aload_n rfl rfl ?_
              refine x_iload_n rfl rfl ?_
              refine x_iload_n rfl rfl ?_
              refine x_vi lm_M_591 vf_M_lastsOf k0 rfl rfl (Nat.le_of_ble_eq_true rfl) rfl h (fun r11 D10 h => ?_)
              refine x_goto (tgt := 71) rfl rfl ?_
              exact x_iret rfl rfl h
        · have h := h.2 c
          refine x_aload_n rfl rfl ?_
          refine x_iload_n rfl rfl ?_
          refine x_iload rfl rfl ?_
          refine x_vi lm_M_460 vf_M_lastBy k0 rfl rfl (Nat.le_of_ble_eq_true rfl) rfl h (fun r13 D12 h => ?_)
          exact x_iret rfl rfl h
      · have h := h.2 c
        refine x_iconst (v := (-1 : Int32)) rfl rfl ?_
        exact x_iret rfl rfl h
theorem s_M_often_0 {d : Nat} {D : xD} {Q : Option Value → xD → Prop} {a0 : Nat} {x1 : Int32} {x2 : Int32} {x3 : Int32} (k0 : xk a0 = 13) (h : ∀ D1 : xD, D1 = (xu D.1 a0 0 (0 : Int32), D.2) → xCi d m_M_hand1 [.ref a0, .int x1] D1 (fun r3 D2 => (r3 = 0 → Q (some (.int (-1 : Int32))) D2) ∧ (¬ r3 = 0 → xCi d m_M_isOne [.ref a0, .int x2] D2 (fun r5 D4 => (r5 = 0 → Q (some (.int (-1 : Int32))) D4) ∧ (¬ r5 = 0 → xCi d m_M_isOne [.ref a0, .int x3] D4 (fun r7 D6 => (r7 = 0 → Q (some (.int (-1 : Int32))) D6) ∧ (¬ r7 = 0 → (¬ x2 = x3 → xPf (d + 1) m_M_often 47 [(0, .ref a0), (1, .int x1), (2, .int x2), (3, .int x3), (4, .int (-1 : Int32)), (5, .int (1000000 : Int32)), (6, .int (1 : Int32))] [] D6 Q) ∧ (x2 = x3 → Q (some (.int (-1 : Int32))) D6)))))))) : xPf (d + 1) m_M_often 0 [(0, .ref a0), (1, .int x1), (2, .int x2), (3, .int x3)] [] D Q := by
  refine x_aload_n rfl rfl ?_
  refine x_iconst (v := (0 : Int32)) rfl rfl ?_
  refine x_pIn lp_M_139 nf_13_0 k0 rfl rfl (fun D1 eD1 => ?_)
  have h := h D1 eD1
  refine x_aload_n rfl rfl ?_
  refine x_iload_n rfl rfl ?_
  refine x_vi lm_M_356 vf_M_hand1 k0 rfl rfl (Nat.le_of_ble_eq_true rfl) rfl h (fun r3 D2 h => ?_)
  refine x_if_eq (tgt := 34) rfl rfl (fun c => ?_) (fun c => ?_)
  · have h := h.1 c
    refine x_iconst (v := (-1 : Int32)) rfl rfl ?_
    exact x_iret rfl rfl h
  · have h := h.2 c
    refine x_aload_n rfl rfl ?_
    refine x_iload_n rfl rfl ?_
    refine x_vi lm_M_359 vf_M_isOne k0 rfl rfl (Nat.le_of_ble_eq_true rfl) rfl h (fun r5 D4 h => ?_)
    refine x_if_eq (tgt := 34) rfl rfl (fun c => ?_) (fun c => ?_)
    · have h := h.1 c
      refine x_iconst (v := (-1 : Int32)) rfl rfl ?_
      exact x_iret rfl rfl h
    · have h := h.2 c
      refine x_aload_n rfl rfl ?_
      refine x_iload_n rfl rfl ?_
      refine x_vi lm_M_359 vf_M_isOne k0 rfl rfl (Nat.le_of_ble_eq_true rfl) rfl h (fun r7 D6 h => ?_)
      refine x_if_eq (tgt := 34) rfl rfl (fun c => ?_) (fun c => ?_)
      · have h := h.1 c
        refine x_iconst (v := (-1 : Int32)) rfl rfl ?_
        exact x_iret rfl rfl h
      · have h := h.2 c
        refine x_iload_n rfl rfl ?_
        refine x_iload_n rfl rfl ?_
        refine x_icmp_ne (tgt := 36) rfl rfl (fun c => ?_) (fun c => ?_)
        · have h := h.1 c
          refine x_iconst (v := (-1 : Int32)) rfl rfl ?_
          refine x_istore (i := 4) (L1 := [(4, .int (-1 : Int32)), (0, .ref a0), (1, .int x1), (2, .int x2), (3, .int x3)]) rfl (Nat.le_of_ble_eq_true rfl) rfl ?_
          refine x_ldcw wd_2127 rfl ?_
          refine x_istore (i := 5) (L1 := [(5, .int (1000000 : Int32)), (4, .int (-1 : Int32)), (0, .ref a0), (1, .int x1), (2, .int x2), (3, .int x3)]) rfl (Nat.le_of_ble_eq_true rfl) rfl ?_
          refine x_iconst (v := (1 : Int32)) rfl rfl ?_
          refine x_istore (i := 6) (L1 := [(6, .int (1 : Int32)), (5, .int (1000000 : Int32)), (4, .int (-1 : Int32)), (0, .ref a0), (1, .int x1), (2, .int x2), (3, .int x3)]) rfl (Nat.le_of_ble_eq_true rfl) rfl ?_
          exact xP_sub [3, 4, 5, 6, 2, 1, 0] rfl h
        · have h := h.2 c
          refine x_iconst (v := (-1 : Int32)) rfl rfl ?_
          exact x_iret rfl rfl h
theorem s_M_often_47 {d : Nat} {D : xD} {Q : Option Value → xD → Prop} {a0 : Nat} {x1 : Int32} {x2 : Int32} {x3 : Int32} {x4 : Int32} {x5 : Int32} {x6 : Int32} (k0 : xk a0 = 13) (h : ((9 : Int32) < x6 → Q (some (.int x4)) D) ∧ (¬ (9 : Int32) < x6 → vp_in x2 (xl (a0 + 15)) ∧ ∀ D1 : xD, D1 = (xu D.1 (a0 + 15) (x2 : Int32).toNatClampNeg x6, D.2) → xCi d m_M_lastsOf [.ref a0, .int x2, .int x3] D1 (fun r3 D2 => ¬ x6 = 0 ∧ (x5 ≤ (r3 + ((60 : Int32) / x6)) → xCi d m_M_lesser [.int x5, .int (r3 + ((60 : Int32) / x6))] D2 (fun r5 D4 => xPf (d + 1) m_M_often 47 [(0, .ref a0), (1, .int x1), (2, .int x2), (3, .int x3), (4, .int x4), (5, .int r5), (6, .int (x6 + (1 : Int32)))] [] D4 Q)) ∧ (¬ x5 ≤ (r3 + ((60 : Int32) / x6)) → xCi d m_M_lesser [.int x5, .int (r3 + ((60 : Int32) / x6))] D2 (fun r7 D6 => xPf (d + 1) m_M_often 47 [(0, .ref a0), (1, .int x1), (2, .int x2), (3, .int x3), (4, .int x6), (5, .int r7), (6, .int (x6 + (1 : Int32)))] [] D6 Q))))) : xPf (d + 1) m_M_often 47 [(0, .ref a0), (1, .int x1), (2, .int x2), (3, .int x3), (4, .int x4), (5, .int x5), (6, .int x6)] [] D Q := by
  refine x_iload rfl rfl ?_
  refine x_bipush (v := (9 : Int32)) rfl rfl ?_
  refine x_icmp_gt (tgt := 107) rfl rfl (fun c => ?_) (fun c => ?_)
  · have h := h.1 c
    refine x_iload rfl rfl ?_
    exact x_iret rfl rfl h
  · have h := h.2 c
    refine x_aload_n rfl rfl ?_
    refine x_gR lf_M_53 k0 rfl rfl ?_
    refine x_iload_n rfl rfl ?_
    refine x_iload rfl rfl ?_
    refine x_iastn (ck_13_34 k0) h.1 rfl (fun D1 eD1 => ?_)
    have h := h.2 D1 eD1
    refine x_aload_n rfl rfl ?_
    refine x_iload_n rfl rfl ?_
    refine x_iload_n rfl rfl ?_
    refine x_vi lm_M_591 vf_M_lastsOf k0 rfl rfl (Nat.le_of_ble_eq_true rfl) rfl h (fun r3 D2 h => ?_)
    refine x_bipush (v := (60 : Int32)) rfl rfl ?_
    refine x_iload rfl rfl ?_
    refine x_idiv rfl h.1 ?_
    have h := h.2
    refine x_iadd rfl ?_
    refine x_istore (i := 7) (L1 := [(7, .int (r3 + ((60 : Int32) / x6))), (0, .ref a0), (1, .int x1), (2, .int x2), (3, .int x3), (4, .int x4), (5, .int x5), (6, .int x6)]) rfl (Nat.le_of_ble_eq_true rfl) rfl ?_
    refine x_iload rfl rfl ?_
    refine x_iload rfl rfl ?_
    refine x_icmp_ge (tgt := 88) rfl rfl (fun c => ?_) (fun c => ?_)
    · have h := h.1 c
      refine x_iload rfl rfl ?_
      refine x_istore (i := 4) (L1 := [(4, .int x4), (7, .int (r3 + ((60 : Int32) / x6))), (0, .ref a0), (1, .int x1), (2, .int x2), (3, .int x3), (5, .int x5), (6, .int x6)]) rfl (Nat.le_of_ble_eq_true rfl) rfl ?_
      refine x_iload rfl rfl ?_
      refine x_iload rfl rfl ?_
      refine x_si lm_M_519 sf_M_lesser rfl rfl (Nat.le_of_ble_eq_true rfl) rfl h (fun r5 D4 h => ?_)
      refine x_istore (i := 5) (L1 := [(5, .int r5), (4, .int x4), (7, .int (r3 + ((60 : Int32) / x6))), (0, .ref a0), (1, .int x1), (2, .int x2), (3, .int x3), (6, .int x6)]) rfl (Nat.le_of_ble_eq_true rfl) rfl ?_
      refine x_iinc (i := 6) (v := x6 + (1 : Int32)) (L1 := [(6, .int (x6 + (1 : Int32))), (5, .int r5), (4, .int x4), (7, .int (r3 + ((60 : Int32) / x6))), (0, .ref a0), (1, .int x1), (2, .int x2), (3, .int x3)]) rfl rfl rfl (Nat.le_of_ble_eq_true rfl) rfl ?_
      refine x_goto (tgt := 47) rfl rfl ?_
      exact xP_sub [4, 5, 6, 7, 2, 1, 0] rfl h
    · have h := h.2 c
      refine x_iload rfl rfl ?_
      refine x_goto (tgt := 90) rfl rfl ?_
      refine x_istore (i := 4) (L1 := [(4, .int x6), (7, .int (r3 + ((60 : Int32) / x6))), (0, .ref a0), (1, .int x1), (2, .int x2), (3, .int x3), (5, .int x5), (6, .int x6)]) rfl (Nat.le_of_ble_eq_true rfl) rfl ?_
      refine x_iload rfl rfl ?_
      refine x_iload rfl rfl ?_
      refine x_si lm_M_519 sf_M_lesser rfl rfl (Nat.le_of_ble_eq_true rfl) rfl h (fun r7 D6 h => ?_)
      refine x_istore (i := 5) (L1 := [(5, .int r7), (4, .int x6), (7, .int (r3 + ((60 : Int32) / x6))), (0, .ref a0), (1, .int x1), (2, .int x2), (3, .int x3), (6, .int x6)]) rfl (Nat.le_of_ble_eq_true rfl) rfl ?_
      refine x_iinc (i := 6) (v := x6 + (1 : Int32)) (L1 := [(6, .int (x6 + (1 : Int32))), (5, .int r7), (4, .int x6), (7, .int (r3 + ((60 : Int32) / x6))), (0, .ref a0), (1, .int x1), (2, .int x2), (3, .int x3)]) rfl rfl rfl (Nat.le_of_ble_eq_true rfl) rfl ?_
      refine x_goto (tgt := 47) rfl rfl ?_
      exact xP_sub [4, 5, 6, 7, 2, 1, 0] rfl h
theorem s_M_lookWays_0 {d : Nat} {D : xD} {Q : Option Value → xD → Prop} {a0 : Nat} (k0 : xk a0 = 13) (h : xPf (d + 1) m_M_lookWays 9 [(0, .ref a0), (1, .int (1 : Int32)), (2, .int ((D.1 a0 30) - (1 : Int32)))] [] D Q) : xPf (d + 1) m_M_lookWays 0 [(0, .ref a0)] [] D Q := by
  refine x_iconst (v := (1 : Int32)) rfl rfl ?_
  refine x_istore_n (i := 1) (L1 := [(1, .int (1 : Int32)), (0, .ref a0)]) rfl rfl (Nat.le_of_ble_eq_true rfl) rfl ?_
  refine x_aload_n rfl rfl ?_
  refine x_gI lf_M_344 k0 rfl rfl ?_
  refine x_iconst (v := (1 : Int32)) rfl rfl ?_
  refine x_isub rfl ?_
  refine x_istore_n (i := 2) (L1 := [(2, .int ((D.1 a0 30) - (1 : Int32))), (1, .int (1 : Int32)), (0, .ref a0)]) rfl rfl (Nat.le_of_ble_eq_true rfl) rfl ?_
  exact xP_sub [2, 1, 0] rfl h
theorem s_M_lookWays_9 {d : Nat} {D : xD} {Q : Option Value → xD → Prop} {a0 : Nat} {x1 : Int32} {x2 : Int32} (k0 : xk a0 = 13) (h : (x2 < 0 → Q (some (.int x1)) D) ∧ (¬ x2 < 0 → vp_in x2 (xl (a0 + 39)) ∧ ∀ D1 : xD, D1 = (xu D.1 (a0 + 39) (x2 : Int32).toNatClampNeg x1, D.2) → xPf (d + 1) m_M_lookWays 9 [(0, .ref a0), (1, .int (x1 * (3 : Int32))), (2, .int (x2 + (-1 : Int32)))] [] D1 Q)) : xPf (d + 1) m_M_lookWays 9 [(0, .ref a0), (1, .int x1), (2, .int x2)] [] D Q := by
  refine x_iload_n rfl rfl ?_
  refine x_if_lt (tgt := 30) rfl rfl (fun c => ?_) (fun c => ?_)
  · have h := h.1 c
    refine x_iload_n rfl rfl ?_
    exact x_iret rfl rfl h
  · have h := h.2 c
    refine x_aload_n rfl rfl ?_
    refine x_gR lf_M_126 k0 rfl rfl ?_
    refine x_iload_n rfl rfl ?_
    refine x_iload_n rfl rfl ?_
    refine x_iastn (ck_13_75 k0) h.1 rfl (fun D1 eD1 => ?_)
    have h := h.2 D1 eD1
    refine x_iload_n rfl rfl ?_
    refine x_iconst (v := (3 : Int32)) rfl rfl ?_
    refine x_imul rfl ?_
    refine x_istore_n (i := 1) (L1 := [(1, .int (x1 * (3 : Int32))), (0, .ref a0), (2, .int x2)]) rfl rfl (Nat.le_of_ble_eq_true rfl) rfl ?_
    refine x_iinc (i := 2) (v := x2 + (-1 : Int32)) (L1 := [(2, .int (x2 + (-1 : Int32))), (1, .int (x1 * (3 : Int32))), (0, .ref a0)]) rfl rfl rfl (Nat.le_of_ble_eq_true rfl) rfl ?_
    refine x_goto (tgt := 9) rfl rfl ?_
    exact xP_sub [2, 1, 0] rfl h
theorem s_M_costOf_0 {d : Nat} {D : xD} {Q : Option Value → xD → Prop} {a0 : Nat} {x1 : Int32} {x2 : Int32} (k0 : xk a0 = 13) (h : xPf (d + 1) m_M_costOf 2 [(0, .ref a0), (1, .int x1), (2, .int x2), (3, .int (0 : Int32))] [] D Q) : xPf (d + 1) m_M_costOf 0 [(0, .ref a0), (1, .int x1), (2, .int x2)] [] D Q := by
  refine x_iconst (v := (0 : Int32)) rfl rfl ?_
  refine x_istore_n (i := 3) (L1 := [(3, .int (0 : Int32)), (0, .ref a0), (1, .int x1), (2, .int x2)]) rfl rfl (Nat.le_of_ble_eq_true rfl) rfl ?_
  exact xP_sub [1, 2, 3, 0] rfl h
theorem s_M_costOf_2 {d : Nat} {D : xD} {Q : Option Value → xD → Prop} {a0 : Nat} {x1 : Int32} {x2 : Int32} {x3 : Int32} (k0 : xk a0 = 13) (h : ((D.1 a0 30) ≤ x3 → vp_in x1 (xl (a0 + 15)) ∧ ¬ (D.1 (a0 + 15) (x1 : Int32).toNatClampNeg) = 0 ∧ xPf (d + 1) m_M_costOf 52 [(0, .ref a0), (1, .int x1), (2, .int x2), (3, .int (((20 : Int32) * (D.1 a0 30)) / (D.1 (a0 + 15) (x1 : Int32).toNatClampNeg))), (4, .int (0 : Int32))] [] D Q) ∧ (¬ (D.1 a0 30) ≤ x3 → vp_in x3 (xl (a0 + 39)) ∧ ¬ (D.1 (a0 + 39) (x3 : Int32).toNatClampNeg) = 0 ∧ vp_in x3 (xl (a0 + 15)) ∧ ∀ D1 : xD, D1 = (xu D.1 (a0 + 15) (x3 : Int32).toNatClampNeg ((1 : Int32) + ((x2 / (D.1 (a0 + 39) (x3 : Int32).toNatClampNeg)) - (x2 / (D.1 (a0 + 39) (x3 : Int32).toNatClampNeg)) / (3 : Int32) * (3 : Int32))), D.2) → xPf (d + 1) m_M_costOf 2 [(0, .ref a0), (1, .int x1), (2, .int x2), (3, .int (x3 + (1 : Int32)))] [] D1 Q)) : xPf (d + 1) m_M_costOf 2 [(0, .ref a0), (1, .int x1), (2, .int x2), (3, .int x3)] [] D Q := by
  refine x_iload_n rfl rfl ?_
  refine x_aload_n rfl rfl ?_
  refine x_gI lf_M_344 k0 rfl rfl ?_
  refine x_icmp_ge (tgt := 34) rfl rfl (fun c => ?_) (fun c => ?_)
  · have h := h.1 c
    refine x_bipush (v := (20 : Int32)) rfl rfl ?_
    refine x_aload_n rfl rfl ?_
    refine x_gI lf_M_344 k0 rfl rfl ?_
    refine x_imul rfl ?_
    refine x_aload_n rfl rfl ?_
    refine x_gR lf_M_53 k0 rfl rfl ?_
    refine x_iload_n rfl rfl ?_
    refine x_iald (ck_13_34 k0) (xlt (ck_13_34 k0) (by decide)) h.1 rfl ?_
    have h := h.2
    refine x_idiv rfl h.1 ?_
    have h := h.2
    refine x_istore_n (i := 3) (L1 := [(3, .int (((20 : Int32) * (D.1 a0 30)) / (D.1 (a0 + 15) (x1 : Int32).toNatClampNeg))), (0, .ref a0), (1, .int x1), (2, .int x2)]) rfl rfl (Nat.le_of_ble_eq_true rfl) rfl ?_
    refine x_iconst (v := (0 : Int32)) rfl rfl ?_
    refine x_istore (i := 4) (L1 := [(4, .int (0 : Int32)), (3, .int (((20 : Int32) * (D.1 a0 30)) / (D.1 (a0 + 15) (x1 : Int32).toNatClampNeg))), (0, .ref a0), (1, .int x1), (2, .int x2)]) rfl (Nat.le_of_ble_eq_true rfl) rfl ?_
    exact xP_sub [2, 3, 4, 1, 0] rfl h
  · have h := h.2 c
    refine x_aload_n rfl rfl ?_
    refine x_gR lf_M_53 k0 rfl rfl ?_
    refine x_iload_n rfl rfl ?_
    refine x_iconst (v := (1 : Int32)) rfl rfl ?_
    refine x_iload_n rfl rfl ?_
    refine x_aload_n rfl rfl ?_
    refine x_gR lf_M_126 k0 rfl rfl ?_
    refine x_iload_n rfl rfl ?_
    refine x_iald (ck_13_75 k0) (xlt (ck_13_75 k0) (by decide)) h.1 rfl ?_
    have h := h.2
    refine x_idiv rfl h.1 ?_
    have h := h.2
    refine x_iconst (v := (3 : Int32)) rfl rfl ?_
    refine x_irem rfl (by decide) ?_
    refine x_iadd rfl ?_
    refine x_iastn (ck_13_34 k0) h.1 rfl (fun D1 eD1 => ?_)
    have h := h.2 D1 eD1
    refine x_iinc (i := 3) (v := x3 + (1 : Int32)) (L1 := [(3, .int (x3 + (1 : Int32))), (0, .ref a0), (1, .int x1), (2, .int x2)]) rfl rfl rfl (Nat.le_of_ble_eq_true rfl) rfl ?_
    refine x_goto (tgt := 2) rfl rfl ?_
    exact xP_sub [1, 2, 3, 0] rfl h
theorem s_M_costOf_52 {d : Nat} {D : xD} {Q : Option Value → xD → Prop} {a0 : Nat} {x1 : Int32} {x2 : Int32} {x3 : Int32} {x4 : Int32} (k0 : xk a0 = 13) (h : ((D.1 a0 30) ≤ x4 → Q (some (.int x3)) D) ∧ (¬ (D.1 a0 30) ≤ x4 → (¬ x4 = x1 → xCi d m_M_lastsOf [.ref a0, .int x1, .int x4] D (fun r2 D1 => xPf (d + 1) m_M_costOf 52 [(0, .ref a0), (1, .int x1), (2, .int x2), (3, .int (x3 + r2)), (4, .int (x4 + (1 : Int32)))] [] D1 Q)) ∧ (x4 = x1 → xPf (d + 1) m_M_costOf 52 [(0, .ref a0), (1, .int x1), (2, .int x2), (3, .int (x3 + (0 : Int32))), (4, .int (x4 + (1 : Int32)))] [] D Q))) : xPf (d + 1) m_M_costOf 52 [(0, .ref a0), (1, .int x1), (2, .int x2), (3, .int x3), (4, .int x4)] [] D Q := by
  refine x_iload rfl rfl ?_
  refine x_aload_n rfl rfl ?_
  refine x_gI lf_M_344 k0 rfl rfl ?_
  refine x_icmp_ge (tgt := 87) rfl rfl (fun c => ?_) (fun c => ?_)
  · have h := h.1 c
    refine x_iload_n rfl rfl ?_
    exact x_iret rfl rfl h
  · have h := h.2 c
    refine x_iload_n rfl rfl ?_
    refine x_iload rfl rfl ?_
    refine x_iload_n rfl rfl ?_
    refine x_icmp_ne (tgt := 72) rfl rfl (fun c => ?_) (fun c => ?_)
    · have h := h.1 c
      refine x_aload_n rfl rfl ?_
      refine x_iload_n rfl rfl ?_
      refine x_iload rfl rfl ?_
      refine x_vi lm_M_591 vf_M_lastsOf k0 rfl rfl (Nat.le_of_ble_eq_true rfl) rfl h (fun r2 D1 h => ?_)
      refine x_iadd rfl ?_
      refine x_istore_n (i := 3) (L1 := [(3, .int (x3 + r2)), (0, .ref a0), (1, .int x1), (2, .int x2), (4, .int x4)]) rfl rfl (Nat.le_of_ble_eq_true rfl) rfl ?_
      refine x_iinc (i := 4) (v := x4 + (1 : Int32)) (L1 := [(4, .int (x4 + (1 : Int32))), (3, .int (x3 + r2)), (0, .ref a0), (1, .int x1), (2, .int x2)]) rfl rfl rfl (Nat.le_of_ble_eq_true rfl) rfl ?_
      refine x_goto (tgt := 52) rfl rfl ?_
      exact xP_sub [2, 3, 4, 1, 0] rfl h
    · have h := h.2 c
      refine x_iconst (v := (0 : Int32)) rfl rfl ?_
      refine x_goto (tgt := 79) rfl rfl ?_
      refine x_iadd rfl ?_
      refine x_istore_n (i := 3) (L1 := [(3, .int (x3 + (0 : Int32))), (0, .ref a0), (1, .int x1), (2, .int x2), (4, .int x4)]) rfl rfl (Nat.le_of_ble_eq_true rfl) rfl ?_
      refine x_iinc (i := 4) (v := x4 + (1 : Int32)) (L1 := [(4, .int (x4 + (1 : Int32))), (3, .int (x3 + (0 : Int32))), (0, .ref a0), (1, .int x1), (2, .int x2)]) rfl rfl rfl (Nat.le_of_ble_eq_true rfl) rfl ?_
      refine x_goto (tgt := 52) rfl rfl ?_
      exact xP_sub [2, 3, 4, 1, 0] rfl h
theorem s_M_isRest_0 {d : Nat} {D : xD} {Q : Option Value → xD → Prop} {a0 : Nat} {x1 : Int32} (k0 : xk a0 = 13) (h : xPf (d + 1) m_M_isRest 2 [(0, .ref a0), (1, .int x1), (2, .int (0 : Int32))] [] D Q) : xPf (d + 1) m_M_isRest 0 [(0, .ref a0), (1, .int x1)] [] D Q := by
  refine x_iconst (v := (0 : Int32)) rfl rfl ?_
  refine x_istore_n (i := 2) (L1 := [(2, .int (0 : Int32)), (0, .ref a0), (1, .int x1)]) rfl rfl (Nat.le_of_ble_eq_true rfl) rfl ?_
  exact xP_sub [1, 2, 0] rfl h
theorem s_M_isRest_2 {d : Nat} {D : xD} {Q : Option Value → xD → Prop} {a0 : Nat} {x1 : Int32} {x2 : Int32} (k0 : xk a0 = 13) (h : ((D.1 a0 30) ≤ x2 → Q (some (.int (1 : Int32))) D) ∧ (¬ (D.1 a0 30) ≤ x2 → xCi d m_M_costOf [.ref a0, .int x2, .int x1] D (fun r2 D1 => vp_in x2 (xl (a0 + 39)) ∧ ¬ (D1.1 (a0 + 39) (x2 : Int32).toNatClampNeg) = 0 ∧ vp_in x2 (xl (a0 + 39)) ∧ xPf (d + 1) m_M_isRest 41 [(0, .ref a0), (1, .int x1), (2, .int x2), (3, .int r2), (4, .int (x1 - (((x1 / (D1.1 (a0 + 39) (x2 : Int32).toNatClampNeg)) - (x1 / (D1.1 (a0 + 39) (x2 : Int32).toNatClampNeg)) / (3 : Int32) * (3 : Int32)) * (D1.1 (a0 + 39) (x2 : Int32).toNatClampNeg)))), (5, .int (0 : Int32))] [] D1 Q))) : xPf (d + 1) m_M_isRest 2 [(0, .ref a0), (1, .int x1), (2, .int x2)] [] D Q := by
  refine x_iload_n rfl rfl ?_
  refine x_aload_n rfl rfl ?_
  refine x_gI lf_M_344 k0 rfl rfl ?_
  refine x_icmp_ge (tgt := 82) rfl rfl (fun c => ?_) (fun c => ?_)
  · have h := h.1 c
    refine x_iconst (v := (1 : Int32)) rfl rfl ?_
    exact x_zr rfl (Or.inr rfl) rfl h
  · have h := h.2 c
    refine x_aload_n rfl rfl ?_
    refine x_iload_n rfl rfl ?_
    refine x_iload_n rfl rfl ?_
    refine x_vi lm_M_594 vf_M_costOf k0 rfl rfl (Nat.le_of_ble_eq_true rfl) rfl h (fun r2 D1 h => ?_)
    refine x_istore_n (i := 3) (L1 := [(3, .int r2), (0, .ref a0), (1, .int x1), (2, .int x2)]) rfl rfl (Nat.le_of_ble_eq_true rfl) rfl ?_
    refine x_iload_n rfl rfl ?_
    refine x_iload_n rfl rfl ?_
    refine x_aload_n rfl rfl ?_
    refine x_gR lf_M_126 k0 rfl rfl ?_
    refine x_iload_n rfl rfl ?_
    refine x_iald (ck_13_75 k0) (xlt (ck_13_75 k0) (by decide)) h.1 rfl ?_
    have h := h.2
    refine x_idiv rfl h.1 ?_
    have h := h.2
    refine x_iconst (v := (3 : Int32)) rfl rfl ?_
    refine x_irem rfl (by decide) ?_
    refine x_aload_n rfl rfl ?_
    refine x_gR lf_M_126 k0 rfl rfl ?_
    refine x_iload_n rfl rfl ?_
    refine x_iald (ck_13_75 k0) (xlt (ck_13_75 k0) (by decide)) h.1 rfl ?_
    have h := h.2
    refine x_imul rfl ?_
    refine x_isub rfl ?_
    refine x_istore (i := 4) (L1 := [(4, .int (x1 - (((x1 / (D1.1 (a0 + 39) (x2 : Int32).toNatClampNeg)) - (x1 / (D1.1 (a0 + 39) (x2 : Int32).toNatClampNeg)) / (3 : Int32) * (3 : Int32)) * (D1.1 (a0 + 39) (x2 : Int32).toNatClampNeg)))), (3, .int r2), (0, .ref a0), (1, .int x1), (2, .int x2)]) rfl (Nat.le_of_ble_eq_true rfl) rfl ?_
    refine x_iconst (v := (0 : Int32)) rfl rfl ?_
    refine x_istore (i := 5) (L1 := [(5, .int (0 : Int32)), (4, .int (x1 - (((x1 / (D1.1 (a0 + 39) (x2 : Int32).toNatClampNeg)) - (x1 / (D1.1 (a0 + 39) (x2 : Int32).toNatClampNeg)) / (3 : Int32) * (3 : Int32)) * (D1.1 (a0 + 39) (x2 : Int32).toNatClampNeg)))), (3, .int r2), (0, .ref a0), (1, .int x1), (2, .int x2)]) rfl (Nat.le_of_ble_eq_true rfl) rfl ?_
    exact xP_sub [3, 4, 5, 2, 1, 0] rfl h
theorem s_M_isRest_41 {d : Nat} {D : xD} {Q : Option Value → xD → Prop} {a0 : Nat} {x1 : Int32} {x2 : Int32} {x3 : Int32} {x4 : Int32} {x5 : Int32} (k0 : xk a0 = 13) (h : ((3 : Int32) ≤ x5 → xPf (d + 1) m_M_isRest 2 [(0, .ref a0), (1, .int x1), (2, .int (x2 + (1 : Int32)))] [] D Q) ∧ (¬ (3 : Int32) ≤ x5 → vp_in x2 (xl (a0 + 39)) ∧ xCi d m_M_costOf [.ref a0, .int x2, .int (x4 + (x5 * (D.1 (a0 + 39) (x2 : Int32).toNatClampNeg)))] D (fun r2 D1 => (x3 ≤ r2 → xPf (d + 1) m_M_isRest 41 [(0, .ref a0), (1, .int x1), (2, .int x2), (3, .int x3), (4, .int x4), (5, .int (x5 + (1 : Int32)))] [] D1 Q) ∧ (¬ x3 ≤ r2 → Q (some (.int (0 : Int32))) D1)))) : xPf (d + 1) m_M_isRest 41 [(0, .ref a0), (1, .int x1), (2, .int x2), (3, .int x3), (4, .int x4), (5, .int x5)] [] D Q := by
  refine x_iload rfl rfl ?_
  refine x_iconst (v := (3 : Int32)) rfl rfl ?_
  refine x_icmp_ge (tgt := 76) rfl rfl (fun c => ?_) (fun c => ?_)
  · have h := h.1 c
    refine x_iinc (i := 2) (v := x2 + (1 : Int32)) (L1 := [(2, .int (x2 + (1 : Int32))), (0, .ref a0), (1, .int x1), (3, .int x3), (4, .int x4), (5, .int x5)]) rfl rfl rfl (Nat.le_of_ble_eq_true rfl) rfl ?_
    refine x_goto (tgt := 2) rfl rfl ?_
    exact xP_sub [1, 2, 0] rfl h
  · have h := h.2 c
    refine x_aload_n rfl rfl ?_
    refine x_iload_n rfl rfl ?_
    refine x_iload rfl rfl ?_
    refine x_iload rfl rfl ?_
    refine x_aload_n rfl rfl ?_
    refine x_gR lf_M_126 k0 rfl rfl ?_
    refine x_iload_n rfl rfl ?_
    refine x_iald (ck_13_75 k0) (xlt (ck_13_75 k0) (by decide)) h.1 rfl ?_
    have h := h.2
    refine x_imul rfl ?_
    refine x_iadd rfl ?_
    refine x_vi lm_M_594 vf_M_costOf k0 rfl rfl (Nat.le_of_ble_eq_true rfl) rfl h (fun r2 D1 h => ?_)
    refine x_iload_n rfl rfl ?_
    refine x_icmp_ge (tgt := 70) rfl rfl (fun c => ?_) (fun c => ?_)
    · have h := h.1 c
      refine x_iinc (i := 5) (v := x5 + (1 : Int32)) (L1 := [(5, .int (x5 + (1 : Int32))), (0, .ref a0), (1, .int x1), (2, .int x2), (3, .int x3), (4, .int x4)]) rfl rfl rfl (Nat.le_of_ble_eq_true rfl) rfl ?_
      refine x_goto (tgt := 41) rfl rfl ?_
      exact xP_sub [1, 2, 3, 4, 5, 0] rfl h
    · have h := h.2 c
      refine x_iconst (v := (0 : Int32)) rfl rfl ?_
      exact x_zr rfl (Or.inl rfl) rfl h
theorem s_M_rests_0 {d : Nat} {D : xD} {Q : Option Value → xD → Prop} {a0 : Nat} {x1 : Int32} {x2 : Int32} {x3 : Int32} (k0 : xk a0 = 13) (h : ∀ D1 : xD, D1 = (xu D.1 a0 0 (0 : Int32), D.2) → xCi d m_M_hand1 [.ref a0, .int x1] D1 (fun r3 D2 => (r3 = 0 → Q (some (.int (-1 : Int32))) D2) ∧ (¬ r3 = 0 → ((5 : Int32) < (D2.1 a0 30) → Q (some (.int (-1 : Int32))) D2) ∧ (¬ (5 : Int32) < (D2.1 a0 30) → (x2 = (-1 : Int32) → xCi d m_M_lookWays [.ref a0] D2 (fun r5 D4 => (x2 = (-1 : Int32) → xPf (d + 1) m_M_rests 76 [(0, .ref a0), (1, .int x1), (2, .int x2), (3, .int x3), (4, .int r5), (5, .int (0 : Int32)), (6, .int (0 : Int32))] [] D4 Q) ∧ (¬ x2 = (-1 : Int32) → xCi d m_M_in [.int x3, .int (0 : Int32), .int (r5 - (1 : Int32))] D4 (fun r7 D6 => (r7 = 0 → Q (some (.int (-1 : Int32))) D6) ∧ (¬ r7 = 0 → xCi d m_M_costOf [.ref a0, .int x2, .int x3] D6 (fun r9 D8 => Q (some (.int r9)) D8)))))) ∧ (¬ x2 = (-1 : Int32) → xCi d m_M_isOne [.ref a0, .int x2] D2 (fun r11 D10 => (¬ r11 = 0 → xCi d m_M_lookWays [.ref a0] D10 (fun r13 D12 => (x2 = (-1 : Int32) → xPf (d + 1) m_M_rests 76 [(0, .ref a0), (1, .int x1), (2, .int x2), (3, .int x3), (4, .int r13), (5, .int (0 : Int32)), (6, .int (0 : Int32))] [] D12 Q) ∧ (¬ x2 = (-1 : Int32) → xCi d m_M_in [.int x3, .int (0 : Int32), .int (r13 - (1 : Int32))] D12 (fun r15 D14 => (r15 = 0 → Q (some (.int (-1 : Int32))) D14) ∧ (¬ r15 = 0 → xCi d m_M_costOf [.ref a0, .int x2, .int x3] D14 (fun r17 D16 => Q (some (.int r17)) D16)))))) ∧ (r11 = 0 → Q (some (.int (-1 : Int32))) D10))))))) : xPf (d + 1) m_M_rests 0 [(0, .ref a0), (1, .int x1), (2, .int x2), (3, .int x3)] [] D Q := by
  refine x_aload_n rfl rfl ?_
  refine x_iconst (v := (0 : Int32)) rfl rfl ?_
  refine x_pIn lp_M_139 nf_13_0 k0 rfl rfl (fun D1 eD1 => ?_)
  have h := h D1 eD1
  refine x_aload_n rfl rfl ?_
  refine x_iload_n rfl rfl ?_
  refine x_vi lm_M_356 vf_M_hand1 k0 rfl rfl (Nat.le_of_ble_eq_true rfl) rfl h (fun r3 D2 h => ?_)
  refine x_if_eq (tgt := 34) rfl rfl (fun c => ?_) (fun c => ?_)
  · have h := h.1 c
    refine x_iconst (v := (-1 : Int32)) rfl rfl ?_
    exact x_iret rfl rfl h
  · have h := h.2 c
    refine x_aload_n rfl rfl ?_
    refine x_gI lf_M_344 k0 rfl rfl ?_
    refine x_iconst (v := (5 : Int32)) rfl rfl ?_
    refine x_icmp_gt (tgt := 34) rfl rfl (fun c => ?_) (fun c => ?_)
    · have h := h.1 c
      refine x_iconst (v := (-1 : Int32)) rfl rfl ?_
      exact x_iret rfl rfl h
    · have h := h.2 c
      refine x_iload_n rfl rfl ?_
      refine x_iconst (v := (-1 : Int32)) rfl rfl ?_
      refine x_icmp_eq (tgt := 36) rfl rfl (fun c => ?_) (fun c => ?_)
      · have h := h.1 c
        refine x_aload_n rfl rfl ?_
        refine x_vi lm_M_597 vf_M_lookWays k0 rfl rfl (Nat.le_of_ble_eq_true rfl) rfl h (fun r5 D4 h => ?_)
        refine x_istore (i := 4) (L1 := [(4, .int r5), (0, .ref a0), (1, .int x1), (2, .int x2), (3, .int x3)]) rfl (Nat.le_of_ble_eq_true rfl) rfl ?_
        refine x_iload_n rfl rfl ?_
        refine x_iconst (v := (-1 : Int32)) rfl rfl ?_
        refine x_icmp_eq (tgt := 70) rfl rfl (fun c => ?_) (fun c => ?_)
        · have h := h.1 c
          refine x_iconst (v := (0 : Int32)) rfl rfl ?_
          refine x_istore (i := 5) (L1 := [(5, .int (0 : Int32)), (4, .int r5), (0, .ref a0), (1, .int x1), (2, .int x2), (3, .int x3)]) rfl (Nat.le_of_ble_eq_true rfl) rfl ?_
          refine x_iconst (v := (0 : Int32)) rfl rfl ?_
          refine x_istore (i := 6) (L1 := [(6, .int (0 : Int32)), (5, .int (0 : Int32)), (4, .int r5), (0, .ref a0), (1, .int x1), (2, .int x2), (3, .int x3)]) rfl (Nat.le_of_ble_eq_true rfl) rfl ?_
          exact xP_sub [3, 4, 5, 6, 2, 1, 0] rfl h
        · have h := h.2 c
          refine x_iload_n rfl rfl ?_
          refine x_iconst (v := (0 : Int32)) rfl rfl ?_
          refine x_iload rfl rfl ?_
          refine x_iconst (v := (1 : Int32)) rfl rfl ?_
          refine x_isub rfl ?_
          refine x_si lm_M_147 sf_M_in rfl rfl (Nat.le_of_ble_eq_true rfl) rfl h (fun r7 D6 h => ?_)
          refine x_if_eq (tgt := 68) rfl rfl (fun c => ?_) (fun c => ?_)
          · have h := h.1 c
            refine x_iconst (v := (-1 : Int32)) rfl rfl ?_
            exact x_iret rfl rfl h
          · have h := h.2 c
            refine x_aload_n rfl rfl ?_
            refine x_iload_n rfl rfl ?_
            refine x_iload_n rfl rfl ?_
            refine x_vi lm_M_594 vf_M_costOf k0 rfl rfl (Nat.le_of_ble_eq_true rfl) rfl h (fun r9 D8 h => ?_)
            refine x_goto (tgt := 69) rfl rfl ?_
            exact x_iret rfl rfl h
      · have h := h.2 c
        refine x_aload_n rfl rfl ?_
        refine x_iload_n rfl rfl ?_
        refine x_vi lm_M_359 vf_M_isOne k0 rfl rfl (Nat.le_of_ble_eq_true rfl) rfl h (fun r11 D10 h => ?_)
        refine x_if_ne (tgt := 36) rfl rfl (fun c => ?_) (fun c => ?_)
        · have h := h.1 c
          refine x_aload_n rfl rfl ?_
          refine x_vi lm_M_597 vf_M_lookWays k0 rfl rfl (Nat.le_of_ble_eq_true rfl) rfl h (fun r13 D12 h => ?_)
          refine x_istore (i := 4) (L1 := [(4, .int r13), (0, .ref a0), (1, .int x1), (2, .int x2), (3, .int x3)]) rfl (Nat.le_of_ble_eq_true rfl) rfl ?_
          refine x_iload_n rfl rfl ?_
          refine x_iconst (v := (-1 : Int32)) rfl rfl ?_
          refine x_icmp_eq (tgt := 70) rfl rfl (fun c => ?_) (fun c => ?_)
          · have h := h.1 c
            refine x_iconst (v := (0 : Int32)) rfl rfl ?_
            refine x_istore (i := 5) (L1 := [(5, .int (0 : Int32)), (4, .int r13), (0, .ref a0), (1, .int x1), (2, .int x2), (3, .int x3)]) rfl (Nat.le_of_ble_eq_true rfl) rfl ?_
            refine x_iconst (v := (0 : Int32)) rfl rfl ?_
            refine x_istore (i := 6) (L1 := [(6, .int (0 : Int32)), (5, .int (0 : Int32)), (4, .int r13), (0, .ref a0), (1, .int x1), (2, .int x2), (3, .int x3)]) rfl (Nat.le_of_ble_eq_true rfl) rfl ?_
            exact xP_sub [3, 4, 5, 6, 2, 1, 0] rfl h
          · have h := h.2 c
            refine x_iload_n rfl rfl ?_
            refine x_iconst (v := (0 : Int32)) rfl rfl ?_
            refine x_iload rfl rfl ?_
            refine x_iconst (v := (1 : Int32)) rfl rfl ?_
            refine x_isub rfl ?_
            refine x_si lm_M_147 sf_M_in rfl rfl (Nat.le_of_ble_eq_true rfl) rfl h (fun r15 D14 h => ?_)
            refine x_if_eq (tgt := 68) rfl rfl (fun c => ?_) (fun c => ?_)
            · have h := h.1 c
              refine x_iconst (v := (-1 : Int32)) rfl rfl ?_
              exact x_iret rfl rfl h
            · have h := h.2 c
              refine x_aload_n rfl rfl ?_
              refine x_iload_n rfl rfl ?_
              refine x_iload_n rfl rfl ?_
              refine x_vi lm_M_594 vf_M_costOf k0 rfl rfl (Nat.le_of_ble_eq_true rfl) rfl h (fun r17 D16 h => ?_)
              refine x_goto (tgt := 69) rfl rfl ?_
              exact x_iret rfl rfl h
        · have h := h.2 c
          refine x_iconst (v := (-1 : Int32)) rfl rfl ?_
          exact x_iret rfl rfl h
theorem s_M_rests_76 {d : Nat} {D : xD} {Q : Option Value → xD → Prop} {a0 : Nat} {x1 : Int32} {x2 : Int32} {x3 : Int32} {x4 : Int32} {x5 : Int32} {x6 : Int32} (k0 : xk a0 = 13) (h : (x4 ≤ x6 → (¬ x3 = (-1 : Int32) → Q (some (.int (-1 : Int32))) D) ∧ (x3 = (-1 : Int32) → Q (some (.int x5)) D)) ∧ (¬ x4 ≤ x6 → xCi d m_M_isRest [.ref a0, .int x6] D (fun r2 D1 => (r2 = 0 → xPf (d + 1) m_M_rests 76 [(0, .ref a0), (1, .int x1), (2, .int x2), (3, .int x3), (4, .int x4), (5, .int x5), (6, .int (x6 + (1 : Int32)))] [] D1 Q) ∧ (¬ r2 = 0 → (¬ x5 = x3 → xPf (d + 1) m_M_rests 76 [(0, .ref a0), (1, .int x1), (2, .int x2), (3, .int x3), (4, .int x4), (5, .int (x5 + (1 : Int32))), (6, .int (x6 + (1 : Int32)))] [] D1 Q) ∧ (x5 = x3 → Q (some (.int x6)) D1))))) : xPf (d + 1) m_M_rests 76 [(0, .ref a0), (1, .int x1), (2, .int x2), (3, .int x3), (4, .int x4), (5, .int x5), (6, .int x6)] [] D Q := by
  refine x_iload rfl rfl ?_
  refine x_iload rfl rfl ?_
  refine x_icmp_ge (tgt := 110) rfl rfl (fun c => ?_) (fun c => ?_)
  · have h := h.1 c
    refine x_iload_n rfl rfl ?_
    refine x_iconst (v := (-1 : Int32)) rfl rfl ?_
    refine x_icmp_ne (tgt := 120) rfl rfl (fun c => ?_) (fun c => ?_)
    · have h := h.1 c
      refine x_iconst (v := (-1 : Int32)) rfl rfl ?_
      exact x_iret rfl rfl h
    · have h := h.2 c
      refine x_iload rfl rfl ?_
      refine x_goto (tgt := 121) rfl rfl ?_
      exact x_iret rfl rfl h
  · have h := h.2 c
    refine x_aload_n rfl rfl ?_
    refine x_iload rfl rfl ?_
    refine x_vi lm_M_600 vf_M_isRest k0 rfl rfl (Nat.le_of_ble_eq_true rfl) rfl h (fun r2 D1 h => ?_)
    refine x_if_eq (tgt := 104) rfl rfl (fun c => ?_) (fun c => ?_)
    · have h := h.1 c
      refine x_iinc (i := 6) (v := x6 + (1 : Int32)) (L1 := [(6, .int (x6 + (1 : Int32))), (0, .ref a0), (1, .int x1), (2, .int x2), (3, .int x3), (4, .int x4), (5, .int x5)]) rfl rfl rfl (Nat.le_of_ble_eq_true rfl) rfl ?_
      refine x_goto (tgt := 76) rfl rfl ?_
      exact xP_sub [1, 2, 3, 4, 5, 6, 0] rfl h
    · have h := h.2 c
      refine x_iload rfl rfl ?_
      refine x_iload_n rfl rfl ?_
      refine x_icmp_ne (tgt := 101) rfl rfl (fun c => ?_) (fun c => ?_)
      · have h := h.1 c
        refine x_iinc (i := 5) (v := x5 + (1 : Int32)) (L1 := [(5, .int (x5 + (1 : Int32))), (0, .ref a0), (1, .int x1), (2, .int x2), (3, .int x3), (4, .int x4), (6, .int x6)]) rfl rfl rfl (Nat.le_of_ble_eq_true rfl) rfl ?_
        refine x_iinc (i := 6) (v := x6 + (1 : Int32)) (L1 := [(6, .int (x6 + (1 : Int32))), (5, .int (x5 + (1 : Int32))), (0, .ref a0), (1, .int x1), (2, .int x2), (3, .int x3), (4, .int x4)]) rfl rfl rfl (Nat.le_of_ble_eq_true rfl) rfl ?_
        refine x_goto (tgt := 76) rfl rfl ?_
        exact xP_sub [2, 3, 4, 5, 6, 1, 0] rfl h
      · have h := h.2 c
        refine x_iload rfl rfl ?_
        exact x_iret rfl rfl h
theorem s_M_waitsOf_0 {d : Nat} {D : xD} {Q : Option Value → xD → Prop} {a0 : Nat} {x1 : Int32} (k0 : xk a0 = 13) (h : xPf (d + 1) m_M_waitsOf 4 [(0, .ref a0), (1, .int x1), (2, .int (0 : Int32)), (3, .int (0 : Int32))] [] D Q) : xPf (d + 1) m_M_waitsOf 0 [(0, .ref a0), (1, .int x1)] [] D Q := by
  refine x_iconst (v := (0 : Int32)) rfl rfl ?_
  refine x_istore_n (i := 2) (L1 := [(2, .int (0 : Int32)), (0, .ref a0), (1, .int x1)]) rfl rfl (Nat.le_of_ble_eq_true rfl) rfl ?_
  refine x_iconst (v := (0 : Int32)) rfl rfl ?_
  refine x_istore_n (i := 3) (L1 := [(3, .int (0 : Int32)), (2, .int (0 : Int32)), (0, .ref a0), (1, .int x1)]) rfl rfl (Nat.le_of_ble_eq_true rfl) rfl ?_
  exact xP_sub [2, 3, 1, 0] rfl h
theorem s_M_waitsOf_4 {d : Nat} {D : xD} {Q : Option Value → xD → Prop} {a0 : Nat} {x1 : Int32} {x2 : Int32} {x3 : Int32} (k0 : xk a0 = 13) (h : ((60 : Int32) ≤ x3 → Q (some (.int x2)) D) ∧ (¬ (60 : Int32) ≤ x3 → xCi d m_M_spoonBy [.ref a0, .int x1, .int (-1 : Int32), .int x3] D (fun r2 D1 => xPf (d + 1) m_M_waitsOf 4 [(0, .ref a0), (1, .int x1), (2, .int (x2 + (r2 - x3))), (3, .int (x3 + (1 : Int32)))] [] D1 Q))) : xPf (d + 1) m_M_waitsOf 4 [(0, .ref a0), (1, .int x1), (2, .int x2), (3, .int x3)] [] D Q := by
  refine x_iload_n rfl rfl ?_
  refine x_bipush (v := (60 : Int32)) rfl rfl ?_
  refine x_icmp_ge (tgt := 28) rfl rfl (fun c => ?_) (fun c => ?_)
  · have h := h.1 c
    refine x_iload_n rfl rfl ?_
    exact x_iret rfl rfl h
  · have h := h.2 c
    refine x_iload_n rfl rfl ?_
    refine x_aload_n rfl rfl ?_
    refine x_iload_n rfl rfl ?_
    refine x_iconst (v := (-1 : Int32)) rfl rfl ?_
    refine x_iload_n rfl rfl ?_
    refine x_vi lm_M_453 vf_M_spoonBy k0 rfl rfl (Nat.le_of_ble_eq_true rfl) rfl h (fun r2 D1 h => ?_)
    refine x_iload_n rfl rfl ?_
    refine x_isub rfl ?_
    refine x_iadd rfl ?_
    refine x_istore_n (i := 2) (L1 := [(2, .int (x2 + (r2 - x3))), (0, .ref a0), (1, .int x1), (3, .int x3)]) rfl rfl (Nat.le_of_ble_eq_true rfl) rfl ?_
    refine x_iinc (i := 3) (v := x3 + (1 : Int32)) (L1 := [(3, .int (x3 + (1 : Int32))), (2, .int (x2 + (r2 - x3))), (0, .ref a0), (1, .int x1)]) rfl rfl rfl (Nat.le_of_ble_eq_true rfl) rfl ?_
    refine x_goto (tgt := 4) rfl rfl ?_
    exact xP_sub [2, 3, 1, 0] rfl h
theorem s_M_even_0 {d : Nat} {D : xD} {Q : Option Value → xD → Prop} {a0 : Nat} {x1 : Int32} {x2 : Int32} (k0 : xk a0 = 13) (h : ∀ D1 : xD, D1 = (xu D.1 a0 0 (0 : Int32), D.2) → xCi d m_M_hand1 [.ref a0, .int x1] D1 (fun r3 D2 => (r3 = 0 → Q (some (.int (-1 : Int32))) D2) ∧ (¬ r3 = 0 → xCi d m_M_isOne [.ref a0, .int x2] D2 (fun r5 D4 => (¬ r5 = 0 → xPf (d + 1) m_M_even 28 [(0, .ref a0), (1, .int x1), (2, .int x2), (3, .int (0 : Int32)), (4, .int (0 : Int32))] [] D4 Q) ∧ (r5 = 0 → Q (some (.int (-1 : Int32))) D4))))) : xPf (d + 1) m_M_even 0 [(0, .ref a0), (1, .int x1), (2, .int x2)] [] D Q := by
  refine x_aload_n rfl rfl ?_
  refine x_iconst (v := (0 : Int32)) rfl rfl ?_
  refine x_pIn lp_M_139 nf_13_0 k0 rfl rfl (fun D1 eD1 => ?_)
  have h := h D1 eD1
  refine x_aload_n rfl rfl ?_
  refine x_iload_n rfl rfl ?_
  refine x_vi lm_M_356 vf_M_hand1 k0 rfl rfl (Nat.le_of_ble_eq_true rfl) rfl h (fun r3 D2 h => ?_)
  refine x_if_eq (tgt := 21) rfl rfl (fun c => ?_) (fun c => ?_)
  · have h := h.1 c
    refine x_iconst (v := (-1 : Int32)) rfl rfl ?_
    exact x_iret rfl rfl h
  · have h := h.2 c
    refine x_aload_n rfl rfl ?_
    refine x_iload_n rfl rfl ?_
    refine x_vi lm_M_359 vf_M_isOne k0 rfl rfl (Nat.le_of_ble_eq_true rfl) rfl h (fun r5 D4 h => ?_)
    refine x_if_ne (tgt := 23) rfl rfl (fun c => ?_) (fun c => ?_)
    · have h := h.1 c
      refine x_iconst (v := (0 : Int32)) rfl rfl ?_
      refine x_istore_n (i := 3) (L1 := [(3, .int (0 : Int32)), (0, .ref a0), (1, .int x1), (2, .int x2)]) rfl rfl (Nat.le_of_ble_eq_true rfl) rfl ?_
      refine x_iconst (v := (0 : Int32)) rfl rfl ?_
      refine x_istore (i := 4) (L1 := [(4, .int (0 : Int32)), (3, .int (0 : Int32)), (0, .ref a0), (1, .int x1), (2, .int x2)]) rfl (Nat.le_of_ble_eq_true rfl) rfl ?_
      exact xP_sub [2, 3, 4, 1, 0] rfl h
    · have h := h.2 c
      refine x_iconst (v := (-1 : Int32)) rfl rfl ?_
      exact x_iret rfl rfl h
theorem s_M_even_28 {d : Nat} {D : xD} {Q : Option Value → xD → Prop} {a0 : Nat} {x1 : Int32} {x2 : Int32} {x3 : Int32} {x4 : Int32} (k0 : xk a0 = 13) (h : ((D.1 a0 30) ≤ x4 → xCi d m_M_waitsOf [.ref a0, .int x2] D (fun r2 D1 => Q (some (.int ((((x3 - r2) + (30 : Int32)) - (1 : Int32)) / (60 : Int32)))) D1)) ∧ (¬ (D.1 a0 30) ≤ x4 → xCi d m_M_waitsOf [.ref a0, .int x4] D (fun r4 D3 => xCi d m_M_greater [.int x3, .int r4] D3 (fun r6 D5 => xPf (d + 1) m_M_even 28 [(0, .ref a0), (1, .int x1), (2, .int x2), (3, .int r6), (4, .int (x4 + (1 : Int32)))] [] D5 Q)))) : xPf (d + 1) m_M_even 28 [(0, .ref a0), (1, .int x1), (2, .int x2), (3, .int x3), (4, .int x4)] [] D Q := by
  refine x_iload rfl rfl ?_
  refine x_aload_n rfl rfl ?_
  refine x_gI lf_M_344 k0 rfl rfl ?_
  refine x_icmp_ge (tgt := 54) rfl rfl (fun c => ?_) (fun c => ?_)
  · have h := h.1 c
    refine x_iload_n rfl rfl ?_
    refine x_aload_n rfl rfl ?_
    refine x_iload_n rfl rfl ?_
    refine x_vi lm_M_603 vf_M_waitsOf k0 rfl rfl (Nat.le_of_ble_eq_true rfl) rfl h (fun r2 D1 h => ?_)
    refine x_isub rfl ?_
    refine x_bipush (v := (30 : Int32)) rfl rfl ?_
    refine x_iadd rfl ?_
    refine x_iconst (v := (1 : Int32)) rfl rfl ?_
    refine x_isub rfl ?_
    refine x_bipush (v := (60 : Int32)) rfl rfl ?_
    refine x_idiv rfl (by decide) ?_
    exact x_iret rfl rfl h
  · have h := h.2 c
    refine x_iload_n rfl rfl ?_
    refine x_aload_n rfl rfl ?_
    refine x_iload rfl rfl ?_
    refine x_vi lm_M_603 vf_M_waitsOf k0 rfl rfl (Nat.le_of_ble_eq_true rfl) rfl h (fun r4 D3 h => ?_)
    refine x_si lm_M_211 sf_M_greater rfl rfl (Nat.le_of_ble_eq_true rfl) rfl h (fun r6 D5 h => ?_)
    refine x_istore_n (i := 3) (L1 := [(3, .int r6), (0, .ref a0), (1, .int x1), (2, .int x2), (4, .int x4)]) rfl rfl (Nat.le_of_ble_eq_true rfl) rfl ?_
    refine x_iinc (i := 4) (v := x4 + (1 : Int32)) (L1 := [(4, .int (x4 + (1 : Int32))), (3, .int r6), (0, .ref a0), (1, .int x1), (2, .int x2)]) rfl rfl rfl (Nat.le_of_ble_eq_true rfl) rfl ?_
    refine x_goto (tgt := 28) rfl rfl ?_
    exact xP_sub [2, 3, 4, 1, 0] rfl h
theorem s_M_lured_0 {d : Nat} {D : xD} {Q : Option Value → xD → Prop} {a0 : Nat} {x1 : Int32} {x2 : Int32} (k0 : xk a0 = 13) (h : xPf (d + 1) m_M_lured 5 [(0, .ref a0), (1, .int x1), (2, .int x2), (3, .int (0 : Int32)), (4, .int (0 : Int32))] [] D Q) : xPf (d + 1) m_M_lured 0 [(0, .ref a0), (1, .int x1), (2, .int x2)] [] D Q := by
  refine x_iconst (v := (0 : Int32)) rfl rfl ?_
  refine x_istore_n (i := 3) (L1 := [(3, .int (0 : Int32)), (0, .ref a0), (1, .int x1), (2, .int x2)]) rfl rfl (Nat.le_of_ble_eq_true rfl) rfl ?_
  refine x_iconst (v := (0 : Int32)) rfl rfl ?_
  refine x_istore (i := 4) (L1 := [(4, .int (0 : Int32)), (3, .int (0 : Int32)), (0, .ref a0), (1, .int x1), (2, .int x2)]) rfl (Nat.le_of_ble_eq_true rfl) rfl ?_
  exact xP_sub [2, 3, 4, 1, 0] rfl h
theorem s_M_lured_5 {d : Nat} {D : xD} {Q : Option Value → xD → Prop} {a0 : Nat} {x1 : Int32} {x2 : Int32} {x3 : Int32} {x4 : Int32} (k0 : xk a0 = 13) (h : ((D.1 a0 30) ≤ x4 → Q (some (.int x3)) D) ∧ (¬ (D.1 a0 30) ≤ x4 → vp_in x4 (xl (a0 + 15)) ∧ vp_in x4 (xl (a0 + 15)) ∧ ¬ (D.1 (a0 + 15) (x4 : Int32).toNatClampNeg) = 0 ∧ vp_in x4 (xl (a0 + 15)) ∧ (x4 = x1 → xPf (d + 1) m_M_lured 5 [(0, .ref a0), (1, .int x1), (2, .int x2), (3, .int (x3 ||| (0 : Int32))), (4, .int (x4 + (1 : Int32)))] [] D Q) ∧ (¬ x4 = x1 → xCi d m_M_ofOne [.ref a0, .int x4, .int (6 : Int32)] D (fun r2 D1 => (¬ r2 = (1 : Int32) → xPf (d + 1) m_M_lured 5 [(0, .ref a0), (1, .int x1), (2, .int x2), (3, .int (x3 ||| (0 : Int32))), (4, .int (x4 + (1 : Int32)))] [] D1 Q) ∧ (r2 = (1 : Int32) → xCi d m_M_of [.ref a0, .int (4 : Int32)] D1 (fun r4 D3 => ((x2 + r4) < ((((x2 + (D.1 (a0 + 15) (x4 : Int32).toNatClampNeg)) - (1 : Int32)) / (D.1 (a0 + 15) (x4 : Int32).toNatClampNeg)) * (D.1 (a0 + 15) (x4 : Int32).toNatClampNeg)) → xPf (d + 1) m_M_lured 5 [(0, .ref a0), (1, .int x1), (2, .int x2), (3, .int (x3 ||| (0 : Int32))), (4, .int (x4 + (1 : Int32)))] [] D3 Q) ∧ (¬ (x2 + r4) < ((((x2 + (D.1 (a0 + 15) (x4 : Int32).toNatClampNeg)) - (1 : Int32)) / (D.1 (a0 + 15) (x4 : Int32).toNatClampNeg)) * (D.1 (a0 + 15) (x4 : Int32).toNatClampNeg)) → xPf (d + 1) m_M_lured 5 [(0, .ref a0), (1, .int x1), (2, .int x2), (3, .int (x3 ||| ((1 : Int32) <<< (x4 &&& 31)))), (4, .int (x4 + (1 : Int32)))] [] D3 Q))))))) : xPf (d + 1) m_M_lured 5 [(0, .ref a0), (1, .int x1), (2, .int x2), (3, .int x3), (4, .int x4)] [] D Q := by
  refine x_iload rfl rfl ?_
  refine x_aload_n rfl rfl ?_
  refine x_gI lf_M_344 k0 rfl rfl ?_
  refine x_icmp_ge (tgt := 90) rfl rfl (fun c => ?_) (fun c => ?_)
  · have h := h.1 c
    refine x_iload_n rfl rfl ?_
    exact x_iret rfl rfl h
  · have h := h.2 c
    refine x_iload_n rfl rfl ?_
    refine x_aload_n rfl rfl ?_
    refine x_gR lf_M_53 k0 rfl rfl ?_
    refine x_iload rfl rfl ?_
    refine x_iald (ck_13_34 k0) (xlt (ck_13_34 k0) (by decide)) h.1 rfl ?_
    have h := h.2
    refine x_iadd rfl ?_
    refine x_iconst (v := (1 : Int32)) rfl rfl ?_
    refine x_isub rfl ?_
    refine x_aload_n rfl rfl ?_
    refine x_gR lf_M_53 k0 rfl rfl ?_
    refine x_iload rfl rfl ?_
    refine x_iald (ck_13_34 k0) (xlt (ck_13_34 k0) (by decide)) h.1 rfl ?_
    have h := h.2
    refine x_idiv rfl h.1 ?_
    have h := h.2
    refine x_aload_n rfl rfl ?_
    refine x_gR lf_M_53 k0 rfl rfl ?_
    refine x_iload rfl rfl ?_
    refine x_iald (ck_13_34 k0) (xlt (ck_13_34 k0) (by decide)) h.1 rfl ?_
    have h := h.2
    refine x_imul rfl ?_
    refine x_istore (i := 5) (L1 := [(5, .int ((((x2 + (D.1 (a0 + 15) (x4 : Int32).toNatClampNeg)) - (1 : Int32)) / (D.1 (a0 + 15) (x4 : Int32).toNatClampNeg)) * (D.1 (a0 + 15) (x4 : Int32).toNatClampNeg))), (0, .ref a0), (1, .int x1), (2, .int x2), (3, .int x3), (4, .int x4)]) rfl (Nat.le_of_ble_eq_true rfl) rfl ?_
    refine x_iload_n rfl rfl ?_
    refine x_iload rfl rfl ?_
    refine x_iload_n rfl rfl ?_
    refine x_icmp_eq (tgt := 81) rfl rfl (fun c => ?_) (fun c => ?_)
    · have h := h.1 c
      refine x_iconst (v := (0 : Int32)) rfl rfl ?_
      refine x_ior rfl ?_
      refine x_istore_n (i := 3) (L1 := [(3, .int (x3 ||| (0 : Int32))), (5, .int ((((x2 + (D.1 (a0 + 15) (x4 : Int32).toNatClampNeg)) - (1 : Int32)) / (D.1 (a0 + 15) (x4 : Int32).toNatClampNeg)) * (D.1 (a0 + 15) (x4 : Int32).toNatClampNeg))), (0, .ref a0), (1, .int x1), (2, .int x2), (4, .int x4)]) rfl rfl (Nat.le_of_ble_eq_true rfl) rfl ?_
      refine x_iinc (i := 4) (v := x4 + (1 : Int32)) (L1 := [(4, .int (x4 + (1 : Int32))), (3, .int (x3 ||| (0 : Int32))), (5, .int ((((x2 + (D.1 (a0 + 15) (x4 : Int32).toNatClampNeg)) - (1 : Int32)) / (D.1 (a0 + 15) (x4 : Int32).toNatClampNeg)) * (D.1 (a0 + 15) (x4 : Int32).toNatClampNeg))), (0, .ref a0), (1, .int x1), (2, .int x2)]) rfl rfl rfl (Nat.le_of_ble_eq_true rfl) rfl ?_
      refine x_goto (tgt := 5) rfl rfl ?_
      exact xP_sub [3, 4, 5, 1, 0] rfl h
    · have h := h.2 c
      refine x_aload_n rfl rfl ?_
      refine x_iload rfl rfl ?_
      refine x_bipush (v := (6 : Int32)) rfl rfl ?_
      refine x_vi lm_M_353 vf_M_ofOne k0 rfl rfl (Nat.le_of_ble_eq_true rfl) rfl h (fun r2 D1 h => ?_)
      refine x_iconst (v := (1 : Int32)) rfl rfl ?_
      refine x_icmp_ne (tgt := 81) rfl rfl (fun c => ?_) (fun c => ?_)
      · have h := h.1 c
        refine x_iconst (v := (0 : Int32)) rfl rfl ?_
        refine x_ior rfl ?_
        refine x_istore_n (i := 3) (L1 := [(3, .int (x3 ||| (0 : Int32))), (5, .int ((((x2 + (D.1 (a0 + 15) (x4 : Int32).toNatClampNeg)) - (1 : Int32)) / (D.1 (a0 + 15) (x4 : Int32).toNatClampNeg)) * (D.1 (a0 + 15) (x4 : Int32).toNatClampNeg))), (0, .ref a0), (1, .int x1), (2, .int x2), (4, .int x4)]) rfl rfl (Nat.le_of_ble_eq_true rfl) rfl ?_
        refine x_iinc (i := 4) (v := x4 + (1 : Int32)) (L1 := [(4, .int (x4 + (1 : Int32))), (3, .int (x3 ||| (0 : Int32))), (5, .int ((((x2 + (D.1 (a0 + 15) (x4 : Int32).toNatClampNeg)) - (1 : Int32)) / (D.1 (a0 + 15) (x4 : Int32).toNatClampNeg)) * (D.1 (a0 + 15) (x4 : Int32).toNatClampNeg))), (0, .ref a0), (1, .int x1), (2, .int x2)]) rfl rfl rfl (Nat.le_of_ble_eq_true rfl) rfl ?_
        refine x_goto (tgt := 5) rfl rfl ?_
        exact xP_sub [3, 4, 5, 1, 0] rfl h
      · have h := h.2 c
        refine x_iload rfl rfl ?_
        refine x_iload_n rfl rfl ?_
        refine x_aload_n rfl rfl ?_
        refine x_iconst (v := (4 : Int32)) rfl rfl ?_
        refine x_vi lm_M_331 vf_M_of k0 rfl rfl (Nat.le_of_ble_eq_true rfl) rfl h (fun r4 D3 h => ?_)
        refine x_iadd rfl ?_
        refine x_icmp_gt (tgt := 81) rfl rfl (fun c => ?_) (fun c => ?_)
        · have h := h.1 c
          refine x_iconst (v := (0 : Int32)) rfl rfl ?_
          refine x_ior rfl ?_
          refine x_istore_n (i := 3) (L1 := [(3, .int (x3 ||| (0 : Int32))), (5, .int ((((x2 + (D.1 (a0 + 15) (x4 : Int32).toNatClampNeg)) - (1 : Int32)) / (D.1 (a0 + 15) (x4 : Int32).toNatClampNeg)) * (D.1 (a0 + 15) (x4 : Int32).toNatClampNeg))), (0, .ref a0), (1, .int x1), (2, .int x2), (4, .int x4)]) rfl rfl (Nat.le_of_ble_eq_true rfl) rfl ?_
          refine x_iinc (i := 4) (v := x4 + (1 : Int32)) (L1 := [(4, .int (x4 + (1 : Int32))), (3, .int (x3 ||| (0 : Int32))), (5, .int ((((x2 + (D.1 (a0 + 15) (x4 : Int32).toNatClampNeg)) - (1 : Int32)) / (D.1 (a0 + 15) (x4 : Int32).toNatClampNeg)) * (D.1 (a0 + 15) (x4 : Int32).toNatClampNeg))), (0, .ref a0), (1, .int x1), (2, .int x2)]) rfl rfl rfl (Nat.le_of_ble_eq_true rfl) rfl ?_
          refine x_goto (tgt := 5) rfl rfl ?_
          exact xP_sub [3, 4, 5, 1, 0] rfl h
        · have h := h.2 c
          refine x_iconst (v := (1 : Int32)) rfl rfl ?_
          refine x_iload rfl rfl ?_
          refine x_ishl rfl ?_
          refine x_goto (tgt := 82) rfl rfl ?_
          refine x_ior rfl ?_
          refine x_istore_n (i := 3) (L1 := [(3, .int (x3 ||| ((1 : Int32) <<< (x4 &&& 31)))), (5, .int ((((x2 + (D.1 (a0 + 15) (x4 : Int32).toNatClampNeg)) - (1 : Int32)) / (D.1 (a0 + 15) (x4 : Int32).toNatClampNeg)) * (D.1 (a0 + 15) (x4 : Int32).toNatClampNeg))), (0, .ref a0), (1, .int x1), (2, .int x2), (4, .int x4)]) rfl rfl (Nat.le_of_ble_eq_true rfl) rfl ?_
          refine x_iinc (i := 4) (v := x4 + (1 : Int32)) (L1 := [(4, .int (x4 + (1 : Int32))), (3, .int (x3 ||| ((1 : Int32) <<< (x4 &&& 31)))), (5, .int ((((x2 + (D.1 (a0 + 15) (x4 : Int32).toNatClampNeg)) - (1 : Int32)) / (D.1 (a0 + 15) (x4 : Int32).toNatClampNeg)) * (D.1 (a0 + 15) (x4 : Int32).toNatClampNeg))), (0, .ref a0), (1, .int x1), (2, .int x2)]) rfl rfl rfl (Nat.le_of_ble_eq_true rfl) rfl ?_
          refine x_goto (tgt := 5) rfl rfl ?_
          exact xP_sub [3, 4, 5, 1, 0] rfl h
theorem s_M_ones_0 {d : Nat} {D : xD} {Q : Option Value → xD → Prop} {x0 : Int32}  (h : xPf (d + 1) m_M_ones 4 [(0, .int x0), (1, .int (0 : Int32)), (2, .int (0 : Int32))] [] D Q) : xPf (d + 1) m_M_ones 0 [(0, .int x0)] [] D Q := by
  refine x_iconst (v := (0 : Int32)) rfl rfl ?_
  refine x_istore_n (i := 1) (L1 := [(1, .int (0 : Int32)), (0, .int x0)]) rfl rfl (Nat.le_of_ble_eq_true rfl) rfl ?_
  refine x_iconst (v := (0 : Int32)) rfl rfl ?_
  refine x_istore_n (i := 2) (L1 := [(2, .int (0 : Int32)), (1, .int (0 : Int32)), (0, .int x0)]) rfl rfl (Nat.le_of_ble_eq_true rfl) rfl ?_
  exact xP_sub [2, 1, 0] rfl h
theorem s_M_ones_4 {d : Nat} {D : xD} {Q : Option Value → xD → Prop} {x0 : Int32} {x1 : Int32} {x2 : Int32}  (h : ((6 : Int32) ≤ x2 → Q (some (.int x1)) D) ∧ (¬ (6 : Int32) ≤ x2 → xCi d m_M_has [.int x0, .int x2] D (fun r2 D1 => (r2 = 0 → xPf (d + 1) m_M_ones 4 [(0, .int x0), (1, .int (x1 + (0 : Int32))), (2, .int (x2 + (1 : Int32)))] [] D1 Q) ∧ (¬ r2 = 0 → xPf (d + 1) m_M_ones 4 [(0, .int x0), (1, .int (x1 + (1 : Int32))), (2, .int (x2 + (1 : Int32)))] [] D1 Q)))) : xPf (d + 1) m_M_ones 4 [(0, .int x0), (1, .int x1), (2, .int x2)] [] D Q := by
  refine x_iload_n rfl rfl ?_
  refine x_bipush (v := (6 : Int32)) rfl rfl ?_
  refine x_icmp_ge (tgt := 32) rfl rfl (fun c => ?_) (fun c => ?_)
  · have h := h.1 c
    refine x_iload_n rfl rfl ?_
    exact x_iret rfl rfl h
  · have h := h.2 c
    refine x_iload_n rfl rfl ?_
    refine x_iload_n rfl rfl ?_
    refine x_iload_n rfl rfl ?_
    refine x_si lm_M_283 sf_M_has rfl rfl (Nat.le_of_ble_eq_true rfl) rfl h (fun r2 D1 h => ?_)
    refine x_if_eq (tgt := 23) rfl rfl (fun c => ?_) (fun c => ?_)
    · have h := h.1 c
      refine x_iconst (v := (0 : Int32)) rfl rfl ?_
      refine x_iadd rfl ?_
      refine x_istore_n (i := 1) (L1 := [(1, .int (x1 + (0 : Int32))), (0, .int x0), (2, .int x2)]) rfl rfl (Nat.le_of_ble_eq_true rfl) rfl ?_
      refine x_iinc (i := 2) (v := x2 + (1 : Int32)) (L1 := [(2, .int (x2 + (1 : Int32))), (1, .int (x1 + (0 : Int32))), (0, .int x0)]) rfl rfl rfl (Nat.le_of_ble_eq_true rfl) rfl ?_
      refine x_goto (tgt := 4) rfl rfl ?_
      exact xP_sub [2, 1, 0] rfl h
    · have h := h.2 c
      refine x_iconst (v := (1 : Int32)) rfl rfl ?_
      refine x_goto (tgt := 24) rfl rfl ?_
      refine x_iadd rfl ?_
      refine x_istore_n (i := 1) (L1 := [(1, .int (x1 + (1 : Int32))), (0, .int x0), (2, .int x2)]) rfl rfl (Nat.le_of_ble_eq_true rfl) rfl ?_
      refine x_iinc (i := 2) (v := x2 + (1 : Int32)) (L1 := [(2, .int (x2 + (1 : Int32))), (1, .int (x1 + (1 : Int32))), (0, .int x0)]) rfl rfl rfl (Nat.le_of_ble_eq_true rfl) rfl ?_
      refine x_goto (tgt := 4) rfl rfl ?_
      exact xP_sub [2, 1, 0] rfl h
theorem s_M_feint_0 {d : Nat} {D : xD} {Q : Option Value → xD → Prop} {a0 : Nat} {x1 : Int32} {x2 : Int32} {x3 : Int32} (k0 : xk a0 = 13) (h : ∀ D1 : xD, D1 = (xu D.1 a0 0 (0 : Int32), D.2) → xCi d m_M_hand1 [.ref a0, .int x1] D1 (fun r3 D2 => (r3 = 0 → Q (some (.int (-1 : Int32))) D2) ∧ (¬ r3 = 0 → xCi d m_M_isOne [.ref a0, .int x2] D2 (fun r5 D4 => (r5 = 0 → Q (some (.int (-1 : Int32))) D4) ∧ (¬ r5 = 0 → xCi d m_M_in [.int x3, .int (-1 : Int32), .int (59 : Int32)] D4 (fun r7 D6 => (¬ r7 = 0 → (x3 = (-1 : Int32) → xPf (d + 1) m_M_feint 51 [(0, .ref a0), (1, .int x1), (2, .int x2), (3, .int x3), (4, .int (0 : Int32)), (5, .int (1 : Int32))] [] D6 Q) ∧ (¬ x3 = (-1 : Int32) → xCi d m_M_lured [.ref a0, .int x2, .int x3] D6 (fun r9 D8 => Q (some (.int r9)) D8))) ∧ (r7 = 0 → Q (some (.int (-1 : Int32))) D6))))))) : xPf (d + 1) m_M_feint 0 [(0, .ref a0), (1, .int x1), (2, .int x2), (3, .int x3)] [] D Q := by
  refine x_aload_n rfl rfl ?_
  refine x_iconst (v := (0 : Int32)) rfl rfl ?_
  refine x_pIn lp_M_139 nf_13_0 k0 rfl rfl (fun D1 eD1 => ?_)
  have h := h D1 eD1
  refine x_aload_n rfl rfl ?_
  refine x_iload_n rfl rfl ?_
  refine x_vi lm_M_356 vf_M_hand1 k0 rfl rfl (Nat.le_of_ble_eq_true rfl) rfl h (fun r3 D2 h => ?_)
  refine x_if_eq (tgt := 31) rfl rfl (fun c => ?_) (fun c => ?_)
  · have h := h.1 c
    refine x_iconst (v := (-1 : Int32)) rfl rfl ?_
    exact x_iret rfl rfl h
  · have h := h.2 c
    refine x_aload_n rfl rfl ?_
    refine x_iload_n rfl rfl ?_
    refine x_vi lm_M_359 vf_M_isOne k0 rfl rfl (Nat.le_of_ble_eq_true rfl) rfl h (fun r5 D4 h => ?_)
    refine x_if_eq (tgt := 31) rfl rfl (fun c => ?_) (fun c => ?_)
    · have h := h.1 c
      refine x_iconst (v := (-1 : Int32)) rfl rfl ?_
      exact x_iret rfl rfl h
    · have h := h.2 c
      refine x_iload_n rfl rfl ?_
      refine x_iconst (v := (-1 : Int32)) rfl rfl ?_
      refine x_bipush (v := (59 : Int32)) rfl rfl ?_
      refine x_si lm_M_147 sf_M_in rfl rfl (Nat.le_of_ble_eq_true rfl) rfl h (fun r7 D6 h => ?_)
      refine x_if_ne (tgt := 33) rfl rfl (fun c => ?_) (fun c => ?_)
      · have h := h.1 c
        refine x_iload_n rfl rfl ?_
        refine x_iconst (v := (-1 : Int32)) rfl rfl ?_
        refine x_icmp_eq (tgt := 45) rfl rfl (fun c => ?_) (fun c => ?_)
        · have h := h.1 c
          refine x_iconst (v := (0 : Int32)) rfl rfl ?_
          refine x_istore (i := 4) (L1 := [(4, .int (0 : Int32)), (0, .ref a0), (1, .int x1), (2, .int x2), (3, .int x3)]) rfl (Nat.le_of_ble_eq_true rfl) rfl ?_
          refine x_iconst (v := (1 : Int32)) rfl rfl ?_
          refine x_istore (i := 5) (L1 := [(5, .int (1 : Int32)), (4, .int (0 : Int32)), (0, .ref a0), (1, .int x1), (2, .int x2), (3, .int x3)]) rfl (Nat.le_of_ble_eq_true rfl) rfl ?_
          exact xP_sub [2, 3, 4, 5, 1, 0] rfl h
        · have h := h.2 c
          refine x_aload_n rfl rfl ?_
          refine x_iload_n rfl rfl ?_
          refine x_iload_n rfl rfl ?_
          refine x_vi lm_M_606 vf_M_lured k0 rfl rfl (Nat.le_of_ble_eq_true rfl) rfl h (fun r9 D8 h => ?_)
          exact x_iret rfl rfl h
      · have h := h.2 c
        refine x_iconst (v := (-1 : Int32)) rfl rfl ?_
        exact x_iret rfl rfl h
theorem s_M_feint_51 {d : Nat} {D : xD} {Q : Option Value → xD → Prop} {a0 : Nat} {x1 : Int32} {x2 : Int32} {x3 : Int32} {x4 : Int32} {x5 : Int32} (k0 : xk a0 = 13) (h : ((60 : Int32) ≤ x5 → Q (some (.int x4)) D) ∧ (¬ (60 : Int32) ≤ x5 → xCi d m_M_lured [.ref a0, .int x2, .int x5] D (fun r2 D1 => xCi d m_M_ones [.int r2] D1 (fun r4 D3 => xCi d m_M_lured [.ref a0, .int x2, .int x4] D3 (fun r6 D5 => xCi d m_M_ones [.int r6] D5 (fun r8 D7 => (r4 ≤ r8 → xPf (d + 1) m_M_feint 51 [(0, .ref a0), (1, .int x1), (2, .int x2), (3, .int x3), (4, .int x4), (5, .int (x5 + (1 : Int32)))] [] D7 Q) ∧ (¬ r4 ≤ r8 → xPf (d + 1) m_M_feint 51 [(0, .ref a0), (1, .int x1), (2, .int x2), (3, .int x3), (4, .int x5), (5, .int (x5 + (1 : Int32)))] [] D7 Q))))))) : xPf (d + 1) m_M_feint 51 [(0, .ref a0), (1, .int x1), (2, .int x2), (3, .int x3), (4, .int x4), (5, .int x5)] [] D Q := by
  refine x_iload rfl rfl ?_
  refine x_bipush (v := (60 : Int32)) rfl rfl ?_
  refine x_icmp_ge (tgt := 96) rfl rfl (fun c => ?_) (fun c => ?_)
  · have h := h.1 c
    refine x_iload rfl rfl ?_
    exact x_iret rfl rfl h
  · have h := h.2 c
    refine x_aload_n rfl rfl ?_
    refine x_iload_n rfl rfl ?_
    refine x_iload rfl rfl ?_
    refine x_vi lm_M_606 vf_M_lured k0 rfl rfl (Nat.le_of_ble_eq_true rfl) rfl h (fun r2 D1 h => ?_)
    refine x_si lm_M_609 sf_M_ones rfl rfl (Nat.le_of_ble_eq_true rfl) rfl h (fun r4 D3 h => ?_)
    refine x_aload_n rfl rfl ?_
    refine x_iload_n rfl rfl ?_
    refine x_iload rfl rfl ?_
    refine x_vi lm_M_606 vf_M_lured k0 rfl rfl (Nat.le_of_ble_eq_true rfl) rfl h (fun r6 D5 h => ?_)
    refine x_si lm_M_609 sf_M_ones rfl rfl (Nat.le_of_ble_eq_true rfl) rfl h (fun r8 D7 h => ?_)
    refine x_icmp_le (tgt := 86) rfl rfl (fun c => ?_) (fun c => ?_)
    · have h := h.1 c
      refine x_iload rfl rfl ?_
      refine x_istore (i := 4) (L1 := [(4, .int x4), (0, .ref a0), (1, .int x1), (2, .int x2), (3, .int x3), (5, .int x5)]) rfl (Nat.le_of_ble_eq_true rfl) rfl ?_
      refine x_iinc (i := 5) (v := x5 + (1 : Int32)) (L1 := [(5, .int (x5 + (1 : Int32))), (4, .int x4), (0, .ref a0), (1, .int x1), (2, .int x2), (3, .int x3)]) rfl rfl rfl (Nat.le_of_ble_eq_true rfl) rfl ?_
      refine x_goto (tgt := 51) rfl rfl ?_
      exact xP_sub [2, 3, 4, 5, 1, 0] rfl h
    · have h := h.2 c
      refine x_iload rfl rfl ?_
      refine x_goto (tgt := 88) rfl rfl ?_
      refine x_istore (i := 4) (L1 := [(4, .int x5), (0, .ref a0), (1, .int x1), (2, .int x2), (3, .int x3), (5, .int x5)]) rfl (Nat.le_of_ble_eq_true rfl) rfl ?_
      refine x_iinc (i := 5) (v := x5 + (1 : Int32)) (L1 := [(5, .int (x5 + (1 : Int32))), (4, .int x5), (0, .ref a0), (1, .int x1), (2, .int x2), (3, .int x3)]) rfl rfl rfl (Nat.le_of_ble_eq_true rfl) rfl ?_
      refine x_goto (tgt := 51) rfl rfl ?_
      exact xP_sub [2, 3, 4, 5, 1, 0] rfl h
theorem s_M_frames_0 {d : Nat} {D : xD} {Q : Option Value → xD → Prop} {a0 : Nat} (k0 : xk a0 = 13) (h : vp_in ((21 : Int32) * (D.1 a0 76)) (xl (a0 + 10)) ∧ Q (some (.int (D.1 (a0 + 10) ((21 : Int32) * (D.1 a0 76) : Int32).toNatClampNeg))) D) : xPf (d + 1) m_M_frames 0 [(0, .ref a0)] [] D Q := by
  refine x_aload_n rfl rfl ?_
  refine x_gR lf_M_38 k0 rfl rfl ?_
  refine x_bipush (v := (21 : Int32)) rfl rfl ?_
  refine x_aload_n rfl rfl ?_
  refine x_gI lf_M_612 k0 rfl rfl ?_
  refine x_imul rfl ?_
  refine x_iald (ck_13_10 k0) (xlt (ck_13_10 k0) (by decide)) h.1 rfl ?_
  have h := h.2
  exact x_iret rfl rfl h
theorem s_M_frameOf_0 {d : Nat} {D : xD} {Q : Option Value → xD → Prop} {a0 : Nat} {x1 : Int32} {x2 : Int32} (k0 : xk a0 = 13) (h : vp_in (((((21 : Int32) * (D.1 a0 76)) + (1 : Int32)) + ((2 : Int32) * x1)) + x2) (xl (a0 + 10)) ∧ Q (some (.int (D.1 (a0 + 10) (((((21 : Int32) * (D.1 a0 76)) + (1 : Int32)) + ((2 : Int32) * x1)) + x2 : Int32).toNatClampNeg))) D) : xPf (d + 1) m_M_frameOf 0 [(0, .ref a0), (1, .int x1), (2, .int x2)] [] D Q := by
  refine x_aload_n rfl rfl ?_
  refine x_gR lf_M_38 k0 rfl rfl ?_
  refine x_bipush (v := (21 : Int32)) rfl rfl ?_
  refine x_aload_n rfl rfl ?_
  refine x_gI lf_M_612 k0 rfl rfl ?_
  refine x_imul rfl ?_
  refine x_iconst (v := (1 : Int32)) rfl rfl ?_
  refine x_iadd rfl ?_
  refine x_iconst (v := (2 : Int32)) rfl rfl ?_
  refine x_iload_n rfl rfl ?_
  refine x_imul rfl ?_
  refine x_iadd rfl ?_
  refine x_iload_n rfl rfl ?_
  refine x_iadd rfl ?_
  refine x_iald (ck_13_10 k0) (xlt (ck_13_10 k0) (by decide)) h.1 rfl ?_
  have h := h.2
  exact x_iret rfl rfl h
theorem s_M_frame_0 {d : Nat} {D : xD} {Q : Option Value → xD → Prop} {a0 : Nat} {x1 : Int32} {x2 : Int32} {x3 : Int32} (k0 : xk a0 = 13) (h : ∀ D1 : xD, D1 = (xu D.1 a0 0 (0 : Int32), D.2) → xCi d m_M_is [.ref a0, .int (4 : Int32), .int x1] D1 (fun r3 D2 => (¬ r3 = 0 → ∀ D4 : xD, D4 = (xu D2.1 a0 76 x1, D2.2) → (¬ x2 = (-1 : Int32) → xCi d m_M_frames [.ref a0] D4 (fun r6 D5 => xCi d m_M_in [.int x2, .int (0 : Int32), .int (r6 - (1 : Int32))] D5 (fun r8 D7 => (r8 = 0 → Q (some (.int (-2 : Int32))) D7) ∧ (¬ r8 = 0 → xCi d m_M_in [.int x3, .int (0 : Int32), .int (1 : Int32)] D7 (fun r10 D9 => (r10 = 0 → Q (some (.int (-2 : Int32))) D9) ∧ (¬ r10 = 0 → xCi d m_M_frameOf [.ref a0, .int x2, .int x3] D9 (fun r12 D11 => Q (some (.int r12)) D11))))))) ∧ (x2 = (-1 : Int32) → (¬ x3 = 0 → Q (some (.int (-2 : Int32))) D4) ∧ (x3 = 0 → xCi d m_M_frames [.ref a0] D4 (fun r14 D13 => Q (some (.int r14)) D13)))) ∧ (r3 = 0 → Q (some (.int (-2 : Int32))) D2))) : xPf (d + 1) m_M_frame 0 [(0, .ref a0), (1, .int x1), (2, .int x2), (3, .int x3)] [] D Q := by
  refine x_aload_n rfl rfl ?_
  refine x_iconst (v := (0 : Int32)) rfl rfl ?_
  refine x_pIn lp_M_139 nf_13_0 k0 rfl rfl (fun D1 eD1 => ?_)
  have h := h D1 eD1
  refine x_aload_n rfl rfl ?_
  refine x_iconst (v := (4 : Int32)) rfl rfl ?_
  refine x_iload_n rfl rfl ?_
  refine x_vi lm_M_319 vf_M_is k0 rfl rfl (Nat.le_of_ble_eq_true rfl) rfl h (fun r3 D2 h => ?_)
  refine x_if_ne (tgt := 17) rfl rfl (fun c => ?_) (fun c => ?_)
  · have h := h.1 c
    refine x_aload_n rfl rfl ?_
    refine x_iload_n rfl rfl ?_
    refine x_pIn lp_M_612 nf_13_76 k0 rfl rfl (fun D4 eD4 => ?_)
    have h := h D4 eD4
    refine x_iload_n rfl rfl ?_
    refine x_iconst (v := (-1 : Int32)) rfl rfl ?_
    refine x_icmp_ne (tgt := 41) rfl rfl (fun c => ?_) (fun c => ?_)
    · have h := h.1 c
      refine x_iload_n rfl rfl ?_
      refine x_iconst (v := (0 : Int32)) rfl rfl ?_
      refine x_aload_n rfl rfl ?_
      refine x_vi lm_M_615 vf_M_frames k0 rfl rfl (Nat.le_of_ble_eq_true rfl) rfl h (fun r6 D5 h => ?_)
      refine x_iconst (v := (1 : Int32)) rfl rfl ?_
      refine x_isub rfl ?_
      refine x_si lm_M_147 sf_M_in rfl rfl (Nat.le_of_ble_eq_true rfl) rfl h (fun r8 D7 h => ?_)
      refine x_if_eq (tgt := 73) rfl rfl (fun c => ?_) (fun c => ?_)
      · have h := h.1 c
        refine x_bipush (v := (-2 : Int32)) rfl rfl ?_
        exact x_iret rfl rfl h
      · have h := h.2 c
        refine x_iload_n rfl rfl ?_
        refine x_iconst (v := (0 : Int32)) rfl rfl ?_
        refine x_iconst (v := (1 : Int32)) rfl rfl ?_
        refine x_si lm_M_147 sf_M_in rfl rfl (Nat.le_of_ble_eq_true rfl) rfl h (fun r10 D9 h => ?_)
        refine x_if_eq (tgt := 73) rfl rfl (fun c => ?_) (fun c => ?_)
        · have h := h.1 c
          refine x_bipush (v := (-2 : Int32)) rfl rfl ?_
          exact x_iret rfl rfl h
        · have h := h.2 c
          refine x_aload_n rfl rfl ?_
          refine x_iload_n rfl rfl ?_
          refine x_iload_n rfl rfl ?_
          refine x_vi lm_M_618 vf_M_frameOf k0 rfl rfl (Nat.le_of_ble_eq_true rfl) rfl h (fun r12 D11 h => ?_)
          refine x_goto (tgt := 75) rfl rfl ?_
          exact x_iret rfl rfl h
    · have h := h.2 c
      refine x_iload_n rfl rfl ?_
      refine x_if_ne (tgt := 38) rfl rfl (fun c => ?_) (fun c => ?_)
      · have h := h.1 c
        refine x_bipush (v := (-2 : Int32)) rfl rfl ?_
        exact x_iret rfl rfl h
      · have h := h.2 c
        refine x_aload_n rfl rfl ?_
        refine x_vi lm_M_615 vf_M_frames k0 rfl rfl (Nat.le_of_ble_eq_true rfl) rfl h (fun r14 D13 h => ?_)
        refine x_goto (tgt := 40) rfl rfl ?_
        exact x_iret rfl rfl h
  · have h := h.2 c
    refine x_bipush (v := (-2 : Int32)) rfl rfl ?_
    exact x_iret rfl rfl h
theorem s_M_layFilm_0 {d : Nat} {D : xD} {Q : Option Value → xD → Prop} {a0 : Nat} {x1 : Int32} {x2 : Int32} (k0 : xk a0 = 13) (h : xCi d m_M_is [.ref a0, .int (4 : Int32), .int x2] D (fun r2 D1 => (r2 = 0 → Q (some (.int (0 : Int32))) D1) ∧ (¬ r2 = 0 → xCi d m_M_hand1 [.ref a0, .int x1] D1 (fun r4 D3 => (¬ r4 = 0 → ∀ D5 : xD, D5 = (xu D3.1 a0 76 x2, D3.2) → ∀ D6 : xD, D6 = (xu D5.1 a0 79 (0 : Int32), D5.2) → xPf (d + 1) m_M_layFilm 31 [(0, .ref a0), (1, .int x1), (2, .int x2), (3, .int (0 : Int32))] [] D6 Q) ∧ (r4 = 0 → Q (some (.int (0 : Int32))) D3))))) : xPf (d + 1) m_M_layFilm 0 [(0, .ref a0), (1, .int x1), (2, .int x2)] [] D Q := by
  refine x_aload_n rfl rfl ?_
  refine x_iconst (v := (4 : Int32)) rfl rfl ?_
  refine x_iload_n rfl rfl ?_
  refine x_vi lm_M_319 vf_M_is k0 rfl rfl (Nat.le_of_ble_eq_true rfl) rfl h (fun r2 D1 h => ?_)
  refine x_if_eq (tgt := 17) rfl rfl (fun c => ?_) (fun c => ?_)
  · have h := h.1 c
    refine x_iconst (v := (0 : Int32)) rfl rfl ?_
    exact x_zr rfl (Or.inl rfl) rfl h
  · have h := h.2 c
    refine x_aload_n rfl rfl ?_
    refine x_iload_n rfl rfl ?_
    refine x_vi lm_M_356 vf_M_hand1 k0 rfl rfl (Nat.le_of_ble_eq_true rfl) rfl h (fun r4 D3 h => ?_)
    refine x_if_ne (tgt := 19) rfl rfl (fun c => ?_) (fun c => ?_)
    · have h := h.1 c
      refine x_aload_n rfl rfl ?_
      refine x_iload_n rfl rfl ?_
      refine x_pIn lp_M_612 nf_13_76 k0 rfl rfl (fun D5 eD5 => ?_)
      have h := h D5 eD5
      refine x_aload_n rfl rfl ?_
      refine x_iconst (v := (0 : Int32)) rfl rfl ?_
      refine x_pIn lp_M_621 nf_13_79 k0 rfl rfl (fun D6 eD6 => ?_)
      have h := h D6 eD6
      refine x_iconst (v := (0 : Int32)) rfl rfl ?_
      refine x_istore_n (i := 3) (L1 := [(3, .int (0 : Int32)), (0, .ref a0), (1, .int x1), (2, .int x2)]) rfl rfl (Nat.le_of_ble_eq_true rfl) rfl ?_
      exact xP_sub [1, 2, 3, 0] rfl h
    · have h := h.2 c
      refine x_iconst (v := (0 : Int32)) rfl rfl ?_
      exact x_zr rfl (Or.inl rfl) rfl h
theorem s_M_layFilm_31 {d : Nat} {D : xD} {Q : Option Value → xD → Prop} {a0 : Nat} {x1 : Int32} {x2 : Int32} {x3 : Int32} (k0 : xk a0 = 13) (h : ((D.1 a0 30) ≤ x3 → Q (some (.int (1 : Int32))) D) ∧ (¬ (D.1 a0 30) ≤ x3 → xCi d m_M_frames [.ref a0] D (fun r2 D1 => xPf (d + 1) m_M_layFilm 47 [(0, .ref a0), (1, .int x1), (2, .int x2), (3, .int x3), (4, .int (r2 - (1 : Int32)))] [] D1 Q))) : xPf (d + 1) m_M_layFilm 31 [(0, .ref a0), (1, .int x1), (2, .int x2), (3, .int x3)] [] D Q := by
  refine x_iload_n rfl rfl ?_
  refine x_aload_n rfl rfl ?_
  refine x_gI lf_M_344 k0 rfl rfl ?_
  refine x_icmp_ge (tgt := 127) rfl rfl (fun c => ?_) (fun c => ?_)
  · have h := h.1 c
    refine x_iconst (v := (1 : Int32)) rfl rfl ?_
    exact x_zr rfl (Or.inr rfl) rfl h
  · have h := h.2 c
    refine x_aload_n rfl rfl ?_
    refine x_vi lm_M_615 vf_M_frames k0 rfl rfl (Nat.le_of_ble_eq_true rfl) rfl h (fun r2 D1 h => ?_)
    refine x_iconst (v := (1 : Int32)) rfl rfl ?_
    refine x_isub rfl ?_
    refine x_istore (i := 4) (L1 := [(4, .int (r2 - (1 : Int32))), (0, .ref a0), (1, .int x1), (2, .int x2), (3, .int x3)]) rfl (Nat.le_of_ble_eq_true rfl) rfl ?_
    exact xP_sub [1, 2, 3, 4, 0] rfl h
theorem s_M_layFilm_47 {d : Nat} {D : xD} {Q : Option Value → xD → Prop} {a0 : Nat} {x1 : Int32} {x2 : Int32} {x3 : Int32} {x4 : Int32} (k0 : xk a0 = 13) (h : (x4 < 0 → xPf (d + 1) m_M_layFilm 31 [(0, .ref a0), (1, .int x1), (2, .int x2), (3, .int (x3 + (1 : Int32)))] [] D Q) ∧ (¬ x4 < 0 → xCi d m_M_frameOf [.ref a0, .int x4, .int (1 : Int32)] D (fun r2 D1 => xCi d m_M_has [.int r2, .int x3] D1 (fun r4 D3 => (r4 = 0 → xPf (d + 1) m_M_layFilm 47 [(0, .ref a0), (1, .int x1), (2, .int x2), (3, .int x3), (4, .int (x4 + (-1 : Int32)))] [] D3 Q) ∧ (¬ r4 = 0 → (¬ x4 = 0 → xCi d m_M_frameOf [.ref a0, .int (x4 - (1 : Int32)), .int (0 : Int32)] D3 (fun r6 D5 => vp_in x3 (xl (a0 + 40)) ∧ ∀ D7 : xD, D7 = (xu D5.1 (a0 + 40) (x3 : Int32).toNatClampNeg r6, D5.2) → xCi d m_M_frameOf [.ref a0, .int x4, .int (0 : Int32)] D7 (fun r9 D8 => vp_in x3 (xl (a0 + 41)) ∧ ∀ D10 : xD, D10 = (xu D8.1 (a0 + 41) (x3 : Int32).toNatClampNeg r9, D8.2) → ∀ D11 : xD, D11 = (xu D10.1 a0 79 ((D10.1 a0 79) ||| ((1 : Int32) <<< (x3 &&& 31))), D10.2) → xPf (d + 1) m_M_layFilm 47 [(0, .ref a0), (1, .int x1), (2, .int x2), (3, .int x3), (4, .int (x4 + (-1 : Int32)))] [] D11 Q))) ∧ (x4 = 0 → vp_in x3 (xl (a0 + 40)) ∧ ∀ D12 : xD, D12 = (xu D3.1 (a0 + 40) (x3 : Int32).toNatClampNeg (-1 : Int32), D3.2) → xCi d m_M_frameOf [.ref a0, .int x4, .int (0 : Int32)] D12 (fun r14 D13 => vp_in x3 (xl (a0 + 41)) ∧ ∀ D15 : xD, D15 = (xu D13.1 (a0 + 41) (x3 : Int32).toNatClampNeg r14, D13.2) → ∀ D16 : xD, D16 = (xu D15.1 a0 79 ((D15.1 a0 79) ||| ((1 : Int32) <<< (x3 &&& 31))), D15.2) → xPf (d + 1) m_M_layFilm 47 [(0, .ref a0), (1, .int x1), (2, .int x2), (3, .int x3), (4, .int (x4 + (-1 : Int32)))] [] D16 Q))))))) : xPf (d + 1) m_M_layFilm 47 [(0, .ref a0), (1, .int x1), (2, .int x2), (3, .int x3), (4, .int x4)] [] D Q := by
  refine x_iload rfl rfl ?_
  refine x_if_lt (tgt := 121) rfl rfl (fun c => ?_) (fun c => ?_)
  · have h := h.1 c
    refine x_iinc (i := 3) (v := x3 + (1 : Int32)) (L1 := [(3, .int (x3 + (1 : Int32))), (0, .ref a0), (1, .int x1), (2, .int x2), (4, .int x4)]) rfl rfl rfl (Nat.le_of_ble_eq_true rfl) rfl ?_
    refine x_goto (tgt := 31) rfl rfl ?_
    exact xP_sub [1, 2, 3, 0] rfl h
  · have h := h.2 c
    refine x_aload_n rfl rfl ?_
    refine x_iload rfl rfl ?_
    refine x_iconst (v := (1 : Int32)) rfl rfl ?_
    refine x_vi lm_M_618 vf_M_frameOf k0 rfl rfl (Nat.le_of_ble_eq_true rfl) rfl h (fun r2 D1 h => ?_)
    refine x_iload_n rfl rfl ?_
    refine x_si lm_M_283 sf_M_has rfl rfl (Nat.le_of_ble_eq_true rfl) rfl h (fun r4 D3 h => ?_)
    refine x_if_eq (tgt := 115) rfl rfl (fun c => ?_) (fun c => ?_)
    · have h := h.1 c
      refine x_iinc (i := 4) (v := x4 + (-1 : Int32)) (L1 := [(4, .int (x4 + (-1 : Int32))), (0, .ref a0), (1, .int x1), (2, .int x2), (3, .int x3)]) rfl rfl rfl (Nat.le_of_ble_eq_true rfl) rfl ?_
      refine x_goto (tgt := 47) rfl rfl ?_
      exact xP_sub [1, 2, 3, 4, 0] rfl h
    · have h := h.2 c
      refine x_aload_n rfl rfl ?_
      refine x_gR lf_M_129 k0 rfl rfl ?_
      refine x_iload_n rfl rfl ?_
      refine x_iload rfl rfl ?_
      refine x_if_ne (tgt := 80) rfl rfl (fun c => ?_) (fun c => ?_)
      · have h := h.1 c
        refine x_aload_n rfl rfl ?_
        refine x_iload rfl rfl ?_
        refine x_iconst (v := (1 : Int32)) rfl rfl ?_
        refine x_isub rfl ?_
        refine x_iconst (v := (0 : Int32)) rfl rfl ?_
        refine x_vi lm_M_618 vf_M_frameOf k0 rfl rfl (Nat.le_of_ble_eq_true rfl) rfl h (fun r6 D5 h => ?_)
        refine x_iastn (ck_13_77 k0) h.1 rfl (fun D7 eD7 => ?_)
        have h := h.2 D7 eD7
        refine x_aload_n rfl rfl ?_
        refine x_gR lf_M_132 k0 rfl rfl ?_
        refine x_iload_n rfl rfl ?_
        refine x_aload_n rfl rfl ?_
        refine x_iload rfl rfl ?_
        refine x_iconst (v := (0 : Int32)) rfl rfl ?_
        refine x_vi lm_M_618 vf_M_frameOf k0 rfl rfl (Nat.le_of_ble_eq_true rfl) rfl h (fun r9 D8 h => ?_)
        refine x_iastn (ck_13_78 k0) h.1 rfl (fun D10 eD10 => ?_)
        have h := h.2 D10 eD10
        refine x_aload_n rfl rfl ?_
        refine x_dup rfl rfl ?_
        refine x_gI lf_M_621 k0 rfl rfl ?_
        refine x_iconst (v := (1 : Int32)) rfl rfl ?_
        refine x_iload_n rfl rfl ?_
        refine x_ishl rfl ?_
        refine x_ior rfl ?_
        refine x_pIn lp_M_621 nf_13_79 k0 rfl rfl (fun D11 eD11 => ?_)
        have h := h D11 eD11
        refine x_iinc (i := 4) (v := x4 + (-1 : Int32)) (L1 := [(4, .int (x4 + (-1 : Int32))), (0, .ref a0), (1, .int x1), (2, .int x2), (3, .int x3)]) rfl rfl rfl (Nat.le_of_ble_eq_true rfl) rfl ?_
        refine x_goto (tgt := 47) rfl rfl ?_
        exact xP_sub [1, 2, 3, 4, 0] rfl h
      · have h := h.2 c
        refine x_iconst (v := (-1 : Int32)) rfl rfl ?_
        refine x_goto (tgt := 89) rfl rfl ?_
        refine x_iastn (ck_13_77 k0) h.1 rfl (fun D12 eD12 => ?_)
        have h := h.2 D12 eD12
        refine x_aload_n rfl rfl ?_
        refine x_gR lf_M_132 k0 rfl rfl ?_
        refine x_iload_n rfl rfl ?_
        refine x_aload_n rfl rfl ?_
        refine x_iload rfl rfl ?_
        refine x_iconst (v := (0 : Int32)) rfl rfl ?_
        refine x_vi lm_M_618 vf_M_frameOf k0 rfl rfl (Nat.le_of_ble_eq_true rfl) rfl h (fun r14 D13 h => ?_)
        refine x_iastn (ck_13_78 k0) h.1 rfl (fun D15 eD15 => ?_)
        have h := h.2 D15 eD15
        refine x_aload_n rfl rfl ?_
        refine x_dup rfl rfl ?_
        refine x_gI lf_M_621 k0 rfl rfl ?_
        refine x_iconst (v := (1 : Int32)) rfl rfl ?_
        refine x_iload_n rfl rfl ?_
        refine x_ishl rfl ?_
        refine x_ior rfl ?_
        refine x_pIn lp_M_621 nf_13_79 k0 rfl rfl (fun D16 eD16 => ?_)
        have h := h D16 eD16
        refine x_iinc (i := 4) (v := x4 + (-1 : Int32)) (L1 := [(4, .int (x4 + (-1 : Int32))), (0, .ref a0), (1, .int x1), (2, .int x2), (3, .int x3)]) rfl rfl rfl (Nat.le_of_ble_eq_true rfl) rfl ?_
        refine x_goto (tgt := 47) rfl rfl ?_
        exact xP_sub [1, 2, 3, 4, 0] rfl h
theorem s_M_lies_0 {d : Nat} {D : xD} {Q : Option Value → xD → Prop} {a0 : Nat} (k0 : xk a0 = 13) (h : xPf (d + 1) m_M_lies 4 [(0, .ref a0), (1, .int (0 : Int32)), (2, .int (1 : Int32))] [] D Q) : xPf (d + 1) m_M_lies 0 [(0, .ref a0)] [] D Q := by
  refine x_iconst (v := (0 : Int32)) rfl rfl ?_
  refine x_istore_n (i := 1) (L1 := [(1, .int (0 : Int32)), (0, .ref a0)]) rfl rfl (Nat.le_of_ble_eq_true rfl) rfl ?_
  refine x_iconst (v := (1 : Int32)) rfl rfl ?_
  refine x_istore_n (i := 2) (L1 := [(2, .int (1 : Int32)), (1, .int (0 : Int32)), (0, .ref a0)]) rfl rfl (Nat.le_of_ble_eq_true rfl) rfl ?_
  exact xP_sub [2, 1, 0] rfl h
theorem s_M_lies_4 {d : Nat} {D : xD} {Q : Option Value → xD → Prop} {a0 : Nat} {x1 : Int32} {x2 : Int32} (k0 : xk a0 = 13) (h : xCi d m_M_frames [.ref a0] D (fun r2 D1 => (r2 ≤ x2 → Q (some (.int x1)) D1) ∧ (¬ r2 ≤ x2 → xCi d m_M_frameOf [.ref a0, .int (x2 - (1 : Int32)), .int (1 : Int32)] D1 (fun r4 D3 => xCi d m_M_frameOf [.ref a0, .int x2, .int (1 : Int32)] D3 (fun r6 D5 => ((r4 &&& (r6 ^^^ (-1 : Int32))) = 0 → xPf (d + 1) m_M_lies 4 [(0, .ref a0), (1, .int (x1 ||| (0 : Int32))), (2, .int (x2 + (1 : Int32)))] [] D5 Q) ∧ (¬ (r4 &&& (r6 ^^^ (-1 : Int32))) = 0 → xPf (d + 1) m_M_lies 4 [(0, .ref a0), (1, .int (x1 ||| ((1 : Int32) <<< (x2 &&& 31)))), (2, .int (x2 + (1 : Int32)))] [] D5 Q)))))) : xPf (d + 1) m_M_lies 4 [(0, .ref a0), (1, .int x1), (2, .int x2)] [] D Q := by
  refine x_iload_n rfl rfl ?_
  refine x_aload_n rfl rfl ?_
  refine x_vi lm_M_615 vf_M_frames k0 rfl rfl (Nat.le_of_ble_eq_true rfl) rfl h (fun r2 D1 h => ?_)
  refine x_icmp_ge (tgt := 48) rfl rfl (fun c => ?_) (fun c => ?_)
  · have h := h.1 c
    refine x_iload_n rfl rfl ?_
    exact x_iret rfl rfl h
  · have h := h.2 c
    refine x_iload_n rfl rfl ?_
    refine x_aload_n rfl rfl ?_
    refine x_iload_n rfl rfl ?_
    refine x_iconst (v := (1 : Int32)) rfl rfl ?_
    refine x_isub rfl ?_
    refine x_iconst (v := (1 : Int32)) rfl rfl ?_
    refine x_vi lm_M_618 vf_M_frameOf k0 rfl rfl (Nat.le_of_ble_eq_true rfl) rfl h (fun r4 D3 h => ?_)
    refine x_aload_n rfl rfl ?_
    refine x_iload_n rfl rfl ?_
    refine x_iconst (v := (1 : Int32)) rfl rfl ?_
    refine x_vi lm_M_618 vf_M_frameOf k0 rfl rfl (Nat.le_of_ble_eq_true rfl) rfl h (fun r6 D5 h => ?_)
    refine x_iconst (v := (-1 : Int32)) rfl rfl ?_
    refine x_ixor rfl ?_
    refine x_iand rfl ?_
    refine x_if_eq (tgt := 39) rfl rfl (fun c => ?_) (fun c => ?_)
    · have h := h.1 c
      refine x_iconst (v := (0 : Int32)) rfl rfl ?_
      refine x_ior rfl ?_
      refine x_istore_n (i := 1) (L1 := [(1, .int (x1 ||| (0 : Int32))), (0, .ref a0), (2, .int x2)]) rfl rfl (Nat.le_of_ble_eq_true rfl) rfl ?_
      refine x_iinc (i := 2) (v := x2 + (1 : Int32)) (L1 := [(2, .int (x2 + (1 : Int32))), (1, .int (x1 ||| (0 : Int32))), (0, .ref a0)]) rfl rfl rfl (Nat.le_of_ble_eq_true rfl) rfl ?_
      refine x_goto (tgt := 4) rfl rfl ?_
      exact xP_sub [2, 1, 0] rfl h
    · have h := h.2 c
      refine x_iconst (v := (1 : Int32)) rfl rfl ?_
      refine x_iload_n rfl rfl ?_
      refine x_ishl rfl ?_
      refine x_goto (tgt := 40) rfl rfl ?_
      refine x_ior rfl ?_
      refine x_istore_n (i := 1) (L1 := [(1, .int (x1 ||| ((1 : Int32) <<< (x2 &&& 31)))), (0, .ref a0), (2, .int x2)]) rfl rfl (Nat.le_of_ble_eq_true rfl) rfl ?_
      refine x_iinc (i := 2) (v := x2 + (1 : Int32)) (L1 := [(2, .int (x2 + (1 : Int32))), (1, .int (x1 ||| ((1 : Int32) <<< (x2 &&& 31)))), (0, .ref a0)]) rfl rfl rfl (Nat.le_of_ble_eq_true rfl) rfl ?_
      refine x_goto (tgt := 4) rfl rfl ?_
      exact xP_sub [2, 1, 0] rfl h
theorem s_M_sure_0 {d : Nat} {D : xD} {Q : Option Value → xD → Prop} {a0 : Nat} (k0 : xk a0 = 13) (h : xPf (d + 1) m_M_sure 2 [(0, .ref a0), (1, .int (0 : Int32))] [] D Q) : xPf (d + 1) m_M_sure 0 [(0, .ref a0)] [] D Q := by
  refine x_iconst (v := (0 : Int32)) rfl rfl ?_
  refine x_istore_n (i := 1) (L1 := [(1, .int (0 : Int32)), (0, .ref a0)]) rfl rfl (Nat.le_of_ble_eq_true rfl) rfl ?_
  exact xP_sub [1, 0] rfl h
theorem s_M_sure_2 {d : Nat} {D : xD} {Q : Option Value → xD → Prop} {a0 : Nat} {x1 : Int32} (k0 : xk a0 = 13) (h : ((D.1 a0 30) ≤ x1 → Q (some (.int (-1 : Int32))) D) ∧ (¬ (D.1 a0 30) ≤ x1 → xCi d m_M_has [.int (D.1 a0 79), .int x1] D (fun r2 D1 => xPf (d + 1) m_M_sure 21 [(0, .ref a0), (1, .int x1), (2, .int r2), (3, .int (0 : Int32))] [] D1 Q))) : xPf (d + 1) m_M_sure 2 [(0, .ref a0), (1, .int x1)] [] D Q := by
  refine x_iload_n rfl rfl ?_
  refine x_aload_n rfl rfl ?_
  refine x_gI lf_M_344 k0 rfl rfl ?_
  refine x_icmp_ge (tgt := 88) rfl rfl (fun c => ?_) (fun c => ?_)
  · have h := h.1 c
    refine x_iconst (v := (-1 : Int32)) rfl rfl ?_
    exact x_iret rfl rfl h
  · have h := h.2 c
    refine x_aload_n rfl rfl ?_
    refine x_gI lf_M_621 k0 rfl rfl ?_
    refine x_iload_n rfl rfl ?_
    refine x_si lm_M_283 sf_M_has rfl rfl (Nat.le_of_ble_eq_true rfl) rfl h (fun r2 D1 h => ?_)
    refine x_istore_n (i := 2) (L1 := [(2, .int r2), (0, .ref a0), (1, .int x1)]) rfl rfl (Nat.le_of_ble_eq_true rfl) rfl ?_
    refine x_iconst (v := (0 : Int32)) rfl rfl ?_
    refine x_istore_n (i := 3) (L1 := [(3, .int (0 : Int32)), (2, .int r2), (0, .ref a0), (1, .int x1)]) rfl rfl (Nat.le_of_ble_eq_true rfl) rfl ?_
    exact xP_sub [2, 3, 1, 0] rfl h
theorem s_M_sure_21 {d : Nat} {D : xD} {Q : Option Value → xD → Prop} {a0 : Nat} {x1 : Int32} {x2 : Int32} {x3 : Int32} (k0 : xk a0 = 13) (h : ((D.1 a0 30) ≤ x3 → (x2 = 0 → xPf (d + 1) m_M_sure 2 [(0, .ref a0), (1, .int (x1 + (1 : Int32)))] [] D Q) ∧ (¬ x2 = 0 → Q (some (.int x1)) D)) ∧ (¬ (D.1 a0 30) ≤ x3 → (x2 = 0 → xPf (d + 1) m_M_sure 21 [(0, .ref a0), (1, .int x1), (2, .int (0 : Int32)), (3, .int (x3 + (1 : Int32)))] [] D Q) ∧ (¬ x2 = 0 → (x3 = x1 → xPf (d + 1) m_M_sure 21 [(0, .ref a0), (1, .int x1), (2, .int (1 : Int32)), (3, .int (x3 + (1 : Int32)))] [] D Q) ∧ (¬ x3 = x1 → xCi d m_M_has [.int (D.1 a0 79), .int x3] D (fun r2 D1 => (r2 = 0 → xPf (d + 1) m_M_sure 21 [(0, .ref a0), (1, .int x1), (2, .int (1 : Int32)), (3, .int (x3 + (1 : Int32)))] [] D1 Q) ∧ (¬ r2 = 0 → vp_in x3 (xl (a0 + 40)) ∧ vp_in x1 (xl (a0 + 41)) ∧ ((D1.1 (a0 + 40) (x3 : Int32).toNatClampNeg) < (D1.1 (a0 + 41) (x1 : Int32).toNatClampNeg) → xPf (d + 1) m_M_sure 21 [(0, .ref a0), (1, .int x1), (2, .int (0 : Int32)), (3, .int (x3 + (1 : Int32)))] [] D1 Q) ∧ (¬ (D1.1 (a0 + 40) (x3 : Int32).toNatClampNeg) < (D1.1 (a0 + 41) (x1 : Int32).toNatClampNeg) → xPf (d + 1) m_M_sure 21 [(0, .ref a0), (1, .int x1), (2, .int (1 : Int32)), (3, .int (x3 + (1 : Int32)))] [] D1 Q))))))) : xPf (d + 1) m_M_sure 21 [(0, .ref a0), (1, .int x1), (2, .int x2), (3, .int x3)] [] D Q := by
  refine x_iload_n rfl rfl ?_
  refine x_aload_n rfl rfl ?_
  refine x_gI lf_M_344 k0 rfl rfl ?_
  refine x_icmp_ge (tgt := 76) rfl rfl (fun c => ?_) (fun c => ?_)
  · have h := h.1 c
    refine x_iload_n rfl rfl ?_
    refine x_if_eq (tgt := 82) rfl rfl (fun c => ?_) (fun c => ?_)
    · have h := h.1 c
      refine x_iinc (i := 1) (v := x1 + (1 : Int32)) (L1 := [(1, .int (x1 + (1 : Int32))), (0, .ref a0), (2, .int x2), (3, .int x3)]) rfl rfl rfl (Nat.le_of_ble_eq_true rfl) rfl ?_
      refine x_goto (tgt := 2) rfl rfl ?_
      exact xP_sub [1, 0] rfl h
    · have h := h.2 c
      refine x_iload_n rfl rfl ?_
      exact x_iret rfl rfl h
  · have h := h.2 c
    refine x_iload_n rfl rfl ?_
    refine x_if_eq (tgt := 68) rfl rfl (fun c => ?_) (fun c => ?_)
    · have h := h.1 c
      refine x_iconst (v := (0 : Int32)) rfl rfl ?_
      refine x_istore_n (i := 2) (L1 := [(2, .int (0 : Int32)), (0, .ref a0), (1, .int x1), (3, .int x3)]) rfl rfl (Nat.le_of_ble_eq_true rfl) rfl ?_
      refine x_iinc (i := 3) (v := x3 + (1 : Int32)) (L1 := [(3, .int (x3 + (1 : Int32))), (2, .int (0 : Int32)), (0, .ref a0), (1, .int x1)]) rfl rfl rfl (Nat.le_of_ble_eq_true rfl) rfl ?_
      refine x_goto (tgt := 21) rfl rfl ?_
      exact xP_sub [2, 3, 1, 0] rfl h
    · have h := h.2 c
      refine x_iload_n rfl rfl ?_
      refine x_iload_n rfl rfl ?_
      refine x_icmp_eq (tgt := 64) rfl rfl (fun c => ?_) (fun c => ?_)
      · have h := h.1 c
        refine x_iconst (v := (1 : Int32)) rfl rfl ?_
        refine x_goto (tgt := 69) rfl rfl ?_
        refine x_istore_n (i := 2) (L1 := [(2, .int (1 : Int32)), (0, .ref a0), (1, .int x1), (3, .int x3)]) rfl rfl (Nat.le_of_ble_eq_true rfl) rfl ?_
        refine x_iinc (i := 3) (v := x3 + (1 : Int32)) (L1 := [(3, .int (x3 + (1 : Int32))), (2, .int (1 : Int32)), (0, .ref a0), (1, .int x1)]) rfl rfl rfl (Nat.le_of_ble_eq_true rfl) rfl ?_
        refine x_goto (tgt := 21) rfl rfl ?_
        exact xP_sub [2, 3, 1, 0] rfl h
      · have h := h.2 c
        refine x_aload_n rfl rfl ?_
        refine x_gI lf_M_621 k0 rfl rfl ?_
        refine x_iload_n rfl rfl ?_
        refine x_si lm_M_283 sf_M_has rfl rfl (Nat.le_of_ble_eq_true rfl) rfl h (fun r2 D1 h => ?_)
        refine x_if_eq (tgt := 64) rfl rfl (fun c => ?_) (fun c => ?_)
        · have h := h.1 c
          refine x_iconst (v := (1 : Int32)) rfl rfl ?_
          refine x_goto (tgt := 69) rfl rfl ?_
          refine x_istore_n (i := 2) (L1 := [(2, .int (1 : Int32)), (0, .ref a0), (1, .int x1), (3, .int x3)]) rfl rfl (Nat.le_of_ble_eq_true rfl) rfl ?_
          refine x_iinc (i := 3) (v := x3 + (1 : Int32)) (L1 := [(3, .int (x3 + (1 : Int32))), (2, .int (1 : Int32)), (0, .ref a0), (1, .int x1)]) rfl rfl rfl (Nat.le_of_ble_eq_true rfl) rfl ?_
          refine x_goto (tgt := 21) rfl rfl ?_
          exact xP_sub [2, 3, 1, 0] rfl h
        · have h := h.2 c
          refine x_aload_n rfl rfl ?_
          refine x_gR lf_M_129 k0 rfl rfl ?_
          refine x_iload_n rfl rfl ?_
          refine x_iald (ck_13_77 k0) (xlt (ck_13_77 k0) (by decide)) h.1 rfl ?_
          have h := h.2
          refine x_aload_n rfl rfl ?_
          refine x_gR lf_M_132 k0 rfl rfl ?_
          refine x_iload_n rfl rfl ?_
          refine x_iald (ck_13_78 k0) (xlt (ck_13_78 k0) (by decide)) h.1 rfl ?_
          have h := h.2
          refine x_icmp_lt (tgt := 68) rfl rfl (fun c => ?_) (fun c => ?_)
          · have h := h.1 c
            refine x_iconst (v := (0 : Int32)) rfl rfl ?_
            refine x_istore_n (i := 2) (L1 := [(2, .int (0 : Int32)), (0, .ref a0), (1, .int x1), (3, .int x3)]) rfl rfl (Nat.le_of_ble_eq_true rfl) rfl ?_
            refine x_iinc (i := 3) (v := x3 + (1 : Int32)) (L1 := [(3, .int (x3 + (1 : Int32))), (2, .int (0 : Int32)), (0, .ref a0), (1, .int x1)]) rfl rfl rfl (Nat.le_of_ble_eq_true rfl) rfl ?_
            refine x_goto (tgt := 21) rfl rfl ?_
            exact xP_sub [2, 3, 1, 0] rfl h
          · have h := h.2 c
            refine x_iconst (v := (1 : Int32)) rfl rfl ?_
            refine x_goto (tgt := 69) rfl rfl ?_
            refine x_istore_n (i := 2) (L1 := [(2, .int (1 : Int32)), (0, .ref a0), (1, .int x1), (3, .int x3)]) rfl rfl (Nat.le_of_ble_eq_true rfl) rfl ?_
            refine x_iinc (i := 3) (v := x3 + (1 : Int32)) (L1 := [(3, .int (x3 + (1 : Int32))), (2, .int (1 : Int32)), (0, .ref a0), (1, .int x1)]) rfl rfl rfl (Nat.le_of_ble_eq_true rfl) rfl ?_
            refine x_goto (tgt := 21) rfl rfl ?_
            exact xP_sub [2, 3, 1, 0] rfl h
theorem s_M_mayBe_0 {d : Nat} {D : xD} {Q : Option Value → xD → Prop} {a0 : Nat} (k0 : xk a0 = 13) (h : xPf (d + 1) m_M_mayBe 4 [(0, .ref a0), (1, .int (0 : Int32)), (2, .int (0 : Int32))] [] D Q) : xPf (d + 1) m_M_mayBe 0 [(0, .ref a0)] [] D Q := by
  refine x_iconst (v := (0 : Int32)) rfl rfl ?_
  refine x_istore_n (i := 1) (L1 := [(1, .int (0 : Int32)), (0, .ref a0)]) rfl rfl (Nat.le_of_ble_eq_true rfl) rfl ?_
  refine x_iconst (v := (0 : Int32)) rfl rfl ?_
  refine x_istore_n (i := 2) (L1 := [(2, .int (0 : Int32)), (1, .int (0 : Int32)), (0, .ref a0)]) rfl rfl (Nat.le_of_ble_eq_true rfl) rfl ?_
  exact xP_sub [2, 1, 0] rfl h
theorem s_M_mayBe_4 {d : Nat} {D : xD} {Q : Option Value → xD → Prop} {a0 : Nat} {x1 : Int32} {x2 : Int32} (k0 : xk a0 = 13) (h : ((D.1 a0 30) ≤ x2 → Q (some (.int x1)) D) ∧ (¬ (D.1 a0 30) ≤ x2 → xCi d m_M_has [.int (D.1 a0 79), .int x2] D (fun r2 D1 => xPf (d + 1) m_M_mayBe 24 [(0, .ref a0), (1, .int x1), (2, .int x2), (3, .int r2), (4, .int (0 : Int32))] [] D1 Q))) : xPf (d + 1) m_M_mayBe 4 [(0, .ref a0), (1, .int x1), (2, .int x2)] [] D Q := by
  refine x_iload_n rfl rfl ?_
  refine x_aload_n rfl rfl ?_
  refine x_gI lf_M_344 k0 rfl rfl ?_
  refine x_icmp_ge (tgt := 97) rfl rfl (fun c => ?_) (fun c => ?_)
  · have h := h.1 c
    refine x_iload_n rfl rfl ?_
    exact x_iret rfl rfl h
  · have h := h.2 c
    refine x_aload_n rfl rfl ?_
    refine x_gI lf_M_621 k0 rfl rfl ?_
    refine x_iload_n rfl rfl ?_
    refine x_si lm_M_283 sf_M_has rfl rfl (Nat.le_of_ble_eq_true rfl) rfl h (fun r2 D1 h => ?_)
    refine x_istore_n (i := 3) (L1 := [(3, .int r2), (0, .ref a0), (1, .int x1), (2, .int x2)]) rfl rfl (Nat.le_of_ble_eq_true rfl) rfl ?_
    refine x_iconst (v := (0 : Int32)) rfl rfl ?_
    refine x_istore (i := 4) (L1 := [(4, .int (0 : Int32)), (3, .int r2), (0, .ref a0), (1, .int x1), (2, .int x2)]) rfl (Nat.le_of_ble_eq_true rfl) rfl ?_
    exact xP_sub [2, 3, 4, 1, 0] rfl h
theorem s_M_mayBe_24 {d : Nat} {D : xD} {Q : Option Value → xD → Prop} {a0 : Nat} {x1 : Int32} {x2 : Int32} {x3 : Int32} {x4 : Int32} (k0 : xk a0 = 13) (h : ((D.1 a0 30) ≤ x4 → (x3 = 0 → xPf (d + 1) m_M_mayBe 4 [(0, .ref a0), (1, .int (x1 ||| (0 : Int32))), (2, .int (x2 + (1 : Int32)))] [] D Q) ∧ (¬ x3 = 0 → xPf (d + 1) m_M_mayBe 4 [(0, .ref a0), (1, .int (x1 ||| ((1 : Int32) <<< (x2 &&& 31)))), (2, .int (x2 + (1 : Int32)))] [] D Q)) ∧ (¬ (D.1 a0 30) ≤ x4 → (x3 = 0 → xPf (d + 1) m_M_mayBe 24 [(0, .ref a0), (1, .int x1), (2, .int x2), (3, .int (0 : Int32)), (4, .int (x4 + (1 : Int32)))] [] D Q) ∧ (¬ x3 = 0 → xCi d m_M_has [.int (D.1 a0 79), .int x4] D (fun r2 D1 => (r2 = 0 → xPf (d + 1) m_M_mayBe 24 [(0, .ref a0), (1, .int x1), (2, .int x2), (3, .int (1 : Int32)), (4, .int (x4 + (1 : Int32)))] [] D1 Q) ∧ (¬ r2 = 0 → vp_in x4 (xl (a0 + 41)) ∧ vp_in x2 (xl (a0 + 40)) ∧ ((D1.1 (a0 + 41) (x4 : Int32).toNatClampNeg) ≤ (D1.1 (a0 + 40) (x2 : Int32).toNatClampNeg) → xPf (d + 1) m_M_mayBe 24 [(0, .ref a0), (1, .int x1), (2, .int x2), (3, .int (0 : Int32)), (4, .int (x4 + (1 : Int32)))] [] D1 Q) ∧ (¬ (D1.1 (a0 + 41) (x4 : Int32).toNatClampNeg) ≤ (D1.1 (a0 + 40) (x2 : Int32).toNatClampNeg) → xPf (d + 1) m_M_mayBe 24 [(0, .ref a0), (1, .int x1), (2, .int x2), (3, .int (1 : Int32)), (4, .int (x4 + (1 : Int32)))] [] D1 Q)))))) : xPf (d + 1) m_M_mayBe 24 [(0, .ref a0), (1, .int x1), (2, .int x2), (3, .int x3), (4, .int x4)] [] D Q := by
  refine x_iload rfl rfl ?_
  refine x_aload_n rfl rfl ?_
  refine x_gI lf_M_344 k0 rfl rfl ?_
  refine x_icmp_ge (tgt := 77) rfl rfl (fun c => ?_) (fun c => ?_)
  · have h := h.1 c
    refine x_iload_n rfl rfl ?_
    refine x_iload_n rfl rfl ?_
    refine x_if_eq (tgt := 88) rfl rfl (fun c => ?_) (fun c => ?_)
    · have h := h.1 c
      refine x_iconst (v := (0 : Int32)) rfl rfl ?_
      refine x_ior rfl ?_
      refine x_istore_n (i := 1) (L1 := [(1, .int (x1 ||| (0 : Int32))), (0, .ref a0), (2, .int x2), (3, .int x3), (4, .int x4)]) rfl rfl (Nat.le_of_ble_eq_true rfl) rfl ?_
      refine x_iinc (i := 2) (v := x2 + (1 : Int32)) (L1 := [(2, .int (x2 + (1 : Int32))), (1, .int (x1 ||| (0 : Int32))), (0, .ref a0), (3, .int x3), (4, .int x4)]) rfl rfl rfl (Nat.le_of_ble_eq_true rfl) rfl ?_
      refine x_goto (tgt := 4) rfl rfl ?_
      exact xP_sub [2, 1, 0] rfl h
    · have h := h.2 c
      refine x_iconst (v := (1 : Int32)) rfl rfl ?_
      refine x_iload_n rfl rfl ?_
      refine x_ishl rfl ?_
      refine x_goto (tgt := 89) rfl rfl ?_
      refine x_ior rfl ?_
      refine x_istore_n (i := 1) (L1 := [(1, .int (x1 ||| ((1 : Int32) <<< (x2 &&& 31)))), (0, .ref a0), (2, .int x2), (3, .int x3), (4, .int x4)]) rfl rfl (Nat.le_of_ble_eq_true rfl) rfl ?_
      refine x_iinc (i := 2) (v := x2 + (1 : Int32)) (L1 := [(2, .int (x2 + (1 : Int32))), (1, .int (x1 ||| ((1 : Int32) <<< (x2 &&& 31)))), (0, .ref a0), (3, .int x3), (4, .int x4)]) rfl rfl rfl (Nat.le_of_ble_eq_true rfl) rfl ?_
      refine x_goto (tgt := 4) rfl rfl ?_
      exact xP_sub [2, 1, 0] rfl h
  · have h := h.2 c
    refine x_iload_n rfl rfl ?_
    refine x_if_eq (tgt := 69) rfl rfl (fun c => ?_) (fun c => ?_)
    · have h := h.1 c
      refine x_iconst (v := (0 : Int32)) rfl rfl ?_
      refine x_istore_n (i := 3) (L1 := [(3, .int (0 : Int32)), (0, .ref a0), (1, .int x1), (2, .int x2), (4, .int x4)]) rfl rfl (Nat.le_of_ble_eq_true rfl) rfl ?_
      refine x_iinc (i := 4) (v := x4 + (1 : Int32)) (L1 := [(4, .int (x4 + (1 : Int32))), (3, .int (0 : Int32)), (0, .ref a0), (1, .int x1), (2, .int x2)]) rfl rfl rfl (Nat.le_of_ble_eq_true rfl) rfl ?_
      refine x_goto (tgt := 24) rfl rfl ?_
      exact xP_sub [2, 3, 4, 1, 0] rfl h
    · have h := h.2 c
      refine x_aload_n rfl rfl ?_
      refine x_gI lf_M_621 k0 rfl rfl ?_
      refine x_iload rfl rfl ?_
      refine x_si lm_M_283 sf_M_has rfl rfl (Nat.le_of_ble_eq_true rfl) rfl h (fun r2 D1 h => ?_)
      refine x_if_eq (tgt := 65) rfl rfl (fun c => ?_) (fun c => ?_)
      · have h := h.1 c
        refine x_iconst (v := (1 : Int32)) rfl rfl ?_
        refine x_goto (tgt := 70) rfl rfl ?_
        refine x_istore_n (i := 3) (L1 := [(3, .int (1 : Int32)), (0, .ref a0), (1, .int x1), (2, .int x2), (4, .int x4)]) rfl rfl (Nat.le_of_ble_eq_true rfl) rfl ?_
        refine x_iinc (i := 4) (v := x4 + (1 : Int32)) (L1 := [(4, .int (x4 + (1 : Int32))), (3, .int (1 : Int32)), (0, .ref a0), (1, .int x1), (2, .int x2)]) rfl rfl rfl (Nat.le_of_ble_eq_true rfl) rfl ?_
        refine x_goto (tgt := 24) rfl rfl ?_
        exact xP_sub [2, 3, 4, 1, 0] rfl h
      · have h := h.2 c
        refine x_aload_n rfl rfl ?_
        refine x_gR lf_M_132 k0 rfl rfl ?_
        refine x_iload rfl rfl ?_
        refine x_iald (ck_13_78 k0) (xlt (ck_13_78 k0) (by decide)) h.1 rfl ?_
        have h := h.2
        refine x_aload_n rfl rfl ?_
        refine x_gR lf_M_129 k0 rfl rfl ?_
        refine x_iload_n rfl rfl ?_
        refine x_iald (ck_13_77 k0) (xlt (ck_13_77 k0) (by decide)) h.1 rfl ?_
        have h := h.2
        refine x_icmp_le (tgt := 69) rfl rfl (fun c => ?_) (fun c => ?_)
        · have h := h.1 c
          refine x_iconst (v := (0 : Int32)) rfl rfl ?_
          refine x_istore_n (i := 3) (L1 := [(3, .int (0 : Int32)), (0, .ref a0), (1, .int x1), (2, .int x2), (4, .int x4)]) rfl rfl (Nat.le_of_ble_eq_true rfl) rfl ?_
          refine x_iinc (i := 4) (v := x4 + (1 : Int32)) (L1 := [(4, .int (x4 + (1 : Int32))), (3, .int (0 : Int32)), (0, .ref a0), (1, .int x1), (2, .int x2)]) rfl rfl rfl (Nat.le_of_ble_eq_true rfl) rfl ?_
          refine x_goto (tgt := 24) rfl rfl ?_
          exact xP_sub [2, 3, 4, 1, 0] rfl h
        · have h := h.2 c
          refine x_iconst (v := (1 : Int32)) rfl rfl ?_
          refine x_goto (tgt := 70) rfl rfl ?_
          refine x_istore_n (i := 3) (L1 := [(3, .int (1 : Int32)), (0, .ref a0), (1, .int x1), (2, .int x2), (4, .int x4)]) rfl rfl (Nat.le_of_ble_eq_true rfl) rfl ?_
          refine x_iinc (i := 4) (v := x4 + (1 : Int32)) (L1 := [(4, .int (x4 + (1 : Int32))), (3, .int (1 : Int32)), (0, .ref a0), (1, .int x1), (2, .int x2)]) rfl rfl rfl (Nat.le_of_ble_eq_true rfl) rfl ?_
          refine x_goto (tgt := 24) rfl rfl ?_
          exact xP_sub [2, 3, 4, 1, 0] rfl h
theorem s_M_shortFrames_0 {d : Nat} {D : xD} {Q : Option Value → xD → Prop} {a0 : Nat} (k0 : xk a0 = 13) (h : xPf (d + 1) m_M_shortFrames 4 [(0, .ref a0), (1, .int (0 : Int32)), (2, .int (0 : Int32))] [] D Q) : xPf (d + 1) m_M_shortFrames 0 [(0, .ref a0)] [] D Q := by
  refine x_iconst (v := (0 : Int32)) rfl rfl ?_
  refine x_istore_n (i := 1) (L1 := [(1, .int (0 : Int32)), (0, .ref a0)]) rfl rfl (Nat.le_of_ble_eq_true rfl) rfl ?_
  refine x_iconst (v := (0 : Int32)) rfl rfl ?_
  refine x_istore_n (i := 2) (L1 := [(2, .int (0 : Int32)), (1, .int (0 : Int32)), (0, .ref a0)]) rfl rfl (Nat.le_of_ble_eq_true rfl) rfl ?_
  exact xP_sub [2, 1, 0] rfl h
theorem s_M_shortFrames_4 {d : Nat} {D : xD} {Q : Option Value → xD → Prop} {a0 : Nat} {x1 : Int32} {x2 : Int32} (k0 : xk a0 = 13) (h : xCi d m_M_frames [.ref a0] D (fun r2 D1 => (r2 ≤ x2 → Q (some (.int x1)) D1) ∧ (¬ r2 ≤ x2 → xCi d m_M_frameOf [.ref a0, .int x2, .int (1 : Int32)] D1 (fun r4 D3 => xCi d m_M_ones [.int (r4 &&& (((1 : Int32) <<< ((D3.1 a0 30) &&& 31)) - (1 : Int32)))] D3 (fun r6 D5 => (r6 ≤ ((D5.1 a0 30) - (1 : Int32)) → xPf (d + 1) m_M_shortFrames 4 [(0, .ref a0), (1, .int (x1 + (0 : Int32))), (2, .int (x2 + (1 : Int32)))] [] D5 Q) ∧ (¬ r6 ≤ ((D5.1 a0 30) - (1 : Int32)) → xPf (d + 1) m_M_shortFrames 4 [(0, .ref a0), (1, .int (x1 + (1 : Int32))), (2, .int (x2 + (1 : Int32)))] [] D5 Q)))))) : xPf (d + 1) m_M_shortFrames 4 [(0, .ref a0), (1, .int x1), (2, .int x2)] [] D Q := by
  refine x_iload_n rfl rfl ?_
  refine x_aload_n rfl rfl ?_
  refine x_vi lm_M_615 vf_M_frames k0 rfl rfl (Nat.le_of_ble_eq_true rfl) rfl h (fun r2 D1 h => ?_)
  refine x_icmp_ge (tgt := 53) rfl rfl (fun c => ?_) (fun c => ?_)
  · have h := h.1 c
    refine x_iload_n rfl rfl ?_
    exact x_iret rfl rfl h
  · have h := h.2 c
    refine x_iload_n rfl rfl ?_
    refine x_aload_n rfl rfl ?_
    refine x_iload_n rfl rfl ?_
    refine x_iconst (v := (1 : Int32)) rfl rfl ?_
    refine x_vi lm_M_618 vf_M_frameOf k0 rfl rfl (Nat.le_of_ble_eq_true rfl) rfl h (fun r4 D3 h => ?_)
    refine x_iconst (v := (1 : Int32)) rfl rfl ?_
    refine x_aload_n rfl rfl ?_
    refine x_gI lf_M_344 k0 rfl rfl ?_
    refine x_ishl rfl ?_
    refine x_iconst (v := (1 : Int32)) rfl rfl ?_
    refine x_isub rfl ?_
    refine x_iand rfl ?_
    refine x_si lm_M_609 sf_M_ones rfl rfl (Nat.le_of_ble_eq_true rfl) rfl h (fun r6 D5 h => ?_)
    refine x_aload_n rfl rfl ?_
    refine x_gI lf_M_344 k0 rfl rfl ?_
    refine x_iconst (v := (1 : Int32)) rfl rfl ?_
    refine x_isub rfl ?_
    refine x_icmp_le (tgt := 44) rfl rfl (fun c => ?_) (fun c => ?_)
    · have h := h.1 c
      refine x_iconst (v := (0 : Int32)) rfl rfl ?_
      refine x_iadd rfl ?_
      refine x_istore_n (i := 1) (L1 := [(1, .int (x1 + (0 : Int32))), (0, .ref a0), (2, .int x2)]) rfl rfl (Nat.le_of_ble_eq_true rfl) rfl ?_
      refine x_iinc (i := 2) (v := x2 + (1 : Int32)) (L1 := [(2, .int (x2 + (1 : Int32))), (1, .int (x1 + (0 : Int32))), (0, .ref a0)]) rfl rfl rfl (Nat.le_of_ble_eq_true rfl) rfl ?_
      refine x_goto (tgt := 4) rfl rfl ?_
      exact xP_sub [2, 1, 0] rfl h
    · have h := h.2 c
      refine x_iconst (v := (1 : Int32)) rfl rfl ?_
      refine x_goto (tgt := 45) rfl rfl ?_
      refine x_iadd rfl ?_
      refine x_istore_n (i := 1) (L1 := [(1, .int (x1 + (1 : Int32))), (0, .ref a0), (2, .int x2)]) rfl rfl (Nat.le_of_ble_eq_true rfl) rfl ?_
      refine x_iinc (i := 2) (v := x2 + (1 : Int32)) (L1 := [(2, .int (x2 + (1 : Int32))), (1, .int (x1 + (1 : Int32))), (0, .ref a0)]) rfl rfl rfl (Nat.le_of_ble_eq_true rfl) rfl ?_
      refine x_goto (tgt := 4) rfl rfl ?_
      exact xP_sub [2, 1, 0] rfl h
theorem s_M_film_0 {d : Nat} {D : xD} {Q : Option Value → xD → Prop} {a0 : Nat} {x1 : Int32} {x2 : Int32} {x3 : Int32} (k0 : xk a0 = 13) (h : ∀ D1 : xD, D1 = (xu D.1 a0 0 (0 : Int32), D.2) → xCi d m_M_layFilm [.ref a0, .int x1, .int x2] D1 (fun r3 D2 => (¬ r3 = 0 → xCi d m_M_in [.int x3, .int (10 : Int32), .int ((9 : Int32) + (D2.1 a0 30))] D2 (fun r5 D4 => (r5 = 0 → xCi d m_M_in [.int x3, .int (20 : Int32), .int ((19 : Int32) + (D4.1 a0 30))] D4 (fun r7 D6 => (r7 = 0 → (¬ x3 = 0 → (¬ x3 = (1 : Int32) → (¬ x3 = (2 : Int32) → (¬ x3 = (3 : Int32) → Q (some (.int (-2 : Int32))) D6) ∧ (x3 = (3 : Int32) → xCi d m_M_shortFrames [.ref a0] D6 (fun r9 D8 => Q (some (.int r9)) D8))) ∧ (x3 = (2 : Int32) → xCi d m_M_mayBe [.ref a0] D6 (fun r11 D10 => Q (some (.int r11)) D10))) ∧ (x3 = (1 : Int32) → xCi d m_M_sure [.ref a0] D6 (fun r13 D12 => Q (some (.int r13)) D12))) ∧ (x3 = 0 → xCi d m_M_lies [.ref a0] D6 (fun r15 D14 => Q (some (.int r15)) D14))) ∧ (¬ r7 = 0 → xCi d m_M_has [.int (D6.1 a0 79), .int (x3 - (20 : Int32))] D6 (fun r17 D16 => (r17 = 0 → Q (some (.int (-2 : Int32))) D16) ∧ (¬ r17 = 0 → vp_in (x3 - (20 : Int32)) (xl (a0 + 41)) ∧ Q (some (.int (D16.1 (a0 + 41) (x3 - (20 : Int32) : Int32).toNatClampNeg))) D16))))) ∧ (¬ r5 = 0 → xCi d m_M_has [.int (D4.1 a0 79), .int (x3 - (10 : Int32))] D4 (fun r19 D18 => (r19 = 0 → Q (some (.int (-2 : Int32))) D18) ∧ (¬ r19 = 0 → vp_in (x3 - (10 : Int32)) (xl (a0 + 40)) ∧ Q (some (.int (D18.1 (a0 + 40) (x3 - (10 : Int32) : Int32).toNatClampNeg))) D18))))) ∧ (r3 = 0 → Q (some (.int (-2 : Int32))) D2))) : xPf (d + 1) m_M_film 0 [(0, .ref a0), (1, .int x1), (2, .int x2), (3, .int x3)] [] D Q := by
  refine x_aload_n rfl rfl ?_
  refine x_iconst (v := (0 : Int32)) rfl rfl ?_
  refine x_pIn lp_M_139 nf_13_0 k0 rfl rfl (fun D1 eD1 => ?_)
  have h := h D1 eD1
  refine x_aload_n rfl rfl ?_
  refine x_iload_n rfl rfl ?_
  refine x_iload_n rfl rfl ?_
  refine x_vi lm_M_624 vf_M_layFilm k0 rfl rfl (Nat.le_of_ble_eq_true rfl) rfl h (fun r3 D2 h => ?_)
  refine x_if_ne (tgt := 17) rfl rfl (fun c => ?_) (fun c => ?_)
  · have h := h.1 c
    refine x_iload_n rfl rfl ?_
    refine x_bipush (v := (10 : Int32)) rfl rfl ?_
    refine x_bipush (v := (9 : Int32)) rfl rfl ?_
    refine x_aload_n rfl rfl ?_
    refine x_gI lf_M_344 k0 rfl rfl ?_
    refine x_iadd rfl ?_
    refine x_si lm_M_147 sf_M_in rfl rfl (Nat.le_of_ble_eq_true rfl) rfl h (fun r5 D4 h => ?_)
    refine x_if_eq (tgt := 62) rfl rfl (fun c => ?_) (fun c => ?_)
    · have h := h.1 c
      refine x_iload_n rfl rfl ?_
      refine x_bipush (v := (20 : Int32)) rfl rfl ?_
      refine x_bipush (v := (19 : Int32)) rfl rfl ?_
      refine x_aload_n rfl rfl ?_
      refine x_gI lf_M_344 k0 rfl rfl ?_
      refine x_iadd rfl ?_
      refine x_si lm_M_147 sf_M_in rfl rfl (Nat.le_of_ble_eq_true rfl) rfl h (fun r7 D6 h => ?_)
      refine x_if_eq (tgt := 107) rfl rfl (fun c => ?_) (fun c => ?_)
      · have h := h.1 c
        refine x_iload_n rfl rfl ?_
        refine x_if_ne (tgt := 118) rfl rfl (fun c => ?_) (fun c => ?_)
        · have h := h.1 c
          refine x_iload_n rfl rfl ?_
          refine x_iconst (v := (1 : Int32)) rfl rfl ?_
          refine x_icmp_ne (tgt := 130) rfl rfl (fun c => ?_) (fun c => ?_)
          · have h := h.1 c
            refine x_iload_n rfl rfl ?_
            refine x_iconst (v := (2 : Int32)) rfl rfl ?_
            refine x_icmp_ne (tgt := 142) rfl rfl (fun c => ?_) (fun c => ?_)
            · have h := h.1 c
              refine x_iload_n rfl rfl ?_
              refine x_iconst (v := (3 : Int32)) rfl rfl ?_
              refine x_icmp_ne (tgt := 154) rfl rfl (fun c => ?_) (fun c => ?_)
              · have h := h.1 c
                refine x_bipush (v := (-2 : Int32)) rfl rfl ?_
                exact x_iret rfl rfl h
              · have h := h.2 c
                refine x_aload_n rfl rfl ?_
                refine x_vi lm_M_636 vf_M_shortFrames k0 rfl rfl (Nat.le_of_ble_eq_true rfl) rfl h (fun r9 D8 h => ?_)
                refine x_goto (tgt := 156) rfl rfl ?_
                exact x_iret rfl rfl h
            · have h := h.2 c
              refine x_aload_n rfl rfl ?_
              refine x_vi lm_M_633 vf_M_mayBe k0 rfl rfl (Nat.le_of_ble_eq_true rfl) rfl h (fun r11 D10 h => ?_)
              refine x_goto (tgt := 156) rfl rfl ?_
              exact x_iret rfl rfl h
          · have h := h.2 c
            refine x_aload_n rfl rfl ?_
            refine x_vi lm_M_630 vf_M_sure k0 rfl rfl (Nat.le_of_ble_eq_true rfl) rfl h (fun r13 D12 h => ?_)
            refine x_goto (tgt := 156) rfl rfl ?_
            exact x_iret rfl rfl h
        · have h := h.2 c
          refine x_aload_n rfl rfl ?_
          refine x_vi lm_M_627 vf_M_lies k0 rfl rfl (Nat.le_of_ble_eq_true rfl) rfl h (fun r15 D14 h => ?_)
          refine x_goto (tgt := 156) rfl rfl ?_
          exact x_iret rfl rfl h
      · have h := h.2 c
        refine x_aload_n rfl rfl ?_
        refine x_gI lf_M_621 k0 rfl rfl ?_
        refine x_iload_n rfl rfl ?_
        refine x_bipush (v := (20 : Int32)) rfl rfl ?_
        refine x_isub rfl ?_
        refine x_si lm_M_283 sf_M_has rfl rfl (Nat.le_of_ble_eq_true rfl) rfl h (fun r17 D16 h => ?_)
        refine x_if_eq (tgt := 104) rfl rfl (fun c => ?_) (fun c => ?_)
        · have h := h.1 c
          refine x_bipush (v := (-2 : Int32)) rfl rfl ?_
          exact x_iret rfl rfl h
        · have h := h.2 c
          refine x_aload_n rfl rfl ?_
          refine x_gR lf_M_132 k0 rfl rfl ?_
          refine x_iload_n rfl rfl ?_
          refine x_bipush (v := (20 : Int32)) rfl rfl ?_
          refine x_isub rfl ?_
          refine x_iald (ck_13_78 k0) (xlt (ck_13_78 k0) (by decide)) h.1 rfl ?_
          have h := h.2
          refine x_goto (tgt := 106) rfl rfl ?_
          exact x_iret rfl rfl h
    · have h := h.2 c
      refine x_aload_n rfl rfl ?_
      refine x_gI lf_M_621 k0 rfl rfl ?_
      refine x_iload_n rfl rfl ?_
      refine x_bipush (v := (10 : Int32)) rfl rfl ?_
      refine x_isub rfl ?_
      refine x_si lm_M_283 sf_M_has rfl rfl (Nat.le_of_ble_eq_true rfl) rfl h (fun r19 D18 h => ?_)
      refine x_if_eq (tgt := 59) rfl rfl (fun c => ?_) (fun c => ?_)
      · have h := h.1 c
        refine x_bipush (v := (-2 : Int32)) rfl rfl ?_
        exact x_iret rfl rfl h
      · have h := h.2 c
        refine x_aload_n rfl rfl ?_
        refine x_gR lf_M_129 k0 rfl rfl ?_
        refine x_iload_n rfl rfl ?_
        refine x_bipush (v := (10 : Int32)) rfl rfl ?_
        refine x_isub rfl ?_
        refine x_iald (ck_13_77 k0) (xlt (ck_13_77 k0) (by decide)) h.1 rfl ?_
        have h := h.2
        refine x_goto (tgt := 61) rfl rfl ?_
        exact x_iret rfl rfl h
  · have h := h.2 c
    refine x_bipush (v := (-2 : Int32)) rfl rfl ?_
    exact x_iret rfl rfl h
theorem s_M_pulled_0 {d : Nat} {D : xD} {Q : Option Value → xD → Prop} {a0 : Nat} {x1 : Int32} {x2 : Int32} {x3 : Int32} {x4 : Int32} (k0 : xk a0 = 13) (h : ∀ D1 : xD, D1 = (xu D.1 a0 0 (0 : Int32), D.2) → xCi d m_M_layFilm [.ref a0, .int x1, .int x2] D1 (fun r3 D2 => (r3 = 0 → Q (some (.long (-1 : Int64))) D2) ∧ (¬ r3 = 0 → xCi d m_M_isOne [.ref a0, .int x3] D2 (fun r5 D4 => (r5 = 0 → Q (some (.long (-1 : Int64))) D4) ∧ (¬ r5 = 0 → xCi d m_M_has [.int (D4.1 a0 79), .int x3] D4 (fun r7 D6 => (¬ r7 = 0 → vp_in x3 (xl (a0 + 41)) ∧ vp_in x3 (xl (a0 + 40)) ∧ xPf (d + 1) m_M_pulled 59 [(0, .ref a0), (1, .int x1), (2, .int x2), (3, .int x3), (4, .int x4), (5, .long (0 : Int64)), (7, .long (((D6.1 (a0 + 41) (x3 : Int32).toNatClampNeg) - (D6.1 (a0 + 40) (x3 : Int32).toNatClampNeg)).toInt64)), (9, .int (0 : Int32))] [] D6 Q) ∧ (r7 = 0 → Q (some (.long (-1 : Int64))) D6))))))) : xPf (d + 1) m_M_pulled 0 [(0, .ref a0), (1, .int x1), (2, .int x2), (3, .int x3), (4, .int x4)] [] D Q := by
  refine x_aload_n rfl rfl ?_
  refine x_iconst (v := (0 : Int32)) rfl rfl ?_
  refine x_pIn lp_M_139 nf_13_0 k0 rfl rfl (fun D1 eD1 => ?_)
  have h := h D1 eD1
  refine x_aload_n rfl rfl ?_
  refine x_iload_n rfl rfl ?_
  refine x_iload_n rfl rfl ?_
  refine x_vi lm_M_624 vf_M_layFilm k0 rfl rfl (Nat.le_of_ble_eq_true rfl) rfl h (fun r3 D2 h => ?_)
  refine x_if_eq (tgt := 33) rfl rfl (fun c => ?_) (fun c => ?_)
  · have h := h.1 c
    refine x_ldc2 wd_2203 rfl ?_
    exact x_lret rfl rfl h
  · have h := h.2 c
    refine x_aload_n rfl rfl ?_
    refine x_iload_n rfl rfl ?_
    refine x_vi lm_M_359 vf_M_isOne k0 rfl rfl (Nat.le_of_ble_eq_true rfl) rfl h (fun r5 D4 h => ?_)
    refine x_if_eq (tgt := 33) rfl rfl (fun c => ?_) (fun c => ?_)
    · have h := h.1 c
      refine x_ldc2 wd_2203 rfl ?_
      exact x_lret rfl rfl h
    · have h := h.2 c
      refine x_aload_n rfl rfl ?_
      refine x_gI lf_M_621 k0 rfl rfl ?_
      refine x_iload_n rfl rfl ?_
      refine x_si lm_M_283 sf_M_has rfl rfl (Nat.le_of_ble_eq_true rfl) rfl h (fun r7 D6 h => ?_)
      refine x_if_ne (tgt := 37) rfl rfl (fun c => ?_) (fun c => ?_)
      · have h := h.1 c
        refine x_lconst (v := 0) rfl rfl ?_
        refine x_lstore (i := 5) (L1 := [(5, .long (0 : Int64)), (0, .ref a0), (1, .int x1), (2, .int x2), (3, .int x3), (4, .int x4)]) rfl (Nat.le_of_ble_eq_true rfl) rfl ?_
        refine x_aload_n rfl rfl ?_
        refine x_gR lf_M_132 k0 rfl rfl ?_
        refine x_iload_n rfl rfl ?_
        refine x_iald (ck_13_78 k0) (xlt (ck_13_78 k0) (by decide)) h.1 rfl ?_
        have h := h.2
        refine x_aload_n rfl rfl ?_
        refine x_gR lf_M_129 k0 rfl rfl ?_
        refine x_iload_n rfl rfl ?_
        refine x_iald (ck_13_77 k0) (xlt (ck_13_77 k0) (by decide)) h.1 rfl ?_
        have h := h.2
        refine x_isub rfl ?_
        refine x_i2l rfl ?_
        refine x_lstore (i := 7) (L1 := [(7, .long (((D6.1 (a0 + 41) (x3 : Int32).toNatClampNeg) - (D6.1 (a0 + 40) (x3 : Int32).toNatClampNeg)).toInt64)), (5, .long (0 : Int64)), (0, .ref a0), (1, .int x1), (2, .int x2), (3, .int x3), (4, .int x4)]) rfl (Nat.le_of_ble_eq_true rfl) rfl ?_
        refine x_iconst (v := (0 : Int32)) rfl rfl ?_
        refine x_istore (i := 9) (L1 := [(9, .int (0 : Int32)), (7, .long (((D6.1 (a0 + 41) (x3 : Int32).toNatClampNeg) - (D6.1 (a0 + 40) (x3 : Int32).toNatClampNeg)).toInt64)), (5, .long (0 : Int64)), (0, .ref a0), (1, .int x1), (2, .int x2), (3, .int x3), (4, .int x4)]) rfl (Nat.le_of_ble_eq_true rfl) rfl ?_
        exact xP_sub [3, 4, 5, 6, 7, 2, 1, 0] rfl h
      · have h := h.2 c
        refine x_ldc2 wd_2203 rfl ?_
        exact x_lret rfl rfl h
theorem s_M_pulled_59 {d : Nat} {D : xD} {Q : Option Value → xD → Prop} {a0 : Nat} {x1 : Int32} {x2 : Int32} {x3 : Int32} {x4 : Int32} {x5 : Int64} {x7 : Int64} {x9 : Int32} (k0 : xk a0 = 13) (h : ((D.1 a0 30) ≤ x9 → vp_in x3 (xl (a0 + 40)) ∧ xPf (d + 1) m_M_pulled 127 [(0, .ref a0), (1, .int x1), (2, .int x2), (3, .int x3), (4, .int x4), (5, .long x5), (7, .long x7), (9, .int ((D.1 (a0 + 40) (x3 : Int32).toNatClampNeg) + (1 : Int32)))] [] D Q) ∧ (¬ (D.1 a0 30) ≤ x9 → (x9 = x3 → xPf (d + 1) m_M_pulled 59 [(0, .ref a0), (1, .int x1), (2, .int x2), (3, .int x3), (4, .int x4), (5, .long x5), (7, .long (x7 * (1 : Int64))), (9, .int (x9 + (1 : Int32)))] [] D Q) ∧ (¬ x9 = x3 → xCi d m_M_has [.int (D.1 a0 79), .int x9] D (fun r2 D1 => (r2 = 0 → xPf (d + 1) m_M_pulled 59 [(0, .ref a0), (1, .int x1), (2, .int x2), (3, .int x3), (4, .int x4), (5, .long x5), (7, .long (x7 * (1 : Int64))), (9, .int (x9 + (1 : Int32)))] [] D1 Q) ∧ (¬ r2 = 0 → vp_in x9 (xl (a0 + 41)) ∧ vp_in x9 (xl (a0 + 40)) ∧ xPf (d + 1) m_M_pulled 59 [(0, .ref a0), (1, .int x1), (2, .int x2), (3, .int x3), (4, .int x4), (5, .long x5), (7, .long (x7 * (((D1.1 (a0 + 41) (x9 : Int32).toNatClampNeg) - (D1.1 (a0 + 40) (x9 : Int32).toNatClampNeg)).toInt64))), (9, .int (x9 + (1 : Int32)))] [] D1 Q))))) : xPf (d + 1) m_M_pulled 59 [(0, .ref a0), (1, .int x1), (2, .int x2), (3, .int x3), (4, .int x4), (5, .long x5), (7, .long x7), (9, .int x9)] [] D Q := by
  refine x_iload rfl rfl ?_
  refine x_aload_n rfl rfl ?_
  refine x_gI lf_M_344 k0 rfl rfl ?_
  refine x_icmp_ge (tgt := 117) rfl rfl (fun c => ?_) (fun c => ?_)
  · have h := h.1 c
    refine x_aload_n rfl rfl ?_
    refine x_gR lf_M_129 k0 rfl rfl ?_
    refine x_iload_n rfl rfl ?_
    refine x_iald (ck_13_77 k0) (xlt (ck_13_77 k0) (by decide)) h.1 rfl ?_
    have h := h.2
    refine x_iconst (v := (1 : Int32)) rfl rfl ?_
    refine x_iadd rfl ?_
    refine x_istore (i := 9) (L1 := [(9, .int ((D.1 (a0 + 40) (x3 : Int32).toNatClampNeg) + (1 : Int32))), (0, .ref a0), (1, .int x1), (2, .int x2), (3, .int x3), (4, .int x4), (5, .long x5), (7, .long x7)]) rfl (Nat.le_of_ble_eq_true rfl) rfl ?_
    exact xP_sub [1, 2, 3, 4, 5, 6, 7, 0] rfl h
  · have h := h.2 c
    refine x_lload rfl rfl ?_
    refine x_iload rfl rfl ?_
    refine x_iload_n rfl rfl ?_
    refine x_icmp_eq (tgt := 107) rfl rfl (fun c => ?_) (fun c => ?_)
    · have h := h.1 c
      refine x_lconst (v := 1) rfl rfl ?_
      refine x_lmul rfl ?_
      refine x_lstore (i := 7) (L1 := [(7, .long (x7 * (1 : Int64))), (0, .ref a0), (1, .int x1), (2, .int x2), (3, .int x3), (4, .int x4), (5, .long x5), (9, .int x9)]) rfl (Nat.le_of_ble_eq_true rfl) rfl ?_
      refine x_iinc (i := 9) (v := x9 + (1 : Int32)) (L1 := [(9, .int (x9 + (1 : Int32))), (7, .long (x7 * (1 : Int64))), (0, .ref a0), (1, .int x1), (2, .int x2), (3, .int x3), (4, .int x4), (5, .long x5)]) rfl rfl rfl (Nat.le_of_ble_eq_true rfl) rfl ?_
      refine x_goto (tgt := 59) rfl rfl ?_
      exact xP_sub [2, 3, 4, 5, 6, 7, 1, 0] rfl h
    · have h := h.2 c
      refine x_aload_n rfl rfl ?_
      refine x_gI lf_M_621 k0 rfl rfl ?_
      refine x_iload rfl rfl ?_
      refine x_si lm_M_283 sf_M_has rfl rfl (Nat.le_of_ble_eq_true rfl) rfl h (fun r2 D1 h => ?_)
      refine x_if_eq (tgt := 107) rfl rfl (fun c => ?_) (fun c => ?_)
      · have h := h.1 c
        refine x_lconst (v := 1) rfl rfl ?_
        refine x_lmul rfl ?_
        refine x_lstore (i := 7) (L1 := [(7, .long (x7 * (1 : Int64))), (0, .ref a0), (1, .int x1), (2, .int x2), (3, .int x3), (4, .int x4), (5, .long x5), (9, .int x9)]) rfl (Nat.le_of_ble_eq_true rfl) rfl ?_
        refine x_iinc (i := 9) (v := x9 + (1 : Int32)) (L1 := [(9, .int (x9 + (1 : Int32))), (7, .long (x7 * (1 : Int64))), (0, .ref a0), (1, .int x1), (2, .int x2), (3, .int x3), (4, .int x4), (5, .long x5)]) rfl rfl rfl (Nat.le_of_ble_eq_true rfl) rfl ?_
        refine x_goto (tgt := 59) rfl rfl ?_
        exact xP_sub [2, 3, 4, 5, 6, 7, 1, 0] rfl h
      · have h := h.2 c
        refine x_aload_n rfl rfl ?_
        refine x_gR lf_M_132 k0 rfl rfl ?_
        refine x_iload rfl rfl ?_
        refine x_iald (ck_13_78 k0) (xlt (ck_13_78 k0) (by decide)) h.1 rfl ?_
        have h := h.2
        refine x_aload_n rfl rfl ?_
        refine x_gR lf_M_129 k0 rfl rfl ?_
        refine x_iload rfl rfl ?_
        refine x_iald (ck_13_77 k0) (xlt (ck_13_77 k0) (by decide)) h.1 rfl ?_
        have h := h.2
        refine x_isub rfl ?_
        refine x_i2l rfl ?_
        refine x_goto (tgt := 108) rfl rfl ?_
        refine x_lmul rfl ?_
        refine x_lstore (i := 7) (L1 := [(7, .long (x7 * (((D1.1 (a0 + 41) (x9 : Int32).toNatClampNeg) - (D1.1 (a0 + 40) (x9 : Int32).toNatClampNeg)).toInt64))), (0, .ref a0), (1, .int x1), (2, .int x2), (3, .int x3), (4, .int x4), (5, .long x5), (9, .int x9)]) rfl (Nat.le_of_ble_eq_true rfl) rfl ?_
        refine x_iinc (i := 9) (v := x9 + (1 : Int32)) (L1 := [(9, .int (x9 + (1 : Int32))), (7, .long (x7 * (((D1.1 (a0 + 41) (x9 : Int32).toNatClampNeg) - (D1.1 (a0 + 40) (x9 : Int32).toNatClampNeg)).toInt64))), (0, .ref a0), (1, .int x1), (2, .int x2), (3, .int x3), (4, .int x4), (5, .long x5)]) rfl rfl rfl (Nat.le_of_ble_eq_true rfl) rfl ?_
        refine x_goto (tgt := 59) rfl rfl ?_
        exact xP_sub [2, 3, 4, 5, 6, 7, 1, 0] rfl h
theorem s_M_pulled_127 {d : Nat} {D : xD} {Q : Option Value → xD → Prop} {a0 : Nat} {x1 : Int32} {x2 : Int32} {x3 : Int32} {x4 : Int32} {x5 : Int64} {x7 : Int64} {x9 : Int32} (k0 : xk a0 = 13) (h : vp_in x3 (xl (a0 + 41)) ∧ ((D.1 (a0 + 41) (x3 : Int32).toNatClampNeg) < x9 → xCl d m_M_least [.long x5, .long x7, .int x4] D (fun r2 D1 => Q (some (.long r2)) D1)) ∧ (¬ (D.1 (a0 + 41) (x3 : Int32).toNatClampNeg) < x9 → xPf (d + 1) m_M_pulled 144 [(0, .ref a0), (1, .int x1), (2, .int x2), (3, .int x3), (4, .int x4), (5, .long x5), (7, .long x7), (9, .int x9), (10, .long (1 : Int64)), (12, .int (0 : Int32))] [] D Q)) : xPf (d + 1) m_M_pulled 127 [(0, .ref a0), (1, .int x1), (2, .int x2), (3, .int x3), (4, .int x4), (5, .long x5), (7, .long x7), (9, .int x9)] [] D Q := by
  refine x_iload rfl rfl ?_
  refine x_aload_n rfl rfl ?_
  refine x_gR lf_M_132 k0 rfl rfl ?_
  refine x_iload_n rfl rfl ?_
  refine x_iald (ck_13_78 k0) (xlt (ck_13_78 k0) (by decide)) h.1 rfl ?_
  have h := h.2
  refine x_icmp_gt (tgt := 230) rfl rfl (fun c => ?_) (fun c => ?_)
  · have h := h.1 c
    refine x_lload rfl rfl ?_
    refine x_lload rfl rfl ?_
    refine x_iload rfl rfl ?_
    refine x_sl lm_M_581 sf_M_least rfl rfl (Nat.le_of_ble_eq_true rfl) rfl h (fun r2 D1 h => ?_)
    exact x_lret rfl rfl h
  · have h := h.2 c
    refine x_lconst (v := 1) rfl rfl ?_
    refine x_lstore (i := 10) (L1 := [(10, .long (1 : Int64)), (0, .ref a0), (1, .int x1), (2, .int x2), (3, .int x3), (4, .int x4), (5, .long x5), (7, .long x7), (9, .int x9)]) rfl (Nat.le_of_ble_eq_true rfl) rfl ?_
    refine x_iconst (v := (0 : Int32)) rfl rfl ?_
    refine x_istore (i := 12) (L1 := [(12, .int (0 : Int32)), (10, .long (1 : Int64)), (0, .ref a0), (1, .int x1), (2, .int x2), (3, .int x3), (4, .int x4), (5, .long x5), (7, .long x7), (9, .int x9)]) rfl (Nat.le_of_ble_eq_true rfl) rfl ?_
    exact xP_sub [2, 3, 4, 5, 6, 7, 8, 9, 1, 0] rfl h
theorem s_M_pulled_144 {d : Nat} {D : xD} {Q : Option Value → xD → Prop} {a0 : Nat} {x1 : Int32} {x2 : Int32} {x3 : Int32} {x4 : Int32} {x5 : Int64} {x7 : Int64} {x9 : Int32} {x10 : Int64} {x12 : Int32} (k0 : xk a0 = 13) (h : ((D.1 a0 30) ≤ x12 → xPf (d + 1) m_M_pulled 127 [(0, .ref a0), (1, .int x1), (2, .int x2), (3, .int x3), (4, .int x4), (5, .long (x5 + x10)), (7, .long x7), (9, .int (x9 + (1 : Int32)))] [] D Q) ∧ (¬ (D.1 a0 30) ≤ x12 → vp_in x12 (xl (a0 + 41)) ∧ vp_in x12 (xl (a0 + 40)) ∧ xCi d m_M_greater [.int (D.1 (a0 + 40) (x12 : Int32).toNatClampNeg), .int (x9 - (1 : Int32))] D (fun r2 D1 => (x12 = x3 → xPf (d + 1) m_M_pulled 144 [(0, .ref a0), (1, .int x1), (2, .int x2), (3, .int x3), (4, .int x4), (5, .long x5), (7, .long x7), (9, .int x9), (10, .long (x10 * (1 : Int64))), (12, .int (x12 + (1 : Int32)))] [] D1 Q) ∧ (¬ x12 = x3 → xCi d m_M_has [.int (D1.1 a0 79), .int x12] D1 (fun r4 D3 => (¬ r4 = 0 → xCi d m_M_greater [.int (0 : Int32), .int ((D.1 (a0 + 41) (x12 : Int32).toNatClampNeg) - r2)] D3 (fun r6 D5 => xPf (d + 1) m_M_pulled 144 [(0, .ref a0), (1, .int x1), (2, .int x2), (3, .int x3), (4, .int x4), (5, .long x5), (7, .long x7), (9, .int x9), (10, .long (x10 * r6.toInt64)), (12, .int (x12 + (1 : Int32)))] [] D5 Q)) ∧ (r4 = 0 → xPf (d + 1) m_M_pulled 144 [(0, .ref a0), (1, .int x1), (2, .int x2), (3, .int x3), (4, .int x4), (5, .long x5), (7, .long x7), (9, .int x9), (10, .long (x10 * (1 : Int64))), (12, .int (x12 + (1 : Int32)))] [] D3 Q)))))) : xPf (d + 1) m_M_pulled 144 [(0, .ref a0), (1, .int x1), (2, .int x2), (3, .int x3), (4, .int x4), (5, .long x5), (7, .long x7), (9, .int x9), (10, .long x10), (12, .int x12)] [] D Q := by
  refine x_iload rfl rfl ?_
  refine x_aload_n rfl rfl ?_
  refine x_gI lf_M_344 k0 rfl rfl ?_
  refine x_icmp_ge (tgt := 217) rfl rfl (fun c => ?_) (fun c => ?_)
  · have h := h.1 c
    refine x_lload rfl rfl ?_
    refine x_lload rfl rfl ?_
    refine x_ladd rfl ?_
    refine x_lstore (i := 5) (L1 := [(5, .long (x5 + x10)), (0, .ref a0), (1, .int x1), (2, .int x2), (3, .int x3), (4, .int x4), (7, .long x7), (9, .int x9), (10, .long x10), (12, .int x12)]) rfl (Nat.le_of_ble_eq_true rfl) rfl ?_
    refine x_iinc (i := 9) (v := x9 + (1 : Int32)) (L1 := [(9, .int (x9 + (1 : Int32))), (5, .long (x5 + x10)), (0, .ref a0), (1, .int x1), (2, .int x2), (3, .int x3), (4, .int x4), (7, .long x7), (10, .long x10), (12, .int x12)]) rfl rfl rfl (Nat.le_of_ble_eq_true rfl) rfl ?_
    refine x_goto (tgt := 127) rfl rfl ?_
    exact xP_sub [2, 3, 4, 5, 6, 1, 7, 0] rfl h
  · have h := h.2 c
    refine x_aload_n rfl rfl ?_
    refine x_gR lf_M_132 k0 rfl rfl ?_
    refine x_iload rfl rfl ?_
    refine x_iald (ck_13_78 k0) (xlt (ck_13_78 k0) (by decide)) h.1 rfl ?_
    have h := h.2
    refine x_aload_n rfl rfl ?_
    refine x_gR lf_M_129 k0 rfl rfl ?_
    refine x_iload rfl rfl ?_
    refine x_iald (ck_13_77 k0) (xlt (ck_13_77 k0) (by decide)) h.1 rfl ?_
    have h := h.2
    refine x_iload rfl rfl ?_
    refine x_iconst (v := (1 : Int32)) rfl rfl ?_
    refine x_isub rfl ?_
    refine x_si lm_M_211 sf_M_greater rfl rfl (Nat.le_of_ble_eq_true rfl) rfl h (fun r2 D1 h => ?_)
    refine x_isub rfl ?_
    refine x_istore (i := 13) (L1 := [(13, .int ((D.1 (a0 + 41) (x12 : Int32).toNatClampNeg) - r2)), (0, .ref a0), (1, .int x1), (2, .int x2), (3, .int x3), (4, .int x4), (5, .long x5), (7, .long x7), (9, .int x9), (10, .long x10), (12, .int x12)]) rfl (Nat.le_of_ble_eq_true rfl) rfl ?_
    refine x_lload rfl rfl ?_
    refine x_iload rfl rfl ?_
    refine x_iload_n rfl rfl ?_
    refine x_icmp_eq (tgt := 197) rfl rfl (fun c => ?_) (fun c => ?_)
    · have h := h.1 c
      refine x_lconst (v := 1) rfl rfl ?_
      refine x_goto (tgt := 208) rfl rfl ?_
      refine x_lmul rfl ?_
      refine x_lstore (i := 10) (L1 := [(10, .long (x10 * (1 : Int64))), (13, .int ((D.1 (a0 + 41) (x12 : Int32).toNatClampNeg) - r2)), (0, .ref a0), (1, .int x1), (2, .int x2), (3, .int x3), (4, .int x4), (5, .long x5), (7, .long x7), (9, .int x9), (12, .int x12)]) rfl (Nat.le_of_ble_eq_true rfl) rfl ?_
      refine x_iinc (i := 12) (v := x12 + (1 : Int32)) (L1 := [(12, .int (x12 + (1 : Int32))), (10, .long (x10 * (1 : Int64))), (13, .int ((D.1 (a0 + 41) (x12 : Int32).toNatClampNeg) - r2)), (0, .ref a0), (1, .int x1), (2, .int x2), (3, .int x3), (4, .int x4), (5, .long x5), (7, .long x7), (9, .int x9)]) rfl rfl rfl (Nat.le_of_ble_eq_true rfl) rfl ?_
      refine x_goto (tgt := 144) rfl rfl ?_
      exact xP_sub [3, 4, 5, 6, 7, 8, 9, 10, 1, 0] rfl h
    · have h := h.2 c
      refine x_aload_n rfl rfl ?_
      refine x_gI lf_M_621 k0 rfl rfl ?_
      refine x_iload rfl rfl ?_
      refine x_si lm_M_283 sf_M_has rfl rfl (Nat.le_of_ble_eq_true rfl) rfl h (fun r4 D3 h => ?_)
      refine x_if_ne (tgt := 201) rfl rfl (fun c => ?_) (fun c => ?_)
      · have h := h.1 c
        refine x_iconst (v := (0 : Int32)) rfl rfl ?_
        refine x_iload rfl rfl ?_
        refine x_si lm_M_211 sf_M_greater rfl rfl (Nat.le_of_ble_eq_true rfl) rfl h (fun r6 D5 h => ?_)
        refine x_i2l rfl ?_
        refine x_lmul rfl ?_
        refine x_lstore (i := 10) (L1 := [(10, .long (x10 * r6.toInt64)), (13, .int ((D.1 (a0 + 41) (x12 : Int32).toNatClampNeg) - r2)), (0, .ref a0), (1, .int x1), (2, .int x2), (3, .int x3), (4, .int x4), (5, .long x5), (7, .long x7), (9, .int x9), (12, .int x12)]) rfl (Nat.le_of_ble_eq_true rfl) rfl ?_
        refine x_iinc (i := 12) (v := x12 + (1 : Int32)) (L1 := [(12, .int (x12 + (1 : Int32))), (10, .long (x10 * r6.toInt64)), (13, .int ((D.1 (a0 + 41) (x12 : Int32).toNatClampNeg) - r2)), (0, .ref a0), (1, .int x1), (2, .int x2), (3, .int x3), (4, .int x4), (5, .long x5), (7, .long x7), (9, .int x9)]) rfl rfl rfl (Nat.le_of_ble_eq_true rfl) rfl ?_
        refine x_goto (tgt := 144) rfl rfl ?_
        exact xP_sub [3, 4, 5, 6, 7, 8, 9, 10, 1, 0] rfl h
      · have h := h.2 c
        refine x_lconst (v := 1) rfl rfl ?_
        refine x_goto (tgt := 208) rfl rfl ?_
        refine x_lmul rfl ?_
        refine x_lstore (i := 10) (L1 := [(10, .long (x10 * (1 : Int64))), (13, .int ((D.1 (a0 + 41) (x12 : Int32).toNatClampNeg) - r2)), (0, .ref a0), (1, .int x1), (2, .int x2), (3, .int x3), (4, .int x4), (5, .long x5), (7, .long x7), (9, .int x9), (12, .int x12)]) rfl (Nat.le_of_ble_eq_true rfl) rfl ?_
        refine x_iinc (i := 12) (v := x12 + (1 : Int32)) (L1 := [(12, .int (x12 + (1 : Int32))), (10, .long (x10 * (1 : Int64))), (13, .int ((D.1 (a0 + 41) (x12 : Int32).toNatClampNeg) - r2)), (0, .ref a0), (1, .int x1), (2, .int x2), (3, .int x3), (4, .int x4), (5, .long x5), (7, .long x7), (9, .int x9)]) rfl rfl rfl (Nat.le_of_ble_eq_true rfl) rfl ?_
        refine x_goto (tgt := 144) rfl rfl ?_
        exact xP_sub [3, 4, 5, 6, 7, 8, 9, 10, 1, 0] rfl h
theorem s_M_count_0 {d : Nat} {D : xD} {Q : Option Value → xD → Prop} {a0 : Nat} {x1 : Int32} (k0 : xk a0 = 13) (h : ∀ D1 : xD, D1 = (xu D.1 a0 0 (0 : Int32), D.2) → xCi d m_M_in [.int x1, .int (0 : Int32), .int (4 : Int32)] D1 (fun r3 D2 => (r3 = 0 → Q (some (.int (-2 : Int32))) D2) ∧ (¬ r3 = 0 → vp_in x1 (xl (a0 + 5)) ∧ Q (some (.int (D2.1 (a0 + 5) (x1 : Int32).toNatClampNeg))) D2))) : xPf (d + 1) m_M_count 0 [(0, .ref a0), (1, .int x1)] [] D Q := by
  refine x_aload_n rfl rfl ?_
  refine x_iconst (v := (0 : Int32)) rfl rfl ?_
  refine x_pIn lp_M_139 nf_13_0 k0 rfl rfl (fun D1 eD1 => ?_)
  have h := h D1 eD1
  refine x_iload_n rfl rfl ?_
  refine x_iconst (v := (0 : Int32)) rfl rfl ?_
  refine x_iconst (v := (4 : Int32)) rfl rfl ?_
  refine x_si lm_M_147 sf_M_in rfl rfl (Nat.le_of_ble_eq_true rfl) rfl h (fun r3 D2 h => ?_)
  refine x_if_eq (tgt := 23) rfl rfl (fun c => ?_) (fun c => ?_)
  · have h := h.1 c
    refine x_bipush (v := (-2 : Int32)) rfl rfl ?_
    exact x_iret rfl rfl h
  · have h := h.2 c
    refine x_aload_n rfl rfl ?_
    refine x_gR lf_M_23 k0 rfl rfl ?_
    refine x_iload_n rfl rfl ?_
    refine x_iald (ck_13_5 k0) (xlt (ck_13_5 k0) (by decide)) h.1 rfl ?_
    have h := h.2
    refine x_goto (tgt := 25) rfl rfl ?_
    exact x_iret rfl rfl h
theorem s_M_image_0 {d : Nat} {D : xD} {Q : Option Value → xD → Prop} {a0 : Nat} {x1 : Int32} (k0 : xk a0 = 13) (h : ∀ D1 : xD, D1 = (xu D.1 a0 0 (0 : Int32), D.2) → xCi d m_M_in [.int x1, .int (0 : Int32), .int (2 : Int32)] D1 (fun r3 D2 => (¬ r3 = 0 → xCv d m_M_copyAll [.ref a0, .int (0 : Int32), .int (x1 + (1 : Int32))] D2 (fun D4 => vp_in x1 (xl (a0 + 42)) ∧ ∀ D5 : xD, D5 = (xu D4.1 (a0 + 42) (x1 : Int32).toNatClampNeg (vp_nar .boolean (1 : Int32)), D4.2) → Q (some (.int (1 : Int32))) D5)) ∧ (r3 = 0 → Q (some (.int (0 : Int32))) D2))) : xPf (d + 1) m_M_image 0 [(0, .ref a0), (1, .int x1)] [] D Q := by
  refine x_aload_n rfl rfl ?_
  refine x_iconst (v := (0 : Int32)) rfl rfl ?_
  refine x_pIn lp_M_139 nf_13_0 k0 rfl rfl (fun D1 eD1 => ?_)
  have h := h D1 eD1
  refine x_iload_n rfl rfl ?_
  refine x_iconst (v := (0 : Int32)) rfl rfl ?_
  refine x_iconst (v := (2 : Int32)) rfl rfl ?_
  refine x_si lm_M_147 sf_M_in rfl rfl (Nat.le_of_ble_eq_true rfl) rfl h (fun r3 D2 h => ?_)
  refine x_if_ne (tgt := 16) rfl rfl (fun c => ?_) (fun c => ?_)
  · have h := h.1 c
    refine x_aload_n rfl rfl ?_
    refine x_iconst (v := (0 : Int32)) rfl rfl ?_
    refine x_iload_n rfl rfl ?_
    refine x_iconst (v := (1 : Int32)) rfl rfl ?_
    refine x_iadd rfl ?_
    refine x_vv lm_M_639 vf_M_copyAll k0 rfl rfl (Nat.le_of_ble_eq_true rfl) rfl h (fun D4 h => ?_)
    refine x_aload_n rfl rfl ?_
    refine x_gR lf_M_135 k0 rfl rfl ?_
    refine x_iload_n rfl rfl ?_
    refine x_iconst (v := (1 : Int32)) rfl rfl ?_
    refine x_zastn (ck_13_80 k0) h.1 rfl (fun D5 eD5 => ?_)
    have h := h.2 D5 eD5
    refine x_iconst (v := (1 : Int32)) rfl rfl ?_
    exact x_zr rfl (Or.inr rfl) rfl h
  · have h := h.2 c
    refine x_iconst (v := (0 : Int32)) rfl rfl ?_
    exact x_zr rfl (Or.inl rfl) rfl h
theorem s_M_again_0 {d : Nat} {D : xD} {Q : Option Value → xD → Prop} {a0 : Nat} {x1 : Int32} (k0 : xk a0 = 13) (h : ∀ D1 : xD, D1 = (xu D.1 a0 0 (0 : Int32), D.2) → xCi d m_M_in [.int x1, .int (0 : Int32), .int (2 : Int32)] D1 (fun r3 D2 => (r3 = 0 → Q (some (.int (0 : Int32))) D2) ∧ (¬ r3 = 0 → vp_in x1 (xl (a0 + 42)) ∧ (¬ (D2.1 (a0 + 42) (x1 : Int32).toNatClampNeg) = 0 → xCv d m_M_copyAll [.ref a0, .int (x1 + (1 : Int32)), .int (0 : Int32)] D2 (fun D4 => Q (some (.int (1 : Int32))) D4)) ∧ ((D2.1 (a0 + 42) (x1 : Int32).toNatClampNeg) = 0 → Q (some (.int (0 : Int32))) D2)))) : xPf (d + 1) m_M_again 0 [(0, .ref a0), (1, .int x1)] [] D Q := by
  refine x_aload_n rfl rfl ?_
  refine x_iconst (v := (0 : Int32)) rfl rfl ?_
  refine x_pIn lp_M_139 nf_13_0 k0 rfl rfl (fun D1 eD1 => ?_)
  have h := h D1 eD1
  refine x_iload_n rfl rfl ?_
  refine x_iconst (v := (0 : Int32)) rfl rfl ?_
  refine x_iconst (v := (2 : Int32)) rfl rfl ?_
  refine x_si lm_M_147 sf_M_in rfl rfl (Nat.le_of_ble_eq_true rfl) rfl h (fun r3 D2 h => ?_)
  refine x_if_eq (tgt := 23) rfl rfl (fun c => ?_) (fun c => ?_)
  · have h := h.1 c
    refine x_iconst (v := (0 : Int32)) rfl rfl ?_
    exact x_zr rfl (Or.inl rfl) rfl h
  · have h := h.2 c
    refine x_aload_n rfl rfl ?_
    refine x_gR lf_M_135 k0 rfl rfl ?_
    refine x_iload_n rfl rfl ?_
    refine x_zald (ck_13_80 k0) (xlt (ck_13_80 k0) (by decide)) h.1 rfl ?_
    have h := h.2
    refine x_if_ne (tgt := 25) rfl rfl (fun c => ?_) (fun c => ?_)
    · have h := h.1 c
      refine x_aload_n rfl rfl ?_
      refine x_iload_n rfl rfl ?_
      refine x_iconst (v := (1 : Int32)) rfl rfl ?_
      refine x_iadd rfl ?_
      refine x_iconst (v := (0 : Int32)) rfl rfl ?_
      refine x_vv lm_M_639 vf_M_copyAll k0 rfl rfl (Nat.le_of_ble_eq_true rfl) rfl h (fun D4 h => ?_)
      refine x_iconst (v := (1 : Int32)) rfl rfl ?_
      exact x_zr rfl (Or.inr rfl) rfl h
    · have h := h.2 c
      refine x_iconst (v := (0 : Int32)) rfl rfl ?_
      exact x_zr rfl (Or.inl rfl) rfl h
