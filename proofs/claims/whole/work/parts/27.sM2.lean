theorem s_M_spoonBy_0 {d : Nat} {D : xD} {Q : Option Value → xD → Prop} {a0 : Nat} {x1 : Int32} {x2 : Int32} {x3 : Int32} (k0 : xk a0 = 13) (h : (¬ x1 = x2 → vp_in x1 (xl (a0 + 15)) ∧ ¬ (D.1 (a0 + 15) (x1 : Int32).toNatClampNeg) = 0 ∧ vp_in x1 (xl (a0 + 15)) ∧ vp_in x1 (xl (a0 + 16)) ∧ vp_in x1 (xl (a0 + 17)) ∧ Q (some (.int (((((x3 / (D.1 (a0 + 15) (x1 : Int32).toNatClampNeg)) + (1 : Int32)) * (D.1 (a0 + 15) (x1 : Int32).toNatClampNeg)) + (D.1 (a0 + 16) (x1 : Int32).toNatClampNeg)) + (D.1 (a0 + 17) (x1 : Int32).toNatClampNeg)))) D) ∧ (x1 = x2 → vp_in x1 (xl (a0 + 16)) ∧ vp_in x1 (xl (a0 + 17)) ∧ Q (some (.int ((x3 + (D.1 (a0 + 16) (x1 : Int32).toNatClampNeg)) + (D.1 (a0 + 17) (x1 : Int32).toNatClampNeg)))) D)) : xPf (d + 1) m_M_spoonBy 0 [(0, .ref a0), (1, .int x1), (2, .int x2), (3, .int x3)] [] D Q := by
  refine x_iload_n rfl rfl ?_
  refine x_iload_n rfl rfl ?_
  refine x_icmp_ne (tgt := 9) rfl rfl (fun c => ?_) (fun c => ?_)
  · have h := h.1 c
    refine x_iload_n rfl rfl ?_
    refine x_aload_n rfl rfl ?_
    refine x_gR lf_M_53 k0 rfl rfl ?_
    refine x_iload_n rfl rfl ?_
    refine x_iald (ck_13_34 k0) (xlt (ck_13_34 k0) (by decide)) h.1 rfl ?_
    have h := h.2
    refine x_idiv rfl h.1 ?_
    have h := h.2
    refine x_iconst (v := (1 : Int32)) rfl rfl ?_
    refine x_iadd rfl ?_
    refine x_aload_n rfl rfl ?_
    refine x_gR lf_M_53 k0 rfl rfl ?_
    refine x_iload_n rfl rfl ?_
    refine x_iald (ck_13_34 k0) (xlt (ck_13_34 k0) (by decide)) h.1 rfl ?_
    have h := h.2
    refine x_imul rfl ?_
    refine x_istore (i := 4) (L1 := [(4, .int (((x3 / (D.1 (a0 + 15) (x1 : Int32).toNatClampNeg)) + (1 : Int32)) * (D.1 (a0 + 15) (x1 : Int32).toNatClampNeg))), (0, .ref a0), (1, .int x1), (2, .int x2), (3, .int x3)]) rfl (Nat.le_of_ble_eq_true rfl) rfl ?_
    refine x_iload rfl rfl ?_
    refine x_aload_n rfl rfl ?_
    refine x_gR lf_M_56 k0 rfl rfl ?_
    refine x_iload_n rfl rfl ?_
    refine x_iald (ck_13_35 k0) (xlt (ck_13_35 k0) (by decide)) h.1 rfl ?_
    have h := h.2
    refine x_iadd rfl ?_
    refine x_aload_n rfl rfl ?_
    refine x_gR lf_M_59 k0 rfl rfl ?_
    refine x_iload_n rfl rfl ?_
    refine x_iald (ck_13_36 k0) (xlt (ck_13_36 k0) (by decide)) h.1 rfl ?_
    have h := h.2
    refine x_iadd rfl ?_
    exact x_iret rfl rfl h
  · have h := h.2 c
    refine x_iload_n rfl rfl ?_
    refine x_goto (tgt := 26) rfl rfl ?_
    refine x_istore (i := 4) (L1 := [(4, .int x3), (0, .ref a0), (1, .int x1), (2, .int x2), (3, .int x3)]) rfl (Nat.le_of_ble_eq_true rfl) rfl ?_
    refine x_iload rfl rfl ?_
    refine x_aload_n rfl rfl ?_
    refine x_gR lf_M_56 k0 rfl rfl ?_
    refine x_iload_n rfl rfl ?_
    refine x_iald (ck_13_35 k0) (xlt (ck_13_35 k0) (by decide)) h.1 rfl ?_
    have h := h.2
    refine x_iadd rfl ?_
    refine x_aload_n rfl rfl ?_
    refine x_gR lf_M_59 k0 rfl rfl ?_
    refine x_iload_n rfl rfl ?_
    refine x_iald (ck_13_36 k0) (xlt (ck_13_36 k0) (by decide)) h.1 rfl ?_
    have h := h.2
    refine x_iadd rfl ?_
    exact x_iret rfl rfl h
theorem s_M_lastBy_0 {d : Nat} {D : xD} {Q : Option Value → xD → Prop} {a0 : Nat} {x1 : Int32} {x2 : Int32} (k0 : xk a0 = 13) (h : xPf (d + 1) m_M_lastBy 5 [(0, .ref a0), (1, .int x1), (2, .int x2), (3, .int (0 : Int32)), (4, .int (1 : Int32))] [] D Q) : xPf (d + 1) m_M_lastBy 0 [(0, .ref a0), (1, .int x1), (2, .int x2)] [] D Q := by
  refine x_iconst (v := (0 : Int32)) rfl rfl ?_
  refine x_istore_n (i := 3) (L1 := [(3, .int (0 : Int32)), (0, .ref a0), (1, .int x1), (2, .int x2)]) rfl rfl (Nat.le_of_ble_eq_true rfl) rfl ?_
  refine x_iconst (v := (1 : Int32)) rfl rfl ?_
  refine x_istore (i := 4) (L1 := [(4, .int (1 : Int32)), (3, .int (0 : Int32)), (0, .ref a0), (1, .int x1), (2, .int x2)]) rfl (Nat.le_of_ble_eq_true rfl) rfl ?_
  exact xP_sub [2, 3, 4, 1, 0] rfl h
theorem s_M_lastBy_5 {d : Nat} {D : xD} {Q : Option Value → xD → Prop} {a0 : Nat} {x1 : Int32} {x2 : Int32} {x3 : Int32} {x4 : Int32} (k0 : xk a0 = 13) (h : ((D.1 a0 31) ≤ x4 → Q (some (.int x3)) D) ∧ (¬ (D.1 a0 31) ≤ x4 → xCi d m_M_spoonBy [.ref a0, .int x4, .int x1, .int x2] D (fun r2 D1 => xCi d m_M_spoonBy [.ref a0, .int x3, .int x1, .int x2] D1 (fun r4 D3 => (r2 < r4 → xPf (d + 1) m_M_lastBy 5 [(0, .ref a0), (1, .int x1), (2, .int x2), (3, .int x3), (4, .int (x4 + (1 : Int32)))] [] D3 Q) ∧ (¬ r2 < r4 → xPf (d + 1) m_M_lastBy 5 [(0, .ref a0), (1, .int x1), (2, .int x2), (3, .int x4), (4, .int (x4 + (1 : Int32)))] [] D3 Q))))) : xPf (d + 1) m_M_lastBy 5 [(0, .ref a0), (1, .int x1), (2, .int x2), (3, .int x3), (4, .int x4)] [] D Q := by
  refine x_iload rfl rfl ?_
  refine x_aload_n rfl rfl ?_
  refine x_gI lf_M_350 k0 rfl rfl ?_
  refine x_icmp_ge (tgt := 45) rfl rfl (fun c => ?_) (fun c => ?_)
  · have h := h.1 c
    refine x_iload_n rfl rfl ?_
    exact x_iret rfl rfl h
  · have h := h.2 c
    refine x_aload_n rfl rfl ?_
    refine x_iload rfl rfl ?_
    refine x_iload_n rfl rfl ?_
    refine x_iload_n rfl rfl ?_
    refine x_vi lm_M_453 vf_M_spoonBy k0 rfl rfl (Nat.le_of_ble_eq_true rfl) rfl h (fun r2 D1 h => ?_)
    refine x_aload_n rfl rfl ?_
    refine x_iload_n rfl rfl ?_
    refine x_iload_n rfl rfl ?_
    refine x_iload_n rfl rfl ?_
    refine x_vi lm_M_453 vf_M_spoonBy k0 rfl rfl (Nat.le_of_ble_eq_true rfl) rfl h (fun r4 D3 h => ?_)
    refine x_icmp_lt (tgt := 37) rfl rfl (fun c => ?_) (fun c => ?_)
    · have h := h.1 c
      refine x_iload_n rfl rfl ?_
      refine x_istore_n (i := 3) (L1 := [(3, .int x3), (0, .ref a0), (1, .int x1), (2, .int x2), (4, .int x4)]) rfl rfl (Nat.le_of_ble_eq_true rfl) rfl ?_
      refine x_iinc (i := 4) (v := x4 + (1 : Int32)) (L1 := [(4, .int (x4 + (1 : Int32))), (3, .int x3), (0, .ref a0), (1, .int x1), (2, .int x2)]) rfl rfl rfl (Nat.le_of_ble_eq_true rfl) rfl ?_
      refine x_goto (tgt := 5) rfl rfl ?_
      exact xP_sub [2, 3, 4, 1, 0] rfl h
    · have h := h.2 c
      refine x_iload rfl rfl ?_
      refine x_goto (tgt := 38) rfl rfl ?_
      refine x_istore_n (i := 3) (L1 := [(3, .int x4), (0, .ref a0), (1, .int x1), (2, .int x2), (4, .int x4)]) rfl rfl (Nat.le_of_ble_eq_true rfl) rfl ?_
      refine x_iinc (i := 4) (v := x4 + (1 : Int32)) (L1 := [(4, .int (x4 + (1 : Int32))), (3, .int x4), (0, .ref a0), (1, .int x1), (2, .int x2)]) rfl rfl rfl (Nat.le_of_ble_eq_true rfl) rfl ?_
      refine x_goto (tgt := 5) rfl rfl ?_
      exact xP_sub [2, 3, 4, 1, 0] rfl h
theorem s_M_ends_0 {d : Nat} {D : xD} {Q : Option Value → xD → Prop} {a0 : Nat} (k0 : xk a0 = 13) (h : xCv d m_M_go [.ref a0, .int (2000 : Int32)] D (fun D1 => (¬ (D1.1 a0 54) = (-1 : Int32) → xCi d m_M_lastBy [.ref a0, .int (D1.1 a0 54), .int (D1.1 a0 55)] D1 (fun r3 D2 => ∀ D4 : xD, D4 = (xu D2.1 a0 56 r3, D2.2) → xPf (d + 1) m_M_ends 37 [(0, .ref a0), (1, .int (0 : Int32))] [] D4 Q)) ∧ ((D1.1 a0 54) = (-1 : Int32) → ∀ D5 : xD, D5 = (xu D1.1 a0 56 (-1 : Int32), D1.2) → xPf (d + 1) m_M_ends 37 [(0, .ref a0), (1, .int (0 : Int32))] [] D5 Q))) : xPf (d + 1) m_M_ends 0 [(0, .ref a0)] [] D Q := by
  refine x_aload_n rfl rfl ?_
  refine x_sipush (v := (2000 : Int32)) rfl rfl ?_
  refine x_vv lm_M_457 vf_M_go k0 rfl rfl (Nat.le_of_ble_eq_true rfl) rfl h (fun D1 h => ?_)
  refine x_aload_n rfl rfl ?_
  refine x_aload_n rfl rfl ?_
  refine x_gI lf_M_441 k0 rfl rfl ?_
  refine x_iconst (v := (-1 : Int32)) rfl rfl ?_
  refine x_icmp_ne (tgt := 20) rfl rfl (fun c => ?_) (fun c => ?_)
  · have h := h.1 c
    refine x_aload_n rfl rfl ?_
    refine x_aload_n rfl rfl ?_
    refine x_gI lf_M_441 k0 rfl rfl ?_
    refine x_aload_n rfl rfl ?_
    refine x_gI lf_M_444 k0 rfl rfl ?_
    refine x_vi lm_M_460 vf_M_lastBy k0 rfl rfl (Nat.le_of_ble_eq_true rfl) rfl h (fun r3 D2 h => ?_)
    refine x_pIn lp_M_463 nf_13_56 k0 rfl rfl (fun D4 eD4 => ?_)
    have h := h D4 eD4
    refine x_iconst (v := (0 : Int32)) rfl rfl ?_
    refine x_istore_n (i := 1) (L1 := [(1, .int (0 : Int32)), (0, .ref a0)]) rfl rfl (Nat.le_of_ble_eq_true rfl) rfl ?_
    exact xP_sub [1, 0] rfl h
  · have h := h.2 c
    refine x_iconst (v := (-1 : Int32)) rfl rfl ?_
    refine x_goto (tgt := 32) rfl rfl ?_
    refine x_pIn lp_M_463 nf_13_56 k0 rfl rfl (fun D5 eD5 => ?_)
    have h := h D5 eD5
    refine x_iconst (v := (0 : Int32)) rfl rfl ?_
    refine x_istore_n (i := 1) (L1 := [(1, .int (0 : Int32)), (0, .ref a0)]) rfl rfl (Nat.le_of_ble_eq_true rfl) rfl ?_
    exact xP_sub [1, 0] rfl h
theorem s_M_ends_37 {d : Nat} {D : xD} {Q : Option Value → xD → Prop} {a0 : Nat} {x1 : Int32} (k0 : xk a0 = 13) (h : ((D.1 a0 31) ≤ x1 → ((D.1 a0 54) = (-1 : Int32) → Q (some (.int (0 : Int32))) D) ∧ (¬ (D.1 a0 54) = (-1 : Int32) → Q (some (.int (1 : Int32))) D)) ∧ (¬ (D.1 a0 31) ≤ x1 → ((D.1 a0 54) = (-1 : Int32) → ((D.1 a0 54) = (-1 : Int32) → Q (some (.int (0 : Int32))) D) ∧ (¬ (D.1 a0 54) = (-1 : Int32) → Q (some (.int (1 : Int32))) D)) ∧ (¬ (D.1 a0 54) = (-1 : Int32) → xCi d m_M_spoonBy [.ref a0, .int x1, .int (D.1 a0 54), .int (D.1 a0 55)] D (fun r2 D1 => vp_in x1 (xl (a0 + 29)) ∧ ∀ D3 : xD, D3 = (xu D1.1 (a0 + 29) (x1 : Int32).toNatClampNeg r2, D1.2) → xPf (d + 1) m_M_ends 37 [(0, .ref a0), (1, .int (x1 + (1 : Int32)))] [] D3 Q)))) : xPf (d + 1) m_M_ends 37 [(0, .ref a0), (1, .int x1)] [] D Q := by
  refine x_iload_n rfl rfl ?_
  refine x_aload_n rfl rfl ?_
  refine x_gI lf_M_350 k0 rfl rfl ?_
  refine x_icmp_ge (tgt := 78) rfl rfl (fun c => ?_) (fun c => ?_)
  · have h := h.1 c
    refine x_aload_n rfl rfl ?_
    refine x_gI lf_M_441 k0 rfl rfl ?_
    refine x_iconst (v := (-1 : Int32)) rfl rfl ?_
    refine x_icmp_eq (tgt := 90) rfl rfl (fun c => ?_) (fun c => ?_)
    · have h := h.1 c
      refine x_iconst (v := (0 : Int32)) rfl rfl ?_
      exact x_zr rfl (Or.inl rfl) rfl h
    · have h := h.2 c
      refine x_iconst (v := (1 : Int32)) rfl rfl ?_
      refine x_goto (tgt := 91) rfl rfl ?_
      exact x_zr rfl (Or.inr rfl) rfl h
  · have h := h.2 c
    refine x_aload_n rfl rfl ?_
    refine x_gI lf_M_441 k0 rfl rfl ?_
    refine x_iconst (v := (-1 : Int32)) rfl rfl ?_
    refine x_icmp_eq (tgt := 78) rfl rfl (fun c => ?_) (fun c => ?_)
    · have h := h.1 c
      refine x_aload_n rfl rfl ?_
      refine x_gI lf_M_441 k0 rfl rfl ?_
      refine x_iconst (v := (-1 : Int32)) rfl rfl ?_
      refine x_icmp_eq (tgt := 90) rfl rfl (fun c => ?_) (fun c => ?_)
      · have h := h.1 c
        refine x_iconst (v := (0 : Int32)) rfl rfl ?_
        exact x_zr rfl (Or.inl rfl) rfl h
      · have h := h.2 c
        refine x_iconst (v := (1 : Int32)) rfl rfl ?_
        refine x_goto (tgt := 91) rfl rfl ?_
        exact x_zr rfl (Or.inr rfl) rfl h
    · have h := h.2 c
      refine x_aload_n rfl rfl ?_
      refine x_gR lf_M_95 k0 rfl rfl ?_
      refine x_iload_n rfl rfl ?_
      refine x_aload_n rfl rfl ?_
      refine x_iload_n rfl rfl ?_
      refine x_aload_n rfl rfl ?_
      refine x_gI lf_M_441 k0 rfl rfl ?_
      refine x_aload_n rfl rfl ?_
      refine x_gI lf_M_444 k0 rfl rfl ?_
      refine x_vi lm_M_453 vf_M_spoonBy k0 rfl rfl (Nat.le_of_ble_eq_true rfl) rfl h (fun r2 D1 h => ?_)
      refine x_iastn (ck_13_58 k0) h.1 rfl (fun D3 eD3 => ?_)
      have h := h.2 D3 eD3
      refine x_iinc (i := 1) (v := x1 + (1 : Int32)) (L1 := [(1, .int (x1 + (1 : Int32))), (0, .ref a0)]) rfl rfl rfl (Nat.le_of_ble_eq_true rfl) rfl ?_
      refine x_goto (tgt := 37) rfl rfl ?_
      exact xP_sub [1, 0] rfl h
theorem s_M_layRound_0 {d : Nat} {D : xD} {Q : Option Value → xD → Prop} {a0 : Nat} {x1 : Int32} {x2 : Int32} (k0 : xk a0 = 13) (h : xCi d m_M_is [.ref a0, .int (1 : Int32), .int x2] D (fun r2 D1 => (r2 = 0 → Q (some (.int (0 : Int32))) D1) ∧ (¬ r2 = 0 → xCi d m_M_hand1 [.ref a0, .int x1] D1 (fun r4 D3 => (r4 = 0 → Q (some (.int (0 : Int32))) D3) ∧ (¬ r4 = 0 → xCi d m_M_layHeap [.ref a0, .int x2] D3 (fun r6 D5 => (r6 = 0 → Q (some (.int (0 : Int32))) D5) ∧ (¬ r6 = 0 → Q (some (.int (1 : Int32))) D5))))))) : xPf (d + 1) m_M_layRound 0 [(0, .ref a0), (1, .int x1), (2, .int x2)] [] D Q := by
  refine x_aload_n rfl rfl ?_
  refine x_iconst (v := (1 : Int32)) rfl rfl ?_
  refine x_iload_n rfl rfl ?_
  refine x_vi lm_M_319 vf_M_is k0 rfl rfl (Nat.le_of_ble_eq_true rfl) rfl h (fun r2 D1 h => ?_)
  refine x_if_eq (tgt := 29) rfl rfl (fun c => ?_) (fun c => ?_)
  · have h := h.1 c
    refine x_iconst (v := (0 : Int32)) rfl rfl ?_
    exact x_zr rfl (Or.inl rfl) rfl h
  · have h := h.2 c
    refine x_aload_n rfl rfl ?_
    refine x_iload_n rfl rfl ?_
    refine x_vi lm_M_356 vf_M_hand1 k0 rfl rfl (Nat.le_of_ble_eq_true rfl) rfl h (fun r4 D3 h => ?_)
    refine x_if_eq (tgt := 29) rfl rfl (fun c => ?_) (fun c => ?_)
    · have h := h.1 c
      refine x_iconst (v := (0 : Int32)) rfl rfl ?_
      exact x_zr rfl (Or.inl rfl) rfl h
    · have h := h.2 c
      refine x_aload_n rfl rfl ?_
      refine x_iload_n rfl rfl ?_
      refine x_vi lm_M_365 vf_M_layHeap k0 rfl rfl (Nat.le_of_ble_eq_true rfl) rfl h (fun r6 D5 h => ?_)
      refine x_if_eq (tgt := 29) rfl rfl (fun c => ?_) (fun c => ?_)
      · have h := h.1 c
        refine x_iconst (v := (0 : Int32)) rfl rfl ?_
        exact x_zr rfl (Or.inl rfl) rfl h
      · have h := h.2 c
        refine x_iconst (v := (1 : Int32)) rfl rfl ?_
        refine x_goto (tgt := 30) rfl rfl ?_
        exact x_zr rfl (Or.inr rfl) rfl h
theorem s_M_mends_0 {d : Nat} {D : xD} {Q : Option Value → xD → Prop} {a0 : Nat} (k0 : xk a0 = 13) (h : xPf (d + 1) m_M_mends 2 [(0, .ref a0), (1, .int (0 : Int32))] [] D Q) : xPf (d + 1) m_M_mends 0 [(0, .ref a0)] [] D Q := by
  refine x_iconst (v := (0 : Int32)) rfl rfl ?_
  refine x_istore_n (i := 1) (L1 := [(1, .int (0 : Int32)), (0, .ref a0)]) rfl rfl (Nat.le_of_ble_eq_true rfl) rfl ?_
  exact xP_sub [1, 0] rfl h
theorem s_M_mends_2 {d : Nat} {D : xD} {Q : Option Value → xD → Prop} {a0 : Nat} {x1 : Int32} (k0 : xk a0 = 13) (h : ((D.1 a0 30) ≤ x1 → Q (some (.int (-1 : Int32))) D) ∧ (¬ (D.1 a0 30) ≤ x1 → vp_in x1 (xl (a0 + 18)) ∧ vp_in x1 (xl (a0 + 18)) ∧ ∀ D1 : xD, D1 = (xu D.1 (a0 + 18) (x1 : Int32).toNatClampNeg (0 : Int32), D.2) → ((D.1 (a0 + 18) (x1 : Int32).toNatClampNeg) = 0 → vp_in x1 (xl (a0 + 18)) ∧ ∀ D2 : xD, D2 = (xu D1.1 (a0 + 18) (x1 : Int32).toNatClampNeg (D.1 (a0 + 18) (x1 : Int32).toNatClampNeg), D1.2) → ((0 : Int32) = 0 → xPf (d + 1) m_M_mends 2 [(0, .ref a0), (1, .int (x1 + (1 : Int32)))] [] D2 Q) ∧ (¬ (0 : Int32) = 0 → Q (some (.int x1)) D2)) ∧ (¬ (D.1 (a0 + 18) (x1 : Int32).toNatClampNeg) = 0 → xCi d m_M_ends [.ref a0] D1 (fun r4 D3 => (r4 = 0 → vp_in x1 (xl (a0 + 18)) ∧ ∀ D5 : xD, D5 = (xu D3.1 (a0 + 18) (x1 : Int32).toNatClampNeg (D.1 (a0 + 18) (x1 : Int32).toNatClampNeg), D3.2) → ((0 : Int32) = 0 → xPf (d + 1) m_M_mends 2 [(0, .ref a0), (1, .int (x1 + (1 : Int32)))] [] D5 Q) ∧ (¬ (0 : Int32) = 0 → Q (some (.int x1)) D5)) ∧ (¬ r4 = 0 → vp_in x1 (xl (a0 + 18)) ∧ ∀ D6 : xD, D6 = (xu D3.1 (a0 + 18) (x1 : Int32).toNatClampNeg (D.1 (a0 + 18) (x1 : Int32).toNatClampNeg), D3.2) → ((1 : Int32) = 0 → xPf (d + 1) m_M_mends 2 [(0, .ref a0), (1, .int (x1 + (1 : Int32)))] [] D6 Q) ∧ (¬ (1 : Int32) = 0 → Q (some (.int x1)) D6)))))) : xPf (d + 1) m_M_mends 2 [(0, .ref a0), (1, .int x1)] [] D Q := by
  refine x_iload_n rfl rfl ?_
  refine x_aload_n rfl rfl ?_
  refine x_gI lf_M_344 k0 rfl rfl ?_
  refine x_icmp_ge (tgt := 60) rfl rfl (fun c => ?_) (fun c => ?_)
  · have h := h.1 c
    refine x_iconst (v := (-1 : Int32)) rfl rfl ?_
    exact x_iret rfl rfl h
  · have h := h.2 c
    refine x_aload_n rfl rfl ?_
    refine x_gR lf_M_62 k0 rfl rfl ?_
    refine x_iload_n rfl rfl ?_
    refine x_iald (ck_13_37 k0) (xlt (ck_13_37 k0) (by decide)) h.1 rfl ?_
    have h := h.2
    refine x_istore_n (i := 2) (L1 := [(2, .int (D.1 (a0 + 18) (x1 : Int32).toNatClampNeg)), (0, .ref a0), (1, .int x1)]) rfl rfl (Nat.le_of_ble_eq_true rfl) rfl ?_
    refine x_aload_n rfl rfl ?_
    refine x_gR lf_M_62 k0 rfl rfl ?_
    refine x_iload_n rfl rfl ?_
    refine x_iconst (v := (0 : Int32)) rfl rfl ?_
    refine x_iastn (ck_13_37 k0) h.1 rfl (fun D1 eD1 => ?_)
    have h := h.2 D1 eD1
    refine x_iload_n rfl rfl ?_
    refine x_if_eq (tgt := 39) rfl rfl (fun c => ?_) (fun c => ?_)
    · have h := h.1 c
      refine x_iconst (v := (0 : Int32)) rfl rfl ?_
      refine x_istore_n (i := 3) (L1 := [(3, .int (0 : Int32)), (2, .int (D.1 (a0 + 18) (x1 : Int32).toNatClampNeg)), (0, .ref a0), (1, .int x1)]) rfl rfl (Nat.le_of_ble_eq_true rfl) rfl ?_
      refine x_aload_n rfl rfl ?_
      refine x_gR lf_M_62 k0 rfl rfl ?_
      refine x_iload_n rfl rfl ?_
      refine x_iload_n rfl rfl ?_
      refine x_iastn (ck_13_37 k0) h.1 rfl (fun D2 eD2 => ?_)
      have h := h.2 D2 eD2
      refine x_iload_n rfl rfl ?_
      refine x_if_eq (tgt := 54) rfl rfl (fun c => ?_) (fun c => ?_)
      · have h := h.1 c
        refine x_iinc (i := 1) (v := x1 + (1 : Int32)) (L1 := [(1, .int (x1 + (1 : Int32))), (3, .int (0 : Int32)), (2, .int (D.1 (a0 + 18) (x1 : Int32).toNatClampNeg)), (0, .ref a0)]) rfl rfl rfl (Nat.le_of_ble_eq_true rfl) rfl ?_
        refine x_goto (tgt := 2) rfl rfl ?_
        exact xP_sub [3, 0] rfl h
      · have h := h.2 c
        refine x_iload_n rfl rfl ?_
        exact x_iret rfl rfl h
    · have h := h.2 c
      refine x_aload_n rfl rfl ?_
      refine x_vi lm_M_466 vf_M_ends k0 rfl rfl (Nat.le_of_ble_eq_true rfl) rfl h (fun r4 D3 h => ?_)
      refine x_if_eq (tgt := 39) rfl rfl (fun c => ?_) (fun c => ?_)
      · have h := h.1 c
        refine x_iconst (v := (0 : Int32)) rfl rfl ?_
        refine x_istore_n (i := 3) (L1 := [(3, .int (0 : Int32)), (2, .int (D.1 (a0 + 18) (x1 : Int32).toNatClampNeg)), (0, .ref a0), (1, .int x1)]) rfl rfl (Nat.le_of_ble_eq_true rfl) rfl ?_
        refine x_aload_n rfl rfl ?_
        refine x_gR lf_M_62 k0 rfl rfl ?_
        refine x_iload_n rfl rfl ?_
        refine x_iload_n rfl rfl ?_
        refine x_iastn (ck_13_37 k0) h.1 rfl (fun D5 eD5 => ?_)
        have h := h.2 D5 eD5
        refine x_iload_n rfl rfl ?_
        refine x_if_eq (tgt := 54) rfl rfl (fun c => ?_) (fun c => ?_)
        · have h := h.1 c
          refine x_iinc (i := 1) (v := x1 + (1 : Int32)) (L1 := [(1, .int (x1 + (1 : Int32))), (3, .int (0 : Int32)), (2, .int (D.1 (a0 + 18) (x1 : Int32).toNatClampNeg)), (0, .ref a0)]) rfl rfl rfl (Nat.le_of_ble_eq_true rfl) rfl ?_
          refine x_goto (tgt := 2) rfl rfl ?_
          exact xP_sub [3, 0] rfl h
        · have h := h.2 c
          refine x_iload_n rfl rfl ?_
          exact x_iret rfl rfl h
      · have h := h.2 c
        refine x_iconst (v := (1 : Int32)) rfl rfl ?_
        refine x_goto (tgt := 40) rfl rfl ?_
        refine x_istore_n (i := 3) (L1 := [(3, .int (1 : Int32)), (2, .int (D.1 (a0 + 18) (x1 : Int32).toNatClampNeg)), (0, .ref a0), (1, .int x1)]) rfl rfl (Nat.le_of_ble_eq_true rfl) rfl ?_
        refine x_aload_n rfl rfl ?_
        refine x_gR lf_M_62 k0 rfl rfl ?_
        refine x_iload_n rfl rfl ?_
        refine x_iload_n rfl rfl ?_
        refine x_iastn (ck_13_37 k0) h.1 rfl (fun D6 eD6 => ?_)
        have h := h.2 D6 eD6
        refine x_iload_n rfl rfl ?_
        refine x_if_eq (tgt := 54) rfl rfl (fun c => ?_) (fun c => ?_)
        · have h := h.1 c
          refine x_iinc (i := 1) (v := x1 + (1 : Int32)) (L1 := [(1, .int (x1 + (1 : Int32))), (3, .int (1 : Int32)), (2, .int (D.1 (a0 + 18) (x1 : Int32).toNatClampNeg)), (0, .ref a0)]) rfl rfl rfl (Nat.le_of_ble_eq_true rfl) rfl ?_
          refine x_goto (tgt := 2) rfl rfl ?_
          exact xP_sub [3, 0] rfl h
        · have h := h.2 c
          refine x_iload_n rfl rfl ?_
          exact x_iret rfl rfl h
theorem s_M_allHanded_0 {d : Nat} {D : xD} {Q : Option Value → xD → Prop} {a0 : Nat} (k0 : xk a0 = 13) (h : xPf (d + 1) m_M_allHanded 4 [(0, .ref a0), (1, .int (0 : Int32)), (2, .int (0 : Int32))] [] D Q) : xPf (d + 1) m_M_allHanded 0 [(0, .ref a0)] [] D Q := by
  refine x_iconst (v := (0 : Int32)) rfl rfl ?_
  refine x_istore_n (i := 1) (L1 := [(1, .int (0 : Int32)), (0, .ref a0)]) rfl rfl (Nat.le_of_ble_eq_true rfl) rfl ?_
  refine x_iconst (v := (0 : Int32)) rfl rfl ?_
  refine x_istore_n (i := 2) (L1 := [(2, .int (0 : Int32)), (1, .int (0 : Int32)), (0, .ref a0)]) rfl rfl (Nat.le_of_ble_eq_true rfl) rfl ?_
  exact xP_sub [2, 1, 0] rfl h
theorem s_M_allHanded_4 {d : Nat} {D : xD} {Q : Option Value → xD → Prop} {a0 : Nat} {x1 : Int32} {x2 : Int32} (k0 : xk a0 = 13) (h : ((D.1 a0 31) ≤ x2 → Q (some (.int x1)) D) ∧ (¬ (D.1 a0 31) ≤ x2 → vp_in x2 (xl (a0 + 28)) ∧ xPf (d + 1) m_M_allHanded 4 [(0, .ref a0), (1, .int (x1 + (D.1 (a0 + 28) (x2 : Int32).toNatClampNeg))), (2, .int (x2 + (1 : Int32)))] [] D Q)) : xPf (d + 1) m_M_allHanded 4 [(0, .ref a0), (1, .int x1), (2, .int x2)] [] D Q := by
  refine x_iload_n rfl rfl ?_
  refine x_aload_n rfl rfl ?_
  refine x_gI lf_M_350 k0 rfl rfl ?_
  refine x_icmp_ge (tgt := 27) rfl rfl (fun c => ?_) (fun c => ?_)
  · have h := h.1 c
    refine x_iload_n rfl rfl ?_
    exact x_iret rfl rfl h
  · have h := h.2 c
    refine x_iload_n rfl rfl ?_
    refine x_aload_n rfl rfl ?_
    refine x_gR lf_M_92 k0 rfl rfl ?_
    refine x_iload_n rfl rfl ?_
    refine x_iald (ck_13_57 k0) (xlt (ck_13_57 k0) (by decide)) h.1 rfl ?_
    have h := h.2
    refine x_iadd rfl ?_
    refine x_istore_n (i := 1) (L1 := [(1, .int (x1 + (D.1 (a0 + 28) (x2 : Int32).toNatClampNeg))), (0, .ref a0), (2, .int x2)]) rfl rfl (Nat.le_of_ble_eq_true rfl) rfl ?_
    refine x_iinc (i := 2) (v := x2 + (1 : Int32)) (L1 := [(2, .int (x2 + (1 : Int32))), (1, .int (x1 + (D.1 (a0 + 28) (x2 : Int32).toNatClampNeg))), (0, .ref a0)]) rfl rfl rfl (Nat.le_of_ble_eq_true rfl) rfl ?_
    refine x_goto (tgt := 4) rfl rfl ?_
    exact xP_sub [2, 1, 0] rfl h
theorem s_M_round_0 {d : Nat} {D : xD} {Q : Option Value → xD → Prop} {a0 : Nat} {x1 : Int32} {x2 : Int32} {x3 : Int32} (k0 : xk a0 = 13) (h : ∀ D1 : xD, D1 = (xu D.1 a0 0 (0 : Int32), D.2) → xCi d m_M_layRound [.ref a0, .int x1, .int x2] D1 (fun r3 D2 => (¬ r3 = 0 → xCi d m_M_ends [.ref a0] D2 (fun r5 D4 => xCi d m_M_in [.int x3, .int (10 : Int32), .int ((9 : Int32) + (D4.1 a0 30))] D4 (fun r7 D6 => (r7 = 0 → xCi d m_M_in [.int x3, .int (20 : Int32), .int ((19 : Int32) + (D6.1 a0 30))] D6 (fun r9 D8 => (r9 = 0 → (x3 = (0 : Int32) → (r5 = 0 → Q (some (.int (-1 : Int32))) D8) ∧ (¬ r5 = 0 → Q (some (.int (D8.1 a0 55))) D8)) ∧ (x3 = (1 : Int32) → Q (some (.int (D8.1 a0 54))) D8) ∧ (x3 = (2 : Int32) → Q (some (.int (D8.1 a0 56))) D8) ∧ (x3 = (3 : Int32) → xCi d m_M_allHanded [.ref a0] D8 (fun r11 D10 => Q (some (.int r11)) D10)) ∧ (x3 = (4 : Int32) → (r5 = 0 → xCi d m_M_mends [.ref a0] D8 (fun r13 D12 => Q (some (.int r13)) D12)) ∧ (¬ r5 = 0 → Q (some (.int (-1 : Int32))) D8)) ∧ (((x3).toInt < 0 ∨ 4 < (x3).toInt) → Q (some (.int (-2 : Int32))) D8)) ∧ (¬ r9 = 0 → vp_in (x3 - (20 : Int32)) (xl (a0 + 28)) ∧ Q (some (.int (D8.1 (a0 + 28) (x3 - (20 : Int32) : Int32).toNatClampNeg))) D8))) ∧ (¬ r7 = 0 → (r5 = 0 → Q (some (.int (-1 : Int32))) D6) ∧ (¬ r5 = 0 → vp_in (x3 - (10 : Int32)) (xl (a0 + 29)) ∧ Q (some (.int (D6.1 (a0 + 29) (x3 - (10 : Int32) : Int32).toNatClampNeg))) D6))))) ∧ (r3 = 0 → Q (some (.int (-2 : Int32))) D2))) : xPf (d + 1) m_M_round 0 [(0, .ref a0), (1, .int x1), (2, .int x2), (3, .int x3)] [] D Q := by
  refine x_aload_n rfl rfl ?_
  refine x_iconst (v := (0 : Int32)) rfl rfl ?_
  refine x_pIn lp_M_139 nf_13_0 k0 rfl rfl (fun D1 eD1 => ?_)
  have h := h D1 eD1
  refine x_aload_n rfl rfl ?_
  refine x_iload_n rfl rfl ?_
  refine x_iload_n rfl rfl ?_
  refine x_vi lm_M_469 vf_M_layRound k0 rfl rfl (Nat.le_of_ble_eq_true rfl) rfl h (fun r3 D2 h => ?_)
  refine x_if_ne (tgt := 17) rfl rfl (fun c => ?_) (fun c => ?_)
  · have h := h.1 c
    refine x_aload_n rfl rfl ?_
    refine x_vi lm_M_466 vf_M_ends k0 rfl rfl (Nat.le_of_ble_eq_true rfl) rfl h (fun r5 D4 h => ?_)
    refine x_istore (i := 4) (L1 := [(4, .int r5), (0, .ref a0), (1, .int x1), (2, .int x2), (3, .int x3)]) rfl (Nat.le_of_ble_eq_true rfl) rfl ?_
    refine x_iload_n rfl rfl ?_
    refine x_bipush (v := (10 : Int32)) rfl rfl ?_
    refine x_bipush (v := (9 : Int32)) rfl rfl ?_
    refine x_aload_n rfl rfl ?_
    refine x_gI lf_M_344 k0 rfl rfl ?_
    refine x_iadd rfl ?_
    refine x_si lm_M_147 sf_M_in rfl rfl (Nat.le_of_ble_eq_true rfl) rfl h (fun r7 D6 h => ?_)
    refine x_if_eq (tgt := 58) rfl rfl (fun c => ?_) (fun c => ?_)
    · have h := h.1 c
      refine x_iload_n rfl rfl ?_
      refine x_bipush (v := (20 : Int32)) rfl rfl ?_
      refine x_bipush (v := (19 : Int32)) rfl rfl ?_
      refine x_aload_n rfl rfl ?_
      refine x_gI lf_M_344 k0 rfl rfl ?_
      refine x_iadd rfl ?_
      refine x_si lm_M_147 sf_M_in rfl rfl (Nat.le_of_ble_eq_true rfl) rfl h (fun r9 D8 h => ?_)
      refine x_if_eq (tgt := 84) rfl rfl (fun c => ?_) (fun c => ?_)
      · have h := h.1 c
        refine x_iload_n rfl rfl ?_
        rcases Decidable.em ((x3).toInt < 0 ∨ 4 < (x3).toInt) with q | q
        · refine x_tableOut (tgt := 163) rfl q rfl ?_
          have h := h.2.2.2.2.2 q
          refine x_bipush (v := (-2 : Int32)) rfl rfl ?_
          exact x_iret rfl rfl h
        · have q : (x3).toInt = 0 ∨ (x3).toInt = 1 ∨ (x3).toInt = 2 ∨ (x3).toInt = 3 ∨ (x3).toInt = 4 := by omega
          rcases q with q | q | q | q | q
          · have q : x3 = (0 : Int32) := Int32.toInt_inj.mp q
            refine x_tabK (k := (0 : Int32)) (tgt := 120) q rfl (by decide) (by decide) rfl rfl ?_
            have h := h.1 q
            refine x_iload rfl rfl ?_
            refine x_if_eq (tgt := 132) rfl rfl (fun c => ?_) (fun c => ?_)
            · have h := h.1 c
              refine x_iconst (v := (-1 : Int32)) rfl rfl ?_
              exact x_iret rfl rfl h
            · have h := h.2 c
              refine x_aload_n rfl rfl ?_
              refine x_gI lf_M_444 k0 rfl rfl ?_
              refine x_goto (tgt := 133) rfl rfl ?_
              exact x_iret rfl rfl h
          · have q : x3 = (1 : Int32) := Int32.toInt_inj.mp q
            refine x_tabK (k := (1 : Int32)) (tgt := 134) q rfl (by decide) (by decide) rfl rfl ?_
            have h := h.2.1 q
            refine x_aload_n rfl rfl ?_
            refine x_gI lf_M_441 k0 rfl rfl ?_
            exact x_iret rfl rfl h
          · have q : x3 = (2 : Int32) := Int32.toInt_inj.mp q
            refine x_tabK (k := (2 : Int32)) (tgt := 139) q rfl (by decide) (by decide) rfl rfl ?_
            have h := h.2.2.1 q
            refine x_aload_n rfl rfl ?_
            refine x_gI lf_M_463 k0 rfl rfl ?_
            exact x_iret rfl rfl h
          · have q : x3 = (3 : Int32) := Int32.toInt_inj.mp q
            refine x_tabK (k := (3 : Int32)) (tgt := 144) q rfl (by decide) (by decide) rfl rfl ?_
            have h := h.2.2.2.1 q
            refine x_aload_n rfl rfl ?_
            refine x_vi lm_M_472 vf_M_allHanded k0 rfl rfl (Nat.le_of_ble_eq_true rfl) rfl h (fun r11 D10 h => ?_)
            exact x_iret rfl rfl h
          · have q : x3 = (4 : Int32) := Int32.toInt_inj.mp q
            refine x_tabK (k := (4 : Int32)) (tgt := 149) q rfl (by decide) (by decide) rfl rfl ?_
            have h := h.2.2.2.2.1 q
            refine x_iload rfl rfl ?_
            refine x_if_eq (tgt := 158) rfl rfl (fun c => ?_) (fun c => ?_)
            · have h := h.1 c
              refine x_aload_n rfl rfl ?_
              refine x_vi lm_M_475 vf_M_mends k0 rfl rfl (Nat.le_of_ble_eq_true rfl) rfl h (fun r13 D12 h => ?_)
              exact x_iret rfl rfl h
            · have h := h.2 c
              refine x_iconst (v := (-1 : Int32)) rfl rfl ?_
              refine x_goto (tgt := 162) rfl rfl ?_
              exact x_iret rfl rfl h
      · have h := h.2 c
        refine x_aload_n rfl rfl ?_
        refine x_gR lf_M_92 k0 rfl rfl ?_
        refine x_iload_n rfl rfl ?_
        refine x_bipush (v := (20 : Int32)) rfl rfl ?_
        refine x_isub rfl ?_
        refine x_iald (ck_13_57 k0) (xlt (ck_13_57 k0) (by decide)) h.1 rfl ?_
        have h := h.2
        exact x_iret rfl rfl h
    · have h := h.2 c
      refine x_iload rfl rfl ?_
      refine x_if_eq (tgt := 56) rfl rfl (fun c => ?_) (fun c => ?_)
      · have h := h.1 c
        refine x_iconst (v := (-1 : Int32)) rfl rfl ?_
        exact x_iret rfl rfl h
      · have h := h.2 c
        refine x_aload_n rfl rfl ?_
        refine x_gR lf_M_95 k0 rfl rfl ?_
        refine x_iload_n rfl rfl ?_
        refine x_bipush (v := (10 : Int32)) rfl rfl ?_
        refine x_isub rfl ?_
        refine x_iald (ck_13_58 k0) (xlt (ck_13_58 k0) (by decide)) h.1 rfl ?_
        have h := h.2
        refine x_goto (tgt := 57) rfl rfl ?_
        exact x_iret rfl rfl h
  · have h := h.2 c
    refine x_bipush (v := (-2 : Int32)) rfl rfl ?_
    exact x_iret rfl rfl h
theorem s_M_behind_0 {d : Nat} {D : xD} {Q : Option Value → xD → Prop} {a0 : Nat} {x1 : Int32} {x2 : Int32} {x3 : Int32} {x4 : Int32} {x5 : Int32} (k0 : xk a0 = 13) (h : ∀ D1 : xD, D1 = (xu D.1 a0 0 (0 : Int32), D.2) → xCi d m_M_in [.int x3, .int (0 : Int32), .int (2000 : Int32)] D1 (fun r3 D2 => (r3 = 0 → Q (some (.int (-2 : Int32))) D2) ∧ (¬ r3 = 0 → xCi d m_M_layRound [.ref a0, .int x1, .int x2] D2 (fun r5 D4 => (r5 = 0 → Q (some (.int (-2 : Int32))) D4) ∧ (¬ r5 = 0 → xCi d m_M_isOne [.ref a0, .int x4] D4 (fun r7 D6 => (r7 = 0 → Q (some (.int (-2 : Int32))) D6) ∧ (¬ r7 = 0 → (x5 = (-1 : Int32) → xCv d m_M_go [.ref a0, .int x3] D6 (fun D8 => (¬ x5 = (-1 : Int32) → vp_in (((13 : Int32) * x4) + x5) (xl (a0 + 21)) ∧ Q (some (.int (D8.1 (a0 + 21) (((13 : Int32) * x4) + x5 : Int32).toNatClampNeg))) D8) ∧ (x5 = (-1 : Int32) → vp_in x4 (xl (a0 + 25)) ∧ Q (some (.int (D8.1 (a0 + 25) (x4 : Int32).toNatClampNeg))) D8))) ∧ (¬ x5 = (-1 : Int32) → xCi d m_M_isKind [.ref a0, .int x5] D6 (fun r10 D9 => (¬ r10 = 0 → xCv d m_M_go [.ref a0, .int x3] D9 (fun D11 => (¬ x5 = (-1 : Int32) → vp_in (((13 : Int32) * x4) + x5) (xl (a0 + 21)) ∧ Q (some (.int (D11.1 (a0 + 21) (((13 : Int32) * x4) + x5 : Int32).toNatClampNeg))) D11) ∧ (x5 = (-1 : Int32) → vp_in x4 (xl (a0 + 25)) ∧ Q (some (.int (D11.1 (a0 + 25) (x4 : Int32).toNatClampNeg))) D11))) ∧ (r10 = 0 → Q (some (.int (-2 : Int32))) D9)))))))))) : xPf (d + 1) m_M_behind 0 [(0, .ref a0), (1, .int x1), (2, .int x2), (3, .int x3), (4, .int x4), (5, .int x5)] [] D Q := by
  refine x_aload_n rfl rfl ?_
  refine x_iconst (v := (0 : Int32)) rfl rfl ?_
  refine x_pIn lp_M_139 nf_13_0 k0 rfl rfl (fun D1 eD1 => ?_)
  have h := h D1 eD1
  refine x_iload_n rfl rfl ?_
  refine x_iconst (v := (0 : Int32)) rfl rfl ?_
  refine x_sipush (v := (2000 : Int32)) rfl rfl ?_
  refine x_si lm_M_147 sf_M_in rfl rfl (Nat.le_of_ble_eq_true rfl) rfl h (fun r3 D2 h => ?_)
  refine x_if_eq (tgt := 49) rfl rfl (fun c => ?_) (fun c => ?_)
  · have h := h.1 c
    refine x_bipush (v := (-2 : Int32)) rfl rfl ?_
    exact x_iret rfl rfl h
  · have h := h.2 c
    refine x_aload_n rfl rfl ?_
    refine x_iload_n rfl rfl ?_
    refine x_iload_n rfl rfl ?_
    refine x_vi lm_M_469 vf_M_layRound k0 rfl rfl (Nat.le_of_ble_eq_true rfl) rfl h (fun r5 D4 h => ?_)
    refine x_if_eq (tgt := 49) rfl rfl (fun c => ?_) (fun c => ?_)
    · have h := h.1 c
      refine x_bipush (v := (-2 : Int32)) rfl rfl ?_
      exact x_iret rfl rfl h
    · have h := h.2 c
      refine x_aload_n rfl rfl ?_
      refine x_iload rfl rfl ?_
      refine x_vi lm_M_359 vf_M_isOne k0 rfl rfl (Nat.le_of_ble_eq_true rfl) rfl h (fun r7 D6 h => ?_)
      refine x_if_eq (tgt := 49) rfl rfl (fun c => ?_) (fun c => ?_)
      · have h := h.1 c
        refine x_bipush (v := (-2 : Int32)) rfl rfl ?_
        exact x_iret rfl rfl h
      · have h := h.2 c
        refine x_iload rfl rfl ?_
        refine x_iconst (v := (-1 : Int32)) rfl rfl ?_
        refine x_icmp_eq (tgt := 52) rfl rfl (fun c => ?_) (fun c => ?_)
        · have h := h.1 c
          refine x_aload_n rfl rfl ?_
          refine x_iload_n rfl rfl ?_
          refine x_vv lm_M_457 vf_M_go k0 rfl rfl (Nat.le_of_ble_eq_true rfl) rfl h (fun D8 h => ?_)
          refine x_iload rfl rfl ?_
          refine x_iconst (v := (-1 : Int32)) rfl rfl ?_
          refine x_icmp_ne (tgt := 73) rfl rfl (fun c => ?_) (fun c => ?_)
          · have h := h.1 c
            refine x_aload_n rfl rfl ?_
            refine x_gR lf_M_71 k0 rfl rfl ?_
            refine x_bipush (v := (13 : Int32)) rfl rfl ?_
            refine x_iload rfl rfl ?_
            refine x_imul rfl ?_
            refine x_iload rfl rfl ?_
            refine x_iadd rfl ?_
            refine x_iald (ck_13_41 k0) (xlt (ck_13_41 k0) (by decide)) h.1 rfl ?_
            have h := h.2
            exact x_iret rfl rfl h
          · have h := h.2 c
            refine x_aload_n rfl rfl ?_
            refine x_gR lf_M_83 k0 rfl rfl ?_
            refine x_iload rfl rfl ?_
            refine x_iald (ck_13_45 k0) (xlt (ck_13_45 k0) (by decide)) h.1 rfl ?_
            have h := h.2
            refine x_goto (tgt := 86) rfl rfl ?_
            exact x_iret rfl rfl h
        · have h := h.2 c
          refine x_aload_n rfl rfl ?_
          refine x_iload rfl rfl ?_
          refine x_vi lm_M_432 vf_M_isKind k0 rfl rfl (Nat.le_of_ble_eq_true rfl) rfl h (fun r10 D9 h => ?_)
          refine x_if_ne (tgt := 52) rfl rfl (fun c => ?_) (fun c => ?_)
          · have h := h.1 c
            refine x_aload_n rfl rfl ?_
            refine x_iload_n rfl rfl ?_
            refine x_vv lm_M_457 vf_M_go k0 rfl rfl (Nat.le_of_ble_eq_true rfl) rfl h (fun D11 h => ?_)
            refine x_iload rfl rfl ?_
            refine x_iconst (v := (-1 : Int32)) rfl rfl ?_
            refine x_icmp_ne (tgt := 73) rfl rfl (fun c => ?_) (fun c => ?_)
            · have h := h.1 c
              refine x_aload_n rfl rfl ?_
              refine x_gR lf_M_71 k0 rfl rfl ?_
              refine x_bipush (v := (13 : Int32)) rfl rfl ?_
              refine x_iload rfl rfl ?_
              refine x_imul rfl ?_
              refine x_iload rfl rfl ?_
              refine x_iadd rfl ?_
              refine x_iald (ck_13_41 k0) (xlt (ck_13_41 k0) (by decide)) h.1 rfl ?_
              have h := h.2
              exact x_iret rfl rfl h
            · have h := h.2 c
              refine x_aload_n rfl rfl ?_
              refine x_gR lf_M_83 k0 rfl rfl ?_
              refine x_iload rfl rfl ?_
              refine x_iald (ck_13_45 k0) (xlt (ck_13_45 k0) (by decide)) h.1 rfl ?_
              have h := h.2
              refine x_goto (tgt := 86) rfl rfl ?_
              exact x_iret rfl rfl h
          · have h := h.2 c
            refine x_bipush (v := (-2 : Int32)) rfl rfl ?_
            exact x_iret rfl rfl h
theorem s_M_draw_0 {d : Nat} {D : xD} {Q : Option Value → xD → Prop} {a0 : Nat} {x1 : Int32} (k0 : xk a0 = 13) (h : ∀ D1 : xD, D1 = (xu D.1 a0 59 (((D.1 a0 59) * (1103515245 : Int32)) + (12345 : Int32)), D.2) → ¬ x1 = 0 ∧ Q (some (.int ((((D1.1 a0 59).toUInt32 >>> ((16 : Int32).toUInt32 &&& Int32.toUInt32 31)).toInt32) - (((D1.1 a0 59).toUInt32 >>> ((16 : Int32).toUInt32 &&& Int32.toUInt32 31)).toInt32) / x1 * x1))) D1) : xPf (d + 1) m_M_draw 0 [(0, .ref a0), (1, .int x1)] [] D Q := by
  refine x_aload_n rfl rfl ?_
  refine x_aload_n rfl rfl ?_
  refine x_gI lf_M_478 k0 rfl rfl ?_
  refine x_ldcw wd_2094 rfl ?_
  refine x_imul rfl ?_
  refine x_sipush (v := (12345 : Int32)) rfl rfl ?_
  refine x_iadd rfl ?_
  refine x_pIn lp_M_478 nf_13_59 k0 rfl rfl (fun D1 eD1 => ?_)
  have h := h D1 eD1
  refine x_aload_n rfl rfl ?_
  refine x_gI lf_M_478 k0 rfl rfl ?_
  refine x_bipush (v := (16 : Int32)) rfl rfl ?_
  refine x_iushr rfl ?_
  refine x_iload_n rfl rfl ?_
  refine x_irem rfl h.1 ?_
  have h := h.2
  exact x_iret rfl rfl h
theorem s_M_shuffle_0 {d : Nat} {D : xD} {Q : Option Value → xD → Prop} {a0 : Nat} (k0 : xk a0 = 13) (h : ∀ D1 : xD, D1 = (xu D.1 a0 40 ((D.1 a0 27) * (D.1 a0 28)), D.2) → xPf (d + 1) m_M_shuffle 15 [(0, .ref a0), (1, .int (0 : Int32))] [] D1 Q) : xPf (d + 1) m_M_shuffle 0 [(0, .ref a0)] [] D Q := by
  refine x_aload_n rfl rfl ?_
  refine x_aload_n rfl rfl ?_
  refine x_gI lf_M_335 k0 rfl rfl ?_
  refine x_aload_n rfl rfl ?_
  refine x_gI lf_M_338 k0 rfl rfl ?_
  refine x_imul rfl ?_
  refine x_pIn lp_M_362 nf_13_40 k0 rfl rfl (fun D1 eD1 => ?_)
  have h := h D1 eD1
  refine x_iconst (v := (0 : Int32)) rfl rfl ?_
  refine x_istore_n (i := 1) (L1 := [(1, .int (0 : Int32)), (0, .ref a0)]) rfl rfl (Nat.le_of_ble_eq_true rfl) rfl ?_
  exact xP_sub [1, 0] rfl h
theorem s_M_shuffle_15 {d : Nat} {D : xD} {Q : Option Value → xD → Prop} {a0 : Nat} {x1 : Int32} (k0 : xk a0 = 13) (h : ((D.1 a0 40) ≤ x1 → xPf (d + 1) m_M_shuffle 48 [(0, .ref a0), (1, .int ((D.1 a0 40) - (1 : Int32)))] [] D Q) ∧ (¬ (D.1 a0 40) ≤ x1 → ¬ (D.1 a0 28) = 0 ∧ vp_in x1 (xl (a0 + 20)) ∧ ∀ D1 : xD, D1 = (xu D.1 (a0 + 20) (x1 : Int32).toNatClampNeg (x1 / (D.1 a0 28)), D.2) → xPf (d + 1) m_M_shuffle 15 [(0, .ref a0), (1, .int (x1 + (1 : Int32)))] [] D1 Q)) : xPf (d + 1) m_M_shuffle 15 [(0, .ref a0), (1, .int x1)] [] D Q := by
  refine x_iload_n rfl rfl ?_
  refine x_aload_n rfl rfl ?_
  refine x_gI lf_M_362 k0 rfl rfl ?_
  refine x_icmp_ge (tgt := 41) rfl rfl (fun c => ?_) (fun c => ?_)
  · have h := h.1 c
    refine x_aload_n rfl rfl ?_
    refine x_gI lf_M_362 k0 rfl rfl ?_
    refine x_iconst (v := (1 : Int32)) rfl rfl ?_
    refine x_isub rfl ?_
    refine x_istore_n (i := 1) (L1 := [(1, .int ((D.1 a0 40) - (1 : Int32))), (0, .ref a0)]) rfl rfl (Nat.le_of_ble_eq_true rfl) rfl ?_
    exact xP_sub [1, 0] rfl h
  · have h := h.2 c
    refine x_aload_n rfl rfl ?_
    refine x_gR lf_M_68 k0 rfl rfl ?_
    refine x_iload_n rfl rfl ?_
    refine x_iload_n rfl rfl ?_
    refine x_aload_n rfl rfl ?_
    refine x_gI lf_M_338 k0 rfl rfl ?_
    refine x_idiv rfl h.1 ?_
    have h := h.2
    refine x_iastn (ck_13_39 k0) h.1 rfl (fun D1 eD1 => ?_)
    have h := h.2 D1 eD1
    refine x_iinc (i := 1) (v := x1 + (1 : Int32)) (L1 := [(1, .int (x1 + (1 : Int32))), (0, .ref a0)]) rfl rfl rfl (Nat.le_of_ble_eq_true rfl) rfl ?_
    refine x_goto (tgt := 15) rfl rfl ?_
    exact xP_sub [1, 0] rfl h
theorem s_M_shuffle_48 {d : Nat} {D : xD} {Q : Option Value → xD → Prop} {a0 : Nat} {x1 : Int32} (k0 : xk a0 = 13) (h : (x1 ≤ 0 → Q none D) ∧ (¬ x1 ≤ 0 → xCi d m_M_draw [.ref a0, .int (x1 + (1 : Int32))] D (fun r2 D1 => vp_in x1 (xl (a0 + 20)) ∧ vp_in r2 (xl (a0 + 20)) ∧ vp_in x1 (xl (a0 + 20)) ∧ ∀ D3 : xD, D3 = (xu D1.1 (a0 + 20) (x1 : Int32).toNatClampNeg (D1.1 (a0 + 20) (r2 : Int32).toNatClampNeg), D1.2) → vp_in r2 (xl (a0 + 20)) ∧ ∀ D4 : xD, D4 = (xu D3.1 (a0 + 20) (r2 : Int32).toNatClampNeg (D1.1 (a0 + 20) (x1 : Int32).toNatClampNeg), D3.2) → xPf (d + 1) m_M_shuffle 48 [(0, .ref a0), (1, .int (x1 + (-1 : Int32)))] [] D4 Q))) : xPf (d + 1) m_M_shuffle 48 [(0, .ref a0), (1, .int x1)] [] D Q := by
  refine x_iload_n rfl rfl ?_
  refine x_if_le (tgt := 92) rfl rfl (fun c => ?_) (fun c => ?_)
  · have h := h.1 c
    exact x_vret rfl rfl h
  · have h := h.2 c
    refine x_aload_n rfl rfl ?_
    refine x_iload_n rfl rfl ?_
    refine x_iconst (v := (1 : Int32)) rfl rfl ?_
    refine x_iadd rfl ?_
    refine x_vi lm_M_482 vf_M_draw k0 rfl rfl (Nat.le_of_ble_eq_true rfl) rfl h (fun r2 D1 h => ?_)
    refine x_istore_n (i := 2) (L1 := [(2, .int r2), (0, .ref a0), (1, .int x1)]) rfl rfl (Nat.le_of_ble_eq_true rfl) rfl ?_
    refine x_aload_n rfl rfl ?_
    refine x_gR lf_M_68 k0 rfl rfl ?_
    refine x_iload_n rfl rfl ?_
    refine x_iald (ck_13_39 k0) (xlt (ck_13_39 k0) (by decide)) h.1 rfl ?_
    have h := h.2
    refine x_istore_n (i := 3) (L1 := [(3, .int (D1.1 (a0 + 20) (x1 : Int32).toNatClampNeg)), (2, .int r2), (0, .ref a0), (1, .int x1)]) rfl rfl (Nat.le_of_ble_eq_true rfl) rfl ?_
    refine x_aload_n rfl rfl ?_
    refine x_gR lf_M_68 k0 rfl rfl ?_
    refine x_iload_n rfl rfl ?_
    refine x_aload_n rfl rfl ?_
    refine x_gR lf_M_68 k0 rfl rfl ?_
    refine x_iload_n rfl rfl ?_
    refine x_iald (ck_13_39 k0) (xlt (ck_13_39 k0) (by decide)) h.1 rfl ?_
    have h := h.2
    refine x_iastn (ck_13_39 k0) h.1 rfl (fun D3 eD3 => ?_)
    have h := h.2 D3 eD3
    refine x_aload_n rfl rfl ?_
    refine x_gR lf_M_68 k0 rfl rfl ?_
    refine x_iload_n rfl rfl ?_
    refine x_iload_n rfl rfl ?_
    refine x_iastn (ck_13_39 k0) h.1 rfl (fun D4 eD4 => ?_)
    have h := h.2 D4 eD4
    refine x_iinc (i := 1) (v := x1 + (-1 : Int32)) (L1 := [(1, .int (x1 + (-1 : Int32))), (3, .int (D1.1 (a0 + 20) (x1 : Int32).toNatClampNeg)), (2, .int r2), (0, .ref a0)]) rfl rfl rfl (Nat.le_of_ble_eq_true rfl) rfl ?_
    refine x_goto (tgt := 48) rfl rfl ?_
    exact xP_sub [3, 0] rfl h
theorem s_M_shuffled_0 {d : Nat} {D : xD} {Q : Option Value → xD → Prop} {a0 : Nat} {x1 : Int32} {x2 : Int32} {x3 : Int32} (k0 : xk a0 = 13) (h : ∀ D1 : xD, D1 = (xu D.1 a0 0 (0 : Int32), D.2) → xCi d m_M_hand1 [.ref a0, .int x1] D1 (fun r3 D2 => (¬ r3 = 0 → ∀ D4 : xD, D4 = (xu D2.1 a0 59 x2, D2.2) → xCv d m_M_shuffle [.ref a0] D4 (fun D5 => xCi d m_M_in [.int x3, .int (0 : Int32), .int ((D5.1 a0 40) - (1 : Int32))] D5 (fun r7 D6 => (r7 = 0 → Q (some (.int (-1 : Int32))) D6) ∧ (¬ r7 = 0 → vp_in x3 (xl (a0 + 20)) ∧ Q (some (.int (D6.1 (a0 + 20) (x3 : Int32).toNatClampNeg))) D6)))) ∧ (r3 = 0 → Q (some (.int (-1 : Int32))) D2))) : xPf (d + 1) m_M_shuffled 0 [(0, .ref a0), (1, .int x1), (2, .int x2), (3, .int x3)] [] D Q := by
  refine x_aload_n rfl rfl ?_
  refine x_iconst (v := (0 : Int32)) rfl rfl ?_
  refine x_pIn lp_M_139 nf_13_0 k0 rfl rfl (fun D1 eD1 => ?_)
  have h := h D1 eD1
  refine x_aload_n rfl rfl ?_
  refine x_iload_n rfl rfl ?_
  refine x_vi lm_M_356 vf_M_hand1 k0 rfl rfl (Nat.le_of_ble_eq_true rfl) rfl h (fun r3 D2 h => ?_)
  refine x_if_ne (tgt := 15) rfl rfl (fun c => ?_) (fun c => ?_)
  · have h := h.1 c
    refine x_aload_n rfl rfl ?_
    refine x_iload_n rfl rfl ?_
    refine x_pIn lp_M_478 nf_13_59 k0 rfl rfl (fun D4 eD4 => ?_)
    have h := h D4 eD4
    refine x_aload_n rfl rfl ?_
    refine x_vv lm_M_485 vf_M_shuffle k0 rfl rfl (Nat.le_of_ble_eq_true rfl) rfl h (fun D5 h => ?_)
    refine x_iload_n rfl rfl ?_
    refine x_iconst (v := (0 : Int32)) rfl rfl ?_
    refine x_aload_n rfl rfl ?_
    refine x_gI lf_M_362 k0 rfl rfl ?_
    refine x_iconst (v := (1 : Int32)) rfl rfl ?_
    refine x_isub rfl ?_
    refine x_si lm_M_147 sf_M_in rfl rfl (Nat.le_of_ble_eq_true rfl) rfl h (fun r7 D6 h => ?_)
    refine x_if_eq (tgt := 47) rfl rfl (fun c => ?_) (fun c => ?_)
    · have h := h.1 c
      refine x_iconst (v := (-1 : Int32)) rfl rfl ?_
      exact x_iret rfl rfl h
    · have h := h.2 c
      refine x_aload_n rfl rfl ?_
      refine x_gR lf_M_68 k0 rfl rfl ?_
      refine x_iload_n rfl rfl ?_
      refine x_iald (ck_13_39 k0) (xlt (ck_13_39 k0) (by decide)) h.1 rfl ?_
      have h := h.2
      refine x_goto (tgt := 48) rfl rfl ?_
      exact x_iret rfl rfl h
  · have h := h.2 c
    refine x_iconst (v := (-1 : Int32)) rfl rfl ?_
    exact x_iret rfl rfl h
theorem s_M_letter_0 {d : Nat} {D : xD} {Q : Option Value → xD → Prop} {a0 : Nat} (k0 : xk a0 = 13) (h : vp_in (D.1 a0 56) (xl (a0 + 13)) ∧ vp_in (D.1 (a0 + 13) (D.1 a0 56 : Int32).toNatClampNeg) (xl (a0 + 27)) ∧ vp_in (D.1 (a0 + 13) (D.1 a0 56 : Int32).toNatClampNeg) (xl (a0 + 27)) ∧ ∀ D1 : xD, D1 = (xu D.1 (a0 + 27) (D.1 (a0 + 13) (D.1 a0 56 : Int32).toNatClampNeg : Int32).toNatClampNeg ((D.1 (a0 + 27) (D.1 (a0 + 13) (D.1 a0 56 : Int32).toNatClampNeg : Int32).toNatClampNeg) + (1 : Int32)), D.2) → ∀ D2 : xD, D2 = (xu D1.1 a0 61 ((D1.1 a0 61) + (1 : Int32)), D1.2) → vp_in (D.1 (a0 + 13) (D.1 a0 56 : Int32).toNatClampNeg) (xl (a0 + 27)) ∧ xCi d m_M_of [.ref a0, .int (3 : Int32)] D2 (fun r4 D3 => (¬ (D2.1 (a0 + 27) (D.1 (a0 + 13) (D.1 a0 56 : Int32).toNatClampNeg : Int32).toNatClampNeg) = r4 → Q none D3) ∧ ((D2.1 (a0 + 27) (D.1 (a0 + 13) (D.1 a0 56 : Int32).toNatClampNeg : Int32).toNatClampNeg) = r4 → vp_in (D.1 (a0 + 13) (D.1 a0 56 : Int32).toNatClampNeg) (xl (a0 + 30)) ∧ ∀ D5 : xD, D5 = (xu D3.1 (a0 + 30) (D.1 (a0 + 13) (D.1 a0 56 : Int32).toNatClampNeg : Int32).toNatClampNeg ((D3.1 a0 61) - (1 : Int32)), D3.2) → (¬ (D5.1 a0 62) = (-1 : Int32) → ∀ D6 : xD, D6 = (xu D5.1 a0 62 (D5.1 a0 62), D5.2) → xPf (d + 1) m_M_letter 80 [(0, .ref a0), (1, .int (D.1 (a0 + 13) (D.1 a0 56 : Int32).toNatClampNeg)), (2, .int (0 : Int32)), (3, .int (0 : Int32))] [] D6 Q) ∧ ((D5.1 a0 62) = (-1 : Int32) → ∀ D7 : xD, D7 = (xu D5.1 a0 62 (D.1 (a0 + 13) (D.1 a0 56 : Int32).toNatClampNeg), D5.2) → xPf (d + 1) m_M_letter 80 [(0, .ref a0), (1, .int (D.1 (a0 + 13) (D.1 a0 56 : Int32).toNatClampNeg)), (2, .int (0 : Int32)), (3, .int (0 : Int32))] [] D7 Q)))) : xPf (d + 1) m_M_letter 0 [(0, .ref a0)] [] D Q := by
  refine x_aload_n rfl rfl ?_
  refine x_gR lf_M_47 k0 rfl rfl ?_
  refine x_aload_n rfl rfl ?_
  refine x_gI lf_M_463 k0 rfl rfl ?_
  refine x_iald (ck_13_32 k0) (xlt (ck_13_32 k0) (by decide)) h.1 rfl ?_
  have h := h.2
  refine x_istore_n (i := 1) (L1 := [(1, .int (D.1 (a0 + 13) (D.1 a0 56 : Int32).toNatClampNeg)), (0, .ref a0)]) rfl rfl (Nat.le_of_ble_eq_true rfl) rfl ?_
  refine x_aload_n rfl rfl ?_
  refine x_gR lf_M_89 k0 rfl rfl ?_
  refine x_iload_n rfl rfl ?_
  refine x_dup2 rfl rfl rfl ?_
  refine x_iald (ck_13_52 k0) (xlt (ck_13_52 k0) (by decide)) h.1 rfl ?_
  have h := h.2
  refine x_iconst (v := (1 : Int32)) rfl rfl ?_
  refine x_iadd rfl ?_
  refine x_iastn (ck_13_52 k0) h.1 rfl (fun D1 eD1 => ?_)
  have h := h.2 D1 eD1
  refine x_aload_n rfl rfl ?_
  refine x_dup rfl rfl ?_
  refine x_gI lf_M_488 k0 rfl rfl ?_
  refine x_iconst (v := (1 : Int32)) rfl rfl ?_
  refine x_iadd rfl ?_
  refine x_pIn lp_M_488 nf_13_61 k0 rfl rfl (fun D2 eD2 => ?_)
  have h := h D2 eD2
  refine x_aload_n rfl rfl ?_
  refine x_gR lf_M_89 k0 rfl rfl ?_
  refine x_iload_n rfl rfl ?_
  refine x_iald (ck_13_52 k0) (xlt (ck_13_52 k0) (by decide)) h.1 rfl ?_
  have h := h.2
  refine x_aload_n rfl rfl ?_
  refine x_iconst (v := (3 : Int32)) rfl rfl ?_
  refine x_vi lm_M_331 vf_M_of k0 rfl rfl (Nat.le_of_ble_eq_true rfl) rfl h (fun r4 D3 h => ?_)
  refine x_icmp_ne (tgt := 124) rfl rfl (fun c => ?_) (fun c => ?_)
  · have h := h.1 c
    exact x_vret rfl rfl h
  · have h := h.2 c
    refine x_aload_n rfl rfl ?_
    refine x_gR lf_M_98 k0 rfl rfl ?_
    refine x_iload_n rfl rfl ?_
    refine x_aload_n rfl rfl ?_
    refine x_gI lf_M_488 k0 rfl rfl ?_
    refine x_iconst (v := (1 : Int32)) rfl rfl ?_
    refine x_isub rfl ?_
    refine x_iastn (ck_13_60 k0) h.1 rfl (fun D5 eD5 => ?_)
    have h := h.2 D5 eD5
    refine x_aload_n rfl rfl ?_
    refine x_aload_n rfl rfl ?_
    refine x_gI lf_M_491 k0 rfl rfl ?_
    refine x_iconst (v := (-1 : Int32)) rfl rfl ?_
    refine x_icmp_ne (tgt := 69) rfl rfl (fun c => ?_) (fun c => ?_)
    · have h := h.1 c
      refine x_aload_n rfl rfl ?_
      refine x_gI lf_M_491 k0 rfl rfl ?_
      refine x_pIn lp_M_491 nf_13_62 k0 rfl rfl (fun D6 eD6 => ?_)
      have h := h D6 eD6
      refine x_iconst (v := (0 : Int32)) rfl rfl ?_
      refine x_istore_n (i := 2) (L1 := [(2, .int (0 : Int32)), (1, .int (D.1 (a0 + 13) (D.1 a0 56 : Int32).toNatClampNeg)), (0, .ref a0)]) rfl rfl (Nat.le_of_ble_eq_true rfl) rfl ?_
      refine x_iconst (v := (0 : Int32)) rfl rfl ?_
      refine x_istore_n (i := 3) (L1 := [(3, .int (0 : Int32)), (2, .int (0 : Int32)), (1, .int (D.1 (a0 + 13) (D.1 a0 56 : Int32).toNatClampNeg)), (0, .ref a0)]) rfl rfl (Nat.le_of_ble_eq_true rfl) rfl ?_
      exact xP_sub [3, 2, 1, 0] rfl h
    · have h := h.2 c
      refine x_iload_n rfl rfl ?_
      refine x_goto (tgt := 73) rfl rfl ?_
      refine x_pIn lp_M_491 nf_13_62 k0 rfl rfl (fun D7 eD7 => ?_)
      have h := h D7 eD7
      refine x_iconst (v := (0 : Int32)) rfl rfl ?_
      refine x_istore_n (i := 2) (L1 := [(2, .int (0 : Int32)), (1, .int (D.1 (a0 + 13) (D.1 a0 56 : Int32).toNatClampNeg)), (0, .ref a0)]) rfl rfl (Nat.le_of_ble_eq_true rfl) rfl ?_
      refine x_iconst (v := (0 : Int32)) rfl rfl ?_
      refine x_istore_n (i := 3) (L1 := [(3, .int (0 : Int32)), (2, .int (0 : Int32)), (1, .int (D.1 (a0 + 13) (D.1 a0 56 : Int32).toNatClampNeg)), (0, .ref a0)]) rfl rfl (Nat.le_of_ble_eq_true rfl) rfl ?_
      exact xP_sub [3, 2, 1, 0] rfl h
theorem s_M_letter_80 {d : Nat} {D : xD} {Q : Option Value → xD → Prop} {a0 : Nat} {x1 : Int32} {x2 : Int32} {x3 : Int32} (k0 : xk a0 = 13) (h : ((D.1 a0 31) ≤ x3 → xCv d m_M_sit [.ref a0, .int x2] D (fun D1 => Q none D1)) ∧ (¬ (D.1 a0 31) ≤ x3 → vp_in x3 (xl (a0 + 13)) ∧ ((D.1 (a0 + 13) (x3 : Int32).toNatClampNeg) = x1 → xPf (d + 1) m_M_letter 80 [(0, .ref a0), (1, .int x1), (2, .int x2), (3, .int (x3 + (1 : Int32)))] [] D Q) ∧ (¬ (D.1 (a0 + 13) (x3 : Int32).toNatClampNeg) = x1 → vp_in x3 (xl (a0 + 13)) ∧ vp_in x2 (xl (a0 + 13)) ∧ ∀ D2 : xD, D2 = (xu D.1 (a0 + 13) (x2 : Int32).toNatClampNeg (D.1 (a0 + 13) (x3 : Int32).toNatClampNeg), D.2) → xPf (d + 1) m_M_letter 80 [(0, .ref a0), (1, .int x1), (2, .int (x2 + (1 : Int32))), (3, .int (x3 + (1 : Int32)))] [] D2 Q))) : xPf (d + 1) m_M_letter 80 [(0, .ref a0), (1, .int x1), (2, .int x2), (3, .int x3)] [] D Q := by
  refine x_iload_n rfl rfl ?_
  refine x_aload_n rfl rfl ?_
  refine x_gI lf_M_350 k0 rfl rfl ?_
  refine x_icmp_ge (tgt := 119) rfl rfl (fun c => ?_) (fun c => ?_)
  · have h := h.1 c
    refine x_aload_n rfl rfl ?_
    refine x_iload_n rfl rfl ?_
    refine x_vv lm_M_347 vf_M_sit k0 rfl rfl (Nat.le_of_ble_eq_true rfl) rfl h (fun D1 h => ?_)
    exact x_vret rfl rfl h
  · have h := h.2 c
    refine x_aload_n rfl rfl ?_
    refine x_gR lf_M_47 k0 rfl rfl ?_
    refine x_iload_n rfl rfl ?_
    refine x_iald (ck_13_32 k0) (xlt (ck_13_32 k0) (by decide)) h.1 rfl ?_
    have h := h.2
    refine x_iload_n rfl rfl ?_
    refine x_icmp_eq (tgt := 113) rfl rfl (fun c => ?_) (fun c => ?_)
    · have h := h.1 c
      refine x_iinc (i := 3) (v := x3 + (1 : Int32)) (L1 := [(3, .int (x3 + (1 : Int32))), (0, .ref a0), (1, .int x1), (2, .int x2)]) rfl rfl rfl (Nat.le_of_ble_eq_true rfl) rfl ?_
      refine x_goto (tgt := 80) rfl rfl ?_
      exact xP_sub [1, 2, 3, 0] rfl h
    · have h := h.2 c
      refine x_aload_n rfl rfl ?_
      refine x_gR lf_M_47 k0 rfl rfl ?_
      refine x_iload_n rfl rfl ?_
      refine x_aload_n rfl rfl ?_
      refine x_gR lf_M_47 k0 rfl rfl ?_
      refine x_iload_n rfl rfl ?_
      refine x_iald (ck_13_32 k0) (xlt (ck_13_32 k0) (by decide)) h.1 rfl ?_
      have h := h.2
      refine x_iastn (ck_13_32 k0) h.1 rfl (fun D2 eD2 => ?_)
      have h := h.2 D2 eD2
      refine x_iinc (i := 2) (v := x2 + (1 : Int32)) (L1 := [(2, .int (x2 + (1 : Int32))), (0, .ref a0), (1, .int x1), (3, .int x3)]) rfl rfl rfl (Nat.le_of_ble_eq_true rfl) rfl ?_
      refine x_iinc (i := 3) (v := x3 + (1 : Int32)) (L1 := [(3, .int (x3 + (1 : Int32))), (2, .int (x2 + (1 : Int32))), (0, .ref a0), (1, .int x1)]) rfl rfl rfl (Nat.le_of_ble_eq_true rfl) rfl ?_
      refine x_goto (tgt := 80) rfl rfl ?_
      exact xP_sub [2, 3, 1, 0] rfl h
theorem s_M_playEvening_0 {d : Nat} {D : xD} {Q : Option Value → xD → Prop} {a0 : Nat} (k0 : xk a0 = 13) (h : ∀ D1 : xD, D1 = (xu D.1 a0 61 (0 : Int32), D.2) → ∀ D2 : xD, D2 = (xu D1.1 a0 62 (-1 : Int32), D1.2) → xPf (d + 1) m_M_playEvening 12 [(0, .ref a0), (1, .int (0 : Int32))] [] D2 Q) : xPf (d + 1) m_M_playEvening 0 [(0, .ref a0)] [] D Q := by
  refine x_aload_n rfl rfl ?_
  refine x_iconst (v := (0 : Int32)) rfl rfl ?_
  refine x_pIn lp_M_488 nf_13_61 k0 rfl rfl (fun D1 eD1 => ?_)
  have h := h D1 eD1
  refine x_aload_n rfl rfl ?_
  refine x_iconst (v := (-1 : Int32)) rfl rfl ?_
  refine x_pIn lp_M_491 nf_13_62 k0 rfl rfl (fun D2 eD2 => ?_)
  have h := h D2 eD2
  refine x_iconst (v := (0 : Int32)) rfl rfl ?_
  refine x_istore_n (i := 1) (L1 := [(1, .int (0 : Int32)), (0, .ref a0)]) rfl rfl (Nat.le_of_ble_eq_true rfl) rfl ?_
  exact xP_sub [1, 0] rfl h
theorem s_M_playEvening_12 {d : Nat} {D : xD} {Q : Option Value → xD → Prop} {a0 : Nat} {x1 : Int32} (k0 : xk a0 = 13) (h : ((6 : Int32) ≤ x1 → xPf (d + 1) m_M_playEvening 40 [(0, .ref a0), (1, .int (1 : Int32))] [] D Q) ∧ (¬ (6 : Int32) ≤ x1 → vp_in x1 (xl (a0 + 27)) ∧ ∀ D1 : xD, D1 = (xu D.1 (a0 + 27) (x1 : Int32).toNatClampNeg (0 : Int32), D.2) → vp_in x1 (xl (a0 + 30)) ∧ ∀ D2 : xD, D2 = (xu D1.1 (a0 + 30) (x1 : Int32).toNatClampNeg (-1 : Int32), D1.2) → xPf (d + 1) m_M_playEvening 12 [(0, .ref a0), (1, .int (x1 + (1 : Int32)))] [] D2 Q)) : xPf (d + 1) m_M_playEvening 12 [(0, .ref a0), (1, .int x1)] [] D Q := by
  refine x_iload_n rfl rfl ?_
  refine x_bipush (v := (6 : Int32)) rfl rfl ?_
  refine x_icmp_ge (tgt := 38) rfl rfl (fun c => ?_) (fun c => ?_)
  · have h := h.1 c
    refine x_iconst (v := (1 : Int32)) rfl rfl ?_
    refine x_istore_n (i := 1) (L1 := [(1, .int (1 : Int32)), (0, .ref a0)]) rfl rfl (Nat.le_of_ble_eq_true rfl) rfl ?_
    exact xP_sub [1, 0] rfl h
  · have h := h.2 c
    refine x_aload_n rfl rfl ?_
    refine x_gR lf_M_89 k0 rfl rfl ?_
    refine x_iload_n rfl rfl ?_
    refine x_iconst (v := (0 : Int32)) rfl rfl ?_
    refine x_iastn (ck_13_52 k0) h.1 rfl (fun D1 eD1 => ?_)
    have h := h.2 D1 eD1
    refine x_aload_n rfl rfl ?_
    refine x_gR lf_M_98 k0 rfl rfl ?_
    refine x_iload_n rfl rfl ?_
    refine x_iconst (v := (-1 : Int32)) rfl rfl ?_
    refine x_iastn (ck_13_60 k0) h.1 rfl (fun D2 eD2 => ?_)
    have h := h.2 D2 eD2
    refine x_iinc (i := 1) (v := x1 + (1 : Int32)) (L1 := [(1, .int (x1 + (1 : Int32))), (0, .ref a0)]) rfl rfl rfl (Nat.le_of_ble_eq_true rfl) rfl ?_
    refine x_goto (tgt := 12) rfl rfl ?_
    exact xP_sub [1, 0] rfl h
theorem s_M_playEvening_40 {d : Nat} {D : xD} {Q : Option Value → xD → Prop} {a0 : Nat} {x1 : Int32} (k0 : xk a0 = 13) (h : (x1 = 0 → Q none D) ∧ (¬ x1 = 0 → ((D.1 a0 31) ≤ (1 : Int32) → Q none D) ∧ (¬ (D.1 a0 31) ≤ (1 : Int32) → xCv d m_M_shuffle [.ref a0] D (fun D1 => xCi d m_M_ends [.ref a0] D1 (fun r3 D2 => (r3 = 0 → xPf (d + 1) m_M_playEvening 40 [(0, .ref a0), (1, .int r3)] [] D2 Q) ∧ (¬ r3 = 0 → xCv d m_M_letter [.ref a0] D2 (fun D4 => xPf (d + 1) m_M_playEvening 40 [(0, .ref a0), (1, .int r3)] [] D4 Q))))))) : xPf (d + 1) m_M_playEvening 40 [(0, .ref a0), (1, .int x1)] [] D Q := by
  refine x_iload_n rfl rfl ?_
  refine x_if_eq (tgt := 72) rfl rfl (fun c => ?_) (fun c => ?_)
  · have h := h.1 c
    exact x_vret rfl rfl h
  · have h := h.2 c
    refine x_aload_n rfl rfl ?_
    refine x_gI lf_M_350 k0 rfl rfl ?_
    refine x_iconst (v := (1 : Int32)) rfl rfl ?_
    refine x_icmp_le (tgt := 72) rfl rfl (fun c => ?_) (fun c => ?_)
    · have h := h.1 c
      exact x_vret rfl rfl h
    · have h := h.2 c
      refine x_aload_n rfl rfl ?_
      refine x_vv lm_M_485 vf_M_shuffle k0 rfl rfl (Nat.le_of_ble_eq_true rfl) rfl h (fun D1 h => ?_)
      refine x_aload_n rfl rfl ?_
      refine x_vi lm_M_466 vf_M_ends k0 rfl rfl (Nat.le_of_ble_eq_true rfl) rfl h (fun r3 D2 h => ?_)
      refine x_istore_n (i := 1) (L1 := [(1, .int r3), (0, .ref a0)]) rfl rfl (Nat.le_of_ble_eq_true rfl) rfl ?_
      refine x_iload_n rfl rfl ?_
      refine x_if_eq (tgt := 40) rfl rfl (fun c => ?_) (fun c => ?_)
      · have h := h.1 c
        exact xP_sub [1, 0] rfl h
      · have h := h.2 c
        refine x_aload_n rfl rfl ?_
        refine x_vv lm_M_494 vf_M_letter k0 rfl rfl (Nat.le_of_ble_eq_true rfl) rfl h (fun D4 h => ?_)
        refine x_goto (tgt := 40) rfl rfl ?_
        exact xP_sub [1, 0] rfl h
theorem s_M_evening_0 {d : Nat} {D : xD} {Q : Option Value → xD → Prop} {a0 : Nat} {x1 : Int32} {x2 : Int32} {x3 : Int32} (k0 : xk a0 = 13) (h : ∀ D1 : xD, D1 = (xu D.1 a0 0 (0 : Int32), D.2) → xCi d m_M_hand1 [.ref a0, .int x1] D1 (fun r3 D2 => (r3 = 0 → Q (some (.int (-2 : Int32))) D2) ∧ (¬ r3 = 0 → xCi d m_M_in [.int x3, .int (0 : Int32), .int (2 : Int32)] D2 (fun r5 D4 => (¬ r5 = 0 → ∀ D6 : xD, D6 = (xu D4.1 a0 59 x2, D4.2) → xCv d m_M_playEvening [.ref a0] D6 (fun D7 => (x3 = (0 : Int32) → (¬ (D7.1 a0 31) = (1 : Int32) → Q (some (.int (-1 : Int32))) D7) ∧ ((D7.1 a0 31) = (1 : Int32) → vp_in (0 : Int32) (xl (a0 + 13)) ∧ Q (some (.int (D7.1 (a0 + 13) ((0 : Int32) : Int32).toNatClampNeg))) D7)) ∧ (x3 = (1 : Int32) → Q (some (.int (D7.1 a0 61))) D7) ∧ (x3 = (2 : Int32) → Q (some (.int (D7.1 a0 62))) D7) ∧ (((x3).toInt < 0 ∨ 2 < (x3).toInt) → ((20 : Int32) ≤ x3 → vp_in (x3 - (20 : Int32)) (xl (a0 + 30)) ∧ Q (some (.int (D7.1 (a0 + 30) (x3 - (20 : Int32) : Int32).toNatClampNeg))) D7) ∧ (¬ (20 : Int32) ≤ x3 → vp_in (x3 - (10 : Int32)) (xl (a0 + 27)) ∧ Q (some (.int (D7.1 (a0 + 27) (x3 - (10 : Int32) : Int32).toNatClampNeg))) D7)))) ∧ (r5 = 0 → xCi d m_M_in [.int x3, .int (10 : Int32), .int ((9 : Int32) + (D4.1 a0 30))] D4 (fun r9 D8 => (¬ r9 = 0 → ∀ D10 : xD, D10 = (xu D8.1 a0 59 x2, D8.2) → xCv d m_M_playEvening [.ref a0] D10 (fun D11 => (x3 = (0 : Int32) → (¬ (D11.1 a0 31) = (1 : Int32) → Q (some (.int (-1 : Int32))) D11) ∧ ((D11.1 a0 31) = (1 : Int32) → vp_in (0 : Int32) (xl (a0 + 13)) ∧ Q (some (.int (D11.1 (a0 + 13) ((0 : Int32) : Int32).toNatClampNeg))) D11)) ∧ (x3 = (1 : Int32) → Q (some (.int (D11.1 a0 61))) D11) ∧ (x3 = (2 : Int32) → Q (some (.int (D11.1 a0 62))) D11) ∧ (((x3).toInt < 0 ∨ 2 < (x3).toInt) → ((20 : Int32) ≤ x3 → vp_in (x3 - (20 : Int32)) (xl (a0 + 30)) ∧ Q (some (.int (D11.1 (a0 + 30) (x3 - (20 : Int32) : Int32).toNatClampNeg))) D11) ∧ (¬ (20 : Int32) ≤ x3 → vp_in (x3 - (10 : Int32)) (xl (a0 + 27)) ∧ Q (some (.int (D11.1 (a0 + 27) (x3 - (10 : Int32) : Int32).toNatClampNeg))) D11)))) ∧ (r9 = 0 → xCi d m_M_in [.int x3, .int (20 : Int32), .int ((19 : Int32) + (D8.1 a0 30))] D8 (fun r13 D12 => (¬ r13 = 0 → ∀ D14 : xD, D14 = (xu D12.1 a0 59 x2, D12.2) → xCv d m_M_playEvening [.ref a0] D14 (fun D15 => (x3 = (0 : Int32) → (¬ (D15.1 a0 31) = (1 : Int32) → Q (some (.int (-1 : Int32))) D15) ∧ ((D15.1 a0 31) = (1 : Int32) → vp_in (0 : Int32) (xl (a0 + 13)) ∧ Q (some (.int (D15.1 (a0 + 13) ((0 : Int32) : Int32).toNatClampNeg))) D15)) ∧ (x3 = (1 : Int32) → Q (some (.int (D15.1 a0 61))) D15) ∧ (x3 = (2 : Int32) → Q (some (.int (D15.1 a0 62))) D15) ∧ (((x3).toInt < 0 ∨ 2 < (x3).toInt) → ((20 : Int32) ≤ x3 → vp_in (x3 - (20 : Int32)) (xl (a0 + 30)) ∧ Q (some (.int (D15.1 (a0 + 30) (x3 - (20 : Int32) : Int32).toNatClampNeg))) D15) ∧ (¬ (20 : Int32) ≤ x3 → vp_in (x3 - (10 : Int32)) (xl (a0 + 27)) ∧ Q (some (.int (D15.1 (a0 + 27) (x3 - (10 : Int32) : Int32).toNatClampNeg))) D15)))) ∧ (r13 = 0 → Q (some (.int (-2 : Int32))) D12))))))))) : xPf (d + 1) m_M_evening 0 [(0, .ref a0), (1, .int x1), (2, .int x2), (3, .int x3)] [] D Q := by
  refine x_aload_n rfl rfl ?_
  refine x_iconst (v := (0 : Int32)) rfl rfl ?_
  refine x_pIn lp_M_139 nf_13_0 k0 rfl rfl (fun D1 eD1 => ?_)
  have h := h D1 eD1
  refine x_aload_n rfl rfl ?_
  refine x_iload_n rfl rfl ?_
  refine x_vi lm_M_356 vf_M_hand1 k0 rfl rfl (Nat.le_of_ble_eq_true rfl) rfl h (fun r3 D2 h => ?_)
  refine x_if_eq (tgt := 54) rfl rfl (fun c => ?_) (fun c => ?_)
  · have h := h.1 c
    refine x_bipush (v := (-2 : Int32)) rfl rfl ?_
    exact x_iret rfl rfl h
  · have h := h.2 c
    refine x_iload_n rfl rfl ?_
    refine x_iconst (v := (0 : Int32)) rfl rfl ?_
    refine x_iconst (v := (2 : Int32)) rfl rfl ?_
    refine x_si lm_M_147 sf_M_in rfl rfl (Nat.le_of_ble_eq_true rfl) rfl h (fun r5 D4 h => ?_)
    refine x_if_ne (tgt := 57) rfl rfl (fun c => ?_) (fun c => ?_)
    · have h := h.1 c
      refine x_aload_n rfl rfl ?_
      refine x_iload_n rfl rfl ?_
      refine x_pIn lp_M_478 nf_13_59 k0 rfl rfl (fun D6 eD6 => ?_)
      have h := h D6 eD6
      refine x_aload_n rfl rfl ?_
      refine x_vv lm_M_497 vf_M_playEvening k0 rfl rfl (Nat.le_of_ble_eq_true rfl) rfl h (fun D7 h => ?_)
      refine x_iload_n rfl rfl ?_
      rcases Decidable.em ((x3).toInt < 0 ∨ 2 < (x3).toInt) with q | q
      · refine x_tableOut (tgt := 121) rfl q rfl ?_
        have h := h.2.2.2 q
        refine x_iload_n rfl rfl ?_
        refine x_bipush (v := (20 : Int32)) rfl rfl ?_
        refine x_icmp_ge (tgt := 139) rfl rfl (fun c => ?_) (fun c => ?_)
        · have h := h.1 c
          refine x_aload_n rfl rfl ?_
          refine x_gR lf_M_98 k0 rfl rfl ?_
          refine x_iload_n rfl rfl ?_
          refine x_bipush (v := (20 : Int32)) rfl rfl ?_
          refine x_isub rfl ?_
          refine x_iald (ck_13_60 k0) (xlt (ck_13_60 k0) (by decide)) h.1 rfl ?_
          have h := h.2
          exact x_iret rfl rfl h
        · have h := h.2 c
          refine x_aload_n rfl rfl ?_
          refine x_gR lf_M_89 k0 rfl rfl ?_
          refine x_iload_n rfl rfl ?_
          refine x_bipush (v := (10 : Int32)) rfl rfl ?_
          refine x_isub rfl ?_
          refine x_iald (ck_13_52 k0) (xlt (ck_13_52 k0) (by decide)) h.1 rfl ?_
          have h := h.2
          refine x_goto (tgt := 148) rfl rfl ?_
          exact x_iret rfl rfl h
      · have q : (x3).toInt = 0 ∨ (x3).toInt = 1 ∨ (x3).toInt = 2 := by omega
        rcases q with q | q | q
        · have q : x3 = (0 : Int32) := Int32.toInt_inj.mp q
          refine x_tabK (k := (0 : Int32)) (tgt := 92) q rfl (by decide) (by decide) rfl rfl ?_
          have h := h.1 q
          refine x_aload_n rfl rfl ?_
          refine x_gI lf_M_350 k0 rfl rfl ?_
          refine x_iconst (v := (1 : Int32)) rfl rfl ?_
          refine x_icmp_ne (tgt := 109) rfl rfl (fun c => ?_) (fun c => ?_)
          · have h := h.1 c
            refine x_iconst (v := (-1 : Int32)) rfl rfl ?_
            exact x_iret rfl rfl h
          · have h := h.2 c
            refine x_aload_n rfl rfl ?_
            refine x_gR lf_M_47 k0 rfl rfl ?_
            refine x_iconst (v := (0 : Int32)) rfl rfl ?_
            refine x_iald (ck_13_32 k0) (xlt (ck_13_32 k0) (by decide)) h.1 rfl ?_
            have h := h.2
            refine x_goto (tgt := 110) rfl rfl ?_
            exact x_iret rfl rfl h
        · have q : x3 = (1 : Int32) := Int32.toInt_inj.mp q
          refine x_tabK (k := (1 : Int32)) (tgt := 111) q rfl (by decide) (by decide) rfl rfl ?_
          have h := h.2.1 q
          refine x_aload_n rfl rfl ?_
          refine x_gI lf_M_488 k0 rfl rfl ?_
          exact x_iret rfl rfl h
        · have q : x3 = (2 : Int32) := Int32.toInt_inj.mp q
          refine x_tabK (k := (2 : Int32)) (tgt := 116) q rfl (by decide) (by decide) rfl rfl ?_
          have h := h.2.2.1 q
          refine x_aload_n rfl rfl ?_
          refine x_gI lf_M_491 k0 rfl rfl ?_
          exact x_iret rfl rfl h
    · have h := h.2 c
      refine x_iload_n rfl rfl ?_
      refine x_bipush (v := (10 : Int32)) rfl rfl ?_
      refine x_bipush (v := (9 : Int32)) rfl rfl ?_
      refine x_aload_n rfl rfl ?_
      refine x_gI lf_M_344 k0 rfl rfl ?_
      refine x_iadd rfl ?_
      refine x_si lm_M_147 sf_M_in rfl rfl (Nat.le_of_ble_eq_true rfl) rfl h (fun r9 D8 h => ?_)
      refine x_if_ne (tgt := 57) rfl rfl (fun c => ?_) (fun c => ?_)
      · have h := h.1 c
        refine x_aload_n rfl rfl ?_
        refine x_iload_n rfl rfl ?_
        refine x_pIn lp_M_478 nf_13_59 k0 rfl rfl (fun D10 eD10 => ?_)
        have h := h D10 eD10
        refine x_aload_n rfl rfl ?_
        refine x_vv lm_M_497 vf_M_playEvening k0 rfl rfl (Nat.le_of_ble_eq_true rfl) rfl h (fun D11 h => ?_)
        refine x_iload_n rfl rfl ?_
        rcases Decidable.em ((x3).toInt < 0 ∨ 2 < (x3).toInt) with q | q
        · refine x_tableOut (tgt := 121) rfl q rfl ?_
          have h := h.2.2.2 q
          refine x_iload_n rfl rfl ?_
          refine x_bipush (v := (20 : Int32)) rfl rfl ?_
          refine x_icmp_ge (tgt := 139) rfl rfl (fun c => ?_) (fun c => ?_)
          · have h := h.1 c
            refine x_aload_n rfl rfl ?_
            refine x_gR lf_M_98 k0 rfl rfl ?_
            refine x_iload_n rfl rfl ?_
            refine x_bipush (v := (20 : Int32)) rfl rfl ?_
            refine x_isub rfl ?_
            refine x_iald (ck_13_60 k0) (xlt (ck_13_60 k0) (by decide)) h.1 rfl ?_
            have h := h.2
            exact x_iret rfl rfl h
          · have h := h.2 c
            refine x_aload_n rfl rfl ?_
            refine x_gR lf_M_89 k0 rfl rfl ?_
            refine x_iload_n rfl rfl ?_
            refine x_bipush (v := (10 : Int32)) rfl rfl ?_
            refine x_isub rfl ?_
            refine x_iald (ck_13_52 k0) (xlt (ck_13_52 k0) (by decide)) h.1 rfl ?_
            have h := h.2
            refine x_goto (tgt := 148) rfl rfl ?_
            exact x_iret rfl rfl h
        · have q : (x3).toInt = 0 ∨ (x3).toInt = 1 ∨ (x3).toInt = 2 := by omega
          rcases q with q | q | q
          · have q : x3 = (0 : Int32) := Int32.toInt_inj.mp q
            refine x_tabK (k := (0 : Int32)) (tgt := 92) q rfl (by decide) (by decide) rfl rfl ?_
            have h := h.1 q
            refine x_aload_n rfl rfl ?_
            refine x_gI lf_M_350 k0 rfl rfl ?_
            refine x_iconst (v := (1 : Int32)) rfl rfl ?_
            refine x_icmp_ne (tgt := 109) rfl rfl (fun c => ?_) (fun c => ?_)
            · have h := h.1 c
              refine x_iconst (v := (-1 : Int32)) rfl rfl ?_
              exact x_iret rfl rfl h
            · have h := h.2 c
              refine x_aload_n rfl rfl ?_
              refine x_gR lf_M_47 k0 rfl rfl ?_
              refine x_iconst (v := (0 : Int32)) rfl rfl ?_
              refine x_iald (ck_13_32 k0) (xlt (ck_13_32 k0) (by decide)) h.1 rfl ?_
              have h := h.2
              refine x_goto (tgt := 110) rfl rfl ?_
              exact x_iret rfl rfl h
          · have q : x3 = (1 : Int32) := Int32.toInt_inj.mp q
            refine x_tabK (k := (1 : Int32)) (tgt := 111) q rfl (by decide) (by decide) rfl rfl ?_
            have h := h.2.1 q
            refine x_aload_n rfl rfl ?_
            refine x_gI lf_M_488 k0 rfl rfl ?_
            exact x_iret rfl rfl h
          · have q : x3 = (2 : Int32) := Int32.toInt_inj.mp q
            refine x_tabK (k := (2 : Int32)) (tgt := 116) q rfl (by decide) (by decide) rfl rfl ?_
            have h := h.2.2.1 q
            refine x_aload_n rfl rfl ?_
            refine x_gI lf_M_491 k0 rfl rfl ?_
            exact x_iret rfl rfl h
      · have h := h.2 c
        refine x_iload_n rfl rfl ?_
        refine x_bipush (v := (20 : Int32)) rfl rfl ?_
        refine x_bipush (v := (19 : Int32)) rfl rfl ?_
        refine x_aload_n rfl rfl ?_
        refine x_gI lf_M_344 k0 rfl rfl ?_
        refine x_iadd rfl ?_
        refine x_si lm_M_147 sf_M_in rfl rfl (Nat.le_of_ble_eq_true rfl) rfl h (fun r13 D12 h => ?_)
        refine x_if_ne (tgt := 57) rfl rfl (fun c => ?_) (fun c => ?_)
        · have h := h.1 c
          refine x_aload_n rfl rfl ?_
          refine x_iload_n rfl rfl ?_
          refine x_pIn lp_M_478 nf_13_59 k0 rfl rfl (fun D14 eD14 => ?_)
          have h := h D14 eD14
          refine x_aload_n rfl rfl ?_
          refine x_vv lm_M_497 vf_M_playEvening k0 rfl rfl (Nat.le_of_ble_eq_true rfl) rfl h (fun D15 h => ?_)
          refine x_iload_n rfl rfl ?_
          rcases Decidable.em ((x3).toInt < 0 ∨ 2 < (x3).toInt) with q | q
          · refine x_tableOut (tgt := 121) rfl q rfl ?_
            have h := h.2.2.2 q
            refine x_iload_n rfl rfl ?_
            refine x_bipush (v := (20 : Int32)) rfl rfl ?_
            refine x_icmp_ge (tgt := 139) rfl rfl (fun c => ?_) (fun c => ?_)
            · have h := h.1 c
              refine x_aload_n rfl rfl ?_
              refine x_gR lf_M_98 k0 rfl rfl ?_
              refine x_iload_n rfl rfl ?_
              refine x_bipush (v := (20 : Int32)) rfl rfl ?_
              refine x_isub rfl ?_
              refine x_iald (ck_13_60 k0) (xlt (ck_13_60 k0) (by decide)) h.1 rfl ?_
              have h := h.2
              exact x_iret rfl rfl h
            · have h := h.2 c
              refine x_aload_n rfl rfl ?_
              refine x_gR lf_M_89 k0 rfl rfl ?_
              refine x_iload_n rfl rfl ?_
              refine x_bipush (v := (10 : Int32)) rfl rfl ?_
              refine x_isub rfl ?_
              refine x_iald (ck_13_52 k0) (xlt (ck_13_52 k0) (by decide)) h.1 rfl ?_
              have h := h.2
              refine x_goto (tgt := 148) rfl rfl ?_
              exact x_iret rfl rfl h
          · have q : (x3).toInt = 0 ∨ (x3).toInt = 1 ∨ (x3).toInt = 2 := by omega
            rcases q with q | q | q
            · have q : x3 = (0 : Int32) := Int32.toInt_inj.mp q
              refine x_tabK (k := (0 : Int32)) (tgt := 92) q rfl (by decide) (by decide) rfl rfl ?_
              have h := h.1 q
              refine x_aload_n rfl rfl ?_
              refine x_gI lf_M_350 k0 rfl rfl ?_
              refine x_iconst (v := (1 : Int32)) rfl rfl ?_
              refine x_icmp_ne (tgt := 109) rfl rfl (fun c => ?_) (fun c => ?_)
              · have h := h.1 c
                refine x_iconst (v := (-1 : Int32)) rfl rfl ?_
                exact x_iret rfl rfl h
              · have h := h.2 c
                refine x_aload_n rfl rfl ?_
                refine x_gR lf_M_47 k0 rfl rfl ?_
                refine x_iconst (v := (0 : Int32)) rfl rfl ?_
                refine x_iald (ck_13_32 k0) (xlt (ck_13_32 k0) (by decide)) h.1 rfl ?_
                have h := h.2
                refine x_goto (tgt := 110) rfl rfl ?_
                exact x_iret rfl rfl h
            · have q : x3 = (1 : Int32) := Int32.toInt_inj.mp q
              refine x_tabK (k := (1 : Int32)) (tgt := 111) q rfl (by decide) (by decide) rfl rfl ?_
              have h := h.2.1 q
              refine x_aload_n rfl rfl ?_
              refine x_gI lf_M_488 k0 rfl rfl ?_
              exact x_iret rfl rfl h
            · have q : x3 = (2 : Int32) := Int32.toInt_inj.mp q
              refine x_tabK (k := (2 : Int32)) (tgt := 116) q rfl (by decide) (by decide) rfl rfl ?_
              have h := h.2.2.1 q
              refine x_aload_n rfl rfl ?_
              refine x_gI lf_M_491 k0 rfl rfl ?_
              exact x_iret rfl rfl h
        · have h := h.2 c
          refine x_bipush (v := (-2 : Int32)) rfl rfl ?_
          exact x_iret rfl rfl h
theorem s_M_playLuck_0 {d : Nat} {D : xD} {Q : Option Value → xD → Prop} {a0 : Nat} {x1 : Int32} (k0 : xk a0 = 13) (h : ∀ D1 : xD, D1 = (xu D.1 a0 65 (0 : Int32), D.2) → xPf (d + 1) m_M_playLuck 7 [(0, .ref a0), (1, .int x1), (2, .int (0 : Int32))] [] D1 Q) : xPf (d + 1) m_M_playLuck 0 [(0, .ref a0), (1, .int x1)] [] D Q := by
  refine x_aload_n rfl rfl ?_
  refine x_iconst (v := (0 : Int32)) rfl rfl ?_
  refine x_pIn lp_M_500 nf_13_65 k0 rfl rfl (fun D1 eD1 => ?_)
  have h := h D1 eD1
  refine x_iconst (v := (0 : Int32)) rfl rfl ?_
  refine x_istore_n (i := 2) (L1 := [(2, .int (0 : Int32)), (0, .ref a0), (1, .int x1)]) rfl rfl (Nat.le_of_ble_eq_true rfl) rfl ?_
  exact xP_sub [1, 2, 0] rfl h
theorem s_M_playLuck_7 {d : Nat} {D : xD} {Q : Option Value → xD → Prop} {a0 : Nat} {x1 : Int32} {x2 : Int32} (k0 : xk a0 = 13) (h : ((6 : Int32) ≤ x2 → xPf (d + 1) m_M_playLuck 35 [(0, .ref a0), (1, .int x1), (2, .int (0 : Int32))] [] D Q) ∧ (¬ (6 : Int32) ≤ x2 → vp_in x2 (xl (a0 + 31)) ∧ ∀ D1 : xD, D1 = (xu D.1 (a0 + 31) (x2 : Int32).toNatClampNeg (0 : Int32), D.2) → vp_in x2 (xl (a0 + 32)) ∧ ∀ D2 : xD, D2 = (xu D1.1 (a0 + 32) (x2 : Int32).toNatClampNeg (0 : Int32), D1.2) → xPf (d + 1) m_M_playLuck 7 [(0, .ref a0), (1, .int x1), (2, .int (x2 + (1 : Int32)))] [] D2 Q)) : xPf (d + 1) m_M_playLuck 7 [(0, .ref a0), (1, .int x1), (2, .int x2)] [] D Q := by
  refine x_iload_n rfl rfl ?_
  refine x_bipush (v := (6 : Int32)) rfl rfl ?_
  refine x_icmp_ge (tgt := 33) rfl rfl (fun c => ?_) (fun c => ?_)
  · have h := h.1 c
    refine x_iconst (v := (0 : Int32)) rfl rfl ?_
    refine x_istore_n (i := 2) (L1 := [(2, .int (0 : Int32)), (0, .ref a0), (1, .int x1)]) rfl rfl (Nat.le_of_ble_eq_true rfl) rfl ?_
    exact xP_sub [1, 2, 0] rfl h
  · have h := h.2 c
    refine x_aload_n rfl rfl ?_
    refine x_gR lf_M_101 k0 rfl rfl ?_
    refine x_iload_n rfl rfl ?_
    refine x_iconst (v := (0 : Int32)) rfl rfl ?_
    refine x_iastn (ck_13_63 k0) h.1 rfl (fun D1 eD1 => ?_)
    have h := h.2 D1 eD1
    refine x_aload_n rfl rfl ?_
    refine x_gR lf_M_104 k0 rfl rfl ?_
    refine x_iload_n rfl rfl ?_
    refine x_iconst (v := (0 : Int32)) rfl rfl ?_
    refine x_iastn (ck_13_64 k0) h.1 rfl (fun D2 eD2 => ?_)
    have h := h.2 D2 eD2
    refine x_iinc (i := 2) (v := x2 + (1 : Int32)) (L1 := [(2, .int (x2 + (1 : Int32))), (0, .ref a0), (1, .int x1)]) rfl rfl rfl (Nat.le_of_ble_eq_true rfl) rfl ?_
    refine x_goto (tgt := 7) rfl rfl ?_
    exact xP_sub [1, 2, 0] rfl h
theorem s_M_playLuck_35 {d : Nat} {D : xD} {Q : Option Value → xD → Prop} {a0 : Nat} {x1 : Int32} {x2 : Int32} (k0 : xk a0 = 13) (h : (x1 ≤ x2 → Q none D) ∧ (¬ x1 ≤ x2 → xCv d m_M_shuffle [.ref a0] D (fun D1 => xCi d m_M_ends [.ref a0] D1 (fun r3 D2 => (r3 = 0 → ∀ D4 : xD, D4 = (xu D2.1 a0 65 ((D2.1 a0 65) + (1 : Int32)), D2.2) → xPf (d + 1) m_M_playLuck 35 [(0, .ref a0), (1, .int x1), (2, .int (x2 + (1 : Int32)))] [] D4 Q) ∧ (¬ r3 = 0 → vp_in (D2.1 a0 54) (xl (a0 + 13)) ∧ vp_in (D2.1 (a0 + 13) (D2.1 a0 54 : Int32).toNatClampNeg) (xl (a0 + 31)) ∧ vp_in (D2.1 (a0 + 13) (D2.1 a0 54 : Int32).toNatClampNeg) (xl (a0 + 31)) ∧ ∀ D5 : xD, D5 = (xu D2.1 (a0 + 31) (D2.1 (a0 + 13) (D2.1 a0 54 : Int32).toNatClampNeg : Int32).toNatClampNeg ((D2.1 (a0 + 31) (D2.1 (a0 + 13) (D2.1 a0 54 : Int32).toNatClampNeg : Int32).toNatClampNeg) + (1 : Int32)), D2.2) → vp_in (D5.1 a0 56) (xl (a0 + 13)) ∧ vp_in (D5.1 (a0 + 13) (D5.1 a0 56 : Int32).toNatClampNeg) (xl (a0 + 32)) ∧ vp_in (D5.1 (a0 + 13) (D5.1 a0 56 : Int32).toNatClampNeg) (xl (a0 + 32)) ∧ ∀ D6 : xD, D6 = (xu D5.1 (a0 + 32) (D5.1 (a0 + 13) (D5.1 a0 56 : Int32).toNatClampNeg : Int32).toNatClampNeg ((D5.1 (a0 + 32) (D5.1 (a0 + 13) (D5.1 a0 56 : Int32).toNatClampNeg : Int32).toNatClampNeg) + (1 : Int32)), D5.2) → xPf (d + 1) m_M_playLuck 35 [(0, .ref a0), (1, .int x1), (2, .int (x2 + (1 : Int32)))] [] D6 Q))))) : xPf (d + 1) m_M_playLuck 35 [(0, .ref a0), (1, .int x1), (2, .int x2)] [] D Q := by
  refine x_iload_n rfl rfl ?_
  refine x_iload_n rfl rfl ?_
  refine x_icmp_ge (tgt := 106) rfl rfl (fun c => ?_) (fun c => ?_)
  · have h := h.1 c
    exact x_vret rfl rfl h
  · have h := h.2 c
    refine x_aload_n rfl rfl ?_
    refine x_vv lm_M_485 vf_M_shuffle k0 rfl rfl (Nat.le_of_ble_eq_true rfl) rfl h (fun D1 h => ?_)
    refine x_aload_n rfl rfl ?_
    refine x_vi lm_M_466 vf_M_ends k0 rfl rfl (Nat.le_of_ble_eq_true rfl) rfl h (fun r3 D2 h => ?_)
    refine x_if_eq (tgt := 90) rfl rfl (fun c => ?_) (fun c => ?_)
    · have h := h.1 c
      refine x_aload_n rfl rfl ?_
      refine x_dup rfl rfl ?_
      refine x_gI lf_M_500 k0 rfl rfl ?_
      refine x_iconst (v := (1 : Int32)) rfl rfl ?_
      refine x_iadd rfl ?_
      refine x_pIn lp_M_500 nf_13_65 k0 rfl rfl (fun D4 eD4 => ?_)
      have h := h D4 eD4
      refine x_iinc (i := 2) (v := x2 + (1 : Int32)) (L1 := [(2, .int (x2 + (1 : Int32))), (0, .ref a0), (1, .int x1)]) rfl rfl rfl (Nat.le_of_ble_eq_true rfl) rfl ?_
      refine x_goto (tgt := 35) rfl rfl ?_
      exact xP_sub [1, 2, 0] rfl h
    · have h := h.2 c
      refine x_aload_n rfl rfl ?_
      refine x_gR lf_M_101 k0 rfl rfl ?_
      refine x_aload_n rfl rfl ?_
      refine x_gR lf_M_47 k0 rfl rfl ?_
      refine x_aload_n rfl rfl ?_
      refine x_gI lf_M_441 k0 rfl rfl ?_
      refine x_iald (ck_13_32 k0) (xlt (ck_13_32 k0) (by decide)) h.1 rfl ?_
      have h := h.2
      refine x_dup2 rfl rfl rfl ?_
      refine x_iald (ck_13_63 k0) (xlt (ck_13_63 k0) (by decide)) h.1 rfl ?_
      have h := h.2
      refine x_iconst (v := (1 : Int32)) rfl rfl ?_
      refine x_iadd rfl ?_
      refine x_iastn (ck_13_63 k0) h.1 rfl (fun D5 eD5 => ?_)
      have h := h.2 D5 eD5
      refine x_aload_n rfl rfl ?_
      refine x_gR lf_M_104 k0 rfl rfl ?_
      refine x_aload_n rfl rfl ?_
      refine x_gR lf_M_47 k0 rfl rfl ?_
      refine x_aload_n rfl rfl ?_
      refine x_gI lf_M_463 k0 rfl rfl ?_
      refine x_iald (ck_13_32 k0) (xlt (ck_13_32 k0) (by decide)) h.1 rfl ?_
      have h := h.2
      refine x_dup2 rfl rfl rfl ?_
      refine x_iald (ck_13_64 k0) (xlt (ck_13_64 k0) (by decide)) h.1 rfl ?_
      have h := h.2
      refine x_iconst (v := (1 : Int32)) rfl rfl ?_
      refine x_iadd rfl ?_
      refine x_iastn (ck_13_64 k0) h.1 rfl (fun D6 eD6 => ?_)
      have h := h.2 D6 eD6
      refine x_goto (tgt := 100) rfl rfl ?_
      refine x_iinc (i := 2) (v := x2 + (1 : Int32)) (L1 := [(2, .int (x2 + (1 : Int32))), (0, .ref a0), (1, .int x1)]) rfl rfl rfl (Nat.le_of_ble_eq_true rfl) rfl ?_
      refine x_goto (tgt := 35) rfl rfl ?_
      exact xP_sub [1, 2, 0] rfl h
theorem s_M_luck_0 {d : Nat} {D : xD} {Q : Option Value → xD → Prop} {a0 : Nat} {x1 : Int32} {x2 : Int32} {x3 : Int32} {x4 : Int32} (k0 : xk a0 = 13) (h : ∀ D1 : xD, D1 = (xu D.1 a0 0 (0 : Int32), D.2) → xCi d m_M_in [.int x3, .int (1 : Int32), .int (20 : Int32)] D1 (fun r3 D2 => (r3 = 0 → Q (some (.int (-1 : Int32))) D2) ∧ (¬ r3 = 0 → xCi d m_M_hand1 [.ref a0, .int x1] D2 (fun r5 D4 => (r5 = 0 → Q (some (.int (-1 : Int32))) D4) ∧ (¬ r5 = 0 → (x4 = 0 → ∀ D6 : xD, D6 = (xu D4.1 a0 59 x2, D4.2) → xCv d m_M_playLuck [.ref a0, .int x3] D6 (fun D7 => (¬ x4 = 0 → ((20 : Int32) ≤ x4 → vp_in (x4 - (20 : Int32)) (xl (a0 + 32)) ∧ Q (some (.int (D7.1 (a0 + 32) (x4 - (20 : Int32) : Int32).toNatClampNeg))) D7) ∧ (¬ (20 : Int32) ≤ x4 → vp_in (x4 - (10 : Int32)) (xl (a0 + 31)) ∧ Q (some (.int (D7.1 (a0 + 31) (x4 - (10 : Int32) : Int32).toNatClampNeg))) D7)) ∧ (x4 = 0 → Q (some (.int (D7.1 a0 65))) D7))) ∧ (¬ x4 = 0 → xCi d m_M_in [.int x4, .int (10 : Int32), .int ((9 : Int32) + (D4.1 a0 30))] D4 (fun r9 D8 => (¬ r9 = 0 → ∀ D10 : xD, D10 = (xu D8.1 a0 59 x2, D8.2) → xCv d m_M_playLuck [.ref a0, .int x3] D10 (fun D11 => (¬ x4 = 0 → ((20 : Int32) ≤ x4 → vp_in (x4 - (20 : Int32)) (xl (a0 + 32)) ∧ Q (some (.int (D11.1 (a0 + 32) (x4 - (20 : Int32) : Int32).toNatClampNeg))) D11) ∧ (¬ (20 : Int32) ≤ x4 → vp_in (x4 - (10 : Int32)) (xl (a0 + 31)) ∧ Q (some (.int (D11.1 (a0 + 31) (x4 - (10 : Int32) : Int32).toNatClampNeg))) D11)) ∧ (x4 = 0 → Q (some (.int (D11.1 a0 65))) D11))) ∧ (r9 = 0 → xCi d m_M_in [.int x4, .int (20 : Int32), .int ((19 : Int32) + (D8.1 a0 30))] D8 (fun r13 D12 => (¬ r13 = 0 → ∀ D14 : xD, D14 = (xu D12.1 a0 59 x2, D12.2) → xCv d m_M_playLuck [.ref a0, .int x3] D14 (fun D15 => (¬ x4 = 0 → ((20 : Int32) ≤ x4 → vp_in (x4 - (20 : Int32)) (xl (a0 + 32)) ∧ Q (some (.int (D15.1 (a0 + 32) (x4 - (20 : Int32) : Int32).toNatClampNeg))) D15) ∧ (¬ (20 : Int32) ≤ x4 → vp_in (x4 - (10 : Int32)) (xl (a0 + 31)) ∧ Q (some (.int (D15.1 (a0 + 31) (x4 - (10 : Int32) : Int32).toNatClampNeg))) D15)) ∧ (x4 = 0 → Q (some (.int (D15.1 a0 65))) D15))) ∧ (r13 = 0 → Q (some (.int (-1 : Int32))) D12)))))))))) : xPf (d + 1) m_M_luck 0 [(0, .ref a0), (1, .int x1), (2, .int x2), (3, .int x3), (4, .int x4)] [] D Q := by
  refine x_aload_n rfl rfl ?_
  refine x_iconst (v := (0 : Int32)) rfl rfl ?_
  refine x_pIn lp_M_139 nf_13_0 k0 rfl rfl (fun D1 eD1 => ?_)
  have h := h D1 eD1
  refine x_iload_n rfl rfl ?_
  refine x_iconst (v := (1 : Int32)) rfl rfl ?_
  refine x_bipush (v := (20 : Int32)) rfl rfl ?_
  refine x_si lm_M_147 sf_M_in rfl rfl (Nat.le_of_ble_eq_true rfl) rfl h (fun r3 D2 h => ?_)
  refine x_if_eq (tgt := 62) rfl rfl (fun c => ?_) (fun c => ?_)
  · have h := h.1 c
    refine x_iconst (v := (-1 : Int32)) rfl rfl ?_
    exact x_iret rfl rfl h
  · have h := h.2 c
    refine x_aload_n rfl rfl ?_
    refine x_iload_n rfl rfl ?_
    refine x_vi lm_M_356 vf_M_hand1 k0 rfl rfl (Nat.le_of_ble_eq_true rfl) rfl h (fun r5 D4 h => ?_)
    refine x_if_eq (tgt := 62) rfl rfl (fun c => ?_) (fun c => ?_)
    · have h := h.1 c
      refine x_iconst (v := (-1 : Int32)) rfl rfl ?_
      exact x_iret rfl rfl h
    · have h := h.2 c
      refine x_iload rfl rfl ?_
      refine x_if_eq (tgt := 64) rfl rfl (fun c => ?_) (fun c => ?_)
      · have h := h.1 c
        refine x_aload_n rfl rfl ?_
        refine x_iload_n rfl rfl ?_
        refine x_pIn lp_M_478 nf_13_59 k0 rfl rfl (fun D6 eD6 => ?_)
        have h := h D6 eD6
        refine x_aload_n rfl rfl ?_
        refine x_iload_n rfl rfl ?_
        refine x_vv lm_M_503 vf_M_playLuck k0 rfl rfl (Nat.le_of_ble_eq_true rfl) rfl h (fun D7 h => ?_)
        refine x_iload rfl rfl ?_
        refine x_if_ne (tgt := 86) rfl rfl (fun c => ?_) (fun c => ?_)
        · have h := h.1 c
          refine x_iload rfl rfl ?_
          refine x_bipush (v := (20 : Int32)) rfl rfl ?_
          refine x_icmp_ge (tgt := 106) rfl rfl (fun c => ?_) (fun c => ?_)
          · have h := h.1 c
            refine x_aload_n rfl rfl ?_
            refine x_gR lf_M_104 k0 rfl rfl ?_
            refine x_iload rfl rfl ?_
            refine x_bipush (v := (20 : Int32)) rfl rfl ?_
            refine x_isub rfl ?_
            refine x_iald (ck_13_64 k0) (xlt (ck_13_64 k0) (by decide)) h.1 rfl ?_
            have h := h.2
            exact x_iret rfl rfl h
          · have h := h.2 c
            refine x_aload_n rfl rfl ?_
            refine x_gR lf_M_101 k0 rfl rfl ?_
            refine x_iload rfl rfl ?_
            refine x_bipush (v := (10 : Int32)) rfl rfl ?_
            refine x_isub rfl ?_
            refine x_iald (ck_13_63 k0) (xlt (ck_13_63 k0) (by decide)) h.1 rfl ?_
            have h := h.2
            refine x_goto (tgt := 116) rfl rfl ?_
            exact x_iret rfl rfl h
        · have h := h.2 c
          refine x_aload_n rfl rfl ?_
          refine x_gI lf_M_500 k0 rfl rfl ?_
          refine x_goto (tgt := 116) rfl rfl ?_
          exact x_iret rfl rfl h
      · have h := h.2 c
        refine x_iload rfl rfl ?_
        refine x_bipush (v := (10 : Int32)) rfl rfl ?_
        refine x_bipush (v := (9 : Int32)) rfl rfl ?_
        refine x_aload_n rfl rfl ?_
        refine x_gI lf_M_344 k0 rfl rfl ?_
        refine x_iadd rfl ?_
        refine x_si lm_M_147 sf_M_in rfl rfl (Nat.le_of_ble_eq_true rfl) rfl h (fun r9 D8 h => ?_)
        refine x_if_ne (tgt := 64) rfl rfl (fun c => ?_) (fun c => ?_)
        · have h := h.1 c
          refine x_aload_n rfl rfl ?_
          refine x_iload_n rfl rfl ?_
          refine x_pIn lp_M_478 nf_13_59 k0 rfl rfl (fun D10 eD10 => ?_)
          have h := h D10 eD10
          refine x_aload_n rfl rfl ?_
          refine x_iload_n rfl rfl ?_
          refine x_vv lm_M_503 vf_M_playLuck k0 rfl rfl (Nat.le_of_ble_eq_true rfl) rfl h (fun D11 h => ?_)
          refine x_iload rfl rfl ?_
          refine x_if_ne (tgt := 86) rfl rfl (fun c => ?_) (fun c => ?_)
          · have h := h.1 c
            refine x_iload rfl rfl ?_
            refine x_bipush (v := (20 : Int32)) rfl rfl ?_
            refine x_icmp_ge (tgt := 106) rfl rfl (fun c => ?_) (fun c => ?_)
            · have h := h.1 c
              refine x_aload_n rfl rfl ?_
              refine x_gR lf_M_104 k0 rfl rfl ?_
              refine x_iload rfl rfl ?_
              refine x_bipush (v := (20 : Int32)) rfl rfl ?_
              refine x_isub rfl ?_
              refine x_iald (ck_13_64 k0) (xlt (ck_13_64 k0) (by decide)) h.1 rfl ?_
              have h := h.2
              exact x_iret rfl rfl h
            · have h := h.2 c
              refine x_aload_n rfl rfl ?_
              refine x_gR lf_M_101 k0 rfl rfl ?_
              refine x_iload rfl rfl ?_
              refine x_bipush (v := (10 : Int32)) rfl rfl ?_
              refine x_isub rfl ?_
              refine x_iald (ck_13_63 k0) (xlt (ck_13_63 k0) (by decide)) h.1 rfl ?_
              have h := h.2
              refine x_goto (tgt := 116) rfl rfl ?_
              exact x_iret rfl rfl h
          · have h := h.2 c
            refine x_aload_n rfl rfl ?_
            refine x_gI lf_M_500 k0 rfl rfl ?_
            refine x_goto (tgt := 116) rfl rfl ?_
            exact x_iret rfl rfl h
        · have h := h.2 c
          refine x_iload rfl rfl ?_
          refine x_bipush (v := (20 : Int32)) rfl rfl ?_
          refine x_bipush (v := (19 : Int32)) rfl rfl ?_
          refine x_aload_n rfl rfl ?_
          refine x_gI lf_M_344 k0 rfl rfl ?_
          refine x_iadd rfl ?_
          refine x_si lm_M_147 sf_M_in rfl rfl (Nat.le_of_ble_eq_true rfl) rfl h (fun r13 D12 h => ?_)
          refine x_if_ne (tgt := 64) rfl rfl (fun c => ?_) (fun c => ?_)
          · have h := h.1 c
            refine x_aload_n rfl rfl ?_
            refine x_iload_n rfl rfl ?_
            refine x_pIn lp_M_478 nf_13_59 k0 rfl rfl (fun D14 eD14 => ?_)
            have h := h D14 eD14
            refine x_aload_n rfl rfl ?_
            refine x_iload_n rfl rfl ?_
            refine x_vv lm_M_503 vf_M_playLuck k0 rfl rfl (Nat.le_of_ble_eq_true rfl) rfl h (fun D15 h => ?_)
            refine x_iload rfl rfl ?_
            refine x_if_ne (tgt := 86) rfl rfl (fun c => ?_) (fun c => ?_)
            · have h := h.1 c
              refine x_iload rfl rfl ?_
              refine x_bipush (v := (20 : Int32)) rfl rfl ?_
              refine x_icmp_ge (tgt := 106) rfl rfl (fun c => ?_) (fun c => ?_)
              · have h := h.1 c
                refine x_aload_n rfl rfl ?_
                refine x_gR lf_M_104 k0 rfl rfl ?_
                refine x_iload rfl rfl ?_
                refine x_bipush (v := (20 : Int32)) rfl rfl ?_
                refine x_isub rfl ?_
                refine x_iald (ck_13_64 k0) (xlt (ck_13_64 k0) (by decide)) h.1 rfl ?_
                have h := h.2
                exact x_iret rfl rfl h
              · have h := h.2 c
                refine x_aload_n rfl rfl ?_
                refine x_gR lf_M_101 k0 rfl rfl ?_
                refine x_iload rfl rfl ?_
                refine x_bipush (v := (10 : Int32)) rfl rfl ?_
                refine x_isub rfl ?_
                refine x_iald (ck_13_63 k0) (xlt (ck_13_63 k0) (by decide)) h.1 rfl ?_
                have h := h.2
                refine x_goto (tgt := 116) rfl rfl ?_
                exact x_iret rfl rfl h
            · have h := h.2 c
              refine x_aload_n rfl rfl ?_
              refine x_gI lf_M_500 k0 rfl rfl ?_
              refine x_goto (tgt := 116) rfl rfl ?_
              exact x_iret rfl rfl h
          · have h := h.2 c
            refine x_iconst (v := (-1 : Int32)) rfl rfl ?_
            exact x_iret rfl rfl h
theorem s_M_leastOf_0 {d : Nat} {D : xD} {Q : Option Value → xD → Prop} {a0 : Nat} {x1 : Int32} (k0 : xk a0 = 13) (h : ((2 : Int32) ≤ x1 → Q (some (.int (0 : Int32))) D) ∧ (¬ (2 : Int32) ≤ x1 → Q (some (.int (1 : Int32))) D)) : xPf (d + 1) m_M_leastOf 0 [(0, .ref a0), (1, .int x1)] [] D Q := by
  refine x_iload_n rfl rfl ?_
  refine x_iconst (v := (2 : Int32)) rfl rfl ?_
  refine x_icmp_ge (tgt := 9) rfl rfl (fun c => ?_) (fun c => ?_)
  · have h := h.1 c
    refine x_iconst (v := (0 : Int32)) rfl rfl ?_
    exact x_iret rfl rfl h
  · have h := h.2 c
    refine x_iconst (v := (1 : Int32)) rfl rfl ?_
    refine x_goto (tgt := 10) rfl rfl ?_
    exact x_iret rfl rfl h
theorem s_M_mostOf_0 {d : Nat} {D : xD} {Q : Option Value → xD → Prop} {a0 : Nat} {x1 : Int32} (k0 : xk a0 = 13) (h : ((3 : Int32) ≤ x1 → (¬ x1 = (3 : Int32) → (¬ x1 = (4 : Int32) → Q (some (.int ((D.1 a0 30) - (1 : Int32)))) D) ∧ (x1 = (4 : Int32) → Q (some (.int (3 : Int32))) D)) ∧ (x1 = (3 : Int32) → Q (some (.int (20 : Int32))) D)) ∧ (¬ (3 : Int32) ≤ x1 → Q (some (.int (9 : Int32))) D)) : xPf (d + 1) m_M_mostOf 0 [(0, .ref a0), (1, .int x1)] [] D Q := by
  refine x_iload_n rfl rfl ?_
  refine x_iconst (v := (3 : Int32)) rfl rfl ?_
  refine x_icmp_ge (tgt := 10) rfl rfl (fun c => ?_) (fun c => ?_)
  · have h := h.1 c
    refine x_iload_n rfl rfl ?_
    refine x_iconst (v := (3 : Int32)) rfl rfl ?_
    refine x_icmp_ne (tgt := 20) rfl rfl (fun c => ?_) (fun c => ?_)
    · have h := h.1 c
      refine x_iload_n rfl rfl ?_
      refine x_iconst (v := (4 : Int32)) rfl rfl ?_
      refine x_icmp_ne (tgt := 29) rfl rfl (fun c => ?_) (fun c => ?_)
      · have h := h.1 c
        refine x_aload_n rfl rfl ?_
        refine x_gI lf_M_344 k0 rfl rfl ?_
        refine x_iconst (v := (1 : Int32)) rfl rfl ?_
        refine x_isub rfl ?_
        exact x_iret rfl rfl h
      · have h := h.2 c
        refine x_iconst (v := (3 : Int32)) rfl rfl ?_
        refine x_goto (tgt := 35) rfl rfl ?_
        exact x_iret rfl rfl h
    · have h := h.2 c
      refine x_bipush (v := (20 : Int32)) rfl rfl ?_
      refine x_goto (tgt := 35) rfl rfl ?_
      exact x_iret rfl rfl h
  · have h := h.2 c
    refine x_bipush (v := (9 : Int32)) rfl rfl ?_
    refine x_goto (tgt := 35) rfl rfl ?_
    exact x_iret rfl rfl h
theorem s_M_seat_0 {d : Nat} {D : xD} {Q : Option Value → xD → Prop} {a0 : Nat} {x1 : Int32} {x2 : Int32} (k0 : xk a0 = 13) (h : xPf (d + 1) m_M_seat 5 [(0, .ref a0), (1, .int x1), (2, .int x2), (3, .int (0 : Int32)), (4, .int (0 : Int32))] [] D Q) : xPf (d + 1) m_M_seat 0 [(0, .ref a0), (1, .int x1), (2, .int x2)] [] D Q := by
  refine x_iconst (v := (0 : Int32)) rfl rfl ?_
  refine x_istore_n (i := 3) (L1 := [(3, .int (0 : Int32)), (0, .ref a0), (1, .int x1), (2, .int x2)]) rfl rfl (Nat.le_of_ble_eq_true rfl) rfl ?_
  refine x_iconst (v := (0 : Int32)) rfl rfl ?_
  refine x_istore (i := 4) (L1 := [(4, .int (0 : Int32)), (3, .int (0 : Int32)), (0, .ref a0), (1, .int x1), (2, .int x2)]) rfl (Nat.le_of_ble_eq_true rfl) rfl ?_
  exact xP_sub [2, 3, 4, 1, 0] rfl h
theorem s_M_seat_5 {d : Nat} {D : xD} {Q : Option Value → xD → Prop} {a0 : Nat} {x1 : Int32} {x2 : Int32} {x3 : Int32} {x4 : Int32} (k0 : xk a0 = 13) (h : ((D.1 a0 30) ≤ x4 → xCv d m_M_sit [.ref a0, .int (D.1 a0 30)] D (fun D1 => Q none D1)) ∧ (¬ (D.1 a0 30) ≤ x4 → (¬ x4 = x2 → (¬ x3 = x1 → vp_in x4 (xl (a0 + 13)) ∧ ∀ D2 : xD, D2 = (xu D.1 (a0 + 13) (x4 : Int32).toNatClampNeg (x3 + (0 : Int32)), D.2) → xPf (d + 1) m_M_seat 5 [(0, .ref a0), (1, .int x1), (2, .int x2), (3, .int ((x3 + (0 : Int32)) + (1 : Int32))), (4, .int (x4 + (1 : Int32)))] [] D2 Q) ∧ (x3 = x1 → vp_in x4 (xl (a0 + 13)) ∧ ∀ D3 : xD, D3 = (xu D.1 (a0 + 13) (x4 : Int32).toNatClampNeg (x3 + (1 : Int32)), D.2) → xPf (d + 1) m_M_seat 5 [(0, .ref a0), (1, .int x1), (2, .int x2), (3, .int ((x3 + (1 : Int32)) + (1 : Int32))), (4, .int (x4 + (1 : Int32)))] [] D3 Q)) ∧ (x4 = x2 → vp_in x4 (xl (a0 + 13)) ∧ ∀ D4 : xD, D4 = (xu D.1 (a0 + 13) (x4 : Int32).toNatClampNeg x1, D.2) → xPf (d + 1) m_M_seat 5 [(0, .ref a0), (1, .int x1), (2, .int x2), (3, .int x3), (4, .int (x4 + (1 : Int32)))] [] D4 Q))) : xPf (d + 1) m_M_seat 5 [(0, .ref a0), (1, .int x1), (2, .int x2), (3, .int x3), (4, .int x4)] [] D Q := by
  refine x_iload rfl rfl ?_
  refine x_aload_n rfl rfl ?_
  refine x_gI lf_M_344 k0 rfl rfl ?_
  refine x_icmp_ge (tgt := 61) rfl rfl (fun c => ?_) (fun c => ?_)
  · have h := h.1 c
    refine x_aload_n rfl rfl ?_
    refine x_aload_n rfl rfl ?_
    refine x_gI lf_M_344 k0 rfl rfl ?_
    refine x_vv lm_M_347 vf_M_sit k0 rfl rfl (Nat.le_of_ble_eq_true rfl) rfl h (fun D1 h => ?_)
    exact x_vret rfl rfl h
  · have h := h.2 c
    refine x_iload rfl rfl ?_
    refine x_iload_n rfl rfl ?_
    refine x_icmp_ne (tgt := 31) rfl rfl (fun c => ?_) (fun c => ?_)
    · have h := h.1 c
      refine x_iload_n rfl rfl ?_
      refine x_iload_n rfl rfl ?_
      refine x_iload_n rfl rfl ?_
      refine x_icmp_ne (tgt := 41) rfl rfl (fun c => ?_) (fun c => ?_)
      · have h := h.1 c
        refine x_iconst (v := (0 : Int32)) rfl rfl ?_
        refine x_iadd rfl ?_
        refine x_istore_n (i := 3) (L1 := [(3, .int (x3 + (0 : Int32))), (0, .ref a0), (1, .int x1), (2, .int x2), (4, .int x4)]) rfl rfl (Nat.le_of_ble_eq_true rfl) rfl ?_
        refine x_aload_n rfl rfl ?_
        refine x_gR lf_M_47 k0 rfl rfl ?_
        refine x_iload rfl rfl ?_
        refine x_iload_n rfl rfl ?_
        refine x_iastn (ck_13_32 k0) h.1 rfl (fun D2 eD2 => ?_)
        have h := h.2 D2 eD2
        refine x_iinc (i := 3) (v := (x3 + (0 : Int32)) + (1 : Int32)) (L1 := [(3, .int ((x3 + (0 : Int32)) + (1 : Int32))), (0, .ref a0), (1, .int x1), (2, .int x2), (4, .int x4)]) rfl rfl rfl (Nat.le_of_ble_eq_true rfl) rfl ?_
        refine x_iinc (i := 4) (v := x4 + (1 : Int32)) (L1 := [(4, .int (x4 + (1 : Int32))), (3, .int ((x3 + (0 : Int32)) + (1 : Int32))), (0, .ref a0), (1, .int x1), (2, .int x2)]) rfl rfl rfl (Nat.le_of_ble_eq_true rfl) rfl ?_
        refine x_goto (tgt := 5) rfl rfl ?_
        exact xP_sub [2, 3, 4, 1, 0] rfl h
      · have h := h.2 c
        refine x_iconst (v := (1 : Int32)) rfl rfl ?_
        refine x_goto (tgt := 42) rfl rfl ?_
        refine x_iadd rfl ?_
        refine x_istore_n (i := 3) (L1 := [(3, .int (x3 + (1 : Int32))), (0, .ref a0), (1, .int x1), (2, .int x2), (4, .int x4)]) rfl rfl (Nat.le_of_ble_eq_true rfl) rfl ?_
        refine x_aload_n rfl rfl ?_
        refine x_gR lf_M_47 k0 rfl rfl ?_
        refine x_iload rfl rfl ?_
        refine x_iload_n rfl rfl ?_
        refine x_iastn (ck_13_32 k0) h.1 rfl (fun D3 eD3 => ?_)
        have h := h.2 D3 eD3
        refine x_iinc (i := 3) (v := (x3 + (1 : Int32)) + (1 : Int32)) (L1 := [(3, .int ((x3 + (1 : Int32)) + (1 : Int32))), (0, .ref a0), (1, .int x1), (2, .int x2), (4, .int x4)]) rfl rfl rfl (Nat.le_of_ble_eq_true rfl) rfl ?_
        refine x_iinc (i := 4) (v := x4 + (1 : Int32)) (L1 := [(4, .int (x4 + (1 : Int32))), (3, .int ((x3 + (1 : Int32)) + (1 : Int32))), (0, .ref a0), (1, .int x1), (2, .int x2)]) rfl rfl rfl (Nat.le_of_ble_eq_true rfl) rfl ?_
        refine x_goto (tgt := 5) rfl rfl ?_
        exact xP_sub [2, 3, 4, 1, 0] rfl h
    · have h := h.2 c
      refine x_aload_n rfl rfl ?_
      refine x_gR lf_M_47 k0 rfl rfl ?_
      refine x_iload rfl rfl ?_
      refine x_iload_n rfl rfl ?_
      refine x_iastn (ck_13_32 k0) h.1 rfl (fun D4 eD4 => ?_)
      have h := h.2 D4 eD4
      refine x_goto (tgt := 55) rfl rfl ?_
      refine x_iinc (i := 4) (v := x4 + (1 : Int32)) (L1 := [(4, .int (x4 + (1 : Int32))), (0, .ref a0), (1, .int x1), (2, .int x2), (3, .int x3)]) rfl rfl rfl (Nat.le_of_ble_eq_true rfl) rfl ?_
      refine x_goto (tgt := 5) rfl rfl ?_
      exact xP_sub [1, 2, 3, 4, 0] rfl h
theorem s_M_change_0 {d : Nat} {D : xD} {Q : Option Value → xD → Prop} {a0 : Nat} {x1 : Int32} {x2 : Int32} {x3 : Int32} (k0 : xk a0 = 13) (h : xPf (d + 1) m_M_change 3 [(0, .ref a0), (1, .int x1), (2, .int x2), (3, .int x3), (4, .int (0 : Int32))] [] D Q) : xPf (d + 1) m_M_change 0 [(0, .ref a0), (1, .int x1), (2, .int x2), (3, .int x3)] [] D Q := by
  refine x_iconst (v := (0 : Int32)) rfl rfl ?_
  refine x_istore (i := 4) (L1 := [(4, .int (0 : Int32)), (0, .ref a0), (1, .int x1), (2, .int x2), (3, .int x3)]) rfl (Nat.le_of_ble_eq_true rfl) rfl ?_
  exact xP_sub [1, 2, 3, 4, 0] rfl h
theorem s_M_change_3 {d : Nat} {D : xD} {Q : Option Value → xD → Prop} {a0 : Nat} {x1 : Int32} {x2 : Int32} {x3 : Int32} {x4 : Int32} (k0 : xk a0 = 13) (h : ((D.1 a0 30) ≤ x4 → xCv d m_M_sit [.ref a0, .int (D.1 a0 30)] D (fun D1 => (x2 = (0 : Int32) → vp_in x1 (xl (a0 + 14)) ∧ ∀ D3 : xD, D3 = (xu D1.1 (a0 + 14) (x1 : Int32).toNatClampNeg x3, D1.2) → Q none D3) ∧ (x2 = (1 : Int32) → vp_in x1 (xl (a0 + 15)) ∧ ∀ D4 : xD, D4 = (xu D1.1 (a0 + 15) (x1 : Int32).toNatClampNeg x3, D1.2) → Q none D4) ∧ (x2 = (2 : Int32) → vp_in x1 (xl (a0 + 16)) ∧ ∀ D5 : xD, D5 = (xu D1.1 (a0 + 16) (x1 : Int32).toNatClampNeg x3, D1.2) → Q none D5) ∧ (x2 = (3 : Int32) → vp_in x1 (xl (a0 + 17)) ∧ ∀ D6 : xD, D6 = (xu D1.1 (a0 + 17) (x1 : Int32).toNatClampNeg x3, D1.2) → Q none D6) ∧ (x2 = (4 : Int32) → vp_in x1 (xl (a0 + 18)) ∧ ∀ D7 : xD, D7 = (xu D1.1 (a0 + 18) (x1 : Int32).toNatClampNeg x3, D1.2) → vp_in x1 (xl (a0 + 19)) ∧ (¬ (D7.1 (a0 + 19) (x1 : Int32).toNatClampNeg) = (-1 : Int32) → vp_in x1 (xl (a0 + 19)) ∧ vp_in x1 (xl (a0 + 19)) ∧ ∀ D8 : xD, D8 = (xu D7.1 (a0 + 19) (x1 : Int32).toNatClampNeg (D7.1 (a0 + 19) (x1 : Int32).toNatClampNeg), D7.2) → Q none D8) ∧ ((D7.1 (a0 + 19) (x1 : Int32).toNatClampNeg) = (-1 : Int32) → vp_in x1 (xl (a0 + 19)) ∧ ∀ D9 : xD, D9 = (xu D7.1 (a0 + 19) (x1 : Int32).toNatClampNeg (0 : Int32), D7.2) → Q none D9)) ∧ (((x2).toInt < 0 ∨ 4 < (x2).toInt) → xCv d m_M_seat [.ref a0, .int x1, .int x3] D1 (fun D2 => Q none D2)))) ∧ (¬ (D.1 a0 30) ≤ x4 → vp_in x4 (xl (a0 + 13)) ∧ ∀ D10 : xD, D10 = (xu D.1 (a0 + 13) (x4 : Int32).toNatClampNeg x4, D.2) → xPf (d + 1) m_M_change 3 [(0, .ref a0), (1, .int x1), (2, .int x2), (3, .int x3), (4, .int (x4 + (1 : Int32)))] [] D10 Q)) : xPf (d + 1) m_M_change 3 [(0, .ref a0), (1, .int x1), (2, .int x2), (3, .int x3), (4, .int x4)] [] D Q := by
  refine x_iload rfl rfl ?_
  refine x_aload_n rfl rfl ?_
  refine x_gI lf_M_344 k0 rfl rfl ?_
  refine x_icmp_ge (tgt := 27) rfl rfl (fun c => ?_) (fun c => ?_)
  · have h := h.1 c
    refine x_aload_n rfl rfl ?_
    refine x_aload_n rfl rfl ?_
    refine x_gI lf_M_344 k0 rfl rfl ?_
    refine x_vv lm_M_347 vf_M_sit k0 rfl rfl (Nat.le_of_ble_eq_true rfl) rfl h (fun D1 h => ?_)
    refine x_iload_n rfl rfl ?_
    rcases Decidable.em ((x2).toInt < 0 ∨ 4 < (x2).toInt) with q | q
    · refine x_tableOut (tgt := 138) rfl q rfl ?_
      have h := h.2.2.2.2.2 q
      refine x_aload_n rfl rfl ?_
      refine x_iload_n rfl rfl ?_
      refine x_iload_n rfl rfl ?_
      refine x_vv lm_M_506 vf_M_seat k0 rfl rfl (Nat.le_of_ble_eq_true rfl) rfl h (fun D2 h => ?_)
      exact x_vret rfl rfl h
    · have q : (x2).toInt = 0 ∨ (x2).toInt = 1 ∨ (x2).toInt = 2 ∨ (x2).toInt = 3 ∨ (x2).toInt = 4 := by omega
      rcases q with q | q | q | q | q
      · have q : x2 = (0 : Int32) := Int32.toInt_inj.mp q
        refine x_tabK (k := (0 : Int32)) (tgt := 72) q rfl (by decide) (by decide) rfl rfl ?_
        have h := h.1 q
        refine x_aload_n rfl rfl ?_
        refine x_gR lf_M_50 k0 rfl rfl ?_
        refine x_iload_n rfl rfl ?_
        refine x_iload_n rfl rfl ?_
        refine x_iastn (ck_13_33 k0) h.1 rfl (fun D3 eD3 => ?_)
        have h := h.2 D3 eD3
        exact x_vret rfl rfl h
      · have q : x2 = (1 : Int32) := Int32.toInt_inj.mp q
        refine x_tabK (k := (1 : Int32)) (tgt := 80) q rfl (by decide) (by decide) rfl rfl ?_
        have h := h.2.1 q
        refine x_aload_n rfl rfl ?_
        refine x_gR lf_M_53 k0 rfl rfl ?_
        refine x_iload_n rfl rfl ?_
        refine x_iload_n rfl rfl ?_
        refine x_iastn (ck_13_34 k0) h.1 rfl (fun D4 eD4 => ?_)
        have h := h.2 D4 eD4
        exact x_vret rfl rfl h
      · have q : x2 = (2 : Int32) := Int32.toInt_inj.mp q
        refine x_tabK (k := (2 : Int32)) (tgt := 88) q rfl (by decide) (by decide) rfl rfl ?_
        have h := h.2.2.1 q
        refine x_aload_n rfl rfl ?_
        refine x_gR lf_M_56 k0 rfl rfl ?_
        refine x_iload_n rfl rfl ?_
        refine x_iload_n rfl rfl ?_
        refine x_iastn (ck_13_35 k0) h.1 rfl (fun D5 eD5 => ?_)
        have h := h.2 D5 eD5
        exact x_vret rfl rfl h
      · have q : x2 = (3 : Int32) := Int32.toInt_inj.mp q
        refine x_tabK (k := (3 : Int32)) (tgt := 96) q rfl (by decide) (by decide) rfl rfl ?_
        have h := h.2.2.2.1 q
        refine x_aload_n rfl rfl ?_
        refine x_gR lf_M_59 k0 rfl rfl ?_
        refine x_iload_n rfl rfl ?_
        refine x_iload_n rfl rfl ?_
        refine x_iastn (ck_13_36 k0) h.1 rfl (fun D6 eD6 => ?_)
        have h := h.2 D6 eD6
        exact x_vret rfl rfl h
      · have q : x2 = (4 : Int32) := Int32.toInt_inj.mp q
        refine x_tabK (k := (4 : Int32)) (tgt := 104) q rfl (by decide) (by decide) rfl rfl ?_
        have h := h.2.2.2.2.1 q
        refine x_aload_n rfl rfl ?_
        refine x_gR lf_M_62 k0 rfl rfl ?_
        refine x_iload_n rfl rfl ?_
        refine x_iload_n rfl rfl ?_
        refine x_iastn (ck_13_37 k0) h.1 rfl (fun D7 eD7 => ?_)
        have h := h.2 D7 eD7
        refine x_aload_n rfl rfl ?_
        refine x_gR lf_M_65 k0 rfl rfl ?_
        refine x_iload_n rfl rfl ?_
        refine x_aload_n rfl rfl ?_
        refine x_gR lf_M_65 k0 rfl rfl ?_
        refine x_iload_n rfl rfl ?_
        refine x_iald (ck_13_38 k0) (xlt (ck_13_38 k0) (by decide)) h.1 rfl ?_
        have h := h.2
        refine x_iconst (v := (-1 : Int32)) rfl rfl ?_
        refine x_icmp_ne (tgt := 130) rfl rfl (fun c => ?_) (fun c => ?_)
        · have h := h.1 c
          refine x_aload_n rfl rfl ?_
          refine x_gR lf_M_65 k0 rfl rfl ?_
          refine x_iload_n rfl rfl ?_
          refine x_iald (ck_13_38 k0) (xlt (ck_13_38 k0) (by decide)) h.1 rfl ?_
          have h := h.2
          refine x_iastn (ck_13_38 k0) h.1 rfl (fun D8 eD8 => ?_)
          have h := h.2 D8 eD8
          exact x_vret rfl rfl h
        · have h := h.2 c
          refine x_iconst (v := (0 : Int32)) rfl rfl ?_
          refine x_goto (tgt := 136) rfl rfl ?_
          refine x_iastn (ck_13_38 k0) h.1 rfl (fun D9 eD9 => ?_)
          have h := h.2 D9 eD9
          exact x_vret rfl rfl h
  · have h := h.2 c
    refine x_aload_n rfl rfl ?_
    refine x_gR lf_M_47 k0 rfl rfl ?_
    refine x_iload rfl rfl ?_
    refine x_iload rfl rfl ?_
    refine x_iastn (ck_13_32 k0) h.1 rfl (fun D10 eD10 => ?_)
    have h := h.2 D10 eD10
    refine x_iinc (i := 4) (v := x4 + (1 : Int32)) (L1 := [(4, .int (x4 + (1 : Int32))), (0, .ref a0), (1, .int x1), (2, .int x2), (3, .int x3)]) rfl rfl rfl (Nat.le_of_ble_eq_true rfl) rfl ?_
    refine x_goto (tgt := 3) rfl rfl ?_
    exact xP_sub [1, 2, 3, 4, 0] rfl h
theorem s_M_otherwise_0 {d : Nat} {D : xD} {Q : Option Value → xD → Prop} {a0 : Nat} {x1 : Int32} {x2 : Int32} {x3 : Int32} {x4 : Int32} {x5 : Int32} {x6 : Int32} {x7 : Int32} (k0 : xk a0 = 13) (h : ∀ D1 : xD, D1 = (xu D.1 a0 0 (0 : Int32), D.2) → xCi d m_M_in [.int x3, .int (1 : Int32), .int (20 : Int32)] D1 (fun r3 D2 => (r3 = 0 → Q (some (.int (-1 : Int32))) D2) ∧ (¬ r3 = 0 → xCi d m_M_in [.int x5, .int (0 : Int32), .int (5 : Int32)] D2 (fun r5 D4 => (r5 = 0 → Q (some (.int (-1 : Int32))) D4) ∧ (¬ r5 = 0 → xCi d m_M_hand1 [.ref a0, .int x1] D4 (fun r7 D6 => (r7 = 0 → Q (some (.int (-1 : Int32))) D6) ∧ (¬ r7 = 0 → xCi d m_M_isOne [.ref a0, .int x4] D6 (fun r9 D8 => (r9 = 0 → Q (some (.int (-1 : Int32))) D8) ∧ (¬ r9 = 0 → (x6 = (-1 : Int32) → (¬ x6 = (-1 : Int32) → xPf (d + 1) m_M_otherwise 97 [(0, .ref a0), (1, .int x1), (2, .int x2), (3, .int x3), (4, .int x4), (5, .int x5), (6, .int x6), (7, .int x7), (8, .int (-1 : Int32)), (9, .int (1000000 : Int32)), (10, .int x6)] [] D8 Q) ∧ (x6 = (-1 : Int32) → xCi d m_M_leastOf [.ref a0, .int x5] D8 (fun r11 D10 => xPf (d + 1) m_M_otherwise 97 [(0, .ref a0), (1, .int x1), (2, .int x2), (3, .int x3), (4, .int x4), (5, .int x5), (6, .int x6), (7, .int x7), (8, .int (-1 : Int32)), (9, .int (1000000 : Int32)), (10, .int r11)] [] D10 Q))) ∧ (¬ x6 = (-1 : Int32) → xCi d m_M_leastOf [.ref a0, .int x5] D8 (fun r13 D12 => xCi d m_M_mostOf [.ref a0, .int x5] D12 (fun r15 D14 => xCi d m_M_in [.int x6, .int r13, .int r15] D14 (fun r17 D16 => (¬ r17 = 0 → (¬ x6 = (-1 : Int32) → xPf (d + 1) m_M_otherwise 97 [(0, .ref a0), (1, .int x1), (2, .int x2), (3, .int x3), (4, .int x4), (5, .int x5), (6, .int x6), (7, .int x7), (8, .int (-1 : Int32)), (9, .int (1000000 : Int32)), (10, .int x6)] [] D16 Q) ∧ (x6 = (-1 : Int32) → xCi d m_M_leastOf [.ref a0, .int x5] D16 (fun r19 D18 => xPf (d + 1) m_M_otherwise 97 [(0, .ref a0), (1, .int x1), (2, .int x2), (3, .int x3), (4, .int x4), (5, .int x5), (6, .int x6), (7, .int x7), (8, .int (-1 : Int32)), (9, .int (1000000 : Int32)), (10, .int r19)] [] D18 Q))) ∧ (r17 = 0 → Q (some (.int (-1 : Int32))) D16)))))))))))))) : xPf (d + 1) m_M_otherwise 0 [(0, .ref a0), (1, .int x1), (2, .int x2), (3, .int x3), (4, .int x4), (5, .int x5), (6, .int x6), (7, .int x7)] [] D Q := by
  refine x_aload_n rfl rfl ?_
  refine x_iconst (v := (0 : Int32)) rfl rfl ?_
  refine x_pIn lp_M_139 nf_13_0 k0 rfl rfl (fun D1 eD1 => ?_)
  have h := h D1 eD1
  refine x_iload_n rfl rfl ?_
  refine x_iconst (v := (1 : Int32)) rfl rfl ?_
  refine x_bipush (v := (20 : Int32)) rfl rfl ?_
  refine x_si lm_M_147 sf_M_in rfl rfl (Nat.le_of_ble_eq_true rfl) rfl h (fun r3 D2 h => ?_)
  refine x_if_eq (tgt := 68) rfl rfl (fun c => ?_) (fun c => ?_)
  · have h := h.1 c
    refine x_iconst (v := (-1 : Int32)) rfl rfl ?_
    exact x_iret rfl rfl h
  · have h := h.2 c
    refine x_iload rfl rfl ?_
    refine x_iconst (v := (0 : Int32)) rfl rfl ?_
    refine x_iconst (v := (5 : Int32)) rfl rfl ?_
    refine x_si lm_M_147 sf_M_in rfl rfl (Nat.le_of_ble_eq_true rfl) rfl h (fun r5 D4 h => ?_)
    refine x_if_eq (tgt := 68) rfl rfl (fun c => ?_) (fun c => ?_)
    · have h := h.1 c
      refine x_iconst (v := (-1 : Int32)) rfl rfl ?_
      exact x_iret rfl rfl h
    · have h := h.2 c
      refine x_aload_n rfl rfl ?_
      refine x_iload_n rfl rfl ?_
      refine x_vi lm_M_356 vf_M_hand1 k0 rfl rfl (Nat.le_of_ble_eq_true rfl) rfl h (fun r7 D6 h => ?_)
      refine x_if_eq (tgt := 68) rfl rfl (fun c => ?_) (fun c => ?_)
      · have h := h.1 c
        refine x_iconst (v := (-1 : Int32)) rfl rfl ?_
        exact x_iret rfl rfl h
      · have h := h.2 c
        refine x_aload_n rfl rfl ?_
        refine x_iload rfl rfl ?_
        refine x_vi lm_M_359 vf_M_isOne k0 rfl rfl (Nat.le_of_ble_eq_true rfl) rfl h (fun r9 D8 h => ?_)
        refine x_if_eq (tgt := 68) rfl rfl (fun c => ?_) (fun c => ?_)
        · have h := h.1 c
          refine x_iconst (v := (-1 : Int32)) rfl rfl ?_
          exact x_iret rfl rfl h
        · have h := h.2 c
          refine x_iload rfl rfl ?_
          refine x_iconst (v := (-1 : Int32)) rfl rfl ?_
          refine x_icmp_eq (tgt := 70) rfl rfl (fun c => ?_) (fun c => ?_)
          · have h := h.1 c
            refine x_iconst (v := (-1 : Int32)) rfl rfl ?_
            refine x_istore (i := 8) (L1 := [(8, .int (-1 : Int32)), (0, .ref a0), (1, .int x1), (2, .int x2), (3, .int x3), (4, .int x4), (5, .int x5), (6, .int x6), (7, .int x7)]) rfl (Nat.le_of_ble_eq_true rfl) rfl ?_
            refine x_ldcw wd_2127 rfl ?_
            refine x_istore (i := 9) (L1 := [(9, .int (1000000 : Int32)), (8, .int (-1 : Int32)), (0, .ref a0), (1, .int x1), (2, .int x2), (3, .int x3), (4, .int x4), (5, .int x5), (6, .int x6), (7, .int x7)]) rfl (Nat.le_of_ble_eq_true rfl) rfl ?_
            refine x_iload rfl rfl ?_
            refine x_iconst (v := (-1 : Int32)) rfl rfl ?_
            refine x_icmp_ne (tgt := 93) rfl rfl (fun c => ?_) (fun c => ?_)
            · have h := h.1 c
              refine x_iload rfl rfl ?_
              refine x_istore (i := 10) (L1 := [(10, .int x6), (9, .int (1000000 : Int32)), (8, .int (-1 : Int32)), (0, .ref a0), (1, .int x1), (2, .int x2), (3, .int x3), (4, .int x4), (5, .int x5), (6, .int x6), (7, .int x7)]) rfl (Nat.le_of_ble_eq_true rfl) rfl ?_
              exact xP_sub [3, 4, 5, 6, 7, 8, 9, 10, 2, 1, 0] rfl h
            · have h := h.2 c
              refine x_aload_n rfl rfl ?_
              refine x_iload rfl rfl ?_
              refine x_vi lm_M_509 vf_M_leastOf k0 rfl rfl (Nat.le_of_ble_eq_true rfl) rfl h (fun r11 D10 h => ?_)
              refine x_goto (tgt := 95) rfl rfl ?_
              refine x_istore (i := 10) (L1 := [(10, .int r11), (9, .int (1000000 : Int32)), (8, .int (-1 : Int32)), (0, .ref a0), (1, .int x1), (2, .int x2), (3, .int x3), (4, .int x4), (5, .int x5), (6, .int x6), (7, .int x7)]) rfl (Nat.le_of_ble_eq_true rfl) rfl ?_
              exact xP_sub [3, 4, 5, 6, 7, 8, 9, 10, 2, 1, 0] rfl h
          · have h := h.2 c
            refine x_iload rfl rfl ?_
            refine x_aload_n rfl rfl ?_
            refine x_iload rfl rfl ?_
            refine x_vi lm_M_509 vf_M_leastOf k0 rfl rfl (Nat.le_of_ble_eq_true rfl) rfl h (fun r13 D12 h => ?_)
            refine x_aload_n rfl rfl ?_
            refine x_iload rfl rfl ?_
            refine x_vi lm_M_512 vf_M_mostOf k0 rfl rfl (Nat.le_of_ble_eq_true rfl) rfl h (fun r15 D14 h => ?_)
            refine x_si lm_M_147 sf_M_in rfl rfl (Nat.le_of_ble_eq_true rfl) rfl h (fun r17 D16 h => ?_)
            refine x_if_ne (tgt := 70) rfl rfl (fun c => ?_) (fun c => ?_)
            · have h := h.1 c
              refine x_iconst (v := (-1 : Int32)) rfl rfl ?_
              refine x_istore (i := 8) (L1 := [(8, .int (-1 : Int32)), (0, .ref a0), (1, .int x1), (2, .int x2), (3, .int x3), (4, .int x4), (5, .int x5), (6, .int x6), (7, .int x7)]) rfl (Nat.le_of_ble_eq_true rfl) rfl ?_
              refine x_ldcw wd_2127 rfl ?_
              refine x_istore (i := 9) (L1 := [(9, .int (1000000 : Int32)), (8, .int (-1 : Int32)), (0, .ref a0), (1, .int x1), (2, .int x2), (3, .int x3), (4, .int x4), (5, .int x5), (6, .int x6), (7, .int x7)]) rfl (Nat.le_of_ble_eq_true rfl) rfl ?_
              refine x_iload rfl rfl ?_
              refine x_iconst (v := (-1 : Int32)) rfl rfl ?_
              refine x_icmp_ne (tgt := 93) rfl rfl (fun c => ?_) (fun c => ?_)
              · have h := h.1 c
                refine x_iload rfl rfl ?_
                refine x_istore (i := 10) (L1 := [(10, .int x6), (9, .int (1000000 : Int32)), (8, .int (-1 : Int32)), (0, .ref a0), (1, .int x1), (2, .int x2), (3, .int x3), (4, .int x4), (5, .int x5), (6, .int x6), (7, .int x7)]) rfl (Nat.le_of_ble_eq_true rfl) rfl ?_
                exact xP_sub [3, 4, 5, 6, 7, 8, 9, 10, 2, 1, 0] rfl h
              · have h := h.2 c
                refine x_aload_n rfl rfl ?_
                refine x_iload rfl rfl ?_
                refine x_vi lm_M_509 vf_M_leastOf k0 rfl rfl (Nat.le_of_ble_eq_true rfl) rfl h (fun r19 D18 h => ?_)
                refine x_goto (tgt := 95) rfl rfl ?_
                refine x_istore (i := 10) (L1 := [(10, .int r19), (9, .int (1000000 : Int32)), (8, .int (-1 : Int32)), (0, .ref a0), (1, .int x1), (2, .int x2), (3, .int x3), (4, .int x4), (5, .int x5), (6, .int x6), (7, .int x7)]) rfl (Nat.le_of_ble_eq_true rfl) rfl ?_
                exact xP_sub [3, 4, 5, 6, 7, 8, 9, 10, 2, 1, 0] rfl h
            · have h := h.2 c
              refine x_iconst (v := (-1 : Int32)) rfl rfl ?_
              exact x_iret rfl rfl h
theorem s_M_otherwise_97 {d : Nat} {D : xD} {Q : Option Value → xD → Prop} {a0 : Nat} {x1 : Int32} {x2 : Int32} {x3 : Int32} {x4 : Int32} {x5 : Int32} {x6 : Int32} {x7 : Int32} {x8 : Int32} {x9 : Int32} {x10 : Int32} (k0 : xk a0 = 13) (h : (¬ x6 = (-1 : Int32) → (x6 < x10 → (¬ x6 = (-1 : Int32) → (x7 = 0 → vp_in x4 (xl (a0 + 32)) ∧ Q (some (.int (D.1 (a0 + 32) (x4 : Int32).toNatClampNeg))) D) ∧ (¬ x7 = 0 → vp_in x4 (xl (a0 + 31)) ∧ Q (some (.int (D.1 (a0 + 31) (x4 : Int32).toNatClampNeg))) D)) ∧ (x6 = (-1 : Int32) → Q (some (.int x8)) D)) ∧ (¬ x6 < x10 → xCv d m_M_change [.ref a0, .int x4, .int x5, .int x10] D (fun D1 => ∀ D2 : xD, D2 = (xu D1.1 a0 59 x2, D1.2) → xCv d m_M_playLuck [.ref a0, .int x3] D2 (fun D3 => vp_in x4 (xl (a0 + 32)) ∧ (x9 ≤ (D3.1 (a0 + 32) (x4 : Int32).toNatClampNeg) → vp_in x4 (xl (a0 + 32)) ∧ xCi d m_M_lesser [.int x9, .int (D3.1 (a0 + 32) (x4 : Int32).toNatClampNeg)] D3 (fun r5 D4 => xPf (d + 1) m_M_otherwise 97 [(0, .ref a0), (1, .int x1), (2, .int x2), (3, .int x3), (4, .int x4), (5, .int x5), (6, .int x6), (7, .int x7), (8, .int x8), (9, .int r5), (10, .int (x10 + (1 : Int32)))] [] D4 Q)) ∧ (¬ x9 ≤ (D3.1 (a0 + 32) (x4 : Int32).toNatClampNeg) → vp_in x4 (xl (a0 + 32)) ∧ xCi d m_M_lesser [.int x9, .int (D3.1 (a0 + 32) (x4 : Int32).toNatClampNeg)] D3 (fun r7 D6 => xPf (d + 1) m_M_otherwise 97 [(0, .ref a0), (1, .int x1), (2, .int x2), (3, .int x3), (4, .int x4), (5, .int x5), (6, .int x6), (7, .int x7), (8, .int x10), (9, .int r7), (10, .int (x10 + (1 : Int32)))] [] D6 Q)))))) ∧ (x6 = (-1 : Int32) → xCi d m_M_mostOf [.ref a0, .int x5] D (fun r9 D8 => (r9 < x10 → (¬ x6 = (-1 : Int32) → (x7 = 0 → vp_in x4 (xl (a0 + 32)) ∧ Q (some (.int (D8.1 (a0 + 32) (x4 : Int32).toNatClampNeg))) D8) ∧ (¬ x7 = 0 → vp_in x4 (xl (a0 + 31)) ∧ Q (some (.int (D8.1 (a0 + 31) (x4 : Int32).toNatClampNeg))) D8)) ∧ (x6 = (-1 : Int32) → Q (some (.int x8)) D8)) ∧ (¬ r9 < x10 → xCv d m_M_change [.ref a0, .int x4, .int x5, .int x10] D8 (fun D10 => ∀ D11 : xD, D11 = (xu D10.1 a0 59 x2, D10.2) → xCv d m_M_playLuck [.ref a0, .int x3] D11 (fun D12 => vp_in x4 (xl (a0 + 32)) ∧ (x9 ≤ (D12.1 (a0 + 32) (x4 : Int32).toNatClampNeg) → vp_in x4 (xl (a0 + 32)) ∧ xCi d m_M_lesser [.int x9, .int (D12.1 (a0 + 32) (x4 : Int32).toNatClampNeg)] D12 (fun r14 D13 => xPf (d + 1) m_M_otherwise 97 [(0, .ref a0), (1, .int x1), (2, .int x2), (3, .int x3), (4, .int x4), (5, .int x5), (6, .int x6), (7, .int x7), (8, .int x8), (9, .int r14), (10, .int (x10 + (1 : Int32)))] [] D13 Q)) ∧ (¬ x9 ≤ (D12.1 (a0 + 32) (x4 : Int32).toNatClampNeg) → vp_in x4 (xl (a0 + 32)) ∧ xCi d m_M_lesser [.int x9, .int (D12.1 (a0 + 32) (x4 : Int32).toNatClampNeg)] D12 (fun r16 D15 => xPf (d + 1) m_M_otherwise 97 [(0, .ref a0), (1, .int x1), (2, .int x2), (3, .int x3), (4, .int x4), (5, .int x5), (6, .int x6), (7, .int x7), (8, .int x10), (9, .int r16), (10, .int (x10 + (1 : Int32)))] [] D15 Q)))))))) : xPf (d + 1) m_M_otherwise 97 [(0, .ref a0), (1, .int x1), (2, .int x2), (3, .int x3), (4, .int x4), (5, .int x5), (6, .int x6), (7, .int x7), (8, .int x8), (9, .int x9), (10, .int x10)] [] D Q := by
  refine x_iload rfl rfl ?_
  refine x_iload rfl rfl ?_
  refine x_iconst (v := (-1 : Int32)) rfl rfl ?_
  refine x_icmp_ne (tgt := 114) rfl rfl (fun c => ?_) (fun c => ?_)
  · have h := h.1 c
    refine x_iload rfl rfl ?_
    refine x_icmp_gt (tgt := 180) rfl rfl (fun c => ?_) (fun c => ?_)
    · have h := h.1 c
      refine x_iload rfl rfl ?_
      refine x_iconst (v := (-1 : Int32)) rfl rfl ?_
      refine x_icmp_ne (tgt := 191) rfl rfl (fun c => ?_) (fun c => ?_)
      · have h := h.1 c
        refine x_iload rfl rfl ?_
        refine x_if_eq (tgt := 206) rfl rfl (fun c => ?_) (fun c => ?_)
        · have h := h.1 c
          refine x_aload_n rfl rfl ?_
          refine x_gR lf_M_104 k0 rfl rfl ?_
          refine x_iload rfl rfl ?_
          refine x_iald (ck_13_64 k0) (xlt (ck_13_64 k0) (by decide)) h.1 rfl ?_
          have h := h.2
          exact x_iret rfl rfl h
        · have h := h.2 c
          refine x_aload_n rfl rfl ?_
          refine x_gR lf_M_101 k0 rfl rfl ?_
          refine x_iload rfl rfl ?_
          refine x_iald (ck_13_63 k0) (xlt (ck_13_63 k0) (by decide)) h.1 rfl ?_
          have h := h.2
          refine x_goto (tgt := 213) rfl rfl ?_
          exact x_iret rfl rfl h
      · have h := h.2 c
        refine x_iload rfl rfl ?_
        refine x_goto (tgt := 213) rfl rfl ?_
        exact x_iret rfl rfl h
    · have h := h.2 c
      refine x_aload_n rfl rfl ?_
      refine x_iload rfl rfl ?_
      refine x_iload rfl rfl ?_
      refine x_iload rfl rfl ?_
      refine x_vv lm_M_516 vf_M_change k0 rfl rfl (Nat.le_of_ble_eq_true rfl) rfl h (fun D1 h => ?_)
      refine x_aload_n rfl rfl ?_
      refine x_iload_n rfl rfl ?_
      refine x_pIn lp_M_478 nf_13_59 k0 rfl rfl (fun D2 eD2 => ?_)
      have h := h D2 eD2
      refine x_aload_n rfl rfl ?_
      refine x_iload_n rfl rfl ?_
      refine x_vv lm_M_503 vf_M_playLuck k0 rfl rfl (Nat.le_of_ble_eq_true rfl) rfl h (fun D3 h => ?_)
      refine x_aload_n rfl rfl ?_
      refine x_gR lf_M_104 k0 rfl rfl ?_
      refine x_iload rfl rfl ?_
      refine x_iald (ck_13_64 k0) (xlt (ck_13_64 k0) (by decide)) h.1 rfl ?_
      have h := h.2
      refine x_iload rfl rfl ?_
      refine x_icmp_ge (tgt := 156) rfl rfl (fun c => ?_) (fun c => ?_)
      · have h := h.1 c
        refine x_iload rfl rfl ?_
        refine x_istore (i := 8) (L1 := [(8, .int x8), (0, .ref a0), (1, .int x1), (2, .int x2), (3, .int x3), (4, .int x4), (5, .int x5), (6, .int x6), (7, .int x7), (9, .int x9), (10, .int x10)]) rfl (Nat.le_of_ble_eq_true rfl) rfl ?_
        refine x_iload rfl rfl ?_
        refine x_aload_n rfl rfl ?_
        refine x_gR lf_M_104 k0 rfl rfl ?_
        refine x_iload rfl rfl ?_
        refine x_iald (ck_13_64 k0) (xlt (ck_13_64 k0) (by decide)) h.1 rfl ?_
        have h := h.2
        refine x_si lm_M_519 sf_M_lesser rfl rfl (Nat.le_of_ble_eq_true rfl) rfl h (fun r5 D4 h => ?_)
        refine x_istore (i := 9) (L1 := [(9, .int r5), (8, .int x8), (0, .ref a0), (1, .int x1), (2, .int x2), (3, .int x3), (4, .int x4), (5, .int x5), (6, .int x6), (7, .int x7), (10, .int x10)]) rfl (Nat.le_of_ble_eq_true rfl) rfl ?_
        refine x_iinc (i := 10) (v := x10 + (1 : Int32)) (L1 := [(10, .int (x10 + (1 : Int32))), (9, .int r5), (8, .int x8), (0, .ref a0), (1, .int x1), (2, .int x2), (3, .int x3), (4, .int x4), (5, .int x5), (6, .int x6), (7, .int x7)]) rfl rfl rfl (Nat.le_of_ble_eq_true rfl) rfl ?_
        refine x_goto (tgt := 97) rfl rfl ?_
        exact xP_sub [3, 4, 5, 6, 7, 8, 9, 10, 2, 1, 0] rfl h
      · have h := h.2 c
        refine x_iload rfl rfl ?_
        refine x_goto (tgt := 158) rfl rfl ?_
        refine x_istore (i := 8) (L1 := [(8, .int x10), (0, .ref a0), (1, .int x1), (2, .int x2), (3, .int x3), (4, .int x4), (5, .int x5), (6, .int x6), (7, .int x7), (9, .int x9), (10, .int x10)]) rfl (Nat.le_of_ble_eq_true rfl) rfl ?_
        refine x_iload rfl rfl ?_
        refine x_aload_n rfl rfl ?_
        refine x_gR lf_M_104 k0 rfl rfl ?_
        refine x_iload rfl rfl ?_
        refine x_iald (ck_13_64 k0) (xlt (ck_13_64 k0) (by decide)) h.1 rfl ?_
        have h := h.2
        refine x_si lm_M_519 sf_M_lesser rfl rfl (Nat.le_of_ble_eq_true rfl) rfl h (fun r7 D6 h => ?_)
        refine x_istore (i := 9) (L1 := [(9, .int r7), (8, .int x10), (0, .ref a0), (1, .int x1), (2, .int x2), (3, .int x3), (4, .int x4), (5, .int x5), (6, .int x6), (7, .int x7), (10, .int x10)]) rfl (Nat.le_of_ble_eq_true rfl) rfl ?_
        refine x_iinc (i := 10) (v := x10 + (1 : Int32)) (L1 := [(10, .int (x10 + (1 : Int32))), (9, .int r7), (8, .int x10), (0, .ref a0), (1, .int x1), (2, .int x2), (3, .int x3), (4, .int x4), (5, .int x5), (6, .int x6), (7, .int x7)]) rfl rfl rfl (Nat.le_of_ble_eq_true rfl) rfl ?_
        refine x_goto (tgt := 97) rfl rfl ?_
        exact xP_sub [3, 4, 5, 6, 7, 8, 9, 10, 2, 1, 0] rfl h
  · have h := h.2 c
    refine x_aload_n rfl rfl ?_
    refine x_iload rfl rfl ?_
    refine x_vi lm_M_512 vf_M_mostOf k0 rfl rfl (Nat.le_of_ble_eq_true rfl) rfl h (fun r9 D8 h => ?_)
    refine x_goto (tgt := 116) rfl rfl ?_
    refine x_icmp_gt (tgt := 180) rfl rfl (fun c => ?_) (fun c => ?_)
    · have h := h.1 c
      refine x_iload rfl rfl ?_
      refine x_iconst (v := (-1 : Int32)) rfl rfl ?_
      refine x_icmp_ne (tgt := 191) rfl rfl (fun c => ?_) (fun c => ?_)
      · have h := h.1 c
        refine x_iload rfl rfl ?_
        refine x_if_eq (tgt := 206) rfl rfl (fun c => ?_) (fun c => ?_)
        · have h := h.1 c
          refine x_aload_n rfl rfl ?_
          refine x_gR lf_M_104 k0 rfl rfl ?_
          refine x_iload rfl rfl ?_
          refine x_iald (ck_13_64 k0) (xlt (ck_13_64 k0) (by decide)) h.1 rfl ?_
          have h := h.2
          exact x_iret rfl rfl h
        · have h := h.2 c
          refine x_aload_n rfl rfl ?_
          refine x_gR lf_M_101 k0 rfl rfl ?_
          refine x_iload rfl rfl ?_
          refine x_iald (ck_13_63 k0) (xlt (ck_13_63 k0) (by decide)) h.1 rfl ?_
          have h := h.2
          refine x_goto (tgt := 213) rfl rfl ?_
          exact x_iret rfl rfl h
      · have h := h.2 c
        refine x_iload rfl rfl ?_
        refine x_goto (tgt := 213) rfl rfl ?_
        exact x_iret rfl rfl h
    · have h := h.2 c
      refine x_aload_n rfl rfl ?_
      refine x_iload rfl rfl ?_
      refine x_iload rfl rfl ?_
      refine x_iload rfl rfl ?_
      refine x_vv lm_M_516 vf_M_change k0 rfl rfl (Nat.le_of_ble_eq_true rfl) rfl h (fun D10 h => ?_)
      refine x_aload_n rfl rfl ?_
      refine x_iload_n rfl rfl ?_
      refine x_pIn lp_M_478 nf_13_59 k0 rfl rfl (fun D11 eD11 => ?_)
      have h := h D11 eD11
      refine x_aload_n rfl rfl ?_
      refine x_iload_n rfl rfl ?_
      refine x_vv lm_M_503 vf_M_playLuck k0 rfl rfl (Nat.le_of_ble_eq_true rfl) rfl h (fun D12 h => ?_)
      refine x_aload_n rfl rfl ?_
      refine x_gR lf_M_104 k0 rfl rfl ?_
      refine x_iload rfl rfl ?_
      refine x_iald (ck_13_64 k0) (xlt (ck_13_64 k0) (by decide)) h.1 rfl ?_
      have h := h.2
      refine x_iload rfl rfl ?_
      refine x_icmp_ge (tgt := 156) rfl rfl (fun c => ?_) (fun c => ?_)
      · have h := h.1 c
        refine x_iload rfl rfl ?_
        refine x_istore (i := 8) (L1 := [(8, .int x8), (0, .ref a0), (1, .int x1), (2, .int x2), (3, .int x3), (4, .int x4), (5, .int x5), (6, .int x6), (7, .int x7), (9, .int x9), (10, .int x10)]) rfl (Nat.le_of_ble_eq_true rfl) rfl ?_
        refine x_iload rfl rfl ?_
        refine x_aload_n rfl rfl ?_
        refine x_gR lf_M_104 k0 rfl rfl ?_
        refine x_iload rfl rfl ?_
        refine x_iald (ck_13_64 k0) (xlt (ck_13_64 k0) (by decide)) h.1 rfl ?_
        have h := h.2
        refine x_si lm_M_519 sf_M_lesser rfl rfl (Nat.le_of_ble_eq_true rfl) rfl h (fun r14 D13 h => ?_)
        refine x_istore (i := 9) (L1 := [(9, .int r14), (8, .int x8), (0, .ref a0), (1, .int x1), (2, .int x2), (3, .int x3), (4, .int x4), (5, .int x5), (6, .int x6), (7, .int x7), (10, .int x10)]) rfl (Nat.le_of_ble_eq_true rfl) rfl ?_
        refine x_iinc (i := 10) (v := x10 + (1 : Int32)) (L1 := [(10, .int (x10 + (1 : Int32))), (9, .int r14), (8, .int x8), (0, .ref a0), (1, .int x1), (2, .int x2), (3, .int x3), (4, .int x4), (5, .int x5), (6, .int x6), (7, .int x7)]) rfl rfl rfl (Nat.le_of_ble_eq_true rfl) rfl ?_
        refine x_goto (tgt := 97) rfl rfl ?_
        exact xP_sub [3, 4, 5, 6, 7, 8, 9, 10, 2, 1, 0] rfl h
      · have h := h.2 c
        refine x_iload rfl rfl ?_
        refine x_goto (tgt := 158) rfl rfl ?_
        refine x_istore (i := 8) (L1 := [(8, .int x10), (0, .ref a0), (1, .int x1), (2, .int x2), (3, .int x3), (4, .int x4), (5, .int x5), (6, .int x6), (7, .int x7), (9, .int x9), (10, .int x10)]) rfl (Nat.le_of_ble_eq_true rfl) rfl ?_
        refine x_iload rfl rfl ?_
        refine x_aload_n rfl rfl ?_
        refine x_gR lf_M_104 k0 rfl rfl ?_
        refine x_iload rfl rfl ?_
        refine x_iald (ck_13_64 k0) (xlt (ck_13_64 k0) (by decide)) h.1 rfl ?_
        have h := h.2
        refine x_si lm_M_519 sf_M_lesser rfl rfl (Nat.le_of_ble_eq_true rfl) rfl h (fun r16 D15 h => ?_)
        refine x_istore (i := 9) (L1 := [(9, .int r16), (8, .int x10), (0, .ref a0), (1, .int x1), (2, .int x2), (3, .int x3), (4, .int x4), (5, .int x5), (6, .int x6), (7, .int x7), (10, .int x10)]) rfl (Nat.le_of_ble_eq_true rfl) rfl ?_
        refine x_iinc (i := 10) (v := x10 + (1 : Int32)) (L1 := [(10, .int (x10 + (1 : Int32))), (9, .int r16), (8, .int x10), (0, .ref a0), (1, .int x1), (2, .int x2), (3, .int x3), (4, .int x4), (5, .int x5), (6, .int x6), (7, .int x7)]) rfl rfl rfl (Nat.le_of_ble_eq_true rfl) rfl ?_
        refine x_goto (tgt := 97) rfl rfl ?_
        exact xP_sub [3, 4, 5, 6, 7, 8, 9, 10, 2, 1, 0] rfl h
theorem s_M_hand2_0 {d : Nat} {D : xD} {Q : Option Value → xD → Prop} {a0 : Nat} {x1 : Int32} {x2 : Int32} (k0 : xk a0 = 13) (h : ∀ D1 : xD, D1 = (xu D.1 a0 0 (0 : Int32), D.2) → xCi d m_M_is [.ref a0, .int (3 : Int32), .int x1] D1 (fun r3 D2 => (¬ r3 = 0 → vp_in ((54 : Int32) * x1) (xl (a0 + 9)) ∧ xCi d m_M_in [.int x2, .int (10 : Int32), .int ((9 : Int32) + (D2.1 (a0 + 9) ((54 : Int32) * x1 : Int32).toNatClampNeg))] D2 (fun r5 D4 => (r5 = 0 → xCi d m_M_in [.int x2, .int (0 : Int32), .int (1 : Int32)] D4 (fun r7 D6 => (r7 = 0 → vp_in (((54 : Int32) * x1) + (1 : Int32)) (xl (a0 + 9)) ∧ xCi d m_M_in [.int x2, .int (100 : Int32), .int ((99 : Int32) + (D6.1 (a0 + 9) (((54 : Int32) * x1) + (1 : Int32) : Int32).toNatClampNeg))] D6 (fun r9 D8 => (r9 = 0 → Q (some (.int (-2 : Int32))) D8) ∧ (¬ r9 = 0 → vp_in ((((((54 : Int32) * x1) + (2 : Int32)) + (4 : Int32)) + x2) - (100 : Int32)) (xl (a0 + 9)) ∧ Q (some (.int (D8.1 (a0 + 9) ((((((54 : Int32) * x1) + (2 : Int32)) + (4 : Int32)) + x2) - (100 : Int32) : Int32).toNatClampNeg))) D8))) ∧ (¬ r7 = 0 → vp_in (((54 : Int32) * x1) + x2) (xl (a0 + 9)) ∧ Q (some (.int (D6.1 (a0 + 9) (((54 : Int32) * x1) + x2 : Int32).toNatClampNeg))) D6))) ∧ (¬ r5 = 0 → vp_in (((((54 : Int32) * x1) + (2 : Int32)) + x2) - (10 : Int32)) (xl (a0 + 9)) ∧ Q (some (.int (D4.1 (a0 + 9) (((((54 : Int32) * x1) + (2 : Int32)) + x2) - (10 : Int32) : Int32).toNatClampNeg))) D4))) ∧ (r3 = 0 → Q (some (.int (-2 : Int32))) D2))) : xPf (d + 1) m_M_hand2 0 [(0, .ref a0), (1, .int x1), (2, .int x2)] [] D Q := by
  refine x_aload_n rfl rfl ?_
  refine x_iconst (v := (0 : Int32)) rfl rfl ?_
  refine x_pIn lp_M_139 nf_13_0 k0 rfl rfl (fun D1 eD1 => ?_)
  have h := h D1 eD1
  refine x_aload_n rfl rfl ?_
  refine x_iconst (v := (3 : Int32)) rfl rfl ?_
  refine x_iload_n rfl rfl ?_
  refine x_vi lm_M_319 vf_M_is k0 rfl rfl (Nat.le_of_ble_eq_true rfl) rfl h (fun r3 D2 h => ?_)
  refine x_if_ne (tgt := 17) rfl rfl (fun c => ?_) (fun c => ?_)
  · have h := h.1 c
    refine x_bipush (v := (54 : Int32)) rfl rfl ?_
    refine x_iload_n rfl rfl ?_
    refine x_imul rfl ?_
    refine x_istore_n (i := 3) (L1 := [(3, .int ((54 : Int32) * x1)), (0, .ref a0), (1, .int x1), (2, .int x2)]) rfl rfl (Nat.le_of_ble_eq_true rfl) rfl ?_
    refine x_iload_n rfl rfl ?_
    refine x_bipush (v := (10 : Int32)) rfl rfl ?_
    refine x_bipush (v := (9 : Int32)) rfl rfl ?_
    refine x_aload_n rfl rfl ?_
    refine x_gR lf_M_35 k0 rfl rfl ?_
    refine x_iload_n rfl rfl ?_
    refine x_iald (ck_13_9 k0) (xlt (ck_13_9 k0) (by decide)) h.1 rfl ?_
    have h := h.2
    refine x_iadd rfl ?_
    refine x_si lm_M_147 sf_M_in rfl rfl (Nat.le_of_ble_eq_true rfl) rfl h (fun r5 D4 h => ?_)
    refine x_if_eq (tgt := 54) rfl rfl (fun c => ?_) (fun c => ?_)
    · have h := h.1 c
      refine x_iload_n rfl rfl ?_
      refine x_iconst (v := (0 : Int32)) rfl rfl ?_
      refine x_iconst (v := (1 : Int32)) rfl rfl ?_
      refine x_si lm_M_147 sf_M_in rfl rfl (Nat.le_of_ble_eq_true rfl) rfl h (fun r7 D6 h => ?_)
      refine x_if_eq (tgt := 74) rfl rfl (fun c => ?_) (fun c => ?_)
      · have h := h.1 c
        refine x_iload_n rfl rfl ?_
        refine x_bipush (v := (100 : Int32)) rfl rfl ?_
        refine x_bipush (v := (99 : Int32)) rfl rfl ?_
        refine x_aload_n rfl rfl ?_
        refine x_gR lf_M_35 k0 rfl rfl ?_
        refine x_iload_n rfl rfl ?_
        refine x_iconst (v := (1 : Int32)) rfl rfl ?_
        refine x_iadd rfl ?_
        refine x_iald (ck_13_9 k0) (xlt (ck_13_9 k0) (by decide)) h.1 rfl ?_
        have h := h.2
        refine x_iadd rfl ?_
        refine x_si lm_M_147 sf_M_in rfl rfl (Nat.le_of_ble_eq_true rfl) rfl h (fun r9 D8 h => ?_)
        refine x_if_eq (tgt := 112) rfl rfl (fun c => ?_) (fun c => ?_)
        · have h := h.1 c
          refine x_bipush (v := (-2 : Int32)) rfl rfl ?_
          exact x_iret rfl rfl h
        · have h := h.2 c
          refine x_aload_n rfl rfl ?_
          refine x_gR lf_M_35 k0 rfl rfl ?_
          refine x_iload_n rfl rfl ?_
          refine x_iconst (v := (2 : Int32)) rfl rfl ?_
          refine x_iadd rfl ?_
          refine x_iconst (v := (4 : Int32)) rfl rfl ?_
          refine x_iadd rfl ?_
          refine x_iload_n rfl rfl ?_
          refine x_iadd rfl ?_
          refine x_bipush (v := (100 : Int32)) rfl rfl ?_
          refine x_isub rfl ?_
          refine x_iald (ck_13_9 k0) (xlt (ck_13_9 k0) (by decide)) h.1 rfl ?_
          have h := h.2
          refine x_goto (tgt := 114) rfl rfl ?_
          exact x_iret rfl rfl h
      · have h := h.2 c
        refine x_aload_n rfl rfl ?_
        refine x_gR lf_M_35 k0 rfl rfl ?_
        refine x_iload_n rfl rfl ?_
        refine x_iload_n rfl rfl ?_
        refine x_iadd rfl ?_
        refine x_iald (ck_13_9 k0) (xlt (ck_13_9 k0) (by decide)) h.1 rfl ?_
        have h := h.2
        refine x_goto (tgt := 114) rfl rfl ?_
        exact x_iret rfl rfl h
    · have h := h.2 c
      refine x_aload_n rfl rfl ?_
      refine x_gR lf_M_35 k0 rfl rfl ?_
      refine x_iload_n rfl rfl ?_
      refine x_iconst (v := (2 : Int32)) rfl rfl ?_
      refine x_iadd rfl ?_
      refine x_iload_n rfl rfl ?_
      refine x_iadd rfl ?_
      refine x_bipush (v := (10 : Int32)) rfl rfl ?_
      refine x_isub rfl ?_
      refine x_iald (ck_13_9 k0) (xlt (ck_13_9 k0) (by decide)) h.1 rfl ?_
      have h := h.2
      exact x_iret rfl rfl h
  · have h := h.2 c
    refine x_bipush (v := (-2 : Int32)) rfl rfl ?_
    exact x_iret rfl rfl h
theorem s_M_layHand_0 {d : Nat} {D : xD} {Q : Option Value → xD → Prop} {a0 : Nat} {x1 : Int32} (k0 : xk a0 = 13) (h : vp_in ((54 : Int32) * x1) (xl (a0 + 9)) ∧ (¬ (D.1 (a0 + 9) ((54 : Int32) * x1 : Int32).toNatClampNeg) = (D.1 a0 29) → xPf (d + 1) m_M_layHand 27 [(0, .ref a0), (1, .int x1), (2, .int ((54 : Int32) * x1)), (3, .int (0 : Int32)), (4, .int (0 : Int32))] [] D Q) ∧ ((D.1 (a0 + 9) ((54 : Int32) * x1 : Int32).toNatClampNeg) = (D.1 a0 29) → xPf (d + 1) m_M_layHand 27 [(0, .ref a0), (1, .int x1), (2, .int ((54 : Int32) * x1)), (3, .int (1 : Int32)), (4, .int (0 : Int32))] [] D Q)) : xPf (d + 1) m_M_layHand 0 [(0, .ref a0), (1, .int x1)] [] D Q := by
  refine x_bipush (v := (54 : Int32)) rfl rfl ?_
  refine x_iload_n rfl rfl ?_
  refine x_imul rfl ?_
  refine x_istore_n (i := 2) (L1 := [(2, .int ((54 : Int32) * x1)), (0, .ref a0), (1, .int x1)]) rfl rfl (Nat.le_of_ble_eq_true rfl) rfl ?_
  refine x_aload_n rfl rfl ?_
  refine x_gR lf_M_35 k0 rfl rfl ?_
  refine x_iload_n rfl rfl ?_
  refine x_iald (ck_13_9 k0) (xlt (ck_13_9 k0) (by decide)) h.1 rfl ?_
  have h := h.2
  refine x_aload_n rfl rfl ?_
  refine x_gI lf_M_341 k0 rfl rfl ?_
  refine x_icmp_ne (tgt := 22) rfl rfl (fun c => ?_) (fun c => ?_)
  · have h := h.1 c
    refine x_iconst (v := (0 : Int32)) rfl rfl ?_
    refine x_istore_n (i := 3) (L1 := [(3, .int (0 : Int32)), (2, .int ((54 : Int32) * x1)), (0, .ref a0), (1, .int x1)]) rfl rfl (Nat.le_of_ble_eq_true rfl) rfl ?_
    refine x_iconst (v := (0 : Int32)) rfl rfl ?_
    refine x_istore (i := 4) (L1 := [(4, .int (0 : Int32)), (3, .int (0 : Int32)), (2, .int ((54 : Int32) * x1)), (0, .ref a0), (1, .int x1)]) rfl (Nat.le_of_ble_eq_true rfl) rfl ?_
    exact xP_sub [3, 4, 2, 1, 0] rfl h
  · have h := h.2 c
    refine x_iconst (v := (1 : Int32)) rfl rfl ?_
    refine x_goto (tgt := 23) rfl rfl ?_
    refine x_istore_n (i := 3) (L1 := [(3, .int (1 : Int32)), (2, .int ((54 : Int32) * x1)), (0, .ref a0), (1, .int x1)]) rfl rfl (Nat.le_of_ble_eq_true rfl) rfl ?_
    refine x_iconst (v := (0 : Int32)) rfl rfl ?_
    refine x_istore (i := 4) (L1 := [(4, .int (0 : Int32)), (3, .int (1 : Int32)), (2, .int ((54 : Int32) * x1)), (0, .ref a0), (1, .int x1)]) rfl (Nat.le_of_ble_eq_true rfl) rfl ?_
    exact xP_sub [3, 4, 2, 1, 0] rfl h
theorem s_M_layHand_27 {d : Nat} {D : xD} {Q : Option Value → xD → Prop} {a0 : Nat} {x1 : Int32} {x2 : Int32} {x3 : Int32} {x4 : Int32} (k0 : xk a0 = 13) (h : ((13 : Int32) ≤ x4 → ∀ D1 : xD, D1 = (xu D.1 a0 68 ((D.1 a0 27) * (D.1 a0 28)), D.2) → xPf (d + 1) m_M_layHand 88 [(0, .ref a0), (1, .int x1), (2, .int x2), (3, .int x3), (4, .int (0 : Int32))] [] D1 Q) ∧ (¬ (13 : Int32) ≤ x4 → vp_in x4 (xl (a0 + 33)) ∧ ∀ D2 : xD, D2 = (xu D.1 (a0 + 33) (x4 : Int32).toNatClampNeg (0 : Int32), D.2) → ((D2.1 a0 27) ≤ x4 → vp_in x4 (xl (a0 + 34)) ∧ ∀ D3 : xD, D3 = (xu D2.1 (a0 + 34) (x4 : Int32).toNatClampNeg (0 : Int32), D2.2) → xPf (d + 1) m_M_layHand 27 [(0, .ref a0), (1, .int x1), (2, .int x2), (3, .int x3), (4, .int (x4 + (1 : Int32)))] [] D3 Q) ∧ (¬ (D2.1 a0 27) ≤ x4 → vp_in x4 (xl (a0 + 34)) ∧ ∀ D4 : xD, D4 = (xu D2.1 (a0 + 34) (x4 : Int32).toNatClampNeg (D2.1 a0 28), D2.2) → xPf (d + 1) m_M_layHand 27 [(0, .ref a0), (1, .int x1), (2, .int x2), (3, .int x3), (4, .int (x4 + (1 : Int32)))] [] D4 Q))) : xPf (d + 1) m_M_layHand 27 [(0, .ref a0), (1, .int x1), (2, .int x2), (3, .int x3), (4, .int x4)] [] D Q := by
  refine x_iload rfl rfl ?_
  refine x_bipush (v := (13 : Int32)) rfl rfl ?_
  refine x_icmp_ge (tgt := 72) rfl rfl (fun c => ?_) (fun c => ?_)
  · have h := h.1 c
    refine x_aload_n rfl rfl ?_
    refine x_aload_n rfl rfl ?_
    refine x_gI lf_M_335 k0 rfl rfl ?_
    refine x_aload_n rfl rfl ?_
    refine x_gI lf_M_338 k0 rfl rfl ?_
    refine x_imul rfl ?_
    refine x_pIn lp_M_522 nf_13_68 k0 rfl rfl (fun D1 eD1 => ?_)
    have h := h D1 eD1
    refine x_iconst (v := (0 : Int32)) rfl rfl ?_
    refine x_istore (i := 4) (L1 := [(4, .int (0 : Int32)), (0, .ref a0), (1, .int x1), (2, .int x2), (3, .int x3)]) rfl (Nat.le_of_ble_eq_true rfl) rfl ?_
    exact xP_sub [1, 2, 3, 4, 0] rfl h
  · have h := h.2 c
    refine x_aload_n rfl rfl ?_
    refine x_gR lf_M_107 k0 rfl rfl ?_
    refine x_iload rfl rfl ?_
    refine x_iconst (v := (0 : Int32)) rfl rfl ?_
    refine x_iastn (ck_13_66 k0) h.1 rfl (fun D2 eD2 => ?_)
    have h := h.2 D2 eD2
    refine x_aload_n rfl rfl ?_
    refine x_gR lf_M_110 k0 rfl rfl ?_
    refine x_iload rfl rfl ?_
    refine x_iload rfl rfl ?_
    refine x_aload_n rfl rfl ?_
    refine x_gI lf_M_335 k0 rfl rfl ?_
    refine x_icmp_ge (tgt := 64) rfl rfl (fun c => ?_) (fun c => ?_)
    · have h := h.1 c
      refine x_iconst (v := (0 : Int32)) rfl rfl ?_
      refine x_iastn (ck_13_67 k0) h.1 rfl (fun D3 eD3 => ?_)
      have h := h.2 D3 eD3
      refine x_iinc (i := 4) (v := x4 + (1 : Int32)) (L1 := [(4, .int (x4 + (1 : Int32))), (0, .ref a0), (1, .int x1), (2, .int x2), (3, .int x3)]) rfl rfl rfl (Nat.le_of_ble_eq_true rfl) rfl ?_
      refine x_goto (tgt := 27) rfl rfl ?_
      exact xP_sub [1, 2, 3, 4, 0] rfl h
    · have h := h.2 c
      refine x_aload_n rfl rfl ?_
      refine x_gI lf_M_338 k0 rfl rfl ?_
      refine x_goto (tgt := 65) rfl rfl ?_
      refine x_iastn (ck_13_67 k0) h.1 rfl (fun D4 eD4 => ?_)
      have h := h.2 D4 eD4
      refine x_iinc (i := 4) (v := x4 + (1 : Int32)) (L1 := [(4, .int (x4 + (1 : Int32))), (0, .ref a0), (1, .int x1), (2, .int x2), (3, .int x3)]) rfl rfl rfl (Nat.le_of_ble_eq_true rfl) rfl ?_
      refine x_goto (tgt := 27) rfl rfl ?_
      exact xP_sub [1, 2, 3, 4, 0] rfl h
theorem s_M_layHand_88 {d : Nat} {D : xD} {Q : Option Value → xD → Prop} {a0 : Nat} {x1 : Int32} {x2 : Int32} {x3 : Int32} {x4 : Int32} (k0 : xk a0 = 13) (h : vp_in x2 (xl (a0 + 9)) ∧ vp_in (x2 + (1 : Int32)) (xl (a0 + 9)) ∧ (((D.1 (a0 + 9) (x2 : Int32).toNatClampNeg) + (D.1 (a0 + 9) (x2 + (1 : Int32) : Int32).toNatClampNeg)) ≤ x4 → (x3 = 0 ∨ x3 = 1) ∧ Q (some (.int x3)) D) ∧ (¬ ((D.1 (a0 + 9) (x2 : Int32).toNatClampNeg) + (D.1 (a0 + 9) (x2 + (1 : Int32) : Int32).toNatClampNeg)) ≤ x4 → vp_in x2 (xl (a0 + 9)) ∧ ((D.1 (a0 + 9) (x2 : Int32).toNatClampNeg) ≤ x4 → vp_in x2 (xl (a0 + 9)) ∧ vp_in ((x2 + (2 : Int32)) + (((4 : Int32) + x4) - (D.1 (a0 + 9) (x2 : Int32).toNatClampNeg))) (xl (a0 + 9)) ∧ vp_in (D.1 (a0 + 9) ((x2 + (2 : Int32)) + (((4 : Int32) + x4) - (D.1 (a0 + 9) (x2 : Int32).toNatClampNeg)) : Int32).toNatClampNeg) (xl (a0 + 33)) ∧ vp_in x2 (xl (a0 + 9)) ∧ ((D.1 (a0 + 9) (x2 : Int32).toNatClampNeg) ≤ x4 → vp_in (D.1 (a0 + 9) ((x2 + (2 : Int32)) + (((4 : Int32) + x4) - (D.1 (a0 + 9) (x2 : Int32).toNatClampNeg)) : Int32).toNatClampNeg) (xl (a0 + 33)) ∧ ∀ D1 : xD, D1 = (xu D.1 (a0 + 33) (D.1 (a0 + 9) ((x2 + (2 : Int32)) + (((4 : Int32) + x4) - (D.1 (a0 + 9) (x2 : Int32).toNatClampNeg)) : Int32).toNatClampNeg : Int32).toNatClampNeg ((D.1 (a0 + 33) (D.1 (a0 + 9) ((x2 + (2 : Int32)) + (((4 : Int32) + x4) - (D.1 (a0 + 9) (x2 : Int32).toNatClampNeg)) : Int32).toNatClampNeg : Int32).toNatClampNeg) + (0 : Int32)), D.2) → vp_in (D.1 (a0 + 9) ((x2 + (2 : Int32)) + (((4 : Int32) + x4) - (D.1 (a0 + 9) (x2 : Int32).toNatClampNeg)) : Int32).toNatClampNeg) (xl (a0 + 34)) ∧ vp_in (D.1 (a0 + 9) ((x2 + (2 : Int32)) + (((4 : Int32) + x4) - (D.1 (a0 + 9) (x2 : Int32).toNatClampNeg)) : Int32).toNatClampNeg) (xl (a0 + 34)) ∧ ∀ D2 : xD, D2 = (xu D1.1 (a0 + 34) (D.1 (a0 + 9) ((x2 + (2 : Int32)) + (((4 : Int32) + x4) - (D.1 (a0 + 9) (x2 : Int32).toNatClampNeg)) : Int32).toNatClampNeg : Int32).toNatClampNeg ((D1.1 (a0 + 34) (D.1 (a0 + 9) ((x2 + (2 : Int32)) + (((4 : Int32) + x4) - (D.1 (a0 + 9) (x2 : Int32).toNatClampNeg)) : Int32).toNatClampNeg : Int32).toNatClampNeg) - (1 : Int32)), D1.2) → ∀ D3 : xD, D3 = (xu D2.1 a0 68 ((D2.1 a0 68) - (1 : Int32)), D2.2) → (x3 = 0 → xPf (d + 1) m_M_layHand 88 [(0, .ref a0), (1, .int x1), (2, .int x2), (3, .int (0 : Int32)), (4, .int (x4 + (1 : Int32)))] [] D3 Q) ∧ (¬ x3 = 0 → vp_in (D.1 (a0 + 9) ((x2 + (2 : Int32)) + (((4 : Int32) + x4) - (D.1 (a0 + 9) (x2 : Int32).toNatClampNeg)) : Int32).toNatClampNeg) (xl (a0 + 34)) ∧ ((D3.1 (a0 + 34) (D.1 (a0 + 9) ((x2 + (2 : Int32)) + (((4 : Int32) + x4) - (D.1 (a0 + 9) (x2 : Int32).toNatClampNeg)) : Int32).toNatClampNeg : Int32).toNatClampNeg) < 0 → xPf (d + 1) m_M_layHand 88 [(0, .ref a0), (1, .int x1), (2, .int x2), (3, .int (0 : Int32)), (4, .int (x4 + (1 : Int32)))] [] D3 Q) ∧ (¬ (D3.1 (a0 + 34) (D.1 (a0 + 9) ((x2 + (2 : Int32)) + (((4 : Int32) + x4) - (D.1 (a0 + 9) (x2 : Int32).toNatClampNeg)) : Int32).toNatClampNeg : Int32).toNatClampNeg) < 0 → xPf (d + 1) m_M_layHand 88 [(0, .ref a0), (1, .int x1), (2, .int x2), (3, .int (1 : Int32)), (4, .int (x4 + (1 : Int32)))] [] D3 Q))) ∧ (¬ (D.1 (a0 + 9) (x2 : Int32).toNatClampNeg) ≤ x4 → vp_in (D.1 (a0 + 9) ((x2 + (2 : Int32)) + (((4 : Int32) + x4) - (D.1 (a0 + 9) (x2 : Int32).toNatClampNeg)) : Int32).toNatClampNeg) (xl (a0 + 33)) ∧ ∀ D4 : xD, D4 = (xu D.1 (a0 + 33) (D.1 (a0 + 9) ((x2 + (2 : Int32)) + (((4 : Int32) + x4) - (D.1 (a0 + 9) (x2 : Int32).toNatClampNeg)) : Int32).toNatClampNeg : Int32).toNatClampNeg ((D.1 (a0 + 33) (D.1 (a0 + 9) ((x2 + (2 : Int32)) + (((4 : Int32) + x4) - (D.1 (a0 + 9) (x2 : Int32).toNatClampNeg)) : Int32).toNatClampNeg : Int32).toNatClampNeg) + (1 : Int32)), D.2) → vp_in (D.1 (a0 + 9) ((x2 + (2 : Int32)) + (((4 : Int32) + x4) - (D.1 (a0 + 9) (x2 : Int32).toNatClampNeg)) : Int32).toNatClampNeg) (xl (a0 + 34)) ∧ vp_in (D.1 (a0 + 9) ((x2 + (2 : Int32)) + (((4 : Int32) + x4) - (D.1 (a0 + 9) (x2 : Int32).toNatClampNeg)) : Int32).toNatClampNeg) (xl (a0 + 34)) ∧ ∀ D5 : xD, D5 = (xu D4.1 (a0 + 34) (D.1 (a0 + 9) ((x2 + (2 : Int32)) + (((4 : Int32) + x4) - (D.1 (a0 + 9) (x2 : Int32).toNatClampNeg)) : Int32).toNatClampNeg : Int32).toNatClampNeg ((D4.1 (a0 + 34) (D.1 (a0 + 9) ((x2 + (2 : Int32)) + (((4 : Int32) + x4) - (D.1 (a0 + 9) (x2 : Int32).toNatClampNeg)) : Int32).toNatClampNeg : Int32).toNatClampNeg) - (1 : Int32)), D4.2) → ∀ D6 : xD, D6 = (xu D5.1 a0 68 ((D5.1 a0 68) - (1 : Int32)), D5.2) → (x3 = 0 → xPf (d + 1) m_M_layHand 88 [(0, .ref a0), (1, .int x1), (2, .int x2), (3, .int (0 : Int32)), (4, .int (x4 + (1 : Int32)))] [] D6 Q) ∧ (¬ x3 = 0 → vp_in (D.1 (a0 + 9) ((x2 + (2 : Int32)) + (((4 : Int32) + x4) - (D.1 (a0 + 9) (x2 : Int32).toNatClampNeg)) : Int32).toNatClampNeg) (xl (a0 + 34)) ∧ ((D6.1 (a0 + 34) (D.1 (a0 + 9) ((x2 + (2 : Int32)) + (((4 : Int32) + x4) - (D.1 (a0 + 9) (x2 : Int32).toNatClampNeg)) : Int32).toNatClampNeg : Int32).toNatClampNeg) < 0 → xPf (d + 1) m_M_layHand 88 [(0, .ref a0), (1, .int x1), (2, .int x2), (3, .int (0 : Int32)), (4, .int (x4 + (1 : Int32)))] [] D6 Q) ∧ (¬ (D6.1 (a0 + 34) (D.1 (a0 + 9) ((x2 + (2 : Int32)) + (((4 : Int32) + x4) - (D.1 (a0 + 9) (x2 : Int32).toNatClampNeg)) : Int32).toNatClampNeg : Int32).toNatClampNeg) < 0 → xPf (d + 1) m_M_layHand 88 [(0, .ref a0), (1, .int x1), (2, .int x2), (3, .int (1 : Int32)), (4, .int (x4 + (1 : Int32)))] [] D6 Q)))) ∧ (¬ (D.1 (a0 + 9) (x2 : Int32).toNatClampNeg) ≤ x4 → vp_in ((x2 + (2 : Int32)) + x4) (xl (a0 + 9)) ∧ vp_in (D.1 (a0 + 9) ((x2 + (2 : Int32)) + x4 : Int32).toNatClampNeg) (xl (a0 + 33)) ∧ vp_in x2 (xl (a0 + 9)) ∧ ((D.1 (a0 + 9) (x2 : Int32).toNatClampNeg) ≤ x4 → vp_in (D.1 (a0 + 9) ((x2 + (2 : Int32)) + x4 : Int32).toNatClampNeg) (xl (a0 + 33)) ∧ ∀ D7 : xD, D7 = (xu D.1 (a0 + 33) (D.1 (a0 + 9) ((x2 + (2 : Int32)) + x4 : Int32).toNatClampNeg : Int32).toNatClampNeg ((D.1 (a0 + 33) (D.1 (a0 + 9) ((x2 + (2 : Int32)) + x4 : Int32).toNatClampNeg : Int32).toNatClampNeg) + (0 : Int32)), D.2) → vp_in (D.1 (a0 + 9) ((x2 + (2 : Int32)) + x4 : Int32).toNatClampNeg) (xl (a0 + 34)) ∧ vp_in (D.1 (a0 + 9) ((x2 + (2 : Int32)) + x4 : Int32).toNatClampNeg) (xl (a0 + 34)) ∧ ∀ D8 : xD, D8 = (xu D7.1 (a0 + 34) (D.1 (a0 + 9) ((x2 + (2 : Int32)) + x4 : Int32).toNatClampNeg : Int32).toNatClampNeg ((D7.1 (a0 + 34) (D.1 (a0 + 9) ((x2 + (2 : Int32)) + x4 : Int32).toNatClampNeg : Int32).toNatClampNeg) - (1 : Int32)), D7.2) → ∀ D9 : xD, D9 = (xu D8.1 a0 68 ((D8.1 a0 68) - (1 : Int32)), D8.2) → (x3 = 0 → xPf (d + 1) m_M_layHand 88 [(0, .ref a0), (1, .int x1), (2, .int x2), (3, .int (0 : Int32)), (4, .int (x4 + (1 : Int32)))] [] D9 Q) ∧ (¬ x3 = 0 → vp_in (D.1 (a0 + 9) ((x2 + (2 : Int32)) + x4 : Int32).toNatClampNeg) (xl (a0 + 34)) ∧ ((D9.1 (a0 + 34) (D.1 (a0 + 9) ((x2 + (2 : Int32)) + x4 : Int32).toNatClampNeg : Int32).toNatClampNeg) < 0 → xPf (d + 1) m_M_layHand 88 [(0, .ref a0), (1, .int x1), (2, .int x2), (3, .int (0 : Int32)), (4, .int (x4 + (1 : Int32)))] [] D9 Q) ∧ (¬ (D9.1 (a0 + 34) (D.1 (a0 + 9) ((x2 + (2 : Int32)) + x4 : Int32).toNatClampNeg : Int32).toNatClampNeg) < 0 → xPf (d + 1) m_M_layHand 88 [(0, .ref a0), (1, .int x1), (2, .int x2), (3, .int (1 : Int32)), (4, .int (x4 + (1 : Int32)))] [] D9 Q))) ∧ (¬ (D.1 (a0 + 9) (x2 : Int32).toNatClampNeg) ≤ x4 → vp_in (D.1 (a0 + 9) ((x2 + (2 : Int32)) + x4 : Int32).toNatClampNeg) (xl (a0 + 33)) ∧ ∀ D10 : xD, D10 = (xu D.1 (a0 + 33) (D.1 (a0 + 9) ((x2 + (2 : Int32)) + x4 : Int32).toNatClampNeg : Int32).toNatClampNeg ((D.1 (a0 + 33) (D.1 (a0 + 9) ((x2 + (2 : Int32)) + x4 : Int32).toNatClampNeg : Int32).toNatClampNeg) + (1 : Int32)), D.2) → vp_in (D.1 (a0 + 9) ((x2 + (2 : Int32)) + x4 : Int32).toNatClampNeg) (xl (a0 + 34)) ∧ vp_in (D.1 (a0 + 9) ((x2 + (2 : Int32)) + x4 : Int32).toNatClampNeg) (xl (a0 + 34)) ∧ ∀ D11 : xD, D11 = (xu D10.1 (a0 + 34) (D.1 (a0 + 9) ((x2 + (2 : Int32)) + x4 : Int32).toNatClampNeg : Int32).toNatClampNeg ((D10.1 (a0 + 34) (D.1 (a0 + 9) ((x2 + (2 : Int32)) + x4 : Int32).toNatClampNeg : Int32).toNatClampNeg) - (1 : Int32)), D10.2) → ∀ D12 : xD, D12 = (xu D11.1 a0 68 ((D11.1 a0 68) - (1 : Int32)), D11.2) → (x3 = 0 → xPf (d + 1) m_M_layHand 88 [(0, .ref a0), (1, .int x1), (2, .int x2), (3, .int (0 : Int32)), (4, .int (x4 + (1 : Int32)))] [] D12 Q) ∧ (¬ x3 = 0 → vp_in (D.1 (a0 + 9) ((x2 + (2 : Int32)) + x4 : Int32).toNatClampNeg) (xl (a0 + 34)) ∧ ((D12.1 (a0 + 34) (D.1 (a0 + 9) ((x2 + (2 : Int32)) + x4 : Int32).toNatClampNeg : Int32).toNatClampNeg) < 0 → xPf (d + 1) m_M_layHand 88 [(0, .ref a0), (1, .int x1), (2, .int x2), (3, .int (0 : Int32)), (4, .int (x4 + (1 : Int32)))] [] D12 Q) ∧ (¬ (D12.1 (a0 + 34) (D.1 (a0 + 9) ((x2 + (2 : Int32)) + x4 : Int32).toNatClampNeg : Int32).toNatClampNeg) < 0 → xPf (d + 1) m_M_layHand 88 [(0, .ref a0), (1, .int x1), (2, .int x2), (3, .int (1 : Int32)), (4, .int (x4 + (1 : Int32)))] [] D12 Q)))))) : xPf (d + 1) m_M_layHand 88 [(0, .ref a0), (1, .int x1), (2, .int x2), (3, .int x3), (4, .int x4)] [] D Q := by
  refine x_iload rfl rfl ?_
  refine x_aload_n rfl rfl ?_
  refine x_gR lf_M_35 k0 rfl rfl ?_
  refine x_iload_n rfl rfl ?_
  refine x_iald (ck_13_9 k0) (xlt (ck_13_9 k0) (by decide)) h.1 rfl ?_
  have h := h.2
  refine x_aload_n rfl rfl ?_
  refine x_gR lf_M_35 k0 rfl rfl ?_
  refine x_iload_n rfl rfl ?_
  refine x_iconst (v := (1 : Int32)) rfl rfl ?_
  refine x_iadd rfl ?_
  refine x_iald (ck_13_9 k0) (xlt (ck_13_9 k0) (by decide)) h.1 rfl ?_
  have h := h.2
  refine x_iadd rfl ?_
  refine x_icmp_ge (tgt := 219) rfl rfl (fun c => ?_) (fun c => ?_)
  · have h := h.1 c
    refine x_iload_n rfl rfl ?_
    exact x_zr rfl h.1 rfl h.2
  · have h := h.2 c
    refine x_aload_n rfl rfl ?_
    refine x_gR lf_M_35 k0 rfl rfl ?_
    refine x_iload_n rfl rfl ?_
    refine x_iconst (v := (2 : Int32)) rfl rfl ?_
    refine x_iadd rfl ?_
    refine x_iload rfl rfl ?_
    refine x_aload_n rfl rfl ?_
    refine x_gR lf_M_35 k0 rfl rfl ?_
    refine x_iload_n rfl rfl ?_
    refine x_iald (ck_13_9 k0) (xlt (ck_13_9 k0) (by decide)) h.1 rfl ?_
    have h := h.2
    refine x_icmp_ge (tgt := 131) rfl rfl (fun c => ?_) (fun c => ?_)
    · have h := h.1 c
      refine x_iconst (v := (4 : Int32)) rfl rfl ?_
      refine x_iload rfl rfl ?_
      refine x_iadd rfl ?_
      refine x_aload_n rfl rfl ?_
      refine x_gR lf_M_35 k0 rfl rfl ?_
      refine x_iload_n rfl rfl ?_
      refine x_iald (ck_13_9 k0) (xlt (ck_13_9 k0) (by decide)) h.1 rfl ?_
      have h := h.2
      refine x_isub rfl ?_
      refine x_iadd rfl ?_
      refine x_iald (ck_13_9 k0) (xlt (ck_13_9 k0) (by decide)) h.1 rfl ?_
      have h := h.2
      refine x_istore (i := 5) (L1 := [(5, .int (D.1 (a0 + 9) ((x2 + (2 : Int32)) + (((4 : Int32) + x4) - (D.1 (a0 + 9) (x2 : Int32).toNatClampNeg)) : Int32).toNatClampNeg)), (0, .ref a0), (1, .int x1), (2, .int x2), (3, .int x3), (4, .int x4)]) rfl (Nat.le_of_ble_eq_true rfl) rfl ?_
      refine x_aload_n rfl rfl ?_
      refine x_gR lf_M_107 k0 rfl rfl ?_
      refine x_iload rfl rfl ?_
      refine x_dup2 rfl rfl rfl ?_
      refine x_iald (ck_13_66 k0) (xlt (ck_13_66 k0) (by decide)) h.1 rfl ?_
      have h := h.2
      refine x_iload rfl rfl ?_
      refine x_aload_n rfl rfl ?_
      refine x_gR lf_M_35 k0 rfl rfl ?_
      refine x_iload_n rfl rfl ?_
      refine x_iald (ck_13_9 k0) (xlt (ck_13_9 k0) (by decide)) h.1 rfl ?_
      have h := h.2
      refine x_icmp_ge (tgt := 169) rfl rfl (fun c => ?_) (fun c => ?_)
      · have h := h.1 c
        refine x_iconst (v := (0 : Int32)) rfl rfl ?_
        refine x_iadd rfl ?_
        refine x_iastn (ck_13_66 k0) h.1 rfl (fun D1 eD1 => ?_)
        have h := h.2 D1 eD1
        refine x_aload_n rfl rfl ?_
        refine x_gR lf_M_110 k0 rfl rfl ?_
        refine x_iload rfl rfl ?_
        refine x_dup2 rfl rfl rfl ?_
        refine x_iald (ck_13_67 k0) (xlt (ck_13_67 k0) (by decide)) h.1 rfl ?_
        have h := h.2
        refine x_iconst (v := (1 : Int32)) rfl rfl ?_
        refine x_isub rfl ?_
        refine x_iastn (ck_13_67 k0) h.1 rfl (fun D2 eD2 => ?_)
        have h := h.2 D2 eD2
        refine x_aload_n rfl rfl ?_
        refine x_dup rfl rfl ?_
        refine x_gI lf_M_522 k0 rfl rfl ?_
        refine x_iconst (v := (1 : Int32)) rfl rfl ?_
        refine x_isub rfl ?_
        refine x_pIn lp_M_522 nf_13_68 k0 rfl rfl (fun D3 eD3 => ?_)
        have h := h D3 eD3
        refine x_iload_n rfl rfl ?_
        refine x_if_eq (tgt := 211) rfl rfl (fun c => ?_) (fun c => ?_)
        · have h := h.1 c
          refine x_iconst (v := (0 : Int32)) rfl rfl ?_
          refine x_istore_n (i := 3) (L1 := [(3, .int (0 : Int32)), (5, .int (D.1 (a0 + 9) ((x2 + (2 : Int32)) + (((4 : Int32) + x4) - (D.1 (a0 + 9) (x2 : Int32).toNatClampNeg)) : Int32).toNatClampNeg)), (0, .ref a0), (1, .int x1), (2, .int x2), (4, .int x4)]) rfl rfl (Nat.le_of_ble_eq_true rfl) rfl ?_
          refine x_iinc (i := 4) (v := x4 + (1 : Int32)) (L1 := [(4, .int (x4 + (1 : Int32))), (3, .int (0 : Int32)), (5, .int (D.1 (a0 + 9) ((x2 + (2 : Int32)) + (((4 : Int32) + x4) - (D.1 (a0 + 9) (x2 : Int32).toNatClampNeg)) : Int32).toNatClampNeg)), (0, .ref a0), (1, .int x1), (2, .int x2)]) rfl rfl rfl (Nat.le_of_ble_eq_true rfl) rfl ?_
          refine x_goto (tgt := 88) rfl rfl ?_
          exact xP_sub [3, 4, 5, 1, 0] rfl h
        · have h := h.2 c
          refine x_aload_n rfl rfl ?_
          refine x_gR lf_M_110 k0 rfl rfl ?_
          refine x_iload rfl rfl ?_
          refine x_iald (ck_13_67 k0) (xlt (ck_13_67 k0) (by decide)) h.1 rfl ?_
          have h := h.2
          refine x_if_lt (tgt := 211) rfl rfl (fun c => ?_) (fun c => ?_)
          · have h := h.1 c
            refine x_iconst (v := (0 : Int32)) rfl rfl ?_
            refine x_istore_n (i := 3) (L1 := [(3, .int (0 : Int32)), (5, .int (D.1 (a0 + 9) ((x2 + (2 : Int32)) + (((4 : Int32) + x4) - (D.1 (a0 + 9) (x2 : Int32).toNatClampNeg)) : Int32).toNatClampNeg)), (0, .ref a0), (1, .int x1), (2, .int x2), (4, .int x4)]) rfl rfl (Nat.le_of_ble_eq_true rfl) rfl ?_
            refine x_iinc (i := 4) (v := x4 + (1 : Int32)) (L1 := [(4, .int (x4 + (1 : Int32))), (3, .int (0 : Int32)), (5, .int (D.1 (a0 + 9) ((x2 + (2 : Int32)) + (((4 : Int32) + x4) - (D.1 (a0 + 9) (x2 : Int32).toNatClampNeg)) : Int32).toNatClampNeg)), (0, .ref a0), (1, .int x1), (2, .int x2)]) rfl rfl rfl (Nat.le_of_ble_eq_true rfl) rfl ?_
            refine x_goto (tgt := 88) rfl rfl ?_
            exact xP_sub [3, 4, 5, 1, 0] rfl h
          · have h := h.2 c
            refine x_iconst (v := (1 : Int32)) rfl rfl ?_
            refine x_goto (tgt := 212) rfl rfl ?_
            refine x_istore_n (i := 3) (L1 := [(3, .int (1 : Int32)), (5, .int (D.1 (a0 + 9) ((x2 + (2 : Int32)) + (((4 : Int32) + x4) - (D.1 (a0 + 9) (x2 : Int32).toNatClampNeg)) : Int32).toNatClampNeg)), (0, .ref a0), (1, .int x1), (2, .int x2), (4, .int x4)]) rfl rfl (Nat.le_of_ble_eq_true rfl) rfl ?_
            refine x_iinc (i := 4) (v := x4 + (1 : Int32)) (L1 := [(4, .int (x4 + (1 : Int32))), (3, .int (1 : Int32)), (5, .int (D.1 (a0 + 9) ((x2 + (2 : Int32)) + (((4 : Int32) + x4) - (D.1 (a0 + 9) (x2 : Int32).toNatClampNeg)) : Int32).toNatClampNeg)), (0, .ref a0), (1, .int x1), (2, .int x2)]) rfl rfl rfl (Nat.le_of_ble_eq_true rfl) rfl ?_
            refine x_goto (tgt := 88) rfl rfl ?_
            exact xP_sub [3, 4, 5, 1, 0] rfl h
      · have h := h.2 c
        refine x_iconst (v := (1 : Int32)) rfl rfl ?_
        refine x_goto (tgt := 170) rfl rfl ?_
        refine x_iadd rfl ?_
        refine x_iastn (ck_13_66 k0) h.1 rfl (fun D4 eD4 => ?_)
        have h := h.2 D4 eD4
        refine x_aload_n rfl rfl ?_
        refine x_gR lf_M_110 k0 rfl rfl ?_
        refine x_iload rfl rfl ?_
        refine x_dup2 rfl rfl rfl ?_
        refine x_iald (ck_13_67 k0) (xlt (ck_13_67 k0) (by decide)) h.1 rfl ?_
        have h := h.2
        refine x_iconst (v := (1 : Int32)) rfl rfl ?_
        refine x_isub rfl ?_
        refine x_iastn (ck_13_67 k0) h.1 rfl (fun D5 eD5 => ?_)
        have h := h.2 D5 eD5
        refine x_aload_n rfl rfl ?_
        refine x_dup rfl rfl ?_
        refine x_gI lf_M_522 k0 rfl rfl ?_
        refine x_iconst (v := (1 : Int32)) rfl rfl ?_
        refine x_isub rfl ?_
        refine x_pIn lp_M_522 nf_13_68 k0 rfl rfl (fun D6 eD6 => ?_)
        have h := h D6 eD6
        refine x_iload_n rfl rfl ?_
        refine x_if_eq (tgt := 211) rfl rfl (fun c => ?_) (fun c => ?_)
        · have h := h.1 c
          refine x_iconst (v := (0 : Int32)) rfl rfl ?_
          refine x_istore_n (i := 3) (L1 := [(3, .int (0 : Int32)), (5, .int (D.1 (a0 + 9) ((x2 + (2 : Int32)) + (((4 : Int32) + x4) - (D.1 (a0 + 9) (x2 : Int32).toNatClampNeg)) : Int32).toNatClampNeg)), (0, .ref a0), (1, .int x1), (2, .int x2), (4, .int x4)]) rfl rfl (Nat.le_of_ble_eq_true rfl) rfl ?_
          refine x_iinc (i := 4) (v := x4 + (1 : Int32)) (L1 := [(4, .int (x4 + (1 : Int32))), (3, .int (0 : Int32)), (5, .int (D.1 (a0 + 9) ((x2 + (2 : Int32)) + (((4 : Int32) + x4) - (D.1 (a0 + 9) (x2 : Int32).toNatClampNeg)) : Int32).toNatClampNeg)), (0, .ref a0), (1, .int x1), (2, .int x2)]) rfl rfl rfl (Nat.le_of_ble_eq_true rfl) rfl ?_
          refine x_goto (tgt := 88) rfl rfl ?_
          exact xP_sub [3, 4, 5, 1, 0] rfl h
        · have h := h.2 c
          refine x_aload_n rfl rfl ?_
          refine x_gR lf_M_110 k0 rfl rfl ?_
          refine x_iload rfl rfl ?_
          refine x_iald (ck_13_67 k0) (xlt (ck_13_67 k0) (by decide)) h.1 rfl ?_
          have h := h.2
          refine x_if_lt (tgt := 211) rfl rfl (fun c => ?_) (fun c => ?_)
          · have h := h.1 c
            refine x_iconst (v := (0 : Int32)) rfl rfl ?_
            refine x_istore_n (i := 3) (L1 := [(3, .int (0 : Int32)), (5, .int (D.1 (a0 + 9) ((x2 + (2 : Int32)) + (((4 : Int32) + x4) - (D.1 (a0 + 9) (x2 : Int32).toNatClampNeg)) : Int32).toNatClampNeg)), (0, .ref a0), (1, .int x1), (2, .int x2), (4, .int x4)]) rfl rfl (Nat.le_of_ble_eq_true rfl) rfl ?_
            refine x_iinc (i := 4) (v := x4 + (1 : Int32)) (L1 := [(4, .int (x4 + (1 : Int32))), (3, .int (0 : Int32)), (5, .int (D.1 (a0 + 9) ((x2 + (2 : Int32)) + (((4 : Int32) + x4) - (D.1 (a0 + 9) (x2 : Int32).toNatClampNeg)) : Int32).toNatClampNeg)), (0, .ref a0), (1, .int x1), (2, .int x2)]) rfl rfl rfl (Nat.le_of_ble_eq_true rfl) rfl ?_
            refine x_goto (tgt := 88) rfl rfl ?_
            exact xP_sub [3, 4, 5, 1, 0] rfl h
          · have h := h.2 c
            refine x_iconst (v := (1 : Int32)) rfl rfl ?_
            refine x_goto (tgt := 212) rfl rfl ?_
            refine x_istore_n (i := 3) (L1 := [(3, .int (1 : Int32)), (5, .int (D.1 (a0 + 9) ((x2 + (2 : Int32)) + (((4 : Int32) + x4) - (D.1 (a0 + 9) (x2 : Int32).toNatClampNeg)) : Int32).toNatClampNeg)), (0, .ref a0), (1, .int x1), (2, .int x2), (4, .int x4)]) rfl rfl (Nat.le_of_ble_eq_true rfl) rfl ?_
            refine x_iinc (i := 4) (v := x4 + (1 : Int32)) (L1 := [(4, .int (x4 + (1 : Int32))), (3, .int (1 : Int32)), (5, .int (D.1 (a0 + 9) ((x2 + (2 : Int32)) + (((4 : Int32) + x4) - (D.1 (a0 + 9) (x2 : Int32).toNatClampNeg)) : Int32).toNatClampNeg)), (0, .ref a0), (1, .int x1), (2, .int x2)]) rfl rfl rfl (Nat.le_of_ble_eq_true rfl) rfl ?_
            refine x_goto (tgt := 88) rfl rfl ?_
            exact xP_sub [3, 4, 5, 1, 0] rfl h
    · have h := h.2 c
      refine x_iload rfl rfl ?_
      refine x_goto (tgt := 142) rfl rfl ?_
      refine x_iadd rfl ?_
      refine x_iald (ck_13_9 k0) (xlt (ck_13_9 k0) (by decide)) h.1 rfl ?_
      have h := h.2
      refine x_istore (i := 5) (L1 := [(5, .int (D.1 (a0 + 9) ((x2 + (2 : Int32)) + x4 : Int32).toNatClampNeg)), (0, .ref a0), (1, .int x1), (2, .int x2), (3, .int x3), (4, .int x4)]) rfl (Nat.le_of_ble_eq_true rfl) rfl ?_
      refine x_aload_n rfl rfl ?_
      refine x_gR lf_M_107 k0 rfl rfl ?_
      refine x_iload rfl rfl ?_
      refine x_dup2 rfl rfl rfl ?_
      refine x_iald (ck_13_66 k0) (xlt (ck_13_66 k0) (by decide)) h.1 rfl ?_
      have h := h.2
      refine x_iload rfl rfl ?_
      refine x_aload_n rfl rfl ?_
      refine x_gR lf_M_35 k0 rfl rfl ?_
      refine x_iload_n rfl rfl ?_
      refine x_iald (ck_13_9 k0) (xlt (ck_13_9 k0) (by decide)) h.1 rfl ?_
      have h := h.2
      refine x_icmp_ge (tgt := 169) rfl rfl (fun c => ?_) (fun c => ?_)
      · have h := h.1 c
        refine x_iconst (v := (0 : Int32)) rfl rfl ?_
        refine x_iadd rfl ?_
        refine x_iastn (ck_13_66 k0) h.1 rfl (fun D7 eD7 => ?_)
        have h := h.2 D7 eD7
        refine x_aload_n rfl rfl ?_
        refine x_gR lf_M_110 k0 rfl rfl ?_
        refine x_iload rfl rfl ?_
        refine x_dup2 rfl rfl rfl ?_
        refine x_iald (ck_13_67 k0) (xlt (ck_13_67 k0) (by decide)) h.1 rfl ?_
        have h := h.2
        refine x_iconst (v := (1 : Int32)) rfl rfl ?_
        refine x_isub rfl ?_
        refine x_iastn (ck_13_67 k0) h.1 rfl (fun D8 eD8 => ?_)
        have h := h.2 D8 eD8
        refine x_aload_n rfl rfl ?_
        refine x_dup rfl rfl ?_
        refine x_gI lf_M_522 k0 rfl rfl ?_
        refine x_iconst (v := (1 : Int32)) rfl rfl ?_
        refine x_isub rfl ?_
        refine x_pIn lp_M_522 nf_13_68 k0 rfl rfl (fun D9 eD9 => ?_)
        have h := h D9 eD9
        refine x_iload_n rfl rfl ?_
        refine x_if_eq (tgt := 211) rfl rfl (fun c => ?_) (fun c => ?_)
        · have h := h.1 c
          refine x_iconst (v := (0 : Int32)) rfl rfl ?_
          refine x_istore_n (i := 3) (L1 := [(3, .int (0 : Int32)), (5, .int (D.1 (a0 + 9) ((x2 + (2 : Int32)) + x4 : Int32).toNatClampNeg)), (0, .ref a0), (1, .int x1), (2, .int x2), (4, .int x4)]) rfl rfl (Nat.le_of_ble_eq_true rfl) rfl ?_
          refine x_iinc (i := 4) (v := x4 + (1 : Int32)) (L1 := [(4, .int (x4 + (1 : Int32))), (3, .int (0 : Int32)), (5, .int (D.1 (a0 + 9) ((x2 + (2 : Int32)) + x4 : Int32).toNatClampNeg)), (0, .ref a0), (1, .int x1), (2, .int x2)]) rfl rfl rfl (Nat.le_of_ble_eq_true rfl) rfl ?_
          refine x_goto (tgt := 88) rfl rfl ?_
          exact xP_sub [3, 4, 5, 1, 0] rfl h
        · have h := h.2 c
          refine x_aload_n rfl rfl ?_
          refine x_gR lf_M_110 k0 rfl rfl ?_
          refine x_iload rfl rfl ?_
          refine x_iald (ck_13_67 k0) (xlt (ck_13_67 k0) (by decide)) h.1 rfl ?_
          have h := h.2
          refine x_if_lt (tgt := 211) rfl rfl (fun c => ?_) (fun c => ?_)
          · have h := h.1 c
            refine x_iconst (v := (0 : Int32)) rfl rfl ?_
            refine x_istore_n (i := 3) (L1 := [(3, .int (0 : Int32)), (5, .int (D.1 (a0 + 9) ((x2 + (2 : Int32)) + x4 : Int32).toNatClampNeg)), (0, .ref a0), (1, .int x1), (2, .int x2), (4, .int x4)]) rfl rfl (Nat.le_of_ble_eq_true rfl) rfl ?_
            refine x_iinc (i := 4) (v := x4 + (1 : Int32)) (L1 := [(4, .int (x4 + (1 : Int32))), (3, .int (0 : Int32)), (5, .int (D.1 (a0 + 9) ((x2 + (2 : Int32)) + x4 : Int32).toNatClampNeg)), (0, .ref a0), (1, .int x1), (2, .int x2)]) rfl rfl rfl (Nat.le_of_ble_eq_true rfl) rfl ?_
            refine x_goto (tgt := 88) rfl rfl ?_
            exact xP_sub [3, 4, 5, 1, 0] rfl h
          · have h := h.2 c
            refine x_iconst (v := (1 : Int32)) rfl rfl ?_
            refine x_goto (tgt := 212) rfl rfl ?_
            refine x_istore_n (i := 3) (L1 := [(3, .int (1 : Int32)), (5, .int (D.1 (a0 + 9) ((x2 + (2 : Int32)) + x4 : Int32).toNatClampNeg)), (0, .ref a0), (1, .int x1), (2, .int x2), (4, .int x4)]) rfl rfl (Nat.le_of_ble_eq_true rfl) rfl ?_
            refine x_iinc (i := 4) (v := x4 + (1 : Int32)) (L1 := [(4, .int (x4 + (1 : Int32))), (3, .int (1 : Int32)), (5, .int (D.1 (a0 + 9) ((x2 + (2 : Int32)) + x4 : Int32).toNatClampNeg)), (0, .ref a0), (1, .int x1), (2, .int x2)]) rfl rfl rfl (Nat.le_of_ble_eq_true rfl) rfl ?_
            refine x_goto (tgt := 88) rfl rfl ?_
            exact xP_sub [3, 4, 5, 1, 0] rfl h
      · have h := h.2 c
        refine x_iconst (v := (1 : Int32)) rfl rfl ?_
        refine x_goto (tgt := 170) rfl rfl ?_
        refine x_iadd rfl ?_
        refine x_iastn (ck_13_66 k0) h.1 rfl (fun D10 eD10 => ?_)
        have h := h.2 D10 eD10
        refine x_aload_n rfl rfl ?_
        refine x_gR lf_M_110 k0 rfl rfl ?_
        refine x_iload rfl rfl ?_
        refine x_dup2 rfl rfl rfl ?_
        refine x_iald (ck_13_67 k0) (xlt (ck_13_67 k0) (by decide)) h.1 rfl ?_
        have h := h.2
        refine x_iconst (v := (1 : Int32)) rfl rfl ?_
        refine x_isub rfl ?_
        refine x_iastn (ck_13_67 k0) h.1 rfl (fun D11 eD11 => ?_)
        have h := h.2 D11 eD11
        refine x_aload_n rfl rfl ?_
        refine x_dup rfl rfl ?_
        refine x_gI lf_M_522 k0 rfl rfl ?_
        refine x_iconst (v := (1 : Int32)) rfl rfl ?_
        refine x_isub rfl ?_
        refine x_pIn lp_M_522 nf_13_68 k0 rfl rfl (fun D12 eD12 => ?_)
        have h := h D12 eD12
        refine x_iload_n rfl rfl ?_
        refine x_if_eq (tgt := 211) rfl rfl (fun c => ?_) (fun c => ?_)
        · have h := h.1 c
          refine x_iconst (v := (0 : Int32)) rfl rfl ?_
          refine x_istore_n (i := 3) (L1 := [(3, .int (0 : Int32)), (5, .int (D.1 (a0 + 9) ((x2 + (2 : Int32)) + x4 : Int32).toNatClampNeg)), (0, .ref a0), (1, .int x1), (2, .int x2), (4, .int x4)]) rfl rfl (Nat.le_of_ble_eq_true rfl) rfl ?_
          refine x_iinc (i := 4) (v := x4 + (1 : Int32)) (L1 := [(4, .int (x4 + (1 : Int32))), (3, .int (0 : Int32)), (5, .int (D.1 (a0 + 9) ((x2 + (2 : Int32)) + x4 : Int32).toNatClampNeg)), (0, .ref a0), (1, .int x1), (2, .int x2)]) rfl rfl rfl (Nat.le_of_ble_eq_true rfl) rfl ?_
          refine x_goto (tgt := 88) rfl rfl ?_
          exact xP_sub [3, 4, 5, 1, 0] rfl h
        · have h := h.2 c
          refine x_aload_n rfl rfl ?_
          refine x_gR lf_M_110 k0 rfl rfl ?_
          refine x_iload rfl rfl ?_
          refine x_iald (ck_13_67 k0) (xlt (ck_13_67 k0) (by decide)) h.1 rfl ?_
          have h := h.2
          refine x_if_lt (tgt := 211) rfl rfl (fun c => ?_) (fun c => ?_)
          · have h := h.1 c
            refine x_iconst (v := (0 : Int32)) rfl rfl ?_
            refine x_istore_n (i := 3) (L1 := [(3, .int (0 : Int32)), (5, .int (D.1 (a0 + 9) ((x2 + (2 : Int32)) + x4 : Int32).toNatClampNeg)), (0, .ref a0), (1, .int x1), (2, .int x2), (4, .int x4)]) rfl rfl (Nat.le_of_ble_eq_true rfl) rfl ?_
            refine x_iinc (i := 4) (v := x4 + (1 : Int32)) (L1 := [(4, .int (x4 + (1 : Int32))), (3, .int (0 : Int32)), (5, .int (D.1 (a0 + 9) ((x2 + (2 : Int32)) + x4 : Int32).toNatClampNeg)), (0, .ref a0), (1, .int x1), (2, .int x2)]) rfl rfl rfl (Nat.le_of_ble_eq_true rfl) rfl ?_
            refine x_goto (tgt := 88) rfl rfl ?_
            exact xP_sub [3, 4, 5, 1, 0] rfl h
          · have h := h.2 c
            refine x_iconst (v := (1 : Int32)) rfl rfl ?_
            refine x_goto (tgt := 212) rfl rfl ?_
            refine x_istore_n (i := 3) (L1 := [(3, .int (1 : Int32)), (5, .int (D.1 (a0 + 9) ((x2 + (2 : Int32)) + x4 : Int32).toNatClampNeg)), (0, .ref a0), (1, .int x1), (2, .int x2), (4, .int x4)]) rfl rfl (Nat.le_of_ble_eq_true rfl) rfl ?_
            refine x_iinc (i := 4) (v := x4 + (1 : Int32)) (L1 := [(4, .int (x4 + (1 : Int32))), (3, .int (1 : Int32)), (5, .int (D.1 (a0 + 9) ((x2 + (2 : Int32)) + x4 : Int32).toNatClampNeg)), (0, .ref a0), (1, .int x1), (2, .int x2)]) rfl rfl rfl (Nat.le_of_ble_eq_true rfl) rfl ?_
            refine x_goto (tgt := 88) rfl rfl ?_
            exact xP_sub [3, 4, 5, 1, 0] rfl h
theorem s_M_fitsHand_0 {d : Nat} {D : xD} {Q : Option Value → xD → Prop} {a0 : Nat} {x1 : Int32} {x2 : Int32} (k0 : xk a0 = 13) (h : xCi d m_M_is [.ref a0, .int (3 : Int32), .int x2] D (fun r2 D1 => (r2 = 0 → Q (some (.int (0 : Int32))) D1) ∧ (¬ r2 = 0 → xCi d m_M_hand1 [.ref a0, .int x1] D1 (fun r4 D3 => (r4 = 0 → Q (some (.int (0 : Int32))) D3) ∧ (¬ r4 = 0 → xCi d m_M_layHand [.ref a0, .int x2] D3 (fun r6 D5 => (r6 = 0 → Q (some (.int (0 : Int32))) D5) ∧ (¬ r6 = 0 → Q (some (.int (1 : Int32))) D5))))))) : xPf (d + 1) m_M_fitsHand 0 [(0, .ref a0), (1, .int x1), (2, .int x2)] [] D Q := by
  refine x_aload_n rfl rfl ?_
  refine x_iconst (v := (3 : Int32)) rfl rfl ?_
  refine x_iload_n rfl rfl ?_
  refine x_vi lm_M_319 vf_M_is k0 rfl rfl (Nat.le_of_ble_eq_true rfl) rfl h (fun r2 D1 h => ?_)
  refine x_if_eq (tgt := 29) rfl rfl (fun c => ?_) (fun c => ?_)
  · have h := h.1 c
    refine x_iconst (v := (0 : Int32)) rfl rfl ?_
    exact x_zr rfl (Or.inl rfl) rfl h
  · have h := h.2 c
    refine x_aload_n rfl rfl ?_
    refine x_iload_n rfl rfl ?_
    refine x_vi lm_M_356 vf_M_hand1 k0 rfl rfl (Nat.le_of_ble_eq_true rfl) rfl h (fun r4 D3 h => ?_)
    refine x_if_eq (tgt := 29) rfl rfl (fun c => ?_) (fun c => ?_)
    · have h := h.1 c
      refine x_iconst (v := (0 : Int32)) rfl rfl ?_
      exact x_zr rfl (Or.inl rfl) rfl h
    · have h := h.2 c
      refine x_aload_n rfl rfl ?_
      refine x_iload_n rfl rfl ?_
      refine x_vi lm_M_525 vf_M_layHand k0 rfl rfl (Nat.le_of_ble_eq_true rfl) rfl h (fun r6 D5 h => ?_)
      refine x_if_eq (tgt := 29) rfl rfl (fun c => ?_) (fun c => ?_)
      · have h := h.1 c
        refine x_iconst (v := (0 : Int32)) rfl rfl ?_
        exact x_zr rfl (Or.inl rfl) rfl h
      · have h := h.2 c
        refine x_iconst (v := (1 : Int32)) rfl rfl ?_
        refine x_goto (tgt := 30) rfl rfl ?_
        exact x_zr rfl (Or.inr rfl) rfl h
theorem s_M_starved_0 {d : Nat} {D : xD} {Q : Option Value → xD → Prop} {a0 : Nat} (k0 : xk a0 = 13) (h : xPf (d + 1) m_M_starved 4 [(0, .ref a0), (1, .int (0 : Int32)), (2, .int (0 : Int32))] [] D Q) : xPf (d + 1) m_M_starved 0 [(0, .ref a0)] [] D Q := by
  refine x_iconst (v := (0 : Int32)) rfl rfl ?_
  refine x_istore_n (i := 1) (L1 := [(1, .int (0 : Int32)), (0, .ref a0)]) rfl rfl (Nat.le_of_ble_eq_true rfl) rfl ?_
  refine x_iconst (v := (0 : Int32)) rfl rfl ?_
  refine x_istore_n (i := 2) (L1 := [(2, .int (0 : Int32)), (1, .int (0 : Int32)), (0, .ref a0)]) rfl rfl (Nat.le_of_ble_eq_true rfl) rfl ?_
  exact xP_sub [2, 1, 0] rfl h
theorem s_M_starved_4 {d : Nat} {D : xD} {Q : Option Value → xD → Prop} {a0 : Nat} {x1 : Int32} {x2 : Int32} (k0 : xk a0 = 13) (h : ((D.1 a0 27) ≤ x2 → Q (some (.int x1)) D) ∧ (¬ (D.1 a0 27) ≤ x2 → vp_in x2 (xl (a0 + 33)) ∧ vp_in x2 (xl (a0 + 34)) ∧ ((D.1 a0 29) ≤ ((D.1 (a0 + 33) (x2 : Int32).toNatClampNeg) + (D.1 (a0 + 34) (x2 : Int32).toNatClampNeg)) → xPf (d + 1) m_M_starved 4 [(0, .ref a0), (1, .int (x1 ||| (0 : Int32))), (2, .int (x2 + (1 : Int32)))] [] D Q) ∧ (¬ (D.1 a0 29) ≤ ((D.1 (a0 + 33) (x2 : Int32).toNatClampNeg) + (D.1 (a0 + 34) (x2 : Int32).toNatClampNeg)) → xPf (d + 1) m_M_starved 4 [(0, .ref a0), (1, .int (x1 ||| ((1 : Int32) <<< (x2 &&& 31)))), (2, .int (x2 + (1 : Int32)))] [] D Q))) : xPf (d + 1) m_M_starved 4 [(0, .ref a0), (1, .int x1), (2, .int x2)] [] D Q := by
  refine x_iload_n rfl rfl ?_
  refine x_aload_n rfl rfl ?_
  refine x_gI lf_M_335 k0 rfl rfl ?_
  refine x_icmp_ge (tgt := 48) rfl rfl (fun c => ?_) (fun c => ?_)
  · have h := h.1 c
    refine x_iload_n rfl rfl ?_
    exact x_iret rfl rfl h
  · have h := h.2 c
    refine x_iload_n rfl rfl ?_
    refine x_aload_n rfl rfl ?_
    refine x_gR lf_M_107 k0 rfl rfl ?_
    refine x_iload_n rfl rfl ?_
    refine x_iald (ck_13_66 k0) (xlt (ck_13_66 k0) (by decide)) h.1 rfl ?_
    have h := h.2
    refine x_aload_n rfl rfl ?_
    refine x_gR lf_M_110 k0 rfl rfl ?_
    refine x_iload_n rfl rfl ?_
    refine x_iald (ck_13_67 k0) (xlt (ck_13_67 k0) (by decide)) h.1 rfl ?_
    have h := h.2
    refine x_iadd rfl ?_
    refine x_aload_n rfl rfl ?_
    refine x_gI lf_M_341 k0 rfl rfl ?_
    refine x_icmp_ge (tgt := 39) rfl rfl (fun c => ?_) (fun c => ?_)
    · have h := h.1 c
      refine x_iconst (v := (0 : Int32)) rfl rfl ?_
      refine x_ior rfl ?_
      refine x_istore_n (i := 1) (L1 := [(1, .int (x1 ||| (0 : Int32))), (0, .ref a0), (2, .int x2)]) rfl rfl (Nat.le_of_ble_eq_true rfl) rfl ?_
      refine x_iinc (i := 2) (v := x2 + (1 : Int32)) (L1 := [(2, .int (x2 + (1 : Int32))), (1, .int (x1 ||| (0 : Int32))), (0, .ref a0)]) rfl rfl rfl (Nat.le_of_ble_eq_true rfl) rfl ?_
      refine x_goto (tgt := 4) rfl rfl ?_
      exact xP_sub [2, 1, 0] rfl h
    · have h := h.2 c
      refine x_iconst (v := (1 : Int32)) rfl rfl ?_
      refine x_iload_n rfl rfl ?_
      refine x_ishl rfl ?_
      refine x_goto (tgt := 40) rfl rfl ?_
      refine x_ior rfl ?_
      refine x_istore_n (i := 1) (L1 := [(1, .int (x1 ||| ((1 : Int32) <<< (x2 &&& 31)))), (0, .ref a0), (2, .int x2)]) rfl rfl (Nat.le_of_ble_eq_true rfl) rfl ?_
      refine x_iinc (i := 2) (v := x2 + (1 : Int32)) (L1 := [(2, .int (x2 + (1 : Int32))), (1, .int (x1 ||| ((1 : Int32) <<< (x2 &&& 31)))), (0, .ref a0)]) rfl rfl rfl (Nat.le_of_ble_eq_true rfl) rfl ?_
      refine x_goto (tgt := 4) rfl rfl ?_
      exact xP_sub [2, 1, 0] rfl h
theorem s_M_unseen_0 {d : Nat} {D : xD} {Q : Option Value → xD → Prop} {a0 : Nat} {x1 : Int32} {x2 : Int32} {x3 : Int32} (k0 : xk a0 = 13) (h : ∀ D1 : xD, D1 = (xu D.1 a0 0 (0 : Int32), D.2) → xCi d m_M_is [.ref a0, .int (3 : Int32), .int x2] D1 (fun r3 D2 => (r3 = 0 → Q (some (.int (-1 : Int32))) D2) ∧ (¬ r3 = 0 → xCi d m_M_hand1 [.ref a0, .int x1] D2 (fun r5 D4 => (¬ r5 = 0 → xCi d m_M_layHand [.ref a0, .int x2] D4 (fun r7 D6 => (¬ x3 = 0 → (¬ r7 = 0 → (¬ x3 = (1 : Int32) → (¬ x3 = (2 : Int32) → xCi d m_M_in [.int x3, .int (10 : Int32), .int ((9 : Int32) + (D6.1 a0 27))] D6 (fun r9 D8 => (r9 = 0 → Q (some (.int (-1 : Int32))) D8) ∧ (¬ r9 = 0 → vp_in (x3 - (10 : Int32)) (xl (a0 + 34)) ∧ Q (some (.int (D8.1 (a0 + 34) (x3 - (10 : Int32) : Int32).toNatClampNeg))) D8))) ∧ (x3 = (2 : Int32) → xCi d m_M_starved [.ref a0] D6 (fun r11 D10 => Q (some (.int r11)) D10))) ∧ (x3 = (1 : Int32) → Q (some (.int (D6.1 a0 68))) D6)) ∧ (r7 = 0 → Q (some (.int (-1 : Int32))) D6)) ∧ (x3 = 0 → (r7 = 0 → Q (some (.int (0 : Int32))) D6) ∧ (¬ r7 = 0 → Q (some (.int (1 : Int32))) D6)))) ∧ (r5 = 0 → Q (some (.int (-1 : Int32))) D4))))) : xPf (d + 1) m_M_unseen 0 [(0, .ref a0), (1, .int x1), (2, .int x2), (3, .int x3)] [] D Q := by
  refine x_aload_n rfl rfl ?_
  refine x_iconst (v := (0 : Int32)) rfl rfl ?_
  refine x_pIn lp_M_139 nf_13_0 k0 rfl rfl (fun D1 eD1 => ?_)
  have h := h D1 eD1
  refine x_aload_n rfl rfl ?_
  refine x_iconst (v := (3 : Int32)) rfl rfl ?_
  refine x_iload_n rfl rfl ?_
  refine x_vi lm_M_319 vf_M_is k0 rfl rfl (Nat.le_of_ble_eq_true rfl) rfl h (fun r3 D2 h => ?_)
  refine x_if_eq (tgt := 22) rfl rfl (fun c => ?_) (fun c => ?_)
  · have h := h.1 c
    refine x_iconst (v := (-1 : Int32)) rfl rfl ?_
    exact x_iret rfl rfl h
  · have h := h.2 c
    refine x_aload_n rfl rfl ?_
    refine x_iload_n rfl rfl ?_
    refine x_vi lm_M_356 vf_M_hand1 k0 rfl rfl (Nat.le_of_ble_eq_true rfl) rfl h (fun r5 D4 h => ?_)
    refine x_if_ne (tgt := 24) rfl rfl (fun c => ?_) (fun c => ?_)
    · have h := h.1 c
      refine x_aload_n rfl rfl ?_
      refine x_iload_n rfl rfl ?_
      refine x_vi lm_M_525 vf_M_layHand k0 rfl rfl (Nat.le_of_ble_eq_true rfl) rfl h (fun r7 D6 h => ?_)
      refine x_istore (i := 4) (L1 := [(4, .int r7), (0, .ref a0), (1, .int x1), (2, .int x2), (3, .int x3)]) rfl (Nat.le_of_ble_eq_true rfl) rfl ?_
      refine x_iload_n rfl rfl ?_
      refine x_if_ne (tgt := 46) rfl rfl (fun c => ?_) (fun c => ?_)
      · have h := h.1 c
        refine x_iload rfl rfl ?_
        refine x_if_ne (tgt := 53) rfl rfl (fun c => ?_) (fun c => ?_)
        · have h := h.1 c
          refine x_iload_n rfl rfl ?_
          refine x_iconst (v := (1 : Int32)) rfl rfl ?_
          refine x_icmp_ne (tgt := 65) rfl rfl (fun c => ?_) (fun c => ?_)
          · have h := h.1 c
            refine x_iload_n rfl rfl ?_
            refine x_iconst (v := (2 : Int32)) rfl rfl ?_
            refine x_icmp_ne (tgt := 77) rfl rfl (fun c => ?_) (fun c => ?_)
            · have h := h.1 c
              refine x_iload_n rfl rfl ?_
              refine x_bipush (v := (10 : Int32)) rfl rfl ?_
              refine x_bipush (v := (9 : Int32)) rfl rfl ?_
              refine x_aload_n rfl rfl ?_
              refine x_gI lf_M_335 k0 rfl rfl ?_
              refine x_iadd rfl ?_
              refine x_si lm_M_147 sf_M_in rfl rfl (Nat.le_of_ble_eq_true rfl) rfl h (fun r9 D8 h => ?_)
              refine x_if_eq (tgt := 105) rfl rfl (fun c => ?_) (fun c => ?_)
              · have h := h.1 c
                refine x_iconst (v := (-1 : Int32)) rfl rfl ?_
                exact x_iret rfl rfl h
              · have h := h.2 c
                refine x_aload_n rfl rfl ?_
                refine x_gR lf_M_110 k0 rfl rfl ?_
                refine x_iload_n rfl rfl ?_
                refine x_bipush (v := (10 : Int32)) rfl rfl ?_
                refine x_isub rfl ?_
                refine x_iald (ck_13_67 k0) (xlt (ck_13_67 k0) (by decide)) h.1 rfl ?_
                have h := h.2
                refine x_goto (tgt := 106) rfl rfl ?_
                exact x_iret rfl rfl h
            · have h := h.2 c
              refine x_aload_n rfl rfl ?_
              refine x_vi lm_M_528 vf_M_starved k0 rfl rfl (Nat.le_of_ble_eq_true rfl) rfl h (fun r11 D10 h => ?_)
              refine x_goto (tgt := 106) rfl rfl ?_
              exact x_iret rfl rfl h
          · have h := h.2 c
            refine x_aload_n rfl rfl ?_
            refine x_gI lf_M_522 k0 rfl rfl ?_
            refine x_goto (tgt := 106) rfl rfl ?_
            exact x_iret rfl rfl h
        · have h := h.2 c
          refine x_iconst (v := (-1 : Int32)) rfl rfl ?_
          exact x_iret rfl rfl h
      · have h := h.2 c
        refine x_iload rfl rfl ?_
        refine x_if_eq (tgt := 44) rfl rfl (fun c => ?_) (fun c => ?_)
        · have h := h.1 c
          refine x_iconst (v := (0 : Int32)) rfl rfl ?_
          exact x_iret rfl rfl h
        · have h := h.2 c
          refine x_iconst (v := (1 : Int32)) rfl rfl ?_
          refine x_goto (tgt := 45) rfl rfl ?_
          exact x_iret rfl rfl h
    · have h := h.2 c
      refine x_iconst (v := (-1 : Int32)) rfl rfl ?_
      exact x_iret rfl rfl h
theorem s_M_part_0 {d : Nat} {D : xD} {Q : Option Value → xD → Prop} {a0 : Nat} {x1 : Int32} {x2 : Int32} (k0 : xk a0 = 13) (h : vp_in x2 (xl (a0 + 38)) ∧ ¬ (D.1 (a0 + 38) (x2 : Int32).toNatClampNeg) = 0 ∧ Q (some (.int ((x1 / (D.1 (a0 + 38) (x2 : Int32).toNatClampNeg)) - (x1 / (D.1 (a0 + 38) (x2 : Int32).toNatClampNeg)) / (5 : Int32) * (5 : Int32)))) D) : xPf (d + 1) m_M_part 0 [(0, .ref a0), (1, .int x1), (2, .int x2)] [] D Q := by
  refine x_iload_n rfl rfl ?_
  refine x_aload_n rfl rfl ?_
  refine x_gR lf_M_123 k0 rfl rfl ?_
  refine x_iload_n rfl rfl ?_
  refine x_iald (ck_13_72 k0) (xlt (ck_13_72 k0) (by decide)) h.1 rfl ?_
  have h := h.2
  refine x_idiv rfl h.1 ?_
  have h := h.2
  refine x_iconst (v := (5 : Int32)) rfl rfl ?_
  refine x_irem rfl (by decide) ?_
  exact x_iret rfl rfl h
theorem s_M_total_0 {d : Nat} {D : xD} {Q : Option Value → xD → Prop} {a0 : Nat} {x1 : Int32} (k0 : xk a0 = 13) (h : xCi d m_M_part [.ref a0, .int x1, .int (0 : Int32)] D (fun r2 D1 => xCi d m_M_part [.ref a0, .int x1, .int (1 : Int32)] D1 (fun r4 D3 => xCi d m_M_part [.ref a0, .int x1, .int (2 : Int32)] D3 (fun r6 D5 => xCi d m_M_part [.ref a0, .int x1, .int (3 : Int32)] D5 (fun r8 D7 => Q (some (.int (((r2 + r4) + r6) + r8))) D7))))) : xPf (d + 1) m_M_total 0 [(0, .ref a0), (1, .int x1)] [] D Q := by
  refine x_aload_n rfl rfl ?_
  refine x_iload_n rfl rfl ?_
  refine x_iconst (v := (0 : Int32)) rfl rfl ?_
  refine x_vi lm_M_531 vf_M_part k0 rfl rfl (Nat.le_of_ble_eq_true rfl) rfl h (fun r2 D1 h => ?_)
  refine x_aload_n rfl rfl ?_
  refine x_iload_n rfl rfl ?_
  refine x_iconst (v := (1 : Int32)) rfl rfl ?_
  refine x_vi lm_M_531 vf_M_part k0 rfl rfl (Nat.le_of_ble_eq_true rfl) rfl h (fun r4 D3 h => ?_)
  refine x_iadd rfl ?_
  refine x_aload_n rfl rfl ?_
  refine x_iload_n rfl rfl ?_
  refine x_iconst (v := (2 : Int32)) rfl rfl ?_
  refine x_vi lm_M_531 vf_M_part k0 rfl rfl (Nat.le_of_ble_eq_true rfl) rfl h (fun r6 D5 h => ?_)
  refine x_iadd rfl ?_
  refine x_aload_n rfl rfl ?_
  refine x_iload_n rfl rfl ?_
  refine x_iconst (v := (3 : Int32)) rfl rfl ?_
  refine x_vi lm_M_531 vf_M_part k0 rfl rfl (Nat.le_of_ble_eq_true rfl) rfl h (fun r8 D7 h => ?_)
  refine x_iadd rfl ?_
  exact x_iret rfl rfl h
theorem s_M_layHands_0 {d : Nat} {D : xD} {Q : Option Value → xD → Prop} {a0 : Nat} (k0 : xk a0 = 13) (h : vp_in (0 : Int32) (xl (a0 + 38)) ∧ ∀ D1 : xD, D1 = (xu D.1 (a0 + 38) ((0 : Int32) : Int32).toNatClampNeg (1 : Int32), D.2) → vp_in (1 : Int32) (xl (a0 + 38)) ∧ ∀ D2 : xD, D2 = (xu D1.1 (a0 + 38) ((1 : Int32) : Int32).toNatClampNeg (5 : Int32), D1.2) → vp_in (2 : Int32) (xl (a0 + 38)) ∧ ∀ D3 : xD, D3 = (xu D2.1 (a0 + 38) ((2 : Int32) : Int32).toNatClampNeg (25 : Int32), D2.2) → vp_in (3 : Int32) (xl (a0 + 38)) ∧ ∀ D4 : xD, D4 = (xu D3.1 (a0 + 38) ((3 : Int32) : Int32).toNatClampNeg (125 : Int32), D3.2) → ∀ D5 : xD, D5 = (xu D4.1 a0 73 (0 : Int32), D4.2) → xPf (d + 1) m_M_layHands 37 [(0, .ref a0), (1, .int (0 : Int32))] [] D5 Q) : xPf (d + 1) m_M_layHands 0 [(0, .ref a0)] [] D Q := by
  refine x_aload_n rfl rfl ?_
  refine x_gR lf_M_123 k0 rfl rfl ?_
  refine x_iconst (v := (0 : Int32)) rfl rfl ?_
  refine x_iconst (v := (1 : Int32)) rfl rfl ?_
  refine x_iastn (ck_13_72 k0) h.1 rfl (fun D1 eD1 => ?_)
  have h := h.2 D1 eD1
  refine x_aload_n rfl rfl ?_
  refine x_gR lf_M_123 k0 rfl rfl ?_
  refine x_iconst (v := (1 : Int32)) rfl rfl ?_
  refine x_iconst (v := (5 : Int32)) rfl rfl ?_
  refine x_iastn (ck_13_72 k0) h.1 rfl (fun D2 eD2 => ?_)
  have h := h.2 D2 eD2
  refine x_aload_n rfl rfl ?_
  refine x_gR lf_M_123 k0 rfl rfl ?_
  refine x_iconst (v := (2 : Int32)) rfl rfl ?_
  refine x_bipush (v := (25 : Int32)) rfl rfl ?_
  refine x_iastn (ck_13_72 k0) h.1 rfl (fun D3 eD3 => ?_)
  have h := h.2 D3 eD3
  refine x_aload_n rfl rfl ?_
  refine x_gR lf_M_123 k0 rfl rfl ?_
  refine x_iconst (v := (3 : Int32)) rfl rfl ?_
  refine x_bipush (v := (125 : Int32)) rfl rfl ?_
  refine x_iastn (ck_13_72 k0) h.1 rfl (fun D4 eD4 => ?_)
  have h := h.2 D4 eD4
  refine x_aload_n rfl rfl ?_
  refine x_iconst (v := (0 : Int32)) rfl rfl ?_
  refine x_pIn lp_M_534 nf_13_73 k0 rfl rfl (fun D5 eD5 => ?_)
  have h := h D5 eD5
  refine x_iconst (v := (0 : Int32)) rfl rfl ?_
  refine x_istore_n (i := 1) (L1 := [(1, .int (0 : Int32)), (0, .ref a0)]) rfl rfl (Nat.le_of_ble_eq_true rfl) rfl ?_
  exact xP_sub [1, 0] rfl h
theorem s_M_layHands_37 {d : Nat} {D : xD} {Q : Option Value → xD → Prop} {a0 : Nat} {x1 : Int32} (k0 : xk a0 = 13) (h : ((625 : Int32) ≤ x1 → Q none D) ∧ (¬ (625 : Int32) ≤ x1 → xCi d m_M_total [.ref a0, .int x1] D (fun r2 D1 => (¬ r2 = (D1.1 a0 29) → xPf (d + 1) m_M_layHands 67 [(0, .ref a0), (1, .int x1), (2, .int (0 : Int32)), (3, .int (D1.1 a0 27))] [] D1 Q) ∧ (r2 = (D1.1 a0 29) → xPf (d + 1) m_M_layHands 67 [(0, .ref a0), (1, .int x1), (2, .int (1 : Int32)), (3, .int (D1.1 a0 27))] [] D1 Q)))) : xPf (d + 1) m_M_layHands 37 [(0, .ref a0), (1, .int x1)] [] D Q := by
  refine x_iload_n rfl rfl ?_
  refine x_sipush (v := (625 : Int32)) rfl rfl ?_
  refine x_icmp_ge (tgt := 145) rfl rfl (fun c => ?_) (fun c => ?_)
  · have h := h.1 c
    exact x_vret rfl rfl h
  · have h := h.2 c
    refine x_aload_n rfl rfl ?_
    refine x_iload_n rfl rfl ?_
    refine x_vi lm_M_537 vf_M_total k0 rfl rfl (Nat.le_of_ble_eq_true rfl) rfl h (fun r2 D1 h => ?_)
    refine x_aload_n rfl rfl ?_
    refine x_gI lf_M_341 k0 rfl rfl ?_
    refine x_icmp_ne (tgt := 60) rfl rfl (fun c => ?_) (fun c => ?_)
    · have h := h.1 c
      refine x_iconst (v := (0 : Int32)) rfl rfl ?_
      refine x_istore_n (i := 2) (L1 := [(2, .int (0 : Int32)), (0, .ref a0), (1, .int x1)]) rfl rfl (Nat.le_of_ble_eq_true rfl) rfl ?_
      refine x_aload_n rfl rfl ?_
      refine x_gI lf_M_335 k0 rfl rfl ?_
      refine x_istore_n (i := 3) (L1 := [(3, .int (D1.1 a0 27)), (2, .int (0 : Int32)), (0, .ref a0), (1, .int x1)]) rfl rfl (Nat.le_of_ble_eq_true rfl) rfl ?_
      exact xP_sub [2, 3, 1, 0] rfl h
    · have h := h.2 c
      refine x_iconst (v := (1 : Int32)) rfl rfl ?_
      refine x_goto (tgt := 61) rfl rfl ?_
      refine x_istore_n (i := 2) (L1 := [(2, .int (1 : Int32)), (0, .ref a0), (1, .int x1)]) rfl rfl (Nat.le_of_ble_eq_true rfl) rfl ?_
      refine x_aload_n rfl rfl ?_
      refine x_gI lf_M_335 k0 rfl rfl ?_
      refine x_istore_n (i := 3) (L1 := [(3, .int (D1.1 a0 27)), (2, .int (1 : Int32)), (0, .ref a0), (1, .int x1)]) rfl rfl (Nat.le_of_ble_eq_true rfl) rfl ?_
      exact xP_sub [2, 3, 1, 0] rfl h
theorem s_M_layHands_67 {d : Nat} {D : xD} {Q : Option Value → xD → Prop} {a0 : Nat} {x1 : Int32} {x2 : Int32} {x3 : Int32} (k0 : xk a0 = 13) (h : ((4 : Int32) ≤ x3 → (x2 = 0 → vp_in x1 (xl (a0 + 36)) ∧ ∀ D1 : xD, D1 = (xu D.1 (a0 + 36) (x1 : Int32).toNatClampNeg (-1 : Int32), D.2) → (x2 = 0 → xPf (d + 1) m_M_layHands 37 [(0, .ref a0), (1, .int (x1 + (1 : Int32)))] [] D1 Q) ∧ (¬ x2 = 0 → vp_in (D1.1 a0 73) (xl (a0 + 35)) ∧ ∀ D2 : xD, D2 = (xu D1.1 (a0 + 35) (D1.1 a0 73 : Int32).toNatClampNeg x1, D1.2) → ∀ D3 : xD, D3 = (xu D2.1 a0 73 ((D2.1 a0 73) + (1 : Int32)), D2.2) → xPf (d + 1) m_M_layHands 37 [(0, .ref a0), (1, .int (x1 + (1 : Int32)))] [] D3 Q)) ∧ (¬ x2 = 0 → vp_in x1 (xl (a0 + 36)) ∧ ∀ D4 : xD, D4 = (xu D.1 (a0 + 36) (x1 : Int32).toNatClampNeg (D.1 a0 73), D.2) → (x2 = 0 → xPf (d + 1) m_M_layHands 37 [(0, .ref a0), (1, .int (x1 + (1 : Int32)))] [] D4 Q) ∧ (¬ x2 = 0 → vp_in (D4.1 a0 73) (xl (a0 + 35)) ∧ ∀ D5 : xD, D5 = (xu D4.1 (a0 + 35) (D4.1 a0 73 : Int32).toNatClampNeg x1, D4.2) → ∀ D6 : xD, D6 = (xu D5.1 a0 73 ((D5.1 a0 73) + (1 : Int32)), D5.2) → xPf (d + 1) m_M_layHands 37 [(0, .ref a0), (1, .int (x1 + (1 : Int32)))] [] D6 Q))) ∧ (¬ (4 : Int32) ≤ x3 → (x2 = 0 → xPf (d + 1) m_M_layHands 67 [(0, .ref a0), (1, .int x1), (2, .int (0 : Int32)), (3, .int (x3 + (1 : Int32)))] [] D Q) ∧ (¬ x2 = 0 → xCi d m_M_part [.ref a0, .int x1, .int x3] D (fun r8 D7 => (¬ r8 = 0 → xPf (d + 1) m_M_layHands 67 [(0, .ref a0), (1, .int x1), (2, .int (0 : Int32)), (3, .int (x3 + (1 : Int32)))] [] D7 Q) ∧ (r8 = 0 → xPf (d + 1) m_M_layHands 67 [(0, .ref a0), (1, .int x1), (2, .int (1 : Int32)), (3, .int (x3 + (1 : Int32)))] [] D7 Q))))) : xPf (d + 1) m_M_layHands 67 [(0, .ref a0), (1, .int x1), (2, .int x2), (3, .int x3)] [] D Q := by
  refine x_iload_n rfl rfl ?_
  refine x_iconst (v := (4 : Int32)) rfl rfl ?_
  refine x_icmp_ge (tgt := 97) rfl rfl (fun c => ?_) (fun c => ?_)
  · have h := h.1 c
    refine x_aload_n rfl rfl ?_
    refine x_gR lf_M_116 k0 rfl rfl ?_
    refine x_iload_n rfl rfl ?_
    refine x_iload_n rfl rfl ?_
    refine x_if_eq (tgt := 113) rfl rfl (fun c => ?_) (fun c => ?_)
    · have h := h.1 c
      refine x_iconst (v := (-1 : Int32)) rfl rfl ?_
      refine x_iastn (ck_13_70 k0) h.1 rfl (fun D1 eD1 => ?_)
      have h := h.2 D1 eD1
      refine x_iload_n rfl rfl ?_
      refine x_if_eq (tgt := 139) rfl rfl (fun c => ?_) (fun c => ?_)
      · have h := h.1 c
        refine x_iinc (i := 1) (v := x1 + (1 : Int32)) (L1 := [(1, .int (x1 + (1 : Int32))), (0, .ref a0), (2, .int x2), (3, .int x3)]) rfl rfl rfl (Nat.le_of_ble_eq_true rfl) rfl ?_
        refine x_goto (tgt := 37) rfl rfl ?_
        exact xP_sub [1, 0] rfl h
      · have h := h.2 c
        refine x_aload_n rfl rfl ?_
        refine x_gR lf_M_113 k0 rfl rfl ?_
        refine x_aload_n rfl rfl ?_
        refine x_gI lf_M_534 k0 rfl rfl ?_
        refine x_iload_n rfl rfl ?_
        refine x_iastn (ck_13_69 k0) h.1 rfl (fun D2 eD2 => ?_)
        have h := h.2 D2 eD2
        refine x_aload_n rfl rfl ?_
        refine x_dup rfl rfl ?_
        refine x_gI lf_M_534 k0 rfl rfl ?_
        refine x_iconst (v := (1 : Int32)) rfl rfl ?_
        refine x_iadd rfl ?_
        refine x_pIn lp_M_534 nf_13_73 k0 rfl rfl (fun D3 eD3 => ?_)
        have h := h D3 eD3
        refine x_iinc (i := 1) (v := x1 + (1 : Int32)) (L1 := [(1, .int (x1 + (1 : Int32))), (0, .ref a0), (2, .int x2), (3, .int x3)]) rfl rfl rfl (Nat.le_of_ble_eq_true rfl) rfl ?_
        refine x_goto (tgt := 37) rfl rfl ?_
        exact xP_sub [1, 0] rfl h
    · have h := h.2 c
      refine x_aload_n rfl rfl ?_
      refine x_gI lf_M_534 k0 rfl rfl ?_
      refine x_goto (tgt := 114) rfl rfl ?_
      refine x_iastn (ck_13_70 k0) h.1 rfl (fun D4 eD4 => ?_)
      have h := h.2 D4 eD4
      refine x_iload_n rfl rfl ?_
      refine x_if_eq (tgt := 139) rfl rfl (fun c => ?_) (fun c => ?_)
      · have h := h.1 c
        refine x_iinc (i := 1) (v := x1 + (1 : Int32)) (L1 := [(1, .int (x1 + (1 : Int32))), (0, .ref a0), (2, .int x2), (3, .int x3)]) rfl rfl rfl (Nat.le_of_ble_eq_true rfl) rfl ?_
        refine x_goto (tgt := 37) rfl rfl ?_
        exact xP_sub [1, 0] rfl h
      · have h := h.2 c
        refine x_aload_n rfl rfl ?_
        refine x_gR lf_M_113 k0 rfl rfl ?_
        refine x_aload_n rfl rfl ?_
        refine x_gI lf_M_534 k0 rfl rfl ?_
        refine x_iload_n rfl rfl ?_
        refine x_iastn (ck_13_69 k0) h.1 rfl (fun D5 eD5 => ?_)
        have h := h.2 D5 eD5
        refine x_aload_n rfl rfl ?_
        refine x_dup rfl rfl ?_
        refine x_gI lf_M_534 k0 rfl rfl ?_
        refine x_iconst (v := (1 : Int32)) rfl rfl ?_
        refine x_iadd rfl ?_
        refine x_pIn lp_M_534 nf_13_73 k0 rfl rfl (fun D6 eD6 => ?_)
        have h := h D6 eD6
        refine x_iinc (i := 1) (v := x1 + (1 : Int32)) (L1 := [(1, .int (x1 + (1 : Int32))), (0, .ref a0), (2, .int x2), (3, .int x3)]) rfl rfl rfl (Nat.le_of_ble_eq_true rfl) rfl ?_
        refine x_goto (tgt := 37) rfl rfl ?_
        exact xP_sub [1, 0] rfl h
  · have h := h.2 c
    refine x_iload_n rfl rfl ?_
    refine x_if_eq (tgt := 89) rfl rfl (fun c => ?_) (fun c => ?_)
    · have h := h.1 c
      refine x_iconst (v := (0 : Int32)) rfl rfl ?_
      refine x_istore_n (i := 2) (L1 := [(2, .int (0 : Int32)), (0, .ref a0), (1, .int x1), (3, .int x3)]) rfl rfl (Nat.le_of_ble_eq_true rfl) rfl ?_
      refine x_iinc (i := 3) (v := x3 + (1 : Int32)) (L1 := [(3, .int (x3 + (1 : Int32))), (2, .int (0 : Int32)), (0, .ref a0), (1, .int x1)]) rfl rfl rfl (Nat.le_of_ble_eq_true rfl) rfl ?_
      refine x_goto (tgt := 67) rfl rfl ?_
      exact xP_sub [2, 3, 1, 0] rfl h
    · have h := h.2 c
      refine x_aload_n rfl rfl ?_
      refine x_iload_n rfl rfl ?_
      refine x_iload_n rfl rfl ?_
      refine x_vi lm_M_531 vf_M_part k0 rfl rfl (Nat.le_of_ble_eq_true rfl) rfl h (fun r8 D7 h => ?_)
      refine x_if_ne (tgt := 89) rfl rfl (fun c => ?_) (fun c => ?_)
      · have h := h.1 c
        refine x_iconst (v := (0 : Int32)) rfl rfl ?_
        refine x_istore_n (i := 2) (L1 := [(2, .int (0 : Int32)), (0, .ref a0), (1, .int x1), (3, .int x3)]) rfl rfl (Nat.le_of_ble_eq_true rfl) rfl ?_
        refine x_iinc (i := 3) (v := x3 + (1 : Int32)) (L1 := [(3, .int (x3 + (1 : Int32))), (2, .int (0 : Int32)), (0, .ref a0), (1, .int x1)]) rfl rfl rfl (Nat.le_of_ble_eq_true rfl) rfl ?_
        refine x_goto (tgt := 67) rfl rfl ?_
        exact xP_sub [2, 3, 1, 0] rfl h
      · have h := h.2 c
        refine x_iconst (v := (1 : Int32)) rfl rfl ?_
        refine x_goto (tgt := 90) rfl rfl ?_
        refine x_istore_n (i := 2) (L1 := [(2, .int (1 : Int32)), (0, .ref a0), (1, .int x1), (3, .int x3)]) rfl rfl (Nat.le_of_ble_eq_true rfl) rfl ?_
        refine x_iinc (i := 3) (v := x3 + (1 : Int32)) (L1 := [(3, .int (x3 + (1 : Int32))), (2, .int (1 : Int32)), (0, .ref a0), (1, .int x1)]) rfl rfl rfl (Nat.le_of_ble_eq_true rfl) rfl ?_
        refine x_goto (tgt := 67) rfl rfl ?_
        exact xP_sub [2, 3, 1, 0] rfl h
theorem s_M_hasAlike_0 {d : Nat} {D : xD} {Q : Option Value → xD → Prop} {a0 : Nat} {x1 : Int32} (k0 : xk a0 = 13) (h : xCi d m_M_part [.ref a0, .int x1, .int (0 : Int32)] D (fun r2 D1 => (r2 = (D1.1 a0 29) → Q (some (.int (1 : Int32))) D1) ∧ (¬ r2 = (D1.1 a0 29) → xCi d m_M_part [.ref a0, .int x1, .int (1 : Int32)] D1 (fun r4 D3 => (r4 = (D3.1 a0 29) → Q (some (.int (1 : Int32))) D3) ∧ (¬ r4 = (D3.1 a0 29) → xCi d m_M_part [.ref a0, .int x1, .int (2 : Int32)] D3 (fun r6 D5 => (r6 = (D5.1 a0 29) → Q (some (.int (1 : Int32))) D5) ∧ (¬ r6 = (D5.1 a0 29) → xCi d m_M_part [.ref a0, .int x1, .int (3 : Int32)] D5 (fun r8 D7 => (¬ r8 = (D7.1 a0 29) → Q (some (.int (0 : Int32))) D7) ∧ (r8 = (D7.1 a0 29) → Q (some (.int (1 : Int32))) D7))))))))) : xPf (d + 1) m_M_hasAlike 0 [(0, .ref a0), (1, .int x1)] [] D Q := by
  refine x_aload_n rfl rfl ?_
  refine x_iload_n rfl rfl ?_
  refine x_iconst (v := (0 : Int32)) rfl rfl ?_
  refine x_vi lm_M_531 vf_M_part k0 rfl rfl (Nat.le_of_ble_eq_true rfl) rfl h (fun r2 D1 h => ?_)
  refine x_aload_n rfl rfl ?_
  refine x_gI lf_M_341 k0 rfl rfl ?_
  refine x_icmp_eq (tgt := 52) rfl rfl (fun c => ?_) (fun c => ?_)
  · have h := h.1 c
    refine x_iconst (v := (1 : Int32)) rfl rfl ?_
    refine x_goto (tgt := 57) rfl rfl ?_
    exact x_zr rfl (Or.inr rfl) rfl h
  · have h := h.2 c
    refine x_aload_n rfl rfl ?_
    refine x_iload_n rfl rfl ?_
    refine x_iconst (v := (1 : Int32)) rfl rfl ?_
    refine x_vi lm_M_531 vf_M_part k0 rfl rfl (Nat.le_of_ble_eq_true rfl) rfl h (fun r4 D3 h => ?_)
    refine x_aload_n rfl rfl ?_
    refine x_gI lf_M_341 k0 rfl rfl ?_
    refine x_icmp_eq (tgt := 52) rfl rfl (fun c => ?_) (fun c => ?_)
    · have h := h.1 c
      refine x_iconst (v := (1 : Int32)) rfl rfl ?_
      refine x_goto (tgt := 57) rfl rfl ?_
      exact x_zr rfl (Or.inr rfl) rfl h
    · have h := h.2 c
      refine x_aload_n rfl rfl ?_
      refine x_iload_n rfl rfl ?_
      refine x_iconst (v := (2 : Int32)) rfl rfl ?_
      refine x_vi lm_M_531 vf_M_part k0 rfl rfl (Nat.le_of_ble_eq_true rfl) rfl h (fun r6 D5 h => ?_)
      refine x_aload_n rfl rfl ?_
      refine x_gI lf_M_341 k0 rfl rfl ?_
      refine x_icmp_eq (tgt := 52) rfl rfl (fun c => ?_) (fun c => ?_)
      · have h := h.1 c
        refine x_iconst (v := (1 : Int32)) rfl rfl ?_
        refine x_goto (tgt := 57) rfl rfl ?_
        exact x_zr rfl (Or.inr rfl) rfl h
      · have h := h.2 c
        refine x_aload_n rfl rfl ?_
        refine x_iload_n rfl rfl ?_
        refine x_iconst (v := (3 : Int32)) rfl rfl ?_
        refine x_vi lm_M_531 vf_M_part k0 rfl rfl (Nat.le_of_ble_eq_true rfl) rfl h (fun r8 D7 h => ?_)
        refine x_aload_n rfl rfl ?_
        refine x_gI lf_M_341 k0 rfl rfl ?_
        refine x_icmp_ne (tgt := 56) rfl rfl (fun c => ?_) (fun c => ?_)
        · have h := h.1 c
          refine x_iconst (v := (0 : Int32)) rfl rfl ?_
          exact x_zr rfl (Or.inl rfl) rfl h
        · have h := h.2 c
          refine x_iconst (v := (1 : Int32)) rfl rfl ?_
          refine x_goto (tgt := 57) rfl rfl ?_
          exact x_zr rfl (Or.inr rfl) rfl h
theorem s_M_canCome_0 {d : Nat} {D : xD} {Q : Option Value → xD → Prop} {a0 : Nat} {x1 : Int32} (k0 : xk a0 = 13) (h : xPf (d + 1) m_M_canCome 2 [(0, .ref a0), (1, .int x1), (2, .int (0 : Int32))] [] D Q) : xPf (d + 1) m_M_canCome 0 [(0, .ref a0), (1, .int x1)] [] D Q := by
  refine x_iconst (v := (0 : Int32)) rfl rfl ?_
  refine x_istore_n (i := 2) (L1 := [(2, .int (0 : Int32)), (0, .ref a0), (1, .int x1)]) rfl rfl (Nat.le_of_ble_eq_true rfl) rfl ?_
  exact xP_sub [1, 2, 0] rfl h
theorem s_M_canCome_2 {d : Nat} {D : xD} {Q : Option Value → xD → Prop} {a0 : Nat} {x1 : Int32} {x2 : Int32} (k0 : xk a0 = 13) (h : ((4 : Int32) ≤ x2 → Q (some (.int (1 : Int32))) D) ∧ (¬ (4 : Int32) ≤ x2 → xCi d m_M_part [.ref a0, .int x1, .int x2] D (fun r2 D1 => ((D1.1 a0 27) ≤ x2 → (r2 ≤ (0 : Int32) → xPf (d + 1) m_M_canCome 2 [(0, .ref a0), (1, .int x1), (2, .int (x2 + (1 : Int32)))] [] D1 Q) ∧ (¬ r2 ≤ (0 : Int32) → Q (some (.int (0 : Int32))) D1)) ∧ (¬ (D1.1 a0 27) ≤ x2 → vp_in x2 (xl (a0 + 34)) ∧ (r2 ≤ (D1.1 (a0 + 34) (x2 : Int32).toNatClampNeg) → xPf (d + 1) m_M_canCome 2 [(0, .ref a0), (1, .int x1), (2, .int (x2 + (1 : Int32)))] [] D1 Q) ∧ (¬ r2 ≤ (D1.1 (a0 + 34) (x2 : Int32).toNatClampNeg) → Q (some (.int (0 : Int32))) D1))))) : xPf (d + 1) m_M_canCome 2 [(0, .ref a0), (1, .int x1), (2, .int x2)] [] D Q := by
  refine x_iload_n rfl rfl ?_
  refine x_iconst (v := (4 : Int32)) rfl rfl ?_
  refine x_icmp_ge (tgt := 42) rfl rfl (fun c => ?_) (fun c => ?_)
  · have h := h.1 c
    refine x_iconst (v := (1 : Int32)) rfl rfl ?_
    exact x_zr rfl (Or.inr rfl) rfl h
  · have h := h.2 c
    refine x_aload_n rfl rfl ?_
    refine x_iload_n rfl rfl ?_
    refine x_iload_n rfl rfl ?_
    refine x_vi lm_M_531 vf_M_part k0 rfl rfl (Nat.le_of_ble_eq_true rfl) rfl h (fun r2 D1 h => ?_)
    refine x_iload_n rfl rfl ?_
    refine x_aload_n rfl rfl ?_
    refine x_gI lf_M_335 k0 rfl rfl ?_
    refine x_icmp_ge (tgt := 30) rfl rfl (fun c => ?_) (fun c => ?_)
    · have h := h.1 c
      refine x_iconst (v := (0 : Int32)) rfl rfl ?_
      refine x_icmp_le (tgt := 36) rfl rfl (fun c => ?_) (fun c => ?_)
      · have h := h.1 c
        refine x_iinc (i := 2) (v := x2 + (1 : Int32)) (L1 := [(2, .int (x2 + (1 : Int32))), (0, .ref a0), (1, .int x1)]) rfl rfl rfl (Nat.le_of_ble_eq_true rfl) rfl ?_
        refine x_goto (tgt := 2) rfl rfl ?_
        exact xP_sub [1, 2, 0] rfl h
      · have h := h.2 c
        refine x_iconst (v := (0 : Int32)) rfl rfl ?_
        exact x_zr rfl (Or.inl rfl) rfl h
    · have h := h.2 c
      refine x_aload_n rfl rfl ?_
      refine x_gR lf_M_110 k0 rfl rfl ?_
      refine x_iload_n rfl rfl ?_
      refine x_iald (ck_13_67 k0) (xlt (ck_13_67 k0) (by decide)) h.1 rfl ?_
      have h := h.2
      refine x_goto (tgt := 31) rfl rfl ?_
      refine x_icmp_le (tgt := 36) rfl rfl (fun c => ?_) (fun c => ?_)
      · have h := h.1 c
        refine x_iinc (i := 2) (v := x2 + (1 : Int32)) (L1 := [(2, .int (x2 + (1 : Int32))), (0, .ref a0), (1, .int x1)]) rfl rfl rfl (Nat.le_of_ble_eq_true rfl) rfl ?_
        refine x_goto (tgt := 2) rfl rfl ?_
        exact xP_sub [1, 2, 0] rfl h
      · have h := h.2 c
        refine x_iconst (v := (0 : Int32)) rfl rfl ?_
        exact x_zr rfl (Or.inl rfl) rfl h
theorem s_M_bestBy_0 {d : Nat} {D : xD} {Q : Option Value → xD → Prop} {a0 : Nat} {x1 : Int32} {x2 : Int32} {x3 : Int32} (k0 : xk a0 = 13) (h : xPf (d + 1) m_M_bestBy 8 [(0, .ref a0), (1, .int x1), (2, .int x2), (3, .int x3), (4, .long (-1 : Int64)), (6, .int (0 : Int32))] [] D Q) : xPf (d + 1) m_M_bestBy 0 [(0, .ref a0), (1, .int x1), (2, .int x2), (3, .int x3)] [] D Q := by
  refine x_ldc2 wd_2203 rfl ?_
  refine x_lstore (i := 4) (L1 := [(4, .long (-1 : Int64)), (0, .ref a0), (1, .int x1), (2, .int x2), (3, .int x3)]) rfl (Nat.le_of_ble_eq_true rfl) rfl ?_
  refine x_iconst (v := (0 : Int32)) rfl rfl ?_
  refine x_istore (i := 6) (L1 := [(6, .int (0 : Int32)), (4, .long (-1 : Int64)), (0, .ref a0), (1, .int x1), (2, .int x2), (3, .int x3)]) rfl (Nat.le_of_ble_eq_true rfl) rfl ?_
  exact xP_sub [2, 3, 4, 5, 1, 0] rfl h
theorem s_M_bestBy_8 {d : Nat} {D : xD} {Q : Option Value → xD → Prop} {a0 : Nat} {x1 : Int32} {x2 : Int32} {x3 : Int32} {x4 : Int64} {x6 : Int32} (k0 : xk a0 = 13) (h : ((D.1 a0 27) ≤ x6 → Q (some (.long x4)) D) ∧ (¬ (D.1 a0 27) ≤ x6 → xCi d m_M_part [.ref a0, .int x2, .int x6] D (fun r2 D1 => (¬ x6 = x3 → ((r2 + (0 : Int32)) ≤ 0 → xPf (d + 1) m_M_bestBy 8 [(0, .ref a0), (1, .int x1), (2, .int x2), (3, .int x3), (4, .long x4), (6, .int (x6 + (1 : Int32)))] [] D1 Q) ∧ (¬ (r2 + (0 : Int32)) ≤ 0 → vp_in x3 (xl (a0 + 38)) ∧ vp_in x3 (xl (a0 + 38)) ∧ vp_in x6 (xl (a0 + 38)) ∧ vp_in ((x2 + (D1.1 (a0 + 38) (x3 : Int32).toNatClampNeg)) - (D1.1 (a0 + 38) (x6 : Int32).toNatClampNeg)) (xl (a0 + 36)) ∧ vp_in (((35 : Int32) * (x1 + (D1.1 (a0 + 38) (x3 : Int32).toNatClampNeg))) + (D1.1 (a0 + 36) ((x2 + (D1.1 (a0 + 38) (x3 : Int32).toNatClampNeg)) - (D1.1 (a0 + 38) (x6 : Int32).toNatClampNeg) : Int32).toNatClampNeg)) (xl (a0 + 37)) ∧ ((lg_cmp (D1.2 (a0 + 37) (((35 : Int32) * (x1 + (D1.1 (a0 + 38) (x3 : Int32).toNatClampNeg))) + (D1.1 (a0 + 36) ((x2 + (D1.1 (a0 + 38) (x3 : Int32).toNatClampNeg)) - (D1.1 (a0 + 38) (x6 : Int32).toNatClampNeg) : Int32).toNatClampNeg) : Int32).toNatClampNeg) x4) ≤ 0 → ∀ D3 : xD, D3 = (xu D1.1 a0 74 (D1.1 a0 74), D1.2) → ((lg_cmp (D1.2 (a0 + 37) (((35 : Int32) * (x1 + (D1.1 (a0 + 38) (x3 : Int32).toNatClampNeg))) + (D1.1 (a0 + 36) ((x2 + (D1.1 (a0 + 38) (x3 : Int32).toNatClampNeg)) - (D1.1 (a0 + 38) (x6 : Int32).toNatClampNeg) : Int32).toNatClampNeg) : Int32).toNatClampNeg) x4) ≤ 0 → xPf (d + 1) m_M_bestBy 8 [(0, .ref a0), (1, .int x1), (2, .int x2), (3, .int x3), (4, .long x4), (6, .int (x6 + (1 : Int32)))] [] D3 Q) ∧ (¬ (lg_cmp (D1.2 (a0 + 37) (((35 : Int32) * (x1 + (D1.1 (a0 + 38) (x3 : Int32).toNatClampNeg))) + (D1.1 (a0 + 36) ((x2 + (D1.1 (a0 + 38) (x3 : Int32).toNatClampNeg)) - (D1.1 (a0 + 38) (x6 : Int32).toNatClampNeg) : Int32).toNatClampNeg) : Int32).toNatClampNeg) x4) ≤ 0 → xPf (d + 1) m_M_bestBy 8 [(0, .ref a0), (1, .int x1), (2, .int x2), (3, .int x3), (4, .long (D1.2 (a0 + 37) (((35 : Int32) * (x1 + (D1.1 (a0 + 38) (x3 : Int32).toNatClampNeg))) + (D1.1 (a0 + 36) ((x2 + (D1.1 (a0 + 38) (x3 : Int32).toNatClampNeg)) - (D1.1 (a0 + 38) (x6 : Int32).toNatClampNeg) : Int32).toNatClampNeg) : Int32).toNatClampNeg)), (6, .int (x6 + (1 : Int32)))] [] D3 Q)) ∧ (¬ (lg_cmp (D1.2 (a0 + 37) (((35 : Int32) * (x1 + (D1.1 (a0 + 38) (x3 : Int32).toNatClampNeg))) + (D1.1 (a0 + 36) ((x2 + (D1.1 (a0 + 38) (x3 : Int32).toNatClampNeg)) - (D1.1 (a0 + 38) (x6 : Int32).toNatClampNeg) : Int32).toNatClampNeg) : Int32).toNatClampNeg) x4) ≤ 0 → ∀ D4 : xD, D4 = (xu D1.1 a0 74 x6, D1.2) → ((lg_cmp (D1.2 (a0 + 37) (((35 : Int32) * (x1 + (D1.1 (a0 + 38) (x3 : Int32).toNatClampNeg))) + (D1.1 (a0 + 36) ((x2 + (D1.1 (a0 + 38) (x3 : Int32).toNatClampNeg)) - (D1.1 (a0 + 38) (x6 : Int32).toNatClampNeg) : Int32).toNatClampNeg) : Int32).toNatClampNeg) x4) ≤ 0 → xPf (d + 1) m_M_bestBy 8 [(0, .ref a0), (1, .int x1), (2, .int x2), (3, .int x3), (4, .long x4), (6, .int (x6 + (1 : Int32)))] [] D4 Q) ∧ (¬ (lg_cmp (D1.2 (a0 + 37) (((35 : Int32) * (x1 + (D1.1 (a0 + 38) (x3 : Int32).toNatClampNeg))) + (D1.1 (a0 + 36) ((x2 + (D1.1 (a0 + 38) (x3 : Int32).toNatClampNeg)) - (D1.1 (a0 + 38) (x6 : Int32).toNatClampNeg) : Int32).toNatClampNeg) : Int32).toNatClampNeg) x4) ≤ 0 → xPf (d + 1) m_M_bestBy 8 [(0, .ref a0), (1, .int x1), (2, .int x2), (3, .int x3), (4, .long (D1.2 (a0 + 37) (((35 : Int32) * (x1 + (D1.1 (a0 + 38) (x3 : Int32).toNatClampNeg))) + (D1.1 (a0 + 36) ((x2 + (D1.1 (a0 + 38) (x3 : Int32).toNatClampNeg)) - (D1.1 (a0 + 38) (x6 : Int32).toNatClampNeg) : Int32).toNatClampNeg) : Int32).toNatClampNeg)), (6, .int (x6 + (1 : Int32)))] [] D4 Q)))) ∧ (x6 = x3 → ((r2 + (1 : Int32)) ≤ 0 → xPf (d + 1) m_M_bestBy 8 [(0, .ref a0), (1, .int x1), (2, .int x2), (3, .int x3), (4, .long x4), (6, .int (x6 + (1 : Int32)))] [] D1 Q) ∧ (¬ (r2 + (1 : Int32)) ≤ 0 → vp_in x3 (xl (a0 + 38)) ∧ vp_in x3 (xl (a0 + 38)) ∧ vp_in x6 (xl (a0 + 38)) ∧ vp_in ((x2 + (D1.1 (a0 + 38) (x3 : Int32).toNatClampNeg)) - (D1.1 (a0 + 38) (x6 : Int32).toNatClampNeg)) (xl (a0 + 36)) ∧ vp_in (((35 : Int32) * (x1 + (D1.1 (a0 + 38) (x3 : Int32).toNatClampNeg))) + (D1.1 (a0 + 36) ((x2 + (D1.1 (a0 + 38) (x3 : Int32).toNatClampNeg)) - (D1.1 (a0 + 38) (x6 : Int32).toNatClampNeg) : Int32).toNatClampNeg)) (xl (a0 + 37)) ∧ ((lg_cmp (D1.2 (a0 + 37) (((35 : Int32) * (x1 + (D1.1 (a0 + 38) (x3 : Int32).toNatClampNeg))) + (D1.1 (a0 + 36) ((x2 + (D1.1 (a0 + 38) (x3 : Int32).toNatClampNeg)) - (D1.1 (a0 + 38) (x6 : Int32).toNatClampNeg) : Int32).toNatClampNeg) : Int32).toNatClampNeg) x4) ≤ 0 → ∀ D5 : xD, D5 = (xu D1.1 a0 74 (D1.1 a0 74), D1.2) → ((lg_cmp (D1.2 (a0 + 37) (((35 : Int32) * (x1 + (D1.1 (a0 + 38) (x3 : Int32).toNatClampNeg))) + (D1.1 (a0 + 36) ((x2 + (D1.1 (a0 + 38) (x3 : Int32).toNatClampNeg)) - (D1.1 (a0 + 38) (x6 : Int32).toNatClampNeg) : Int32).toNatClampNeg) : Int32).toNatClampNeg) x4) ≤ 0 → xPf (d + 1) m_M_bestBy 8 [(0, .ref a0), (1, .int x1), (2, .int x2), (3, .int x3), (4, .long x4), (6, .int (x6 + (1 : Int32)))] [] D5 Q) ∧ (¬ (lg_cmp (D1.2 (a0 + 37) (((35 : Int32) * (x1 + (D1.1 (a0 + 38) (x3 : Int32).toNatClampNeg))) + (D1.1 (a0 + 36) ((x2 + (D1.1 (a0 + 38) (x3 : Int32).toNatClampNeg)) - (D1.1 (a0 + 38) (x6 : Int32).toNatClampNeg) : Int32).toNatClampNeg) : Int32).toNatClampNeg) x4) ≤ 0 → xPf (d + 1) m_M_bestBy 8 [(0, .ref a0), (1, .int x1), (2, .int x2), (3, .int x3), (4, .long (D1.2 (a0 + 37) (((35 : Int32) * (x1 + (D1.1 (a0 + 38) (x3 : Int32).toNatClampNeg))) + (D1.1 (a0 + 36) ((x2 + (D1.1 (a0 + 38) (x3 : Int32).toNatClampNeg)) - (D1.1 (a0 + 38) (x6 : Int32).toNatClampNeg) : Int32).toNatClampNeg) : Int32).toNatClampNeg)), (6, .int (x6 + (1 : Int32)))] [] D5 Q)) ∧ (¬ (lg_cmp (D1.2 (a0 + 37) (((35 : Int32) * (x1 + (D1.1 (a0 + 38) (x3 : Int32).toNatClampNeg))) + (D1.1 (a0 + 36) ((x2 + (D1.1 (a0 + 38) (x3 : Int32).toNatClampNeg)) - (D1.1 (a0 + 38) (x6 : Int32).toNatClampNeg) : Int32).toNatClampNeg) : Int32).toNatClampNeg) x4) ≤ 0 → ∀ D6 : xD, D6 = (xu D1.1 a0 74 x6, D1.2) → ((lg_cmp (D1.2 (a0 + 37) (((35 : Int32) * (x1 + (D1.1 (a0 + 38) (x3 : Int32).toNatClampNeg))) + (D1.1 (a0 + 36) ((x2 + (D1.1 (a0 + 38) (x3 : Int32).toNatClampNeg)) - (D1.1 (a0 + 38) (x6 : Int32).toNatClampNeg) : Int32).toNatClampNeg) : Int32).toNatClampNeg) x4) ≤ 0 → xPf (d + 1) m_M_bestBy 8 [(0, .ref a0), (1, .int x1), (2, .int x2), (3, .int x3), (4, .long x4), (6, .int (x6 + (1 : Int32)))] [] D6 Q) ∧ (¬ (lg_cmp (D1.2 (a0 + 37) (((35 : Int32) * (x1 + (D1.1 (a0 + 38) (x3 : Int32).toNatClampNeg))) + (D1.1 (a0 + 36) ((x2 + (D1.1 (a0 + 38) (x3 : Int32).toNatClampNeg)) - (D1.1 (a0 + 38) (x6 : Int32).toNatClampNeg) : Int32).toNatClampNeg) : Int32).toNatClampNeg) x4) ≤ 0 → xPf (d + 1) m_M_bestBy 8 [(0, .ref a0), (1, .int x1), (2, .int x2), (3, .int x3), (4, .long (D1.2 (a0 + 37) (((35 : Int32) * (x1 + (D1.1 (a0 + 38) (x3 : Int32).toNatClampNeg))) + (D1.1 (a0 + 36) ((x2 + (D1.1 (a0 + 38) (x3 : Int32).toNatClampNeg)) - (D1.1 (a0 + 38) (x6 : Int32).toNatClampNeg) : Int32).toNatClampNeg) : Int32).toNatClampNeg)), (6, .int (x6 + (1 : Int32)))] [] D6 Q))))))) : xPf (d + 1) m_M_bestBy 8 [(0, .ref a0), (1, .int x1), (2, .int x2), (3, .int x3), (4, .long x4), (6, .int x6)] [] D Q := by
  refine x_iload rfl rfl ?_
  refine x_aload_n rfl rfl ?_
  refine x_gI lf_M_335 k0 rfl rfl ?_
  refine x_icmp_ge (tgt := 127) rfl rfl (fun c => ?_) (fun c => ?_)
  · have h := h.1 c
    refine x_lload rfl rfl ?_
    exact x_lret rfl rfl h
  · have h := h.2 c
    refine x_aload_n rfl rfl ?_
    refine x_iload_n rfl rfl ?_
    refine x_iload rfl rfl ?_
    refine x_vi lm_M_531 vf_M_part k0 rfl rfl (Nat.le_of_ble_eq_true rfl) rfl h (fun r2 D1 h => ?_)
    refine x_iload rfl rfl ?_
    refine x_iload_n rfl rfl ?_
    refine x_icmp_ne (tgt := 34) rfl rfl (fun c => ?_) (fun c => ?_)
    · have h := h.1 c
      refine x_iconst (v := (0 : Int32)) rfl rfl ?_
      refine x_iadd rfl ?_
      refine x_istore (i := 7) (L1 := [(7, .int (r2 + (0 : Int32))), (0, .ref a0), (1, .int x1), (2, .int x2), (3, .int x3), (4, .long x4), (6, .int x6)]) rfl (Nat.le_of_ble_eq_true rfl) rfl ?_
      refine x_iload rfl rfl ?_
      refine x_if_le (tgt := 121) rfl rfl (fun c => ?_) (fun c => ?_)
      · have h := h.1 c
        refine x_iinc (i := 6) (v := x6 + (1 : Int32)) (L1 := [(6, .int (x6 + (1 : Int32))), (7, .int (r2 + (0 : Int32))), (0, .ref a0), (1, .int x1), (2, .int x2), (3, .int x3), (4, .long x4)]) rfl rfl rfl (Nat.le_of_ble_eq_true rfl) rfl ?_
        refine x_goto (tgt := 8) rfl rfl ?_
        exact xP_sub [2, 3, 4, 5, 6, 0] rfl h
      · have h := h.2 c
        refine x_aload_n rfl rfl ?_
        refine x_gR lf_M_119 k0 rfl rfl ?_
        refine x_bipush (v := (35 : Int32)) rfl rfl ?_
        refine x_iload_n rfl rfl ?_
        refine x_aload_n rfl rfl ?_
        refine x_gR lf_M_123 k0 rfl rfl ?_
        refine x_iload_n rfl rfl ?_
        refine x_iald (ck_13_72 k0) (xlt (ck_13_72 k0) (by decide)) h.1 rfl ?_
        have h := h.2
        refine x_iadd rfl ?_
        refine x_imul rfl ?_
        refine x_aload_n rfl rfl ?_
        refine x_gR lf_M_116 k0 rfl rfl ?_
        refine x_iload_n rfl rfl ?_
        refine x_aload_n rfl rfl ?_
        refine x_gR lf_M_123 k0 rfl rfl ?_
        refine x_iload_n rfl rfl ?_
        refine x_iald (ck_13_72 k0) (xlt (ck_13_72 k0) (by decide)) h.1 rfl ?_
        have h := h.2
        refine x_iadd rfl ?_
        refine x_aload_n rfl rfl ?_
        refine x_gR lf_M_123 k0 rfl rfl ?_
        refine x_iload rfl rfl ?_
        refine x_iald (ck_13_72 k0) (xlt (ck_13_72 k0) (by decide)) h.1 rfl ?_
        have h := h.2
        refine x_isub rfl ?_
        refine x_iald (ck_13_70 k0) (xlt (ck_13_70 k0) (by decide)) h.1 rfl ?_
        have h := h.2
        refine x_iadd rfl ?_
        refine x_lald (ck_13_71 k0) (xlt (ck_13_71 k0) (by decide)) h.1 rfl ?_
        have h := h.2
        refine x_lstore (i := 8) (L1 := [(8, .long (D1.2 (a0 + 37) (((35 : Int32) * (x1 + (D1.1 (a0 + 38) (x3 : Int32).toNatClampNeg))) + (D1.1 (a0 + 36) ((x2 + (D1.1 (a0 + 38) (x3 : Int32).toNatClampNeg)) - (D1.1 (a0 + 38) (x6 : Int32).toNatClampNeg) : Int32).toNatClampNeg) : Int32).toNatClampNeg)), (7, .int (r2 + (0 : Int32))), (0, .ref a0), (1, .int x1), (2, .int x2), (3, .int x3), (4, .long x4), (6, .int x6)]) rfl (Nat.le_of_ble_eq_true rfl) rfl ?_
        refine x_aload_n rfl rfl ?_
        refine x_lload rfl rfl ?_
        refine x_lload rfl rfl ?_
        refine x_lcmp rfl ?_
        refine x_if_le (tgt := 97) rfl rfl (fun c => ?_) (fun c => ?_)
        · have h := h.1 c
          refine x_aload_n rfl rfl ?_
          refine x_gI lf_M_542 k0 rfl rfl ?_
          refine x_pIn lp_M_542 nf_13_74 k0 rfl rfl (fun D3 eD3 => ?_)
          have h := h D3 eD3
          refine x_lload rfl rfl ?_
          refine x_lload rfl rfl ?_
          refine x_lcmp rfl ?_
          refine x_if_le (tgt := 117) rfl rfl (fun c => ?_) (fun c => ?_)
          · have h := h.1 c
            refine x_lload rfl rfl ?_
            refine x_lstore (i := 4) (L1 := [(4, .long x4), (8, .long (D1.2 (a0 + 37) (((35 : Int32) * (x1 + (D1.1 (a0 + 38) (x3 : Int32).toNatClampNeg))) + (D1.1 (a0 + 36) ((x2 + (D1.1 (a0 + 38) (x3 : Int32).toNatClampNeg)) - (D1.1 (a0 + 38) (x6 : Int32).toNatClampNeg) : Int32).toNatClampNeg) : Int32).toNatClampNeg)), (7, .int (r2 + (0 : Int32))), (0, .ref a0), (1, .int x1), (2, .int x2), (3, .int x3), (6, .int x6)]) rfl (Nat.le_of_ble_eq_true rfl) rfl ?_
            refine x_iinc (i := 6) (v := x6 + (1 : Int32)) (L1 := [(6, .int (x6 + (1 : Int32))), (4, .long x4), (8, .long (D1.2 (a0 + 37) (((35 : Int32) * (x1 + (D1.1 (a0 + 38) (x3 : Int32).toNatClampNeg))) + (D1.1 (a0 + 36) ((x2 + (D1.1 (a0 + 38) (x3 : Int32).toNatClampNeg)) - (D1.1 (a0 + 38) (x6 : Int32).toNatClampNeg) : Int32).toNatClampNeg) : Int32).toNatClampNeg)), (7, .int (r2 + (0 : Int32))), (0, .ref a0), (1, .int x1), (2, .int x2), (3, .int x3)]) rfl rfl rfl (Nat.le_of_ble_eq_true rfl) rfl ?_
            refine x_goto (tgt := 8) rfl rfl ?_
            exact xP_sub [4, 5, 6, 7, 1, 0] rfl h
          · have h := h.2 c
            refine x_lload rfl rfl ?_
            refine x_goto (tgt := 119) rfl rfl ?_
            refine x_lstore (i := 4) (L1 := [(4, .long (D1.2 (a0 + 37) (((35 : Int32) * (x1 + (D1.1 (a0 + 38) (x3 : Int32).toNatClampNeg))) + (D1.1 (a0 + 36) ((x2 + (D1.1 (a0 + 38) (x3 : Int32).toNatClampNeg)) - (D1.1 (a0 + 38) (x6 : Int32).toNatClampNeg) : Int32).toNatClampNeg) : Int32).toNatClampNeg)), (8, .long (D1.2 (a0 + 37) (((35 : Int32) * (x1 + (D1.1 (a0 + 38) (x3 : Int32).toNatClampNeg))) + (D1.1 (a0 + 36) ((x2 + (D1.1 (a0 + 38) (x3 : Int32).toNatClampNeg)) - (D1.1 (a0 + 38) (x6 : Int32).toNatClampNeg) : Int32).toNatClampNeg) : Int32).toNatClampNeg)), (7, .int (r2 + (0 : Int32))), (0, .ref a0), (1, .int x1), (2, .int x2), (3, .int x3), (6, .int x6)]) rfl (Nat.le_of_ble_eq_true rfl) rfl ?_
            refine x_iinc (i := 6) (v := x6 + (1 : Int32)) (L1 := [(6, .int (x6 + (1 : Int32))), (4, .long (D1.2 (a0 + 37) (((35 : Int32) * (x1 + (D1.1 (a0 + 38) (x3 : Int32).toNatClampNeg))) + (D1.1 (a0 + 36) ((x2 + (D1.1 (a0 + 38) (x3 : Int32).toNatClampNeg)) - (D1.1 (a0 + 38) (x6 : Int32).toNatClampNeg) : Int32).toNatClampNeg) : Int32).toNatClampNeg)), (8, .long (D1.2 (a0 + 37) (((35 : Int32) * (x1 + (D1.1 (a0 + 38) (x3 : Int32).toNatClampNeg))) + (D1.1 (a0 + 36) ((x2 + (D1.1 (a0 + 38) (x3 : Int32).toNatClampNeg)) - (D1.1 (a0 + 38) (x6 : Int32).toNatClampNeg) : Int32).toNatClampNeg) : Int32).toNatClampNeg)), (7, .int (r2 + (0 : Int32))), (0, .ref a0), (1, .int x1), (2, .int x2), (3, .int x3)]) rfl rfl rfl (Nat.le_of_ble_eq_true rfl) rfl ?_
            refine x_goto (tgt := 8) rfl rfl ?_
            exact xP_sub [4, 5, 6, 7, 1, 0] rfl h
        · have h := h.2 c
          refine x_iload rfl rfl ?_
          refine x_goto (tgt := 101) rfl rfl ?_
          refine x_pIn lp_M_542 nf_13_74 k0 rfl rfl (fun D4 eD4 => ?_)
          have h := h D4 eD4
          refine x_lload rfl rfl ?_
          refine x_lload rfl rfl ?_
          refine x_lcmp rfl ?_
          refine x_if_le (tgt := 117) rfl rfl (fun c => ?_) (fun c => ?_)
          · have h := h.1 c
            refine x_lload rfl rfl ?_
            refine x_lstore (i := 4) (L1 := [(4, .long x4), (8, .long (D1.2 (a0 + 37) (((35 : Int32) * (x1 + (D1.1 (a0 + 38) (x3 : Int32).toNatClampNeg))) + (D1.1 (a0 + 36) ((x2 + (D1.1 (a0 + 38) (x3 : Int32).toNatClampNeg)) - (D1.1 (a0 + 38) (x6 : Int32).toNatClampNeg) : Int32).toNatClampNeg) : Int32).toNatClampNeg)), (7, .int (r2 + (0 : Int32))), (0, .ref a0), (1, .int x1), (2, .int x2), (3, .int x3), (6, .int x6)]) rfl (Nat.le_of_ble_eq_true rfl) rfl ?_
            refine x_iinc (i := 6) (v := x6 + (1 : Int32)) (L1 := [(6, .int (x6 + (1 : Int32))), (4, .long x4), (8, .long (D1.2 (a0 + 37) (((35 : Int32) * (x1 + (D1.1 (a0 + 38) (x3 : Int32).toNatClampNeg))) + (D1.1 (a0 + 36) ((x2 + (D1.1 (a0 + 38) (x3 : Int32).toNatClampNeg)) - (D1.1 (a0 + 38) (x6 : Int32).toNatClampNeg) : Int32).toNatClampNeg) : Int32).toNatClampNeg)), (7, .int (r2 + (0 : Int32))), (0, .ref a0), (1, .int x1), (2, .int x2), (3, .int x3)]) rfl rfl rfl (Nat.le_of_ble_eq_true rfl) rfl ?_
            refine x_goto (tgt := 8) rfl rfl ?_
            exact xP_sub [4, 5, 6, 7, 1, 0] rfl h
          · have h := h.2 c
            refine x_lload rfl rfl ?_
            refine x_goto (tgt := 119) rfl rfl ?_
            refine x_lstore (i := 4) (L1 := [(4, .long (D1.2 (a0 + 37) (((35 : Int32) * (x1 + (D1.1 (a0 + 38) (x3 : Int32).toNatClampNeg))) + (D1.1 (a0 + 36) ((x2 + (D1.1 (a0 + 38) (x3 : Int32).toNatClampNeg)) - (D1.1 (a0 + 38) (x6 : Int32).toNatClampNeg) : Int32).toNatClampNeg) : Int32).toNatClampNeg)), (8, .long (D1.2 (a0 + 37) (((35 : Int32) * (x1 + (D1.1 (a0 + 38) (x3 : Int32).toNatClampNeg))) + (D1.1 (a0 + 36) ((x2 + (D1.1 (a0 + 38) (x3 : Int32).toNatClampNeg)) - (D1.1 (a0 + 38) (x6 : Int32).toNatClampNeg) : Int32).toNatClampNeg) : Int32).toNatClampNeg)), (7, .int (r2 + (0 : Int32))), (0, .ref a0), (1, .int x1), (2, .int x2), (3, .int x3), (6, .int x6)]) rfl (Nat.le_of_ble_eq_true rfl) rfl ?_
            refine x_iinc (i := 6) (v := x6 + (1 : Int32)) (L1 := [(6, .int (x6 + (1 : Int32))), (4, .long (D1.2 (a0 + 37) (((35 : Int32) * (x1 + (D1.1 (a0 + 38) (x3 : Int32).toNatClampNeg))) + (D1.1 (a0 + 36) ((x2 + (D1.1 (a0 + 38) (x3 : Int32).toNatClampNeg)) - (D1.1 (a0 + 38) (x6 : Int32).toNatClampNeg) : Int32).toNatClampNeg) : Int32).toNatClampNeg)), (8, .long (D1.2 (a0 + 37) (((35 : Int32) * (x1 + (D1.1 (a0 + 38) (x3 : Int32).toNatClampNeg))) + (D1.1 (a0 + 36) ((x2 + (D1.1 (a0 + 38) (x3 : Int32).toNatClampNeg)) - (D1.1 (a0 + 38) (x6 : Int32).toNatClampNeg) : Int32).toNatClampNeg) : Int32).toNatClampNeg)), (7, .int (r2 + (0 : Int32))), (0, .ref a0), (1, .int x1), (2, .int x2), (3, .int x3)]) rfl rfl rfl (Nat.le_of_ble_eq_true rfl) rfl ?_
            refine x_goto (tgt := 8) rfl rfl ?_
            exact xP_sub [4, 5, 6, 7, 1, 0] rfl h
    · have h := h.2 c
      refine x_iconst (v := (1 : Int32)) rfl rfl ?_
      refine x_goto (tgt := 35) rfl rfl ?_
      refine x_iadd rfl ?_
      refine x_istore (i := 7) (L1 := [(7, .int (r2 + (1 : Int32))), (0, .ref a0), (1, .int x1), (2, .int x2), (3, .int x3), (4, .long x4), (6, .int x6)]) rfl (Nat.le_of_ble_eq_true rfl) rfl ?_
      refine x_iload rfl rfl ?_
      refine x_if_le (tgt := 121) rfl rfl (fun c => ?_) (fun c => ?_)
      · have h := h.1 c
        refine x_iinc (i := 6) (v := x6 + (1 : Int32)) (L1 := [(6, .int (x6 + (1 : Int32))), (7, .int (r2 + (1 : Int32))), (0, .ref a0), (1, .int x1), (2, .int x2), (3, .int x3), (4, .long x4)]) rfl rfl rfl (Nat.le_of_ble_eq_true rfl) rfl ?_
        refine x_goto (tgt := 8) rfl rfl ?_
        exact xP_sub [2, 3, 4, 5, 6, 0] rfl h
      · have h := h.2 c
        refine x_aload_n rfl rfl ?_
        refine x_gR lf_M_119 k0 rfl rfl ?_
        refine x_bipush (v := (35 : Int32)) rfl rfl ?_
        refine x_iload_n rfl rfl ?_
        refine x_aload_n rfl rfl ?_
        refine x_gR lf_M_123 k0 rfl rfl ?_
        refine x_iload_n rfl rfl ?_
        refine x_iald (ck_13_72 k0) (xlt (ck_13_72 k0) (by decide)) h.1 rfl ?_
        have h := h.2
        refine x_iadd rfl ?_
        refine x_imul rfl ?_
        refine x_aload_n rfl rfl ?_
        refine x_gR lf_M_116 k0 rfl rfl ?_
        refine x_iload_n rfl rfl ?_
        refine x_aload_n rfl rfl ?_
        refine x_gR lf_M_123 k0 rfl rfl ?_
        refine x_iload_n rfl rfl ?_
        refine x_iald (ck_13_72 k0) (xlt (ck_13_72 k0) (by decide)) h.1 rfl ?_
        have h := h.2
        refine x_iadd rfl ?_
        refine x_aload_n rfl rfl ?_
        refine x_gR lf_M_123 k0 rfl rfl ?_
        refine x_iload rfl rfl ?_
        refine x_iald (ck_13_72 k0) (xlt (ck_13_72 k0) (by decide)) h.1 rfl ?_
        have h := h.2
        refine x_isub rfl ?_
        refine x_iald (ck_13_70 k0) (xlt (ck_13_70 k0) (by decide)) h.1 rfl ?_
        have h := h.2
        refine x_iadd rfl ?_
        refine x_lald (ck_13_71 k0) (xlt (ck_13_71 k0) (by decide)) h.1 rfl ?_
        have h := h.2
        refine x_lstore (i := 8) (L1 := [(8, .long (D1.2 (a0 + 37) (((35 : Int32) * (x1 + (D1.1 (a0 + 38) (x3 : Int32).toNatClampNeg))) + (D1.1 (a0 + 36) ((x2 + (D1.1 (a0 + 38) (x3 : Int32).toNatClampNeg)) - (D1.1 (a0 + 38) (x6 : Int32).toNatClampNeg) : Int32).toNatClampNeg) : Int32).toNatClampNeg)), (7, .int (r2 + (1 : Int32))), (0, .ref a0), (1, .int x1), (2, .int x2), (3, .int x3), (4, .long x4), (6, .int x6)]) rfl (Nat.le_of_ble_eq_true rfl) rfl ?_
        refine x_aload_n rfl rfl ?_
        refine x_lload rfl rfl ?_
        refine x_lload rfl rfl ?_
        refine x_lcmp rfl ?_
        refine x_if_le (tgt := 97) rfl rfl (fun c => ?_) (fun c => ?_)
        · have h := h.1 c
          refine x_aload_n rfl rfl ?_
          refine x_gI lf_M_542 k0 rfl rfl ?_
          refine x_pIn lp_M_542 nf_13_74 k0 rfl rfl (fun D5 eD5 => ?_)
          have h := h D5 eD5
          refine x_lload rfl rfl ?_
          refine x_lload rfl rfl ?_
          refine x_lcmp rfl ?_
          refine x_if_le (tgt := 117) rfl rfl (fun c => ?_) (fun c => ?_)
          · have h := h.1 c
            refine x_lload rfl rfl ?_
            refine x_lstore (i := 4) (L1 := [(4, .long x4), (8, .long (D1.2 (a0 + 37) (((35 : Int32) * (x1 + (D1.1 (a0 + 38) (x3 : Int32).toNatClampNeg))) + (D1.1 (a0 + 36) ((x2 + (D1.1 (a0 + 38) (x3 : Int32).toNatClampNeg)) - (D1.1 (a0 + 38) (x6 : Int32).toNatClampNeg) : Int32).toNatClampNeg) : Int32).toNatClampNeg)), (7, .int (r2 + (1 : Int32))), (0, .ref a0), (1, .int x1), (2, .int x2), (3, .int x3), (6, .int x6)]) rfl (Nat.le_of_ble_eq_true rfl) rfl ?_
            refine x_iinc (i := 6) (v := x6 + (1 : Int32)) (L1 := [(6, .int (x6 + (1 : Int32))), (4, .long x4), (8, .long (D1.2 (a0 + 37) (((35 : Int32) * (x1 + (D1.1 (a0 + 38) (x3 : Int32).toNatClampNeg))) + (D1.1 (a0 + 36) ((x2 + (D1.1 (a0 + 38) (x3 : Int32).toNatClampNeg)) - (D1.1 (a0 + 38) (x6 : Int32).toNatClampNeg) : Int32).toNatClampNeg) : Int32).toNatClampNeg)), (7, .int (r2 + (1 : Int32))), (0, .ref a0), (1, .int x1), (2, .int x2), (3, .int x3)]) rfl rfl rfl (Nat.le_of_ble_eq_true rfl) rfl ?_
            refine x_goto (tgt := 8) rfl rfl ?_
            exact xP_sub [4, 5, 6, 7, 1, 0] rfl h
          · have h := h.2 c
            refine x_lload rfl rfl ?_
            refine x_goto (tgt := 119) rfl rfl ?_
            refine x_lstore (i := 4) (L1 := [(4, .long (D1.2 (a0 + 37) (((35 : Int32) * (x1 + (D1.1 (a0 + 38) (x3 : Int32).toNatClampNeg))) + (D1.1 (a0 + 36) ((x2 + (D1.1 (a0 + 38) (x3 : Int32).toNatClampNeg)) - (D1.1 (a0 + 38) (x6 : Int32).toNatClampNeg) : Int32).toNatClampNeg) : Int32).toNatClampNeg)), (8, .long (D1.2 (a0 + 37) (((35 : Int32) * (x1 + (D1.1 (a0 + 38) (x3 : Int32).toNatClampNeg))) + (D1.1 (a0 + 36) ((x2 + (D1.1 (a0 + 38) (x3 : Int32).toNatClampNeg)) - (D1.1 (a0 + 38) (x6 : Int32).toNatClampNeg) : Int32).toNatClampNeg) : Int32).toNatClampNeg)), (7, .int (r2 + (1 : Int32))), (0, .ref a0), (1, .int x1), (2, .int x2), (3, .int x3), (6, .int x6)]) rfl (Nat.le_of_ble_eq_true rfl) rfl ?_
            refine x_iinc (i := 6) (v := x6 + (1 : Int32)) (L1 := [(6, .int (x6 + (1 : Int32))), (4, .long (D1.2 (a0 + 37) (((35 : Int32) * (x1 + (D1.1 (a0 + 38) (x3 : Int32).toNatClampNeg))) + (D1.1 (a0 + 36) ((x2 + (D1.1 (a0 + 38) (x3 : Int32).toNatClampNeg)) - (D1.1 (a0 + 38) (x6 : Int32).toNatClampNeg) : Int32).toNatClampNeg) : Int32).toNatClampNeg)), (8, .long (D1.2 (a0 + 37) (((35 : Int32) * (x1 + (D1.1 (a0 + 38) (x3 : Int32).toNatClampNeg))) + (D1.1 (a0 + 36) ((x2 + (D1.1 (a0 + 38) (x3 : Int32).toNatClampNeg)) - (D1.1 (a0 + 38) (x6 : Int32).toNatClampNeg) : Int32).toNatClampNeg) : Int32).toNatClampNeg)), (7, .int (r2 + (1 : Int32))), (0, .ref a0), (1, .int x1), (2, .int x2), (3, .int x3)]) rfl rfl rfl (Nat.le_of_ble_eq_true rfl) rfl ?_
            refine x_goto (tgt := 8) rfl rfl ?_
            exact xP_sub [4, 5, 6, 7, 1, 0] rfl h
        · have h := h.2 c
          refine x_iload rfl rfl ?_
          refine x_goto (tgt := 101) rfl rfl ?_
          refine x_pIn lp_M_542 nf_13_74 k0 rfl rfl (fun D6 eD6 => ?_)
          have h := h D6 eD6
          refine x_lload rfl rfl ?_
          refine x_lload rfl rfl ?_
          refine x_lcmp rfl ?_
          refine x_if_le (tgt := 117) rfl rfl (fun c => ?_) (fun c => ?_)
          · have h := h.1 c
            refine x_lload rfl rfl ?_
            refine x_lstore (i := 4) (L1 := [(4, .long x4), (8, .long (D1.2 (a0 + 37) (((35 : Int32) * (x1 + (D1.1 (a0 + 38) (x3 : Int32).toNatClampNeg))) + (D1.1 (a0 + 36) ((x2 + (D1.1 (a0 + 38) (x3 : Int32).toNatClampNeg)) - (D1.1 (a0 + 38) (x6 : Int32).toNatClampNeg) : Int32).toNatClampNeg) : Int32).toNatClampNeg)), (7, .int (r2 + (1 : Int32))), (0, .ref a0), (1, .int x1), (2, .int x2), (3, .int x3), (6, .int x6)]) rfl (Nat.le_of_ble_eq_true rfl) rfl ?_
            refine x_iinc (i := 6) (v := x6 + (1 : Int32)) (L1 := [(6, .int (x6 + (1 : Int32))), (4, .long x4), (8, .long (D1.2 (a0 + 37) (((35 : Int32) * (x1 + (D1.1 (a0 + 38) (x3 : Int32).toNatClampNeg))) + (D1.1 (a0 + 36) ((x2 + (D1.1 (a0 + 38) (x3 : Int32).toNatClampNeg)) - (D1.1 (a0 + 38) (x6 : Int32).toNatClampNeg) : Int32).toNatClampNeg) : Int32).toNatClampNeg)), (7, .int (r2 + (1 : Int32))), (0, .ref a0), (1, .int x1), (2, .int x2), (3, .int x3)]) rfl rfl rfl (Nat.le_of_ble_eq_true rfl) rfl ?_
            refine x_goto (tgt := 8) rfl rfl ?_
            exact xP_sub [4, 5, 6, 7, 1, 0] rfl h
          · have h := h.2 c
            refine x_lload rfl rfl ?_
            refine x_goto (tgt := 119) rfl rfl ?_
            refine x_lstore (i := 4) (L1 := [(4, .long (D1.2 (a0 + 37) (((35 : Int32) * (x1 + (D1.1 (a0 + 38) (x3 : Int32).toNatClampNeg))) + (D1.1 (a0 + 36) ((x2 + (D1.1 (a0 + 38) (x3 : Int32).toNatClampNeg)) - (D1.1 (a0 + 38) (x6 : Int32).toNatClampNeg) : Int32).toNatClampNeg) : Int32).toNatClampNeg)), (8, .long (D1.2 (a0 + 37) (((35 : Int32) * (x1 + (D1.1 (a0 + 38) (x3 : Int32).toNatClampNeg))) + (D1.1 (a0 + 36) ((x2 + (D1.1 (a0 + 38) (x3 : Int32).toNatClampNeg)) - (D1.1 (a0 + 38) (x6 : Int32).toNatClampNeg) : Int32).toNatClampNeg) : Int32).toNatClampNeg)), (7, .int (r2 + (1 : Int32))), (0, .ref a0), (1, .int x1), (2, .int x2), (3, .int x3), (6, .int x6)]) rfl (Nat.le_of_ble_eq_true rfl) rfl ?_
            refine x_iinc (i := 6) (v := x6 + (1 : Int32)) (L1 := [(6, .int (x6 + (1 : Int32))), (4, .long (D1.2 (a0 + 37) (((35 : Int32) * (x1 + (D1.1 (a0 + 38) (x3 : Int32).toNatClampNeg))) + (D1.1 (a0 + 36) ((x2 + (D1.1 (a0 + 38) (x3 : Int32).toNatClampNeg)) - (D1.1 (a0 + 38) (x6 : Int32).toNatClampNeg) : Int32).toNatClampNeg) : Int32).toNatClampNeg)), (8, .long (D1.2 (a0 + 37) (((35 : Int32) * (x1 + (D1.1 (a0 + 38) (x3 : Int32).toNatClampNeg))) + (D1.1 (a0 + 36) ((x2 + (D1.1 (a0 + 38) (x3 : Int32).toNatClampNeg)) - (D1.1 (a0 + 38) (x6 : Int32).toNatClampNeg) : Int32).toNatClampNeg) : Int32).toNatClampNeg)), (7, .int (r2 + (1 : Int32))), (0, .ref a0), (1, .int x1), (2, .int x2), (3, .int x3)]) rfl rfl rfl (Nat.le_of_ble_eq_true rfl) rfl ?_
            refine x_goto (tgt := 8) rfl rfl ?_
            exact xP_sub [4, 5, 6, 7, 1, 0] rfl h
theorem s_M_rows_0 {d : Nat} {D : xD} {Q : Option Value → xD → Prop} {a0 : Nat} {x1 : Int32} {x2 : Int32} (k0 : xk a0 = 13) (h : xPf (d + 1) m_M_rows 5 [(0, .ref a0), (1, .int x1), (2, .int x2), (3, .long (1 : Int64)), (5, .int (0 : Int32))] [] D Q) : xPf (d + 1) m_M_rows 0 [(0, .ref a0), (1, .int x1), (2, .int x2)] [] D Q := by
  refine x_lconst (v := 1) rfl rfl ?_
  refine x_lstore_n (i := 3) (L1 := [(3, .long (1 : Int64)), (0, .ref a0), (1, .int x1), (2, .int x2)]) rfl rfl (Nat.le_of_ble_eq_true rfl) rfl ?_
  refine x_iconst (v := (0 : Int32)) rfl rfl ?_
  refine x_istore (i := 5) (L1 := [(5, .int (0 : Int32)), (3, .long (1 : Int64)), (0, .ref a0), (1, .int x1), (2, .int x2)]) rfl (Nat.le_of_ble_eq_true rfl) rfl ?_
  exact xP_sub [2, 3, 4, 1, 0] rfl h
theorem s_M_rows_5 {d : Nat} {D : xD} {Q : Option Value → xD → Prop} {a0 : Nat} {x1 : Int32} {x2 : Int32} {x3 : Int64} {x5 : Int32} (k0 : xk a0 = 13) (h : (x2 ≤ x5 → Q (some (.long x3)) D) ∧ (¬ x2 ≤ x5 → xPf (d + 1) m_M_rows 5 [(0, .ref a0), (1, .int x1), (2, .int x2), (3, .long (x3 * ((x1 - x5).toInt64))), (5, .int (x5 + (1 : Int32)))] [] D Q)) : xPf (d + 1) m_M_rows 5 [(0, .ref a0), (1, .int x1), (2, .int x2), (3, .long x3), (5, .int x5)] [] D Q := by
  refine x_iload rfl rfl ?_
  refine x_iload_n rfl rfl ?_
  refine x_icmp_ge (tgt := 25) rfl rfl (fun c => ?_) (fun c => ?_)
  · have h := h.1 c
    refine x_lload_n rfl rfl ?_
    exact x_lret rfl rfl h
  · have h := h.2 c
    refine x_lload_n rfl rfl ?_
    refine x_iload_n rfl rfl ?_
    refine x_iload rfl rfl ?_
    refine x_isub rfl ?_
    refine x_i2l rfl ?_
    refine x_lmul rfl ?_
    refine x_lstore_n (i := 3) (L1 := [(3, .long (x3 * ((x1 - x5).toInt64))), (0, .ref a0), (1, .int x1), (2, .int x2), (5, .int x5)]) rfl rfl (Nat.le_of_ble_eq_true rfl) rfl ?_
    refine x_iinc (i := 5) (v := x5 + (1 : Int32)) (L1 := [(5, .int (x5 + (1 : Int32))), (3, .long (x3 * ((x1 - x5).toInt64))), (0, .ref a0), (1, .int x1), (2, .int x2)]) rfl rfl rfl (Nat.le_of_ble_eq_true rfl) rfl ?_
    refine x_goto (tgt := 5) rfl rfl ?_
    exact xP_sub [2, 3, 4, 1, 0] rfl h
theorem s_M_waysOf_0 {d : Nat} {D : xD} {Q : Option Value → xD → Prop} {a0 : Nat} {x1 : Int32} {x2 : Int32} {x3 : Int32} (k0 : xk a0 = 13) (h : xCi d m_M_hasAlike [.ref a0, .int x2] D (fun r2 D1 => (r2 = 0 → xPf (d + 1) m_M_waysOf 30 [(0, .ref a0), (1, .int x1), (2, .int x2), (3, .int x3), (4, .long (0 : Int64)), (6, .int (0 : Int32))] [] D1 Q) ∧ (¬ r2 = 0 → xCi d m_M_total [.ref a0, .int x1] D1 (fun r4 D3 => xCl d m_M_rows [.ref a0, .int ((D1.1 a0 68) - r4), .int x3] D3 (fun r6 D5 => Q (some (.long r6)) D5))))) : xPf (d + 1) m_M_waysOf 0 [(0, .ref a0), (1, .int x1), (2, .int x2), (3, .int x3)] [] D Q := by
  refine x_aload_n rfl rfl ?_
  refine x_iload_n rfl rfl ?_
  refine x_vi lm_M_545 vf_M_hasAlike k0 rfl rfl (Nat.le_of_ble_eq_true rfl) rfl h (fun r2 D1 h => ?_)
  refine x_if_eq (tgt := 24) rfl rfl (fun c => ?_) (fun c => ?_)
  · have h := h.1 c
    refine x_lconst (v := 0) rfl rfl ?_
    refine x_lstore (i := 4) (L1 := [(4, .long (0 : Int64)), (0, .ref a0), (1, .int x1), (2, .int x2), (3, .int x3)]) rfl (Nat.le_of_ble_eq_true rfl) rfl ?_
    refine x_iconst (v := (0 : Int32)) rfl rfl ?_
    refine x_istore (i := 6) (L1 := [(6, .int (0 : Int32)), (4, .long (0 : Int64)), (0, .ref a0), (1, .int x1), (2, .int x2), (3, .int x3)]) rfl (Nat.le_of_ble_eq_true rfl) rfl ?_
    exact xP_sub [2, 3, 4, 5, 1, 0] rfl h
  · have h := h.2 c
    refine x_aload_n rfl rfl ?_
    refine x_aload_n rfl rfl ?_
    refine x_gI lf_M_522 k0 rfl rfl ?_
    refine x_aload_n rfl rfl ?_
    refine x_iload_n rfl rfl ?_
    refine x_vi lm_M_537 vf_M_total k0 rfl rfl (Nat.le_of_ble_eq_true rfl) rfl h (fun r4 D3 h => ?_)
    refine x_isub rfl ?_
    refine x_iload_n rfl rfl ?_
    refine x_vl lm_M_548 vf_M_rows k0 rfl rfl (Nat.le_of_ble_eq_true rfl) rfl h (fun r6 D5 h => ?_)
    exact x_lret rfl rfl h
theorem s_M_waysOf_30 {d : Nat} {D : xD} {Q : Option Value → xD → Prop} {a0 : Nat} {x1 : Int32} {x2 : Int32} {x3 : Int32} {x4 : Int64} {x6 : Int32} (k0 : xk a0 = 13) (h : ((D.1 a0 27) ≤ x6 → Q (some (.long x4)) D) ∧ (¬ (D.1 a0 27) ≤ x6 → (x3 ≤ 0 → Q (some (.long x4)) D) ∧ (¬ x3 ≤ 0 → vp_in x6 (xl (a0 + 34)) ∧ xCi d m_M_part [.ref a0, .int x1, .int x6] D (fun r2 D1 => (((D.1 (a0 + 34) (x6 : Int32).toNatClampNeg) - r2) ≤ 0 → xPf (d + 1) m_M_waysOf 30 [(0, .ref a0), (1, .int x1), (2, .int x2), (3, .int x3), (4, .long (x4 + (0 : Int64))), (6, .int (x6 + (1 : Int32)))] [] D1 Q) ∧ (¬ ((D.1 (a0 + 34) (x6 : Int32).toNatClampNeg) - r2) ≤ 0 → xCl d m_M_bestBy [.ref a0, .int x1, .int x2, .int x6] D1 (fun r4 D3 => xPf (d + 1) m_M_waysOf 30 [(0, .ref a0), (1, .int x1), (2, .int x2), (3, .int x3), (4, .long (x4 + ((((D.1 (a0 + 34) (x6 : Int32).toNatClampNeg) - r2).toInt64) * r4))), (6, .int (x6 + (1 : Int32)))] [] D3 Q)))))) : xPf (d + 1) m_M_waysOf 30 [(0, .ref a0), (1, .int x1), (2, .int x2), (3, .int x3), (4, .long x4), (6, .int x6)] [] D Q := by
  refine x_iload rfl rfl ?_
  refine x_aload_n rfl rfl ?_
  refine x_gI lf_M_335 k0 rfl rfl ?_
  refine x_icmp_ge (tgt := 92) rfl rfl (fun c => ?_) (fun c => ?_)
  · have h := h.1 c
    refine x_lload rfl rfl ?_
    exact x_lret rfl rfl h
  · have h := h.2 c
    refine x_iload_n rfl rfl ?_
    refine x_if_le (tgt := 92) rfl rfl (fun c => ?_) (fun c => ?_)
    · have h := h.1 c
      refine x_lload rfl rfl ?_
      exact x_lret rfl rfl h
    · have h := h.2 c
      refine x_aload_n rfl rfl ?_
      refine x_gR lf_M_110 k0 rfl rfl ?_
      refine x_iload rfl rfl ?_
      refine x_iald (ck_13_67 k0) (xlt (ck_13_67 k0) (by decide)) h.1 rfl ?_
      have h := h.2
      refine x_aload_n rfl rfl ?_
      refine x_iload_n rfl rfl ?_
      refine x_iload rfl rfl ?_
      refine x_vi lm_M_531 vf_M_part k0 rfl rfl (Nat.le_of_ble_eq_true rfl) rfl h (fun r2 D1 h => ?_)
      refine x_isub rfl ?_
      refine x_istore (i := 7) (L1 := [(7, .int ((D.1 (a0 + 34) (x6 : Int32).toNatClampNeg) - r2)), (0, .ref a0), (1, .int x1), (2, .int x2), (3, .int x3), (4, .long x4), (6, .int x6)]) rfl (Nat.le_of_ble_eq_true rfl) rfl ?_
      refine x_lload rfl rfl ?_
      refine x_iload rfl rfl ?_
      refine x_if_le (tgt := 82) rfl rfl (fun c => ?_) (fun c => ?_)
      · have h := h.1 c
        refine x_lconst (v := 0) rfl rfl ?_
        refine x_ladd rfl ?_
        refine x_lstore (i := 4) (L1 := [(4, .long (x4 + (0 : Int64))), (7, .int ((D.1 (a0 + 34) (x6 : Int32).toNatClampNeg) - r2)), (0, .ref a0), (1, .int x1), (2, .int x2), (3, .int x3), (6, .int x6)]) rfl (Nat.le_of_ble_eq_true rfl) rfl ?_
        refine x_iinc (i := 6) (v := x6 + (1 : Int32)) (L1 := [(6, .int (x6 + (1 : Int32))), (4, .long (x4 + (0 : Int64))), (7, .int ((D.1 (a0 + 34) (x6 : Int32).toNatClampNeg) - r2)), (0, .ref a0), (1, .int x1), (2, .int x2), (3, .int x3)]) rfl rfl rfl (Nat.le_of_ble_eq_true rfl) rfl ?_
        refine x_goto (tgt := 30) rfl rfl ?_
        exact xP_sub [3, 4, 5, 6, 1, 0] rfl h
      · have h := h.2 c
        refine x_iload rfl rfl ?_
        refine x_i2l rfl ?_
        refine x_aload_n rfl rfl ?_
        refine x_iload_n rfl rfl ?_
        refine x_iload_n rfl rfl ?_
        refine x_iload rfl rfl ?_
        refine x_vl lm_M_552 vf_M_bestBy k0 rfl rfl (Nat.le_of_ble_eq_true rfl) rfl h (fun r4 D3 h => ?_)
        refine x_lmul rfl ?_
        refine x_goto (tgt := 83) rfl rfl ?_
        refine x_ladd rfl ?_
        refine x_lstore (i := 4) (L1 := [(4, .long (x4 + ((((D.1 (a0 + 34) (x6 : Int32).toNatClampNeg) - r2).toInt64) * r4))), (7, .int ((D.1 (a0 + 34) (x6 : Int32).toNatClampNeg) - r2)), (0, .ref a0), (1, .int x1), (2, .int x2), (3, .int x3), (6, .int x6)]) rfl (Nat.le_of_ble_eq_true rfl) rfl ?_
        refine x_iinc (i := 6) (v := x6 + (1 : Int32)) (L1 := [(6, .int (x6 + (1 : Int32))), (4, .long (x4 + ((((D.1 (a0 + 34) (x6 : Int32).toNatClampNeg) - r2).toInt64) * r4))), (7, .int ((D.1 (a0 + 34) (x6 : Int32).toNatClampNeg) - r2)), (0, .ref a0), (1, .int x1), (2, .int x2), (3, .int x3)]) rfl rfl rfl (Nat.le_of_ble_eq_true rfl) rfl ?_
        refine x_goto (tgt := 30) rfl rfl ?_
        exact xP_sub [3, 4, 5, 6, 1, 0] rfl h
theorem s_M_findWays_0 {d : Nat} {D : xD} {Q : Option Value → xD → Prop} {a0 : Nat} {x1 : Int32} (k0 : xk a0 = 13) (h : xCv d m_M_layHands [.ref a0] D (fun D1 => xPf (d + 1) m_M_findWays 6 [(0, .ref a0), (1, .int x1), (2, .int x1)] [] D1 Q)) : xPf (d + 1) m_M_findWays 0 [(0, .ref a0), (1, .int x1)] [] D Q := by
  refine x_aload_n rfl rfl ?_
  refine x_vv lm_M_556 vf_M_layHands k0 rfl rfl (Nat.le_of_ble_eq_true rfl) rfl h (fun D1 h => ?_)
  refine x_iload_n rfl rfl ?_
  refine x_istore_n (i := 2) (L1 := [(2, .int x1), (0, .ref a0), (1, .int x1)]) rfl rfl (Nat.le_of_ble_eq_true rfl) rfl ?_
  exact xP_sub [1, 2, 0] rfl h
theorem s_M_findWays_6 {d : Nat} {D : xD} {Q : Option Value → xD → Prop} {a0 : Nat} {x1 : Int32} {x2 : Int32} (k0 : xk a0 = 13) (h : (x2 < 0 → Q none D) ∧ (¬ x2 < 0 → xPf (d + 1) m_M_findWays 12 [(0, .ref a0), (1, .int x1), (2, .int x2), (3, .int (0 : Int32))] [] D Q)) : xPf (d + 1) m_M_findWays 6 [(0, .ref a0), (1, .int x1), (2, .int x2)] [] D Q := by
  refine x_iload_n rfl rfl ?_
  refine x_if_lt (tgt := 93) rfl rfl (fun c => ?_) (fun c => ?_)
  · have h := h.1 c
    exact x_vret rfl rfl h
  · have h := h.2 c
    refine x_iconst (v := (0 : Int32)) rfl rfl ?_
    refine x_istore_n (i := 3) (L1 := [(3, .int (0 : Int32)), (0, .ref a0), (1, .int x1), (2, .int x2)]) rfl rfl (Nat.le_of_ble_eq_true rfl) rfl ?_
    exact xP_sub [1, 2, 3, 0] rfl h
theorem s_M_findWays_12 {d : Nat} {D : xD} {Q : Option Value → xD → Prop} {a0 : Nat} {x1 : Int32} {x2 : Int32} {x3 : Int32} (k0 : xk a0 = 13) (h : ((625 : Int32) ≤ x3 → xPf (d + 1) m_M_findWays 6 [(0, .ref a0), (1, .int x1), (2, .int (x2 + (-1 : Int32)))] [] D Q) ∧ (¬ (625 : Int32) ≤ x3 → xPf (d + 1) m_M_findWays 22 [(0, .ref a0), (1, .int x1), (2, .int x2), (3, .int x3), (4, .int (0 : Int32))] [] D Q)) : xPf (d + 1) m_M_findWays 12 [(0, .ref a0), (1, .int x1), (2, .int x2), (3, .int x3)] [] D Q := by
  refine x_iload_n rfl rfl ?_
  refine x_sipush (v := (625 : Int32)) rfl rfl ?_
  refine x_icmp_ge (tgt := 87) rfl rfl (fun c => ?_) (fun c => ?_)
  · have h := h.1 c
    refine x_iinc (i := 2) (v := x2 + (-1 : Int32)) (L1 := [(2, .int (x2 + (-1 : Int32))), (0, .ref a0), (1, .int x1), (3, .int x3)]) rfl rfl rfl (Nat.le_of_ble_eq_true rfl) rfl ?_
    refine x_goto (tgt := 6) rfl rfl ?_
    exact xP_sub [1, 2, 0] rfl h
  · have h := h.2 c
    refine x_iconst (v := (0 : Int32)) rfl rfl ?_
    refine x_istore (i := 4) (L1 := [(4, .int (0 : Int32)), (0, .ref a0), (1, .int x1), (2, .int x2), (3, .int x3)]) rfl (Nat.le_of_ble_eq_true rfl) rfl ?_
    exact xP_sub [1, 2, 3, 4, 0] rfl h
theorem s_M_findWays_22 {d : Nat} {D : xD} {Q : Option Value → xD → Prop} {a0 : Nat} {x1 : Int32} {x2 : Int32} {x3 : Int32} {x4 : Int32} (k0 : xk a0 = 13) (h : ((D.1 a0 73) ≤ x4 → xPf (d + 1) m_M_findWays 12 [(0, .ref a0), (1, .int x1), (2, .int x2), (3, .int (x3 + (1 : Int32)))] [] D Q) ∧ (¬ (D.1 a0 73) ≤ x4 → xCi d m_M_total [.ref a0, .int x3] D (fun r2 D1 => (¬ r2 = x2 → xPf (d + 1) m_M_findWays 12 [(0, .ref a0), (1, .int x1), (2, .int x2), (3, .int (x3 + (1 : Int32)))] [] D1 Q) ∧ (r2 = x2 → xCi d m_M_canCome [.ref a0, .int x3] D1 (fun r4 D3 => (r4 = 0 → xPf (d + 1) m_M_findWays 12 [(0, .ref a0), (1, .int x1), (2, .int x2), (3, .int (x3 + (1 : Int32)))] [] D3 Q) ∧ (¬ r4 = 0 → vp_in x4 (xl (a0 + 35)) ∧ xCl d m_M_waysOf [.ref a0, .int x3, .int (D3.1 (a0 + 35) (x4 : Int32).toNatClampNeg), .int (x1 - x2)] D3 (fun r6 D5 => vp_in (((35 : Int32) * x3) + x4) (xl (a0 + 37)) ∧ ∀ D7 : xD, D7 = (D5.1, xuL D5.2 (a0 + 37) (((35 : Int32) * x3) + x4 : Int32).toNatClampNeg r6) → xPf (d + 1) m_M_findWays 22 [(0, .ref a0), (1, .int x1), (2, .int x2), (3, .int x3), (4, .int (x4 + (1 : Int32)))] [] D7 Q))))))) : xPf (d + 1) m_M_findWays 22 [(0, .ref a0), (1, .int x1), (2, .int x2), (3, .int x3), (4, .int x4)] [] D Q := by
  refine x_iload rfl rfl ?_
  refine x_aload_n rfl rfl ?_
  refine x_gI lf_M_534 k0 rfl rfl ?_
  refine x_icmp_ge (tgt := 81) rfl rfl (fun c => ?_) (fun c => ?_)
  · have h := h.1 c
    refine x_iinc (i := 3) (v := x3 + (1 : Int32)) (L1 := [(3, .int (x3 + (1 : Int32))), (0, .ref a0), (1, .int x1), (2, .int x2), (4, .int x4)]) rfl rfl rfl (Nat.le_of_ble_eq_true rfl) rfl ?_
    refine x_goto (tgt := 12) rfl rfl ?_
    exact xP_sub [1, 2, 3, 0] rfl h
  · have h := h.2 c
    refine x_aload_n rfl rfl ?_
    refine x_iload_n rfl rfl ?_
    refine x_vi lm_M_537 vf_M_total k0 rfl rfl (Nat.le_of_ble_eq_true rfl) rfl h (fun r2 D1 h => ?_)
    refine x_iload_n rfl rfl ?_
    refine x_icmp_ne (tgt := 81) rfl rfl (fun c => ?_) (fun c => ?_)
    · have h := h.1 c
      refine x_iinc (i := 3) (v := x3 + (1 : Int32)) (L1 := [(3, .int (x3 + (1 : Int32))), (0, .ref a0), (1, .int x1), (2, .int x2), (4, .int x4)]) rfl rfl rfl (Nat.le_of_ble_eq_true rfl) rfl ?_
      refine x_goto (tgt := 12) rfl rfl ?_
      exact xP_sub [1, 2, 3, 0] rfl h
    · have h := h.2 c
      refine x_aload_n rfl rfl ?_
      refine x_iload_n rfl rfl ?_
      refine x_vi lm_M_559 vf_M_canCome k0 rfl rfl (Nat.le_of_ble_eq_true rfl) rfl h (fun r4 D3 h => ?_)
      refine x_if_eq (tgt := 81) rfl rfl (fun c => ?_) (fun c => ?_)
      · have h := h.1 c
        refine x_iinc (i := 3) (v := x3 + (1 : Int32)) (L1 := [(3, .int (x3 + (1 : Int32))), (0, .ref a0), (1, .int x1), (2, .int x2), (4, .int x4)]) rfl rfl rfl (Nat.le_of_ble_eq_true rfl) rfl ?_
        refine x_goto (tgt := 12) rfl rfl ?_
        exact xP_sub [1, 2, 3, 0] rfl h
      · have h := h.2 c
        refine x_aload_n rfl rfl ?_
        refine x_gR lf_M_119 k0 rfl rfl ?_
        refine x_bipush (v := (35 : Int32)) rfl rfl ?_
        refine x_iload_n rfl rfl ?_
        refine x_imul rfl ?_
        refine x_iload rfl rfl ?_
        refine x_iadd rfl ?_
        refine x_aload_n rfl rfl ?_
        refine x_iload_n rfl rfl ?_
        refine x_aload_n rfl rfl ?_
        refine x_gR lf_M_113 k0 rfl rfl ?_
        refine x_iload rfl rfl ?_
        refine x_iald (ck_13_69 k0) (xlt (ck_13_69 k0) (by decide)) h.1 rfl ?_
        have h := h.2
        refine x_iload_n rfl rfl ?_
        refine x_iload_n rfl rfl ?_
        refine x_isub rfl ?_
        refine x_vl lm_M_562 vf_M_waysOf k0 rfl rfl (Nat.le_of_ble_eq_true rfl) rfl h (fun r6 D5 h => ?_)
        refine x_lastn (ck_13_71 k0) h.1 rfl (fun D7 eD7 => ?_)
        have h := h.2 D7 eD7
        refine x_iinc (i := 4) (v := x4 + (1 : Int32)) (L1 := [(4, .int (x4 + (1 : Int32))), (0, .ref a0), (1, .int x1), (2, .int x2), (3, .int x3)]) rfl rfl rfl (Nat.le_of_ble_eq_true rfl) rfl ?_
        refine x_goto (tgt := 22) rfl rfl ?_
        exact xP_sub [1, 2, 3, 4, 0] rfl h
