theorem s_Film_clear_0 {d : Nat} {D : xD} {Q : Option Value → xD → Prop} {a0 : Nat} (k0 : xk a0 = 5) (h : xCv d m_Row_clear [.ref (a0 + 1)] D (fun D1 => xCv d m_Row_clear [.ref (a0 + 3)] D1 (fun D2 => Q none D2))) : xPf (d + 1) m_Film_clear 0 [(0, .ref a0)] [] D Q := by
  refine x_aload_n rfl rfl ?_
  refine x_gR lf_Film_14 k0 rfl rfl ?_
  refine x_vv lm_Film_23 vf_Row_clear (ck_5_0 k0) rfl rfl (Nat.le_of_ble_eq_true rfl) rfl h (fun D1 h => ?_)
  refine x_aload_n rfl rfl ?_
  refine x_gR lf_Film_20 k0 rfl rfl ?_
  refine x_vv lm_Film_23 vf_Row_clear (ck_5_1 k0) rfl rfl (Nat.le_of_ble_eq_true rfl) rfl h (fun D2 h => ?_)
  exact x_vret rfl rfl h
theorem s_Film_copy_0 {d : Nat} {D : xD} {Q : Option Value → xD → Prop} {a0 : Nat} {a1 : Nat} (k0 : xk a0 = 5) (k1 : xk a1 = 5) (h : xCv d m_Row_copy [.ref (a0 + 1), .ref (a1 + 1)] D (fun D1 => xCv d m_Row_copy [.ref (a0 + 3), .ref (a1 + 3)] D1 (fun D2 => Q none D2))) : xPf (d + 1) m_Film_copy 0 [(0, .ref a0), (1, .ref a1)] [] D Q := by
  refine x_aload_n rfl rfl ?_
  refine x_gR lf_Film_14 k0 rfl rfl ?_
  refine x_aload_n rfl rfl ?_
  refine x_gR lf_Film_14 k1 rfl rfl ?_
  refine x_vv lm_Film_26 vf_Row_copy (ck_5_0 k0) rfl rfl (Nat.le_of_ble_eq_true rfl) rfl h (fun D1 h => ?_)
  refine x_aload_n rfl rfl ?_
  refine x_gR lf_Film_20 k0 rfl rfl ?_
  refine x_aload_n rfl rfl ?_
  refine x_gR lf_Film_20 k1 rfl rfl ?_
  refine x_vv lm_Film_26 vf_Row_copy (ck_5_1 k0) rfl rfl (Nat.le_of_ble_eq_true rfl) rfl h (fun D2 h => ?_)
  exact x_vret rfl rfl h
theorem s_Film_isFull_0 {d : Nat} {D : xD} {Q : Option Value → xD → Prop} {a0 : Nat} (k0 : xk a0 = 5) (h : xCi d m_Row_isFull [.ref (a0 + 1)] D (fun r2 D1 => (r2 = 0 ∨ r2 = 1) ∧ Q (some (.int r2)) D1)) : xPf (d + 1) m_Film_isFull 0 [(0, .ref a0)] [] D Q := by
  refine x_aload_n rfl rfl ?_
  refine x_gR lf_Film_14 k0 rfl rfl ?_
  refine x_vi lm_Film_30 vf_Row_isFull (ck_5_0 k0) rfl rfl (Nat.le_of_ble_eq_true rfl) rfl h (fun r2 D1 h => ?_)
  exact x_zr rfl h.1 rfl h.2
theorem s_Film_push_0 {d : Nat} {D : xD} {Q : Option Value → xD → Prop} {a0 : Nat} {x1 : Int32} {x2 : Int32} (k0 : xk a0 = 5) (h : xCv d m_Row_push [.ref (a0 + 1), .int x1] D (fun D1 => xCv d m_Row_push [.ref (a0 + 3), .int x2] D1 (fun D2 => Q none D2))) : xPf (d + 1) m_Film_push 0 [(0, .ref a0), (1, .int x1), (2, .int x2)] [] D Q := by
  refine x_aload_n rfl rfl ?_
  refine x_gR lf_Film_14 k0 rfl rfl ?_
  refine x_iload_n rfl rfl ?_
  refine x_vv lm_Film_34 vf_Row_push (ck_5_0 k0) rfl rfl (Nat.le_of_ble_eq_true rfl) rfl h (fun D1 h => ?_)
  refine x_aload_n rfl rfl ?_
  refine x_gR lf_Film_20 k0 rfl rfl ?_
  refine x_iload_n rfl rfl ?_
  refine x_vv lm_Film_34 vf_Row_push (ck_5_1 k0) rfl rfl (Nat.le_of_ble_eq_true rfl) rfl h (fun D2 h => ?_)
  exact x_vret rfl rfl h
theorem s_Film_frames_0 {d : Nat} {D : xD} {Q : Option Value → xD → Prop} {a0 : Nat} (k0 : xk a0 = 5) (h : xCi d m_Row_size [.ref (a0 + 1)] D (fun r2 D1 => Q (some (.int r2)) D1)) : xPf (d + 1) m_Film_frames 0 [(0, .ref a0)] [] D Q := by
  refine x_aload_n rfl rfl ?_
  refine x_gR lf_Film_14 k0 rfl rfl ?_
  refine x_vi lm_Film_37 vf_Row_size (ck_5_0 k0) rfl rfl (Nat.le_of_ble_eq_true rfl) rfl h (fun r2 D1 h => ?_)
  exact x_iret rfl rfl h
theorem s_Film_tenth_0 {d : Nat} {D : xD} {Q : Option Value → xD → Prop} {a0 : Nat} {x1 : Int32} (k0 : xk a0 = 5) (h : xCi d m_Row_get [.ref (a0 + 1), .int x1] D (fun r2 D1 => Q (some (.int r2)) D1)) : xPf (d + 1) m_Film_tenth 0 [(0, .ref a0), (1, .int x1)] [] D Q := by
  refine x_aload_n rfl rfl ?_
  refine x_gR lf_Film_14 k0 rfl rfl ?_
  refine x_iload_n rfl rfl ?_
  refine x_vi lm_Film_41 vf_Row_get (ck_5_0 k0) rfl rfl (Nat.le_of_ble_eq_true rfl) rfl h (fun r2 D1 h => ?_)
  exact x_iret rfl rfl h
theorem s_Film_who_0 {d : Nat} {D : xD} {Q : Option Value → xD → Prop} {a0 : Nat} {x1 : Int32} (k0 : xk a0 = 5) (h : xCi d m_Row_get [.ref (a0 + 3), .int x1] D (fun r2 D1 => Q (some (.int r2)) D1)) : xPf (d + 1) m_Film_who 0 [(0, .ref a0), (1, .int x1)] [] D Q := by
  refine x_aload_n rfl rfl ?_
  refine x_gR lf_Film_20 k0 rfl rfl ?_
  refine x_iload_n rfl rfl ?_
  refine x_vi lm_Film_41 vf_Row_get (ck_5_1 k0) rfl rfl (Nat.le_of_ble_eq_true rfl) rfl h (fun r2 D1 h => ?_)
  exact x_iret rfl rfl h
theorem s_Film_firstWith_0 {d : Nat} {D : xD} {Q : Option Value → xD → Prop} {a0 : Nat} {x1 : Int32} (k0 : xk a0 = 5) (h : xPf (d + 1) m_Film_firstWith 2 [(0, .ref a0), (1, .int x1), (2, .int (0 : Int32))] [] D Q) : xPf (d + 1) m_Film_firstWith 0 [(0, .ref a0), (1, .int x1)] [] D Q := by
  refine x_iconst (v := (0 : Int32)) rfl rfl ?_
  refine x_istore_n (i := 2) (L1 := [(2, .int (0 : Int32)), (0, .ref a0), (1, .int x1)]) rfl rfl (Nat.le_of_ble_eq_true rfl) rfl ?_
  exact xP_sub [1, 2, 0] rfl h
theorem s_Film_firstWith_2 {d : Nat} {D : xD} {Q : Option Value → xD → Prop} {a0 : Nat} {x1 : Int32} {x2 : Int32} (k0 : xk a0 = 5) (h : xCi d m_Film_frames [.ref a0] D (fun r2 D1 => (r2 ≤ x2 → Q (some (.int (-1 : Int32))) D1) ∧ (¬ r2 ≤ x2 → xCi d m_Film_who [.ref a0, .int x2] D1 (fun r4 D3 => (((r4 >>> (x1 &&& 31)) &&& (1 : Int32)) = 0 → xPf (d + 1) m_Film_firstWith 2 [(0, .ref a0), (1, .int x1), (2, .int (x2 + (1 : Int32)))] [] D3 Q) ∧ (¬ ((r4 >>> (x1 &&& 31)) &&& (1 : Int32)) = 0 → Q (some (.int x2)) D3))))) : xPf (d + 1) m_Film_firstWith 2 [(0, .ref a0), (1, .int x1), (2, .int x2)] [] D Q := by
  refine x_iload_n rfl rfl ?_
  refine x_aload_n rfl rfl ?_
  refine x_vi lm_Film_45 vf_Film_frames k0 rfl rfl (Nat.le_of_ble_eq_true rfl) rfl h (fun r2 D1 h => ?_)
  refine x_icmp_ge (tgt := 30) rfl rfl (fun c => ?_) (fun c => ?_)
  · have h := h.1 c
    refine x_iconst (v := (-1 : Int32)) rfl rfl ?_
    exact x_iret rfl rfl h
  · have h := h.2 c
    refine x_aload_n rfl rfl ?_
    refine x_iload_n rfl rfl ?_
    refine x_vi lm_Film_48 vf_Film_who k0 rfl rfl (Nat.le_of_ble_eq_true rfl) rfl h (fun r4 D3 h => ?_)
    refine x_iload_n rfl rfl ?_
    refine x_ishr rfl ?_
    refine x_iconst (v := (1 : Int32)) rfl rfl ?_
    refine x_iand rfl ?_
    refine x_if_eq (tgt := 24) rfl rfl (fun c => ?_) (fun c => ?_)
    · have h := h.1 c
      refine x_iinc (i := 2) (v := x2 + (1 : Int32)) (L1 := [(2, .int (x2 + (1 : Int32))), (0, .ref a0), (1, .int x1)]) rfl rfl rfl (Nat.le_of_ble_eq_true rfl) rfl ?_
      refine x_goto (tgt := 2) rfl rfl ?_
      exact xP_sub [1, 2, 0] rfl h
    · have h := h.2 c
      refine x_iload_n rfl rfl ?_
      exact x_iret rfl rfl h
theorem s_Film_above_0 {d : Nat} {D : xD} {Q : Option Value → xD → Prop} {a0 : Nat} {x1 : Int32} (k0 : xk a0 = 5) (h : xCi d m_Film_firstWith [.ref a0, .int x1] D (fun r2 D1 => (r2 ≤ 0 → Q (some (.int (-1 : Int32))) D1) ∧ (¬ r2 ≤ 0 → xCi d m_Film_tenth [.ref a0, .int (r2 - (1 : Int32))] D1 (fun r4 D3 => Q (some (.int r4)) D3)))) : xPf (d + 1) m_Film_above 0 [(0, .ref a0), (1, .int x1)] [] D Q := by
  refine x_aload_n rfl rfl ?_
  refine x_iload_n rfl rfl ?_
  refine x_vi lm_Film_51 vf_Film_firstWith k0 rfl rfl (Nat.le_of_ble_eq_true rfl) rfl h (fun r2 D1 h => ?_)
  refine x_istore_n (i := 2) (L1 := [(2, .int r2), (0, .ref a0), (1, .int x1)]) rfl rfl (Nat.le_of_ble_eq_true rfl) rfl ?_
  refine x_iload_n rfl rfl ?_
  refine x_if_le (tgt := 20) rfl rfl (fun c => ?_) (fun c => ?_)
  · have h := h.1 c
    refine x_iconst (v := (-1 : Int32)) rfl rfl ?_
    exact x_iret rfl rfl h
  · have h := h.2 c
    refine x_aload_n rfl rfl ?_
    refine x_iload_n rfl rfl ?_
    refine x_iconst (v := (1 : Int32)) rfl rfl ?_
    refine x_isub rfl ?_
    refine x_vi lm_Film_54 vf_Film_tenth k0 rfl rfl (Nat.le_of_ble_eq_true rfl) rfl h (fun r4 D3 h => ?_)
    refine x_goto (tgt := 21) rfl rfl ?_
    exact x_iret rfl rfl h
theorem s_Film_upTo_0 {d : Nat} {D : xD} {Q : Option Value → xD → Prop} {a0 : Nat} {x1 : Int32} (k0 : xk a0 = 5) (h : xCi d m_Film_firstWith [.ref a0, .int x1] D (fun r2 D1 => xCi d m_Film_tenth [.ref a0, .int r2] D1 (fun r4 D3 => Q (some (.int r4)) D3))) : xPf (d + 1) m_Film_upTo 0 [(0, .ref a0), (1, .int x1)] [] D Q := by
  refine x_aload_n rfl rfl ?_
  refine x_aload_n rfl rfl ?_
  refine x_iload_n rfl rfl ?_
  refine x_vi lm_Film_51 vf_Film_firstWith k0 rfl rfl (Nat.le_of_ble_eq_true rfl) rfl h (fun r2 D1 h => ?_)
  refine x_vi lm_Film_54 vf_Film_tenth k0 rfl rfl (Nat.le_of_ble_eq_true rfl) rfl h (fun r4 D3 h => ?_)
  exact x_iret rfl rfl h
theorem s_Film_answer_0 {d : Nat} {D : xD} {Q : Option Value → xD → Prop} {a0 : Nat} {x1 : Int32} {x2 : Int32} (k0 : xk a0 = 5) (h : (x2 = (0 : Int32) → xCi d m_Film_lies [.ref a0] D (fun r2 D1 => Q (some (.int r2)) D1)) ∧ (x2 = (1 : Int32) → xCi d m_Film_sure [.ref a0, .int x1] D (fun r4 D3 => Q (some (.int r4)) D3)) ∧ (x2 = (2 : Int32) → xCi d m_Film_may [.ref a0, .int x1] D (fun r6 D5 => Q (some (.int r6)) D5)) ∧ (x2 = (3 : Int32) → xCi d m_Film_shorts [.ref a0, .int x1] D (fun r8 D7 => Q (some (.int r8)) D7)) ∧ (((x2).toInt < 0 ∨ 3 < (x2).toInt) → Q (some (.int (-2 : Int32))) D)) : xPf (d + 1) m_Film_answer 0 [(0, .ref a0), (1, .int x1), (2, .int x2)] [] D Q := by
  refine x_iload_n rfl rfl ?_
  rcases Decidable.em ((x2).toInt < 0 ∨ 3 < (x2).toInt) with q | q
  · refine x_tableOut (tgt := 55) rfl q rfl ?_
    have h := h.2.2.2.2 q
    refine x_bipush (v := (-2 : Int32)) rfl rfl ?_
    exact x_iret rfl rfl h
  · have q : (x2).toInt = 0 ∨ (x2).toInt = 1 ∨ (x2).toInt = 2 ∨ (x2).toInt = 3 := by omega
    rcases q with q | q | q | q
    · have q : x2 = (0 : Int32) := Int32.toInt_inj.mp q
      refine x_tabK (k := (0 : Int32)) (tgt := 32) q rfl (by decide) (by decide) rfl rfl ?_
      have h := h.1 q
      refine x_aload_n rfl rfl ?_
      refine x_vi lm_Film_57 vf_Film_lies k0 rfl rfl (Nat.le_of_ble_eq_true rfl) rfl h (fun r2 D1 h => ?_)
      exact x_iret rfl rfl h
    · have q : x2 = (1 : Int32) := Int32.toInt_inj.mp q
      refine x_tabK (k := (1 : Int32)) (tgt := 37) q rfl (by decide) (by decide) rfl rfl ?_
      have h := h.2.1 q
      refine x_aload_n rfl rfl ?_
      refine x_iload_n rfl rfl ?_
      refine x_vi lm_Film_60 vf_Film_sure k0 rfl rfl (Nat.le_of_ble_eq_true rfl) rfl h (fun r4 D3 h => ?_)
      exact x_iret rfl rfl h
    · have q : x2 = (2 : Int32) := Int32.toInt_inj.mp q
      refine x_tabK (k := (2 : Int32)) (tgt := 43) q rfl (by decide) (by decide) rfl rfl ?_
      have h := h.2.2.1 q
      refine x_aload_n rfl rfl ?_
      refine x_iload_n rfl rfl ?_
      refine x_vi lm_Film_63 vf_Film_may k0 rfl rfl (Nat.le_of_ble_eq_true rfl) rfl h (fun r6 D5 h => ?_)
      exact x_iret rfl rfl h
    · have q : x2 = (3 : Int32) := Int32.toInt_inj.mp q
      refine x_tabK (k := (3 : Int32)) (tgt := 49) q rfl (by decide) (by decide) rfl rfl ?_
      have h := h.2.2.2.1 q
      refine x_aload_n rfl rfl ?_
      refine x_iload_n rfl rfl ?_
      refine x_vi lm_Film_66 vf_Film_shorts k0 rfl rfl (Nat.le_of_ble_eq_true rfl) rfl h (fun r8 D7 h => ?_)
      exact x_iret rfl rfl h
theorem s_Film_lies_0 {d : Nat} {D : xD} {Q : Option Value → xD → Prop} {a0 : Nat} (k0 : xk a0 = 5) (h : xPf (d + 1) m_Film_lies 4 [(0, .ref a0), (1, .int (0 : Int32)), (2, .int (1 : Int32))] [] D Q) : xPf (d + 1) m_Film_lies 0 [(0, .ref a0)] [] D Q := by
  refine x_iconst (v := (0 : Int32)) rfl rfl ?_
  refine x_istore_n (i := 1) (L1 := [(1, .int (0 : Int32)), (0, .ref a0)]) rfl rfl (Nat.le_of_ble_eq_true rfl) rfl ?_
  refine x_iconst (v := (1 : Int32)) rfl rfl ?_
  refine x_istore_n (i := 2) (L1 := [(2, .int (1 : Int32)), (1, .int (0 : Int32)), (0, .ref a0)]) rfl rfl (Nat.le_of_ble_eq_true rfl) rfl ?_
  exact xP_sub [2, 1, 0] rfl h
theorem s_Film_lies_4 {d : Nat} {D : xD} {Q : Option Value → xD → Prop} {a0 : Nat} {x1 : Int32} {x2 : Int32} (k0 : xk a0 = 5) (h : xCi d m_Film_frames [.ref a0] D (fun r2 D1 => (r2 ≤ x2 → Q (some (.int x1)) D1) ∧ (¬ r2 ≤ x2 → xCi d m_Film_who [.ref a0, .int (x2 - (1 : Int32))] D1 (fun r4 D3 => xCi d m_Film_who [.ref a0, .int x2] D3 (fun r6 D5 => ((r4 &&& (r6 ^^^ (-1 : Int32))) = 0 → xPf (d + 1) m_Film_lies 4 [(0, .ref a0), (1, .int x1), (2, .int (x2 + (1 : Int32)))] [] D5 Q) ∧ (¬ (r4 &&& (r6 ^^^ (-1 : Int32))) = 0 → xPf (d + 1) m_Film_lies 4 [(0, .ref a0), (1, .int (x1 ||| ((1 : Int32) <<< (x2 &&& 31)))), (2, .int (x2 + (1 : Int32)))] [] D5 Q)))))) : xPf (d + 1) m_Film_lies 4 [(0, .ref a0), (1, .int x1), (2, .int x2)] [] D Q := by
  refine x_iload_n rfl rfl ?_
  refine x_aload_n rfl rfl ?_
  refine x_vi lm_Film_45 vf_Film_frames k0 rfl rfl (Nat.le_of_ble_eq_true rfl) rfl h (fun r2 D1 h => ?_)
  refine x_icmp_ge (tgt := 42) rfl rfl (fun c => ?_) (fun c => ?_)
  · have h := h.1 c
    refine x_iload_n rfl rfl ?_
    exact x_iret rfl rfl h
  · have h := h.2 c
    refine x_aload_n rfl rfl ?_
    refine x_iload_n rfl rfl ?_
    refine x_iconst (v := (1 : Int32)) rfl rfl ?_
    refine x_isub rfl ?_
    refine x_vi lm_Film_48 vf_Film_who k0 rfl rfl (Nat.le_of_ble_eq_true rfl) rfl h (fun r4 D3 h => ?_)
    refine x_aload_n rfl rfl ?_
    refine x_iload_n rfl rfl ?_
    refine x_vi lm_Film_48 vf_Film_who k0 rfl rfl (Nat.le_of_ble_eq_true rfl) rfl h (fun r6 D5 h => ?_)
    refine x_iconst (v := (-1 : Int32)) rfl rfl ?_
    refine x_ixor rfl ?_
    refine x_iand rfl ?_
    refine x_if_eq (tgt := 36) rfl rfl (fun c => ?_) (fun c => ?_)
    · have h := h.1 c
      refine x_iinc (i := 2) (v := x2 + (1 : Int32)) (L1 := [(2, .int (x2 + (1 : Int32))), (0, .ref a0), (1, .int x1)]) rfl rfl rfl (Nat.le_of_ble_eq_true rfl) rfl ?_
      refine x_goto (tgt := 4) rfl rfl ?_
      exact xP_sub [1, 2, 0] rfl h
    · have h := h.2 c
      refine x_iload_n rfl rfl ?_
      refine x_iconst (v := (1 : Int32)) rfl rfl ?_
      refine x_iload_n rfl rfl ?_
      refine x_ishl rfl ?_
      refine x_ior rfl ?_
      refine x_istore_n (i := 1) (L1 := [(1, .int (x1 ||| ((1 : Int32) <<< (x2 &&& 31)))), (0, .ref a0), (2, .int x2)]) rfl rfl (Nat.le_of_ble_eq_true rfl) rfl ?_
      refine x_iinc (i := 2) (v := x2 + (1 : Int32)) (L1 := [(2, .int (x2 + (1 : Int32))), (1, .int (x1 ||| ((1 : Int32) <<< (x2 &&& 31)))), (0, .ref a0)]) rfl rfl rfl (Nat.le_of_ble_eq_true rfl) rfl ?_
      refine x_goto (tgt := 4) rfl rfl ?_
      exact xP_sub [2, 1, 0] rfl h
theorem s_Film_sure_0 {d : Nat} {D : xD} {Q : Option Value → xD → Prop} {a0 : Nat} {x1 : Int32} (k0 : xk a0 = 5) (h : xPf (d + 1) m_Film_sure 2 [(0, .ref a0), (1, .int x1), (2, .int (0 : Int32))] [] D Q) : xPf (d + 1) m_Film_sure 0 [(0, .ref a0), (1, .int x1)] [] D Q := by
  refine x_iconst (v := (0 : Int32)) rfl rfl ?_
  refine x_istore_n (i := 2) (L1 := [(2, .int (0 : Int32)), (0, .ref a0), (1, .int x1)]) rfl rfl (Nat.le_of_ble_eq_true rfl) rfl ?_
  exact xP_sub [1, 2, 0] rfl h
theorem s_Film_sure_2 {d : Nat} {D : xD} {Q : Option Value → xD → Prop} {a0 : Nat} {x1 : Int32} {x2 : Int32} (k0 : xk a0 = 5) (h : (x1 ≤ x2 → Q (some (.int (-1 : Int32))) D) ∧ (¬ x1 ≤ x2 → xCi d m_Film_firstWith [.ref a0, .int x2] D (fun r2 D1 => (r2 = (-1 : Int32) → xPf (d + 1) m_Film_sure 2 [(0, .ref a0), (1, .int x1), (2, .int (x2 + (1 : Int32)))] [] D1 Q) ∧ (¬ r2 = (-1 : Int32) → xCi d m_Film_leastOfOthers [.ref a0, .int x1, .int x2, .int (0 : Int32)] D1 (fun r4 D3 => xCi d m_Film_upTo [.ref a0, .int x2] D3 (fun r6 D5 => (r4 ≤ r6 → xPf (d + 1) m_Film_sure 2 [(0, .ref a0), (1, .int x1), (2, .int (x2 + (1 : Int32)))] [] D5 Q) ∧ (¬ r4 ≤ r6 → Q (some (.int x2)) D5))))))) : xPf (d + 1) m_Film_sure 2 [(0, .ref a0), (1, .int x1), (2, .int x2)] [] D Q := by
  refine x_iload_n rfl rfl ?_
  refine x_iload_n rfl rfl ?_
  refine x_icmp_ge (tgt := 39) rfl rfl (fun c => ?_) (fun c => ?_)
  · have h := h.1 c
    refine x_iconst (v := (-1 : Int32)) rfl rfl ?_
    exact x_iret rfl rfl h
  · have h := h.2 c
    refine x_aload_n rfl rfl ?_
    refine x_iload_n rfl rfl ?_
    refine x_vi lm_Film_51 vf_Film_firstWith k0 rfl rfl (Nat.le_of_ble_eq_true rfl) rfl h (fun r2 D1 h => ?_)
    refine x_iconst (v := (-1 : Int32)) rfl rfl ?_
    refine x_icmp_eq (tgt := 33) rfl rfl (fun c => ?_) (fun c => ?_)
    · have h := h.1 c
      refine x_iinc (i := 2) (v := x2 + (1 : Int32)) (L1 := [(2, .int (x2 + (1 : Int32))), (0, .ref a0), (1, .int x1)]) rfl rfl rfl (Nat.le_of_ble_eq_true rfl) rfl ?_
      refine x_goto (tgt := 2) rfl rfl ?_
      exact xP_sub [1, 2, 0] rfl h
    · have h := h.2 c
      refine x_aload_n rfl rfl ?_
      refine x_iload_n rfl rfl ?_
      refine x_iload_n rfl rfl ?_
      refine x_iconst (v := (0 : Int32)) rfl rfl ?_
      refine x_vi lm_Film_69 vf_Film_leastOfOthers k0 rfl rfl (Nat.le_of_ble_eq_true rfl) rfl h (fun r4 D3 h => ?_)
      refine x_aload_n rfl rfl ?_
      refine x_iload_n rfl rfl ?_
      refine x_vi lm_Film_73 vf_Film_upTo k0 rfl rfl (Nat.le_of_ble_eq_true rfl) rfl h (fun r6 D5 h => ?_)
      refine x_icmp_le (tgt := 33) rfl rfl (fun c => ?_) (fun c => ?_)
      · have h := h.1 c
        refine x_iinc (i := 2) (v := x2 + (1 : Int32)) (L1 := [(2, .int (x2 + (1 : Int32))), (0, .ref a0), (1, .int x1)]) rfl rfl rfl (Nat.le_of_ble_eq_true rfl) rfl ?_
        refine x_goto (tgt := 2) rfl rfl ?_
        exact xP_sub [1, 2, 0] rfl h
      · have h := h.2 c
        refine x_iload_n rfl rfl ?_
        exact x_iret rfl rfl h
theorem s_Film_may_0 {d : Nat} {D : xD} {Q : Option Value → xD → Prop} {a0 : Nat} {x1 : Int32} (k0 : xk a0 = 5) (h : xPf (d + 1) m_Film_may 4 [(0, .ref a0), (1, .int x1), (2, .int (0 : Int32)), (3, .int (0 : Int32))] [] D Q) : xPf (d + 1) m_Film_may 0 [(0, .ref a0), (1, .int x1)] [] D Q := by
  refine x_iconst (v := (0 : Int32)) rfl rfl ?_
  refine x_istore_n (i := 2) (L1 := [(2, .int (0 : Int32)), (0, .ref a0), (1, .int x1)]) rfl rfl (Nat.le_of_ble_eq_true rfl) rfl ?_
  refine x_iconst (v := (0 : Int32)) rfl rfl ?_
  refine x_istore_n (i := 3) (L1 := [(3, .int (0 : Int32)), (2, .int (0 : Int32)), (0, .ref a0), (1, .int x1)]) rfl rfl (Nat.le_of_ble_eq_true rfl) rfl ?_
  exact xP_sub [2, 3, 1, 0] rfl h
theorem s_Film_may_4 {d : Nat} {D : xD} {Q : Option Value → xD → Prop} {a0 : Nat} {x1 : Int32} {x2 : Int32} {x3 : Int32} (k0 : xk a0 = 5) (h : (x1 ≤ x3 → Q (some (.int x2)) D) ∧ (¬ x1 ≤ x3 → xCi d m_Film_firstWith [.ref a0, .int x3] D (fun r2 D1 => (r2 = (-1 : Int32) → xPf (d + 1) m_Film_may 4 [(0, .ref a0), (1, .int x1), (2, .int x2), (3, .int (x3 + (1 : Int32)))] [] D1 Q) ∧ (¬ r2 = (-1 : Int32) → xCi d m_Film_leastOfOthers [.ref a0, .int x1, .int x3, .int (1 : Int32)] D1 (fun r4 D3 => xCi d m_Film_above [.ref a0, .int x3] D3 (fun r6 D5 => (r4 ≤ r6 → xPf (d + 1) m_Film_may 4 [(0, .ref a0), (1, .int x1), (2, .int x2), (3, .int (x3 + (1 : Int32)))] [] D5 Q) ∧ (¬ r4 ≤ r6 → xPf (d + 1) m_Film_may 4 [(0, .ref a0), (1, .int x1), (2, .int (x2 ||| ((1 : Int32) <<< (x3 &&& 31)))), (3, .int (x3 + (1 : Int32)))] [] D5 Q))))))) : xPf (d + 1) m_Film_may 4 [(0, .ref a0), (1, .int x1), (2, .int x2), (3, .int x3)] [] D Q := by
  refine x_iload_n rfl rfl ?_
  refine x_iload_n rfl rfl ?_
  refine x_icmp_ge (tgt := 45) rfl rfl (fun c => ?_) (fun c => ?_)
  · have h := h.1 c
    refine x_iload_n rfl rfl ?_
    exact x_iret rfl rfl h
  · have h := h.2 c
    refine x_aload_n rfl rfl ?_
    refine x_iload_n rfl rfl ?_
    refine x_vi lm_Film_51 vf_Film_firstWith k0 rfl rfl (Nat.le_of_ble_eq_true rfl) rfl h (fun r2 D1 h => ?_)
    refine x_iconst (v := (-1 : Int32)) rfl rfl ?_
    refine x_icmp_eq (tgt := 39) rfl rfl (fun c => ?_) (fun c => ?_)
    · have h := h.1 c
      refine x_iinc (i := 3) (v := x3 + (1 : Int32)) (L1 := [(3, .int (x3 + (1 : Int32))), (0, .ref a0), (1, .int x1), (2, .int x2)]) rfl rfl rfl (Nat.le_of_ble_eq_true rfl) rfl ?_
      refine x_goto (tgt := 4) rfl rfl ?_
      exact xP_sub [1, 2, 3, 0] rfl h
    · have h := h.2 c
      refine x_aload_n rfl rfl ?_
      refine x_iload_n rfl rfl ?_
      refine x_iload_n rfl rfl ?_
      refine x_iconst (v := (1 : Int32)) rfl rfl ?_
      refine x_vi lm_Film_69 vf_Film_leastOfOthers k0 rfl rfl (Nat.le_of_ble_eq_true rfl) rfl h (fun r4 D3 h => ?_)
      refine x_aload_n rfl rfl ?_
      refine x_iload_n rfl rfl ?_
      refine x_vi lm_Film_76 vf_Film_above k0 rfl rfl (Nat.le_of_ble_eq_true rfl) rfl h (fun r6 D5 h => ?_)
      refine x_icmp_le (tgt := 39) rfl rfl (fun c => ?_) (fun c => ?_)
      · have h := h.1 c
        refine x_iinc (i := 3) (v := x3 + (1 : Int32)) (L1 := [(3, .int (x3 + (1 : Int32))), (0, .ref a0), (1, .int x1), (2, .int x2)]) rfl rfl rfl (Nat.le_of_ble_eq_true rfl) rfl ?_
        refine x_goto (tgt := 4) rfl rfl ?_
        exact xP_sub [1, 2, 3, 0] rfl h
      · have h := h.2 c
        refine x_iload_n rfl rfl ?_
        refine x_iconst (v := (1 : Int32)) rfl rfl ?_
        refine x_iload_n rfl rfl ?_
        refine x_ishl rfl ?_
        refine x_ior rfl ?_
        refine x_istore_n (i := 2) (L1 := [(2, .int (x2 ||| ((1 : Int32) <<< (x3 &&& 31)))), (0, .ref a0), (1, .int x1), (3, .int x3)]) rfl rfl (Nat.le_of_ble_eq_true rfl) rfl ?_
        refine x_iinc (i := 3) (v := x3 + (1 : Int32)) (L1 := [(3, .int (x3 + (1 : Int32))), (2, .int (x2 ||| ((1 : Int32) <<< (x3 &&& 31)))), (0, .ref a0), (1, .int x1)]) rfl rfl rfl (Nat.le_of_ble_eq_true rfl) rfl ?_
        refine x_goto (tgt := 4) rfl rfl ?_
        exact xP_sub [2, 3, 1, 0] rfl h
theorem s_Film_leastOfOthers_0 {d : Nat} {D : xD} {Q : Option Value → xD → Prop} {a0 : Nat} {x1 : Int32} {x2 : Int32} {x3 : Int32} (k0 : xk a0 = 5) (h : xPf (d + 1) m_Film_leastOfOthers 7 [(0, .ref a0), (1, .int x1), (2, .int x2), (3, .int x3), (4, .int (100 : Int32)), (5, .int (0 : Int32))] [] D Q) : xPf (d + 1) m_Film_leastOfOthers 0 [(0, .ref a0), (1, .int x1), (2, .int x2), (3, .int x3)] [] D Q := by
  refine x_bipush (v := (100 : Int32)) rfl rfl ?_
  refine x_istore (i := 4) (L1 := [(4, .int (100 : Int32)), (0, .ref a0), (1, .int x1), (2, .int x2), (3, .int x3)]) rfl (Nat.le_of_ble_eq_true rfl) rfl ?_
  refine x_iconst (v := (0 : Int32)) rfl rfl ?_
  refine x_istore (i := 5) (L1 := [(5, .int (0 : Int32)), (4, .int (100 : Int32)), (0, .ref a0), (1, .int x1), (2, .int x2), (3, .int x3)]) rfl (Nat.le_of_ble_eq_true rfl) rfl ?_
  exact xP_sub [2, 3, 4, 5, 1, 0] rfl h
theorem s_Film_leastOfOthers_7 {d : Nat} {D : xD} {Q : Option Value → xD → Prop} {a0 : Nat} {x1 : Int32} {x2 : Int32} {x3 : Int32} {x4 : Int32} {x5 : Int32} (k0 : xk a0 = 5) (h : (x1 ≤ x5 → Q (some (.int x4)) D) ∧ (¬ x1 ≤ x5 → (x5 = x2 → xPf (d + 1) m_Film_leastOfOthers 7 [(0, .ref a0), (1, .int x1), (2, .int x2), (3, .int x3), (4, .int x4), (5, .int (x5 + (1 : Int32)))] [] D Q) ∧ (¬ x5 = x2 → xCi d m_Film_firstWith [.ref a0, .int x5] D (fun r2 D1 => (r2 = (-1 : Int32) → xPf (d + 1) m_Film_leastOfOthers 7 [(0, .ref a0), (1, .int x1), (2, .int x2), (3, .int x3), (4, .int x4), (5, .int (x5 + (1 : Int32)))] [] D1 Q) ∧ (¬ r2 = (-1 : Int32) → (x3 = 0 → xCi d m_Film_above [.ref a0, .int x5] D1 (fun r4 D3 => ∀ r5 : Int32, r5 = (if (r4 + (1 : Int32)) < x4 then (r4 + (1 : Int32)) else x4) → xPf (d + 1) m_Film_leastOfOthers 7 [(0, .ref a0), (1, .int x1), (2, .int x2), (3, .int x3), (4, .int r5), (5, .int (x5 + (1 : Int32)))] [] D3 Q)) ∧ (¬ x3 = 0 → xCi d m_Film_upTo [.ref a0, .int x5] D1 (fun r7 D6 => ∀ r8 : Int32, r8 = (if r7 < x4 then r7 else x4) → xPf (d + 1) m_Film_leastOfOthers 7 [(0, .ref a0), (1, .int x1), (2, .int x2), (3, .int x3), (4, .int r8), (5, .int (x5 + (1 : Int32)))] [] D6 Q))))))) : xPf (d + 1) m_Film_leastOfOthers 7 [(0, .ref a0), (1, .int x1), (2, .int x2), (3, .int x3), (4, .int x4), (5, .int x5)] [] D Q := by
  refine x_iload rfl rfl ?_
  refine x_iload_n rfl rfl ?_
  refine x_icmp_ge (tgt := 63) rfl rfl (fun c => ?_) (fun c => ?_)
  · have h := h.1 c
    refine x_iload rfl rfl ?_
    exact x_iret rfl rfl h
  · have h := h.2 c
    refine x_iload rfl rfl ?_
    refine x_iload_n rfl rfl ?_
    refine x_icmp_eq (tgt := 57) rfl rfl (fun c => ?_) (fun c => ?_)
    · have h := h.1 c
      refine x_iinc (i := 5) (v := x5 + (1 : Int32)) (L1 := [(5, .int (x5 + (1 : Int32))), (0, .ref a0), (1, .int x1), (2, .int x2), (3, .int x3), (4, .int x4)]) rfl rfl rfl (Nat.le_of_ble_eq_true rfl) rfl ?_
      refine x_goto (tgt := 7) rfl rfl ?_
      exact xP_sub [1, 2, 3, 4, 5, 0] rfl h
    · have h := h.2 c
      refine x_aload_n rfl rfl ?_
      refine x_iload rfl rfl ?_
      refine x_vi lm_Film_51 vf_Film_firstWith k0 rfl rfl (Nat.le_of_ble_eq_true rfl) rfl h (fun r2 D1 h => ?_)
      refine x_iconst (v := (-1 : Int32)) rfl rfl ?_
      refine x_icmp_eq (tgt := 57) rfl rfl (fun c => ?_) (fun c => ?_)
      · have h := h.1 c
        refine x_iinc (i := 5) (v := x5 + (1 : Int32)) (L1 := [(5, .int (x5 + (1 : Int32))), (0, .ref a0), (1, .int x1), (2, .int x2), (3, .int x3), (4, .int x4)]) rfl rfl rfl (Nat.le_of_ble_eq_true rfl) rfl ?_
        refine x_goto (tgt := 7) rfl rfl ?_
        exact xP_sub [1, 2, 3, 4, 5, 0] rfl h
      · have h := h.2 c
        refine x_iload rfl rfl ?_
        refine x_iload_n rfl rfl ?_
        refine x_if_eq (tgt := 44) rfl rfl (fun c => ?_) (fun c => ?_)
        · have h := h.1 c
          refine x_aload_n rfl rfl ?_
          refine x_iload rfl rfl ?_
          refine x_vi lm_Film_76 vf_Film_above k0 rfl rfl (Nat.le_of_ble_eq_true rfl) rfl h (fun r4 D3 h => ?_)
          refine x_iconst (v := (1 : Int32)) rfl rfl ?_
          refine x_iadd rfl ?_
          refine x_mnn wd_1464 (Nat.le_of_ble_eq_true rfl) rfl (fun r5 er5 => ?_)
          have h := h r5 er5
          refine x_istore (i := 4) (L1 := [(4, .int r5), (0, .ref a0), (1, .int x1), (2, .int x2), (3, .int x3), (5, .int x5)]) rfl (Nat.le_of_ble_eq_true rfl) rfl ?_
          refine x_iinc (i := 5) (v := x5 + (1 : Int32)) (L1 := [(5, .int (x5 + (1 : Int32))), (4, .int r5), (0, .ref a0), (1, .int x1), (2, .int x2), (3, .int x3)]) rfl rfl rfl (Nat.le_of_ble_eq_true rfl) rfl ?_
          refine x_goto (tgt := 7) rfl rfl ?_
          exact xP_sub [2, 3, 4, 5, 1, 0] rfl h
        · have h := h.2 c
          refine x_aload_n rfl rfl ?_
          refine x_iload rfl rfl ?_
          refine x_vi lm_Film_73 vf_Film_upTo k0 rfl rfl (Nat.le_of_ble_eq_true rfl) rfl h (fun r7 D6 h => ?_)
          refine x_goto (tgt := 52) rfl rfl ?_
          refine x_mnn wd_1464 (Nat.le_of_ble_eq_true rfl) rfl (fun r8 er8 => ?_)
          have h := h r8 er8
          refine x_istore (i := 4) (L1 := [(4, .int r8), (0, .ref a0), (1, .int x1), (2, .int x2), (3, .int x3), (5, .int x5)]) rfl (Nat.le_of_ble_eq_true rfl) rfl ?_
          refine x_iinc (i := 5) (v := x5 + (1 : Int32)) (L1 := [(5, .int (x5 + (1 : Int32))), (4, .int r8), (0, .ref a0), (1, .int x1), (2, .int x2), (3, .int x3)]) rfl rfl rfl (Nat.le_of_ble_eq_true rfl) rfl ?_
          refine x_goto (tgt := 7) rfl rfl ?_
          exact xP_sub [2, 3, 4, 5, 1, 0] rfl h
theorem s_Film_shorts_0 {d : Nat} {D : xD} {Q : Option Value → xD → Prop} {a0 : Nat} {x1 : Int32} (k0 : xk a0 = 5) (h : xPf (d + 1) m_Film_shorts 11 [(0, .ref a0), (1, .int x1), (2, .int (((1 : Int32) <<< (x1 &&& 31)) - (1 : Int32))), (3, .int (0 : Int32)), (4, .int (0 : Int32))] [] D Q) : xPf (d + 1) m_Film_shorts 0 [(0, .ref a0), (1, .int x1)] [] D Q := by
  refine x_iconst (v := (1 : Int32)) rfl rfl ?_
  refine x_iload_n rfl rfl ?_
  refine x_ishl rfl ?_
  refine x_iconst (v := (1 : Int32)) rfl rfl ?_
  refine x_isub rfl ?_
  refine x_istore_n (i := 2) (L1 := [(2, .int (((1 : Int32) <<< (x1 &&& 31)) - (1 : Int32))), (0, .ref a0), (1, .int x1)]) rfl rfl (Nat.le_of_ble_eq_true rfl) rfl ?_
  refine x_iconst (v := (0 : Int32)) rfl rfl ?_
  refine x_istore_n (i := 3) (L1 := [(3, .int (0 : Int32)), (2, .int (((1 : Int32) <<< (x1 &&& 31)) - (1 : Int32))), (0, .ref a0), (1, .int x1)]) rfl rfl (Nat.le_of_ble_eq_true rfl) rfl ?_
  refine x_iconst (v := (0 : Int32)) rfl rfl ?_
  refine x_istore (i := 4) (L1 := [(4, .int (0 : Int32)), (3, .int (0 : Int32)), (2, .int (((1 : Int32) <<< (x1 &&& 31)) - (1 : Int32))), (0, .ref a0), (1, .int x1)]) rfl (Nat.le_of_ble_eq_true rfl) rfl ?_
  exact xP_sub [3, 4, 2, 1, 0] rfl h
theorem s_Film_shorts_11 {d : Nat} {D : xD} {Q : Option Value → xD → Prop} {a0 : Nat} {x1 : Int32} {x2 : Int32} {x3 : Int32} {x4 : Int32} (k0 : xk a0 = 5) (h : xCi d m_Film_frames [.ref a0] D (fun r2 D1 => (r2 ≤ x4 → Q (some (.int x3)) D1) ∧ (¬ r2 ≤ x4 → xCi d m_Film_who [.ref a0, .int x4] D1 (fun r4 D3 => (¬ (r4 &&& x2) = x2 → xPf (d + 1) m_Film_shorts 11 [(0, .ref a0), (1, .int x1), (2, .int x2), (3, .int (x3 + (0 : Int32))), (4, .int (x4 + (1 : Int32)))] [] D3 Q) ∧ ((r4 &&& x2) = x2 → xPf (d + 1) m_Film_shorts 11 [(0, .ref a0), (1, .int x1), (2, .int x2), (3, .int (x3 + (1 : Int32))), (4, .int (x4 + (1 : Int32)))] [] D3 Q))))) : xPf (d + 1) m_Film_shorts 11 [(0, .ref a0), (1, .int x1), (2, .int x2), (3, .int x3), (4, .int x4)] [] D Q := by
  refine x_iload rfl rfl ?_
  refine x_aload_n rfl rfl ?_
  refine x_vi lm_Film_45 vf_Film_frames k0 rfl rfl (Nat.le_of_ble_eq_true rfl) rfl h (fun r2 D1 h => ?_)
  refine x_icmp_ge (tgt := 46) rfl rfl (fun c => ?_) (fun c => ?_)
  · have h := h.1 c
    refine x_iload_n rfl rfl ?_
    exact x_iret rfl rfl h
  · have h := h.2 c
    refine x_iload_n rfl rfl ?_
    refine x_aload_n rfl rfl ?_
    refine x_iload rfl rfl ?_
    refine x_vi lm_Film_48 vf_Film_who k0 rfl rfl (Nat.le_of_ble_eq_true rfl) rfl h (fun r4 D3 h => ?_)
    refine x_iload_n rfl rfl ?_
    refine x_iand rfl ?_
    refine x_iload_n rfl rfl ?_
    refine x_icmp_ne (tgt := 37) rfl rfl (fun c => ?_) (fun c => ?_)
    · have h := h.1 c
      refine x_iconst (v := (0 : Int32)) rfl rfl ?_
      refine x_iadd rfl ?_
      refine x_istore_n (i := 3) (L1 := [(3, .int (x3 + (0 : Int32))), (0, .ref a0), (1, .int x1), (2, .int x2), (4, .int x4)]) rfl rfl (Nat.le_of_ble_eq_true rfl) rfl ?_
      refine x_iinc (i := 4) (v := x4 + (1 : Int32)) (L1 := [(4, .int (x4 + (1 : Int32))), (3, .int (x3 + (0 : Int32))), (0, .ref a0), (1, .int x1), (2, .int x2)]) rfl rfl rfl (Nat.le_of_ble_eq_true rfl) rfl ?_
      refine x_goto (tgt := 11) rfl rfl ?_
      exact xP_sub [2, 3, 4, 1, 0] rfl h
    · have h := h.2 c
      refine x_iconst (v := (1 : Int32)) rfl rfl ?_
      refine x_goto (tgt := 38) rfl rfl ?_
      refine x_iadd rfl ?_
      refine x_istore_n (i := 3) (L1 := [(3, .int (x3 + (1 : Int32))), (0, .ref a0), (1, .int x1), (2, .int x2), (4, .int x4)]) rfl rfl (Nat.le_of_ble_eq_true rfl) rfl ?_
      refine x_iinc (i := 4) (v := x4 + (1 : Int32)) (L1 := [(4, .int (x4 + (1 : Int32))), (3, .int (x3 + (1 : Int32))), (0, .ref a0), (1, .int x1), (2, .int x2)]) rfl rfl rfl (Nat.le_of_ble_eq_true rfl) rfl ?_
      refine x_goto (tgt := 11) rfl rfl ?_
      exact xP_sub [2, 3, 4, 1, 0] rfl h
theorem s_Film_likelyFirst_0 {d : Nat} {D : xD} {Q : Option Value → xD → Prop} {a0 : Nat} {x1 : Int32} {x2 : Int32} {x3 : Int32} (k0 : xk a0 = 5) (h : xCi d m_Film_upTo [.ref a0, .int x2] D (fun r2 D1 => xCi d m_Film_above [.ref a0, .int x2] D1 (fun r4 D3 => xCi d m_Film_above [.ref a0, .int x2] D3 (fun r6 D5 => xPf (d + 1) m_Film_likelyFirst 26 [(0, .ref a0), (1, .int x1), (2, .int x2), (3, .int x3), (4, .long ((r2 - r4).toInt64)), (6, .long (0 : Int64)), (8, .int (r6 + (1 : Int32)))] [] D5 Q)))) : xPf (d + 1) m_Film_likelyFirst 0 [(0, .ref a0), (1, .int x1), (2, .int x2), (3, .int x3)] [] D Q := by
  refine x_aload_n rfl rfl ?_
  refine x_iload_n rfl rfl ?_
  refine x_vi lm_Film_73 vf_Film_upTo k0 rfl rfl (Nat.le_of_ble_eq_true rfl) rfl h (fun r2 D1 h => ?_)
  refine x_aload_n rfl rfl ?_
  refine x_iload_n rfl rfl ?_
  refine x_vi lm_Film_76 vf_Film_above k0 rfl rfl (Nat.le_of_ble_eq_true rfl) rfl h (fun r4 D3 h => ?_)
  refine x_isub rfl ?_
  refine x_i2l rfl ?_
  refine x_lstore (i := 4) (L1 := [(4, .long ((r2 - r4).toInt64)), (0, .ref a0), (1, .int x1), (2, .int x2), (3, .int x3)]) rfl (Nat.le_of_ble_eq_true rfl) rfl ?_
  refine x_lconst (v := 0) rfl rfl ?_
  refine x_lstore (i := 6) (L1 := [(6, .long (0 : Int64)), (4, .long ((r2 - r4).toInt64)), (0, .ref a0), (1, .int x1), (2, .int x2), (3, .int x3)]) rfl (Nat.le_of_ble_eq_true rfl) rfl ?_
  refine x_aload_n rfl rfl ?_
  refine x_iload_n rfl rfl ?_
  refine x_vi lm_Film_76 vf_Film_above k0 rfl rfl (Nat.le_of_ble_eq_true rfl) rfl h (fun r6 D5 h => ?_)
  refine x_iconst (v := (1 : Int32)) rfl rfl ?_
  refine x_iadd rfl ?_
  refine x_istore (i := 8) (L1 := [(8, .int (r6 + (1 : Int32))), (6, .long (0 : Int64)), (4, .long ((r2 - r4).toInt64)), (0, .ref a0), (1, .int x1), (2, .int x2), (3, .int x3)]) rfl (Nat.le_of_ble_eq_true rfl) rfl ?_
  exact xP_sub [3, 4, 5, 6, 2, 1, 0] rfl h
theorem s_Film_likelyFirst_26 {d : Nat} {D : xD} {Q : Option Value → xD → Prop} {a0 : Nat} {x1 : Int32} {x2 : Int32} {x3 : Int32} {x4 : Int64} {x6 : Int64} {x8 : Int32} (k0 : xk a0 = 5) (h : xCi d m_Film_upTo [.ref a0, .int x2] D (fun r2 D1 => (r2 < x8 → xCl d m_Film_waysOfOthers [.ref a0, .int x1, .int x2, .int (0 : Int32)] D1 (fun r4 D3 => xCl d m_S_leastTerms [.long x6, .long (x4 * r4), .int x3] D3 (fun r6 D5 => Q (some (.long r6)) D5))) ∧ (¬ r2 < x8 → xCl d m_Film_waysOfOthers [.ref a0, .int x1, .int x2, .int x8] D1 (fun r8 D7 => xPf (d + 1) m_Film_likelyFirst 26 [(0, .ref a0), (1, .int x1), (2, .int x2), (3, .int x3), (4, .long x4), (6, .long (x6 + r8)), (8, .int (x8 + (1 : Int32)))] [] D7 Q)))) : xPf (d + 1) m_Film_likelyFirst 26 [(0, .ref a0), (1, .int x1), (2, .int x2), (3, .int x3), (4, .long x4), (6, .long x6), (8, .int x8)] [] D Q := by
  refine x_iload rfl rfl ?_
  refine x_aload_n rfl rfl ?_
  refine x_iload_n rfl rfl ?_
  refine x_vi lm_Film_73 vf_Film_upTo k0 rfl rfl (Nat.le_of_ble_eq_true rfl) rfl h (fun r2 D1 h => ?_)
  refine x_icmp_gt (tgt := 55) rfl rfl (fun c => ?_) (fun c => ?_)
  · have h := h.1 c
    refine x_lload rfl rfl ?_
    refine x_aload_n rfl rfl ?_
    refine x_iload_n rfl rfl ?_
    refine x_iload_n rfl rfl ?_
    refine x_iconst (v := (0 : Int32)) rfl rfl ?_
    refine x_vl lm_Film_85 vf_Film_waysOfOthers k0 rfl rfl (Nat.le_of_ble_eq_true rfl) rfl h (fun r4 D3 h => ?_)
    refine x_lmul rfl ?_
    refine x_lstore (i := 4) (L1 := [(4, .long (x4 * r4)), (0, .ref a0), (1, .int x1), (2, .int x2), (3, .int x3), (6, .long x6), (8, .int x8)]) rfl (Nat.le_of_ble_eq_true rfl) rfl ?_
    refine x_lload rfl rfl ?_
    refine x_lload rfl rfl ?_
    refine x_iload_n rfl rfl ?_
    refine x_sl lm_Film_89 sf_S_leastTerms rfl rfl (Nat.le_of_ble_eq_true rfl) rfl h (fun r6 D5 h => ?_)
    exact x_lret rfl rfl h
  · have h := h.2 c
    refine x_lload rfl rfl ?_
    refine x_aload_n rfl rfl ?_
    refine x_iload_n rfl rfl ?_
    refine x_iload_n rfl rfl ?_
    refine x_iload rfl rfl ?_
    refine x_vl lm_Film_85 vf_Film_waysOfOthers k0 rfl rfl (Nat.le_of_ble_eq_true rfl) rfl h (fun r8 D7 h => ?_)
    refine x_ladd rfl ?_
    refine x_lstore (i := 6) (L1 := [(6, .long (x6 + r8)), (0, .ref a0), (1, .int x1), (2, .int x2), (3, .int x3), (4, .long x4), (8, .int x8)]) rfl (Nat.le_of_ble_eq_true rfl) rfl ?_
    refine x_iinc (i := 8) (v := x8 + (1 : Int32)) (L1 := [(8, .int (x8 + (1 : Int32))), (6, .long (x6 + r8)), (0, .ref a0), (1, .int x1), (2, .int x2), (3, .int x3), (4, .long x4)]) rfl rfl rfl (Nat.le_of_ble_eq_true rfl) rfl ?_
    refine x_goto (tgt := 26) rfl rfl ?_
    exact xP_sub [2, 3, 4, 5, 6, 1, 0] rfl h
theorem s_Film_waysOfOthers_0 {d : Nat} {D : xD} {Q : Option Value → xD → Prop} {a0 : Nat} {x1 : Int32} {x2 : Int32} {x3 : Int32} (k0 : xk a0 = 5) (h : xPf (d + 1) m_Film_waysOfOthers 6 [(0, .ref a0), (1, .int x1), (2, .int x2), (3, .int x3), (4, .long (1 : Int64)), (6, .int (0 : Int32))] [] D Q) : xPf (d + 1) m_Film_waysOfOthers 0 [(0, .ref a0), (1, .int x1), (2, .int x2), (3, .int x3)] [] D Q := by
  refine x_lconst (v := 1) rfl rfl ?_
  refine x_lstore (i := 4) (L1 := [(4, .long (1 : Int64)), (0, .ref a0), (1, .int x1), (2, .int x2), (3, .int x3)]) rfl (Nat.le_of_ble_eq_true rfl) rfl ?_
  refine x_iconst (v := (0 : Int32)) rfl rfl ?_
  refine x_istore (i := 6) (L1 := [(6, .int (0 : Int32)), (4, .long (1 : Int64)), (0, .ref a0), (1, .int x1), (2, .int x2), (3, .int x3)]) rfl (Nat.le_of_ble_eq_true rfl) rfl ?_
  exact xP_sub [2, 3, 4, 5, 1, 0] rfl h
theorem s_Film_waysOfOthers_6 {d : Nat} {D : xD} {Q : Option Value → xD → Prop} {a0 : Nat} {x1 : Int32} {x2 : Int32} {x3 : Int32} {x4 : Int64} {x6 : Int32} (k0 : xk a0 = 5) (h : (x1 ≤ x6 → Q (some (.long x4)) D) ∧ (¬ x1 ≤ x6 → (x6 = x2 → xPf (d + 1) m_Film_waysOfOthers 6 [(0, .ref a0), (1, .int x1), (2, .int x2), (3, .int x3), (4, .long x4), (6, .int (x6 + (1 : Int32)))] [] D Q) ∧ (¬ x6 = x2 → xCi d m_Film_firstWith [.ref a0, .int x6] D (fun r2 D1 => (r2 = (-1 : Int32) → xPf (d + 1) m_Film_waysOfOthers 6 [(0, .ref a0), (1, .int x1), (2, .int x2), (3, .int x3), (4, .long x4), (6, .int (x6 + (1 : Int32)))] [] D1 Q) ∧ (¬ r2 = (-1 : Int32) → xCi d m_Film_upTo [.ref a0, .int x6] D1 (fun r4 D3 => xCi d m_Film_above [.ref a0, .int x6] D3 (fun r6 D5 => ∀ r7 : Int32, r7 = (if r6 < (x3 - (1 : Int32)) then (x3 - (1 : Int32)) else r6) → ∀ r8 : Int32, r8 = (if (0 : Int32) < (r4 - r7) then (r4 - r7) else (0 : Int32)) → xPf (d + 1) m_Film_waysOfOthers 6 [(0, .ref a0), (1, .int x1), (2, .int x2), (3, .int x3), (4, .long (x4 * r8.toInt64)), (6, .int (x6 + (1 : Int32)))] [] D5 Q))))))) : xPf (d + 1) m_Film_waysOfOthers 6 [(0, .ref a0), (1, .int x1), (2, .int x2), (3, .int x3), (4, .long x4), (6, .int x6)] [] D Q := by
  refine x_iload rfl rfl ?_
  refine x_iload_n rfl rfl ?_
  refine x_icmp_ge (tgt := 63) rfl rfl (fun c => ?_) (fun c => ?_)
  · have h := h.1 c
    refine x_lload rfl rfl ?_
    exact x_lret rfl rfl h
  · have h := h.2 c
    refine x_iload rfl rfl ?_
    refine x_iload_n rfl rfl ?_
    refine x_icmp_eq (tgt := 57) rfl rfl (fun c => ?_) (fun c => ?_)
    · have h := h.1 c
      refine x_iinc (i := 6) (v := x6 + (1 : Int32)) (L1 := [(6, .int (x6 + (1 : Int32))), (0, .ref a0), (1, .int x1), (2, .int x2), (3, .int x3), (4, .long x4)]) rfl rfl rfl (Nat.le_of_ble_eq_true rfl) rfl ?_
      refine x_goto (tgt := 6) rfl rfl ?_
      exact xP_sub [1, 2, 3, 4, 5, 0] rfl h
    · have h := h.2 c
      refine x_aload_n rfl rfl ?_
      refine x_iload rfl rfl ?_
      refine x_vi lm_Film_51 vf_Film_firstWith k0 rfl rfl (Nat.le_of_ble_eq_true rfl) rfl h (fun r2 D1 h => ?_)
      refine x_iconst (v := (-1 : Int32)) rfl rfl ?_
      refine x_icmp_eq (tgt := 57) rfl rfl (fun c => ?_) (fun c => ?_)
      · have h := h.1 c
        refine x_iinc (i := 6) (v := x6 + (1 : Int32)) (L1 := [(6, .int (x6 + (1 : Int32))), (0, .ref a0), (1, .int x1), (2, .int x2), (3, .int x3), (4, .long x4)]) rfl rfl rfl (Nat.le_of_ble_eq_true rfl) rfl ?_
        refine x_goto (tgt := 6) rfl rfl ?_
        exact xP_sub [1, 2, 3, 4, 5, 0] rfl h
      · have h := h.2 c
        refine x_lload rfl rfl ?_
        refine x_iconst (v := (0 : Int32)) rfl rfl ?_
        refine x_aload_n rfl rfl ?_
        refine x_iload rfl rfl ?_
        refine x_vi lm_Film_73 vf_Film_upTo k0 rfl rfl (Nat.le_of_ble_eq_true rfl) rfl h (fun r4 D3 h => ?_)
        refine x_aload_n rfl rfl ?_
        refine x_iload rfl rfl ?_
        refine x_vi lm_Film_76 vf_Film_above k0 rfl rfl (Nat.le_of_ble_eq_true rfl) rfl h (fun r6 D5 h => ?_)
        refine x_iload_n rfl rfl ?_
        refine x_iconst (v := (1 : Int32)) rfl rfl ?_
        refine x_isub rfl ?_
        refine x_mxn wd_1488 (Nat.le_of_ble_eq_true rfl) rfl (fun r7 er7 => ?_)
        have h := h r7 er7
        refine x_isub rfl ?_
        refine x_mxn wd_1488 (Nat.le_of_ble_eq_true rfl) rfl (fun r8 er8 => ?_)
        have h := h r8 er8
        refine x_i2l rfl ?_
        refine x_lmul rfl ?_
        refine x_lstore (i := 4) (L1 := [(4, .long (x4 * r8.toInt64)), (0, .ref a0), (1, .int x1), (2, .int x2), (3, .int x3), (6, .int x6)]) rfl (Nat.le_of_ble_eq_true rfl) rfl ?_
        refine x_iinc (i := 6) (v := x6 + (1 : Int32)) (L1 := [(6, .int (x6 + (1 : Int32))), (4, .long (x4 * r8.toInt64)), (0, .ref a0), (1, .int x1), (2, .int x2), (3, .int x3)]) rfl rfl rfl (Nat.le_of_ble_eq_true rfl) rfl ?_
        refine x_goto (tgt := 6) rfl rfl ?_
        exact xP_sub [2, 3, 4, 5, 1, 0] rfl h
theorem s_Reader_read_0 {d : Nat} {D : xD} {Q : Option Value → xD → Prop} {a0 : Nat} {a1 : Nat} {x2 : Int32} (k0 : xk a0 = 6) (k1 : xk a1 = 2) (h : xCv d m_Row_copy [.ref (a0 + 1), .ref a1] D (fun D1 => xCv d m_Sheet_clear [.ref (a0 + 3)] D1 (fun D2 => ∀ D3 : xD, D3 = (xu D2.1 a0 6 (0 : Int32), D2.2) → ∀ D4 : xD, D4 = (xu D3.1 a0 8 (0 : Int32), D3.2) → ∀ D5 : xD, D5 = (xu D4.1 a0 9 (0 : Int32), D4.2) → ∀ D6 : xD, D6 = (xu D5.1 a0 10 (-1 : Int32), D5.2) → ∀ D7 : xD, D7 = (xu D6.1 a0 11 (-1 : Int32), D6.2) → ∀ D8 : xD, D8 = (xu D7.1 a0 12 (-1 : Int32), D7.2) → xCv d m_Reader_step [.ref a0] D8 (fun D9 => xPf (d + 1) m_Reader_read 51 [(0, .ref a0), (1, .ref a1), (2, .int x2), (3, .int (0 : Int32))] [] D9 Q)))) : xPf (d + 1) m_Reader_read 0 [(0, .ref a0), (1, .ref a1), (2, .int x2)] [] D Q := by
  refine x_aload_n rfl rfl ?_
  refine x_gR lf_Reader_14 k0 rfl rfl ?_
  refine x_aload_n rfl rfl ?_
  refine x_vv lm_Reader_33 vf_Row_copy (ck_6_0 k0) rfl rfl (Nat.le_of_ble_eq_true rfl) rfl h (fun D1 h => ?_)
  refine x_aload_n rfl rfl ?_
  refine x_gR lf_Reader_23 k0 rfl rfl ?_
  refine x_vv lm_Reader_37 vf_Sheet_clear (ck_6_1 k0) rfl rfl (Nat.le_of_ble_eq_true rfl) rfl h (fun D2 h => ?_)
  refine x_aload_n rfl rfl ?_
  refine x_iconst (v := (0 : Int32)) rfl rfl ?_
  refine x_pIn lp_Reader_40 nf_6_6 k0 rfl rfl (fun D3 eD3 => ?_)
  have h := h D3 eD3
  refine x_aload_n rfl rfl ?_
  refine x_iconst (v := (0 : Int32)) rfl rfl ?_
  refine x_pZn lp_Reader_44 nf_6_8 k0 rfl (Or.inl rfl) rfl (fun D4 eD4 => ?_)
  have h := h D4 eD4
  refine x_aload_n rfl rfl ?_
  refine x_iconst (v := (0 : Int32)) rfl rfl ?_
  refine x_pIn lp_Reader_48 nf_6_9 k0 rfl rfl (fun D5 eD5 => ?_)
  have h := h D5 eD5
  refine x_aload_n rfl rfl ?_
  refine x_iconst (v := (-1 : Int32)) rfl rfl ?_
  refine x_pIn lp_Reader_51 nf_6_10 k0 rfl rfl (fun D6 eD6 => ?_)
  have h := h D6 eD6
  refine x_aload_n rfl rfl ?_
  refine x_iconst (v := (-1 : Int32)) rfl rfl ?_
  refine x_pIn lp_Reader_54 nf_6_11 k0 rfl rfl (fun D7 eD7 => ?_)
  have h := h D7 eD7
  refine x_aload_n rfl rfl ?_
  refine x_iconst (v := (-1 : Int32)) rfl rfl ?_
  refine x_pIn lp_Reader_57 nf_6_12 k0 rfl rfl (fun D8 eD8 => ?_)
  have h := h D8 eD8
  refine x_aload_n rfl rfl ?_
  refine x_vv lm_Reader_60 vf_Reader_step k0 rfl rfl (Nat.le_of_ble_eq_true rfl) rfl h (fun D9 h => ?_)
  refine x_iconst (v := (0 : Int32)) rfl rfl ?_
  refine x_istore_n (i := 3) (L1 := [(3, .int (0 : Int32)), (0, .ref a0), (1, .ref a1), (2, .int x2)]) rfl rfl (Nat.le_of_ble_eq_true rfl) rfl ?_
  exact xP_sub [1, 2, 3, 0] rfl h
theorem s_Reader_read_51 {d : Nat} {D : xD} {Q : Option Value → xD → Prop} {a0 : Nat} {a1 : Nat} {x2 : Int32} {x3 : Int32} (k0 : xk a0 = 6) (k1 : xk a1 = 2) (h : ((600 : Int32) ≤ x3 → (¬ x2 = 0 → Q none D) ∧ (x2 = 0 → (¬ (D.1 a0 8) = 0 → Q none D) ∧ ((D.1 a0 8) = 0 → xCi d m_Reader_stands [.ref a0] D (fun r2 D1 => (¬ r2 = 0 → Q none D1) ∧ (r2 = 0 → xCi d m_Row_size [.ref (a0 + 1)] D1 (fun r4 D3 => xCv d m_Reader_note [.ref a0, .int (4 : Int32), .int r4] D3 (fun D5 => Q none D5))))))) ∧ (¬ (600 : Int32) ≤ x3 → ((D.1 a0 4) = (3 : Int32) → (¬ x2 = 0 → Q none D) ∧ (x2 = 0 → (¬ (D.1 a0 8) = 0 → Q none D) ∧ ((D.1 a0 8) = 0 → xCi d m_Reader_stands [.ref a0] D (fun r7 D6 => (¬ r7 = 0 → Q none D6) ∧ (r7 = 0 → xCi d m_Row_size [.ref (a0 + 1)] D6 (fun r9 D8 => xCv d m_Reader_note [.ref a0, .int (4 : Int32), .int r9] D8 (fun D10 => Q none D10))))))) ∧ (¬ (D.1 a0 4) = (3 : Int32) → (¬ (D.1 a0 8) = 0 → (¬ x2 = 0 → Q none D) ∧ (x2 = 0 → (¬ (D.1 a0 8) = 0 → Q none D) ∧ ((D.1 a0 8) = 0 → xCi d m_Reader_stands [.ref a0] D (fun r12 D11 => (¬ r12 = 0 → Q none D11) ∧ (r12 = 0 → xCi d m_Row_size [.ref (a0 + 1)] D11 (fun r14 D13 => xCv d m_Reader_note [.ref a0, .int (4 : Int32), .int r14] D13 (fun D15 => Q none D15))))))) ∧ ((D.1 a0 8) = 0 → xCv d m_Reader_readLine [.ref a0, .int x2] D (fun D16 => xPf (d + 1) m_Reader_read 51 [(0, .ref a0), (1, .ref a1), (2, .int x2), (3, .int (x3 + (1 : Int32)))] [] D16 Q))))) : xPf (d + 1) m_Reader_read 51 [(0, .ref a0), (1, .ref a1), (2, .int x2), (3, .int x3)] [] D Q := by
  refine x_iload_n rfl rfl ?_
  refine x_sipush (v := (600 : Int32)) rfl rfl ?_
  refine x_icmp_ge (tgt := 84) rfl rfl (fun c => ?_) (fun c => ?_)
  · have h := h.1 c
    refine x_iload_n rfl rfl ?_
    refine x_if_ne (tgt := 114) rfl rfl (fun c => ?_) (fun c => ?_)
    · have h := h.1 c
      exact x_vret rfl rfl h
    · have h := h.2 c
      refine x_aload_n rfl rfl ?_
      refine x_gI lf_Reader_44 k0 rfl rfl ?_
      refine x_if_ne (tgt := 114) rfl rfl (fun c => ?_) (fun c => ?_)
      · have h := h.1 c
        exact x_vret rfl rfl h
      · have h := h.2 c
        refine x_aload_n rfl rfl ?_
        refine x_vi lm_Reader_69 vf_Reader_stands k0 rfl rfl (Nat.le_of_ble_eq_true rfl) rfl h (fun r2 D1 h => ?_)
        refine x_if_ne (tgt := 114) rfl rfl (fun c => ?_) (fun c => ?_)
        · have h := h.1 c
          exact x_vret rfl rfl h
        · have h := h.2 c
          refine x_aload_n rfl rfl ?_
          refine x_iconst (v := (4 : Int32)) rfl rfl ?_
          refine x_aload_n rfl rfl ?_
          refine x_gR lf_Reader_14 k0 rfl rfl ?_
          refine x_vi lm_Reader_73 vf_Row_size (ck_6_0 k0) rfl rfl (Nat.le_of_ble_eq_true rfl) rfl h (fun r4 D3 h => ?_)
          refine x_vv lm_Reader_77 vf_Reader_note k0 rfl rfl (Nat.le_of_ble_eq_true rfl) rfl h (fun D5 h => ?_)
          exact x_vret rfl rfl h
  · have h := h.2 c
    refine x_aload_n rfl rfl ?_
    refine x_gI lf_Reader_63 k0 rfl rfl ?_
    refine x_iconst (v := (3 : Int32)) rfl rfl ?_
    refine x_icmp_eq (tgt := 84) rfl rfl (fun c => ?_) (fun c => ?_)
    · have h := h.1 c
      refine x_iload_n rfl rfl ?_
      refine x_if_ne (tgt := 114) rfl rfl (fun c => ?_) (fun c => ?_)
      · have h := h.1 c
        exact x_vret rfl rfl h
      · have h := h.2 c
        refine x_aload_n rfl rfl ?_
        refine x_gI lf_Reader_44 k0 rfl rfl ?_
        refine x_if_ne (tgt := 114) rfl rfl (fun c => ?_) (fun c => ?_)
        · have h := h.1 c
          exact x_vret rfl rfl h
        · have h := h.2 c
          refine x_aload_n rfl rfl ?_
          refine x_vi lm_Reader_69 vf_Reader_stands k0 rfl rfl (Nat.le_of_ble_eq_true rfl) rfl h (fun r7 D6 h => ?_)
          refine x_if_ne (tgt := 114) rfl rfl (fun c => ?_) (fun c => ?_)
          · have h := h.1 c
            exact x_vret rfl rfl h
          · have h := h.2 c
            refine x_aload_n rfl rfl ?_
            refine x_iconst (v := (4 : Int32)) rfl rfl ?_
            refine x_aload_n rfl rfl ?_
            refine x_gR lf_Reader_14 k0 rfl rfl ?_
            refine x_vi lm_Reader_73 vf_Row_size (ck_6_0 k0) rfl rfl (Nat.le_of_ble_eq_true rfl) rfl h (fun r9 D8 h => ?_)
            refine x_vv lm_Reader_77 vf_Reader_note k0 rfl rfl (Nat.le_of_ble_eq_true rfl) rfl h (fun D10 h => ?_)
            exact x_vret rfl rfl h
    · have h := h.2 c
      refine x_aload_n rfl rfl ?_
      refine x_gI lf_Reader_44 k0 rfl rfl ?_
      refine x_if_ne (tgt := 84) rfl rfl (fun c => ?_) (fun c => ?_)
      · have h := h.1 c
        refine x_iload_n rfl rfl ?_
        refine x_if_ne (tgt := 114) rfl rfl (fun c => ?_) (fun c => ?_)
        · have h := h.1 c
          exact x_vret rfl rfl h
        · have h := h.2 c
          refine x_aload_n rfl rfl ?_
          refine x_gI lf_Reader_44 k0 rfl rfl ?_
          refine x_if_ne (tgt := 114) rfl rfl (fun c => ?_) (fun c => ?_)
          · have h := h.1 c
            exact x_vret rfl rfl h
          · have h := h.2 c
            refine x_aload_n rfl rfl ?_
            refine x_vi lm_Reader_69 vf_Reader_stands k0 rfl rfl (Nat.le_of_ble_eq_true rfl) rfl h (fun r12 D11 h => ?_)
            refine x_if_ne (tgt := 114) rfl rfl (fun c => ?_) (fun c => ?_)
            · have h := h.1 c
              exact x_vret rfl rfl h
            · have h := h.2 c
              refine x_aload_n rfl rfl ?_
              refine x_iconst (v := (4 : Int32)) rfl rfl ?_
              refine x_aload_n rfl rfl ?_
              refine x_gR lf_Reader_14 k0 rfl rfl ?_
              refine x_vi lm_Reader_73 vf_Row_size (ck_6_0 k0) rfl rfl (Nat.le_of_ble_eq_true rfl) rfl h (fun r14 D13 h => ?_)
              refine x_vv lm_Reader_77 vf_Reader_note k0 rfl rfl (Nat.le_of_ble_eq_true rfl) rfl h (fun D15 h => ?_)
              exact x_vret rfl rfl h
      · have h := h.2 c
        refine x_aload_n rfl rfl ?_
        refine x_iload_n rfl rfl ?_
        refine x_vv lm_Reader_66 vf_Reader_readLine k0 rfl rfl (Nat.le_of_ble_eq_true rfl) rfl h (fun D16 h => ?_)
        refine x_iinc (i := 3) (v := x3 + (1 : Int32)) (L1 := [(3, .int (x3 + (1 : Int32))), (0, .ref a0), (1, .ref a1), (2, .int x2)]) rfl rfl rfl (Nat.le_of_ble_eq_true rfl) rfl ?_
        refine x_goto (tgt := 51) rfl rfl ?_
        exact xP_sub [1, 2, 3, 0] rfl h
theorem s_Reader_stands_0 {d : Nat} {D : xD} {Q : Option Value → xD → Prop} {a0 : Nat} (k0 : xk a0 = 6) (h : xCi d m_Table_people [.ref ((a0 + 3) + 1)] D (fun r2 D1 => (r2 < (2 : Int32) → Q (some (.int (0 : Int32))) D1) ∧ (¬ r2 < (2 : Int32) → xCi d m_Table_people [.ref ((a0 + 3) + 1)] D1 (fun r4 D3 => (r4 ≤ (D1.1 a0 11) → Q (some (.int (0 : Int32))) D3) ∧ (¬ r4 ≤ (D1.1 a0 11) → xCi d m_Table_kinds [.ref ((a0 + 3) + 1)] D3 (fun r6 D5 => (r6 ≤ (D3.1 a0 12) → Q (some (.int (0 : Int32))) D5) ∧ (¬ r6 ≤ (D3.1 a0 12) → xCi d m_Table_pack [.ref ((a0 + 3) + 1)] D5 (fun r8 D7 => xCi d m_Table_allHold [.ref ((a0 + 3) + 1)] D7 (fun r10 D9 => (r8 ≤ r10 → Q (some (.int (0 : Int32))) D9) ∧ (¬ r8 ≤ r10 → Q (some (.int (1 : Int32))) D9)))))))))) : xPf (d + 1) m_Reader_stands 0 [(0, .ref a0)] [] D Q := by
  refine x_aload_n rfl rfl ?_
  refine x_gR lf_Reader_23 k0 rfl rfl ?_
  refine x_gR lf_Reader_81 (ck_6_1 k0) rfl rfl ?_
  refine x_astore_n (i := 1) (L1 := [(1, .ref ((a0 + 3) + 1)), (0, .ref a0)]) rfl rfl (Nat.le_of_ble_eq_true rfl) rfl ?_
  refine x_aload_n rfl rfl ?_
  refine x_vi lm_Reader_85 vf_Table_people (ck_3_0 (ck_6_1 k0)) rfl rfl (Nat.le_of_ble_eq_true rfl) rfl h (fun r2 D1 h => ?_)
  refine x_iconst (v := (2 : Int32)) rfl rfl ?_
  refine x_icmp_lt (tgt := 53) rfl rfl (fun c => ?_) (fun c => ?_)
  · have h := h.1 c
    refine x_iconst (v := (0 : Int32)) rfl rfl ?_
    exact x_zr rfl (Or.inl rfl) rfl h
  · have h := h.2 c
    refine x_aload_n rfl rfl ?_
    refine x_gI lf_Reader_54 k0 rfl rfl ?_
    refine x_aload_n rfl rfl ?_
    refine x_vi lm_Reader_85 vf_Table_people (ck_3_0 (ck_6_1 k0)) rfl rfl (Nat.le_of_ble_eq_true rfl) rfl h (fun r4 D3 h => ?_)
    refine x_icmp_ge (tgt := 53) rfl rfl (fun c => ?_) (fun c => ?_)
    · have h := h.1 c
      refine x_iconst (v := (0 : Int32)) rfl rfl ?_
      exact x_zr rfl (Or.inl rfl) rfl h
    · have h := h.2 c
      refine x_aload_n rfl rfl ?_
      refine x_gI lf_Reader_57 k0 rfl rfl ?_
      refine x_aload_n rfl rfl ?_
      refine x_vi lm_Reader_90 vf_Table_kinds (ck_3_0 (ck_6_1 k0)) rfl rfl (Nat.le_of_ble_eq_true rfl) rfl h (fun r6 D5 h => ?_)
      refine x_icmp_ge (tgt := 53) rfl rfl (fun c => ?_) (fun c => ?_)
      · have h := h.1 c
        refine x_iconst (v := (0 : Int32)) rfl rfl ?_
        exact x_zr rfl (Or.inl rfl) rfl h
      · have h := h.2 c
        refine x_aload_n rfl rfl ?_
        refine x_vi lm_Reader_93 vf_Table_pack (ck_3_0 (ck_6_1 k0)) rfl rfl (Nat.le_of_ble_eq_true rfl) rfl h (fun r8 D7 h => ?_)
        refine x_aload_n rfl rfl ?_
        refine x_vi lm_Reader_96 vf_Table_allHold (ck_3_0 (ck_6_1 k0)) rfl rfl (Nat.le_of_ble_eq_true rfl) rfl h (fun r10 D9 h => ?_)
        refine x_icmp_le (tgt := 53) rfl rfl (fun c => ?_) (fun c => ?_)
        · have h := h.1 c
          refine x_iconst (v := (0 : Int32)) rfl rfl ?_
          exact x_zr rfl (Or.inl rfl) rfl h
        · have h := h.2 c
          refine x_iconst (v := (1 : Int32)) rfl rfl ?_
          refine x_goto (tgt := 54) rfl rfl ?_
          exact x_zr rfl (Or.inr rfl) rfl h
theorem s_Reader_readLine_0 {d : Nat} {D : xD} {Q : Option Value → xD → Prop} {a0 : Nat} {x1 : Int32} (k0 : xk a0 = 6) (h : (¬ (D.1 a0 4) = 0 → (¬ (-1 : Int32) = (-1 : Int32) → xCv d m_Reader_step [.ref a0] D (fun D1 => xCv d m_Row_clear [.ref (a0 + 22)] D1 (fun D2 => xCv d m_Row_clear [.ref (a0 + 24)] D2 (fun D3 => xCi d m_Reader_leastNumbers [.int (-1 : Int32)] D3 (fun r5 D4 => xCi d m_Reader_mostNumbers [.int (-1 : Int32)] D4 (fun r7 D6 => xCv d m_Reader_readNumbers [.ref a0, .int r5, .int r7] D6 (fun D8 => (¬ (-1 : Int32) = (7 : Int32) → xPf (d + 1) m_Reader_readLine 79 [(0, .ref a0), (1, .int x1), (2, .int (D.1 a0 5)), (3, .int (-1 : Int32))] [] D8 Q) ∧ ((-1 : Int32) = (7 : Int32) → (¬ (D8.1 a0 8) = 0 → xPf (d + 1) m_Reader_readLine 79 [(0, .ref a0), (1, .int x1), (2, .int (D.1 a0 5)), (3, .int (-1 : Int32))] [] D8 Q) ∧ ((D8.1 a0 8) = 0 → xCv d m_Reader_readLaw [.ref a0] D8 (fun D9 => xPf (d + 1) m_Reader_readLine 79 [(0, .ref a0), (1, .int x1), (2, .int (D.1 a0 5)), (3, .int (-1 : Int32))] [] D9 Q)))))))))) ∧ ((-1 : Int32) = (-1 : Int32) → xCv d m_Reader_breakOff [.ref a0] D (fun D10 => Q none D10))) ∧ ((D.1 a0 4) = 0 → xCi d m_Reader_formOf [.ref a0, .int x1] D (fun r12 D11 => (¬ r12 = (-1 : Int32) → xCv d m_Reader_step [.ref a0] D11 (fun D13 => xCv d m_Row_clear [.ref (a0 + 22)] D13 (fun D14 => xCv d m_Row_clear [.ref (a0 + 24)] D14 (fun D15 => xCi d m_Reader_leastNumbers [.int r12] D15 (fun r17 D16 => xCi d m_Reader_mostNumbers [.int r12] D16 (fun r19 D18 => xCv d m_Reader_readNumbers [.ref a0, .int r17, .int r19] D18 (fun D20 => (¬ r12 = (7 : Int32) → xPf (d + 1) m_Reader_readLine 79 [(0, .ref a0), (1, .int x1), (2, .int (D.1 a0 5)), (3, .int r12)] [] D20 Q) ∧ (r12 = (7 : Int32) → (¬ (D20.1 a0 8) = 0 → xPf (d + 1) m_Reader_readLine 79 [(0, .ref a0), (1, .int x1), (2, .int (D.1 a0 5)), (3, .int r12)] [] D20 Q) ∧ ((D20.1 a0 8) = 0 → xCv d m_Reader_readLaw [.ref a0] D20 (fun D21 => xPf (d + 1) m_Reader_readLine 79 [(0, .ref a0), (1, .int x1), (2, .int (D.1 a0 5)), (3, .int r12)] [] D21 Q)))))))))) ∧ (r12 = (-1 : Int32) → xCv d m_Reader_breakOff [.ref a0] D11 (fun D22 => Q none D22))))) : xPf (d + 1) m_Reader_readLine 0 [(0, .ref a0), (1, .int x1)] [] D Q := by
  refine x_aload_n rfl rfl ?_
  refine x_gI lf_Reader_99 k0 rfl rfl ?_
  refine x_istore_n (i := 2) (L1 := [(2, .int (D.1 a0 5)), (0, .ref a0), (1, .int x1)]) rfl rfl (Nat.le_of_ble_eq_true rfl) rfl ?_
  refine x_aload_n rfl rfl ?_
  refine x_gI lf_Reader_63 k0 rfl rfl ?_
  refine x_if_ne (tgt := 20) rfl rfl (fun c => ?_) (fun c => ?_)
  · have h := h.1 c
    refine x_iconst (v := (-1 : Int32)) rfl rfl ?_
    refine x_istore_n (i := 3) (L1 := [(3, .int (-1 : Int32)), (2, .int (D.1 a0 5)), (0, .ref a0), (1, .int x1)]) rfl rfl (Nat.le_of_ble_eq_true rfl) rfl ?_
    refine x_iload_n rfl rfl ?_
    refine x_iconst (v := (-1 : Int32)) rfl rfl ?_
    refine x_icmp_ne (tgt := 32) rfl rfl (fun c => ?_) (fun c => ?_)
    · have h := h.1 c
      refine x_aload_n rfl rfl ?_
      refine x_vv lm_Reader_60 vf_Reader_step k0 rfl rfl (Nat.le_of_ble_eq_true rfl) rfl h (fun D1 h => ?_)
      refine x_aload_n rfl rfl ?_
      refine x_gR lf_Reader_27 k0 rfl rfl ?_
      refine x_vv lm_Reader_109 vf_Row_clear (ck_6_2 k0) rfl rfl (Nat.le_of_ble_eq_true rfl) rfl h (fun D2 h => ?_)
      refine x_aload_n rfl rfl ?_
      refine x_gR lf_Reader_30 k0 rfl rfl ?_
      refine x_vv lm_Reader_109 vf_Row_clear (ck_6_3 k0) rfl rfl (Nat.le_of_ble_eq_true rfl) rfl h (fun D3 h => ?_)
      refine x_aload_n rfl rfl ?_
      refine x_iload_n rfl rfl ?_
      refine x_si lm_Reader_110 sf_Reader_leastNumbers rfl rfl (Nat.le_of_ble_eq_true rfl) rfl h (fun r5 D4 h => ?_)
      refine x_iload_n rfl rfl ?_
      refine x_si lm_Reader_113 sf_Reader_mostNumbers rfl rfl (Nat.le_of_ble_eq_true rfl) rfl h (fun r7 D6 h => ?_)
      refine x_vv lm_Reader_116 vf_Reader_readNumbers k0 rfl rfl (Nat.le_of_ble_eq_true rfl) rfl h (fun D8 h => ?_)
      refine x_iload_n rfl rfl ?_
      refine x_bipush (v := (7 : Int32)) rfl rfl ?_
      refine x_icmp_ne (tgt := 79) rfl rfl (fun c => ?_) (fun c => ?_)
      · have h := h.1 c
        exact xP_sub [2, 3, 1, 0] rfl h
      · have h := h.2 c
        refine x_aload_n rfl rfl ?_
        refine x_gI lf_Reader_44 k0 rfl rfl ?_
        refine x_if_ne (tgt := 79) rfl rfl (fun c => ?_) (fun c => ?_)
        · have h := h.1 c
          exact xP_sub [2, 3, 1, 0] rfl h
        · have h := h.2 c
          refine x_aload_n rfl rfl ?_
          refine x_vv lm_Reader_119 vf_Reader_readLaw k0 rfl rfl (Nat.le_of_ble_eq_true rfl) rfl h (fun D9 h => ?_)
          exact xP_sub [2, 3, 1, 0] rfl h
    · have h := h.2 c
      refine x_aload_n rfl rfl ?_
      refine x_vv lm_Reader_106 vf_Reader_breakOff k0 rfl rfl (Nat.le_of_ble_eq_true rfl) rfl h (fun D10 h => ?_)
      exact x_vret rfl rfl h
  · have h := h.2 c
    refine x_aload_n rfl rfl ?_
    refine x_iload_n rfl rfl ?_
    refine x_vi lm_Reader_102 vf_Reader_formOf k0 rfl rfl (Nat.le_of_ble_eq_true rfl) rfl h (fun r12 D11 h => ?_)
    refine x_goto (tgt := 21) rfl rfl ?_
    refine x_istore_n (i := 3) (L1 := [(3, .int r12), (2, .int (D.1 a0 5)), (0, .ref a0), (1, .int x1)]) rfl rfl (Nat.le_of_ble_eq_true rfl) rfl ?_
    refine x_iload_n rfl rfl ?_
    refine x_iconst (v := (-1 : Int32)) rfl rfl ?_
    refine x_icmp_ne (tgt := 32) rfl rfl (fun c => ?_) (fun c => ?_)
    · have h := h.1 c
      refine x_aload_n rfl rfl ?_
      refine x_vv lm_Reader_60 vf_Reader_step k0 rfl rfl (Nat.le_of_ble_eq_true rfl) rfl h (fun D13 h => ?_)
      refine x_aload_n rfl rfl ?_
      refine x_gR lf_Reader_27 k0 rfl rfl ?_
      refine x_vv lm_Reader_109 vf_Row_clear (ck_6_2 k0) rfl rfl (Nat.le_of_ble_eq_true rfl) rfl h (fun D14 h => ?_)
      refine x_aload_n rfl rfl ?_
      refine x_gR lf_Reader_30 k0 rfl rfl ?_
      refine x_vv lm_Reader_109 vf_Row_clear (ck_6_3 k0) rfl rfl (Nat.le_of_ble_eq_true rfl) rfl h (fun D15 h => ?_)
      refine x_aload_n rfl rfl ?_
      refine x_iload_n rfl rfl ?_
      refine x_si lm_Reader_110 sf_Reader_leastNumbers rfl rfl (Nat.le_of_ble_eq_true rfl) rfl h (fun r17 D16 h => ?_)
      refine x_iload_n rfl rfl ?_
      refine x_si lm_Reader_113 sf_Reader_mostNumbers rfl rfl (Nat.le_of_ble_eq_true rfl) rfl h (fun r19 D18 h => ?_)
      refine x_vv lm_Reader_116 vf_Reader_readNumbers k0 rfl rfl (Nat.le_of_ble_eq_true rfl) rfl h (fun D20 h => ?_)
      refine x_iload_n rfl rfl ?_
      refine x_bipush (v := (7 : Int32)) rfl rfl ?_
      refine x_icmp_ne (tgt := 79) rfl rfl (fun c => ?_) (fun c => ?_)
      · have h := h.1 c
        exact xP_sub [2, 3, 1, 0] rfl h
      · have h := h.2 c
        refine x_aload_n rfl rfl ?_
        refine x_gI lf_Reader_44 k0 rfl rfl ?_
        refine x_if_ne (tgt := 79) rfl rfl (fun c => ?_) (fun c => ?_)
        · have h := h.1 c
          exact xP_sub [2, 3, 1, 0] rfl h
        · have h := h.2 c
          refine x_aload_n rfl rfl ?_
          refine x_vv lm_Reader_119 vf_Reader_readLaw k0 rfl rfl (Nat.le_of_ble_eq_true rfl) rfl h (fun D21 h => ?_)
          exact xP_sub [2, 3, 1, 0] rfl h
    · have h := h.2 c
      refine x_aload_n rfl rfl ?_
      refine x_vv lm_Reader_106 vf_Reader_breakOff k0 rfl rfl (Nat.le_of_ble_eq_true rfl) rfl h (fun D22 h => ?_)
      exact x_vret rfl rfl h
theorem s_Reader_readLine_79 {d : Nat} {D : xD} {Q : Option Value → xD → Prop} {a0 : Nat} {x1 : Int32} {x2 : Int32} {x3 : Int32} (k0 : xk a0 = 6) (h : (¬ (D.1 a0 8) = 0 → (¬ (D.1 a0 8) = 0 → Q none D) ∧ ((D.1 a0 8) = 0 → xCv d m_Reader_step [.ref a0] D (fun D1 => xCv d m_Reader_tell [.ref a0, .int x3, .int x2] D1 (fun D2 => Q none D2)))) ∧ ((D.1 a0 8) = 0 → ((D.1 a0 4) = (2 : Int32) → (¬ (D.1 a0 8) = 0 → Q none D) ∧ ((D.1 a0 8) = 0 → xCv d m_Reader_step [.ref a0] D (fun D3 => xCv d m_Reader_tell [.ref a0, .int x3, .int x2] D3 (fun D4 => Q none D4)))) ∧ (¬ (D.1 a0 4) = (2 : Int32) → xCv d m_Reader_breakOff [.ref a0] D (fun D5 => (¬ (D5.1 a0 8) = 0 → Q none D5) ∧ ((D5.1 a0 8) = 0 → xCv d m_Reader_step [.ref a0] D5 (fun D6 => xCv d m_Reader_tell [.ref a0, .int x3, .int x2] D6 (fun D7 => Q none D7))))))) : xPf (d + 1) m_Reader_readLine 79 [(0, .ref a0), (1, .int x1), (2, .int x2), (3, .int x3)] [] D Q := by
  refine x_aload_n rfl rfl ?_
  refine x_gI lf_Reader_44 k0 rfl rfl ?_
  refine x_if_ne (tgt := 98) rfl rfl (fun c => ?_) (fun c => ?_)
  · have h := h.1 c
    refine x_aload_n rfl rfl ?_
    refine x_gI lf_Reader_44 k0 rfl rfl ?_
    refine x_if_ne (tgt := 115) rfl rfl (fun c => ?_) (fun c => ?_)
    · have h := h.1 c
      exact x_vret rfl rfl h
    · have h := h.2 c
      refine x_aload_n rfl rfl ?_
      refine x_vv lm_Reader_60 vf_Reader_step k0 rfl rfl (Nat.le_of_ble_eq_true rfl) rfl h (fun D1 h => ?_)
      refine x_aload_n rfl rfl ?_
      refine x_iload_n rfl rfl ?_
      refine x_iload_n rfl rfl ?_
      refine x_vv lm_Reader_122 vf_Reader_tell k0 rfl rfl (Nat.le_of_ble_eq_true rfl) rfl h (fun D2 h => ?_)
      exact x_vret rfl rfl h
  · have h := h.2 c
    refine x_aload_n rfl rfl ?_
    refine x_gI lf_Reader_63 k0 rfl rfl ?_
    refine x_iconst (v := (2 : Int32)) rfl rfl ?_
    refine x_icmp_eq (tgt := 98) rfl rfl (fun c => ?_) (fun c => ?_)
    · have h := h.1 c
      refine x_aload_n rfl rfl ?_
      refine x_gI lf_Reader_44 k0 rfl rfl ?_
      refine x_if_ne (tgt := 115) rfl rfl (fun c => ?_) (fun c => ?_)
      · have h := h.1 c
        exact x_vret rfl rfl h
      · have h := h.2 c
        refine x_aload_n rfl rfl ?_
        refine x_vv lm_Reader_60 vf_Reader_step k0 rfl rfl (Nat.le_of_ble_eq_true rfl) rfl h (fun D3 h => ?_)
        refine x_aload_n rfl rfl ?_
        refine x_iload_n rfl rfl ?_
        refine x_iload_n rfl rfl ?_
        refine x_vv lm_Reader_122 vf_Reader_tell k0 rfl rfl (Nat.le_of_ble_eq_true rfl) rfl h (fun D4 h => ?_)
        exact x_vret rfl rfl h
    · have h := h.2 c
      refine x_aload_n rfl rfl ?_
      refine x_vv lm_Reader_106 vf_Reader_breakOff k0 rfl rfl (Nat.le_of_ble_eq_true rfl) rfl h (fun D5 h => ?_)
      refine x_aload_n rfl rfl ?_
      refine x_gI lf_Reader_44 k0 rfl rfl ?_
      refine x_if_ne (tgt := 115) rfl rfl (fun c => ?_) (fun c => ?_)
      · have h := h.1 c
        exact x_vret rfl rfl h
      · have h := h.2 c
        refine x_aload_n rfl rfl ?_
        refine x_vv lm_Reader_60 vf_Reader_step k0 rfl rfl (Nat.le_of_ble_eq_true rfl) rfl h (fun D6 h => ?_)
        refine x_aload_n rfl rfl ?_
        refine x_iload_n rfl rfl ?_
        refine x_iload_n rfl rfl ?_
        refine x_vv lm_Reader_122 vf_Reader_tell k0 rfl rfl (Nat.le_of_ble_eq_true rfl) rfl h (fun D7 h => ?_)
        exact x_vret rfl rfl h
theorem s_Reader_readNumbers_0 {d : Nat} {D : xD} {Q : Option Value → xD → Prop} {a0 : Nat} {x1 : Int32} {x2 : Int32} (k0 : xk a0 = 6) (h : xPf (d + 1) m_Reader_readNumbers 2 [(0, .ref a0), (1, .int x1), (2, .int x2), (3, .int (0 : Int32))] [] D Q) : xPf (d + 1) m_Reader_readNumbers 0 [(0, .ref a0), (1, .int x1), (2, .int x2)] [] D Q := by
  refine x_iconst (v := (0 : Int32)) rfl rfl ?_
  refine x_istore_n (i := 3) (L1 := [(3, .int (0 : Int32)), (0, .ref a0), (1, .int x1), (2, .int x2)]) rfl rfl (Nat.le_of_ble_eq_true rfl) rfl ?_
  exact xP_sub [1, 2, 3, 0] rfl h
theorem s_Reader_readNumbers_2 {d : Nat} {D : xD} {Q : Option Value → xD → Prop} {a0 : Nat} {x1 : Int32} {x2 : Int32} {x3 : Int32} (k0 : xk a0 = 6) (h : (x2 ≤ x3 → (x1 ≤ x3 → Q none D) ∧ (¬ x1 ≤ x3 → xCv d m_Reader_breakOff [.ref a0] D (fun D1 => Q none D1))) ∧ (¬ x2 ≤ x3 → (¬ (D.1 a0 4) = (1 : Int32) → (x1 ≤ x3 → Q none D) ∧ (¬ x1 ≤ x3 → xCv d m_Reader_breakOff [.ref a0] D (fun D2 => Q none D2))) ∧ ((D.1 a0 4) = (1 : Int32) → xCi d m_Reader_numberHere [.ref a0] D (fun r4 D3 => xCv d m_Row_push [.ref (a0 + 22), .int r4] D3 (fun D5 => xCv d m_Row_push [.ref (a0 + 24), .int (D5.1 a0 5)] D5 (fun D6 => xCv d m_Reader_step [.ref a0] D6 (fun D7 => xPf (d + 1) m_Reader_readNumbers 2 [(0, .ref a0), (1, .int x1), (2, .int x2), (3, .int (x3 + (1 : Int32)))] [] D7 Q))))))) : xPf (d + 1) m_Reader_readNumbers 2 [(0, .ref a0), (1, .int x1), (2, .int x2), (3, .int x3)] [] D Q := by
  refine x_iload_n rfl rfl ?_
  refine x_iload_n rfl rfl ?_
  refine x_icmp_ge (tgt := 47) rfl rfl (fun c => ?_) (fun c => ?_)
  · have h := h.1 c
    refine x_iload_n rfl rfl ?_
    refine x_iload_n rfl rfl ?_
    refine x_icmp_ge (tgt := 56) rfl rfl (fun c => ?_) (fun c => ?_)
    · have h := h.1 c
      exact x_vret rfl rfl h
    · have h := h.2 c
      refine x_aload_n rfl rfl ?_
      refine x_vv lm_Reader_106 vf_Reader_breakOff k0 rfl rfl (Nat.le_of_ble_eq_true rfl) rfl h (fun D1 h => ?_)
      exact x_vret rfl rfl h
  · have h := h.2 c
    refine x_aload_n rfl rfl ?_
    refine x_gI lf_Reader_63 k0 rfl rfl ?_
    refine x_iconst (v := (1 : Int32)) rfl rfl ?_
    refine x_icmp_ne (tgt := 47) rfl rfl (fun c => ?_) (fun c => ?_)
    · have h := h.1 c
      refine x_iload_n rfl rfl ?_
      refine x_iload_n rfl rfl ?_
      refine x_icmp_ge (tgt := 56) rfl rfl (fun c => ?_) (fun c => ?_)
      · have h := h.1 c
        exact x_vret rfl rfl h
      · have h := h.2 c
        refine x_aload_n rfl rfl ?_
        refine x_vv lm_Reader_106 vf_Reader_breakOff k0 rfl rfl (Nat.le_of_ble_eq_true rfl) rfl h (fun D2 h => ?_)
        exact x_vret rfl rfl h
    · have h := h.2 c
      refine x_aload_n rfl rfl ?_
      refine x_gR lf_Reader_27 k0 rfl rfl ?_
      refine x_aload_n rfl rfl ?_
      refine x_vi lm_Reader_125 vf_Reader_numberHere k0 rfl rfl (Nat.le_of_ble_eq_true rfl) rfl h (fun r4 D3 h => ?_)
      refine x_vv lm_Reader_128 vf_Row_push (ck_6_2 k0) rfl rfl (Nat.le_of_ble_eq_true rfl) rfl h (fun D5 h => ?_)
      refine x_aload_n rfl rfl ?_
      refine x_gR lf_Reader_30 k0 rfl rfl ?_
      refine x_aload_n rfl rfl ?_
      refine x_gI lf_Reader_99 k0 rfl rfl ?_
      refine x_vv lm_Reader_128 vf_Row_push (ck_6_3 k0) rfl rfl (Nat.le_of_ble_eq_true rfl) rfl h (fun D6 h => ?_)
      refine x_aload_n rfl rfl ?_
      refine x_vv lm_Reader_60 vf_Reader_step k0 rfl rfl (Nat.le_of_ble_eq_true rfl) rfl h (fun D7 h => ?_)
      refine x_iinc (i := 3) (v := x3 + (1 : Int32)) (L1 := [(3, .int (x3 + (1 : Int32))), (0, .ref a0), (1, .int x1), (2, .int x2)]) rfl rfl rfl (Nat.le_of_ble_eq_true rfl) rfl ?_
      refine x_goto (tgt := 2) rfl rfl ?_
      exact xP_sub [1, 2, 3, 0] rfl h
theorem s_Reader_readLaw_0 {d : Nat} {D : xD} {Q : Option Value → xD → Prop} {a0 : Nat} (k0 : xk a0 = 6) (h : (¬ (D.1 a0 4) = 0 → ∀ D1 : xD, D1 = (xu D.1 a0 7 (-1 : Int32), D.2) → (¬ (D1.1 a0 7) = (-1 : Int32) → xCv d m_Reader_step [.ref a0] D1 (fun D2 => ((D2.1 a0 7) = (1 : Int32) → xCv d m_Reader_readNumbers [.ref a0, .int (1 : Int32), .int (1 : Int32)] D2 (fun D3 => Q none D3)) ∧ (¬ (D2.1 a0 7) = (1 : Int32) → (¬ (D2.1 a0 7) = (2 : Int32) → xCv d m_Reader_readNumbers [.ref a0, .int (0 : Int32), .int (0 : Int32)] D2 (fun D4 => Q none D4)) ∧ ((D2.1 a0 7) = (2 : Int32) → xCv d m_Reader_readNumbers [.ref a0, .int (1 : Int32), .int (1 : Int32)] D2 (fun D5 => Q none D5))))) ∧ ((D1.1 a0 7) = (-1 : Int32) → xCv d m_Reader_breakOff [.ref a0] D1 (fun D6 => Q none D6))) ∧ ((D.1 a0 4) = 0 → xCi d m_Reader_lawHere [.ref a0] D (fun r8 D7 => ∀ D9 : xD, D9 = (xu D7.1 a0 7 r8, D7.2) → (¬ (D9.1 a0 7) = (-1 : Int32) → xCv d m_Reader_step [.ref a0] D9 (fun D10 => ((D10.1 a0 7) = (1 : Int32) → xCv d m_Reader_readNumbers [.ref a0, .int (1 : Int32), .int (1 : Int32)] D10 (fun D11 => Q none D11)) ∧ (¬ (D10.1 a0 7) = (1 : Int32) → (¬ (D10.1 a0 7) = (2 : Int32) → xCv d m_Reader_readNumbers [.ref a0, .int (0 : Int32), .int (0 : Int32)] D10 (fun D12 => Q none D12)) ∧ ((D10.1 a0 7) = (2 : Int32) → xCv d m_Reader_readNumbers [.ref a0, .int (1 : Int32), .int (1 : Int32)] D10 (fun D13 => Q none D13))))) ∧ ((D9.1 a0 7) = (-1 : Int32) → xCv d m_Reader_breakOff [.ref a0] D9 (fun D14 => Q none D14))))) : xPf (d + 1) m_Reader_readLaw 0 [(0, .ref a0)] [] D Q := by
  refine x_aload_n rfl rfl ?_
  refine x_aload_n rfl rfl ?_
  refine x_gI lf_Reader_63 k0 rfl rfl ?_
  refine x_if_ne (tgt := 15) rfl rfl (fun c => ?_) (fun c => ?_)
  · have h := h.1 c
    refine x_iconst (v := (-1 : Int32)) rfl rfl ?_
    refine x_pIn lp_Reader_134 nf_6_7 k0 rfl rfl (fun D1 eD1 => ?_)
    have h := h D1 eD1
    refine x_aload_n rfl rfl ?_
    refine x_gI lf_Reader_134 k0 rfl rfl ?_
    refine x_iconst (v := (-1 : Int32)) rfl rfl ?_
    refine x_icmp_ne (tgt := 32) rfl rfl (fun c => ?_) (fun c => ?_)
    · have h := h.1 c
      refine x_aload_n rfl rfl ?_
      refine x_vv lm_Reader_60 vf_Reader_step k0 rfl rfl (Nat.le_of_ble_eq_true rfl) rfl h (fun D2 h => ?_)
      refine x_aload_n rfl rfl ?_
      refine x_gI lf_Reader_134 k0 rfl rfl ?_
      refine x_iconst (v := (1 : Int32)) rfl rfl ?_
      refine x_icmp_eq (tgt := 52) rfl rfl (fun c => ?_) (fun c => ?_)
      · have h := h.1 c
        refine x_iconst (v := (1 : Int32)) rfl rfl ?_
        refine x_goto (tgt := 57) rfl rfl ?_
        refine x_istore_n (i := 1) (L1 := [(1, .int (1 : Int32)), (0, .ref a0)]) rfl rfl (Nat.le_of_ble_eq_true rfl) rfl ?_
        refine x_aload_n rfl rfl ?_
        refine x_iload_n rfl rfl ?_
        refine x_iload_n rfl rfl ?_
        refine x_vv lm_Reader_116 vf_Reader_readNumbers k0 rfl rfl (Nat.le_of_ble_eq_true rfl) rfl h (fun D3 h => ?_)
        exact x_vret rfl rfl h
      · have h := h.2 c
        refine x_aload_n rfl rfl ?_
        refine x_gI lf_Reader_134 k0 rfl rfl ?_
        refine x_iconst (v := (2 : Int32)) rfl rfl ?_
        refine x_icmp_ne (tgt := 56) rfl rfl (fun c => ?_) (fun c => ?_)
        · have h := h.1 c
          refine x_iconst (v := (0 : Int32)) rfl rfl ?_
          refine x_istore_n (i := 1) (L1 := [(1, .int (0 : Int32)), (0, .ref a0)]) rfl rfl (Nat.le_of_ble_eq_true rfl) rfl ?_
          refine x_aload_n rfl rfl ?_
          refine x_iload_n rfl rfl ?_
          refine x_iload_n rfl rfl ?_
          refine x_vv lm_Reader_116 vf_Reader_readNumbers k0 rfl rfl (Nat.le_of_ble_eq_true rfl) rfl h (fun D4 h => ?_)
          exact x_vret rfl rfl h
        · have h := h.2 c
          refine x_iconst (v := (1 : Int32)) rfl rfl ?_
          refine x_goto (tgt := 57) rfl rfl ?_
          refine x_istore_n (i := 1) (L1 := [(1, .int (1 : Int32)), (0, .ref a0)]) rfl rfl (Nat.le_of_ble_eq_true rfl) rfl ?_
          refine x_aload_n rfl rfl ?_
          refine x_iload_n rfl rfl ?_
          refine x_iload_n rfl rfl ?_
          refine x_vv lm_Reader_116 vf_Reader_readNumbers k0 rfl rfl (Nat.le_of_ble_eq_true rfl) rfl h (fun D5 h => ?_)
          exact x_vret rfl rfl h
    · have h := h.2 c
      refine x_aload_n rfl rfl ?_
      refine x_vv lm_Reader_106 vf_Reader_breakOff k0 rfl rfl (Nat.le_of_ble_eq_true rfl) rfl h (fun D6 h => ?_)
      exact x_vret rfl rfl h
  · have h := h.2 c
    refine x_aload_n rfl rfl ?_
    refine x_vi lm_Reader_131 vf_Reader_lawHere k0 rfl rfl (Nat.le_of_ble_eq_true rfl) rfl h (fun r8 D7 h => ?_)
    refine x_goto (tgt := 16) rfl rfl ?_
    refine x_pIn lp_Reader_134 nf_6_7 k0 rfl rfl (fun D9 eD9 => ?_)
    have h := h D9 eD9
    refine x_aload_n rfl rfl ?_
    refine x_gI lf_Reader_134 k0 rfl rfl ?_
    refine x_iconst (v := (-1 : Int32)) rfl rfl ?_
    refine x_icmp_ne (tgt := 32) rfl rfl (fun c => ?_) (fun c => ?_)
    · have h := h.1 c
      refine x_aload_n rfl rfl ?_
      refine x_vv lm_Reader_60 vf_Reader_step k0 rfl rfl (Nat.le_of_ble_eq_true rfl) rfl h (fun D10 h => ?_)
      refine x_aload_n rfl rfl ?_
      refine x_gI lf_Reader_134 k0 rfl rfl ?_
      refine x_iconst (v := (1 : Int32)) rfl rfl ?_
      refine x_icmp_eq (tgt := 52) rfl rfl (fun c => ?_) (fun c => ?_)
      · have h := h.1 c
        refine x_iconst (v := (1 : Int32)) rfl rfl ?_
        refine x_goto (tgt := 57) rfl rfl ?_
        refine x_istore_n (i := 1) (L1 := [(1, .int (1 : Int32)), (0, .ref a0)]) rfl rfl (Nat.le_of_ble_eq_true rfl) rfl ?_
        refine x_aload_n rfl rfl ?_
        refine x_iload_n rfl rfl ?_
        refine x_iload_n rfl rfl ?_
        refine x_vv lm_Reader_116 vf_Reader_readNumbers k0 rfl rfl (Nat.le_of_ble_eq_true rfl) rfl h (fun D11 h => ?_)
        exact x_vret rfl rfl h
      · have h := h.2 c
        refine x_aload_n rfl rfl ?_
        refine x_gI lf_Reader_134 k0 rfl rfl ?_
        refine x_iconst (v := (2 : Int32)) rfl rfl ?_
        refine x_icmp_ne (tgt := 56) rfl rfl (fun c => ?_) (fun c => ?_)
        · have h := h.1 c
          refine x_iconst (v := (0 : Int32)) rfl rfl ?_
          refine x_istore_n (i := 1) (L1 := [(1, .int (0 : Int32)), (0, .ref a0)]) rfl rfl (Nat.le_of_ble_eq_true rfl) rfl ?_
          refine x_aload_n rfl rfl ?_
          refine x_iload_n rfl rfl ?_
          refine x_iload_n rfl rfl ?_
          refine x_vv lm_Reader_116 vf_Reader_readNumbers k0 rfl rfl (Nat.le_of_ble_eq_true rfl) rfl h (fun D12 h => ?_)
          exact x_vret rfl rfl h
        · have h := h.2 c
          refine x_iconst (v := (1 : Int32)) rfl rfl ?_
          refine x_goto (tgt := 57) rfl rfl ?_
          refine x_istore_n (i := 1) (L1 := [(1, .int (1 : Int32)), (0, .ref a0)]) rfl rfl (Nat.le_of_ble_eq_true rfl) rfl ?_
          refine x_aload_n rfl rfl ?_
          refine x_iload_n rfl rfl ?_
          refine x_iload_n rfl rfl ?_
          refine x_vv lm_Reader_116 vf_Reader_readNumbers k0 rfl rfl (Nat.le_of_ble_eq_true rfl) rfl h (fun D13 h => ?_)
          exact x_vret rfl rfl h
    · have h := h.2 c
      refine x_aload_n rfl rfl ?_
      refine x_vv lm_Reader_106 vf_Reader_breakOff k0 rfl rfl (Nat.le_of_ble_eq_true rfl) rfl h (fun D14 h => ?_)
      exact x_vret rfl rfl h
theorem s_Reader_lawHere_0 {d : Nat} {D : xD} {Q : Option Value → xD → Prop} {a0 : Nat} (k0 : xk a0 = 6) (h : xCi d m_Reader_says [.ref a0, .ref (100000 + 17)] D (fun r2 D1 => (r2 = 0 → xCi d m_Reader_says [.ref a0, .ref (100000 + 18)] D1 (fun r4 D3 => (r4 = 0 → xCi d m_Reader_says [.ref a0, .ref (100000 + 19)] D3 (fun r6 D5 => (r6 = 0 → xCi d m_Reader_says [.ref a0, .ref (100000 + 20)] D5 (fun r8 D7 => (r8 = 0 → Q (some (.int (-1 : Int32))) D7) ∧ (¬ r8 = 0 → Q (some (.int (3 : Int32))) D7))) ∧ (¬ r6 = 0 → Q (some (.int (2 : Int32))) D5))) ∧ (¬ r4 = 0 → Q (some (.int (1 : Int32))) D3))) ∧ (¬ r2 = 0 → Q (some (.int (0 : Int32))) D1))) : xPf (d + 1) m_Reader_lawHere 0 [(0, .ref a0)] [] D Q := by
  refine x_aload_n rfl rfl ?_
  refine x_ldcS (k := 17) (tx := "most") rfl (List.mem_of_getElem? (i := 17) rfl) rfl ?_
  refine x_vi lm_Reader_139 vf_Reader_says k0 rfl rfl (Nat.le_of_ble_eq_true rfl) rfl h (fun r2 D1 h => ?_)
  refine x_if_eq (tgt := 11) rfl rfl (fun c => ?_) (fun c => ?_)
  · have h := h.1 c
    refine x_aload_n rfl rfl ?_
    refine x_ldcS (k := 18) (tx := "aim") rfl (List.mem_of_getElem? (i := 18) rfl) rfl ?_
    refine x_vi lm_Reader_139 vf_Reader_says k0 rfl rfl (Nat.le_of_ble_eq_true rfl) rfl h (fun r4 D3 h => ?_)
    refine x_if_eq (tgt := 22) rfl rfl (fun c => ?_) (fun c => ?_)
    · have h := h.1 c
      refine x_aload_n rfl rfl ?_
      refine x_ldcS (k := 19) (tx := "keep") rfl (List.mem_of_getElem? (i := 19) rfl) rfl ?_
      refine x_vi lm_Reader_139 vf_Reader_says k0 rfl rfl (Nat.le_of_ble_eq_true rfl) rfl h (fun r6 D5 h => ?_)
      refine x_if_eq (tgt := 33) rfl rfl (fun c => ?_) (fun c => ?_)
      · have h := h.1 c
        refine x_aload_n rfl rfl ?_
        refine x_ldcS (k := 20) (tx := "never") rfl (List.mem_of_getElem? (i := 20) rfl) rfl ?_
        refine x_vi lm_Reader_139 vf_Reader_says k0 rfl rfl (Nat.le_of_ble_eq_true rfl) rfl h (fun r8 D7 h => ?_)
        refine x_if_eq (tgt := 46) rfl rfl (fun c => ?_) (fun c => ?_)
        · have h := h.1 c
          refine x_iconst (v := (-1 : Int32)) rfl rfl ?_
          exact x_iret rfl rfl h
        · have h := h.2 c
          refine x_iconst (v := (3 : Int32)) rfl rfl ?_
          refine x_goto (tgt := 47) rfl rfl ?_
          exact x_iret rfl rfl h
      · have h := h.2 c
        refine x_iconst (v := (2 : Int32)) rfl rfl ?_
        exact x_iret rfl rfl h
    · have h := h.2 c
      refine x_iconst (v := (1 : Int32)) rfl rfl ?_
      exact x_iret rfl rfl h
  · have h := h.2 c
    refine x_iconst (v := (0 : Int32)) rfl rfl ?_
    exact x_iret rfl rfl h
theorem s_Reader_formOf_0 {d : Nat} {D : xD} {Q : Option Value → xD → Prop} {a0 : Nat} {x1 : Int32} (k0 : xk a0 = 6) (h : (x1 = (0 : Int32) → xCi d m_Reader_tableForm [.ref a0] D (fun r2 D1 => Q (some (.int r2)) D1)) ∧ (x1 = (1 : Int32) → xCi d m_Reader_says [.ref a0, .ref (100000 + 8)] D (fun r4 D3 => (r4 = 0 → Q (some (.int (-1 : Int32))) D3) ∧ (¬ r4 = 0 → Q (some (.int (8 : Int32))) D3))) ∧ (x1 = (2 : Int32) → xCi d m_Reader_deedForm [.ref a0] D (fun r6 D5 => Q (some (.int r6)) D5)) ∧ (x1 = (3 : Int32) → xCi d m_Reader_says [.ref a0, .ref (100000 + 14)] D (fun r8 D7 => (r8 = 0 → xCi d m_Reader_says [.ref a0, .ref (100000 + 15)] D7 (fun r10 D9 => (r10 = 0 → Q (some (.int (-1 : Int32))) D9) ∧ (¬ r10 = 0 → Q (some (.int (10 : Int32))) D9))) ∧ (¬ r8 = 0 → Q (some (.int (9 : Int32))) D7))) ∧ (x1 = (4 : Int32) → xCi d m_Reader_says [.ref a0, .ref (100000 + 16)] D (fun r12 D11 => (r12 = 0 → Q (some (.int (-1 : Int32))) D11) ∧ (¬ r12 = 0 → Q (some (.int (11 : Int32))) D11))) ∧ (((x1).toInt < 0 ∨ 4 < (x1).toInt) → Q (some (.int (-1 : Int32))) D)) : xPf (d + 1) m_Reader_formOf 0 [(0, .ref a0), (1, .int x1)] [] D Q := by
  refine x_iload_n rfl rfl ?_
  rcases Decidable.em ((x1).toInt < 0 ∨ 4 < (x1).toInt) with q | q
  · refine x_tableOut (tgt := 108) rfl q rfl ?_
    have h := h.2.2.2.2.2 q
    refine x_iconst (v := (-1 : Int32)) rfl rfl ?_
    exact x_iret rfl rfl h
  · have q : (x1).toInt = 0 ∨ (x1).toInt = 1 ∨ (x1).toInt = 2 ∨ (x1).toInt = 3 ∨ (x1).toInt = 4 := by omega
    rcases q with q | q | q | q | q
    · have q : x1 = (0 : Int32) := Int32.toInt_inj.mp q
      refine x_tabK (k := (0 : Int32)) (tgt := 36) q rfl (by decide) (by decide) rfl rfl ?_
      have h := h.1 q
      refine x_aload_n rfl rfl ?_
      refine x_vi lm_Reader_149 vf_Reader_tableForm k0 rfl rfl (Nat.le_of_ble_eq_true rfl) rfl h (fun r2 D1 h => ?_)
      exact x_iret rfl rfl h
    · have q : x1 = (1 : Int32) := Int32.toInt_inj.mp q
      refine x_tabK (k := (1 : Int32)) (tgt := 41) q rfl (by decide) (by decide) rfl rfl ?_
      have h := h.2.1 q
      refine x_aload_n rfl rfl ?_
      refine x_ldcS (k := 8) (tx := "cards") rfl (List.mem_of_getElem? (i := 8) rfl) rfl ?_
      refine x_vi lm_Reader_139 vf_Reader_says k0 rfl rfl (Nat.le_of_ble_eq_true rfl) rfl h (fun r4 D3 h => ?_)
      refine x_if_eq (tgt := 55) rfl rfl (fun c => ?_) (fun c => ?_)
      · have h := h.1 c
        refine x_iconst (v := (-1 : Int32)) rfl rfl ?_
        exact x_iret rfl rfl h
      · have h := h.2 c
        refine x_bipush (v := (8 : Int32)) rfl rfl ?_
        refine x_goto (tgt := 56) rfl rfl ?_
        exact x_iret rfl rfl h
    · have q : x1 = (2 : Int32) := Int32.toInt_inj.mp q
      refine x_tabK (k := (2 : Int32)) (tgt := 57) q rfl (by decide) (by decide) rfl rfl ?_
      have h := h.2.2.1 q
      refine x_aload_n rfl rfl ?_
      refine x_vi lm_Reader_154 vf_Reader_deedForm k0 rfl rfl (Nat.le_of_ble_eq_true rfl) rfl h (fun r6 D5 h => ?_)
      exact x_iret rfl rfl h
    · have q : x1 = (3 : Int32) := Int32.toInt_inj.mp q
      refine x_tabK (k := (3 : Int32)) (tgt := 62) q rfl (by decide) (by decide) rfl rfl ?_
      have h := h.2.2.2.1 q
      refine x_aload_n rfl rfl ?_
      refine x_ldcS (k := 14) (tx := "hold") rfl (List.mem_of_getElem? (i := 14) rfl) rfl ?_
      refine x_vi lm_Reader_139 vf_Reader_says k0 rfl rfl (Nat.le_of_ble_eq_true rfl) rfl h (fun r8 D7 h => ?_)
      refine x_if_eq (tgt := 76) rfl rfl (fun c => ?_) (fun c => ?_)
      · have h := h.1 c
        refine x_aload_n rfl rfl ?_
        refine x_ldcS (k := 15) (tx := "gone") rfl (List.mem_of_getElem? (i := 15) rfl) rfl ?_
        refine x_vi lm_Reader_139 vf_Reader_says k0 rfl rfl (Nat.le_of_ble_eq_true rfl) rfl h (fun r10 D9 h => ?_)
        refine x_if_eq (tgt := 90) rfl rfl (fun c => ?_) (fun c => ?_)
        · have h := h.1 c
          refine x_iconst (v := (-1 : Int32)) rfl rfl ?_
          exact x_iret rfl rfl h
        · have h := h.2 c
          refine x_bipush (v := (10 : Int32)) rfl rfl ?_
          refine x_goto (tgt := 91) rfl rfl ?_
          exact x_iret rfl rfl h
      · have h := h.2 c
        refine x_bipush (v := (9 : Int32)) rfl rfl ?_
        refine x_goto (tgt := 91) rfl rfl ?_
        exact x_iret rfl rfl h
    · have q : x1 = (4 : Int32) := Int32.toInt_inj.mp q
      refine x_tabK (k := (4 : Int32)) (tgt := 92) q rfl (by decide) (by decide) rfl rfl ?_
      have h := h.2.2.2.2.1 q
      refine x_aload_n rfl rfl ?_
      refine x_ldcS (k := 16) (tx := "frame") rfl (List.mem_of_getElem? (i := 16) rfl) rfl ?_
      refine x_vi lm_Reader_139 vf_Reader_says k0 rfl rfl (Nat.le_of_ble_eq_true rfl) rfl h (fun r12 D11 h => ?_)
      refine x_if_eq (tgt := 106) rfl rfl (fun c => ?_) (fun c => ?_)
      · have h := h.1 c
        refine x_iconst (v := (-1 : Int32)) rfl rfl ?_
        exact x_iret rfl rfl h
      · have h := h.2 c
        refine x_bipush (v := (11 : Int32)) rfl rfl ?_
        refine x_goto (tgt := 107) rfl rfl ?_
        exact x_iret rfl rfl h
theorem s_Reader_tableForm_0 {d : Nat} {D : xD} {Q : Option Value → xD → Prop} {a0 : Nat} (k0 : xk a0 = 6) (h : xCi d m_Reader_says [.ref a0, .ref (100000 + 0)] D (fun r2 D1 => (r2 = 0 → xCi d m_Reader_says [.ref a0, .ref (100000 + 1)] D1 (fun r4 D3 => (r4 = 0 → xCi d m_Reader_says [.ref a0, .ref (100000 + 2)] D3 (fun r6 D5 => (r6 = 0 → xCi d m_Reader_says [.ref a0, .ref (100000 + 3)] D5 (fun r8 D7 => (r8 = 0 → xCi d m_Reader_says [.ref a0, .ref (100000 + 4)] D7 (fun r10 D9 => (r10 = 0 → xCi d m_Reader_says [.ref a0, .ref (100000 + 5)] D9 (fun r12 D11 => (r12 = 0 → xCi d m_Reader_says [.ref a0, .ref (100000 + 6)] D11 (fun r14 D13 => (r14 = 0 → xCi d m_Reader_says [.ref a0, .ref (100000 + 7)] D13 (fun r16 D15 => (r16 = 0 → Q (some (.int (-1 : Int32))) D15) ∧ (¬ r16 = 0 → Q (some (.int (7 : Int32))) D15))) ∧ (¬ r14 = 0 → Q (some (.int (6 : Int32))) D13))) ∧ (¬ r12 = 0 → Q (some (.int (5 : Int32))) D11))) ∧ (¬ r10 = 0 → Q (some (.int (4 : Int32))) D9))) ∧ (¬ r8 = 0 → Q (some (.int (3 : Int32))) D7))) ∧ (¬ r6 = 0 → Q (some (.int (2 : Int32))) D5))) ∧ (¬ r4 = 0 → Q (some (.int (1 : Int32))) D3))) ∧ (¬ r2 = 0 → Q (some (.int (0 : Int32))) D1))) : xPf (d + 1) m_Reader_tableForm 0 [(0, .ref a0)] [] D Q := by
  refine x_aload_n rfl rfl ?_
  refine x_ldcS (k := 0) (tx := "kinds") rfl (List.mem_of_getElem? (i := 0) rfl) rfl ?_
  refine x_vi lm_Reader_139 vf_Reader_says k0 rfl rfl (Nat.le_of_ble_eq_true rfl) rfl h (fun r2 D1 h => ?_)
  refine x_if_eq (tgt := 11) rfl rfl (fun c => ?_) (fun c => ?_)
  · have h := h.1 c
    refine x_aload_n rfl rfl ?_
    refine x_ldcS (k := 1) (tx := "copies") rfl (List.mem_of_getElem? (i := 1) rfl) rfl ?_
    refine x_vi lm_Reader_139 vf_Reader_says k0 rfl rfl (Nat.le_of_ble_eq_true rfl) rfl h (fun r4 D3 h => ?_)
    refine x_if_eq (tgt := 22) rfl rfl (fun c => ?_) (fun c => ?_)
    · have h := h.1 c
      refine x_aload_n rfl rfl ?_
      refine x_ldcS (k := 2) (tx := "alike") rfl (List.mem_of_getElem? (i := 2) rfl) rfl ?_
      refine x_vi lm_Reader_139 vf_Reader_says k0 rfl rfl (Nat.le_of_ble_eq_true rfl) rfl h (fun r6 D5 h => ?_)
      refine x_if_eq (tgt := 33) rfl rfl (fun c => ?_) (fun c => ?_)
      · have h := h.1 c
        refine x_aload_n rfl rfl ?_
        refine x_ldcS (k := 3) (tx := "letters") rfl (List.mem_of_getElem? (i := 3) rfl) rfl ?_
        refine x_vi lm_Reader_139 vf_Reader_says k0 rfl rfl (Nat.le_of_ble_eq_true rfl) rfl h (fun r8 D7 h => ?_)
        refine x_if_eq (tgt := 44) rfl rfl (fun c => ?_) (fun c => ?_)
        · have h := h.1 c
          refine x_aload_n rfl rfl ?_
          refine x_ldcS (k := 4) (tx := "out") rfl (List.mem_of_getElem? (i := 4) rfl) rfl ?_
          refine x_vi lm_Reader_139 vf_Reader_says k0 rfl rfl (Nat.le_of_ble_eq_true rfl) rfl h (fun r10 D9 h => ?_)
          refine x_if_eq (tgt := 55) rfl rfl (fun c => ?_) (fun c => ?_)
          · have h := h.1 c
            refine x_aload_n rfl rfl ?_
            refine x_ldcS (k := 5) (tx := "person") rfl (List.mem_of_getElem? (i := 5) rfl) rfl ?_
            refine x_vi lm_Reader_139 vf_Reader_says k0 rfl rfl (Nat.le_of_ble_eq_true rfl) rfl h (fun r12 D11 h => ?_)
            refine x_if_eq (tgt := 66) rfl rfl (fun c => ?_) (fun c => ?_)
            · have h := h.1 c
              refine x_aload_n rfl rfl ?_
              refine x_ldcS (k := 6) (tx := "jumpy") rfl (List.mem_of_getElem? (i := 6) rfl) rfl ?_
              refine x_vi lm_Reader_139 vf_Reader_says k0 rfl rfl (Nat.le_of_ble_eq_true rfl) rfl h (fun r14 D13 h => ?_)
              refine x_if_eq (tgt := 78) rfl rfl (fun c => ?_) (fun c => ?_)
              · have h := h.1 c
                refine x_aload_n rfl rfl ?_
                refine x_ldcS (k := 7) (tx := "law") rfl (List.mem_of_getElem? (i := 7) rfl) rfl ?_
                refine x_vi lm_Reader_139 vf_Reader_says k0 rfl rfl (Nat.le_of_ble_eq_true rfl) rfl h (fun r16 D15 h => ?_)
                refine x_if_eq (tgt := 92) rfl rfl (fun c => ?_) (fun c => ?_)
                · have h := h.1 c
                  refine x_iconst (v := (-1 : Int32)) rfl rfl ?_
                  exact x_iret rfl rfl h
                · have h := h.2 c
                  refine x_bipush (v := (7 : Int32)) rfl rfl ?_
                  refine x_goto (tgt := 93) rfl rfl ?_
                  exact x_iret rfl rfl h
              · have h := h.2 c
                refine x_bipush (v := (6 : Int32)) rfl rfl ?_
                exact x_iret rfl rfl h
            · have h := h.2 c
              refine x_iconst (v := (5 : Int32)) rfl rfl ?_
              exact x_iret rfl rfl h
          · have h := h.2 c
            refine x_iconst (v := (4 : Int32)) rfl rfl ?_
            exact x_iret rfl rfl h
        · have h := h.2 c
          refine x_iconst (v := (3 : Int32)) rfl rfl ?_
          exact x_iret rfl rfl h
      · have h := h.2 c
        refine x_iconst (v := (2 : Int32)) rfl rfl ?_
        exact x_iret rfl rfl h
    · have h := h.2 c
      refine x_iconst (v := (1 : Int32)) rfl rfl ?_
      exact x_iret rfl rfl h
  · have h := h.2 c
    refine x_iconst (v := (0 : Int32)) rfl rfl ?_
    exact x_iret rfl rfl h
theorem s_Reader_deedForm_0 {d : Nat} {D : xD} {Q : Option Value → xD → Prop} {a0 : Nat} (k0 : xk a0 = 6) (h : xCi d m_Reader_says [.ref a0, .ref (100000 + 9)] D (fun r2 D1 => (r2 = 0 → xCi d m_Reader_says [.ref a0, .ref (100000 + 10)] D1 (fun r4 D3 => (r4 = 0 → xCi d m_Reader_says [.ref a0, .ref (100000 + 11)] D3 (fun r6 D5 => (r6 = 0 → xCi d m_Reader_says [.ref a0, .ref (100000 + 12)] D5 (fun r8 D7 => (r8 = 0 → xCi d m_Reader_says [.ref a0, .ref (100000 + 13)] D7 (fun r10 D9 => (r10 = 0 → Q (some (.int (-1 : Int32))) D9) ∧ (¬ r10 = 0 → Q (some (.int (24 : Int32))) D9))) ∧ (¬ r8 = 0 → Q (some (.int (23 : Int32))) D7))) ∧ (¬ r6 = 0 → Q (some (.int (22 : Int32))) D5))) ∧ (¬ r4 = 0 → Q (some (.int (21 : Int32))) D3))) ∧ (¬ r2 = 0 → Q (some (.int (20 : Int32))) D1))) : xPf (d + 1) m_Reader_deedForm 0 [(0, .ref a0)] [] D Q := by
  refine x_aload_n rfl rfl ?_
  refine x_ldcS (k := 9) (tx := "take") rfl (List.mem_of_getElem? (i := 9) rfl) rfl ?_
  refine x_vi lm_Reader_139 vf_Reader_says k0 rfl rfl (Nat.le_of_ble_eq_true rfl) rfl h (fun r2 D1 h => ?_)
  refine x_if_eq (tgt := 12) rfl rfl (fun c => ?_) (fun c => ?_)
  · have h := h.1 c
    refine x_aload_n rfl rfl ?_
    refine x_ldcS (k := 10) (tx := "hand") rfl (List.mem_of_getElem? (i := 10) rfl) rfl ?_
    refine x_vi lm_Reader_139 vf_Reader_says k0 rfl rfl (Nat.le_of_ble_eq_true rfl) rfl h (fun r4 D3 h => ?_)
    refine x_if_eq (tgt := 24) rfl rfl (fun c => ?_) (fun c => ?_)
    · have h := h.1 c
      refine x_aload_n rfl rfl ?_
      refine x_ldcS (k := 11) (tx := "reach") rfl (List.mem_of_getElem? (i := 11) rfl) rfl ?_
      refine x_vi lm_Reader_139 vf_Reader_says k0 rfl rfl (Nat.le_of_ble_eq_true rfl) rfl h (fun r6 D5 h => ?_)
      refine x_if_eq (tgt := 36) rfl rfl (fun c => ?_) (fun c => ?_)
      · have h := h.1 c
        refine x_aload_n rfl rfl ?_
        refine x_ldcS (k := 12) (tx := "feint") rfl (List.mem_of_getElem? (i := 12) rfl) rfl ?_
        refine x_vi lm_Reader_139 vf_Reader_says k0 rfl rfl (Nat.le_of_ble_eq_true rfl) rfl h (fun r8 D7 h => ?_)
        refine x_if_eq (tgt := 48) rfl rfl (fun c => ?_) (fun c => ?_)
        · have h := h.1 c
          refine x_aload_n rfl rfl ?_
          refine x_ldcS (k := 13) (tx := "pass") rfl (List.mem_of_getElem? (i := 13) rfl) rfl ?_
          refine x_vi lm_Reader_139 vf_Reader_says k0 rfl rfl (Nat.le_of_ble_eq_true rfl) rfl h (fun r10 D9 h => ?_)
          refine x_if_eq (tgt := 62) rfl rfl (fun c => ?_) (fun c => ?_)
          · have h := h.1 c
            refine x_iconst (v := (-1 : Int32)) rfl rfl ?_
            exact x_iret rfl rfl h
          · have h := h.2 c
            refine x_bipush (v := (24 : Int32)) rfl rfl ?_
            refine x_goto (tgt := 63) rfl rfl ?_
            exact x_iret rfl rfl h
        · have h := h.2 c
          refine x_bipush (v := (23 : Int32)) rfl rfl ?_
          exact x_iret rfl rfl h
      · have h := h.2 c
        refine x_bipush (v := (22 : Int32)) rfl rfl ?_
        exact x_iret rfl rfl h
    · have h := h.2 c
      refine x_bipush (v := (21 : Int32)) rfl rfl ?_
      exact x_iret rfl rfl h
  · have h := h.2 c
    refine x_bipush (v := (20 : Int32)) rfl rfl ?_
    exact x_iret rfl rfl h
theorem s_Reader_leastNumbers_0 {d : Nat} {D : xD} {Q : Option Value → xD → Prop} {x0 : Int32}  (h : (¬ x0 = (5 : Int32) → (¬ x0 = (21 : Int32) → Q (some (.int (1 : Int32))) D) ∧ (x0 = (21 : Int32) → Q (some (.int (2 : Int32))) D)) ∧ (x0 = (5 : Int32) → Q (some (.int (4 : Int32))) D)) : xPf (d + 1) m_Reader_leastNumbers 0 [(0, .int x0)] [] D Q := by
  refine x_iload_n rfl rfl ?_
  refine x_iconst (v := (5 : Int32)) rfl rfl ?_
  refine x_icmp_ne (tgt := 7) rfl rfl (fun c => ?_) (fun c => ?_)
  · have h := h.1 c
    refine x_iload_n rfl rfl ?_
    refine x_bipush (v := (21 : Int32)) rfl rfl ?_
    refine x_icmp_ne (tgt := 17) rfl rfl (fun c => ?_) (fun c => ?_)
    · have h := h.1 c
      refine x_iconst (v := (1 : Int32)) rfl rfl ?_
      exact x_iret rfl rfl h
    · have h := h.2 c
      refine x_iconst (v := (2 : Int32)) rfl rfl ?_
      refine x_goto (tgt := 18) rfl rfl ?_
      exact x_iret rfl rfl h
  · have h := h.2 c
    refine x_iconst (v := (4 : Int32)) rfl rfl ?_
    exact x_iret rfl rfl h
theorem s_Reader_mostNumbers_0 {d : Nat} {D : xD} {Q : Option Value → xD → Prop} {x0 : Int32}  (h : (x0 = (8 : Int32) → Q (some (.int (600 : Int32))) D) ∧ (x0 = (9 : Int32) → Q (some (.int (600 : Int32))) D) ∧ (x0 = (10 : Int32) → Q (some (.int (600 : Int32))) D) ∧ (x0 = (11 : Int32) → Q (some (.int (600 : Int32))) D) ∧ (((x0).toInt < 8 ∨ 11 < (x0).toInt) → xCi d m_Reader_leastNumbers [.int x0] D (fun r2 D1 => Q (some (.int r2)) D1))) : xPf (d + 1) m_Reader_mostNumbers 0 [(0, .int x0)] [] D Q := by
  refine x_iload_n rfl rfl ?_
  rcases Decidable.em ((x0).toInt < 8 ∨ 11 < (x0).toInt) with q | q
  · refine x_tableOut (tgt := 36) rfl q rfl ?_
    have h := h.2.2.2.2 q
    refine x_iload_n rfl rfl ?_
    refine x_si lm_Reader_110 sf_Reader_leastNumbers rfl rfl (Nat.le_of_ble_eq_true rfl) rfl h (fun r2 D1 h => ?_)
    exact x_iret rfl rfl h
  · have q : (x0).toInt = 8 ∨ (x0).toInt = 9 ∨ (x0).toInt = 10 ∨ (x0).toInt = 11 := by omega
    rcases q with q | q | q | q
    · have q : x0 = (8 : Int32) := Int32.toInt_inj.mp q
      refine x_tabK (k := (8 : Int32)) (tgt := 32) q rfl (by decide) (by decide) rfl rfl ?_
      have h := h.1 q
      refine x_sipush (v := (600 : Int32)) rfl rfl ?_
      exact x_iret rfl rfl h
    · have q : x0 = (9 : Int32) := Int32.toInt_inj.mp q
      refine x_tabK (k := (9 : Int32)) (tgt := 32) q rfl (by decide) (by decide) rfl rfl ?_
      have h := h.2.1 q
      refine x_sipush (v := (600 : Int32)) rfl rfl ?_
      exact x_iret rfl rfl h
    · have q : x0 = (10 : Int32) := Int32.toInt_inj.mp q
      refine x_tabK (k := (10 : Int32)) (tgt := 32) q rfl (by decide) (by decide) rfl rfl ?_
      have h := h.2.2.1 q
      refine x_sipush (v := (600 : Int32)) rfl rfl ?_
      exact x_iret rfl rfl h
    · have q : x0 = (11 : Int32) := Int32.toInt_inj.mp q
      refine x_tabK (k := (11 : Int32)) (tgt := 32) q rfl (by decide) (by decide) rfl rfl ?_
      have h := h.2.2.2.1 q
      refine x_sipush (v := (600 : Int32)) rfl rfl ?_
      exact x_iret rfl rfl h
theorem s_Reader_tell_0 {d : Nat} {D : xD} {Q : Option Value → xD → Prop} {a0 : Nat} {x1 : Int32} {x2 : Int32} (k0 : xk a0 = 6) (h : (x1 = (5 : Int32) → xCv d m_Reader_tellPerson [.ref a0, .int x2] D (fun D3 => Q none D3)) ∧ (x1 = (6 : Int32) → xCv d m_Reader_tellJumpy [.ref a0] D (fun D4 => Q none D4)) ∧ (x1 = (7 : Int32) → xCv d m_Reader_tellLaw [.ref a0] D (fun D5 => Q none D5)) ∧ (x1 = (8 : Int32) → xCv d m_Reader_tellKinds [.ref a0, .ref ((a0 + 3) + 6)] D (fun D6 => Q none D6)) ∧ (x1 = (9 : Int32) → xCv d m_Reader_tellKinds [.ref a0, .ref ((a0 + 3) + 10)] D (fun D7 => Q none D7)) ∧ (x1 = (10 : Int32) → xCv d m_Reader_tellKinds [.ref a0, .ref ((a0 + 3) + 12)] D (fun D8 => Q none D8)) ∧ (x1 = (11 : Int32) → xCv d m_Reader_tellFrame [.ref a0, .int x2] D (fun D9 => Q none D9)) ∧ (((x1).toInt < 5 ∨ 11 < (x1).toInt) → (x1 < (20 : Int32) → xCv d m_Reader_tellNumber [.ref a0, .int x1] D (fun D1 => Q none D1)) ∧ (¬ x1 < (20 : Int32) → xCv d m_Reader_tellDeed [.ref a0, .int (x1 - (20 : Int32)), .int x2] D (fun D2 => Q none D2)))) : xPf (d + 1) m_Reader_tell 0 [(0, .ref a0), (1, .int x1), (2, .int x2)] [] D Q := by
  refine x_iload_n rfl rfl ?_
  rcases Decidable.em ((x1).toInt < 5 ∨ 11 < (x1).toInt) with q | q
  · refine x_tableOut (tgt := 116) rfl q rfl ?_
    have h := h.2.2.2.2.2.2.2 q
    refine x_iload_n rfl rfl ?_
    refine x_bipush (v := (20 : Int32)) rfl rfl ?_
    refine x_icmp_lt (tgt := 134) rfl rfl (fun c => ?_) (fun c => ?_)
    · have h := h.1 c
      refine x_aload_n rfl rfl ?_
      refine x_iload_n rfl rfl ?_
      refine x_vv lm_Reader_212 vf_Reader_tellNumber k0 rfl rfl (Nat.le_of_ble_eq_true rfl) rfl h (fun D1 h => ?_)
      exact x_vret rfl rfl h
    · have h := h.2 c
      refine x_aload_n rfl rfl ?_
      refine x_iload_n rfl rfl ?_
      refine x_bipush (v := (20 : Int32)) rfl rfl ?_
      refine x_isub rfl ?_
      refine x_iload_n rfl rfl ?_
      refine x_vv lm_Reader_209 vf_Reader_tellDeed k0 rfl rfl (Nat.le_of_ble_eq_true rfl) rfl h (fun D2 h => ?_)
      refine x_goto (tgt := 139) rfl rfl ?_
      exact x_vret rfl rfl h
  · have q : (x1).toInt = 5 ∨ (x1).toInt = 6 ∨ (x1).toInt = 7 ∨ (x1).toInt = 8 ∨ (x1).toInt = 9 ∨ (x1).toInt = 10 ∨ (x1).toInt = 11 := by omega
    rcases q with q | q | q | q | q | q | q
    · have q : x1 = (5 : Int32) := Int32.toInt_inj.mp q
      refine x_tabK (k := (5 : Int32)) (tgt := 44) q rfl (by decide) (by decide) rfl rfl ?_
      have h := h.1 q
      refine x_aload_n rfl rfl ?_
      refine x_iload_n rfl rfl ?_
      refine x_vv lm_Reader_187 vf_Reader_tellPerson k0 rfl rfl (Nat.le_of_ble_eq_true rfl) rfl h (fun D3 h => ?_)
      refine x_goto (tgt := 139) rfl rfl ?_
      exact x_vret rfl rfl h
    · have q : x1 = (6 : Int32) := Int32.toInt_inj.mp q
      refine x_tabK (k := (6 : Int32)) (tgt := 52) q rfl (by decide) (by decide) rfl rfl ?_
      have h := h.2.1 q
      refine x_aload_n rfl rfl ?_
      refine x_vv lm_Reader_190 vf_Reader_tellJumpy k0 rfl rfl (Nat.le_of_ble_eq_true rfl) rfl h (fun D4 h => ?_)
      refine x_goto (tgt := 139) rfl rfl ?_
      exact x_vret rfl rfl h
    · have q : x1 = (7 : Int32) := Int32.toInt_inj.mp q
      refine x_tabK (k := (7 : Int32)) (tgt := 59) q rfl (by decide) (by decide) rfl rfl ?_
      have h := h.2.2.1 q
      refine x_aload_n rfl rfl ?_
      refine x_vv lm_Reader_193 vf_Reader_tellLaw k0 rfl rfl (Nat.le_of_ble_eq_true rfl) rfl h (fun D5 h => ?_)
      refine x_goto (tgt := 139) rfl rfl ?_
      exact x_vret rfl rfl h
    · have q : x1 = (8 : Int32) := Int32.toInt_inj.mp q
      refine x_tabK (k := (8 : Int32)) (tgt := 66) q rfl (by decide) (by decide) rfl rfl ?_
      have h := h.2.2.2.1 q
      refine x_aload_n rfl rfl ?_
      refine x_aload_n rfl rfl ?_
      refine x_gR lf_Reader_23 k0 rfl rfl ?_
      refine x_gR lf_Reader_196 (ck_6_1 k0) rfl rfl ?_
      refine x_vv lm_Reader_198 vf_Reader_tellKinds k0 rfl rfl (Nat.le_of_ble_eq_true rfl) rfl h (fun D6 h => ?_)
      refine x_goto (tgt := 139) rfl rfl ?_
      exact x_vret rfl rfl h
    · have q : x1 = (9 : Int32) := Int32.toInt_inj.mp q
      refine x_tabK (k := (9 : Int32)) (tgt := 80) q rfl (by decide) (by decide) rfl rfl ?_
      have h := h.2.2.2.2.1 q
      refine x_aload_n rfl rfl ?_
      refine x_aload_n rfl rfl ?_
      refine x_gR lf_Reader_23 k0 rfl rfl ?_
      refine x_gR lf_Reader_201 (ck_6_1 k0) rfl rfl ?_
      refine x_vv lm_Reader_198 vf_Reader_tellKinds k0 rfl rfl (Nat.le_of_ble_eq_true rfl) rfl h (fun D7 h => ?_)
      refine x_goto (tgt := 139) rfl rfl ?_
      exact x_vret rfl rfl h
    · have q : x1 = (10 : Int32) := Int32.toInt_inj.mp q
      refine x_tabK (k := (10 : Int32)) (tgt := 94) q rfl (by decide) (by decide) rfl rfl ?_
      have h := h.2.2.2.2.2.1 q
      refine x_aload_n rfl rfl ?_
      refine x_aload_n rfl rfl ?_
      refine x_gR lf_Reader_23 k0 rfl rfl ?_
      refine x_gR lf_Reader_204 (ck_6_1 k0) rfl rfl ?_
      refine x_vv lm_Reader_198 vf_Reader_tellKinds k0 rfl rfl (Nat.le_of_ble_eq_true rfl) rfl h (fun D8 h => ?_)
      refine x_goto (tgt := 139) rfl rfl ?_
      exact x_vret rfl rfl h
    · have q : x1 = (11 : Int32) := Int32.toInt_inj.mp q
      refine x_tabK (k := (11 : Int32)) (tgt := 108) q rfl (by decide) (by decide) rfl rfl ?_
      have h := h.2.2.2.2.2.2.1 q
      refine x_aload_n rfl rfl ?_
      refine x_iload_n rfl rfl ?_
      refine x_vv lm_Reader_206 vf_Reader_tellFrame k0 rfl rfl (Nat.le_of_ble_eq_true rfl) rfl h (fun D9 h => ?_)
      refine x_goto (tgt := 139) rfl rfl ?_
      exact x_vret rfl rfl h
theorem s_Reader_tellNumber_0 {d : Nat} {D : xD} {Q : Option Value → xD → Prop} {a0 : Nat} {x1 : Int32} (k0 : xk a0 = 6) (h : (x1 = (0 : Int32) → xCv d m_Reader_check [.ref a0, .int (0 : Int32), .int (2 : Int32), .int (13 : Int32)] D (fun D5 => xCi d m_Row_get [.ref (a0 + 22), .int (0 : Int32)] D5 (fun r7 D6 => xCv d m_Table_setNumber [.ref ((a0 + 3) + 1), .int x1, .int r7] D6 (fun D8 => Q none D8)))) ∧ (x1 = (1 : Int32) → xCv d m_Reader_check [.ref a0, .int (0 : Int32), .int (1 : Int32), .int (4 : Int32)] D (fun D9 => xCi d m_Row_get [.ref (a0 + 22), .int (0 : Int32)] D9 (fun r11 D10 => xCv d m_Table_setNumber [.ref ((a0 + 3) + 1), .int x1, .int r11] D10 (fun D12 => Q none D12)))) ∧ (x1 = (2 : Int32) → xCv d m_Reader_check [.ref a0, .int (0 : Int32), .int (2 : Int32), .int (4 : Int32)] D (fun D13 => xCi d m_Row_get [.ref (a0 + 22), .int (0 : Int32)] D13 (fun r15 D14 => xCv d m_Table_setNumber [.ref ((a0 + 3) + 1), .int x1, .int r15] D14 (fun D16 => Q none D16)))) ∧ (x1 = (3 : Int32) → xCv d m_Reader_check [.ref a0, .int (0 : Int32), .int (1 : Int32), .int (9 : Int32)] D (fun D17 => xCi d m_Row_get [.ref (a0 + 22), .int (0 : Int32)] D17 (fun r19 D18 => xCv d m_Table_setNumber [.ref ((a0 + 3) + 1), .int x1, .int r19] D18 (fun D20 => Q none D20)))) ∧ (((x1).toInt < 0 ∨ 3 < (x1).toInt) → xCv d m_Reader_check [.ref a0, .int (0 : Int32), .int (0 : Int32), .int (9 : Int32)] D (fun D1 => xCi d m_Row_get [.ref (a0 + 22), .int (0 : Int32)] D1 (fun r3 D2 => xCv d m_Table_setNumber [.ref ((a0 + 3) + 1), .int x1, .int r3] D2 (fun D4 => Q none D4))))) : xPf (d + 1) m_Reader_tellNumber 0 [(0, .ref a0), (1, .int x1)] [] D Q := by
  refine x_iload_n rfl rfl ?_
  rcases Decidable.em ((x1).toInt < 0 ∨ 3 < (x1).toInt) with q | q
  · refine x_tableOut (tgt := 74) rfl q rfl ?_
    have h := h.2.2.2.2 q
    refine x_aload_n rfl rfl ?_
    refine x_iconst (v := (0 : Int32)) rfl rfl ?_
    refine x_iconst (v := (0 : Int32)) rfl rfl ?_
    refine x_bipush (v := (9 : Int32)) rfl rfl ?_
    refine x_vv lm_Reader_215 vf_Reader_check k0 rfl rfl (Nat.le_of_ble_eq_true rfl) rfl h (fun D1 h => ?_)
    refine x_aload_n rfl rfl ?_
    refine x_gR lf_Reader_23 k0 rfl rfl ?_
    refine x_gR lf_Reader_81 (ck_6_1 k0) rfl rfl ?_
    refine x_iload_n rfl rfl ?_
    refine x_aload_n rfl rfl ?_
    refine x_gR lf_Reader_27 k0 rfl rfl ?_
    refine x_iconst (v := (0 : Int32)) rfl rfl ?_
    refine x_vi lm_Reader_219 vf_Row_get (ck_6_2 k0) rfl rfl (Nat.le_of_ble_eq_true rfl) rfl h (fun r3 D2 h => ?_)
    refine x_vv lm_Reader_222 vf_Table_setNumber (ck_3_0 (ck_6_1 k0)) rfl rfl (Nat.le_of_ble_eq_true rfl) rfl h (fun D4 h => ?_)
    exact x_vret rfl rfl h
  · have q : (x1).toInt = 0 ∨ (x1).toInt = 1 ∨ (x1).toInt = 2 ∨ (x1).toInt = 3 := by omega
    rcases q with q | q | q | q
    · have q : x1 = (0 : Int32) := Int32.toInt_inj.mp q
      refine x_tabK (k := (0 : Int32)) (tgt := 32) q rfl (by decide) (by decide) rfl rfl ?_
      have h := h.1 q
      refine x_aload_n rfl rfl ?_
      refine x_iconst (v := (0 : Int32)) rfl rfl ?_
      refine x_iconst (v := (2 : Int32)) rfl rfl ?_
      refine x_bipush (v := (13 : Int32)) rfl rfl ?_
      refine x_vv lm_Reader_215 vf_Reader_check k0 rfl rfl (Nat.le_of_ble_eq_true rfl) rfl h (fun D5 h => ?_)
      refine x_goto (tgt := 82) rfl rfl ?_
      refine x_aload_n rfl rfl ?_
      refine x_gR lf_Reader_23 k0 rfl rfl ?_
      refine x_gR lf_Reader_81 (ck_6_1 k0) rfl rfl ?_
      refine x_iload_n rfl rfl ?_
      refine x_aload_n rfl rfl ?_
      refine x_gR lf_Reader_27 k0 rfl rfl ?_
      refine x_iconst (v := (0 : Int32)) rfl rfl ?_
      refine x_vi lm_Reader_219 vf_Row_get (ck_6_2 k0) rfl rfl (Nat.le_of_ble_eq_true rfl) rfl h (fun r7 D6 h => ?_)
      refine x_vv lm_Reader_222 vf_Table_setNumber (ck_3_0 (ck_6_1 k0)) rfl rfl (Nat.le_of_ble_eq_true rfl) rfl h (fun D8 h => ?_)
      exact x_vret rfl rfl h
    · have q : x1 = (1 : Int32) := Int32.toInt_inj.mp q
      refine x_tabK (k := (1 : Int32)) (tgt := 43) q rfl (by decide) (by decide) rfl rfl ?_
      have h := h.2.1 q
      refine x_aload_n rfl rfl ?_
      refine x_iconst (v := (0 : Int32)) rfl rfl ?_
      refine x_iconst (v := (1 : Int32)) rfl rfl ?_
      refine x_iconst (v := (4 : Int32)) rfl rfl ?_
      refine x_vv lm_Reader_215 vf_Reader_check k0 rfl rfl (Nat.le_of_ble_eq_true rfl) rfl h (fun D9 h => ?_)
      refine x_goto (tgt := 82) rfl rfl ?_
      refine x_aload_n rfl rfl ?_
      refine x_gR lf_Reader_23 k0 rfl rfl ?_
      refine x_gR lf_Reader_81 (ck_6_1 k0) rfl rfl ?_
      refine x_iload_n rfl rfl ?_
      refine x_aload_n rfl rfl ?_
      refine x_gR lf_Reader_27 k0 rfl rfl ?_
      refine x_iconst (v := (0 : Int32)) rfl rfl ?_
      refine x_vi lm_Reader_219 vf_Row_get (ck_6_2 k0) rfl rfl (Nat.le_of_ble_eq_true rfl) rfl h (fun r11 D10 h => ?_)
      refine x_vv lm_Reader_222 vf_Table_setNumber (ck_3_0 (ck_6_1 k0)) rfl rfl (Nat.le_of_ble_eq_true rfl) rfl h (fun D12 h => ?_)
      exact x_vret rfl rfl h
    · have q : x1 = (2 : Int32) := Int32.toInt_inj.mp q
      refine x_tabK (k := (2 : Int32)) (tgt := 53) q rfl (by decide) (by decide) rfl rfl ?_
      have h := h.2.2.1 q
      refine x_aload_n rfl rfl ?_
      refine x_iconst (v := (0 : Int32)) rfl rfl ?_
      refine x_iconst (v := (2 : Int32)) rfl rfl ?_
      refine x_iconst (v := (4 : Int32)) rfl rfl ?_
      refine x_vv lm_Reader_215 vf_Reader_check k0 rfl rfl (Nat.le_of_ble_eq_true rfl) rfl h (fun D13 h => ?_)
      refine x_goto (tgt := 82) rfl rfl ?_
      refine x_aload_n rfl rfl ?_
      refine x_gR lf_Reader_23 k0 rfl rfl ?_
      refine x_gR lf_Reader_81 (ck_6_1 k0) rfl rfl ?_
      refine x_iload_n rfl rfl ?_
      refine x_aload_n rfl rfl ?_
      refine x_gR lf_Reader_27 k0 rfl rfl ?_
      refine x_iconst (v := (0 : Int32)) rfl rfl ?_
      refine x_vi lm_Reader_219 vf_Row_get (ck_6_2 k0) rfl rfl (Nat.le_of_ble_eq_true rfl) rfl h (fun r15 D14 h => ?_)
      refine x_vv lm_Reader_222 vf_Table_setNumber (ck_3_0 (ck_6_1 k0)) rfl rfl (Nat.le_of_ble_eq_true rfl) rfl h (fun D16 h => ?_)
      exact x_vret rfl rfl h
    · have q : x1 = (3 : Int32) := Int32.toInt_inj.mp q
      refine x_tabK (k := (3 : Int32)) (tgt := 63) q rfl (by decide) (by decide) rfl rfl ?_
      have h := h.2.2.2.1 q
      refine x_aload_n rfl rfl ?_
      refine x_iconst (v := (0 : Int32)) rfl rfl ?_
      refine x_iconst (v := (1 : Int32)) rfl rfl ?_
      refine x_bipush (v := (9 : Int32)) rfl rfl ?_
      refine x_vv lm_Reader_215 vf_Reader_check k0 rfl rfl (Nat.le_of_ble_eq_true rfl) rfl h (fun D17 h => ?_)
      refine x_goto (tgt := 82) rfl rfl ?_
      refine x_aload_n rfl rfl ?_
      refine x_gR lf_Reader_23 k0 rfl rfl ?_
      refine x_gR lf_Reader_81 (ck_6_1 k0) rfl rfl ?_
      refine x_iload_n rfl rfl ?_
      refine x_aload_n rfl rfl ?_
      refine x_gR lf_Reader_27 k0 rfl rfl ?_
      refine x_iconst (v := (0 : Int32)) rfl rfl ?_
      refine x_vi lm_Reader_219 vf_Row_get (ck_6_2 k0) rfl rfl (Nat.le_of_ble_eq_true rfl) rfl h (fun r19 D18 h => ?_)
      refine x_vv lm_Reader_222 vf_Table_setNumber (ck_3_0 (ck_6_1 k0)) rfl rfl (Nat.le_of_ble_eq_true rfl) rfl h (fun D20 h => ?_)
      exact x_vret rfl rfl h
theorem s_Reader_tellPerson_0 {d : Nat} {D : xD} {Q : Option Value → xD → Prop} {a0 : Nat} {x1 : Int32} (k0 : xk a0 = 6) (h : xCi d m_Table_people [.ref ((a0 + 3) + 1)] D (fun r2 D1 => (r2 < (6 : Int32) → xCv d m_Reader_check [.ref a0, .int (0 : Int32), .int (1 : Int32), .int (9 : Int32)] D1 (fun D3 => xCv d m_Reader_check [.ref a0, .int (1 : Int32), .int (1 : Int32), .int (9 : Int32)] D3 (fun D4 => xCv d m_Reader_check [.ref a0, .int (2 : Int32), .int (0 : Int32), .int (9 : Int32)] D4 (fun D5 => xCv d m_Reader_check [.ref a0, .int (3 : Int32), .int (0 : Int32), .int (20 : Int32)] D5 (fun D6 => xCi d m_Table_people [.ref ((a0 + 3) + 1)] D6 (fun r8 D7 => ((6 : Int32) ≤ r8 → Q none D7) ∧ (¬ (6 : Int32) ≤ r8 → xPf (d + 1) m_Reader_tellPerson 66 [(0, .ref a0), (1, .int x1), (2, .ref ((a0 + 3) + 1)), (3, .int (0 : Int32))] [] D7 Q))))))) ∧ (¬ r2 < (6 : Int32) → xCv d m_Reader_note [.ref a0, .int (3 : Int32), .int x1] D1 (fun D9 => xCv d m_Reader_check [.ref a0, .int (0 : Int32), .int (1 : Int32), .int (9 : Int32)] D9 (fun D10 => xCv d m_Reader_check [.ref a0, .int (1 : Int32), .int (1 : Int32), .int (9 : Int32)] D10 (fun D11 => xCv d m_Reader_check [.ref a0, .int (2 : Int32), .int (0 : Int32), .int (9 : Int32)] D11 (fun D12 => xCv d m_Reader_check [.ref a0, .int (3 : Int32), .int (0 : Int32), .int (20 : Int32)] D12 (fun D13 => xCi d m_Table_people [.ref ((a0 + 3) + 1)] D13 (fun r15 D14 => ((6 : Int32) ≤ r15 → Q none D14) ∧ (¬ (6 : Int32) ≤ r15 → xPf (d + 1) m_Reader_tellPerson 66 [(0, .ref a0), (1, .int x1), (2, .ref ((a0 + 3) + 1)), (3, .int (0 : Int32))] [] D14 Q)))))))))) : xPf (d + 1) m_Reader_tellPerson 0 [(0, .ref a0), (1, .int x1)] [] D Q := by
  refine x_aload_n rfl rfl ?_
  refine x_gR lf_Reader_23 k0 rfl rfl ?_
  refine x_gR lf_Reader_81 (ck_6_1 k0) rfl rfl ?_
  refine x_astore_n (i := 2) (L1 := [(2, .ref ((a0 + 3) + 1)), (0, .ref a0), (1, .int x1)]) rfl rfl (Nat.le_of_ble_eq_true rfl) rfl ?_
  refine x_aload_n rfl rfl ?_
  refine x_vi lm_Reader_85 vf_Table_people (ck_3_0 (ck_6_1 k0)) rfl rfl (Nat.le_of_ble_eq_true rfl) rfl h (fun r2 D1 h => ?_)
  refine x_bipush (v := (6 : Int32)) rfl rfl ?_
  refine x_icmp_lt (tgt := 23) rfl rfl (fun c => ?_) (fun c => ?_)
  · have h := h.1 c
    refine x_aload_n rfl rfl ?_
    refine x_iconst (v := (0 : Int32)) rfl rfl ?_
    refine x_iconst (v := (1 : Int32)) rfl rfl ?_
    refine x_bipush (v := (9 : Int32)) rfl rfl ?_
    refine x_vv lm_Reader_215 vf_Reader_check k0 rfl rfl (Nat.le_of_ble_eq_true rfl) rfl h (fun D3 h => ?_)
    refine x_aload_n rfl rfl ?_
    refine x_iconst (v := (1 : Int32)) rfl rfl ?_
    refine x_iconst (v := (1 : Int32)) rfl rfl ?_
    refine x_bipush (v := (9 : Int32)) rfl rfl ?_
    refine x_vv lm_Reader_215 vf_Reader_check k0 rfl rfl (Nat.le_of_ble_eq_true rfl) rfl h (fun D4 h => ?_)
    refine x_aload_n rfl rfl ?_
    refine x_iconst (v := (2 : Int32)) rfl rfl ?_
    refine x_iconst (v := (0 : Int32)) rfl rfl ?_
    refine x_bipush (v := (9 : Int32)) rfl rfl ?_
    refine x_vv lm_Reader_215 vf_Reader_check k0 rfl rfl (Nat.le_of_ble_eq_true rfl) rfl h (fun D5 h => ?_)
    refine x_aload_n rfl rfl ?_
    refine x_iconst (v := (3 : Int32)) rfl rfl ?_
    refine x_iconst (v := (0 : Int32)) rfl rfl ?_
    refine x_bipush (v := (20 : Int32)) rfl rfl ?_
    refine x_vv lm_Reader_215 vf_Reader_check k0 rfl rfl (Nat.le_of_ble_eq_true rfl) rfl h (fun D6 h => ?_)
    refine x_aload_n rfl rfl ?_
    refine x_vi lm_Reader_85 vf_Table_people (ck_3_0 (ck_6_1 k0)) rfl rfl (Nat.le_of_ble_eq_true rfl) rfl h (fun r8 D7 h => ?_)
    refine x_bipush (v := (6 : Int32)) rfl rfl ?_
    refine x_icmp_ge (tgt := 105) rfl rfl (fun c => ?_) (fun c => ?_)
    · have h := h.1 c
      exact x_vret rfl rfl h
    · have h := h.2 c
      refine x_iconst (v := (0 : Int32)) rfl rfl ?_
      refine x_istore_n (i := 3) (L1 := [(3, .int (0 : Int32)), (2, .ref ((a0 + 3) + 1)), (0, .ref a0), (1, .int x1)]) rfl rfl (Nat.le_of_ble_eq_true rfl) rfl ?_
      exact xP_sub [2, 3, 1, 0] rfl h
  · have h := h.2 c
    refine x_aload_n rfl rfl ?_
    refine x_iconst (v := (3 : Int32)) rfl rfl ?_
    refine x_iload_n rfl rfl ?_
    refine x_vv lm_Reader_77 vf_Reader_note k0 rfl rfl (Nat.le_of_ble_eq_true rfl) rfl h (fun D9 h => ?_)
    refine x_aload_n rfl rfl ?_
    refine x_iconst (v := (0 : Int32)) rfl rfl ?_
    refine x_iconst (v := (1 : Int32)) rfl rfl ?_
    refine x_bipush (v := (9 : Int32)) rfl rfl ?_
    refine x_vv lm_Reader_215 vf_Reader_check k0 rfl rfl (Nat.le_of_ble_eq_true rfl) rfl h (fun D10 h => ?_)
    refine x_aload_n rfl rfl ?_
    refine x_iconst (v := (1 : Int32)) rfl rfl ?_
    refine x_iconst (v := (1 : Int32)) rfl rfl ?_
    refine x_bipush (v := (9 : Int32)) rfl rfl ?_
    refine x_vv lm_Reader_215 vf_Reader_check k0 rfl rfl (Nat.le_of_ble_eq_true rfl) rfl h (fun D11 h => ?_)
    refine x_aload_n rfl rfl ?_
    refine x_iconst (v := (2 : Int32)) rfl rfl ?_
    refine x_iconst (v := (0 : Int32)) rfl rfl ?_
    refine x_bipush (v := (9 : Int32)) rfl rfl ?_
    refine x_vv lm_Reader_215 vf_Reader_check k0 rfl rfl (Nat.le_of_ble_eq_true rfl) rfl h (fun D12 h => ?_)
    refine x_aload_n rfl rfl ?_
    refine x_iconst (v := (3 : Int32)) rfl rfl ?_
    refine x_iconst (v := (0 : Int32)) rfl rfl ?_
    refine x_bipush (v := (20 : Int32)) rfl rfl ?_
    refine x_vv lm_Reader_215 vf_Reader_check k0 rfl rfl (Nat.le_of_ble_eq_true rfl) rfl h (fun D13 h => ?_)
    refine x_aload_n rfl rfl ?_
    refine x_vi lm_Reader_85 vf_Table_people (ck_3_0 (ck_6_1 k0)) rfl rfl (Nat.le_of_ble_eq_true rfl) rfl h (fun r15 D14 h => ?_)
    refine x_bipush (v := (6 : Int32)) rfl rfl ?_
    refine x_icmp_ge (tgt := 105) rfl rfl (fun c => ?_) (fun c => ?_)
    · have h := h.1 c
      exact x_vret rfl rfl h
    · have h := h.2 c
      refine x_iconst (v := (0 : Int32)) rfl rfl ?_
      refine x_istore_n (i := 3) (L1 := [(3, .int (0 : Int32)), (2, .ref ((a0 + 3) + 1)), (0, .ref a0), (1, .int x1)]) rfl rfl (Nat.le_of_ble_eq_true rfl) rfl ?_
      exact xP_sub [2, 3, 1, 0] rfl h
theorem s_Reader_tellPerson_66 {d : Nat} {D : xD} {Q : Option Value → xD → Prop} {a0 : Nat} {x1 : Int32} {a2 : Nat} {x3 : Int32} (k0 : xk a0 = 6) (k2 : xk a2 = 4) (h : ((3 : Int32) < x3 → xCi d m_Table_people [.ref a2] D (fun r2 D1 => xCv d m_Table_setNumber [.ref a2, .int (5 : Int32), .int (r2 + (1 : Int32))] D1 (fun D3 => Q none D3))) ∧ (¬ (3 : Int32) < x3 → xCi d m_Table_people [.ref a2] D (fun r5 D4 => xCi d m_Row_get [.ref (a0 + 22), .int x3] D4 (fun r7 D6 => xCv d m_Table_setOf [.ref a2, .int r5, .int x3, .int r7] D6 (fun D8 => xPf (d + 1) m_Reader_tellPerson 66 [(0, .ref a0), (1, .int x1), (2, .ref a2), (3, .int (x3 + (1 : Int32)))] [] D8 Q))))) : xPf (d + 1) m_Reader_tellPerson 66 [(0, .ref a0), (1, .int x1), (2, .ref a2), (3, .int x3)] [] D Q := by
  refine x_iload_n rfl rfl ?_
  refine x_iconst (v := (3 : Int32)) rfl rfl ?_
  refine x_icmp_gt (tgt := 94) rfl rfl (fun c => ?_) (fun c => ?_)
  · have h := h.1 c
    refine x_aload_n rfl rfl ?_
    refine x_iconst (v := (5 : Int32)) rfl rfl ?_
    refine x_aload_n rfl rfl ?_
    refine x_vi lm_Reader_85 vf_Table_people k2 rfl rfl (Nat.le_of_ble_eq_true rfl) rfl h (fun r2 D1 h => ?_)
    refine x_iconst (v := (1 : Int32)) rfl rfl ?_
    refine x_iadd rfl ?_
    refine x_vv lm_Reader_222 vf_Table_setNumber k2 rfl rfl (Nat.le_of_ble_eq_true rfl) rfl h (fun D3 h => ?_)
    exact x_vret rfl rfl h
  · have h := h.2 c
    refine x_aload_n rfl rfl ?_
    refine x_aload_n rfl rfl ?_
    refine x_vi lm_Reader_85 vf_Table_people k2 rfl rfl (Nat.le_of_ble_eq_true rfl) rfl h (fun r5 D4 h => ?_)
    refine x_iload_n rfl rfl ?_
    refine x_aload_n rfl rfl ?_
    refine x_gR lf_Reader_27 k0 rfl rfl ?_
    refine x_iload_n rfl rfl ?_
    refine x_vi lm_Reader_219 vf_Row_get (ck_6_2 k0) rfl rfl (Nat.le_of_ble_eq_true rfl) rfl h (fun r7 D6 h => ?_)
    refine x_vv lm_Reader_225 vf_Table_setOf k2 rfl rfl (Nat.le_of_ble_eq_true rfl) rfl h (fun D8 h => ?_)
    refine x_iinc (i := 3) (v := x3 + (1 : Int32)) (L1 := [(3, .int (x3 + (1 : Int32))), (0, .ref a0), (1, .int x1), (2, .ref a2)]) rfl rfl rfl (Nat.le_of_ble_eq_true rfl) rfl ?_
    refine x_goto (tgt := 66) rfl rfl ?_
    exact xP_sub [1, 2, 3, 0] rfl h
theorem s_Reader_tellJumpy_0 {d : Nat} {D : xD} {Q : Option Value → xD → Prop} {a0 : Nat} (k0 : xk a0 = 6) (h : xCv d m_Reader_check [.ref a0, .int (0 : Int32), .int (0 : Int32), .int (5 : Int32)] D (fun D1 => xCi d m_Row_get [.ref (a0 + 22), .int (0 : Int32)] D1 (fun r3 D2 => ∀ r4 : Int32, r4 = (if (D1.1 a0 11) < r3 then r3 else (D1.1 a0 11)) → ∀ D5 : xD, D5 = (xu D2.1 a0 11 r4, D2.2) → xCi d m_Row_get [.ref (a0 + 22), .int (0 : Int32)] D5 (fun r7 D6 => xCv d m_Table_setOf [.ref ((a0 + 3) + 1), .int r7, .int (6 : Int32), .int (1 : Int32)] D6 (fun D8 => Q none D8))))) : xPf (d + 1) m_Reader_tellJumpy 0 [(0, .ref a0)] [] D Q := by
  refine x_aload_n rfl rfl ?_
  refine x_iconst (v := (0 : Int32)) rfl rfl ?_
  refine x_iconst (v := (0 : Int32)) rfl rfl ?_
  refine x_iconst (v := (5 : Int32)) rfl rfl ?_
  refine x_vv lm_Reader_215 vf_Reader_check k0 rfl rfl (Nat.le_of_ble_eq_true rfl) rfl h (fun D1 h => ?_)
  refine x_aload_n rfl rfl ?_
  refine x_aload_n rfl rfl ?_
  refine x_gI lf_Reader_54 k0 rfl rfl ?_
  refine x_aload_n rfl rfl ?_
  refine x_gR lf_Reader_27 k0 rfl rfl ?_
  refine x_iconst (v := (0 : Int32)) rfl rfl ?_
  refine x_vi lm_Reader_219 vf_Row_get (ck_6_2 k0) rfl rfl (Nat.le_of_ble_eq_true rfl) rfl h (fun r3 D2 h => ?_)
  refine x_mxn wd_713 (Nat.le_of_ble_eq_true rfl) rfl (fun r4 er4 => ?_)
  have h := h r4 er4
  refine x_pIn lp_Reader_54 nf_6_11 k0 rfl rfl (fun D5 eD5 => ?_)
  have h := h D5 eD5
  refine x_aload_n rfl rfl ?_
  refine x_gR lf_Reader_23 k0 rfl rfl ?_
  refine x_gR lf_Reader_81 (ck_6_1 k0) rfl rfl ?_
  refine x_aload_n rfl rfl ?_
  refine x_gR lf_Reader_27 k0 rfl rfl ?_
  refine x_iconst (v := (0 : Int32)) rfl rfl ?_
  refine x_vi lm_Reader_219 vf_Row_get (ck_6_2 k0) rfl rfl (Nat.le_of_ble_eq_true rfl) rfl h (fun r7 D6 h => ?_)
  refine x_bipush (v := (6 : Int32)) rfl rfl ?_
  refine x_iconst (v := (1 : Int32)) rfl rfl ?_
  refine x_vv lm_Reader_225 vf_Table_setOf (ck_3_0 (ck_6_1 k0)) rfl rfl (Nat.le_of_ble_eq_true rfl) rfl h (fun D8 h => ?_)
  exact x_vret rfl rfl h
theorem s_Reader_tellLaw_0 {d : Nat} {D : xD} {Q : Option Value → xD → Prop} {a0 : Nat} (k0 : xk a0 = 6) (h : xCi d m_Row_get [.ref (a0 + 22), .int (0 : Int32)] D (fun r2 D1 => xCv d m_Reader_check [.ref a0, .int (0 : Int32), .int (0 : Int32), .int (5 : Int32)] D1 (fun D3 => ∀ r4 : Int32, r4 = (if (D3.1 a0 11) < r2 then r2 else (D3.1 a0 11)) → ∀ D5 : xD, D5 = (xu D3.1 a0 11 r4, D3.2) → xCv d m_Table_setOf [.ref ((a0 + 3) + 1), .int r2, .int (4 : Int32), .int (D5.1 a0 7)] D5 (fun D6 => xCv d m_Table_setOf [.ref ((a0 + 3) + 1), .int r2, .int (5 : Int32), .int (-1 : Int32)] D6 (fun D7 => ((D7.1 a0 7) = (1 : Int32) → xCv d m_Reader_check [.ref a0, .int (1 : Int32), .int (0 : Int32), .int (12 : Int32)] D7 (fun D8 => xCi d m_Row_get [.ref (a0 + 22), .int (1 : Int32)] D8 (fun r10 D9 => ∀ r11 : Int32, r11 = (if (D8.1 a0 12) < r10 then r10 else (D8.1 a0 12)) → ∀ D12 : xD, D12 = (xu D9.1 a0 12 r11, D9.2) → xCi d m_Row_get [.ref (a0 + 22), .int (1 : Int32)] D12 (fun r14 D13 => xCv d m_Table_setOf [.ref ((a0 + 3) + 1), .int r2, .int (5 : Int32), .int r14] D13 (fun D15 => Q none D15))))) ∧ (¬ (D7.1 a0 7) = (1 : Int32) → (¬ (D7.1 a0 7) = (2 : Int32) → Q none D7) ∧ ((D7.1 a0 7) = (2 : Int32) → xCv d m_Reader_check [.ref a0, .int (1 : Int32), .int (0 : Int32), .int (12 : Int32)] D7 (fun D16 => xCi d m_Row_get [.ref (a0 + 22), .int (1 : Int32)] D16 (fun r18 D17 => ∀ r19 : Int32, r19 = (if (D16.1 a0 12) < r18 then r18 else (D16.1 a0 12)) → ∀ D20 : xD, D20 = (xu D17.1 a0 12 r19, D17.2) → xCi d m_Row_get [.ref (a0 + 22), .int (1 : Int32)] D20 (fun r22 D21 => xCv d m_Table_setOf [.ref ((a0 + 3) + 1), .int r2, .int (5 : Int32), .int r22] D21 (fun D23 => Q none D23))))))))))) : xPf (d + 1) m_Reader_tellLaw 0 [(0, .ref a0)] [] D Q := by
  refine x_aload_n rfl rfl ?_
  refine x_gR lf_Reader_27 k0 rfl rfl ?_
  refine x_iconst (v := (0 : Int32)) rfl rfl ?_
  refine x_vi lm_Reader_219 vf_Row_get (ck_6_2 k0) rfl rfl (Nat.le_of_ble_eq_true rfl) rfl h (fun r2 D1 h => ?_)
  refine x_istore_n (i := 1) (L1 := [(1, .int r2), (0, .ref a0)]) rfl rfl (Nat.le_of_ble_eq_true rfl) rfl ?_
  refine x_aload_n rfl rfl ?_
  refine x_iconst (v := (0 : Int32)) rfl rfl ?_
  refine x_iconst (v := (0 : Int32)) rfl rfl ?_
  refine x_iconst (v := (5 : Int32)) rfl rfl ?_
  refine x_vv lm_Reader_215 vf_Reader_check k0 rfl rfl (Nat.le_of_ble_eq_true rfl) rfl h (fun D3 h => ?_)
  refine x_aload_n rfl rfl ?_
  refine x_aload_n rfl rfl ?_
  refine x_gI lf_Reader_54 k0 rfl rfl ?_
  refine x_iload_n rfl rfl ?_
  refine x_mxn wd_713 (Nat.le_of_ble_eq_true rfl) rfl (fun r4 er4 => ?_)
  have h := h r4 er4
  refine x_pIn lp_Reader_54 nf_6_11 k0 rfl rfl (fun D5 eD5 => ?_)
  have h := h D5 eD5
  refine x_aload_n rfl rfl ?_
  refine x_gR lf_Reader_23 k0 rfl rfl ?_
  refine x_gR lf_Reader_81 (ck_6_1 k0) rfl rfl ?_
  refine x_iload_n rfl rfl ?_
  refine x_iconst (v := (4 : Int32)) rfl rfl ?_
  refine x_aload_n rfl rfl ?_
  refine x_gI lf_Reader_134 k0 rfl rfl ?_
  refine x_vv lm_Reader_225 vf_Table_setOf (ck_3_0 (ck_6_1 k0)) rfl rfl (Nat.le_of_ble_eq_true rfl) rfl h (fun D6 h => ?_)
  refine x_aload_n rfl rfl ?_
  refine x_gR lf_Reader_23 k0 rfl rfl ?_
  refine x_gR lf_Reader_81 (ck_6_1 k0) rfl rfl ?_
  refine x_iload_n rfl rfl ?_
  refine x_iconst (v := (5 : Int32)) rfl rfl ?_
  refine x_iconst (v := (-1 : Int32)) rfl rfl ?_
  refine x_vv lm_Reader_225 vf_Table_setOf (ck_3_0 (ck_6_1 k0)) rfl rfl (Nat.le_of_ble_eq_true rfl) rfl h (fun D7 h => ?_)
  refine x_aload_n rfl rfl ?_
  refine x_gI lf_Reader_134 k0 rfl rfl ?_
  refine x_iconst (v := (1 : Int32)) rfl rfl ?_
  refine x_icmp_eq (tgt := 73) rfl rfl (fun c => ?_) (fun c => ?_)
  · have h := h.1 c
    refine x_aload_n rfl rfl ?_
    refine x_iconst (v := (1 : Int32)) rfl rfl ?_
    refine x_iconst (v := (0 : Int32)) rfl rfl ?_
    refine x_bipush (v := (12 : Int32)) rfl rfl ?_
    refine x_vv lm_Reader_215 vf_Reader_check k0 rfl rfl (Nat.le_of_ble_eq_true rfl) rfl h (fun D8 h => ?_)
    refine x_aload_n rfl rfl ?_
    refine x_aload_n rfl rfl ?_
    refine x_gI lf_Reader_57 k0 rfl rfl ?_
    refine x_aload_n rfl rfl ?_
    refine x_gR lf_Reader_27 k0 rfl rfl ?_
    refine x_iconst (v := (1 : Int32)) rfl rfl ?_
    refine x_vi lm_Reader_219 vf_Row_get (ck_6_2 k0) rfl rfl (Nat.le_of_ble_eq_true rfl) rfl h (fun r10 D9 h => ?_)
    refine x_mxn wd_713 (Nat.le_of_ble_eq_true rfl) rfl (fun r11 er11 => ?_)
    have h := h r11 er11
    refine x_pIn lp_Reader_57 nf_6_12 k0 rfl rfl (fun D12 eD12 => ?_)
    have h := h D12 eD12
    refine x_aload_n rfl rfl ?_
    refine x_gR lf_Reader_23 k0 rfl rfl ?_
    refine x_gR lf_Reader_81 (ck_6_1 k0) rfl rfl ?_
    refine x_iload_n rfl rfl ?_
    refine x_iconst (v := (5 : Int32)) rfl rfl ?_
    refine x_aload_n rfl rfl ?_
    refine x_gR lf_Reader_27 k0 rfl rfl ?_
    refine x_iconst (v := (1 : Int32)) rfl rfl ?_
    refine x_vi lm_Reader_219 vf_Row_get (ck_6_2 k0) rfl rfl (Nat.le_of_ble_eq_true rfl) rfl h (fun r14 D13 h => ?_)
    refine x_vv lm_Reader_225 vf_Table_setOf (ck_3_0 (ck_6_1 k0)) rfl rfl (Nat.le_of_ble_eq_true rfl) rfl h (fun D15 h => ?_)
    exact x_vret rfl rfl h
  · have h := h.2 c
    refine x_aload_n rfl rfl ?_
    refine x_gI lf_Reader_134 k0 rfl rfl ?_
    refine x_iconst (v := (2 : Int32)) rfl rfl ?_
    refine x_icmp_ne (tgt := 120) rfl rfl (fun c => ?_) (fun c => ?_)
    · have h := h.1 c
      exact x_vret rfl rfl h
    · have h := h.2 c
      refine x_aload_n rfl rfl ?_
      refine x_iconst (v := (1 : Int32)) rfl rfl ?_
      refine x_iconst (v := (0 : Int32)) rfl rfl ?_
      refine x_bipush (v := (12 : Int32)) rfl rfl ?_
      refine x_vv lm_Reader_215 vf_Reader_check k0 rfl rfl (Nat.le_of_ble_eq_true rfl) rfl h (fun D16 h => ?_)
      refine x_aload_n rfl rfl ?_
      refine x_aload_n rfl rfl ?_
      refine x_gI lf_Reader_57 k0 rfl rfl ?_
      refine x_aload_n rfl rfl ?_
      refine x_gR lf_Reader_27 k0 rfl rfl ?_
      refine x_iconst (v := (1 : Int32)) rfl rfl ?_
      refine x_vi lm_Reader_219 vf_Row_get (ck_6_2 k0) rfl rfl (Nat.le_of_ble_eq_true rfl) rfl h (fun r18 D17 h => ?_)
      refine x_mxn wd_713 (Nat.le_of_ble_eq_true rfl) rfl (fun r19 er19 => ?_)
      have h := h r19 er19
      refine x_pIn lp_Reader_57 nf_6_12 k0 rfl rfl (fun D20 eD20 => ?_)
      have h := h D20 eD20
      refine x_aload_n rfl rfl ?_
      refine x_gR lf_Reader_23 k0 rfl rfl ?_
      refine x_gR lf_Reader_81 (ck_6_1 k0) rfl rfl ?_
      refine x_iload_n rfl rfl ?_
      refine x_iconst (v := (5 : Int32)) rfl rfl ?_
      refine x_aload_n rfl rfl ?_
      refine x_gR lf_Reader_27 k0 rfl rfl ?_
      refine x_iconst (v := (1 : Int32)) rfl rfl ?_
      refine x_vi lm_Reader_219 vf_Row_get (ck_6_2 k0) rfl rfl (Nat.le_of_ble_eq_true rfl) rfl h (fun r22 D21 h => ?_)
      refine x_vv lm_Reader_225 vf_Table_setOf (ck_3_0 (ck_6_1 k0)) rfl rfl (Nat.le_of_ble_eq_true rfl) rfl h (fun D23 h => ?_)
      exact x_vret rfl rfl h
theorem s_Reader_tellKinds_0 {d : Nat} {D : xD} {Q : Option Value → xD → Prop} {a0 : Nat} {a1 : Nat} (k0 : xk a0 = 6) (k1 : xk a1 = 2) (h : xPf (d + 1) m_Reader_tellKinds 2 [(0, .ref a0), (1, .ref a1), (2, .int (0 : Int32))] [] D Q) : xPf (d + 1) m_Reader_tellKinds 0 [(0, .ref a0), (1, .ref a1)] [] D Q := by
  refine x_iconst (v := (0 : Int32)) rfl rfl ?_
  refine x_istore_n (i := 2) (L1 := [(2, .int (0 : Int32)), (0, .ref a0), (1, .ref a1)]) rfl rfl (Nat.le_of_ble_eq_true rfl) rfl ?_
  exact xP_sub [1, 2, 0] rfl h
theorem s_Reader_tellKinds_2 {d : Nat} {D : xD} {Q : Option Value → xD → Prop} {a0 : Nat} {a1 : Nat} {x2 : Int32} (k0 : xk a0 = 6) (k1 : xk a1 = 2) (h : xCi d m_Row_size [.ref (a0 + 22)] D (fun r2 D1 => (r2 ≤ x2 → Q none D1) ∧ (¬ r2 ≤ x2 → xCv d m_Reader_check [.ref a0, .int x2, .int (0 : Int32), .int (12 : Int32)] D1 (fun D3 => xCi d m_Row_isFull [.ref a1] D3 (fun r5 D4 => (r5 = 0 → xCi d m_Row_get [.ref (a0 + 22), .int x2] D4 (fun r7 D6 => xCv d m_Row_push [.ref a1, .int r7] D6 (fun D8 => xPf (d + 1) m_Reader_tellKinds 2 [(0, .ref a0), (1, .ref a1), (2, .int (x2 + (1 : Int32)))] [] D8 Q))) ∧ (¬ r5 = 0 → xCi d m_Row_get [.ref (a0 + 24), .int x2] D4 (fun r10 D9 => xCv d m_Reader_note [.ref a0, .int (3 : Int32), .int r10] D9 (fun D11 => xCi d m_Row_get [.ref (a0 + 22), .int x2] D11 (fun r13 D12 => xCv d m_Row_push [.ref a1, .int r13] D12 (fun D14 => xPf (d + 1) m_Reader_tellKinds 2 [(0, .ref a0), (1, .ref a1), (2, .int (x2 + (1 : Int32)))] [] D14 Q)))))))))) : xPf (d + 1) m_Reader_tellKinds 2 [(0, .ref a0), (1, .ref a1), (2, .int x2)] [] D Q := by
  refine x_iload_n rfl rfl ?_
  refine x_aload_n rfl rfl ?_
  refine x_gR lf_Reader_27 k0 rfl rfl ?_
  refine x_vi lm_Reader_73 vf_Row_size (ck_6_2 k0) rfl rfl (Nat.le_of_ble_eq_true rfl) rfl h (fun r2 D1 h => ?_)
  refine x_icmp_ge (tgt := 59) rfl rfl (fun c => ?_) (fun c => ?_)
  · have h := h.1 c
    exact x_vret rfl rfl h
  · have h := h.2 c
    refine x_aload_n rfl rfl ?_
    refine x_iload_n rfl rfl ?_
    refine x_iconst (v := (0 : Int32)) rfl rfl ?_
    refine x_bipush (v := (12 : Int32)) rfl rfl ?_
    refine x_vv lm_Reader_215 vf_Reader_check k0 rfl rfl (Nat.le_of_ble_eq_true rfl) rfl h (fun D3 h => ?_)
    refine x_aload_n rfl rfl ?_
    refine x_vi lm_Reader_234 vf_Row_isFull k1 rfl rfl (Nat.le_of_ble_eq_true rfl) rfl h (fun r5 D4 h => ?_)
    refine x_if_eq (tgt := 41) rfl rfl (fun c => ?_) (fun c => ?_)
    · have h := h.1 c
      refine x_aload_n rfl rfl ?_
      refine x_aload_n rfl rfl ?_
      refine x_gR lf_Reader_27 k0 rfl rfl ?_
      refine x_iload_n rfl rfl ?_
      refine x_vi lm_Reader_219 vf_Row_get (ck_6_2 k0) rfl rfl (Nat.le_of_ble_eq_true rfl) rfl h (fun r7 D6 h => ?_)
      refine x_vv lm_Reader_128 vf_Row_push k1 rfl rfl (Nat.le_of_ble_eq_true rfl) rfl h (fun D8 h => ?_)
      refine x_iinc (i := 2) (v := x2 + (1 : Int32)) (L1 := [(2, .int (x2 + (1 : Int32))), (0, .ref a0), (1, .ref a1)]) rfl rfl rfl (Nat.le_of_ble_eq_true rfl) rfl ?_
      refine x_goto (tgt := 2) rfl rfl ?_
      exact xP_sub [1, 2, 0] rfl h
    · have h := h.2 c
      refine x_aload_n rfl rfl ?_
      refine x_iconst (v := (3 : Int32)) rfl rfl ?_
      refine x_aload_n rfl rfl ?_
      refine x_gR lf_Reader_30 k0 rfl rfl ?_
      refine x_iload_n rfl rfl ?_
      refine x_vi lm_Reader_219 vf_Row_get (ck_6_3 k0) rfl rfl (Nat.le_of_ble_eq_true rfl) rfl h (fun r10 D9 h => ?_)
      refine x_vv lm_Reader_77 vf_Reader_note k0 rfl rfl (Nat.le_of_ble_eq_true rfl) rfl h (fun D11 h => ?_)
      refine x_aload_n rfl rfl ?_
      refine x_aload_n rfl rfl ?_
      refine x_gR lf_Reader_27 k0 rfl rfl ?_
      refine x_iload_n rfl rfl ?_
      refine x_vi lm_Reader_219 vf_Row_get (ck_6_2 k0) rfl rfl (Nat.le_of_ble_eq_true rfl) rfl h (fun r13 D12 h => ?_)
      refine x_vv lm_Reader_128 vf_Row_push k1 rfl rfl (Nat.le_of_ble_eq_true rfl) rfl h (fun D14 h => ?_)
      refine x_iinc (i := 2) (v := x2 + (1 : Int32)) (L1 := [(2, .int (x2 + (1 : Int32))), (0, .ref a0), (1, .ref a1)]) rfl rfl rfl (Nat.le_of_ble_eq_true rfl) rfl ?_
      refine x_goto (tgt := 2) rfl rfl ?_
      exact xP_sub [1, 2, 0] rfl h
theorem s_Reader_tellDeed_0 {d : Nat} {D : xD} {Q : Option Value → xD → Prop} {a0 : Nat} {x1 : Int32} {x2 : Int32} (k0 : xk a0 = 6) (h : xCi d m_Row_isFull [.ref ((a0 + 3) + 8)] D (fun r2 D1 => (r2 = 0 → (¬ x1 = (4 : Int32) → xCv d m_Reader_check [.ref a0, .int (0 : Int32), .int (0 : Int32), .int (5 : Int32)] D1 (fun D3 => xPf (d + 1) m_Reader_tellDeed 44 [(0, .ref a0), (1, .int x1), (2, .int x2), (3, .ref ((a0 + 3) + 8))] [] D3 Q)) ∧ (x1 = (4 : Int32) → xCv d m_Reader_check [.ref a0, .int (0 : Int32), .int (1 : Int32), .int (9 : Int32)] D1 (fun D4 => xPf (d + 1) m_Reader_tellDeed 44 [(0, .ref a0), (1, .int x1), (2, .int x2), (3, .ref ((a0 + 3) + 8))] [] D4 Q))) ∧ (¬ r2 = 0 → xCv d m_Reader_note [.ref a0, .int (3 : Int32), .int x2] D1 (fun D5 => (¬ x1 = (4 : Int32) → xCv d m_Reader_check [.ref a0, .int (0 : Int32), .int (0 : Int32), .int (5 : Int32)] D5 (fun D6 => xPf (d + 1) m_Reader_tellDeed 44 [(0, .ref a0), (1, .int x1), (2, .int x2), (3, .ref ((a0 + 3) + 8))] [] D6 Q)) ∧ (x1 = (4 : Int32) → xCv d m_Reader_check [.ref a0, .int (0 : Int32), .int (1 : Int32), .int (9 : Int32)] D5 (fun D7 => xPf (d + 1) m_Reader_tellDeed 44 [(0, .ref a0), (1, .int x1), (2, .int x2), (3, .ref ((a0 + 3) + 8))] [] D7 Q)))))) : xPf (d + 1) m_Reader_tellDeed 0 [(0, .ref a0), (1, .int x1), (2, .int x2)] [] D Q := by
  refine x_aload_n rfl rfl ?_
  refine x_gR lf_Reader_23 k0 rfl rfl ?_
  refine x_gR lf_Reader_237 (ck_6_1 k0) rfl rfl ?_
  refine x_astore_n (i := 3) (L1 := [(3, .ref ((a0 + 3) + 8)), (0, .ref a0), (1, .int x1), (2, .int x2)]) rfl rfl (Nat.le_of_ble_eq_true rfl) rfl ?_
  refine x_aload_n rfl rfl ?_
  refine x_vi lm_Reader_234 vf_Row_isFull (ck_3_2 (ck_6_1 k0)) rfl rfl (Nat.le_of_ble_eq_true rfl) rfl h (fun r2 D1 h => ?_)
  refine x_if_eq (tgt := 21) rfl rfl (fun c => ?_) (fun c => ?_)
  · have h := h.1 c
    refine x_iload_n rfl rfl ?_
    refine x_iconst (v := (4 : Int32)) rfl rfl ?_
    refine x_icmp_ne (tgt := 37) rfl rfl (fun c => ?_) (fun c => ?_)
    · have h := h.1 c
      refine x_aload_n rfl rfl ?_
      refine x_iconst (v := (0 : Int32)) rfl rfl ?_
      refine x_iconst (v := (0 : Int32)) rfl rfl ?_
      refine x_iconst (v := (5 : Int32)) rfl rfl ?_
      refine x_vv lm_Reader_215 vf_Reader_check k0 rfl rfl (Nat.le_of_ble_eq_true rfl) rfl h (fun D3 h => ?_)
      exact xP_sub [1, 2, 3, 0] rfl h
    · have h := h.2 c
      refine x_aload_n rfl rfl ?_
      refine x_iconst (v := (0 : Int32)) rfl rfl ?_
      refine x_iconst (v := (1 : Int32)) rfl rfl ?_
      refine x_bipush (v := (9 : Int32)) rfl rfl ?_
      refine x_vv lm_Reader_215 vf_Reader_check k0 rfl rfl (Nat.le_of_ble_eq_true rfl) rfl h (fun D4 h => ?_)
      refine x_goto (tgt := 44) rfl rfl ?_
      exact xP_sub [1, 2, 3, 0] rfl h
  · have h := h.2 c
    refine x_aload_n rfl rfl ?_
    refine x_iconst (v := (3 : Int32)) rfl rfl ?_
    refine x_iload_n rfl rfl ?_
    refine x_vv lm_Reader_77 vf_Reader_note k0 rfl rfl (Nat.le_of_ble_eq_true rfl) rfl h (fun D5 h => ?_)
    refine x_iload_n rfl rfl ?_
    refine x_iconst (v := (4 : Int32)) rfl rfl ?_
    refine x_icmp_ne (tgt := 37) rfl rfl (fun c => ?_) (fun c => ?_)
    · have h := h.1 c
      refine x_aload_n rfl rfl ?_
      refine x_iconst (v := (0 : Int32)) rfl rfl ?_
      refine x_iconst (v := (0 : Int32)) rfl rfl ?_
      refine x_iconst (v := (5 : Int32)) rfl rfl ?_
      refine x_vv lm_Reader_215 vf_Reader_check k0 rfl rfl (Nat.le_of_ble_eq_true rfl) rfl h (fun D6 h => ?_)
      exact xP_sub [1, 2, 3, 0] rfl h
    · have h := h.2 c
      refine x_aload_n rfl rfl ?_
      refine x_iconst (v := (0 : Int32)) rfl rfl ?_
      refine x_iconst (v := (1 : Int32)) rfl rfl ?_
      refine x_bipush (v := (9 : Int32)) rfl rfl ?_
      refine x_vv lm_Reader_215 vf_Reader_check k0 rfl rfl (Nat.le_of_ble_eq_true rfl) rfl h (fun D7 h => ?_)
      refine x_goto (tgt := 44) rfl rfl ?_
      exact xP_sub [1, 2, 3, 0] rfl h
theorem s_Reader_tellDeed_44 {d : Nat} {D : xD} {Q : Option Value → xD → Prop} {a0 : Nat} {x1 : Int32} {x2 : Int32} {a3 : Nat} (k0 : xk a0 = 6) (k3 : xk a3 = 2) (h : (¬ x1 = (1 : Int32) → xCv d m_Row_push [.ref a3, .int x1] D (fun D1 => xCi d m_Row_get [.ref (a0 + 22), .int (0 : Int32)] D1 (fun r3 D2 => xCv d m_Row_push [.ref a3, .int r3] D2 (fun D4 => (¬ x1 = (1 : Int32) → xCv d m_Row_push [.ref a3, .int (-1 : Int32)] D4 (fun D5 => Q none D5)) ∧ (x1 = (1 : Int32) → xCi d m_Row_get [.ref (a0 + 22), .int (1 : Int32)] D4 (fun r7 D6 => xCv d m_Row_push [.ref a3, .int r7] D6 (fun D8 => Q none D8))))))) ∧ (x1 = (1 : Int32) → xCv d m_Reader_check [.ref a0, .int (1 : Int32), .int (0 : Int32), .int (12 : Int32)] D (fun D9 => xCv d m_Row_push [.ref a3, .int x1] D9 (fun D10 => xCi d m_Row_get [.ref (a0 + 22), .int (0 : Int32)] D10 (fun r12 D11 => xCv d m_Row_push [.ref a3, .int r12] D11 (fun D13 => (¬ x1 = (1 : Int32) → xCv d m_Row_push [.ref a3, .int (-1 : Int32)] D13 (fun D14 => Q none D14)) ∧ (x1 = (1 : Int32) → xCi d m_Row_get [.ref (a0 + 22), .int (1 : Int32)] D13 (fun r16 D15 => xCv d m_Row_push [.ref a3, .int r16] D15 (fun D17 => Q none D17))))))))) : xPf (d + 1) m_Reader_tellDeed 44 [(0, .ref a0), (1, .int x1), (2, .int x2), (3, .ref a3)] [] D Q := by
  refine x_iload_n rfl rfl ?_
  refine x_iconst (v := (1 : Int32)) rfl rfl ?_
  refine x_icmp_ne (tgt := 57) rfl rfl (fun c => ?_) (fun c => ?_)
  · have h := h.1 c
    refine x_aload_n rfl rfl ?_
    refine x_iload_n rfl rfl ?_
    refine x_vv lm_Reader_128 vf_Row_push k3 rfl rfl (Nat.le_of_ble_eq_true rfl) rfl h (fun D1 h => ?_)
    refine x_aload_n rfl rfl ?_
    refine x_aload_n rfl rfl ?_
    refine x_gR lf_Reader_27 k0 rfl rfl ?_
    refine x_iconst (v := (0 : Int32)) rfl rfl ?_
    refine x_vi lm_Reader_219 vf_Row_get (ck_6_2 k0) rfl rfl (Nat.le_of_ble_eq_true rfl) rfl h (fun r3 D2 h => ?_)
    refine x_vv lm_Reader_128 vf_Row_push k3 rfl rfl (Nat.le_of_ble_eq_true rfl) rfl h (fun D4 h => ?_)
    refine x_aload_n rfl rfl ?_
    refine x_iload_n rfl rfl ?_
    refine x_iconst (v := (1 : Int32)) rfl rfl ?_
    refine x_icmp_ne (tgt := 91) rfl rfl (fun c => ?_) (fun c => ?_)
    · have h := h.1 c
      refine x_iconst (v := (-1 : Int32)) rfl rfl ?_
      refine x_vv lm_Reader_128 vf_Row_push k3 rfl rfl (Nat.le_of_ble_eq_true rfl) rfl h (fun D5 h => ?_)
      exact x_vret rfl rfl h
    · have h := h.2 c
      refine x_aload_n rfl rfl ?_
      refine x_gR lf_Reader_27 k0 rfl rfl ?_
      refine x_iconst (v := (1 : Int32)) rfl rfl ?_
      refine x_vi lm_Reader_219 vf_Row_get (ck_6_2 k0) rfl rfl (Nat.le_of_ble_eq_true rfl) rfl h (fun r7 D6 h => ?_)
      refine x_goto (tgt := 92) rfl rfl ?_
      refine x_vv lm_Reader_128 vf_Row_push k3 rfl rfl (Nat.le_of_ble_eq_true rfl) rfl h (fun D8 h => ?_)
      exact x_vret rfl rfl h
  · have h := h.2 c
    refine x_aload_n rfl rfl ?_
    refine x_iconst (v := (1 : Int32)) rfl rfl ?_
    refine x_iconst (v := (0 : Int32)) rfl rfl ?_
    refine x_bipush (v := (12 : Int32)) rfl rfl ?_
    refine x_vv lm_Reader_215 vf_Reader_check k0 rfl rfl (Nat.le_of_ble_eq_true rfl) rfl h (fun D9 h => ?_)
    refine x_aload_n rfl rfl ?_
    refine x_iload_n rfl rfl ?_
    refine x_vv lm_Reader_128 vf_Row_push k3 rfl rfl (Nat.le_of_ble_eq_true rfl) rfl h (fun D10 h => ?_)
    refine x_aload_n rfl rfl ?_
    refine x_aload_n rfl rfl ?_
    refine x_gR lf_Reader_27 k0 rfl rfl ?_
    refine x_iconst (v := (0 : Int32)) rfl rfl ?_
    refine x_vi lm_Reader_219 vf_Row_get (ck_6_2 k0) rfl rfl (Nat.le_of_ble_eq_true rfl) rfl h (fun r12 D11 h => ?_)
    refine x_vv lm_Reader_128 vf_Row_push k3 rfl rfl (Nat.le_of_ble_eq_true rfl) rfl h (fun D13 h => ?_)
    refine x_aload_n rfl rfl ?_
    refine x_iload_n rfl rfl ?_
    refine x_iconst (v := (1 : Int32)) rfl rfl ?_
    refine x_icmp_ne (tgt := 91) rfl rfl (fun c => ?_) (fun c => ?_)
    · have h := h.1 c
      refine x_iconst (v := (-1 : Int32)) rfl rfl ?_
      refine x_vv lm_Reader_128 vf_Row_push k3 rfl rfl (Nat.le_of_ble_eq_true rfl) rfl h (fun D14 h => ?_)
      exact x_vret rfl rfl h
    · have h := h.2 c
      refine x_aload_n rfl rfl ?_
      refine x_gR lf_Reader_27 k0 rfl rfl ?_
      refine x_iconst (v := (1 : Int32)) rfl rfl ?_
      refine x_vi lm_Reader_219 vf_Row_get (ck_6_2 k0) rfl rfl (Nat.le_of_ble_eq_true rfl) rfl h (fun r16 D15 h => ?_)
      refine x_goto (tgt := 92) rfl rfl ?_
      refine x_vv lm_Reader_128 vf_Row_push k3 rfl rfl (Nat.le_of_ble_eq_true rfl) rfl h (fun D17 h => ?_)
      exact x_vret rfl rfl h
theorem s_Reader_tellFrame_0 {d : Nat} {D : xD} {Q : Option Value → xD → Prop} {a0 : Nat} {x1 : Int32} (k0 : xk a0 = 6) (h : xCi d m_Film_isFull [.ref ((a0 + 3) + 14)] D (fun r2 D1 => (r2 = 0 → xCi d m_Film_frames [.ref ((a0 + 3) + 14)] D1 (fun r4 D3 => (¬ r4 = 0 → xCi d m_Film_frames [.ref ((a0 + 3) + 14)] D3 (fun r6 D5 => xCi d m_Film_tenth [.ref ((a0 + 3) + 14), .int (r6 - (1 : Int32))] D5 (fun r8 D7 => xCv d m_Reader_check [.ref a0, .int (0 : Int32), .int (r8 + (1 : Int32)), .int (99 : Int32)] D7 (fun D9 => xPf (d + 1) m_Reader_tellFrame 59 [(0, .ref a0), (1, .int x1), (2, .ref ((a0 + 3) + 14)), (3, .int r8), (4, .int (0 : Int32)), (5, .int (1 : Int32))] [] D9 Q)))) ∧ (r4 = 0 → xCv d m_Reader_check [.ref a0, .int (0 : Int32), .int ((-1 : Int32) + (1 : Int32)), .int (99 : Int32)] D3 (fun D10 => xPf (d + 1) m_Reader_tellFrame 59 [(0, .ref a0), (1, .int x1), (2, .ref ((a0 + 3) + 14)), (3, .int (-1 : Int32)), (4, .int (0 : Int32)), (5, .int (1 : Int32))] [] D10 Q)))) ∧ (¬ r2 = 0 → xCv d m_Reader_note [.ref a0, .int (3 : Int32), .int x1] D1 (fun D11 => xCi d m_Film_frames [.ref ((a0 + 3) + 14)] D11 (fun r13 D12 => (¬ r13 = 0 → xCi d m_Film_frames [.ref ((a0 + 3) + 14)] D12 (fun r15 D14 => xCi d m_Film_tenth [.ref ((a0 + 3) + 14), .int (r15 - (1 : Int32))] D14 (fun r17 D16 => xCv d m_Reader_check [.ref a0, .int (0 : Int32), .int (r17 + (1 : Int32)), .int (99 : Int32)] D16 (fun D18 => xPf (d + 1) m_Reader_tellFrame 59 [(0, .ref a0), (1, .int x1), (2, .ref ((a0 + 3) + 14)), (3, .int r17), (4, .int (0 : Int32)), (5, .int (1 : Int32))] [] D18 Q)))) ∧ (r13 = 0 → xCv d m_Reader_check [.ref a0, .int (0 : Int32), .int ((-1 : Int32) + (1 : Int32)), .int (99 : Int32)] D12 (fun D19 => xPf (d + 1) m_Reader_tellFrame 59 [(0, .ref a0), (1, .int x1), (2, .ref ((a0 + 3) + 14)), (3, .int (-1 : Int32)), (4, .int (0 : Int32)), (5, .int (1 : Int32))] [] D19 Q))))))) : xPf (d + 1) m_Reader_tellFrame 0 [(0, .ref a0), (1, .int x1)] [] D Q := by
  refine x_aload_n rfl rfl ?_
  refine x_gR lf_Reader_23 k0 rfl rfl ?_
  refine x_gR lf_Reader_240 (ck_6_1 k0) rfl rfl ?_
  refine x_astore_n (i := 2) (L1 := [(2, .ref ((a0 + 3) + 14)), (0, .ref a0), (1, .int x1)]) rfl rfl (Nat.le_of_ble_eq_true rfl) rfl ?_
  refine x_aload_n rfl rfl ?_
  refine x_vi lm_Reader_244 vf_Film_isFull (ck_3_5 (ck_6_1 k0)) rfl rfl (Nat.le_of_ble_eq_true rfl) rfl h (fun r2 D1 h => ?_)
  refine x_if_eq (tgt := 21) rfl rfl (fun c => ?_) (fun c => ?_)
  · have h := h.1 c
    refine x_aload_n rfl rfl ?_
    refine x_vi lm_Reader_247 vf_Film_frames (ck_3_5 (ck_6_1 k0)) rfl rfl (Nat.le_of_ble_eq_true rfl) rfl h (fun r4 D3 h => ?_)
    refine x_if_ne (tgt := 32) rfl rfl (fun c => ?_) (fun c => ?_)
    · have h := h.1 c
      refine x_aload_n rfl rfl ?_
      refine x_aload_n rfl rfl ?_
      refine x_vi lm_Reader_247 vf_Film_frames (ck_3_5 (ck_6_1 k0)) rfl rfl (Nat.le_of_ble_eq_true rfl) rfl h (fun r6 D5 h => ?_)
      refine x_iconst (v := (1 : Int32)) rfl rfl ?_
      refine x_isub rfl ?_
      refine x_vi lm_Reader_250 vf_Film_tenth (ck_3_5 (ck_6_1 k0)) rfl rfl (Nat.le_of_ble_eq_true rfl) rfl h (fun r8 D7 h => ?_)
      refine x_istore_n (i := 3) (L1 := [(3, .int r8), (2, .ref ((a0 + 3) + 14)), (0, .ref a0), (1, .int x1)]) rfl rfl (Nat.le_of_ble_eq_true rfl) rfl ?_
      refine x_aload_n rfl rfl ?_
      refine x_iconst (v := (0 : Int32)) rfl rfl ?_
      refine x_iload_n rfl rfl ?_
      refine x_iconst (v := (1 : Int32)) rfl rfl ?_
      refine x_iadd rfl ?_
      refine x_bipush (v := (99 : Int32)) rfl rfl ?_
      refine x_vv lm_Reader_215 vf_Reader_check k0 rfl rfl (Nat.le_of_ble_eq_true rfl) rfl h (fun D9 h => ?_)
      refine x_iconst (v := (0 : Int32)) rfl rfl ?_
      refine x_istore (i := 4) (L1 := [(4, .int (0 : Int32)), (3, .int r8), (2, .ref ((a0 + 3) + 14)), (0, .ref a0), (1, .int x1)]) rfl (Nat.le_of_ble_eq_true rfl) rfl ?_
      refine x_iconst (v := (1 : Int32)) rfl rfl ?_
      refine x_istore (i := 5) (L1 := [(5, .int (1 : Int32)), (4, .int (0 : Int32)), (3, .int r8), (2, .ref ((a0 + 3) + 14)), (0, .ref a0), (1, .int x1)]) rfl (Nat.le_of_ble_eq_true rfl) rfl ?_
      exact xP_sub [4, 5, 3, 2, 1, 0] rfl h
    · have h := h.2 c
      refine x_iconst (v := (-1 : Int32)) rfl rfl ?_
      refine x_goto (tgt := 42) rfl rfl ?_
      refine x_istore_n (i := 3) (L1 := [(3, .int (-1 : Int32)), (2, .ref ((a0 + 3) + 14)), (0, .ref a0), (1, .int x1)]) rfl rfl (Nat.le_of_ble_eq_true rfl) rfl ?_
      refine x_aload_n rfl rfl ?_
      refine x_iconst (v := (0 : Int32)) rfl rfl ?_
      refine x_iload_n rfl rfl ?_
      refine x_iconst (v := (1 : Int32)) rfl rfl ?_
      refine x_iadd rfl ?_
      refine x_bipush (v := (99 : Int32)) rfl rfl ?_
      refine x_vv lm_Reader_215 vf_Reader_check k0 rfl rfl (Nat.le_of_ble_eq_true rfl) rfl h (fun D10 h => ?_)
      refine x_iconst (v := (0 : Int32)) rfl rfl ?_
      refine x_istore (i := 4) (L1 := [(4, .int (0 : Int32)), (3, .int (-1 : Int32)), (2, .ref ((a0 + 3) + 14)), (0, .ref a0), (1, .int x1)]) rfl (Nat.le_of_ble_eq_true rfl) rfl ?_
      refine x_iconst (v := (1 : Int32)) rfl rfl ?_
      refine x_istore (i := 5) (L1 := [(5, .int (1 : Int32)), (4, .int (0 : Int32)), (3, .int (-1 : Int32)), (2, .ref ((a0 + 3) + 14)), (0, .ref a0), (1, .int x1)]) rfl (Nat.le_of_ble_eq_true rfl) rfl ?_
      exact xP_sub [4, 5, 3, 2, 1, 0] rfl h
  · have h := h.2 c
    refine x_aload_n rfl rfl ?_
    refine x_iconst (v := (3 : Int32)) rfl rfl ?_
    refine x_iload_n rfl rfl ?_
    refine x_vv lm_Reader_77 vf_Reader_note k0 rfl rfl (Nat.le_of_ble_eq_true rfl) rfl h (fun D11 h => ?_)
    refine x_aload_n rfl rfl ?_
    refine x_vi lm_Reader_247 vf_Film_frames (ck_3_5 (ck_6_1 k0)) rfl rfl (Nat.le_of_ble_eq_true rfl) rfl h (fun r13 D12 h => ?_)
    refine x_if_ne (tgt := 32) rfl rfl (fun c => ?_) (fun c => ?_)
    · have h := h.1 c
      refine x_aload_n rfl rfl ?_
      refine x_aload_n rfl rfl ?_
      refine x_vi lm_Reader_247 vf_Film_frames (ck_3_5 (ck_6_1 k0)) rfl rfl (Nat.le_of_ble_eq_true rfl) rfl h (fun r15 D14 h => ?_)
      refine x_iconst (v := (1 : Int32)) rfl rfl ?_
      refine x_isub rfl ?_
      refine x_vi lm_Reader_250 vf_Film_tenth (ck_3_5 (ck_6_1 k0)) rfl rfl (Nat.le_of_ble_eq_true rfl) rfl h (fun r17 D16 h => ?_)
      refine x_istore_n (i := 3) (L1 := [(3, .int r17), (2, .ref ((a0 + 3) + 14)), (0, .ref a0), (1, .int x1)]) rfl rfl (Nat.le_of_ble_eq_true rfl) rfl ?_
      refine x_aload_n rfl rfl ?_
      refine x_iconst (v := (0 : Int32)) rfl rfl ?_
      refine x_iload_n rfl rfl ?_
      refine x_iconst (v := (1 : Int32)) rfl rfl ?_
      refine x_iadd rfl ?_
      refine x_bipush (v := (99 : Int32)) rfl rfl ?_
      refine x_vv lm_Reader_215 vf_Reader_check k0 rfl rfl (Nat.le_of_ble_eq_true rfl) rfl h (fun D18 h => ?_)
      refine x_iconst (v := (0 : Int32)) rfl rfl ?_
      refine x_istore (i := 4) (L1 := [(4, .int (0 : Int32)), (3, .int r17), (2, .ref ((a0 + 3) + 14)), (0, .ref a0), (1, .int x1)]) rfl (Nat.le_of_ble_eq_true rfl) rfl ?_
      refine x_iconst (v := (1 : Int32)) rfl rfl ?_
      refine x_istore (i := 5) (L1 := [(5, .int (1 : Int32)), (4, .int (0 : Int32)), (3, .int r17), (2, .ref ((a0 + 3) + 14)), (0, .ref a0), (1, .int x1)]) rfl (Nat.le_of_ble_eq_true rfl) rfl ?_
      exact xP_sub [4, 5, 3, 2, 1, 0] rfl h
    · have h := h.2 c
      refine x_iconst (v := (-1 : Int32)) rfl rfl ?_
      refine x_goto (tgt := 42) rfl rfl ?_
      refine x_istore_n (i := 3) (L1 := [(3, .int (-1 : Int32)), (2, .ref ((a0 + 3) + 14)), (0, .ref a0), (1, .int x1)]) rfl rfl (Nat.le_of_ble_eq_true rfl) rfl ?_
      refine x_aload_n rfl rfl ?_
      refine x_iconst (v := (0 : Int32)) rfl rfl ?_
      refine x_iload_n rfl rfl ?_
      refine x_iconst (v := (1 : Int32)) rfl rfl ?_
      refine x_iadd rfl ?_
      refine x_bipush (v := (99 : Int32)) rfl rfl ?_
      refine x_vv lm_Reader_215 vf_Reader_check k0 rfl rfl (Nat.le_of_ble_eq_true rfl) rfl h (fun D19 h => ?_)
      refine x_iconst (v := (0 : Int32)) rfl rfl ?_
      refine x_istore (i := 4) (L1 := [(4, .int (0 : Int32)), (3, .int (-1 : Int32)), (2, .ref ((a0 + 3) + 14)), (0, .ref a0), (1, .int x1)]) rfl (Nat.le_of_ble_eq_true rfl) rfl ?_
      refine x_iconst (v := (1 : Int32)) rfl rfl ?_
      refine x_istore (i := 5) (L1 := [(5, .int (1 : Int32)), (4, .int (0 : Int32)), (3, .int (-1 : Int32)), (2, .ref ((a0 + 3) + 14)), (0, .ref a0), (1, .int x1)]) rfl (Nat.le_of_ble_eq_true rfl) rfl ?_
      exact xP_sub [4, 5, 3, 2, 1, 0] rfl h
theorem s_Reader_tellFrame_59 {d : Nat} {D : xD} {Q : Option Value → xD → Prop} {a0 : Nat} {x1 : Int32} {a2 : Nat} {x3 : Int32} {x4 : Int32} {x5 : Int32} (k0 : xk a0 = 6) (k2 : xk a2 = 5) (h : xCi d m_Row_size [.ref (a0 + 22)] D (fun r2 D1 => (r2 ≤ x5 → xCi d m_Row_get [.ref (a0 + 22), .int (0 : Int32)] D1 (fun r4 D3 => xCv d m_Film_push [.ref a2, .int r4, .int x4] D3 (fun D5 => Q none D5))) ∧ (¬ r2 ≤ x5 → xCv d m_Reader_check [.ref a0, .int x5, .int (0 : Int32), .int (5 : Int32)] D1 (fun D6 => xCi d m_Row_get [.ref (a0 + 22), .int x5] D6 (fun r8 D7 => ∀ r9 : Int32, r9 = (if (6 : Int32) < r8 then (6 : Int32) else r8) → ((x4 &&& ((1 : Int32) <<< (r9 &&& 31))) = 0 → xPf (d + 1) m_Reader_tellFrame 59 [(0, .ref a0), (1, .int x1), (2, .ref a2), (3, .int x3), (4, .int (x4 ||| ((1 : Int32) <<< (r9 &&& 31)))), (5, .int (x5 + (1 : Int32)))] [] D7 Q) ∧ (¬ (x4 &&& ((1 : Int32) <<< (r9 &&& 31))) = 0 → xCi d m_Row_get [.ref (a0 + 24), .int x5] D7 (fun r11 D10 => xCv d m_Reader_note [.ref a0, .int (2 : Int32), .int r11] D10 (fun D12 => xPf (d + 1) m_Reader_tellFrame 59 [(0, .ref a0), (1, .int x1), (2, .ref a2), (3, .int x3), (4, .int (x4 ||| ((1 : Int32) <<< (r9 &&& 31)))), (5, .int (x5 + (1 : Int32)))] [] D12 Q)))))))) : xPf (d + 1) m_Reader_tellFrame 59 [(0, .ref a0), (1, .int x1), (2, .ref a2), (3, .int x3), (4, .int x4), (5, .int x5)] [] D Q := by
  refine x_iload rfl rfl ?_
  refine x_aload_n rfl rfl ?_
  refine x_gR lf_Reader_27 k0 rfl rfl ?_
  refine x_vi lm_Reader_73 vf_Row_size (ck_6_2 k0) rfl rfl (Nat.le_of_ble_eq_true rfl) rfl h (fun r2 D1 h => ?_)
  refine x_icmp_ge (tgt := 132) rfl rfl (fun c => ?_) (fun c => ?_)
  · have h := h.1 c
    refine x_aload_n rfl rfl ?_
    refine x_aload_n rfl rfl ?_
    refine x_gR lf_Reader_27 k0 rfl rfl ?_
    refine x_iconst (v := (0 : Int32)) rfl rfl ?_
    refine x_vi lm_Reader_219 vf_Row_get (ck_6_2 k0) rfl rfl (Nat.le_of_ble_eq_true rfl) rfl h (fun r4 D3 h => ?_)
    refine x_iload rfl rfl ?_
    refine x_vv lm_Reader_256 vf_Film_push k2 rfl rfl (Nat.le_of_ble_eq_true rfl) rfl h (fun D5 h => ?_)
    exact x_vret rfl rfl h
  · have h := h.2 c
    refine x_aload_n rfl rfl ?_
    refine x_iload rfl rfl ?_
    refine x_iconst (v := (0 : Int32)) rfl rfl ?_
    refine x_iconst (v := (5 : Int32)) rfl rfl ?_
    refine x_vv lm_Reader_215 vf_Reader_check k0 rfl rfl (Nat.le_of_ble_eq_true rfl) rfl h (fun D6 h => ?_)
    refine x_iconst (v := (1 : Int32)) rfl rfl ?_
    refine x_aload_n rfl rfl ?_
    refine x_gR lf_Reader_27 k0 rfl rfl ?_
    refine x_iload rfl rfl ?_
    refine x_vi lm_Reader_219 vf_Row_get (ck_6_2 k0) rfl rfl (Nat.le_of_ble_eq_true rfl) rfl h (fun r8 D7 h => ?_)
    refine x_bipush (v := (6 : Int32)) rfl rfl ?_
    refine x_mnn wd_745 (Nat.le_of_ble_eq_true rfl) rfl (fun r9 er9 => ?_)
    have h := h r9 er9
    refine x_ishl rfl ?_
    refine x_istore (i := 6) (L1 := [(6, .int ((1 : Int32) <<< (r9 &&& 31))), (0, .ref a0), (1, .int x1), (2, .ref a2), (3, .int x3), (4, .int x4), (5, .int x5)]) rfl (Nat.le_of_ble_eq_true rfl) rfl ?_
    refine x_iload rfl rfl ?_
    refine x_iload rfl rfl ?_
    refine x_iand rfl ?_
    refine x_if_eq (tgt := 119) rfl rfl (fun c => ?_) (fun c => ?_)
    · have h := h.1 c
      refine x_iload rfl rfl ?_
      refine x_iload rfl rfl ?_
      refine x_ior rfl ?_
      refine x_istore (i := 4) (L1 := [(4, .int (x4 ||| ((1 : Int32) <<< (r9 &&& 31)))), (6, .int ((1 : Int32) <<< (r9 &&& 31))), (0, .ref a0), (1, .int x1), (2, .ref a2), (3, .int x3), (5, .int x5)]) rfl (Nat.le_of_ble_eq_true rfl) rfl ?_
      refine x_iinc (i := 5) (v := x5 + (1 : Int32)) (L1 := [(5, .int (x5 + (1 : Int32))), (4, .int (x4 ||| ((1 : Int32) <<< (r9 &&& 31)))), (6, .int ((1 : Int32) <<< (r9 &&& 31))), (0, .ref a0), (1, .int x1), (2, .ref a2), (3, .int x3)]) rfl rfl rfl (Nat.le_of_ble_eq_true rfl) rfl ?_
      refine x_goto (tgt := 59) rfl rfl ?_
      exact xP_sub [3, 4, 5, 6, 1, 0] rfl h
    · have h := h.2 c
      refine x_aload_n rfl rfl ?_
      refine x_iconst (v := (2 : Int32)) rfl rfl ?_
      refine x_aload_n rfl rfl ?_
      refine x_gR lf_Reader_30 k0 rfl rfl ?_
      refine x_iload rfl rfl ?_
      refine x_vi lm_Reader_219 vf_Row_get (ck_6_3 k0) rfl rfl (Nat.le_of_ble_eq_true rfl) rfl h (fun r11 D10 h => ?_)
      refine x_vv lm_Reader_77 vf_Reader_note k0 rfl rfl (Nat.le_of_ble_eq_true rfl) rfl h (fun D12 h => ?_)
      refine x_iload rfl rfl ?_
      refine x_iload rfl rfl ?_
      refine x_ior rfl ?_
      refine x_istore (i := 4) (L1 := [(4, .int (x4 ||| ((1 : Int32) <<< (r9 &&& 31)))), (6, .int ((1 : Int32) <<< (r9 &&& 31))), (0, .ref a0), (1, .int x1), (2, .ref a2), (3, .int x3), (5, .int x5)]) rfl (Nat.le_of_ble_eq_true rfl) rfl ?_
      refine x_iinc (i := 5) (v := x5 + (1 : Int32)) (L1 := [(5, .int (x5 + (1 : Int32))), (4, .int (x4 ||| ((1 : Int32) <<< (r9 &&& 31)))), (6, .int ((1 : Int32) <<< (r9 &&& 31))), (0, .ref a0), (1, .int x1), (2, .ref a2), (3, .int x3)]) rfl rfl rfl (Nat.le_of_ble_eq_true rfl) rfl ?_
      refine x_goto (tgt := 59) rfl rfl ?_
      exact xP_sub [3, 4, 5, 6, 1, 0] rfl h
theorem s_Reader_check_0 {d : Nat} {D : xD} {Q : Option Value → xD → Prop} {a0 : Nat} {x1 : Int32} {x2 : Int32} {x3 : Int32} (k0 : xk a0 = 6) (h : xCi d m_Row_get [.ref (a0 + 22), .int x1] D (fun r2 D1 => (r2 < x2 → xCi d m_Row_get [.ref (a0 + 24), .int x1] D1 (fun r4 D3 => xCv d m_Reader_note [.ref a0, .int (2 : Int32), .int r4] D3 (fun D5 => Q none D5))) ∧ (¬ r2 < x2 → xCi d m_Row_get [.ref (a0 + 22), .int x1] D1 (fun r7 D6 => (r7 ≤ x3 → Q none D6) ∧ (¬ r7 ≤ x3 → xCi d m_Row_get [.ref (a0 + 24), .int x1] D6 (fun r9 D8 => xCv d m_Reader_note [.ref a0, .int (2 : Int32), .int r9] D8 (fun D10 => Q none D10))))))) : xPf (d + 1) m_Reader_check 0 [(0, .ref a0), (1, .int x1), (2, .int x2), (3, .int x3)] [] D Q := by
  refine x_aload_n rfl rfl ?_
  refine x_gR lf_Reader_27 k0 rfl rfl ?_
  refine x_iload_n rfl rfl ?_
  refine x_vi lm_Reader_219 vf_Row_get (ck_6_2 k0) rfl rfl (Nat.le_of_ble_eq_true rfl) rfl h (fun r2 D1 h => ?_)
  refine x_iload_n rfl rfl ?_
  refine x_icmp_lt (tgt := 24) rfl rfl (fun c => ?_) (fun c => ?_)
  · have h := h.1 c
    refine x_aload_n rfl rfl ?_
    refine x_iconst (v := (2 : Int32)) rfl rfl ?_
    refine x_aload_n rfl rfl ?_
    refine x_gR lf_Reader_30 k0 rfl rfl ?_
    refine x_iload_n rfl rfl ?_
    refine x_vi lm_Reader_219 vf_Row_get (ck_6_3 k0) rfl rfl (Nat.le_of_ble_eq_true rfl) rfl h (fun r4 D3 h => ?_)
    refine x_vv lm_Reader_77 vf_Reader_note k0 rfl rfl (Nat.le_of_ble_eq_true rfl) rfl h (fun D5 h => ?_)
    exact x_vret rfl rfl h
  · have h := h.2 c
    refine x_aload_n rfl rfl ?_
    refine x_gR lf_Reader_27 k0 rfl rfl ?_
    refine x_iload_n rfl rfl ?_
    refine x_vi lm_Reader_219 vf_Row_get (ck_6_2 k0) rfl rfl (Nat.le_of_ble_eq_true rfl) rfl h (fun r7 D6 h => ?_)
    refine x_iload_n rfl rfl ?_
    refine x_icmp_le (tgt := 37) rfl rfl (fun c => ?_) (fun c => ?_)
    · have h := h.1 c
      exact x_vret rfl rfl h
    · have h := h.2 c
      refine x_aload_n rfl rfl ?_
      refine x_iconst (v := (2 : Int32)) rfl rfl ?_
      refine x_aload_n rfl rfl ?_
      refine x_gR lf_Reader_30 k0 rfl rfl ?_
      refine x_iload_n rfl rfl ?_
      refine x_vi lm_Reader_219 vf_Row_get (ck_6_3 k0) rfl rfl (Nat.le_of_ble_eq_true rfl) rfl h (fun r9 D8 h => ?_)
      refine x_vv lm_Reader_77 vf_Reader_note k0 rfl rfl (Nat.le_of_ble_eq_true rfl) rfl h (fun D10 h => ?_)
      exact x_vret rfl rfl h
theorem s_Reader_note_0 {d : Nat} {D : xD} {Q : Option Value → xD → Prop} {a0 : Nat} {x1 : Int32} {x2 : Int32} (k0 : xk a0 = 6) (h : (¬ (D.1 a0 9) = 0 → Q none D) ∧ ((D.1 a0 9) = 0 → ∀ D1 : xD, D1 = (xu D.1 a0 9 x1, D.2) → ∀ D2 : xD, D2 = (xu D1.1 a0 10 x2, D1.2) → Q none D2)) : xPf (d + 1) m_Reader_note 0 [(0, .ref a0), (1, .int x1), (2, .int x2)] [] D Q := by
  refine x_aload_n rfl rfl ?_
  refine x_gI lf_Reader_48 k0 rfl rfl ?_
  refine x_if_ne (tgt := 17) rfl rfl (fun c => ?_) (fun c => ?_)
  · have h := h.1 c
    exact x_vret rfl rfl h
  · have h := h.2 c
    refine x_aload_n rfl rfl ?_
    refine x_iload_n rfl rfl ?_
    refine x_pIn lp_Reader_48 nf_6_9 k0 rfl rfl (fun D1 eD1 => ?_)
    have h := h D1 eD1
    refine x_aload_n rfl rfl ?_
    refine x_iload_n rfl rfl ?_
    refine x_pIn lp_Reader_51 nf_6_10 k0 rfl rfl (fun D2 eD2 => ?_)
    have h := h D2 eD2
    exact x_vret rfl rfl h
theorem s_Reader_breakOff_0 {d : Nat} {D : xD} {Q : Option Value → xD → Prop} {a0 : Nat} (k0 : xk a0 = 6) (h : ∀ D1 : xD, D1 = (xu D.1 a0 8 (1 : Int32), D.2) → ∀ D2 : xD, D2 = (xu D1.1 a0 9 (1 : Int32), D1.2) → ∀ D3 : xD, D3 = (xu D2.1 a0 10 (D2.1 a0 5), D2.2) → Q none D3) : xPf (d + 1) m_Reader_breakOff 0 [(0, .ref a0)] [] D Q := by
  refine x_aload_n rfl rfl ?_
  refine x_iconst (v := (1 : Int32)) rfl rfl ?_
  refine x_pZn lp_Reader_44 nf_6_8 k0 rfl (Or.inr rfl) rfl (fun D1 eD1 => ?_)
  have h := h D1 eD1
  refine x_aload_n rfl rfl ?_
  refine x_iconst (v := (1 : Int32)) rfl rfl ?_
  refine x_pIn lp_Reader_48 nf_6_9 k0 rfl rfl (fun D2 eD2 => ?_)
  have h := h D2 eD2
  refine x_aload_n rfl rfl ?_
  refine x_aload_n rfl rfl ?_
  refine x_gI lf_Reader_99 k0 rfl rfl ?_
  refine x_pIn lp_Reader_51 nf_6_10 k0 rfl rfl (fun D3 eD3 => ?_)
  have h := h D3 eD3
  exact x_vret rfl rfl h
theorem s_Reader_step_0 {d : Nat} {D : xD} {Q : Option Value → xD → Prop} {a0 : Nat} (k0 : xk a0 = 6) (h : xPf (d + 1) m_Reader_step 5 [(0, .ref a0), (1, .int (D.1 a0 6))] [] D Q) : xPf (d + 1) m_Reader_step 0 [(0, .ref a0)] [] D Q := by
  refine x_aload_n rfl rfl ?_
  refine x_gI lf_Reader_40 k0 rfl rfl ?_
  refine x_istore_n (i := 1) (L1 := [(1, .int (D.1 a0 6)), (0, .ref a0)]) rfl rfl (Nat.le_of_ble_eq_true rfl) rfl ?_
  exact xP_sub [1, 0] rfl h
theorem s_Reader_step_5 {d : Nat} {D : xD} {Q : Option Value → xD → Prop} {a0 : Nat} {x1 : Int32} (k0 : xk a0 = 6) (h : xCi d m_Row_size [.ref (a0 + 1)] D (fun r2 D1 => (r2 ≤ x1 → ∀ D3 : xD, D3 = (xu D1.1 a0 5 x1, D1.2) → xCi d m_Row_size [.ref (a0 + 1)] D3 (fun r5 D4 => (x1 < r5 → xCi d m_Row_get [.ref (a0 + 1), .int x1] D4 (fun r7 D6 => xCi d m_Reader_isLetter [.int r7] D6 (fun r9 D8 => (r9 = 0 → xCi d m_Row_get [.ref (a0 + 1), .int x1] D8 (fun r11 D10 => xCi d m_Reader_isDigit [.int r11] D10 (fun r13 D12 => (r13 = 0 → ∀ D14 : xD, D14 = (xu D12.1 a0 6 (x1 + (1 : Int32)), D12.2) → xCi d m_Row_get [.ref (a0 + 1), .int x1] D14 (fun r16 D15 => (¬ r16 = (59 : Int32) → ∀ D17 : xD, D17 = (xu D15.1 a0 4 (4 : Int32), D15.2) → Q none D17) ∧ (r16 = (59 : Int32) → ∀ D18 : xD, D18 = (xu D15.1 a0 4 (2 : Int32), D15.2) → Q none D18))) ∧ (¬ r13 = 0 → xCi d m_Reader_endOfDigits [.ref a0, .int x1] D12 (fun r20 D19 => ∀ D21 : xD, D21 = (xu D19.1 a0 6 r20, D19.2) → (((D21.1 a0 6) - (D21.1 a0 5)) ≤ (2 : Int32) → ∀ D22 : xD, D22 = (xu D21.1 a0 4 (1 : Int32), D21.2) → Q none D22) ∧ (¬ ((D21.1 a0 6) - (D21.1 a0 5)) ≤ (2 : Int32) → ∀ D23 : xD, D23 = (xu D21.1 a0 4 (4 : Int32), D21.2) → Q none D23)))))) ∧ (¬ r9 = 0 → xCi d m_Reader_endOfLetters [.ref a0, .int x1] D8 (fun r25 D24 => ∀ D26 : xD, D26 = (xu D24.1 a0 6 r25, D24.2) → ∀ D27 : xD, D27 = (xu D26.1 a0 4 (0 : Int32), D26.2) → Q none D27))))) ∧ (¬ x1 < r5 → ∀ D28 : xD, D28 = (xu D4.1 a0 6 x1, D4.2) → ∀ D29 : xD, D29 = (xu D28.1 a0 4 (3 : Int32), D28.2) → Q none D29))) ∧ (¬ r2 ≤ x1 → xCi d m_Row_get [.ref (a0 + 1), .int x1] D1 (fun r31 D30 => xCi d m_Reader_isBlank [.int r31] D30 (fun r33 D32 => (r33 = 0 → ∀ D34 : xD, D34 = (xu D32.1 a0 5 x1, D32.2) → xCi d m_Row_size [.ref (a0 + 1)] D34 (fun r36 D35 => (x1 < r36 → xCi d m_Row_get [.ref (a0 + 1), .int x1] D35 (fun r38 D37 => xCi d m_Reader_isLetter [.int r38] D37 (fun r40 D39 => (r40 = 0 → xCi d m_Row_get [.ref (a0 + 1), .int x1] D39 (fun r42 D41 => xCi d m_Reader_isDigit [.int r42] D41 (fun r44 D43 => (r44 = 0 → ∀ D45 : xD, D45 = (xu D43.1 a0 6 (x1 + (1 : Int32)), D43.2) → xCi d m_Row_get [.ref (a0 + 1), .int x1] D45 (fun r47 D46 => (¬ r47 = (59 : Int32) → ∀ D48 : xD, D48 = (xu D46.1 a0 4 (4 : Int32), D46.2) → Q none D48) ∧ (r47 = (59 : Int32) → ∀ D49 : xD, D49 = (xu D46.1 a0 4 (2 : Int32), D46.2) → Q none D49))) ∧ (¬ r44 = 0 → xCi d m_Reader_endOfDigits [.ref a0, .int x1] D43 (fun r51 D50 => ∀ D52 : xD, D52 = (xu D50.1 a0 6 r51, D50.2) → (((D52.1 a0 6) - (D52.1 a0 5)) ≤ (2 : Int32) → ∀ D53 : xD, D53 = (xu D52.1 a0 4 (1 : Int32), D52.2) → Q none D53) ∧ (¬ ((D52.1 a0 6) - (D52.1 a0 5)) ≤ (2 : Int32) → ∀ D54 : xD, D54 = (xu D52.1 a0 4 (4 : Int32), D52.2) → Q none D54)))))) ∧ (¬ r40 = 0 → xCi d m_Reader_endOfLetters [.ref a0, .int x1] D39 (fun r56 D55 => ∀ D57 : xD, D57 = (xu D55.1 a0 6 r56, D55.2) → ∀ D58 : xD, D58 = (xu D57.1 a0 4 (0 : Int32), D57.2) → Q none D58))))) ∧ (¬ x1 < r36 → ∀ D59 : xD, D59 = (xu D35.1 a0 6 x1, D35.2) → ∀ D60 : xD, D60 = (xu D59.1 a0 4 (3 : Int32), D59.2) → Q none D60))) ∧ (¬ r33 = 0 → xPf (d + 1) m_Reader_step 5 [(0, .ref a0), (1, .int (x1 + (1 : Int32)))] [] D32 Q)))))) : xPf (d + 1) m_Reader_step 5 [(0, .ref a0), (1, .int x1)] [] D Q := by
  refine x_iload_n rfl rfl ?_
  refine x_aload_n rfl rfl ?_
  refine x_gR lf_Reader_14 k0 rfl rfl ?_
  refine x_vi lm_Reader_73 vf_Row_size (ck_6_0 k0) rfl rfl (Nat.le_of_ble_eq_true rfl) rfl h (fun r2 D1 h => ?_)
  refine x_icmp_ge (tgt := 36) rfl rfl (fun c => ?_) (fun c => ?_)
  · have h := h.1 c
    refine x_aload_n rfl rfl ?_
    refine x_iload_n rfl rfl ?_
    refine x_pIn lp_Reader_99 nf_6_5 k0 rfl rfl (fun D3 eD3 => ?_)
    have h := h D3 eD3
    refine x_iload_n rfl rfl ?_
    refine x_aload_n rfl rfl ?_
    refine x_gR lf_Reader_14 k0 rfl rfl ?_
    refine x_vi lm_Reader_73 vf_Row_size (ck_6_0 k0) rfl rfl (Nat.le_of_ble_eq_true rfl) rfl h (fun r5 D4 h => ?_)
    refine x_icmp_lt (tgt := 65) rfl rfl (fun c => ?_) (fun c => ?_)
    · have h := h.1 c
      refine x_aload_n rfl rfl ?_
      refine x_gR lf_Reader_14 k0 rfl rfl ?_
      refine x_iload_n rfl rfl ?_
      refine x_vi lm_Reader_219 vf_Row_get (ck_6_0 k0) rfl rfl (Nat.le_of_ble_eq_true rfl) rfl h (fun r7 D6 h => ?_)
      refine x_si lm_Reader_262 sf_Reader_isLetter rfl rfl (Nat.le_of_ble_eq_true rfl) rfl h (fun r9 D8 h => ?_)
      refine x_if_eq (tgt := 96) rfl rfl (fun c => ?_) (fun c => ?_)
      · have h := h.1 c
        refine x_aload_n rfl rfl ?_
        refine x_gR lf_Reader_14 k0 rfl rfl ?_
        refine x_iload_n rfl rfl ?_
        refine x_vi lm_Reader_219 vf_Row_get (ck_6_0 k0) rfl rfl (Nat.le_of_ble_eq_true rfl) rfl h (fun r11 D10 h => ?_)
        refine x_si lm_Reader_268 sf_Reader_isDigit rfl rfl (Nat.le_of_ble_eq_true rfl) rfl h (fun r13 D12 h => ?_)
        refine x_if_eq (tgt := 144) rfl rfl (fun c => ?_) (fun c => ?_)
        · have h := h.1 c
          refine x_aload_n rfl rfl ?_
          refine x_iload_n rfl rfl ?_
          refine x_iconst (v := (1 : Int32)) rfl rfl ?_
          refine x_iadd rfl ?_
          refine x_pIn lp_Reader_40 nf_6_6 k0 rfl rfl (fun D14 eD14 => ?_)
          have h := h D14 eD14
          refine x_aload_n rfl rfl ?_
          refine x_aload_n rfl rfl ?_
          refine x_gR lf_Reader_14 k0 rfl rfl ?_
          refine x_iload_n rfl rfl ?_
          refine x_vi lm_Reader_219 vf_Row_get (ck_6_0 k0) rfl rfl (Nat.le_of_ble_eq_true rfl) rfl h (fun r16 D15 h => ?_)
          refine x_bipush (v := (59 : Int32)) rfl rfl ?_
          refine x_icmp_ne (tgt := 169) rfl rfl (fun c => ?_) (fun c => ?_)
          · have h := h.1 c
            refine x_iconst (v := (4 : Int32)) rfl rfl ?_
            refine x_pIn lp_Reader_63 nf_6_4 k0 rfl rfl (fun D17 eD17 => ?_)
            have h := h D17 eD17
            exact x_vret rfl rfl h
          · have h := h.2 c
            refine x_iconst (v := (2 : Int32)) rfl rfl ?_
            refine x_goto (tgt := 170) rfl rfl ?_
            refine x_pIn lp_Reader_63 nf_6_4 k0 rfl rfl (fun D18 eD18 => ?_)
            have h := h D18 eD18
            exact x_vret rfl rfl h
        · have h := h.2 c
          refine x_aload_n rfl rfl ?_
          refine x_aload_n rfl rfl ?_
          refine x_iload_n rfl rfl ?_
          refine x_vi lm_Reader_271 vf_Reader_endOfDigits k0 rfl rfl (Nat.le_of_ble_eq_true rfl) rfl h (fun r20 D19 h => ?_)
          refine x_pIn lp_Reader_40 nf_6_6 k0 rfl rfl (fun D21 eD21 => ?_)
          have h := h D21 eD21
          refine x_aload_n rfl rfl ?_
          refine x_aload_n rfl rfl ?_
          refine x_gI lf_Reader_40 k0 rfl rfl ?_
          refine x_aload_n rfl rfl ?_
          refine x_gI lf_Reader_99 k0 rfl rfl ?_
          refine x_isub rfl ?_
          refine x_iconst (v := (2 : Int32)) rfl rfl ?_
          refine x_icmp_le (tgt := 137) rfl rfl (fun c => ?_) (fun c => ?_)
          · have h := h.1 c
            refine x_iconst (v := (1 : Int32)) rfl rfl ?_
            refine x_pIn lp_Reader_63 nf_6_4 k0 rfl rfl (fun D22 eD22 => ?_)
            have h := h D22 eD22
            refine x_goto (tgt := 173) rfl rfl ?_
            exact x_vret rfl rfl h
          · have h := h.2 c
            refine x_iconst (v := (4 : Int32)) rfl rfl ?_
            refine x_goto (tgt := 138) rfl rfl ?_
            refine x_pIn lp_Reader_63 nf_6_4 k0 rfl rfl (fun D23 eD23 => ?_)
            have h := h D23 eD23
            refine x_goto (tgt := 173) rfl rfl ?_
            exact x_vret rfl rfl h
      · have h := h.2 c
        refine x_aload_n rfl rfl ?_
        refine x_aload_n rfl rfl ?_
        refine x_iload_n rfl rfl ?_
        refine x_vi lm_Reader_265 vf_Reader_endOfLetters k0 rfl rfl (Nat.le_of_ble_eq_true rfl) rfl h (fun r25 D24 h => ?_)
        refine x_pIn lp_Reader_40 nf_6_6 k0 rfl rfl (fun D26 eD26 => ?_)
        have h := h D26 eD26
        refine x_aload_n rfl rfl ?_
        refine x_iconst (v := (0 : Int32)) rfl rfl ?_
        refine x_pIn lp_Reader_63 nf_6_4 k0 rfl rfl (fun D27 eD27 => ?_)
        have h := h D27 eD27
        refine x_goto (tgt := 173) rfl rfl ?_
        exact x_vret rfl rfl h
    · have h := h.2 c
      refine x_aload_n rfl rfl ?_
      refine x_iload_n rfl rfl ?_
      refine x_pIn lp_Reader_40 nf_6_6 k0 rfl rfl (fun D28 eD28 => ?_)
      have h := h D28 eD28
      refine x_aload_n rfl rfl ?_
      refine x_iconst (v := (3 : Int32)) rfl rfl ?_
      refine x_pIn lp_Reader_63 nf_6_4 k0 rfl rfl (fun D29 eD29 => ?_)
      have h := h D29 eD29
      refine x_goto (tgt := 173) rfl rfl ?_
      exact x_vret rfl rfl h
  · have h := h.2 c
    refine x_aload_n rfl rfl ?_
    refine x_gR lf_Reader_14 k0 rfl rfl ?_
    refine x_iload_n rfl rfl ?_
    refine x_vi lm_Reader_219 vf_Row_get (ck_6_0 k0) rfl rfl (Nat.le_of_ble_eq_true rfl) rfl h (fun r31 D30 h => ?_)
    refine x_si lm_Reader_258 sf_Reader_isBlank rfl rfl (Nat.le_of_ble_eq_true rfl) rfl h (fun r33 D32 h => ?_)
    refine x_if_eq (tgt := 36) rfl rfl (fun c => ?_) (fun c => ?_)
    · have h := h.1 c
      refine x_aload_n rfl rfl ?_
      refine x_iload_n rfl rfl ?_
      refine x_pIn lp_Reader_99 nf_6_5 k0 rfl rfl (fun D34 eD34 => ?_)
      have h := h D34 eD34
      refine x_iload_n rfl rfl ?_
      refine x_aload_n rfl rfl ?_
      refine x_gR lf_Reader_14 k0 rfl rfl ?_
      refine x_vi lm_Reader_73 vf_Row_size (ck_6_0 k0) rfl rfl (Nat.le_of_ble_eq_true rfl) rfl h (fun r36 D35 h => ?_)
      refine x_icmp_lt (tgt := 65) rfl rfl (fun c => ?_) (fun c => ?_)
      · have h := h.1 c
        refine x_aload_n rfl rfl ?_
        refine x_gR lf_Reader_14 k0 rfl rfl ?_
        refine x_iload_n rfl rfl ?_
        refine x_vi lm_Reader_219 vf_Row_get (ck_6_0 k0) rfl rfl (Nat.le_of_ble_eq_true rfl) rfl h (fun r38 D37 h => ?_)
        refine x_si lm_Reader_262 sf_Reader_isLetter rfl rfl (Nat.le_of_ble_eq_true rfl) rfl h (fun r40 D39 h => ?_)
        refine x_if_eq (tgt := 96) rfl rfl (fun c => ?_) (fun c => ?_)
        · have h := h.1 c
          refine x_aload_n rfl rfl ?_
          refine x_gR lf_Reader_14 k0 rfl rfl ?_
          refine x_iload_n rfl rfl ?_
          refine x_vi lm_Reader_219 vf_Row_get (ck_6_0 k0) rfl rfl (Nat.le_of_ble_eq_true rfl) rfl h (fun r42 D41 h => ?_)
          refine x_si lm_Reader_268 sf_Reader_isDigit rfl rfl (Nat.le_of_ble_eq_true rfl) rfl h (fun r44 D43 h => ?_)
          refine x_if_eq (tgt := 144) rfl rfl (fun c => ?_) (fun c => ?_)
          · have h := h.1 c
            refine x_aload_n rfl rfl ?_
            refine x_iload_n rfl rfl ?_
            refine x_iconst (v := (1 : Int32)) rfl rfl ?_
            refine x_iadd rfl ?_
            refine x_pIn lp_Reader_40 nf_6_6 k0 rfl rfl (fun D45 eD45 => ?_)
            have h := h D45 eD45
            refine x_aload_n rfl rfl ?_
            refine x_aload_n rfl rfl ?_
            refine x_gR lf_Reader_14 k0 rfl rfl ?_
            refine x_iload_n rfl rfl ?_
            refine x_vi lm_Reader_219 vf_Row_get (ck_6_0 k0) rfl rfl (Nat.le_of_ble_eq_true rfl) rfl h (fun r47 D46 h => ?_)
            refine x_bipush (v := (59 : Int32)) rfl rfl ?_
            refine x_icmp_ne (tgt := 169) rfl rfl (fun c => ?_) (fun c => ?_)
            · have h := h.1 c
              refine x_iconst (v := (4 : Int32)) rfl rfl ?_
              refine x_pIn lp_Reader_63 nf_6_4 k0 rfl rfl (fun D48 eD48 => ?_)
              have h := h D48 eD48
              exact x_vret rfl rfl h
            · have h := h.2 c
              refine x_iconst (v := (2 : Int32)) rfl rfl ?_
              refine x_goto (tgt := 170) rfl rfl ?_
              refine x_pIn lp_Reader_63 nf_6_4 k0 rfl rfl (fun D49 eD49 => ?_)
              have h := h D49 eD49
              exact x_vret rfl rfl h
          · have h := h.2 c
            refine x_aload_n rfl rfl ?_
            refine x_aload_n rfl rfl ?_
            refine x_iload_n rfl rfl ?_
            refine x_vi lm_Reader_271 vf_Reader_endOfDigits k0 rfl rfl (Nat.le_of_ble_eq_true rfl) rfl h (fun r51 D50 h => ?_)
            refine x_pIn lp_Reader_40 nf_6_6 k0 rfl rfl (fun D52 eD52 => ?_)
            have h := h D52 eD52
            refine x_aload_n rfl rfl ?_
            refine x_aload_n rfl rfl ?_
            refine x_gI lf_Reader_40 k0 rfl rfl ?_
            refine x_aload_n rfl rfl ?_
            refine x_gI lf_Reader_99 k0 rfl rfl ?_
            refine x_isub rfl ?_
            refine x_iconst (v := (2 : Int32)) rfl rfl ?_
            refine x_icmp_le (tgt := 137) rfl rfl (fun c => ?_) (fun c => ?_)
            · have h := h.1 c
              refine x_iconst (v := (1 : Int32)) rfl rfl ?_
              refine x_pIn lp_Reader_63 nf_6_4 k0 rfl rfl (fun D53 eD53 => ?_)
              have h := h D53 eD53
              refine x_goto (tgt := 173) rfl rfl ?_
              exact x_vret rfl rfl h
            · have h := h.2 c
              refine x_iconst (v := (4 : Int32)) rfl rfl ?_
              refine x_goto (tgt := 138) rfl rfl ?_
              refine x_pIn lp_Reader_63 nf_6_4 k0 rfl rfl (fun D54 eD54 => ?_)
              have h := h D54 eD54
              refine x_goto (tgt := 173) rfl rfl ?_
              exact x_vret rfl rfl h
        · have h := h.2 c
          refine x_aload_n rfl rfl ?_
          refine x_aload_n rfl rfl ?_
          refine x_iload_n rfl rfl ?_
          refine x_vi lm_Reader_265 vf_Reader_endOfLetters k0 rfl rfl (Nat.le_of_ble_eq_true rfl) rfl h (fun r56 D55 h => ?_)
          refine x_pIn lp_Reader_40 nf_6_6 k0 rfl rfl (fun D57 eD57 => ?_)
          have h := h D57 eD57
          refine x_aload_n rfl rfl ?_
          refine x_iconst (v := (0 : Int32)) rfl rfl ?_
          refine x_pIn lp_Reader_63 nf_6_4 k0 rfl rfl (fun D58 eD58 => ?_)
          have h := h D58 eD58
          refine x_goto (tgt := 173) rfl rfl ?_
          exact x_vret rfl rfl h
      · have h := h.2 c
        refine x_aload_n rfl rfl ?_
        refine x_iload_n rfl rfl ?_
        refine x_pIn lp_Reader_40 nf_6_6 k0 rfl rfl (fun D59 eD59 => ?_)
        have h := h D59 eD59
        refine x_aload_n rfl rfl ?_
        refine x_iconst (v := (3 : Int32)) rfl rfl ?_
        refine x_pIn lp_Reader_63 nf_6_4 k0 rfl rfl (fun D60 eD60 => ?_)
        have h := h D60 eD60
        refine x_goto (tgt := 173) rfl rfl ?_
        exact x_vret rfl rfl h
    · have h := h.2 c
      refine x_iinc (i := 1) (v := x1 + (1 : Int32)) (L1 := [(1, .int (x1 + (1 : Int32))), (0, .ref a0)]) rfl rfl rfl (Nat.le_of_ble_eq_true rfl) rfl ?_
      refine x_goto (tgt := 5) rfl rfl ?_
      exact xP_sub [1, 0] rfl h
theorem s_Reader_endOfLetters_0 {d : Nat} {D : xD} {Q : Option Value → xD → Prop} {a0 : Nat} {x1 : Int32} (k0 : xk a0 = 6) (h : xPf (d + 1) m_Reader_endOfLetters 2 [(0, .ref a0), (1, .int x1), (2, .int x1)] [] D Q) : xPf (d + 1) m_Reader_endOfLetters 0 [(0, .ref a0), (1, .int x1)] [] D Q := by
  refine x_iload_n rfl rfl ?_
  refine x_istore_n (i := 2) (L1 := [(2, .int x1), (0, .ref a0), (1, .int x1)]) rfl rfl (Nat.le_of_ble_eq_true rfl) rfl ?_
  exact xP_sub [1, 2, 0] rfl h
theorem s_Reader_endOfLetters_2 {d : Nat} {D : xD} {Q : Option Value → xD → Prop} {a0 : Nat} {x1 : Int32} {x2 : Int32} (k0 : xk a0 = 6) (h : xCi d m_Row_size [.ref (a0 + 1)] D (fun r2 D1 => (r2 ≤ x2 → Q (some (.int x2)) D1) ∧ (¬ r2 ≤ x2 → xCi d m_Row_get [.ref (a0 + 1), .int x2] D1 (fun r4 D3 => xCi d m_Reader_isLetter [.int r4] D3 (fun r6 D5 => (r6 = 0 → Q (some (.int x2)) D5) ∧ (¬ r6 = 0 → xPf (d + 1) m_Reader_endOfLetters 2 [(0, .ref a0), (1, .int x1), (2, .int (x2 + (1 : Int32)))] [] D5 Q)))))) : xPf (d + 1) m_Reader_endOfLetters 2 [(0, .ref a0), (1, .int x1), (2, .int x2)] [] D Q := by
  refine x_iload_n rfl rfl ?_
  refine x_aload_n rfl rfl ?_
  refine x_gR lf_Reader_14 k0 rfl rfl ?_
  refine x_vi lm_Reader_73 vf_Row_size (ck_6_0 k0) rfl rfl (Nat.le_of_ble_eq_true rfl) rfl h (fun r2 D1 h => ?_)
  refine x_icmp_ge (tgt := 33) rfl rfl (fun c => ?_) (fun c => ?_)
  · have h := h.1 c
    refine x_iload_n rfl rfl ?_
    exact x_iret rfl rfl h
  · have h := h.2 c
    refine x_aload_n rfl rfl ?_
    refine x_gR lf_Reader_14 k0 rfl rfl ?_
    refine x_iload_n rfl rfl ?_
    refine x_vi lm_Reader_219 vf_Row_get (ck_6_0 k0) rfl rfl (Nat.le_of_ble_eq_true rfl) rfl h (fun r4 D3 h => ?_)
    refine x_si lm_Reader_262 sf_Reader_isLetter rfl rfl (Nat.le_of_ble_eq_true rfl) rfl h (fun r6 D5 h => ?_)
    refine x_if_eq (tgt := 33) rfl rfl (fun c => ?_) (fun c => ?_)
    · have h := h.1 c
      refine x_iload_n rfl rfl ?_
      exact x_iret rfl rfl h
    · have h := h.2 c
      refine x_iinc (i := 2) (v := x2 + (1 : Int32)) (L1 := [(2, .int (x2 + (1 : Int32))), (0, .ref a0), (1, .int x1)]) rfl rfl rfl (Nat.le_of_ble_eq_true rfl) rfl ?_
      refine x_goto (tgt := 2) rfl rfl ?_
      exact xP_sub [1, 2, 0] rfl h
theorem s_Reader_endOfDigits_0 {d : Nat} {D : xD} {Q : Option Value → xD → Prop} {a0 : Nat} {x1 : Int32} (k0 : xk a0 = 6) (h : xPf (d + 1) m_Reader_endOfDigits 2 [(0, .ref a0), (1, .int x1), (2, .int x1)] [] D Q) : xPf (d + 1) m_Reader_endOfDigits 0 [(0, .ref a0), (1, .int x1)] [] D Q := by
  refine x_iload_n rfl rfl ?_
  refine x_istore_n (i := 2) (L1 := [(2, .int x1), (0, .ref a0), (1, .int x1)]) rfl rfl (Nat.le_of_ble_eq_true rfl) rfl ?_
  exact xP_sub [1, 2, 0] rfl h
theorem s_Reader_endOfDigits_2 {d : Nat} {D : xD} {Q : Option Value → xD → Prop} {a0 : Nat} {x1 : Int32} {x2 : Int32} (k0 : xk a0 = 6) (h : xCi d m_Row_size [.ref (a0 + 1)] D (fun r2 D1 => (r2 ≤ x2 → Q (some (.int x2)) D1) ∧ (¬ r2 ≤ x2 → xCi d m_Row_get [.ref (a0 + 1), .int x2] D1 (fun r4 D3 => xCi d m_Reader_isDigit [.int r4] D3 (fun r6 D5 => (r6 = 0 → Q (some (.int x2)) D5) ∧ (¬ r6 = 0 → xPf (d + 1) m_Reader_endOfDigits 2 [(0, .ref a0), (1, .int x1), (2, .int (x2 + (1 : Int32)))] [] D5 Q)))))) : xPf (d + 1) m_Reader_endOfDigits 2 [(0, .ref a0), (1, .int x1), (2, .int x2)] [] D Q := by
  refine x_iload_n rfl rfl ?_
  refine x_aload_n rfl rfl ?_
  refine x_gR lf_Reader_14 k0 rfl rfl ?_
  refine x_vi lm_Reader_73 vf_Row_size (ck_6_0 k0) rfl rfl (Nat.le_of_ble_eq_true rfl) rfl h (fun r2 D1 h => ?_)
  refine x_icmp_ge (tgt := 33) rfl rfl (fun c => ?_) (fun c => ?_)
  · have h := h.1 c
    refine x_iload_n rfl rfl ?_
    exact x_iret rfl rfl h
  · have h := h.2 c
    refine x_aload_n rfl rfl ?_
    refine x_gR lf_Reader_14 k0 rfl rfl ?_
    refine x_iload_n rfl rfl ?_
    refine x_vi lm_Reader_219 vf_Row_get (ck_6_0 k0) rfl rfl (Nat.le_of_ble_eq_true rfl) rfl h (fun r4 D3 h => ?_)
    refine x_si lm_Reader_268 sf_Reader_isDigit rfl rfl (Nat.le_of_ble_eq_true rfl) rfl h (fun r6 D5 h => ?_)
    refine x_if_eq (tgt := 33) rfl rfl (fun c => ?_) (fun c => ?_)
    · have h := h.1 c
      refine x_iload_n rfl rfl ?_
      exact x_iret rfl rfl h
    · have h := h.2 c
      refine x_iinc (i := 2) (v := x2 + (1 : Int32)) (L1 := [(2, .int (x2 + (1 : Int32))), (0, .ref a0), (1, .int x1)]) rfl rfl rfl (Nat.le_of_ble_eq_true rfl) rfl ?_
      refine x_goto (tgt := 2) rfl rfl ?_
      exact xP_sub [1, 2, 0] rfl h
theorem s_Reader_isBlank_0 {d : Nat} {D : xD} {Q : Option Value → xD → Prop} {x0 : Int32}  (h : (x0 = (10 : Int32) → Q (some (.int (1 : Int32))) D) ∧ (¬ x0 = (10 : Int32) → (¬ x0 = (32 : Int32) → Q (some (.int (0 : Int32))) D) ∧ (x0 = (32 : Int32) → Q (some (.int (1 : Int32))) D))) : xPf (d + 1) m_Reader_isBlank 0 [(0, .int x0)] [] D Q := by
  refine x_iload_n rfl rfl ?_
  refine x_bipush (v := (10 : Int32)) rfl rfl ?_
  refine x_icmp_eq (tgt := 12) rfl rfl (fun c => ?_) (fun c => ?_)
  · have h := h.1 c
    refine x_iconst (v := (1 : Int32)) rfl rfl ?_
    refine x_goto (tgt := 17) rfl rfl ?_
    exact x_zr rfl (Or.inr rfl) rfl h
  · have h := h.2 c
    refine x_iload_n rfl rfl ?_
    refine x_bipush (v := (32 : Int32)) rfl rfl ?_
    refine x_icmp_ne (tgt := 16) rfl rfl (fun c => ?_) (fun c => ?_)
    · have h := h.1 c
      refine x_iconst (v := (0 : Int32)) rfl rfl ?_
      exact x_zr rfl (Or.inl rfl) rfl h
    · have h := h.2 c
      refine x_iconst (v := (1 : Int32)) rfl rfl ?_
      refine x_goto (tgt := 17) rfl rfl ?_
      exact x_zr rfl (Or.inr rfl) rfl h
theorem s_Reader_isLetter_0 {d : Nat} {D : xD} {Q : Option Value → xD → Prop} {x0 : Int32}  (h : (x0 < (97 : Int32) → Q (some (.int (0 : Int32))) D) ∧ (¬ x0 < (97 : Int32) → ((122 : Int32) < x0 → Q (some (.int (0 : Int32))) D) ∧ (¬ (122 : Int32) < x0 → Q (some (.int (1 : Int32))) D))) : xPf (d + 1) m_Reader_isLetter 0 [(0, .int x0)] [] D Q := by
  refine x_iload_n rfl rfl ?_
  refine x_bipush (v := (97 : Int32)) rfl rfl ?_
  refine x_icmp_lt (tgt := 16) rfl rfl (fun c => ?_) (fun c => ?_)
  · have h := h.1 c
    refine x_iconst (v := (0 : Int32)) rfl rfl ?_
    exact x_zr rfl (Or.inl rfl) rfl h
  · have h := h.2 c
    refine x_iload_n rfl rfl ?_
    refine x_bipush (v := (122 : Int32)) rfl rfl ?_
    refine x_icmp_gt (tgt := 16) rfl rfl (fun c => ?_) (fun c => ?_)
    · have h := h.1 c
      refine x_iconst (v := (0 : Int32)) rfl rfl ?_
      exact x_zr rfl (Or.inl rfl) rfl h
    · have h := h.2 c
      refine x_iconst (v := (1 : Int32)) rfl rfl ?_
      refine x_goto (tgt := 17) rfl rfl ?_
      exact x_zr rfl (Or.inr rfl) rfl h
theorem s_Reader_isDigit_0 {d : Nat} {D : xD} {Q : Option Value → xD → Prop} {x0 : Int32}  (h : (x0 < (48 : Int32) → Q (some (.int (0 : Int32))) D) ∧ (¬ x0 < (48 : Int32) → ((57 : Int32) < x0 → Q (some (.int (0 : Int32))) D) ∧ (¬ (57 : Int32) < x0 → Q (some (.int (1 : Int32))) D))) : xPf (d + 1) m_Reader_isDigit 0 [(0, .int x0)] [] D Q := by
  refine x_iload_n rfl rfl ?_
  refine x_bipush (v := (48 : Int32)) rfl rfl ?_
  refine x_icmp_lt (tgt := 16) rfl rfl (fun c => ?_) (fun c => ?_)
  · have h := h.1 c
    refine x_iconst (v := (0 : Int32)) rfl rfl ?_
    exact x_zr rfl (Or.inl rfl) rfl h
  · have h := h.2 c
    refine x_iload_n rfl rfl ?_
    refine x_bipush (v := (57 : Int32)) rfl rfl ?_
    refine x_icmp_gt (tgt := 16) rfl rfl (fun c => ?_) (fun c => ?_)
    · have h := h.1 c
      refine x_iconst (v := (0 : Int32)) rfl rfl ?_
      exact x_zr rfl (Or.inl rfl) rfl h
    · have h := h.2 c
      refine x_iconst (v := (1 : Int32)) rfl rfl ?_
      refine x_goto (tgt := 17) rfl rfl ?_
      exact x_zr rfl (Or.inr rfl) rfl h
theorem s_Reader_says_0 {d : Nat} {D : xD} {Q : Option Value → xD → Prop} {a0 : Nat} {a1 : Nat} (k0 : xk a0 = 6) (hs : a1 < 21) (h : xCi d m_String_length [.ref (100000 + a1)] D (fun r1 D2 => (((D.1 a0 6) - (D.1 a0 5)) = r1 → xPf (d + 1) m_Reader_says 20 [(0, .ref a0), (1, .ref (100000 + a1)), (2, .int (0 : Int32))] [] D2 Q) ∧ (¬ ((D.1 a0 6) - (D.1 a0 5)) = r1 → Q (some (.int (0 : Int32))) D2))) : xPf (d + 1) m_Reader_says 0 [(0, .ref a0), (1, .ref (100000 + a1))] [] D Q := by
  refine x_aload_n rfl rfl ?_
  refine x_gI lf_Reader_40 k0 rfl rfl ?_
  refine x_aload_n rfl rfl ?_
  refine x_gI lf_Reader_99 k0 rfl rfl ?_
  refine x_isub rfl ?_
  refine x_aload_n rfl rfl ?_
  refine x_svi (y := m_String_length) hs wd_583 y_String_length wd_584 wd_585 rfl rfl rfl (Nat.le_of_ble_eq_true rfl) rfl h (fun r1 D2 h => ?_)
  refine x_icmp_eq (tgt := 18) rfl rfl (fun c => ?_) (fun c => ?_)
  · have h := h.1 c
    refine x_iconst (v := (0 : Int32)) rfl rfl ?_
    refine x_istore_n (i := 2) (L1 := [(2, .int (0 : Int32)), (0, .ref a0), (1, .ref (100000 + a1))]) rfl rfl (Nat.le_of_ble_eq_true rfl) rfl ?_
    exact xP_sub [1, 2, 0] rfl h
  · have h := h.2 c
    refine x_iconst (v := (0 : Int32)) rfl rfl ?_
    exact x_zr rfl (Or.inl rfl) rfl h
theorem s_Reader_says_20 {d : Nat} {D : xD} {Q : Option Value → xD → Prop} {a0 : Nat} {a1 : Nat} {x2 : Int32} (k0 : xk a0 = 6) (hs : a1 < 21) (h : xCi d m_String_length [.ref (100000 + a1)] D (fun r1 D2 => (r1 ≤ x2 → Q (some (.int (1 : Int32))) D2) ∧ (¬ r1 ≤ x2 → xCi d m_Row_get [.ref (a0 + 1), .int ((D2.1 a0 5) + x2)] D2 (fun r4 D3 => xCi d m_String_charAt [.ref (100000 + a1), .int x2] D3 (fun r5 D6 => (r4 = r5 → xPf (d + 1) m_Reader_says 20 [(0, .ref a0), (1, .ref (100000 + a1)), (2, .int (x2 + (1 : Int32)))] [] D6 Q) ∧ (¬ r4 = r5 → Q (some (.int (0 : Int32))) D6)))))) : xPf (d + 1) m_Reader_says 20 [(0, .ref a0), (1, .ref (100000 + a1)), (2, .int x2)] [] D Q := by
  refine x_iload_n rfl rfl ?_
  refine x_aload_n rfl rfl ?_
  refine x_svi (y := m_String_length) hs wd_583 y_String_length wd_584 wd_585 rfl rfl rfl (Nat.le_of_ble_eq_true rfl) rfl h (fun r1 D2 h => ?_)
  refine x_icmp_ge (tgt := 57) rfl rfl (fun c => ?_) (fun c => ?_)
  · have h := h.1 c
    refine x_iconst (v := (1 : Int32)) rfl rfl ?_
    exact x_zr rfl (Or.inr rfl) rfl h
  · have h := h.2 c
    refine x_aload_n rfl rfl ?_
    refine x_gR lf_Reader_14 k0 rfl rfl ?_
    refine x_aload_n rfl rfl ?_
    refine x_gI lf_Reader_99 k0 rfl rfl ?_
    refine x_iload_n rfl rfl ?_
    refine x_iadd rfl ?_
    refine x_vi lm_Reader_219 vf_Row_get (ck_6_0 k0) rfl rfl (Nat.le_of_ble_eq_true rfl) rfl h (fun r4 D3 h => ?_)
    refine x_aload_n rfl rfl ?_
    refine x_iload_n rfl rfl ?_
    refine x_svi (y := m_String_charAt) hs wd_593 y_String_charAt wd_594 wd_595 rfl rfl rfl (Nat.le_of_ble_eq_true rfl) rfl h (fun r5 D6 h => ?_)
    refine x_icmp_eq (tgt := 51) rfl rfl (fun c => ?_) (fun c => ?_)
    · have h := h.1 c
      refine x_iinc (i := 2) (v := x2 + (1 : Int32)) (L1 := [(2, .int (x2 + (1 : Int32))), (0, .ref a0), (1, .ref (100000 + a1))]) rfl rfl rfl (Nat.le_of_ble_eq_true rfl) rfl ?_
      refine x_goto (tgt := 20) rfl rfl ?_
      exact xP_sub [1, 2, 0] rfl h
    · have h := h.2 c
      refine x_iconst (v := (0 : Int32)) rfl rfl ?_
      exact x_zr rfl (Or.inl rfl) rfl h
theorem s_Reader_numberHere_0 {d : Nat} {D : xD} {Q : Option Value → xD → Prop} {a0 : Nat} (k0 : xk a0 = 6) (h : xPf (d + 1) m_Reader_numberHere 7 [(0, .ref a0), (1, .int (0 : Int32)), (2, .int (D.1 a0 5))] [] D Q) : xPf (d + 1) m_Reader_numberHere 0 [(0, .ref a0)] [] D Q := by
  refine x_iconst (v := (0 : Int32)) rfl rfl ?_
  refine x_istore_n (i := 1) (L1 := [(1, .int (0 : Int32)), (0, .ref a0)]) rfl rfl (Nat.le_of_ble_eq_true rfl) rfl ?_
  refine x_aload_n rfl rfl ?_
  refine x_gI lf_Reader_99 k0 rfl rfl ?_
  refine x_istore_n (i := 2) (L1 := [(2, .int (D.1 a0 5)), (1, .int (0 : Int32)), (0, .ref a0)]) rfl rfl (Nat.le_of_ble_eq_true rfl) rfl ?_
  exact xP_sub [2, 1, 0] rfl h
theorem s_Reader_numberHere_7 {d : Nat} {D : xD} {Q : Option Value → xD → Prop} {a0 : Nat} {x1 : Int32} {x2 : Int32} (k0 : xk a0 = 6) (h : ((D.1 a0 6) ≤ x2 → Q (some (.int x1)) D) ∧ (¬ (D.1 a0 6) ≤ x2 → xCi d m_Row_get [.ref (a0 + 1), .int x2] D (fun r2 D1 => xPf (d + 1) m_Reader_numberHere 7 [(0, .ref a0), (1, .int (((x1 * (10 : Int32)) + r2) - (48 : Int32))), (2, .int (x2 + (1 : Int32)))] [] D1 Q))) : xPf (d + 1) m_Reader_numberHere 7 [(0, .ref a0), (1, .int x1), (2, .int x2)] [] D Q := by
  refine x_iload_n rfl rfl ?_
  refine x_aload_n rfl rfl ?_
  refine x_gI lf_Reader_40 k0 rfl rfl ?_
  refine x_icmp_ge (tgt := 38) rfl rfl (fun c => ?_) (fun c => ?_)
  · have h := h.1 c
    refine x_iload_n rfl rfl ?_
    exact x_iret rfl rfl h
  · have h := h.2 c
    refine x_iload_n rfl rfl ?_
    refine x_bipush (v := (10 : Int32)) rfl rfl ?_
    refine x_imul rfl ?_
    refine x_aload_n rfl rfl ?_
    refine x_gR lf_Reader_14 k0 rfl rfl ?_
    refine x_iload_n rfl rfl ?_
    refine x_vi lm_Reader_219 vf_Row_get (ck_6_0 k0) rfl rfl (Nat.le_of_ble_eq_true rfl) rfl h (fun r2 D1 h => ?_)
    refine x_iadd rfl ?_
    refine x_bipush (v := (48 : Int32)) rfl rfl ?_
    refine x_isub rfl ?_
    refine x_istore_n (i := 1) (L1 := [(1, .int (((x1 * (10 : Int32)) + r2) - (48 : Int32))), (0, .ref a0), (2, .int x2)]) rfl rfl (Nat.le_of_ble_eq_true rfl) rfl ?_
    refine x_iinc (i := 2) (v := x2 + (1 : Int32)) (L1 := [(2, .int (x2 + (1 : Int32))), (1, .int (((x1 * (10 : Int32)) + r2) - (48 : Int32))), (0, .ref a0)]) rfl rfl rfl (Nat.le_of_ble_eq_true rfl) rfl ?_
    refine x_goto (tgt := 7) rfl rfl ?_
    exact xP_sub [2, 1, 0] rfl h
theorem s_Sheet_clear_0 {d : Nat} {D : xD} {Q : Option Value → xD → Prop} {a0 : Nat} (k0 : xk a0 = 3) (h : xCv d m_Table_clear [.ref (a0 + 1)] D (fun D1 => xCv d m_Row_clear [.ref (a0 + 6)] D1 (fun D2 => xCv d m_Row_clear [.ref (a0 + 8)] D2 (fun D3 => xCv d m_Row_clear [.ref (a0 + 10)] D3 (fun D4 => xCv d m_Row_clear [.ref (a0 + 12)] D4 (fun D5 => xCv d m_Film_clear [.ref (a0 + 14)] D5 (fun D6 => Q none D6))))))) : xPf (d + 1) m_Sheet_clear 0 [(0, .ref a0)] [] D Q := by
  refine x_aload_n rfl rfl ?_
  refine x_gR lf_Sheet_12 k0 rfl rfl ?_
  refine x_vv lm_Sheet_43 vf_Table_clear (ck_3_0 k0) rfl rfl (Nat.le_of_ble_eq_true rfl) rfl h (fun D1 h => ?_)
  refine x_aload_n rfl rfl ?_
  refine x_gR lf_Sheet_23 k0 rfl rfl ?_
  refine x_vv lm_Sheet_46 vf_Row_clear (ck_3_1 k0) rfl rfl (Nat.le_of_ble_eq_true rfl) rfl h (fun D2 h => ?_)
  refine x_aload_n rfl rfl ?_
  refine x_gR lf_Sheet_27 k0 rfl rfl ?_
  refine x_vv lm_Sheet_46 vf_Row_clear (ck_3_2 k0) rfl rfl (Nat.le_of_ble_eq_true rfl) rfl h (fun D3 h => ?_)
  refine x_aload_n rfl rfl ?_
  refine x_gR lf_Sheet_30 k0 rfl rfl ?_
  refine x_vv lm_Sheet_46 vf_Row_clear (ck_3_3 k0) rfl rfl (Nat.le_of_ble_eq_true rfl) rfl h (fun D4 h => ?_)
  refine x_aload_n rfl rfl ?_
  refine x_gR lf_Sheet_33 k0 rfl rfl ?_
  refine x_vv lm_Sheet_46 vf_Row_clear (ck_3_4 k0) rfl rfl (Nat.le_of_ble_eq_true rfl) rfl h (fun D5 h => ?_)
  refine x_aload_n rfl rfl ?_
  refine x_gR lf_Sheet_39 k0 rfl rfl ?_
  refine x_vv lm_Sheet_47 vf_Film_clear (ck_3_5 k0) rfl rfl (Nat.le_of_ble_eq_true rfl) rfl h (fun D6 h => ?_)
  exact x_vret rfl rfl h
theorem s_Sheet_copy_0 {d : Nat} {D : xD} {Q : Option Value → xD → Prop} {a0 : Nat} {x1 : Int32} {a2 : Nat} (k0 : xk a0 = 3) (k2 : xk a2 = 3) (h : (x1 = (0 : Int32) → xCv d m_Table_copy [.ref (a0 + 1), .ref (a2 + 1)] D (fun D1 => Q none D1)) ∧ (x1 = (1 : Int32) → xCv d m_Row_copy [.ref (a0 + 6), .ref (a2 + 6)] D (fun D2 => Q none D2)) ∧ (x1 = (2 : Int32) → xCv d m_Row_copy [.ref (a0 + 8), .ref (a2 + 8)] D (fun D3 => Q none D3)) ∧ (x1 = (3 : Int32) → xCv d m_Row_copy [.ref (a0 + 10), .ref (a2 + 10)] D (fun D4 => xCv d m_Row_copy [.ref (a0 + 12), .ref (a2 + 12)] D4 (fun D5 => Q none D5))) ∧ (x1 = (4 : Int32) → xCv d m_Film_copy [.ref (a0 + 14), .ref (a2 + 14)] D (fun D6 => Q none D6)) ∧ (((x1).toInt < 0 ∨ 4 < (x1).toInt) → Q none D)) : xPf (d + 1) m_Sheet_copy 0 [(0, .ref a0), (1, .int x1), (2, .ref a2)] [] D Q := by
  refine x_iload_n rfl rfl ?_
  rcases Decidable.em ((x1).toInt < 0 ∨ 4 < (x1).toInt) with q | q
  · refine x_tableOut (tgt := 117) rfl q rfl ?_
    have h := h.2.2.2.2.2 q
    exact x_vret rfl rfl h
  · have q : (x1).toInt = 0 ∨ (x1).toInt = 1 ∨ (x1).toInt = 2 ∨ (x1).toInt = 3 ∨ (x1).toInt = 4 := by omega
    rcases q with q | q | q | q | q
    · have q : x1 = (0 : Int32) := Int32.toInt_inj.mp q
      refine x_tabK (k := (0 : Int32)) (tgt := 36) q rfl (by decide) (by decide) rfl rfl ?_
      have h := h.1 q
      refine x_aload_n rfl rfl ?_
      refine x_gR lf_Sheet_12 k0 rfl rfl ?_
      refine x_aload_n rfl rfl ?_
      refine x_gR lf_Sheet_12 k2 rfl rfl ?_
      refine x_vv lm_Sheet_48 vf_Table_copy (ck_3_0 k0) rfl rfl (Nat.le_of_ble_eq_true rfl) rfl h (fun D1 h => ?_)
      refine x_goto (tgt := 117) rfl rfl ?_
      exact x_vret rfl rfl h
    · have q : x1 = (1 : Int32) := Int32.toInt_inj.mp q
      refine x_tabK (k := (1 : Int32)) (tgt := 50) q rfl (by decide) (by decide) rfl rfl ?_
      have h := h.2.1 q
      refine x_aload_n rfl rfl ?_
      refine x_gR lf_Sheet_23 k0 rfl rfl ?_
      refine x_aload_n rfl rfl ?_
      refine x_gR lf_Sheet_23 k2 rfl rfl ?_
      refine x_vv lm_Sheet_52 vf_Row_copy (ck_3_1 k0) rfl rfl (Nat.le_of_ble_eq_true rfl) rfl h (fun D2 h => ?_)
      refine x_goto (tgt := 117) rfl rfl ?_
      exact x_vret rfl rfl h
    · have q : x1 = (2 : Int32) := Int32.toInt_inj.mp q
      refine x_tabK (k := (2 : Int32)) (tgt := 64) q rfl (by decide) (by decide) rfl rfl ?_
      have h := h.2.2.1 q
      refine x_aload_n rfl rfl ?_
      refine x_gR lf_Sheet_27 k0 rfl rfl ?_
      refine x_aload_n rfl rfl ?_
      refine x_gR lf_Sheet_27 k2 rfl rfl ?_
      refine x_vv lm_Sheet_52 vf_Row_copy (ck_3_2 k0) rfl rfl (Nat.le_of_ble_eq_true rfl) rfl h (fun D3 h => ?_)
      refine x_goto (tgt := 117) rfl rfl ?_
      exact x_vret rfl rfl h
    · have q : x1 = (3 : Int32) := Int32.toInt_inj.mp q
      refine x_tabK (k := (3 : Int32)) (tgt := 78) q rfl (by decide) (by decide) rfl rfl ?_
      have h := h.2.2.2.1 q
      refine x_aload_n rfl rfl ?_
      refine x_gR lf_Sheet_30 k0 rfl rfl ?_
      refine x_aload_n rfl rfl ?_
      refine x_gR lf_Sheet_30 k2 rfl rfl ?_
      refine x_vv lm_Sheet_52 vf_Row_copy (ck_3_3 k0) rfl rfl (Nat.le_of_ble_eq_true rfl) rfl h (fun D4 h => ?_)
      refine x_aload_n rfl rfl ?_
      refine x_gR lf_Sheet_33 k0 rfl rfl ?_
      refine x_aload_n rfl rfl ?_
      refine x_gR lf_Sheet_33 k2 rfl rfl ?_
      refine x_vv lm_Sheet_52 vf_Row_copy (ck_3_4 k0) rfl rfl (Nat.le_of_ble_eq_true rfl) rfl h (fun D5 h => ?_)
      refine x_goto (tgt := 117) rfl rfl ?_
      exact x_vret rfl rfl h
    · have q : x1 = (4 : Int32) := Int32.toInt_inj.mp q
      refine x_tabK (k := (4 : Int32)) (tgt := 103) q rfl (by decide) (by decide) rfl rfl ?_
      have h := h.2.2.2.2.1 q
      refine x_aload_n rfl rfl ?_
      refine x_gR lf_Sheet_39 k0 rfl rfl ?_
      refine x_aload_n rfl rfl ?_
      refine x_gR lf_Sheet_39 k2 rfl rfl ?_
      refine x_vv lm_Sheet_55 vf_Film_copy (ck_3_5 k0) rfl rfl (Nat.le_of_ble_eq_true rfl) rfl h (fun D6 h => ?_)
      refine x_goto (tgt := 117) rfl rfl ?_
      exact x_vret rfl rfl h
theorem s_Told_howMany_0 {d : Nat} {D : xD} {Q : Option Value → xD → Prop} {a0 : Nat} {x1 : Int32} (k0 : xk a0 = 1) (h : xCi d m_Row_reaches [.ref (a0 + 3), .int x1] D (fun r2 D1 => (r2 = 0 → Q (some (.int (-2 : Int32))) D1) ∧ (¬ r2 = 0 → xCi d m_Row_get [.ref (a0 + 3), .int x1] D1 (fun r4 D3 => Q (some (.int r4)) D3)))) : xPf (d + 1) m_Told_howMany 0 [(0, .ref a0), (1, .int x1)] [] D Q := by
  refine x_aload_n rfl rfl ?_
  refine x_gR lf_Told_20 k0 rfl rfl ?_
  refine x_iload_n rfl rfl ?_
  refine x_vi lm_Told_38 vf_Row_reaches (ck_1_1 k0) rfl rfl (Nat.le_of_ble_eq_true rfl) rfl h (fun r2 D1 h => ?_)
  refine x_if_eq (tgt := 22) rfl rfl (fun c => ?_) (fun c => ?_)
  · have h := h.1 c
    refine x_bipush (v := (-2 : Int32)) rfl rfl ?_
    exact x_iret rfl rfl h
  · have h := h.2 c
    refine x_aload_n rfl rfl ?_
    refine x_gR lf_Told_20 k0 rfl rfl ?_
    refine x_iload_n rfl rfl ?_
    refine x_vi lm_Told_42 vf_Row_get (ck_1_1 k0) rfl rfl (Nat.le_of_ble_eq_true rfl) rfl h (fun r4 D3 h => ?_)
    refine x_goto (tgt := 24) rfl rfl ?_
    exact x_iret rfl rfl h
theorem s_Told_sheetAt_0 {d : Nat} {D : xD} {Q : Option Value → xD → Prop} {a0 : Nat} {x1 : Int32} {x2 : Int32} (k0 : xk a0 = 1) (h : xCi d m_Told_howMany [.ref a0, .int x1] D (fun r2 D1 => (r2 ≤ x2 → Q (some (.null)) D1) ∧ (¬ r2 ≤ x2 → xCq d m_Told_slotAt [.ref a0, .int x2] D1 (fun o4 D3 => (o4 = none → Q (some (.null)) D3) ∧ (∀ b5, o4 = some b5 → xk b5 = 3 ∧ Q (some (.ref b5)) D3))))) : xPf (d + 1) m_Told_sheetAt 0 [(0, .ref a0), (1, .int x1), (2, .int x2)] [] D Q := by
  refine x_iload_n rfl rfl ?_
  refine x_aload_n rfl rfl ?_
  refine x_iload_n rfl rfl ?_
  refine x_vi lm_Told_46 vf_Told_howMany k0 rfl rfl (Nat.le_of_ble_eq_true rfl) rfl h (fun r2 D1 h => ?_)
  refine x_icmp_ge (tgt := 17) rfl rfl (fun c => ?_) (fun c => ?_)
  · have h := h.1 c
    refine x_null rfl ?_
    exact x_aretN rfl rfl h
  · have h := h.2 c
    refine x_aload_n rfl rfl ?_
    refine x_iload_n rfl rfl ?_
    refine x_vq lm_Told_49 vf_Told_slotAt k0 rfl rfl (Nat.le_of_ble_eq_true rfl) rfl h (fun D3 h => ?_) (fun b5 D3 h => ?_)
    · have h := h.1 rfl
      refine x_goto (tgt := 18) rfl rfl ?_
      exact x_aretN rfl rfl h
    · obtain ⟨k6, h⟩ := h.2 b5 rfl
      refine x_goto (tgt := 18) rfl rfl ?_
      exact x_aret rfl rfl h
theorem s_Told_slotAt_0 {d : Nat} {D : xD} {Q : Option Value → xD → Prop} {a0 : Nat} {x1 : Int32} (k0 : xk a0 = 1) (h : (x1 < 0 → Q (some (.null)) D) ∧ (¬ x1 < 0 → ((Int32.ofNat (xl (a0 + 5))) ≤ x1 → Q (some (.null)) D) ∧ (¬ (Int32.ofNat (xl (a0 + 5))) ≤ x1 → vp_in x1 (xl (a0 + 5)) ∧ xk ((a0 + 5) + 1 + (x1 : Int32).toNatClampNeg * xw 5) = 3 ∧ Q (some (.ref ((a0 + 5) + 1 + (x1 : Int32).toNatClampNeg * xw 5))) D))) : xPf (d + 1) m_Told_slotAt 0 [(0, .ref a0), (1, .int x1)] [] D Q := by
  refine x_iload_n rfl rfl ?_
  refine x_if_lt (tgt := 22) rfl rfl (fun c => ?_) (fun c => ?_)
  · have h := h.1 c
    refine x_null rfl ?_
    exact x_aretN rfl rfl h
  · have h := h.2 c
    refine x_iload_n rfl rfl ?_
    refine x_aload_n rfl rfl ?_
    refine x_gR lf_Told_26 k0 rfl rfl ?_
    refine x_alen (t := 5) (ck_1_2 k0) (by decide) (xlt (ck_1_2 k0) (by decide)) rfl rfl ?_
    refine x_icmp_ge (tgt := 22) rfl rfl (fun c => ?_) (fun c => ?_)
    · have h := h.1 c
      refine x_null rfl ?_
      exact x_aretN rfl rfl h
    · have h := h.2 c
      refine x_aload_n rfl rfl ?_
      refine x_gR lf_Told_26 k0 rfl rfl ?_
      refine x_iload_n rfl rfl ?_
      refine x_aald (t := 5) (ck_1_2 k0) (by decide) rfl (xlt (ck_1_2 k0) (by decide)) h.1 rfl ?_
      have h := h.2
      obtain ⟨k1, h⟩ := h
      refine x_goto (tgt := 23) rfl rfl ?_
      exact x_aret rfl rfl h
theorem s_Told_keep_0 {d : Nat} {D : xD} {Q : Option Value → xD → Prop} {a0 : Nat} {x1 : Int32} {x2 : Int32} {a3 : Nat} (k0 : xk a0 = 1) (k3 : xk a3 = 3) (h : xCq d m_Told_slotAt [.ref a0, .int x2] D (fun o2 D1 => (o2 = none → Q none D1) ∧ (∀ b3, o2 = some b3 → xk b3 = 3 ∧ xCv d m_Sheet_copy [.ref b3, .int x1, .ref a3] D1 (fun D5 => xCi d m_Told_howMany [.ref a0, .int x1] D5 (fun r7 D6 => (x2 < r7 → Q none D6) ∧ (¬ x2 < r7 → xCv d m_Row_set [.ref (a0 + 3), .int x1, .int (x2 + (1 : Int32))] D6 (fun D8 => Q none D8))))))) : xPf (d + 1) m_Told_keep 0 [(0, .ref a0), (1, .int x1), (2, .int x2), (3, .ref a3)] [] D Q := by
  refine x_aload_n rfl rfl ?_
  refine x_iload_n rfl rfl ?_
  refine x_vq lm_Told_49 vf_Told_slotAt k0 rfl rfl (Nat.le_of_ble_eq_true rfl) rfl h (fun D1 h => ?_) (fun b3 D1 h => ?_)
  · have h := h.1 rfl
    refine x_astoreN (i := 4) (L1 := [(4, .null), (0, .ref a0), (1, .int x1), (2, .int x2), (3, .ref a3)]) rfl (Nat.le_of_ble_eq_true rfl) rfl ?_
    refine x_aloadN rfl rfl ?_
    refine x_ifnullN (tgt := 16) rfl rfl ?_
    exact x_vret rfl rfl h
  · obtain ⟨k4, h⟩ := h.2 b3 rfl
    refine x_astore (i := 4) (L1 := [(4, .ref b3), (0, .ref a0), (1, .int x1), (2, .int x2), (3, .ref a3)]) rfl (Nat.le_of_ble_eq_true rfl) rfl ?_
    refine x_aload rfl rfl ?_
    refine x_ifnull rfl ?_
    refine x_aload_n rfl rfl ?_
    refine x_ifnonnull (tgt := 17) rfl rfl ?_
    refine x_aload rfl rfl ?_
    refine x_iload_n rfl rfl ?_
    refine x_aload_n rfl rfl ?_
    refine x_vv lm_Told_53 vf_Sheet_copy k4 rfl rfl (Nat.le_of_ble_eq_true rfl) rfl h (fun D5 h => ?_)
    refine x_iload_n rfl rfl ?_
    refine x_aload_n rfl rfl ?_
    refine x_iload_n rfl rfl ?_
    refine x_vi lm_Told_46 vf_Told_howMany k0 rfl rfl (Nat.le_of_ble_eq_true rfl) rfl h (fun r7 D6 h => ?_)
    refine x_icmp_lt (tgt := 44) rfl rfl (fun c => ?_) (fun c => ?_)
    · have h := h.1 c
      exact x_vret rfl rfl h
    · have h := h.2 c
      refine x_aload_n rfl rfl ?_
      refine x_gR lf_Told_20 k0 rfl rfl ?_
      refine x_iload_n rfl rfl ?_
      refine x_iload_n rfl rfl ?_
      refine x_iconst (v := (1 : Int32)) rfl rfl ?_
      refine x_iadd rfl ?_
      refine x_vv lm_Told_57 vf_Row_set (ck_1_1 k0) rfl rfl (Nat.le_of_ble_eq_true rfl) rfl h (fun D8 h => ?_)
      exact x_vret rfl rfl h
theorem sn_Told_keep_0 {d : Nat} {D : xD} {Q : Option Value → xD → Prop} {a0 : Nat} {x1 : Int32} {x2 : Int32} (k0 : xk a0 = 1) (h : xCq d m_Told_slotAt [.ref a0, .int x2] D (fun o2 D1 => (o2 = none → Q none D1) ∧ (∀ b3, o2 = some b3 → xk b3 = 3 ∧ Q none D1))) : xPf (d + 1) m_Told_keep 0 [(0, .ref a0), (1, .int x1), (2, .int x2), (3, .null)] [] D Q := by
  refine x_aload_n rfl rfl ?_
  refine x_iload_n rfl rfl ?_
  refine x_vq lm_Told_49 vf_Told_slotAt k0 rfl rfl (Nat.le_of_ble_eq_true rfl) rfl h (fun D1 h => ?_) (fun b3 D1 h => ?_)
  · have h := h.1 rfl
    refine x_astoreN (i := 4) (L1 := [(4, .null), (0, .ref a0), (1, .int x1), (2, .int x2), (3, .null)]) rfl (Nat.le_of_ble_eq_true rfl) rfl ?_
    refine x_aloadN rfl rfl ?_
    refine x_ifnullN (tgt := 16) rfl rfl ?_
    exact x_vret rfl rfl h
  · obtain ⟨k4, h⟩ := h.2 b3 rfl
    refine x_astore (i := 4) (L1 := [(4, .ref b3), (0, .ref a0), (1, .int x1), (2, .int x2), (3, .null)]) rfl (Nat.le_of_ble_eq_true rfl) rfl ?_
    refine x_aload rfl rfl ?_
    refine x_ifnull rfl ?_
    refine x_aload_nN rfl rfl ?_
    refine x_ifnonnullN rfl ?_
    exact x_vret rfl rfl h
theorem s_Told_copy_0 {d : Nat} {D : xD} {Q : Option Value → xD → Prop} {a0 : Nat} {a1 : Nat} (k0 : xk a0 = 1) (k1 : xk a1 = 1) (h : xCv d m_Row_copy [.ref (a0 + 1), .ref (a1 + 1)] D (fun D1 => ∀ D2 : xD, D2 = (xu D1.1 a0 3 (D1.1 a1 3), D1.2) → ∀ D3 : xD, D3 = (xu D2.1 a0 4 (D2.1 a1 4), D2.2) → xCv d m_Row_copy [.ref (a0 + 3), .ref (a1 + 3)] D3 (fun D4 => xPf (d + 1) m_Told_copy 40 [(0, .ref a0), (1, .ref a1), (2, .int (0 : Int32))] [] D4 Q))) : xPf (d + 1) m_Told_copy 0 [(0, .ref a0), (1, .ref a1)] [] D Q := by
  refine x_aload_n rfl rfl ?_
  refine x_gR lf_Told_14 k0 rfl rfl ?_
  refine x_aload_n rfl rfl ?_
  refine x_gR lf_Told_14 k1 rfl rfl ?_
  refine x_vv lm_Told_60 vf_Row_copy (ck_1_0 k0) rfl rfl (Nat.le_of_ble_eq_true rfl) rfl h (fun D1 h => ?_)
  refine x_aload_n rfl rfl ?_
  refine x_aload_n rfl rfl ?_
  refine x_gI lf_Told_63 k1 rfl rfl ?_
  refine x_pIn lp_Told_63 nf_1_3 k0 rfl rfl (fun D2 eD2 => ?_)
  have h := h D2 eD2
  refine x_aload_n rfl rfl ?_
  refine x_aload_n rfl rfl ?_
  refine x_gI lf_Told_30 k1 rfl rfl ?_
  refine x_pIn lp_Told_30 nf_1_4 k0 rfl rfl (fun D3 eD3 => ?_)
  have h := h D3 eD3
  refine x_aload_n rfl rfl ?_
  refine x_gR lf_Told_20 k0 rfl rfl ?_
  refine x_aload_n rfl rfl ?_
  refine x_gR lf_Told_20 k1 rfl rfl ?_
  refine x_vv lm_Told_60 vf_Row_copy (ck_1_1 k0) rfl rfl (Nat.le_of_ble_eq_true rfl) rfl h (fun D4 h => ?_)
  refine x_iconst (v := (0 : Int32)) rfl rfl ?_
  refine x_istore_n (i := 2) (L1 := [(2, .int (0 : Int32)), (0, .ref a0), (1, .ref a1)]) rfl rfl (Nat.le_of_ble_eq_true rfl) rfl ?_
  exact xP_sub [1, 2, 0] rfl h
theorem s_Told_copy_40 {d : Nat} {D : xD} {Q : Option Value → xD → Prop} {a0 : Nat} {a1 : Nat} {x2 : Int32} (k0 : xk a0 = 1) (k1 : xk a1 = 1) (h : ((2 : Int32) ≤ x2 → Q none D) ∧ (¬ (2 : Int32) ≤ x2 → xPf (d + 1) m_Told_copy 47 [(0, .ref a0), (1, .ref a1), (2, .int x2), (3, .int (0 : Int32))] [] D Q)) : xPf (d + 1) m_Told_copy 40 [(0, .ref a0), (1, .ref a1), (2, .int x2)] [] D Q := by
  refine x_iload_n rfl rfl ?_
  refine x_iconst (v := (2 : Int32)) rfl rfl ?_
  refine x_icmp_ge (tgt := 76) rfl rfl (fun c => ?_) (fun c => ?_)
  · have h := h.1 c
    exact x_vret rfl rfl h
  · have h := h.2 c
    refine x_iconst (v := (0 : Int32)) rfl rfl ?_
    refine x_istore_n (i := 3) (L1 := [(3, .int (0 : Int32)), (0, .ref a0), (1, .ref a1), (2, .int x2)]) rfl rfl (Nat.le_of_ble_eq_true rfl) rfl ?_
    exact xP_sub [1, 2, 3, 0] rfl h
theorem s_Told_copy_47 {d : Nat} {D : xD} {Q : Option Value → xD → Prop} {a0 : Nat} {a1 : Nat} {x2 : Int32} {x3 : Int32} (k0 : xk a0 = 1) (k1 : xk a1 = 1) (h : ((5 : Int32) ≤ x3 → xPf (d + 1) m_Told_copy 40 [(0, .ref a0), (1, .ref a1), (2, .int (x2 + (1 : Int32)))] [] D Q) ∧ (¬ (5 : Int32) ≤ x3 → xCq d m_Told_sheetAt [.ref a1, .int x3, .int x2] D (fun o2 D1 => (o2 = none → xCv d m_Told_keep [.ref a0, .int x3, .int x2, .null] D1 (fun D5 => xPf (d + 1) m_Told_copy 47 [(0, .ref a0), (1, .ref a1), (2, .int x2), (3, .int (x3 + (1 : Int32)))] [] D5 Q)) ∧ (∀ b3, o2 = some b3 → xk b3 = 3 ∧ xCv d m_Told_keep [.ref a0, .int x3, .int x2, .ref b3] D1 (fun D6 => xPf (d + 1) m_Told_copy 47 [(0, .ref a0), (1, .ref a1), (2, .int x2), (3, .int (x3 + (1 : Int32)))] [] D6 Q))))) : xPf (d + 1) m_Told_copy 47 [(0, .ref a0), (1, .ref a1), (2, .int x2), (3, .int x3)] [] D Q := by
  refine x_iload_n rfl rfl ?_
  refine x_iconst (v := (5 : Int32)) rfl rfl ?_
  refine x_icmp_ge (tgt := 70) rfl rfl (fun c => ?_) (fun c => ?_)
  · have h := h.1 c
    refine x_iinc (i := 2) (v := x2 + (1 : Int32)) (L1 := [(2, .int (x2 + (1 : Int32))), (0, .ref a0), (1, .ref a1), (3, .int x3)]) rfl rfl rfl (Nat.le_of_ble_eq_true rfl) rfl ?_
    refine x_goto (tgt := 40) rfl rfl ?_
    exact xP_sub [1, 2, 0] rfl h
  · have h := h.2 c
    refine x_aload_n rfl rfl ?_
    refine x_iload_n rfl rfl ?_
    refine x_iload_n rfl rfl ?_
    refine x_aload_n rfl rfl ?_
    refine x_iload_n rfl rfl ?_
    refine x_iload_n rfl rfl ?_
    refine x_vq lm_Told_66 vf_Told_sheetAt k1 rfl rfl (Nat.le_of_ble_eq_true rfl) rfl h (fun D1 h => ?_) (fun b3 D1 h => ?_)
    · have h := h.1 rfl
      refine x_vv lm_Told_70 vf_Told_keep k0 rfl rfl (Nat.le_of_ble_eq_true rfl) rfl h (fun D5 h => ?_)
      refine x_iinc (i := 3) (v := x3 + (1 : Int32)) (L1 := [(3, .int (x3 + (1 : Int32))), (0, .ref a0), (1, .ref a1), (2, .int x2)]) rfl rfl rfl (Nat.le_of_ble_eq_true rfl) rfl ?_
      refine x_goto (tgt := 47) rfl rfl ?_
      exact xP_sub [1, 2, 3, 0] rfl h
    · obtain ⟨k4, h⟩ := h.2 b3 rfl
      refine x_vv lm_Told_70 vf_Told_keep k0 rfl rfl (Nat.le_of_ble_eq_true rfl) rfl h (fun D6 h => ?_)
      refine x_iinc (i := 3) (v := x3 + (1 : Int32)) (L1 := [(3, .int (x3 + (1 : Int32))), (0, .ref a0), (1, .ref a1), (2, .int x2)]) rfl rfl rfl (Nat.le_of_ble_eq_true rfl) rfl ?_
      refine x_goto (tgt := 47) rfl rfl ?_
      exact xP_sub [1, 2, 3, 0] rfl h
