/-! Rows: what each method of Row answers and does. -/
/-- the row at a has n numbers -/
def rS (D : xD) (a n : Nat) : Prop := D.1 a 1 = nI n ∧ n ≤ xl (a + 1) ∧ xk a = 2
set_option maxRecDepth 20000 in
theorem xl_le (a : Nat) : xl a ≤ 21875 := by
  by_cases h : a < 368
  · have key : ∀ a, a < 368 → xl a ≤ 21875 := by decide +kernel
    exact key a h
  · have : xl a = 0 := by
      unfold xl
      rw [List.getD_eq_getElem?_getD, List.getElem?_eq_none (by show 368 ≤ a; omega)]
      rfl
    omega
theorem rS.le {D : xD} {a n : Nat} (h : rS D a n) : n ≤ 21875 := Nat.le_trans h.2.1 (xl_le _)
theorem rS.ne {D : xD} {a n : Nat} (h : rS D a n) {b : Nat} (hb : xk b = 100) : a ≠ b := fun e => by
  have := h.2.2
  rw [e, hb] at this
  cases this
theorem ck_arr {a : Nat} (h : xk a = 2) : xk (a + 1) = 100 := ck_2_0 h
/-- what stands at place i -/
def rg (D : xD) (a n : Nat) (i : Int32) : Int32 := if i < 0 then 0 else if nI n ≤ i then 0 else D.1 (a + 1) i.toNatClampNeg
theorem rg_in (D : xD) (a : Nat) {n j : Nat} (h : j < n) (hn : n < 2 ^ 31) : rg D a n (nI j) = D.1 (a + 1) j := by
  unfold rg
  rw [if_neg (nI_pos (by omega)), if_neg (nI_ge h hn), nI_clamp (by omega)]
theorem rg_out (D : xD) (a : Nat) {n j : Nat} (h : n ≤ j) (hj : j < 2 ^ 31) : rg D a n (nI j) = 0 := by
  unfold rg
  rw [if_neg (nI_pos hj), if_pos (nI_le h hj)]
theorem rg_neg (D : xD) (a n : Nat) {i : Int32} (h : i < 0) : rg D a n i = 0 := by
  unfold rg
  rw [if_pos h]
/-- a place behind all that there is: out of the array, too -/
theorem rcap {n c : Nat} {i : Int32} (h0 : ¬ i < 0) (h : ¬ nI n ≤ i) (hn : n ≤ c) (hc : c < 2 ^ 31) : ¬ Int32.ofNat c ≤ i ∧ vp_in i c := by
  obtain ⟨j, hj, rfl⟩ := nI_of h0
  have hjn : j < n := by
    apply Nat.lt_of_not_le
    intro q
    exact h (nI_le q hj)
  exact ⟨nI_ge (by omega) hc, vp_in_nI (by omega) hc⟩
def rset (D : xD) (a n : Nat) (i v : Int32) : xD := if i < 0 then D else if nI n ≤ i then D else (xu D.1 (a + 1) i.toNatClampNeg v, D.2)
def radd (D : xD) (a n : Nat) (i v : Int32) : xD := if i < 0 then D else if nI n ≤ i then D else (xu D.1 (a + 1) i.toNatClampNeg (D.1 (a + 1) i.toNatClampNeg + v), D.2)
def rpush (D : xD) (a n : Nat) (v : Int32) : xD := if n < xl (a + 1) then (xu (xu D.1 (a + 1) n v) a 1 (nI (n + 1)), D.2) else D
def rsize (D : xD) (a n : Nat) : xD := (xu D.1 a 1 (nI n), D.2)
def fil (D : xD) (b : Nat) (v : Int32) (n : Nat) : xD := (fun i => if i = b then fun k => if k < n then v else D.1 b k else D.1 i, D.2)
def rcopy (D : xD) (a b n : Nat) : xD := (fun i => if i = a + 1 then fun k => if k < n then D.1 (b + 1) k else D.1 (a + 1) k else (rsize D a n).1 i, D.2)
theorem fil_0 (D : xD) (b : Nat) (v : Int32) : fil D b v 0 = D := by
  unfold fil
  refine Prod.ext (funext fun i => ?_) rfl
  by_cases h : i = b
  · subst h; simp
  · simp [h]
theorem fil_succ (D : xD) (b : Nat) (v : Int32) (n : Nat) : (xu (fil D b v n).1 b n v, (fil D b v n).2) = fil D b v (n + 1) := by
  unfold fil
  refine Prod.ext (funext fun i => ?_) rfl
  by_cases h : i = b
  · subst h
    simp only [xu, if_true]
    funext k
    by_cases hk : k = n
    · subst hk; simp [upd]
    · simp only [upd, if_neg hk]
      by_cases hl : k < n
      · rw [if_pos hl, if_pos (by omega)]
      · rw [if_neg hl, if_neg (by omega)]
  · simp [xu, h]
section ROW
variable {d : Nat} {D : xD} {a n : Nat}
theorem c_Arrays_fill {P : xD → Prop} {v : Int32} (k0 : xk a = 100) (h : P (fil D a v (xl a))) : xCv (d + 1) m_Arrays_fill [.ref a, .int v] D P := by
  refine xCv_of y_Arrays_fill (Nat.le_of_ble_eq_true rfl) ?_
  refine s_Arrays_fill_0 k0 ?_
  have hc := xl_le a
  have key : ∀ k j, j + k = xl a → xPf (d + 1) m_Arrays_fill 5 [(0, .ref a), (1, .int v), (2, .int (nI j)), (3, .int (Int32.ofNat (xl a)))] [] (fil D a v j) (fun r D' => r = none ∧ P D') := by
    intro k
    induction k with
    | zero =>
      intro j hj
      have e : j = xl a := by omega
      exact s_Arrays_fill_5 k0 ⟨fun _ => ⟨rfl, by rw [e]; exact h⟩, fun c => absurd (nI_le (a := xl a) (b := j) (by omega) (by omega)) c⟩
    | succ k ih =>
      intro j hj
      refine s_Arrays_fill_5 k0 ⟨fun c => absurd c (nI_ge (by omega) (by omega)), fun c => ⟨vp_in_nI (by omega) (by omega), fun D1 hD1 => ?_⟩⟩
      rw [nI_clamp (by omega), fil_succ] at hD1
      rw [hD1, nI_1]
      exact ih (j + 1) (by omega)
  have := key (xl a) 0 (by omega)
  rw [fil_0] at this
  exact this
theorem c_Row_size {P : Int32 → xD → Prop} (hr : rS D a n) (h : P (nI n) D) : xCi (d + 1) m_Row_size [.ref a] D P := by
  refine xCi_of y_Row_size (Nat.le_of_ble_eq_true rfl) ?_
  refine s_Row_size_0 hr.2.2 ?_
  rw [hr.1]
  exact ⟨_, rfl, h⟩
theorem c_Row_get {P : Int32 → xD → Prop} {i : Int32} (hr : rS D a n) (h : P (rg D a n i) D) : xCi (d + 1) m_Row_get [.ref a, .int i] D P := by
  refine xCi_of y_Row_get (Nat.le_of_ble_eq_true rfl) ?_
  have hc := xl_le (a + 1)
  refine s_Row_get_0 hr.2.2 ⟨fun c => ⟨_, rfl, ?_⟩, fun c => ⟨fun c1 => ⟨_, rfl, ?_⟩, fun c1 => ⟨fun c2 => ?_, fun c2 => ?_⟩⟩⟩
  · unfold rg at h; rw [if_pos c] at h; exact h
  · rw [hr.1] at c1; unfold rg at h; rw [if_neg c, if_pos c1] at h; exact h
  · rw [hr.1] at c1
    exact absurd c2 (rcap c c1 hr.2.1 (by omega)).1
  · rw [hr.1] at c1
    refine ⟨(rcap c c1 hr.2.1 (by omega)).2, _, rfl, ?_⟩
    unfold rg at h; rw [if_neg c, if_neg c1] at h; exact h
theorem c_Row_reaches {P : Int32 → xD → Prop} {i : Int32} (hr : rS D a n) (h : P (if i < 0 then 0 else if nI n ≤ i then 0 else 1) D) : xCi (d + 1) m_Row_reaches [.ref a, .int i] D P := by
  refine xCi_of y_Row_reaches (Nat.le_of_ble_eq_true rfl) ?_
  refine s_Row_reaches_0 hr.2.2 ⟨fun c => ⟨_, rfl, ?_⟩, fun c => ⟨fun c1 => ⟨_, rfl, ?_⟩, fun c1 => ⟨_, rfl, ?_⟩⟩⟩
  · rw [if_pos c] at h; exact h
  · rw [hr.1] at c1; rw [if_neg c, if_pos c1] at h; exact h
  · rw [hr.1] at c1; rw [if_neg c, if_neg c1] at h; exact h
theorem c_Row_isFull {P : Int32 → xD → Prop} (hr : rS D a n) (h : P (if n < xl (a + 1) then 0 else 1) D) : xCi (d + 1) m_Row_isFull [.ref a] D P := by
  refine xCi_of y_Row_isFull (Nat.le_of_ble_eq_true rfl) ?_
  have hc := xl_le (a + 1)
  have h2 := hr.2.1
  refine s_Row_isFull_0 hr.2.2 ⟨fun c => ⟨_, rfl, ?_⟩, fun c => ⟨_, rfl, ?_⟩⟩
  · rw [hr.1] at c
    rw [if_pos ((nI_ltI (by omega) (by omega)).mp c)] at h; exact h
  · rw [hr.1] at c
    rw [if_neg (fun q => c ((nI_ltI (by omega) (by omega)).mpr q))] at h; exact h
theorem c_Row_set {P : xD → Prop} {i v : Int32} (hr : rS D a n) (h : P (rset D a n i v)) : xCv (d + 1) m_Row_set [.ref a, .int i, .int v] D P := by
  refine xCv_of y_Row_set (Nat.le_of_ble_eq_true rfl) ?_
  have hc := xl_le (a + 1)
  refine s_Row_set_0 hr.2.2 ⟨fun c => ⟨rfl, ?_⟩, fun c => ⟨fun c1 => ⟨rfl, ?_⟩, fun c1 => ⟨fun c2 => ?_, fun c2 => ?_⟩⟩⟩
  · unfold rset at h; rw [if_pos c] at h; exact h
  · rw [hr.1] at c1; unfold rset at h; rw [if_neg c, if_pos c1] at h; exact h
  · rw [hr.1] at c1
    exact absurd c2 (rcap c c1 hr.2.1 (by omega)).1
  · rw [hr.1] at c1
    refine ⟨(rcap c c1 hr.2.1 (by omega)).2, fun D1 hD1 => ⟨rfl, ?_⟩⟩
    unfold rset at h; rw [if_neg c, if_neg c1] at h; rw [hD1]; exact h
theorem c_Row_add {P : xD → Prop} {i v : Int32} (hr : rS D a n) (h : P (radd D a n i v)) : xCv (d + 1) m_Row_add [.ref a, .int i, .int v] D P := by
  refine xCv_of y_Row_add (Nat.le_of_ble_eq_true rfl) ?_
  have hc := xl_le (a + 1)
  refine s_Row_add_0 hr.2.2 ⟨fun c => ⟨rfl, ?_⟩, fun c => ⟨fun c1 => ⟨rfl, ?_⟩, fun c1 => ⟨fun c2 => ?_, fun c2 => ?_⟩⟩⟩
  · unfold radd at h; rw [if_pos c] at h; exact h
  · rw [hr.1] at c1; unfold radd at h; rw [if_neg c, if_pos c1] at h; exact h
  · rw [hr.1] at c1
    exact absurd c2 (rcap c c1 hr.2.1 (by omega)).1
  · rw [hr.1] at c1
    have hv := (rcap c c1 hr.2.1 (by omega)).2
    refine ⟨hv, hv, fun D1 hD1 => ⟨rfl, ?_⟩⟩
    unfold radd at h; rw [if_neg c, if_neg c1] at h; rw [hD1]; exact h
theorem c_Row_push {P : xD → Prop} {v : Int32} (hr : rS D a n) (h : P (rpush D a n v)) : xCv (d + 1) m_Row_push [.ref a, .int v] D P := by
  refine xCv_of y_Row_push (Nat.le_of_ble_eq_true rfl) ?_
  have hc := xl_le (a + 1)
  have h2 := hr.2.1
  have hne : a ≠ a + 1 := by omega
  refine s_Row_push_0 hr.2.2 ⟨fun c => ?_, fun c => ⟨fun c1 => ⟨rfl, ?_⟩, fun c1 => ?_⟩⟩
  · rw [hr.1] at c
    exact absurd c (nI_pos (by omega))
  · rw [hr.1] at c1
    unfold rpush at h; rw [if_neg (fun q => nI_ge q (by omega) c1)] at h; exact h
  · rw [hr.1] at c1
    have hlt : n < xl (a + 1) := by
      apply Nat.lt_of_not_le
      intro q
      exact c1 (nI_le q (by omega))
    rw [hr.1]
    refine ⟨vp_in_nI hlt (by omega), fun D1 hD1 D2 hD2 => ⟨rfl, ?_⟩⟩
    rw [nI_clamp (by omega)] at hD1
    have e : D1.1 a 1 = nI n := by rw [hD1]; show xu D.1 (a + 1) n v a 1 = _; rw [xu_ne _ _ _ hne]; exact hr.1
    rw [e, nI_1, hD1] at hD2
    unfold rpush at h; rw [if_pos hlt] at h
    rw [hD2]; exact h
theorem c_Row_clear {P : xD → Prop} (k0 : xk a = 2) (h : P (rsize D a 0)) : xCv (d + 1) m_Row_clear [.ref a] D P := by
  refine xCv_of y_Row_clear (Nat.le_of_ble_eq_true rfl) ?_
  refine s_Row_clear_0 k0 (fun D1 hD1 => ⟨rfl, ?_⟩)
  rw [hD1]
  exact h
theorem c_Row_cut {P : xD → Prop} {k : Nat} (hr : rS D a n) (hk : k < 2 ^ 31) (h : P (if k < n then rsize D a k else D)) : xCv (d + 1) m_Row_cut [.ref a, .int (nI k)] D P := by
  refine xCv_of y_Row_cut (Nat.le_of_ble_eq_true rfl) ?_
  have hc := hr.le
  refine s_Row_cut_0 hr.2.2 ⟨fun c => absurd c (nI_pos hk), fun c => ⟨fun c1 => ⟨rfl, ?_⟩, fun c1 D1 hD1 => ⟨rfl, ?_⟩⟩⟩
  · rw [hr.1] at c1
    rw [if_neg (fun q => nI_ge q (by omega) c1)] at h; exact h
  · rw [hr.1] at c1
    rw [if_pos (by
      apply Nat.lt_of_not_le
      intro q
      exact c1 (nI_le q hk))] at h
    rw [hD1]; exact h
theorem c_Row_fill {P : xD → Prop} {v : Int32} {k : Nat} (k0 : xk a = 2) (hk : k ≤ xl (a + 1)) (h : P (fil (rsize D a k) (a + 1) v (xl (a + 1)))) : xCv (d + 2) m_Row_fill [.ref a, .int (nI k), .int v] D P := by
  refine xCv_of y_Row_fill (Nat.le_of_ble_eq_true rfl) ?_
  have hc := xl_le (a + 1)
  refine s_Row_fill_0 k0 (fun r1 e1 r2 e2 D3 e3 => ?_)
  have f1 : r1 = nI k := by rw [e1]; exact if_neg (fun q => nI_nlt (a := xl (a + 1)) (b := k) hk (by omega) q)
  have f2 : r2 = nI k := by
    rw [e2, f1]
    by_cases q : k = 0
    · subst q; simp [nI]
    · rw [if_pos]
      have := nI_lt (a := 0) (b := k) (by omega) (by omega)
      exact this
  rw [f2] at e3
  rw [e3]
  exact c_Arrays_fill (ck_arr k0) ⟨rfl, h⟩
end ROW
