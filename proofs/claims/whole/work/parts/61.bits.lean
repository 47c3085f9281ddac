/-! Sets of bits. Of these rows fa_or, fa_and and s_l began as the kit's rows that are given for pasting. -/
theorem yb_or (a b : Nat) : nI a ||| nI b = nI (a ||| b) := by
  apply Int32.toBitVec_inj.1
  show BitVec.ofNat 32 a ||| BitVec.ofNat 32 b = BitVec.ofNat 32 (a ||| b)
  apply BitVec.eq_of_getLsbD_eq
  intro i hi
  simp [hi]
theorem yb_and (a b : Nat) : nI a &&& nI b = nI (a &&& b) := by
  apply Int32.toBitVec_inj.1
  show BitVec.ofNat 32 a &&& BitVec.ofNat 32 b = BitVec.ofNat 32 (a &&& b)
  apply BitVec.eq_of_getLsbD_eq
  intro i hi
  simp [hi]
theorem yb_sl : ∀ n, n < 32 → ((nI n &&& 31).toBitVec.smod 32).toNat = n := by decide +kernel
theorem yb_1 {k : Nat} (h : k < 31) : (1 : Int32) <<< (nI k &&& 31) = nI (2 ^ k) := by
  have h2 : (2 : Nat) ^ k < 2 ^ 31 := Nat.pow_lt_pow_right (by omega) h
  have := pk_shlN (n := 1) (nI k &&& 31) k (yb_sl k (by omega)) (by omega)
  rw [Nat.one_mul] at this
  exact this
theorem yb_shr {n k : Nat} (hn : n < 2 ^ 31) (h : k < 32) : nI n >>> (nI k &&& 31) = nI (n / 2 ^ k) := pk_shrN hn _ k (yb_sl k h)
/-- bit k, as Java asks for it -/
theorem yb_bit {n k : Nat} (hn : n < 2 ^ 31) (h : k < 32) : (nI n >>> (nI k &&& 31)) &&& 1 = nI (if n.testBit k then 1 else 0) := by
  rw [yb_shr hn h, show (1 : Int32) = nI 1 from rfl, yb_and, Nat.testBit_eq_decide_div_mod_eq, show (1 : Nat) = 2 ^ 1 - 1 from rfl, Nat.and_two_pow_sub_one_eq_mod]
  congr 1
  show n / 2 ^ k % 2 = if decide (n / 2 ^ k % 2 = 1) = true then 1 else 0
  by_cases q : n / 2 ^ k % 2 = 1
  · rw [if_pos (by rw [decide_eq_true q]), q]
  · rw [if_neg (by rw [decide_eq_false q]; exact Bool.false_ne_true)]; omega
/-- the set of those k below n of which f holds -/
def bsN (f : Nat → Bool) : Nat → Nat
  | 0 => 0
  | n + 1 => bsN f n + if f n then 2 ^ n else 0
theorem bsN_lt (f : Nat → Bool) : ∀ n, bsN f n < 2 ^ n := by
  intro n
  induction n with
  | zero => exact Nat.one_pos
  | succ n ih => rw [bsN, Nat.pow_succ]; split <;> omega
theorem bsN_s {f : Nat → Bool} {k : Nat} (hk : k < 31) : nI (bsN f k) ||| ((1 : Int32) <<< (nI k &&& 31)) = nI (bsN f k + 2 ^ k) := by
  rw [yb_1 hk, yb_or]
  congr 1
  have := Nat.two_pow_add_eq_or_of_lt (bsN_lt f k) 1
  rw [Nat.mul_one] at this
  rw [Nat.add_comm, this, Nat.or_comm]
theorem bsN_congr {f g : Nat → Bool} : ∀ {n : Nat}, (∀ i, i < n → f i = g i) → bsN f n = bsN g n := by
  intro n
  induction n with
  | zero => intro _; rfl
  | succ n ih => intro h; rw [bsN, bsN, ih (fun i hi => h i (by omega)), h n (by omega)]
theorem bsN_bit (f : Nat → Bool) : ∀ n i, (bsN f n).testBit i = (decide (i < n) && f i) := by
  intro n
  induction n with
  | zero => intro i; rw [bsN, Nat.zero_testBit, decide_eq_false (by omega)]; rfl
  | succ n ih =>
    intro i
    have hl := bsN_lt f n
    have e : bsN f (n + 1) = bsN f n ||| (if f n then 2 ^ n else 0) := by
      rw [bsN]
      by_cases q : f n = true
      · rw [if_pos q]
        have := Nat.two_pow_add_eq_or_of_lt hl 1
        rw [Nat.mul_one] at this
        rw [Nat.add_comm, this, Nat.or_comm]
      · rw [if_neg q]; simp
    rw [e, Nat.testBit_or, ih]
    by_cases q : f n = true
    · rw [if_pos q, Nat.testBit_two_pow]
      by_cases z : n = i
      · rw [decide_eq_true z, decide_eq_false (by omega), decide_eq_true (by omega), ← z, q]; rfl
      · rw [decide_eq_false z]
        by_cases y : i < n
        · rw [decide_eq_true y, decide_eq_true (by omega)]; simp
        · rw [decide_eq_false y, decide_eq_false (by omega)]; simp
    · rw [if_neg q, Nat.zero_testBit]
      by_cases y : i < n
      · rw [decide_eq_true y, decide_eq_true (by omega)]; simp
      · rw [decide_eq_false y]
        by_cases z : i = n
        · rw [z]; simp at q; simp [q]
        · rw [decide_eq_false (by omega)]; simp
/-- how many k below n there are of which f holds -/
def cnN (f : Nat → Bool) : Nat → Nat
  | 0 => 0
  | n + 1 => cnN f n + if f n then 1 else 0
theorem cnN_le (f : Nat → Bool) : ∀ n, cnN f n ≤ n := by
  intro n
  induction n with
  | zero => exact Nat.le_refl _
  | succ n ih => rw [cnN]; split <;> omega
theorem cnN_congr {f g : Nat → Bool} : ∀ {n : Nat}, (∀ i, i < n → f i = g i) → cnN f n = cnN g n := by
  intro n
  induction n with
  | zero => intro _; rfl
  | succ n ih => intro h; rw [cnN, cnN, ih (fun i hi => h i (by omega)), h n (by omega)]
theorem cnN_all {f : Nat → Bool} : ∀ {n : Nat}, cnN f n = n ↔ ∀ i, i < n → f i = true := by
  intro n
  induction n with
  | zero => exact ⟨fun _ i hi => absurd hi (by omega), fun _ => rfl⟩
  | succ n ih =>
    have h1 := cnN_le f n
    rw [cnN]
    by_cases q : f n = true
    · rw [if_pos q]
      constructor
      · intro h i hi
        by_cases z : i = n
        · rw [z]; exact q
        · exact ih.mp (by omega) i (by omega)
      · intro h
        rw [ih.mpr (fun i hi => h i (by omega))]
    · rw [if_neg q]
      exact ⟨fun h => by omega, fun h => absurd (h n (by omega)) q⟩
