/-! Least terms; choices; orders. -/
/-- Euclid's steps, at most so many -/
def eug : Nat → Nat → Nat → Nat
  | 0, a, _ => a
  | F + 1, a, b => if b = 0 then a else eug F b (a % b)
theorem eug_is : ∀ (k F a b : Nat), 2 * k + 1 ≤ F → b < 2 ^ k → eug F a b = Nat.gcd b a := by
  intro k
  induction k with
  | zero =>
    intro F a b hF hb
    have hb0 : b = 0 := by omega
    subst hb0
    cases F with
    | zero => omega
    | succ F => rw [eug, if_pos rfl, Nat.gcd_zero_left]
  | succ k ih =>
    intro F a b hF hb
    obtain ⟨F, rfl⟩ : ∃ G, F = G + 2 := ⟨F - 2, by omega⟩
    rw [eug]
    by_cases h : b = 0
    · rw [if_pos h, h, Nat.gcd_zero_left]
    · rw [if_neg h, eug]
      have h2 : a % b < b := Nat.mod_lt _ (by omega)
      by_cases h3 : a % b = 0
      · rw [if_pos h3, Nat.gcd_rec b a, h3, Nat.gcd_zero_left]
      · rw [if_neg h3]
        have h4 : b % (a % b) < a % b := Nat.mod_lt _ (by omega)
        have h5 : b % (a % b) + a % b ≤ b := by
          have := Nat.div_add_mod b (a % b)
          have h6 : 0 < b / (a % b) := Nat.div_pos (by omega) (by omega)
          have h7 : a % b ≤ a % b * (b / (a % b)) := Nat.le_mul_of_pos_right _ h6
          omega
        have hpow : 2 ^ (k + 1) = 2 ^ k * 2 := Nat.pow_succ ..
        rw [ih F _ _ (by omega) (by omega), Nat.gcd_rec b a, Nat.gcd_rec (a % b) b]
/-- of n to d in least terms, the one above or the one under the line -/
def lst (n d : Nat) (u : Prop) [Decidable u] : Nat := (if u then d else n) / Nat.gcd n d
def bn : Nat → Nat → Nat
  | _, 0 => 1
  | 0, _ + 1 => 0
  | n + 1, k + 1 => bn n k + bn n (k + 1)
theorem bn_0 (n : Nat) : bn n 0 = 1 := by cases n <;> rfl
theorem bn_gt : ∀ {n k : Nat}, n < k → bn n k = 0 := by
  intro n
  induction n with
  | zero => intro k h; cases k with
    | zero => omega
    | succ k => rfl
  | succ n ih => intro k h; cases k with
    | zero => omega
    | succ k => rw [bn, ih (by omega), ih (by omega)]
/-- (k + 1) of n + 1: n + 1 times k of n -/
theorem bn_mul : ∀ (n k : Nat), bn (n + 1) (k + 1) * (k + 1) = (n + 1) * bn n k := by
  intro n
  induction n with
  | zero =>
    intro k
    cases k with
    | zero => rfl
    | succ k => show (bn 0 (k + 1) + bn 0 (k + 1 + 1)) * _ = _ * bn 0 (k + 1); rw [bn_gt (by omega), bn_gt (by omega)]; simp
  | succ n ih =>
    intro k
    cases k with
    | zero =>
      have h := ih 0
      rw [bn_0] at h ⊢
      rw [bn, bn_0, Nat.add_mul]
      omega
    | succ k =>
      have h1 := ih k
      have h2 := ih (k + 1)
      rw [bn]
      have h3 : bn (n + 1) (k + 1) = bn n k + bn n (k + 1) := rfl
      have e1 : (bn (n + 1) (k + 1) + bn (n + 1) (k + 1 + 1)) * (k + 1 + 1) = bn (n + 1) (k + 1) * (k + 1) + bn (n + 1) (k + 1) + bn (n + 1) (k + 1 + 1) * (k + 1 + 1) := by
        rw [Nat.add_mul, Nat.mul_succ]
      rw [e1, h1, h2, h3, Nat.add_mul (n + 1) 1, Nat.one_mul, Nat.mul_add]
      omega
/-- one more of them -/
theorem bn_next (n k : Nat) : bn n (k + 1) * (k + 1) = bn n k * (n - k) := by
  induction n generalizing k with
  | zero => rw [bn_gt (by omega)]; simp
  | succ n ih =>
    rw [bn_mul]
    cases k with
    | zero => rw [bn_0, bn_0]; omega
    | succ k =>
      have h1 := ih k
      have h2 := bn_mul n k
      rw [show bn n (k + 1) = bn n (k + 1) from rfl]
      by_cases q : n < k + 1
      · rw [bn_gt q, show n + 1 - (k + 1) = 0 by omega]
        simp
      · have h3 : bn (n + 1) (k + 1) * (n + 1 - (k + 1)) = bn (n + 1) (k + 1) * (n - k) := by rw [show n + 1 - (k + 1) = n - k by omega]
        rw [h3]
        have h4 : bn (n + 1) (k + 1) = bn n k + bn n (k + 1) := rfl
        rw [h4, Nat.add_mul (bn n k), ← h1, show (n + 1) * bn n (k + 1) = bn n (k + 1) * (k + 1) + bn n (k + 1) * (n - k) by rw [← Nat.mul_add, show k + 1 + (n - k) = n + 1 by omega, Nat.mul_comm]]
theorem bn_le : ∀ n k, bn n k ≤ 2 ^ n := by
  intro n
  induction n with
  | zero => intro k; cases k with
    | zero => exact Nat.le_refl _
    | succ k => exact Nat.zero_le _
  | succ n ih =>
    intro k
    cases k with
    | zero => rw [bn_0]; exact Nat.one_le_two_pow
    | succ k =>
      have h1 := ih k
      have h2 := ih (k + 1)
      rw [bn, Nat.pow_succ]; omega
theorem bn_pow : ∀ n k, bn n k ≤ n ^ k := by
  intro n k
  induction k with
  | zero => rw [bn_0, Nat.pow_zero]; exact Nat.le_refl _
  | succ k ih =>
    have h := bn_next n k
    have h1 : bn n (k + 1) ≤ bn n (k + 1) * (k + 1) := Nat.le_mul_of_pos_right _ (by omega)
    have h2 : bn n k * (n - k) ≤ n ^ k * n := Nat.mul_le_mul ih (by omega)
    rw [Nat.pow_succ]; omega
theorem bn_pos : ∀ {n k : Nat}, k ≤ n → 0 < bn n k := by
  intro n
  induction n with
  | zero => intro k h; rw [show k = 0 by omega, bn_0]; omega
  | succ n ih => intro k h; cases k with
    | zero => rw [bn_0]; omega
    | succ k => rw [bn]; have := ih (show k ≤ n by omega); omega
/-- in how many orders k of n can come -/
def fall (n : Nat) : Nat → Nat
  | 0 => 1
  | k + 1 => fall n k * (n - k)
theorem fall_s (n k : Nat) : fall (n + 1) (k + 1) = (n + 1) * fall n k := by
  induction k with
  | zero => show 1 * (n + 1 - 0) = (n + 1) * 1; omega
  | succ k ih => rw [fall, ih, fall, show n + 1 - (k + 1) = n - k by omega, Nat.mul_assoc]
theorem fall_le (n : Nat) : ∀ k, fall n k ≤ n ^ k := by
  intro k
  induction k with
  | zero => exact Nat.le_refl _
  | succ k ih => rw [fall, Nat.pow_succ]; exact Nat.mul_le_mul ih (by omega)
theorem fall_pos {n : Nat} : ∀ {k : Nat}, k ≤ n → 0 < fall n k := by
  intro k
  induction k with
  | zero => intro _; exact Nat.one_pos
  | succ k ih => intro h; rw [fall]; exact Nat.mul_pos (ih (by omega)) (by omega)
section TERMS
variable {d : Nat} {D : xD}
theorem c_S_leastTerms {P : Int64 → xD → Prop} {n m : Nat} {x : Int32} (hn : n < 2 ^ 48) (hm : m < 2 ^ 48) (h0 : 0 < m) (h : P (lN (lst n m (x ≠ 0))) D) : xCl (d + 1) m_S_leastTerms [.long (lN n), .long (lN m), .int x] D P := by
  refine xCl_of y_S_leastTerms (Nat.le_of_ble_eq_true rfl) (s_S_leastTerms_0 ?_)
  -- at the end
  have fin : ∀ g, g = Nat.gcd n m → (¬ (lg_cmp (lN g) (0 : Int64)) = 0 → (x = 0 → ¬ lN g = 0 ∧ ∃ y, some (Value.long (lN n / lN g)) = some (.long y) ∧ P y D) ∧ (¬ x = 0 → ¬ lN g = 0 ∧ ∃ y, some (Value.long (lN m / lN g)) = some (.long y) ∧ P y D)) ∧ ((lg_cmp (lN g) (0 : Int64)) = 0 → ∃ y, some (Value.long (0 : Int64)) = some (.long y) ∧ P y D) := by
    intro g hg
    have g0 : 0 < g := by rw [hg]; exact Nat.gcd_pos_of_pos_right _ h0
    have gm : g ≤ m := by rw [hg]; exact Nat.gcd_le_right _ h0
    have gn : ¬ lN g = 0 := fun q => by
      have := (pk_lEQ (a := g) (b := 0) (by omega) (by omega)).mp q
      omega
    unfold lst at h
    rw [← hg] at h
    refine ⟨fun _ => ⟨fun z => ⟨gn, _, rfl, ?_⟩, fun z => ⟨gn, _, rfl, ?_⟩⟩, fun q => absurd ((lg_cmp_eq _ _).mp q) gn⟩
    · rw [if_neg (fun y => y z)] at h
      rw [pk_lDiv (by omega) g0 (by omega)]; exact h
    · rw [if_pos z] at h
      rw [pk_lDiv (by omega) g0 (by omega)]; exact h
  have key : ∀ F i a b, i + F = 100 → a < 2 ^ 48 → b < 2 ^ 48 → eug F a b = Nat.gcd n m →
      xPf (d + 1) m_S_leastTerms 9 [(0, .long (lN n)), (2, .long (lN m)), (4, .int x), (5, .long (lN a)), (7, .long (lN b)), (9, .int (nI i))] [] D (fun r D' => ∃ x, r = some (.long x) ∧ P x D') := by
    intro F
    induction F with
    | zero =>
      intro i a b hi ha hb he
      exact s_S_leastTerms_9 ⟨fun _ => fin a he, fun q => absurd (nI_le (a := 100) (b := i) (by omega) (by omega)) q⟩
    | succ F ih =>
      intro i a b hi ha hb he
      refine s_S_leastTerms_9 ⟨fun q => absurd q (nI_ge (a := i) (b := 100) (by omega) (by omega)), fun _ => ⟨fun q => ?_, fun q => ?_⟩⟩
      · have b0 : b = 0 := (pk_lEQ (a := b) (b := 0) (by omega) (by omega)).mp ((lg_cmp_eq _ _).mp q)
        rw [eug, if_pos b0] at he
        exact fin a he
      · have b0 : b ≠ 0 := fun z => q ((lg_cmp_eq _ _).mpr (by rw [z]; rfl))
        rw [eug, if_neg b0] at he
        refine ⟨fun z => b0 ((pk_lEQ (a := b) (b := 0) (by omega) (by omega)).mp z), ?_⟩
        rw [pk_lRem (by omega) (by omega) (by omega), nI_1 i]
        exact ih (i + 1) b (a % b) (by omega) hb (by have := Nat.mod_lt a (show 0 < b by omega); omega) he
  exact key 100 0 m n (by omega) hm hn (eug_is 48 100 m n (by omega) hn)
theorem c_Odds_choices {P : Int64 → xD → Prop} {n k : Nat} (hn : n ≤ 52) (hk : k ≤ 6) (h : P (lN (bn n k)) D) : xCl (d + 1) m_Odds_choices [.int (nI n), .int (nI k)] D P := by
  refine xCl_of y_Odds_choices (Nat.le_of_ble_eq_true rfl) (s_Odds_choices_0 ⟨fun q => absurd q (nI_pos (by omega)), fun _ => ⟨fun q => ?_, fun q => ⟨_, rfl, ?_⟩⟩⟩)
  · have hkn := (nI_leI (by omega) (by omega)).mp q
    have key : ∀ m i, i + m = k → xPf (d + 1) m_Odds_choices 16 [(0, .int (nI n)), (1, .int (nI k)), (2, .long (lN (bn (n - k + i) i))), (4, .int (nI (i + 1)))] [] D (fun r D' => ∃ x, r = some (.long x) ∧ P x D') := by
      intro m
      induction m with
      | zero =>
        intro i hi
        refine s_Odds_choices_16 ⟨fun _ => ⟨_, rfl, ?_⟩, fun z => absurd (nI_lt (show k < i + 1 by omega) (by omega)) z⟩
        have ei : i = k := by omega
        rw [ei, show n - k + k = n by omega]; exact h
      | succ m ih =>
        intro i hi
        refine s_Odds_choices_16 ⟨fun z => absurd z (nI_nlt (by omega) (by omega)), fun _ => ⟨?_, ?_⟩⟩
        · rw [nI_l (by omega)]
          exact fun z => by
            have := (pk_lEQ (a := i + 1) (b := 0) (by omega) (by omega)).mp z
            omega
        · have nx := ih (i + 1) (by omega)
          have hb := bn_pow (n - k + i) i
          have hb2 : (n - k + i) ^ i ≤ 52 ^ 6 := Nat.le_trans (Nat.pow_le_pow_left (show n - k + i ≤ 52 by omega) i) (Nat.pow_le_pow_right (by omega) (by omega))
          have hm := bn_mul (n - k + i) i
          have hb3 : bn (n - k + i) i * (n - k + (i + 1)) ≤ 52 ^ 6 * 53 := Nat.mul_le_mul (by omega) (by omega)
          rw [pk_sub hkn, nI_add, nI_l (show n - k + (i + 1) < 2 ^ 31 by omega), nI_l (show i + 1 < 2 ^ 31 by omega), lN_mul, pk_lDiv (by omega) (by omega) (by omega), nI_1 (i + 1)]
          have e : bn (n - k + i) i * (n - k + (i + 1)) / (i + 1) = bn (n - k + (i + 1)) (i + 1) := by
            rw [Nat.mul_comm, show n - k + (i + 1) = n - k + i + 1 by omega, ← hm, Nat.mul_div_cancel _ (by omega)]
          rw [e]
          exact nx
    have := key k 0 (by omega)
    rw [bn_0] at this
    exact this
  · have hkn : n < k := Nat.lt_of_not_le (fun z => q (nI_le z (by omega)))
    rw [bn_gt hkn] at h
    exact h
end TERMS
