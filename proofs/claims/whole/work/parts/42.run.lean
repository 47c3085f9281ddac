/-! ROUNDS, tenth by tenth; what comes round comes round again. -/
def rTen (τ : Nat → Int32) (t : Nat) : Nat → dS → (Nat → Nat) → dS × (Nat → Nat) × Option Nat
  | 0, δ, h => (δ, h, none)
  | n + 1, δ, h =>
    if (rTen τ t n δ h).2.2 = none ∧ t % tP τ n 0 = 0 then
      ((rTurn τ n (rTen τ t n δ h).1 (rTen τ t n δ h).2.1).1, (rTurn τ n (rTen τ t n δ h).1 (rTen τ t n δ h).2.1).2.1, if (rTurn τ n (rTen τ t n δ h).1 (rTen τ t n δ h).2.1).2.2 = true then some n else none)
    else rTen τ t n δ h
/-- behind tenth t: the deal, what each handed on, who is FIRST, the tenth (his, if one is) -/
def rRun (τ : Nat → Int32) (δ0 : dS) (f0 : Option Nat) : Nat → dS × (Nat → Nat) × Option Nat × Nat
  | 0 => (δ0, fun _ => 0, f0, 0)
  | t + 1 =>
    if (rRun τ δ0 f0 t).2.2.1 = none then
      ((rTen τ (t + 1) (tN τ 5) (rRun τ δ0 f0 t).1 (rRun τ δ0 f0 t).2.1).1, (rTen τ (t + 1) (tN τ 5) (rRun τ δ0 f0 t).1 (rRun τ δ0 f0 t).2.1).2.1, (rTen τ (t + 1) (tN τ 5) (rRun τ δ0 f0 t).1 (rRun τ δ0 f0 t).2.1).2.2, t + 1)
    else rRun τ δ0 f0 t
theorem rTurn_h (τ : Nat → Int32) (p : Nat) (δ : dS) (h g : Nat → Nat) : (rTurn τ p δ h).1 = (rTurn τ p δ g).1 ∧ (rTurn τ p δ h).2.2 = (rTurn τ p δ g).2.2 ∧ ∀ i, (rTurn τ p δ h).2.1 i + g i = (rTurn τ p δ g).2.1 i + h i := by
  unfold rTurn
  cases (dTake (tN τ 5) p δ).1 with
  | none => exact ⟨rfl, rfl, fun i => Nat.add_comm _ _⟩
  | some c =>
    refine ⟨rfl, rfl, fun i => ?_⟩
    show (if i = p then h i + 1 else h i) + g i = (if i = p then g i + 1 else g i) + h i
    split <;> omega
theorem rTen_h (τ : Nat → Int32) {t s : Nat} (δ : dS) (h g : Nat → Nat) : ∀ n, (∀ p, p < n → (t % tP τ p 0 = 0 ↔ s % tP τ p 0 = 0)) → (rTen τ t n δ h).1 = (rTen τ s n δ g).1 ∧ (rTen τ t n δ h).2.2 = (rTen τ s n δ g).2.2 ∧ ∀ i, (rTen τ t n δ h).2.1 i + g i = (rTen τ s n δ g).2.1 i + h i := by
  intro n
  induction n with
  | zero => intro _; exact ⟨rfl, rfl, fun i => Nat.add_comm _ _⟩
  | succ n ih =>
    intro hp
    obtain ⟨e1, e2, e3⟩ := ih (fun p q => hp p (by omega))
    rw [rTen, rTen]
    by_cases c : (rTen τ s n δ g).2.2 = none ∧ s % tP τ n 0 = 0
    · rw [if_pos c, if_pos ⟨by rw [e2]; exact c.1, (hp n (by omega)).mpr c.2⟩, e1]
      obtain ⟨r1, r2, r3⟩ := rTurn_h τ n (rTen τ s n δ g).1 (rTen τ t n δ h).2.1 (rTen τ s n δ g).2.1
      refine ⟨r1, ?_, fun i => ?_⟩
      · show (if _ = true then some n else none) = (if _ = true then some n else none)
        rw [r2]
      · have a := r3 i
        have b := e3 i
        show (rTurn τ n (rTen τ s n δ g).1 (rTen τ t n δ h).2.1).2.1 i + g i = (rTurn τ n (rTen τ s n δ g).1 (rTen τ s n δ g).2.1).2.1 i + h i
        omega
    · rw [if_neg c, if_neg (fun q => c ⟨by rw [← e2]; exact q.1, (hp n (by omega)).mp q.2⟩)]
      exact ⟨e1, e2, e3⟩
theorem rRun_stop {τ : Nat → Int32} {δ0 : dS} {f0 : Option Nat} {t : Nat} (h : (rRun τ δ0 f0 t).2.2.1 ≠ none) : ∀ k, rRun τ δ0 f0 (t + k) = rRun τ δ0 f0 t := by
  intro k
  induction k with
  | zero => rfl
  | succ k ih =>
    rw [show t + (k + 1) = (t + k) + 1 by omega, rRun, if_neg (by rw [ih]; exact h), ih]
theorem rRun_none {τ : Nat → Int32} {δ0 : dS} {f0 : Option Nat} {t s : Nat} (h : (rRun τ δ0 f0 t).2.2.1 = none) (hs : s ≤ t) : (rRun τ δ0 f0 s).2.2.1 = none := by
  apply Decidable.byContradiction
  intro q
  have := rRun_stop q (t - s)
  rw [show s + (t - s) = t by omega] at this
  rw [this] at h
  exact q h
theorem rRun_tenth {τ : Nat → Int32} {δ0 : dS} {f0 : Option Nat} {t : Nat} (h : (rRun τ δ0 f0 t).2.2.1 = none) : (rRun τ δ0 f0 t).2.2.2 = t := by
  cases t with
  | zero => rfl
  | succ t =>
    have := rRun_none h (show t ≤ t + 1 by omega)
    rw [rRun, if_pos this]
theorem rRun_shift {τ : Nat → Int32} {δ0 : dS} {f0 : Option Nat} {a b : Nat} (hab : ∀ j p, p < tN τ 5 → ((a + j) % tP τ p 0 = 0 ↔ (b + j) % tP τ p 0 = 0)) (hb : (rRun τ δ0 f0 b).2.2.1 = none) (hd : (rRun τ δ0 f0 b).1 = (rRun τ δ0 f0 a).1) :
    ∀ j, (rRun τ δ0 f0 (a + j)).2.2.1 = none → (rRun τ δ0 f0 (b + j)).2.2.1 = none ∧ (rRun τ δ0 f0 (b + j)).1 = (rRun τ δ0 f0 (a + j)).1 ∧ ∀ i, (rRun τ δ0 f0 (b + j)).2.1 i + (rRun τ δ0 f0 a).2.1 i = (rRun τ δ0 f0 (a + j)).2.1 i + (rRun τ δ0 f0 b).2.1 i := by
  intro j
  induction j with
  | zero => intro _; exact ⟨hb, hd, fun i => Nat.add_comm _ _⟩
  | succ j ih =>
    intro hn
    have hn0 := rRun_none hn (show a + j ≤ a + (j + 1) by omega)
    obtain ⟨i1, i2, i3⟩ := ih hn0
    have ea : rRun τ δ0 f0 (a + (j + 1)) = ((rTen τ (a + j + 1) (tN τ 5) (rRun τ δ0 f0 (a + j)).1 (rRun τ δ0 f0 (a + j)).2.1).1, (rTen τ (a + j + 1) (tN τ 5) (rRun τ δ0 f0 (a + j)).1 (rRun τ δ0 f0 (a + j)).2.1).2.1, (rTen τ (a + j + 1) (tN τ 5) (rRun τ δ0 f0 (a + j)).1 (rRun τ δ0 f0 (a + j)).2.1).2.2, a + j + 1) := by
      rw [show a + (j + 1) = (a + j) + 1 by omega, rRun, if_pos hn0]
    have eb : rRun τ δ0 f0 (b + (j + 1)) = ((rTen τ (b + j + 1) (tN τ 5) (rRun τ δ0 f0 (b + j)).1 (rRun τ δ0 f0 (b + j)).2.1).1, (rTen τ (b + j + 1) (tN τ 5) (rRun τ δ0 f0 (b + j)).1 (rRun τ δ0 f0 (b + j)).2.1).2.1, (rTen τ (b + j + 1) (tN τ 5) (rRun τ δ0 f0 (b + j)).1 (rRun τ δ0 f0 (b + j)).2.1).2.2, b + j + 1) := by
      rw [show b + (j + 1) = (b + j) + 1 by omega, rRun, if_pos i1]
    rw [ea] at hn ⊢
    rw [eb, i2]
    obtain ⟨r1, r2, r3⟩ := rTen_h τ (t := b + j + 1) (s := a + j + 1) (rRun τ δ0 f0 (a + j)).1 (rRun τ δ0 f0 (b + j)).2.1 (rRun τ δ0 f0 (a + j)).2.1 (tN τ 5) (fun p hp => (by
      have := hab (j + 1) p hp
      rw [show a + (j + 1) = a + j + 1 by omega, show b + (j + 1) = b + j + 1 by omega] at this
      exact this.symm))
    refine ⟨r2.trans hn, r1, fun i => ?_⟩
    have a1 := r3 i
    have a2 := i3 i
    show (rTen τ (b + j + 1) (tN τ 5) (rRun τ δ0 f0 (a + j)).1 (rRun τ δ0 f0 (b + j)).2.1).2.1 i + (rRun τ δ0 f0 a).2.1 i = (rTen τ (a + j + 1) (tN τ 5) (rRun τ δ0 f0 (a + j)).1 (rRun τ δ0 f0 (a + j)).2.1).2.1 i + (rRun τ δ0 f0 b).2.1 i
    omega
/-- whole cycles -/
theorem rRun_cycle {τ : Nat → Int32} {δ0 : dS} {f0 : Option Nat} {a b L : Nat} (hL : ∀ p, p < tN τ 5 → L % tP τ p 0 = 0) (ha : a % L = 0) (hb : b % L = 0) (hab : a < b) (hn : (rRun τ δ0 f0 b).2.2.1 = none) (hd : (rRun τ δ0 f0 b).1 = (rRun τ δ0 f0 a).1) :
    ∀ m, (rRun τ δ0 f0 (b + m * (b - a))).2.2.1 = none ∧ (rRun τ δ0 f0 (b + m * (b - a))).1 = (rRun τ δ0 f0 b).1 ∧ ∀ i, (rRun τ δ0 f0 (b + m * (b - a))).2.1 i + m * (rRun τ δ0 f0 a).2.1 i = (rRun τ δ0 f0 b).2.1 i + m * (rRun τ δ0 f0 b).2.1 i := by
  intro m
  induction m with
  | zero => refine ⟨by simpa using hn, by simp, fun i => by simp⟩
  | succ m ih =>
    obtain ⟨i1, i2, i3⟩ := ih
    obtain ⟨u, hu⟩ := Nat.dvd_of_mod_eq_zero ha
    obtain ⟨v, hv⟩ := Nat.dvd_of_mod_eq_zero hb
    have hx : ∀ j p, p < tN τ 5 → ((a + j) % tP τ p 0 = 0 ↔ (b + m * (b - a) + j) % tP τ p 0 = 0) := by
      intro j p hp
      obtain ⟨w, hw⟩ := Nat.dvd_of_mod_eq_zero (hL p hp)
      have e1 : a + j = j + tP τ p 0 * (w * u) := by rw [hu, hw, Nat.mul_assoc]; omega
      have e2 : b + m * (b - a) = tP τ p 0 * (w * v + m * (w * (v - u))) := by
        have z : b - a = L * (v - u) := by rw [hu, hv, Nat.mul_sub]
        rw [z, hv, hw, Nat.mul_add, Nat.mul_assoc]
        congr 1
        rw [Nat.mul_left_comm, Nat.mul_assoc, Nat.mul_left_comm w m]
      have e3 : b + m * (b - a) + j = j + tP τ p 0 * (w * v + m * (w * (v - u))) := by rw [e2]; omega
      rw [e1, e3, Nat.add_mul_mod_self_left, Nat.add_mul_mod_self_left]
    have hs := rRun_shift hx i1 (i2.trans hd) (b - a) (by rw [show a + (b - a) = b by omega]; exact hn)
    rw [show a + (b - a) = b by omega] at hs
    obtain ⟨s1, s2, s3⟩ := hs
    have e : b + (m + 1) * (b - a) = b + m * (b - a) + (b - a) := by rw [Nat.succ_mul]; omega
    rw [e]
    refine ⟨s1, s2, fun i => ?_⟩
    have q1 := s3 i
    have q2 := i3 i
    rw [Nat.succ_mul, Nat.succ_mul]
    omega
section PACES
variable {d : Nat} {D : xD} {t : Nat} {τ : Nat → Int32}
theorem c_Rounds_samePacesEach {P : Int32 → xD → Prop} (hR : tR D t τ) (hT : tOK τ) (h : ∀ L, 0 < L → L < 2 ^ 31 → (∀ p, p < tN τ 5 → L % tP τ p 0 = 0) → P (nI L) D) : xCi (d + 4) m_Rounds_samePacesEach [.ref t] D P := by
  have b5 := hT.2.2.2.2.2.2.1
  refine xCi_of y_Rounds_samePacesEach (Nat.le_of_ble_eq_true rfl) (s_Rounds_samePacesEach_0 hR.1 ?_)
  have key : ∀ k p, p + k = tN τ 5 → ∀ L, 0 < L → L ≤ 9 ^ p → (∀ q, q < p → L % tP τ q 0 = 0) → xPf (d + 4) m_Rounds_samePacesEach 4 [(0, .ref t), (1, .int (nI L)), (2, .int (nI p))] [] D (fun r D' => ∃ x, r = some (.int x) ∧ P x D') := by
    intro k
    induction k with
    | zero =>
      intro p hp L hL hL2 hq
      have h9 : 9 ^ p ≤ 9 ^ 6 := Nat.pow_le_pow_right (by omega) (by omega)
      refine s_Rounds_samePacesEach_4 hR.1 (c_Table_people hR hT ⟨fun _ => ⟨_, rfl, h L hL (by omega) (fun q hqp => hq q (by omega))⟩, fun c => absurd (nI_le (by omega) (by omega)) c⟩)
    | succ k ih =>
      intro p hp L hL hL2 hq
      have h9 : 9 ^ (p + 1) ≤ 9 ^ 6 := Nat.pow_le_pow_right (by omega) (by omega)
      have h9' : 9 ^ (p + 1) = 9 ^ p * 9 := Nat.pow_succ ..
      obtain ⟨q1, q2, -⟩ := hT.2.2.2.2.2.2.2 p (by omega)
      have hb := q1 0 (by omega) (by omega)
      refine s_Rounds_samePacesEach_4 hR.1 (c_Table_people hR hT ⟨fun c => absurd c (nI_ge (by omega) (by omega)), fun _ => ?_⟩)
      have inner : ∀ m i, i + m = tP τ p 0 → 1 ≤ i → xPf (d + 4) m_Rounds_samePacesEach 17 [(0, .ref t), (1, .int (nI (L * i))), (2, .int (nI p)), (3, .int (nI L)), (4, .int (nI i))] [] D (fun r D' => ∃ x, r = some (.int x) ∧ P x D') := by
        intro m
        induction m with
        | zero =>
          intro i hi h1
          refine s_Rounds_samePacesEach_17 hR.1 (c_Table_of (w := 0) hR b5 (by omega) (by omega) ?_)
          rw [hb]
          refine ⟨fun _ => ?_, fun c => absurd (nI_le (by omega) (by omega)) c⟩
          have ei : i = tP τ p 0 := by omega
          rw [nI_1]
          refine ih (p + 1) (by omega) (L * i) (Nat.mul_pos hL (by omega)) ?_ (fun q hqp => ?_)
          · rw [h9']; exact Nat.mul_le_mul hL2 (by omega)
          · by_cases e : q = p
            · rw [e, ei]; exact Nat.mul_mod_left _ _
            · rw [Nat.mul_mod, hq q (by omega)]; simp
        | succ m ihm =>
          intro i hi h1
          have hLi : L * i ≤ 9 ^ p * 9 := Nat.mul_le_mul hL2 (by omega)
          refine s_Rounds_samePacesEach_17 hR.1 (c_Table_of (w := 0) hR b5 (by omega) (by omega) ?_)
          rw [hb]
          refine ⟨fun c => absurd c (nI_ge (by omega) (by omega)), fun _ => ?_⟩
          refine c_Table_goesInto (w := 0) hR hT (by omega) (by omega) (show L * i < 2 ^ 31 by omega) ?_
          by_cases c : L * i % tP τ p 0 = 0
          · rw [if_pos c]
            refine ⟨fun _ => ?_, fun q => absurd q (by decide)⟩
            rw [nI_1]
            refine ih (p + 1) (by omega) (L * i) (Nat.mul_pos hL (by omega)) (by rw [h9']; exact hLi) (fun q hqp => ?_)
            by_cases e : q = p
            · rw [e]; exact c
            · rw [Nat.mul_mod, hq q (by omega)]; simp
          · rw [if_neg c]
            refine ⟨fun q => absurd rfl q, fun _ => ?_⟩
            rw [nI_add, nI_1, show L * i + L = L * (i + 1) from (Nat.mul_succ L i).symm]
            exact ihm (i + 1) (by omega) (by omega)
      have := inner (tP τ p 0 - 1) 1 (by omega) (by omega)
      rw [Nat.mul_one] at this
      exact this
  exact key (tN τ 5) 0 (by omega) 1 (by omega) (by simp) (fun q hq => absurd hq (by omega))
end PACES
