/-! The reference: hands and what came as numbers of base 5. -/
def dg (n k : Nat) : Nat := n / 5 ^ k % 5
def cdM (f : Nat → Nat) : Nat := f 0 + 5 * f 1 + 25 * f 2 + 125 * f 3
theorem dg0 (n : Nat) : dg n 0 = n % 5 := by unfold dg; rw [Nat.pow_zero, Nat.div_one]
theorem dg1 (n : Nat) : dg n 1 = n / 5 % 5 := rfl
theorem dg2 (n : Nat) : dg n 2 = n / 25 % 5 := rfl
theorem dg3 (n : Nat) : dg n 3 = n / 125 % 5 := rfl
theorem dg_lt (n k : Nat) : dg n k ≤ 4 := by unfold dg; omega
theorem lt4 {k : Nat} (h : k < 4) : k = 0 ∨ k = 1 ∨ k = 2 ∨ k = 3 := by omega
theorem dg_cdM {f : Nat → Nat} (h : ∀ i, i < 4 → f i ≤ 4) {k : Nat} (hk : k < 4) : dg (cdM f) k = f k := by
  have h0 := h 0 (by omega)
  have h1 := h 1 (by omega)
  have h2 := h 2 (by omega)
  have h3 := h 3 (by omega)
  unfold cdM
  rcases lt4 hk with rfl | rfl | rfl | rfl
  · rw [dg0]; omega
  · rw [dg1]; omega
  · rw [dg2]; omega
  · rw [dg3]; omega
theorem cdM_lt {f : Nat → Nat} (h : ∀ i, i < 4 → f i ≤ 4) : cdM f < 625 := by
  have h0 := h 0 (by omega)
  have h1 := h 1 (by omega)
  have h2 := h 2 (by omega)
  have h3 := h 3 (by omega)
  unfold cdM; omega
theorem cdM_dg {n : Nat} (h : n < 625) : cdM (dg n) = n := by
  unfold cdM
  rw [dg0, dg1, dg2, dg3]; omega
theorem cdM_congr {f g : Nat → Nat} (h : ∀ i, i < 4 → f i = g i) : cdM f = cdM g := by
  unfold cdM
  rw [h 0 (by omega), h 1 (by omega), h 2 (by omega), h 3 (by omega)]
theorem cdM_inc (f : Nat → Nat) {k : Nat} (hk : k < 4) : cdM (inc f k) = cdM f + 5 ^ k := by
  unfold cdM
  rcases lt4 hk with rfl | rfl | rfl | rfl <;> simp [inc_at] <;> omega
theorem cdM_dec {f : Nat → Nat} {k : Nat} (hk : k < 4) (h0 : 0 < f k) : cdM (dec f k) + 5 ^ k = cdM f := by
  unfold cdM
  rcases lt4 hk with rfl | rfl | rfl | rfl <;> simp [dec_at] <;> omega
/-- a hand of A cards of K KINDS -/
def isH (K A n : Nat) : Bool := decide (dg n 0 + dg n 1 + dg n 2 + dg n 3 = A) && ((decide (0 < K) || dg n 0 == 0) && (decide (1 < K) || dg n 1 == 0) && (decide (2 < K) || dg n 2 == 0) && (decide (3 < K) || dg n 3 == 0))
theorem isH_iff {K A n : Nat} : isH K A n = true ↔ sm (dg n) 4 = A ∧ ∀ k, k < 4 → K ≤ k → dg n k = 0 := by
  unfold isH
  rw [sm4]
  simp only [Bool.and_eq_true, Bool.or_eq_true, decide_eq_true_iff, beq_iff_eq]
  constructor
  · rintro ⟨h, ⟨⟨⟨a, b⟩, c⟩, e⟩⟩
    refine ⟨h, fun k hk hK => ?_⟩
    rcases lt4 hk with rfl | rfl | rfl | rfl
    · exact a.resolve_left (by omega)
    · exact b.resolve_left (by omega)
    · exact c.resolve_left (by omega)
    · exact e.resolve_left (by omega)
  · rintro ⟨h, q⟩
    refine ⟨h, ⟨⟨⟨?_, ?_⟩, ?_⟩, ?_⟩⟩
    · by_cases z : 0 < K
      · exact Or.inl z
      · exact Or.inr (q 0 (by omega) (by omega))
    · by_cases z : 1 < K
      · exact Or.inl z
      · exact Or.inr (q 1 (by omega) (by omega))
    · by_cases z : 2 < K
      · exact Or.inl z
      · exact Or.inr (q 2 (by omega) (by omega))
    · by_cases z : 3 < K
      · exact Or.inl z
      · exact Or.inr (q 3 (by omega) (by omega))
/-- how many hands there are below a number -/
def rkM (K A : Nat) : Nat → Nat
  | 0 => 0
  | n + 1 => rkM K A n + if isH K A n then 1 else 0
theorem rkM_mono (K A : Nat) {a b : Nat} (h : a ≤ b) : rkM K A a ≤ rkM K A b := by
  induction b with
  | zero => rw [show a = 0 by omega]; exact Nat.le_refl _
  | succ b ih =>
    by_cases z : a = b + 1
    · rw [z]; exact Nat.le_refl _
    · have := ih (by omega)
      have e : rkM K A (b + 1) = rkM K A b + if isH K A b then 1 else 0 := rfl
      rw [e]; exact Nat.le_trans this (Nat.le_add_right _ _)
theorem rkM_lt {K A a b : Nat} (h : a < b) (ha : isH K A a = true) : rkM K A a < rkM K A b := by
  have h1 := rkM_mono K A (show a + 1 ≤ b by omega)
  have e : rkM K A (a + 1) = rkM K A a + 1 := by rw [rkM, if_pos ha]
  omega
theorem rkM_inj {K A a b : Nat} (ha : isH K A a = true) (hb : isH K A b = true) (h : rkM K A a = rkM K A b) : a = b := by
  rcases Nat.lt_trichotomy a b with q | q | q
  · have := rkM_lt q ha; omega
  · exact q
  · have := rkM_lt q hb; omega
theorem rkM_35' : ∀ K, K < 5 → ∀ A, A < 5 → rkM K A 625 ≤ 35 := by decide +kernel
theorem rkM_35 {K A n : Nat} (hK : K ≤ 4) (hA : A ≤ 4) (hn : n < 625) (h : isH K A n = true) : rkM K A n < 35 := by
  have := rkM_lt hn h
  have := rkM_35' K (by omega) A (by omega)
  omega
theorem rkM_ex {K A i : Nat} : ∀ {n : Nat}, i < rkM K A n → ∃ m, m < n ∧ isH K A m = true ∧ rkM K A m = i := by
  intro n
  induction n with
  | zero => intro h; exact absurd h (Nat.not_lt_zero _)
  | succ n ih =>
    intro h
    rw [rkM] at h
    by_cases z : isH K A n = true
    · rw [if_pos z] at h
      by_cases y : i = rkM K A n
      · exact ⟨n, by omega, z, y.symm⟩
      · obtain ⟨m, h1, h2⟩ := ih (by omega)
        exact ⟨m, by omega, h2⟩
    · rw [if_neg z] at h
      obtain ⟨m, h1, h2⟩ := ih (by omega)
      exact ⟨m, by omega, h2⟩
/-- the units lie -/
def mU (D : xD) : Prop := ∀ k, k < 4 → D.1 363 k = nI (5 ^ k)
/-- all hands lie, each at its place -/
def mHs (D : xD) (K A : Nat) : Prop := mU D ∧ (∀ n, n < 625 → isH K A n = true → D.1 361 n = nI (rkM K A n) ∧ D.1 360 (rkM K A n) = nI n) ∧ D.1 325 73 = nI (rkM K A 625)
theorem mU.fr {D D' : xD} {lo hi f g : Nat} (X : mU D) (o : mF lo hi f g D D') (q : 363 < lo ∨ hi ≤ 363) : mU D' := fun k hk => by rw [(o.1 363 (by omega) q).1]; exact X k hk
theorem mHs.fr {D D' : xD} {lo hi f g K A : Nat} (X : mHs D K A) (o : mF lo hi f g D D') (q : 363 < lo ∨ hi ≤ 360 ∨ (362 ≤ lo ∧ hi ≤ 363)) (r : 73 < f ∨ g ≤ 73) : mHs D' K A :=
  ⟨X.1.fr o (by omega), fun n hn h => by rw [(o.1 361 (by omega) (by omega)).1, (o.1 360 (by omega) (by omega)).1]; exact X.2.1 n hn h, by rw [o.2 73 r]; exact X.2.2⟩
theorem pow5 {k : Nat} (h : k < 4) : 5 ^ k ≤ 125 ∧ 0 < 5 ^ k := by
  rcases lt4 h with rfl | rfl | rfl | rfl <;> decide
section MHANDS
variable {d : Nat} {D : xD} {K A : Nat}
theorem c_M_part {P : Int32 → xD → Prop} {n k : Nat} (U : mU D) (hk : k < 4) (hn : n < 2 ^ 31) (h : P (nI (dg n k)) D) : xCi (d + 1) m_M_part [.ref 325, .int (nI n), .int (nI k)] D P := by
  have l38 : xl (325 + 38) = 4 := cl_13_72 xk_M
  obtain ⟨p1, p2⟩ := pow5 hk
  refine xCi_of y_M_part (Nat.le_of_ble_eq_true rfl) (s_M_part_0 xk_M ?_)
  rw [nI_clamp (n := k) (by omega), show D.1 (325 + 38) k = nI (5 ^ k) from U k hk, pk_div hn p2 (by omega), show (5 : Int32) = nI 5 from rfl, pk_rem (Nat.lt_of_le_of_lt (Nat.div_le_self _ _) hn) (by omega) (by omega)]
  exact ⟨by rw [l38]; exact vp_in_nI hk (by omega), nI_ne0 p2 (by omega), _, rfl, h⟩
theorem c_M_total {P : Int32 → xD → Prop} {n : Nat} (U : mU D) (hn : n < 2 ^ 31) (h : P (nI (sm (dg n) 4)) D) : xCi (d + 2) m_M_total [.ref 325, .int (nI n)] D P := by
  refine xCi_of y_M_total (Nat.le_of_ble_eq_true rfl) (s_M_total_0 xk_M ?_)
  refine c_M_part (k := 0) U (by omega) hn (c_M_part (k := 1) U (by omega) hn (c_M_part (k := 2) U (by omega) hn (c_M_part (k := 3) U (by omega) hn ?_)))
  rw [nI_add, nI_add, nI_add, ← sm4]
  exact ⟨_, rfl, h⟩
theorem c_M_hasAlike {P : Int32 → xD → Prop} {n : Nat} (U : mU D) (e29 : D.1 325 29 = nI A) (hn : n < 2 ^ 31) (hK : K ≤ 4) (hA : 0 < A) (hA4 : A ≤ 4) (hH : isH K A n = true) (h1 : oHas K A (dg n) = true → P 1 D) (h0 : ¬ oHas K A (dg n) = true → P 0 D) : xCi (d + 2) m_M_hasAlike [.ref 325, .int (nI n)] D P := by
  obtain ⟨hs, hz⟩ := isH_iff.mp hH
  rw [sm4] at hs
  have yes : ∀ k, k < 4 → nI (dg n k) = nI A → P 1 D := fun k hk e => by
    have b := dg_lt n k
    have ek := (nI_eq (by omega) (by omega)).mp e
    have hkK : k < K := Nat.lt_of_not_le (fun z => by have := hz k hk z; omega)
    exact h1 (oHas_t.mpr ⟨k, hkK, by omega⟩)
  refine xCi_of y_M_hasAlike (Nat.le_of_ble_eq_true rfl) (s_M_hasAlike_0 xk_M ?_)
  refine c_M_part (k := 0) U (by omega) hn ?_
  rw [e29]
  refine ⟨fun c => ⟨_, rfl, yes 0 (by omega) c⟩, fun c0 => c_M_part (k := 1) U (by omega) hn ?_⟩
  rw [e29]
  refine ⟨fun c => ⟨_, rfl, yes 1 (by omega) c⟩, fun c1 => c_M_part (k := 2) U (by omega) hn ?_⟩
  rw [e29]
  refine ⟨fun c => ⟨_, rfl, yes 2 (by omega) c⟩, fun c2 => c_M_part (k := 3) U (by omega) hn ?_⟩
  rw [e29]
  refine ⟨fun c3 => ⟨_, rfl, h0 (fun q => ?_)⟩, fun c => ⟨_, rfl, yes 3 (by omega) c⟩⟩
  obtain ⟨k, hk, hle⟩ := oHas_t.mp q
  have ne : ∀ j, nI (dg n j) ≠ nI A → dg n j ≠ A := fun j z y => z (by rw [y])
  have n0 := ne 0 c0
  have n1 := ne 1 c1
  have n2 := ne 2 c2
  have n3 := ne 3 c3
  rcases lt4 (show k < 4 by omega) with rfl | rfl | rfl | rfl <;> omega
theorem c_M_canCome {P : Int32 → xD → Prop} {n N : Nat} {h u : Nat → Nat} (U : mU D) (e27 : D.1 325 27 = nI K) (X : mHf D h u N) (hK : K ≤ 4) (hu : ∀ k, k < 4 → u k ≤ 4) (hu0 : ∀ k, K ≤ k → u k = 0) (hn : n < 2 ^ 31) (h1 : (∀ k, k < 4 → dg n k ≤ u k) → P 1 D) (h0 : ¬ (∀ k, k < 4 → dg n k ≤ u k) → P 0 D) : xCi (d + 2) m_M_canCome [.ref 325, .int (nI n)] D P := by
  have l34 : xl (325 + 34) = 13 := cl_13_67 xk_M
  refine xCi_of y_M_canCome (Nat.le_of_ble_eq_true rfl) (s_M_canCome_0 xk_M ?_)
  have key : ∀ m k, k + m = 4 → (∀ j, j < k → dg n j ≤ u j) → xPf (d + 2) m_M_canCome 2 [(0, .ref 325), (1, .int (nI n)), (2, .int (nI k))] [] D (fun r D' => ∃ v, r = some (.int v) ∧ P v D') := by
    intro m
    induction m with
    | zero =>
      intro k hk hj
      exact s_M_canCome_2 xk_M ⟨fun _ => ⟨_, rfl, h1 (fun j hj4 => hj j (by omega))⟩, fun z => absurd (nI_le (a := 4) (by omega) (by omega)) z⟩
    | succ m ih =>
      intro k hk hj
      have b := dg_lt n k
      have bu := hu k (by omega)
      have nx : dg n k ≤ u k → xPf (d + 2) m_M_canCome 2 [(0, .ref 325), (1, .int (nI n)), (2, .int (nI (k + 1)))] [] D (fun r D' => ∃ v, r = some (.int v) ∧ P v D') := fun z => ih (k + 1) (by omega) (fun j hjk => by
        by_cases y : j = k
        · rw [y]; exact z
        · exact hj j (by omega))
      refine s_M_canCome_2 xk_M ⟨fun z => absurd z (nI_ge (b := 4) (by omega) (by omega)), fun _ => c_M_part U (by omega) hn ?_⟩
      rw [e27, nI_clamp (n := k) (by omega), show D.1 (325 + 34) k = nI (u k) from X.2.1 k (by omega), nI_1]
      refine ⟨fun c => ⟨fun y => nx ?_, fun y => ⟨_, rfl, h0 (fun q => ?_)⟩⟩, fun c => ⟨by rw [l34]; exact vp_in_nI (by omega) (by omega), fun y => nx ?_, fun y => ⟨_, rfl, h0 (fun q => ?_)⟩⟩⟩
      · have := (nI_leI (b := 0) (by omega) (by omega)).mp y; omega
      · have e0 := hu0 k ((nI_leI (by omega) (by omega)).mp c)
        have := q k (by omega)
        exact y (nI_le (b := 0) (by omega) (by omega))
      · exact (nI_leI (by omega) (by omega)).mp y
      · exact y (nI_le (q k (by omega)) (by omega))
  exact key 4 0 (by omega) (fun j hj => absurd hj (Nat.not_lt_zero _))
theorem c_M_rows {P : Int64 → xD → Prop} {N n : Nat} (hn : n ≤ N) (hN : N < 2 ^ 31) (h : P (lN (fall N n)) D) : xCl (d + 1) m_M_rows [.ref 325, .int (nI N), .int (nI n)] D P := by
  refine xCl_of y_M_rows (Nat.le_of_ble_eq_true rfl) (s_M_rows_0 xk_M ?_)
  have key : ∀ m i, i + m = n → xPf (d + 1) m_M_rows 5 [(0, .ref 325), (1, .int (nI N)), (2, .int (nI n)), (3, .long (lN (fall N i))), (5, .int (nI i))] [] D (fun r D' => ∃ v, r = some (.long v) ∧ P v D') := by
    intro m
    induction m with
    | zero =>
      intro i hi
      refine s_M_rows_5 xk_M ⟨fun _ => ⟨_, rfl, ?_⟩, fun z => absurd (nI_le (by omega) (by omega)) z⟩
      rw [show i = n by omega]; exact h
    | succ m ih =>
      intro i hi
      have nx := ih (i + 1) (by omega)
      rw [fall] at nx
      refine s_M_rows_5 xk_M ⟨fun z => absurd z (nI_ge (by omega) (by omega)), fun _ => ?_⟩
      rw [pk_sub (show i ≤ N by omega), nI_l (by omega), lN_mul, nI_1]
      exact nx
  exact key n 0 (by omega)
theorem c_M_ownNumber {P : Int32 → xD → Prop} {N : Nat} {h u : Nat → Nat} (U : mU D) (e27 : D.1 325 27 = nI K) (X : mHf D h u N) (hK : K ≤ 4) (h0 : ∀ k, k < 4 → K ≤ k → h k = 0) (fin : P (nI (cdM h)) D) : xCi (d + 1) m_M_ownNumber [.ref 325] D P := by
  have l33 : xl (325 + 33) = 13 := cl_13_66 xk_M
  have l38 : xl (325 + 38) = 4 := cl_13_72 xk_M
  have es : sm (fun k => h k * 5 ^ k) K = cdM h := by
    unfold cdM
    rcases (show K = 0 ∨ K = 1 ∨ K = 2 ∨ K = 3 ∨ K = 4 by omega) with rfl | rfl | rfl | rfl | rfl
    · rw [h0 0 (by omega) (by omega), h0 1 (by omega) (by omega), h0 2 (by omega) (by omega), h0 3 (by omega) (by omega)]; rfl
    · rw [h0 1 (by omega) (by omega), h0 2 (by omega) (by omega), h0 3 (by omega) (by omega)]; simp [sm]
    · rw [h0 2 (by omega) (by omega), h0 3 (by omega) (by omega)]; simp [sm]; omega
    · rw [h0 3 (by omega) (by omega)]; simp [sm]; omega
    · simp [sm]; omega
  refine xCi_of y_M_ownNumber (Nat.le_of_ble_eq_true rfl) (s_M_ownNumber_0 xk_M ?_)
  have key : ∀ m k, k + m = K → xPf (d + 1) m_M_ownNumber 4 [(0, .ref 325), (1, .int (nI (sm (fun k => h k * 5 ^ k) k))), (2, .int (nI k))] [] D (fun r D' => ∃ v, r = some (.int v) ∧ P v D') := by
    intro m
    induction m with
    | zero =>
      intro k hk
      refine s_M_ownNumber_4 xk_M ?_
      rw [e27]
      refine ⟨fun _ => ⟨_, rfl, ?_⟩, fun z => absurd (nI_le (by omega) (by omega)) z⟩
      rw [show k = K by omega, es]; exact fin
    | succ m ih =>
      intro k hk
      have nx := ih (k + 1) (by omega)
      rw [sm] at nx
      refine s_M_ownNumber_4 xk_M ?_
      rw [e27, nI_clamp (n := k) (by omega), show D.1 (325 + 33) k = nI (h k) from X.1 k (by omega), show D.1 (325 + 38) k = nI (5 ^ k) from U k (by omega), pk_mul, nI_add, nI_1]
      exact ⟨fun z => absurd z (nI_ge (by omega) (by omega)), fun _ => ⟨by rw [l33]; exact vp_in_nI (by omega) (by omega), by rw [l38]; exact vp_in_nI (by omega) (by omega), nx⟩⟩
  exact key K 0 (by omega)
theorem c_M_layHands {P : xD → Prop} (e27 : D.1 325 27 = nI K) (e29 : D.1 325 29 = nI A) (hK : K ≤ 4) (hA : A ≤ 4) (h : ∀ D', mF 360 364 73 74 D D' → mHs D' K A → P D') : xCv (d + 3) m_M_layHands [.ref 325] D P := by
  have l35 : xl (325 + 35) = 35 := cl_13_69 xk_M
  have l36 : xl (325 + 36) = 625 := cl_13_70 xk_M
  have l38 : xl (325 + 38) = 4 := cl_13_72 xk_M
  have i38 : ∀ k, k < 4 → vp_in (nI k) (xl (325 + 38)) := fun k hk => by rw [l38]; exact vp_in_nI hk (by omega)
  refine xCv_of y_M_layHands (Nat.le_of_ble_eq_true rfl) (s_M_layHands_0 xk_M ⟨i38 0 (by omega), fun D1 e1 => ⟨i38 1 (by omega), fun D2 e2 => ⟨i38 2 (by omega), fun D3 e3 => ⟨i38 3 (by omega), fun D4 e4 D5 e5 => ?_⟩⟩⟩⟩)
  obtain ⟨o1, v1⟩ := ma (by omega) e1
  obtain ⟨o2, v2⟩ := ma (by omega) e2
  obtain ⟨o3, v3⟩ := ma (by omega) e3
  obtain ⟨o4, v4⟩ := ma (by omega) e4
  obtain ⟨o5, f5⟩ := mf e5
  have v1' : ∀ j, D1.1 363 j = if j = 0 then 1 else D.1 363 j := v1
  have v2' : ∀ j, D2.1 363 j = if j = 1 then 5 else D1.1 363 j := v2
  have v3' : ∀ j, D3.1 363 j = if j = 2 then 25 else D2.1 363 j := v3
  have v4' : ∀ j, D4.1 363 j = if j = 3 then 125 else D3.1 363 j := v4
  have o15 : mF 360 364 73 74 D D5 := (o1.m (by omega) (by omega)).trans ((o2.m (by omega) (by omega)).trans ((o3.m (by omega) (by omega)).trans ((o4.m (by omega) (by omega)).trans (o5.m (by omega) (by omega)))))
  have U5 : mU D5 := fun k hk => by
    rw [(o5.1 363 (by omega) (by omega)).1]
    rcases lt4 hk with rfl | rfl | rfl | rfl
    · rw [v4', if_neg (by omega), v3', if_neg (by omega), v2', if_neg (by omega), v1', if_pos rfl]; rfl
    · rw [v4', if_neg (by omega), v3', if_neg (by omega), v2', if_pos rfl]; rfl
    · rw [v4', if_neg (by omega), v3', if_pos rfl]; rfl
    · rw [v4', if_pos rfl]; rfl
  have key : ∀ m n, n + m = 625 → ∀ D', mF 360 364 73 74 D D' → mU D' → (∀ j, j < n → isH K A j = true → D'.1 361 j = nI (rkM K A j) ∧ D'.1 360 (rkM K A j) = nI j) → D'.1 325 73 = nI (rkM K A n) → xPf (d + 3) m_M_layHands 37 [(0, .ref 325), (1, .int (nI n))] [] D' (fun r D' => r = none ∧ P D') := by
    intro m
    induction m with
    | zero =>
      intro n hn D' o U hv f73
      have en : n = 625 := by omega
      subst en
      exact s_M_layHands_37 xk_M ⟨fun _ => ⟨rfl, h D' o ⟨U, hv, f73⟩⟩, fun z => absurd (nI_le (a := 625) (by omega) (by omega)) z⟩
    | succ m ih =>
      intro n hn D' o U hv f73
      have g27 : D'.1 325 27 = nI K := by rw [o.2 27 (by omega)]; exact e27
      have g29 : D'.1 325 29 = nI A := by rw [o.2 29 (by omega)]; exact e29
      have i36 : vp_in (nI n) (xl (325 + 36)) := by rw [l36]; exact vp_in_nI (by omega) (by omega)
      -- whether it is one
      have put : ∀ b : Int32, ((b = 1 ∧ isH K A n = true) ∨ (b = 0 ∧ ¬ isH K A n = true)) → ∀ k, 4 ≤ k → k < 10 → xPf (d + 3) m_M_layHands 67 [(0, .ref 325), (1, .int (nI n)), (2, .int b), (3, .int (nI k))] [] D' (fun r D' => r = none ∧ P D') := by
        intro b hb k hk4 hk10
        refine s_M_layHands_67 xk_M ⟨fun _ => ?_, fun z => absurd (nI_le (a := 4) hk4 (by omega)) z⟩
        rw [nI_clamp (n := n) (by omega), nI_1]
        have rs : rkM K A (n + 1) = rkM K A n + if isH K A n then 1 else 0 := rfl
        rcases hb with ⟨rfl, hb⟩ | ⟨rfl, hb⟩
        · rw [if_pos hb] at rs
          have r35 := rkM_35 hK hA (by omega) hb
          refine ⟨fun z => absurd z (by decide), fun _ => ⟨i36, fun D4 e4 => ⟨fun z => absurd z (by decide), fun _ => ?_⟩⟩⟩
          obtain ⟨o4, w4⟩ := ma (by omega) e4
          rw [f73] at w4
          have g73 : D4.1 325 73 = nI (rkM K A n) := by rw [o4.2 73 (by omega)]; exact f73
          rw [g73, nI_clamp (n := rkM K A n) (by omega)]
          refine ⟨by rw [l35]; exact vp_in_nI r35 (by omega), fun D5 e5 D6 e6 => ?_⟩
          obtain ⟨o5, w5⟩ := ma (by omega) e5
          obtain ⟨o6, f6⟩ := mf e6
          rw [o5.2 73 (by omega), g73, nI_1] at f6
          have w4' : ∀ j, D6.1 361 j = if j = n then nI (rkM K A n) else D'.1 361 j := fun j => by
            rw [(o6.1 361 (by omega) (by omega)).1, (o5.1 361 (by omega) (by omega)).1]; exact w4 j
          have w5' : ∀ j, D6.1 360 j = if j = rkM K A n then nI n else D'.1 360 j := fun j => by
            rw [(o6.1 360 (by omega) (by omega)).1, ← (o4.1 360 (by omega) (by omega)).1]; exact w5 j
          refine ih (n + 1) (by omega) D6 (o.trans ((o4.m (by omega) (by omega)).trans ((o5.m (by omega) (by omega)).trans (o6.m (by omega) (by omega))))) (((U.fr o4 (by omega)).fr o5 (by omega)).fr o6 (by omega)) (fun j hj hjh => ?_) (by rw [f6, rs])
          rw [w4', w5']
          by_cases z : j = n
          · rw [if_pos z, z, if_pos rfl]; exact ⟨rfl, rfl⟩
          · have := rkM_lt (show j < n by omega) hjh
            rw [if_neg z, if_neg (by omega)]; exact hv j (by omega) hjh
        · rw [if_neg hb, Nat.add_zero] at rs
          refine ⟨fun _ => ⟨i36, fun D4 e4 => ⟨fun _ => ?_, fun z => absurd rfl z⟩⟩, fun z => absurd rfl z⟩
          obtain ⟨o4, w4⟩ := ma (by omega) e4
          have w4' : ∀ j, D4.1 361 j = if j = n then -1 else D'.1 361 j := w4
          refine ih (n + 1) (by omega) D4 (o.trans (o4.m (by omega) (by omega))) (U.fr o4 (by omega)) (fun j hj hjh => ?_) (by rw [o4.2 73 (by omega), rs]; exact f73)
          have ne : j ≠ n := fun z => hb (by rw [← z]; exact hjh)
          rw [w4', if_neg ne, (o4.1 360 (by omega) (by omega)).1]; exact hv j (by omega) hjh
      have kinds : ∀ m k, k + m = 4 → ∀ b : Int32, ((b = 1 ∧ sm (dg n) 4 = A ∧ ∀ j, j < k → K ≤ j → dg n j = 0) ∨ (b = 0 ∧ ¬ isH K A n = true)) → xPf (d + 3) m_M_layHands 67 [(0, .ref 325), (1, .int (nI n)), (2, .int b), (3, .int (nI k))] [] D' (fun r D' => r = none ∧ P D') ∨ k < K := by
        intro m'
        induction m' with
        | zero =>
          intro k hk b hb
          refine Or.inl (put b ?_ k (by omega) (by omega))
          rcases hb with ⟨rfl, a, q⟩ | ⟨rfl, a⟩
          · exact Or.inl ⟨rfl, isH_iff.mpr ⟨a, fun j hj hK => q j (by omega) hK⟩⟩
          · exact Or.inr ⟨rfl, a⟩
        | succ m' ih' =>
          intro k hk b hb
          by_cases kK : k < K
          · exact Or.inr kK
          · refine Or.inl (s_M_layHands_67 xk_M ⟨fun z => absurd z (nI_ge (b := 4) (by omega) (by omega)), fun _ => ?_⟩)
            rw [nI_1]
            have nx := fun b' hb' => (ih' (k + 1) (by omega) b' hb').resolve_right (by omega)
            refine ⟨fun z => nx 0 ?_, fun z => c_M_part U (by omega) (by omega) ⟨fun y => nx 0 (Or.inr ⟨rfl, fun q => ?_⟩), fun y => nx 1 ?_⟩⟩
            · rcases hb with ⟨y, -⟩ | ⟨-, a⟩
              · rw [y] at z; exact absurd z (by decide)
              · exact Or.inr ⟨rfl, a⟩
            · have := (isH_iff.mp q).2 k (by omega) (by omega)
              rw [this] at y; exact y rfl
            · have b := dg_lt n k
              have e0 : dg n k = 0 := by
                apply Decidable.byContradiction
                intro q
                exact nI_ne0 (by omega) (by omega) y
              rcases hb with ⟨-, a, q⟩ | ⟨y, -⟩
              · refine Or.inl ⟨rfl, a, fun j hj hKj => ?_⟩
                by_cases w : j = k
                · rw [w]; exact e0
                · exact q j (by omega) hKj
              · exact absurd y z
      refine s_M_layHands_37 xk_M ⟨fun z => absurd z (nI_ge (b := 625) (by omega) (by omega)), fun _ => c_M_total U (by omega) ?_⟩
      have bt : sm (dg n) 4 ≤ 16 := by
        rw [sm4]
        have := dg_lt n 0
        have := dg_lt n 1
        have := dg_lt n 2
        have := dg_lt n 3
        omega
      rw [g29, g27]
      have start : ∀ b : Int32, ((b = 1 ∧ sm (dg n) 4 = A ∧ ∀ j, j < K → K ≤ j → dg n j = 0) ∨ (b = 0 ∧ ¬ isH K A n = true)) → xPf (d + 3) m_M_layHands 67 [(0, .ref 325), (1, .int (nI n)), (2, .int b), (3, .int (nI K))] [] D' (fun r D' => r = none ∧ P D') := fun b hb =>
        (kinds (4 - K) K (by omega) b hb).resolve_right (by omega)
      refine ⟨fun z => start 0 (Or.inr ⟨rfl, fun q => z ?_⟩), fun z => start 1 (Or.inl ⟨rfl, (nI_eq (by omega) (by omega)).mp z, fun j hj hK => by omega⟩)⟩
      rw [(isH_iff.mp q).1]
  exact key 625 0 (by omega) D5 o15 U5 (fun j hj => absurd hj (Nat.not_lt_zero _)) f5
end MHANDS
