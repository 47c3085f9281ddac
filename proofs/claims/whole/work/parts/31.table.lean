/-! Tables. A table is 48 numbers: 0 KINDS, 1 COPIES, 2 ALIKE, 3 LETTERS, 4 OUTSTRETCHED, 5 PEOPLE, then seven of each of PEOPLE (PACE, EYES, QUICK, FAR, LAW, its KIND, JUMPY). -/
def tN (τ : Nat → Int32) (j : Nat) : Nat := (τ j).toNatClampNeg
def tP (τ : Nat → Int32) (p w : Nat) : Nat := tN τ (6 + 7 * p + w)
/-- the numbers are as the document has them; n PEOPLE -/
def tOK (τ : Nat → Int32) : Prop :=
  (∀ j, j < 6 → τ j = nI (tN τ j)) ∧ (2 ≤ tN τ 0 ∧ tN τ 0 ≤ 13) ∧ (1 ≤ tN τ 1 ∧ tN τ 1 ≤ 4) ∧ (2 ≤ tN τ 2 ∧ tN τ 2 ≤ 4) ∧ (1 ≤ tN τ 3 ∧ tN τ 3 ≤ 9) ∧ tN τ 4 ≤ 9 ∧ tN τ 5 ≤ 6 ∧
  ∀ p, p < tN τ 5 → (∀ w, w < 7 → w ≠ 5 → τ (6 + 7 * p + w) = nI (tP τ p w)) ∧ (1 ≤ tP τ p 0 ∧ tP τ p 0 ≤ 9) ∧ (1 ≤ tP τ p 1 ∧ tP τ p 1 ≤ 9) ∧ tP τ p 2 ≤ 9 ∧ tP τ p 3 ≤ 20 ∧ tP τ p 4 ≤ 3 ∧ tP τ p 6 ≤ 1 ∧ (τ (6 + 7 * p + 5) = -1 ∨ ∃ k, k < tN τ 0 ∧ τ (6 + 7 * p + 5) = nI k)
/-- the object t of class Table holds the table τ -/
def tR (D : xD) (t : Nat) (τ : Nat → Int32) : Prop :=
  xk t = 4 ∧ rS D (t + 1) 6 ∧ rS D (t + 3) 42 ∧ (∀ j, j < 6 → D.1 (t + 2) j = τ j) ∧ ∀ p, p < tN τ 5 → ∀ w, w < 7 → D.1 (t + 4) (7 * p + w) = τ (6 + 7 * p + w)
def tWait (τ : Nat → Int32) (p t : Nat) : Nat := tP τ p 1 - t % tP τ p 1 + tP τ p 2 + tP τ p 3
def tSpoon (τ : Nat → Int32) (p f t : Nat) : Nat := if p = f then t + tP τ p 2 + tP τ p 3 else t + tWait τ p t
/-- who is LAST of the first n -/
def tLast (τ : Nat → Int32) (f t : Nat) : Nat → Nat
  | 0 => 0
  | n + 1 => if n = 0 then 0 else if tSpoon τ n f t < tSpoon τ (tLast τ f t n) f t then tLast τ f t n else n
theorem tLast_lt (τ : Nat → Int32) (f t : Nat) : ∀ n, 0 < n → tLast τ f t n < n := by
  intro n
  induction n with
  | zero => omega
  | succ n ih =>
    intro _
    unfold tLast
    by_cases h : n = 0
    · rw [if_pos h]; omega
    · rw [if_neg h]
      have := ih (by omega)
      split <;> omega
theorem nI_sub1 {a b : Nat} (h : b ≤ a) : nI a - nI b = nI (a - b) := pk_sub h
section TABLE
variable {d : Nat} {D : xD} {t : Nat} {τ : Nat → Int32}
theorem tN_le {j : Nat} (h : tOK τ) (hj : j < 6) : tN τ j ≤ 13 := by
  obtain ⟨h1, h2, h3, h4, h5, h6, h7, -⟩ := h
  rcases (show j = 0 ∨ j = 1 ∨ j = 2 ∨ j = 3 ∨ j = 4 ∨ j = 5 by omega) with rfl | rfl | rfl | rfl | rfl | rfl <;> omega
theorem c_Table_number {P : Int32 → xD → Prop} {j : Nat} (hR : tR D t τ) (hj : j < 6) (h : P (τ j) D) : xCi (d + 2) m_Table_number [.ref t, .int (nI j)] D P := by
  refine xCi_of y_Table_number (Nat.le_of_ble_eq_true rfl) (s_Table_number_0 hR.1 ?_)
  refine c_Row_get hR.2.1 ⟨_, rfl, ?_⟩
  rw [rg_in D _ hj (by omega), show t + 1 + 1 = t + 2 by omega, hR.2.2.2.1 j hj]
  exact h
theorem c_Table_of {P : Int32 → xD → Prop} {p w : Nat} (hR : tR D t τ) (h6 : tN τ 5 ≤ 6) (hp : p < tN τ 5) (hw : w < 7) (h : P (τ (6 + 7 * p + w)) D) : xCi (d + 2) m_Table_of [.ref t, .int (nI p), .int (nI w)] D P := by
  refine xCi_of y_Table_of (Nat.le_of_ble_eq_true rfl) (s_Table_of_0 hR.1 ?_)
  have e : nI p * (7 : Int32) + nI w = nI (7 * p + w) := by
    rw [show (7 : Int32) = nI 7 from rfl, pk_mul, nI_add, Nat.mul_comm]
  rw [e]
  refine c_Row_get hR.2.2.1 ⟨_, rfl, ?_⟩
  rw [rg_in D _ (show 7 * p + w < 42 by omega) (by omega), show t + 3 + 1 = t + 4 by omega, hR.2.2.2.2 p hp w hw]
  exact h
theorem c_Table_kinds {P : Int32 → xD → Prop} (hR : tR D t τ) (hT : tOK τ) (h : P (nI (tN τ 0)) D) : xCi (d + 2) m_Table_kinds [.ref t] D P := by
  refine xCi_of y_Table_kinds (Nat.le_of_ble_eq_true rfl) (s_Table_kinds_0 hR.1 ?_)
  refine c_Row_get (i := nI 0) hR.2.1 ⟨_, rfl, ?_⟩
  rw [rg_in D _ (by omega) (by omega), show t + 1 + 1 = t + 2 by omega, hR.2.2.2.1 0 (by omega), hT.1 0 (by omega)]
  exact h
theorem c_Table_alike {P : Int32 → xD → Prop} (hR : tR D t τ) (hT : tOK τ) (h : P (nI (tN τ 2)) D) : xCi (d + 2) m_Table_alike [.ref t] D P := by
  refine xCi_of y_Table_alike (Nat.le_of_ble_eq_true rfl) (s_Table_alike_0 hR.1 ?_)
  refine c_Row_get (i := nI 2) hR.2.1 ⟨_, rfl, ?_⟩
  rw [rg_in D _ (by omega) (by omega), show t + 1 + 1 = t + 2 by omega, hR.2.2.2.1 2 (by omega), hT.1 2 (by omega)]
  exact h
theorem c_Table_people {P : Int32 → xD → Prop} (hR : tR D t τ) (hT : tOK τ) (h : P (nI (tN τ 5)) D) : xCi (d + 2) m_Table_people [.ref t] D P := by
  refine xCi_of y_Table_people (Nat.le_of_ble_eq_true rfl) (s_Table_people_0 hR.1 ?_)
  refine c_Row_get (i := nI 5) hR.2.1 ⟨_, rfl, ?_⟩
  rw [rg_in D _ (by omega) (by omega), show t + 1 + 1 = t + 2 by omega, hR.2.2.2.1 5 (by omega), hT.1 5 (by omega)]
  exact h
theorem c_Table_pack {P : Int32 → xD → Prop} (hR : tR D t τ) (hT : tOK τ) (h : P (nI (tN τ 0 * tN τ 1)) D) : xCi (d + 3) m_Table_pack [.ref t] D P := by
  refine xCi_of y_Table_pack (Nat.le_of_ble_eq_true rfl) (s_Table_pack_0 hR.1 ?_)
  refine c_Table_kinds hR hT ?_
  refine c_Row_get (i := nI 1) hR.2.1 ⟨_, rfl, ?_⟩
  rw [rg_in D _ (by omega) (by omega), show t + 1 + 1 = t + 2 by omega, hR.2.2.2.1 1 (by omega), hT.1 1 (by omega), pk_mul]
  exact h
theorem c_Table_allHold {P : Int32 → xD → Prop} (hR : tR D t τ) (hT : tOK τ) (h : P (nI (tN τ 5 * tN τ 2)) D) : xCi (d + 3) m_Table_allHold [.ref t] D P := by
  refine xCi_of y_Table_allHold (Nat.le_of_ble_eq_true rfl) (s_Table_allHold_0 hR.1 ?_)
  refine c_Table_people hR hT ?_
  refine c_Table_alike hR hT ⟨_, rfl, ?_⟩
  rw [pk_mul]
  exact h
theorem c_Table_has {P : Int32 → xD → Prop} {x : Int32} (hR : tR D t τ) (hT : tOK τ) (h : P (if x < 0 then 0 else if nI (tN τ 5) ≤ x then 0 else 1) D) : xCi (d + 3) m_Table_has [.ref t, .int x] D P := by
  refine xCi_of y_Table_has (Nat.le_of_ble_eq_true rfl) (s_Table_has_0 hR.1 ⟨fun c => ⟨_, rfl, ?_⟩, fun c => ?_⟩)
  · rw [if_pos c] at h; exact h
  · rw [if_neg c] at h
    refine c_Table_people hR hT ⟨fun c1 => ⟨_, rfl, ?_⟩, fun c1 => ⟨_, rfl, ?_⟩⟩
    · rw [if_pos c1] at h; exact h
    · rw [if_neg c1] at h; exact h
theorem c_Table_hasKind {P : Int32 → xD → Prop} {x : Int32} (hR : tR D t τ) (hT : tOK τ) (h : P (if x < 0 then 0 else if nI (tN τ 0) ≤ x then 0 else 1) D) : xCi (d + 3) m_Table_hasKind [.ref t, .int x] D P := by
  refine xCi_of y_Table_hasKind (Nat.le_of_ble_eq_true rfl) (s_Table_hasKind_0 hR.1 ⟨fun c => ⟨_, rfl, ?_⟩, fun c => ?_⟩)
  · rw [if_pos c] at h; exact h
  · rw [if_neg c] at h
    refine c_Table_kinds hR hT ⟨fun c1 => ⟨_, rfl, ?_⟩, fun c1 => ⟨_, rfl, ?_⟩⟩
    · rw [if_pos c1] at h; exact h
    · rw [if_neg c1] at h; exact h
theorem c_Table_goesInto {P : Int32 → xD → Prop} {p w n : Nat} (hR : tR D t τ) (hT : tOK τ) (hp : p < tN τ 5) (hw : w < 2) (hn : n < 2 ^ 31) (h : P (if n % tP τ p w = 0 then 1 else 0) D) : xCi (d + 3) m_Table_goesInto [.ref t, .int (nI p), .int (nI w), .int (nI n)] D P := by
  obtain ⟨q1, q2, q3, -⟩ := hT.2.2.2.2.2.2.2 p hp
  have hv := q1 w (by omega) (by omega)
  have hb : 1 ≤ tP τ p w ∧ tP τ p w ≤ 9 := by rcases (show w = 0 ∨ w = 1 by omega) with rfl | rfl <;> assumption
  refine xCi_of y_Table_goesInto (Nat.le_of_ble_eq_true rfl) (s_Table_goesInto_0 hR.1 ?_)
  refine c_Table_of hR hT.2.2.2.2.2.2.1 hp (by omega) ?_
  rw [hv]
  refine ⟨fun c => absurd c (nI_nle (by omega) (by omega)), fun c => ⟨nI_ne0 (by omega) (by omega), ?_⟩⟩
  rw [pk_rem hn (by omega) (by omega)]
  have hm : n % tP τ p w < tP τ p w := Nat.mod_lt _ (by omega)
  refine ⟨fun c1 => ⟨_, rfl, ?_⟩, fun c1 => ⟨_, rfl, ?_⟩⟩
  · rw [if_neg (fun q => c1 (by rw [q]; rfl))] at h; exact h
  · rw [if_pos (by
      apply Decidable.byContradiction
      intro q
      exact nI_ne0 (by omega) (by omega) c1)] at h; exact h
theorem c_Table_waitOf {P : Int32 → xD → Prop} {p n : Nat} (hR : tR D t τ) (hT : tOK τ) (hp : p < tN τ 5) (hn : n < 2 ^ 31) (h : P (nI (tWait τ p n)) D) : xCi (d + 3) m_Table_waitOf [.ref t, .int (nI p), .int (nI n)] D P := by
  obtain ⟨q1, -, q3, q4, q5, -⟩ := hT.2.2.2.2.2.2.2 p hp
  have h6 := hT.2.2.2.2.2.2.1
  refine xCi_of y_Table_waitOf (Nat.le_of_ble_eq_true rfl) (s_Table_waitOf_0 hR.1 ?_)
  refine c_Table_of (w := 1) hR h6 hp (by omega) ?_
  rw [q1 1 (by omega) (by omega)]
  refine ⟨fun c => absurd c (nI_nle (by omega) (by omega)), fun c => ⟨nI_ne0 (by omega) (by omega), ?_⟩⟩
  refine c_Table_of (w := 2) hR h6 hp (by omega) ?_
  refine c_Table_of (w := 3) hR h6 hp (by omega) ⟨_, rfl, ?_⟩
  have hm : n % tP τ p 1 < tP τ p 1 := Nat.mod_lt _ (by omega)
  rw [q1 2 (by omega) (by omega), q1 3 (by omega) (by omega), pk_rem hn (by omega) (by omega), pk_sub (by omega), nI_add, nI_add]
  exact h
theorem c_Table_spoonOf {P : Int32 → xD → Prop} {p f n : Nat} (hR : tR D t τ) (hT : tOK τ) (hp : p < tN τ 5) (hf : f < 2 ^ 31) (hn : n < 2 ^ 31) (h : P (nI (tSpoon τ p f n)) D) : xCi (d + 4) m_Table_spoonOf [.ref t, .int (nI p), .int (nI f), .int (nI n)] D P := by
  obtain ⟨q1, -, q3, q4, q5, -⟩ := hT.2.2.2.2.2.2.2 p hp
  have h6 := hT.2.2.2.2.2.2.1
  refine xCi_of y_Table_spoonOf (Nat.le_of_ble_eq_true rfl) (s_Table_spoonOf_0 hR.1 ⟨fun c => ?_, fun c => ?_⟩)
  · refine c_Table_waitOf hR hT hp hn ⟨_, rfl, ?_⟩
    rw [nI_add]
    unfold tSpoon at h
    rw [if_neg (fun q => c (by rw [q]))] at h
    exact h
  · refine c_Table_of (w := 2) hR h6 hp (by omega) ?_
    refine c_Table_of (w := 3) hR h6 hp (by omega) ⟨_, rfl, ?_⟩
    rw [q1 2 (by omega) (by omega), q1 3 (by omega) (by omega), nI_add, nI_add]
    unfold tSpoon at h
    rw [if_pos ((nI_eq (by omega) hf).mp c)] at h
    exact h
theorem tSpoon_lt (hT : tOK τ) {p f n : Nat} (hp : p < tN τ 5) : tSpoon τ p f n ≤ n + 38 := by
  obtain ⟨q1, -, q3, q4, q5, -⟩ := hT.2.2.2.2.2.2.2 p hp
  unfold tSpoon tWait
  split <;> omega
theorem c_Table_lastOf {P : Int32 → xD → Prop} {f n : Nat} (hR : tR D t τ) (hT : tOK τ) (hf : f < 2 ^ 31) (hn : n < 2 ^ 30) (h0 : 0 < tN τ 5) (h : P (nI (tLast τ f n (tN τ 5))) D) : xCi (d + 5) m_Table_lastOf [.ref t, .int (nI f), .int (nI n)] D P := by
  refine xCi_of y_Table_lastOf (Nat.le_of_ble_eq_true rfl) (s_Table_lastOf_0 hR.1 ?_)
  have h6 := hT.2.2.2.2.2.2.1
  have key : ∀ k j, j + k = tN τ 5 → 0 < j → xPf (d + 5) m_Table_lastOf 8 [(0, .ref t), (1, .int (nI f)), (2, .int (nI n)), (3, .int (nI (tLast τ f n j))), (4, .int (nI (tSpoon τ (tLast τ f n j) f n))), (5, .int (nI j))] [] D (fun r D' => ∃ x, r = some (.int x) ∧ P x D') := by
    intro k
    induction k with
    | zero =>
      intro j hj hj0
      refine s_Table_lastOf_8 hR.1 (c_Table_people hR hT ⟨fun c => ⟨_, rfl, ?_⟩, fun c => absurd (nI_le (by omega) (by omega)) c⟩)
      rw [show j = tN τ 5 by omega]; exact h
    | succ k ih =>
      intro j hj hj0
      have hl := tLast_lt τ f n j hj0
      have b1 := tSpoon_lt hT (f := f) (n := n) (p := j) (by omega)
      have b2 := tSpoon_lt hT (f := f) (n := n) (p := tLast τ f n j) (by omega)
      refine s_Table_lastOf_8 hR.1 (c_Table_people hR hT ⟨fun c => absurd c (nI_ge (by omega) (by omega)), fun c => ?_⟩)
      refine c_Table_spoonOf hR hT (by omega) hf (by omega) ⟨fun c1 => ?_, fun c1 => ⟨fun c2 => ?_, fun c2 => ?_⟩⟩
      · exact absurd c1 (fun q => nI_pos (n := tLast τ f n j) (by omega) (by rw [q]; decide))
      · have hlt := (nI_ltI (by omega) (by omega)).mp c2
        have := ih (j + 1) (by omega) (by omega)
        have e : tLast τ f n (j + 1) = tLast τ f n j := by rw [tLast, if_neg (by omega), if_pos hlt]
        rw [e] at this
        rw [nI_1]; exact this
      · have hlt : ¬ tSpoon τ j f n < tSpoon τ (tLast τ f n j) f n := fun q => c2 ((nI_ltI (by omega) (by omega)).mpr q)
        have := ih (j + 1) (by omega) (by omega)
        have e : tLast τ f n (j + 1) = j := by rw [tLast, if_neg (by omega), if_neg hlt]
        rw [e] at this
        rw [nI_1]; exact this
  refine s_Table_lastOf_8 hR.1 (c_Table_people hR hT ⟨fun c => absurd c (nI_ge (a := 0) (by omega) (by omega)), fun c => ?_⟩)
  refine c_Table_spoonOf (p := 0) hR hT (by omega) hf (by omega) ⟨fun _ => ?_, fun c1 => absurd rfl c1⟩
  have := key (tN τ 5 - 1) 1 (by omega) (by omega)
  have e : tLast τ f n 1 = 0 := by rw [tLast, if_pos rfl]
  rw [e] at this
  exact this
end TABLE
