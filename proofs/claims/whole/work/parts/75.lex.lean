/-! Tokens of a text, and how the Reader steps from one to the next. -/
def inT (t : Nat × (Nat → Nat)) (p : Nat → Bool) (i : Nat) : Bool := decide (i < t.1) && p (t.2 i)
def run (f : Nat → Bool) : Nat → Nat → Nat
  | 0, i => i
  | k + 1, i => if f i = true then run f k (i + 1) else i
/-- the first place from i on that is not of a sort -/
def runT (t : Nat × (Nat → Nat)) (p : Nat → Bool) (i : Nat) : Nat := run (inT t p) (t.1 - i) i
theorem inT_lt {t : Nat × (Nat → Nat)} {p : Nat → Bool} {i : Nat} (h : inT t p i = true) : i < t.1 ∧ p (t.2 i) = true := by
  unfold inT at h
  rw [Bool.and_eq_true] at h
  exact ⟨of_decide_eq_true h.1, h.2⟩
theorem inT_t {t : Nat × (Nat → Nat)} {p : Nat → Bool} {i : Nat} (h1 : i < t.1) (h2 : p (t.2 i) = true) : inT t p i = true := by
  unfold inT
  rw [decide_eq_true h1, h2]; rfl
theorem inT_f {t : Nat × (Nat → Nat)} {p : Nat → Bool} {i : Nat} (h : ¬ i < t.1 ∨ p (t.2 i) = false) : inT t p i = false := by
  unfold inT
  rcases h with h | h
  · rw [decide_eq_false h]; rfl
  · rw [h, Bool.and_false]
theorem runT_s {t : Nat × (Nat → Nat)} {p : Nat → Bool} {i : Nat} (h : inT t p i = true) : runT t p i = runT t p (i + 1) := by
  have := (inT_lt h).1
  unfold runT
  rw [show t.1 - i = t.1 - (i + 1) + 1 by omega, run, if_pos h]
theorem runT_f {t : Nat × (Nat → Nat)} {p : Nat → Bool} {i : Nat} (h : inT t p i = false) : runT t p i = i := by
  unfold runT
  cases t.1 - i with
  | zero => rfl
  | succ k => rw [run, if_neg (by rw [h]; exact Bool.false_ne_true)]
theorem runT_ok (t : Nat × (Nat → Nat)) (p : Nat → Bool) : ∀ k i, t.1 - i = k → i ≤ runT t p i ∧ (i ≤ t.1 → runT t p i ≤ t.1) ∧ inT t p (runT t p i) = false ∧ ∀ j, i ≤ j → j < runT t p i → inT t p j = true := by
  intro k
  induction k with
  | zero =>
    intro i hi
    have h : inT t p i = false := inT_f (Or.inl (by omega))
    rw [runT_f h]
    exact ⟨Nat.le_refl _, fun h => h, h, fun j h1 h2 => by omega⟩
  | succ k ih =>
    intro i hi
    cases h : inT t p i with
    | false =>
      rw [runT_f h]
      exact ⟨Nat.le_refl _, fun h => h, h, fun j h1 h2 => by omega⟩
    | true =>
      obtain ⟨a, b, c, d⟩ := ih (i + 1) (by omega)
      rw [runT_s h]
      refine ⟨by omega, fun q => b (by omega), c, fun j h1 h2 => ?_⟩
      by_cases e : j = i
      · rw [e]; exact h
      · exact d j (by omega) h2
theorem runT_ge (t : Nat × (Nat → Nat)) (p : Nat → Bool) (i : Nat) : i ≤ runT t p i := (runT_ok t p _ i rfl).1
theorem runT_le {t : Nat × (Nat → Nat)} {p : Nat → Bool} {i : Nat} (h : i ≤ t.1) : runT t p i ≤ t.1 := (runT_ok t p _ i rfl).2.1 h
theorem runT_end (t : Nat × (Nat → Nat)) (p : Nat → Bool) (i : Nat) : inT t p (runT t p i) = false := (runT_ok t p _ i rfl).2.2.1
theorem runT_all {t : Nat × (Nat → Nat)} {p : Nat → Bool} {i j : Nat} (h1 : i ≤ j) (h2 : j < runT t p i) : inT t p j = true := (runT_ok t p _ i rfl).2.2.2 j h1 h2
def isBl (c : Nat) : Bool := decide (c = 10) || decide (c = 32)
def isLt (c : Nat) : Bool := decide (97 ≤ c) && decide (c ≤ 122)
def isDg (c : Nat) : Bool := decide (48 ≤ c) && decide (c ≤ 57)
theorem isLt_t {c : Nat} : isLt c = true ↔ 97 ≤ c ∧ c ≤ 122 := by unfold isLt; rw [Bool.and_eq_true, decide_eq_true_iff, decide_eq_true_iff]
theorem isDg_t {c : Nat} : isDg c = true ↔ 48 ≤ c ∧ c ≤ 57 := by unfold isDg; rw [Bool.and_eq_true, decide_eq_true_iff, decide_eq_true_iff]
theorem isBl_t {c : Nat} : isBl c = true ↔ c = 10 ∨ c = 32 := by unfold isBl; rw [Bool.or_eq_true, decide_eq_true_iff, decide_eq_true_iff]
/-- where the token begins that is stepped to from p on; of what sort it is; where one steps from next. 0 WORD, 1 NUMBER, 2 SEMICOLON, 3 END, 4 none of them -/
def tS (t : Nat × (Nat → Nat)) (p : Nat) : Nat := runT t isBl p
def tK (t : Nat × (Nat → Nat)) (p : Nat) : Nat :=
  if t.1 ≤ tS t p then 3 else if isLt (t.2 (tS t p)) = true then 0 else if isDg (t.2 (tS t p)) = true then (if runT t isDg (tS t p) - tS t p ≤ 2 then 1 else 4) else if t.2 (tS t p) = 59 then 2 else 4
def tE (t : Nat × (Nat → Nat)) (p : Nat) : Nat :=
  if t.1 ≤ tS t p then tS t p else if isLt (t.2 (tS t p)) = true then runT t isLt (tS t p) else if isDg (t.2 (tS t p)) = true then runT t isDg (tS t p) else tS t p + 1
theorem tS_ge (t : Nat × (Nat → Nat)) (p : Nat) : p ≤ tS t p := runT_ge _ _ _
theorem tS_le {t : Nat × (Nat → Nat)} {p : Nat} (h : p ≤ t.1) : tS t p ≤ t.1 := runT_le h
theorem tE_le {t : Nat × (Nat → Nat)} {p : Nat} (h : p ≤ t.1) : tE t p ≤ t.1 := by
  have h1 := tS_le h
  unfold tE
  split
  · exact h1
  · split
    · exact runT_le h1
    · split
      · exact runT_le h1
      · omega
theorem tE_ge (t : Nat × (Nat → Nat)) (p : Nat) : tS t p ≤ tE t p := by
  unfold tE
  split
  · exact Nat.le_refl _
  · split
    · exact runT_ge _ _ _
    · split
      · exact runT_ge _ _ _
      · omega
theorem tK_3 {t : Nat × (Nat → Nat)} {p : Nat} : tK t p = 3 ↔ t.1 ≤ tS t p := by
  unfold tK
  constructor
  · intro h
    split at h
    · assumption
    · split at h
      · cases h
      · split at h
        · split at h <;> cases h
        · split at h <;> cases h
  · intro h
    rw [if_pos h]
theorem tE_gt {t : Nat × (Nat → Nat)} {p : Nat} (h : tK t p ≠ 3) : tS t p < tE t p := by
  have h1 : ¬ t.1 ≤ tS t p := fun q => h (tK_3.mpr q)
  unfold tE
  rw [if_neg h1]
  split
  · rename_i hl
    rw [runT_s (inT_t (by omega) hl)]
    exact runT_ge _ _ _
  · split
    · rename_i hd
      rw [runT_s (inT_t (by omega) hd)]
      exact runT_ge _ _ _
    · omega
theorem tK_lt (t : Nat × (Nat → Nat)) (p : Nat) : tK t p ≤ 4 := by
  unfold tK
  split
  · omega
  · split
    · omega
    · split
      · split <;> omega
      · split <;> omega
/-- the Reader at a has the tape -/
def rdT (D : xD) (a : Nat) (t : Nat × (Nat → Nat)) : Prop := xk a = 6 ∧ rS D (a + 1) t.1 ∧ t.1 ≤ 600 ∧ ∀ j, j < t.1 → D.1 (a + 2) j = nI (t.2 j) ∧ t.2 j < 256
theorem rdT.out {D D' : xD} {lo hi a : Nat} {t : Nat × (Nat → Nat)} (h : rdT D a t) (o : xOut lo hi D D') (q : hi ≤ a + 1 ∨ a + 3 ≤ lo) : rdT D' a t :=
  ⟨h.1, h.2.1.out o (by omega), h.2.2.1, fun j hj => by rw [o.1 _ (by omega)]; exact h.2.2.2 j hj⟩
section LEX
variable {d : Nat} {D : xD} {a : Nat} {t : Nat × (Nat → Nat)}
theorem rd_get {P : Int32 → xD → Prop} {i : Nat} (hR : rdT D a t) (hi : i < t.1) (h : P (nI (t.2 i)) D) : xCi (d + 1) m_Row_get [.ref (a + 1), .int (nI i)] D P := by
  refine c_get hR.2.1 hi ?_
  rw [show a + 1 + 1 = a + 2 by omega, (hR.2.2.2 i hi).1]; exact h
theorem c_isBlank {P : Int32 → xD → Prop} {c : Nat} (hc : c < 256) (h1 : isBl c = true → P 1 D) (h0 : isBl c = false → P 0 D) : xCi (d + 1) m_Reader_isBlank [.int (nI c)] D P := by
  refine xCi_of y_Reader_isBlank (Nat.le_of_ble_eq_true rfl) (s_Reader_isBlank_0 ⟨fun q => ⟨_, rfl, h1 (isBl_t.mpr (Or.inl ((nI_eq (b := 10) (by omega) (by omega)).mp q)))⟩, fun q => ⟨fun q2 => ⟨_, rfl, h0 ?_⟩, fun q2 => ⟨_, rfl, h1 (isBl_t.mpr (Or.inr ((nI_eq (b := 32) (by omega) (by omega)).mp q2)))⟩⟩⟩)
  cases hb : isBl c with
  | false => rfl
  | true =>
    rcases isBl_t.mp hb with z | z
    · exact absurd (by rw [z]; rfl) q
    · exact absurd (by rw [z]; rfl) q2
theorem c_isLetter {P : Int32 → xD → Prop} {c : Nat} (hc : c < 256) (h1 : isLt c = true → P 1 D) (h0 : isLt c = false → P 0 D) : xCi (d + 1) m_Reader_isLetter [.int (nI c)] D P := by
  have no : ¬ (97 ≤ c ∧ c ≤ 122) → isLt c = false := fun q => by
    cases hb : isLt c with
    | false => rfl
    | true => exact absurd (isLt_t.mp hb) q
  refine xCi_of y_Reader_isLetter (Nat.le_of_ble_eq_true rfl) (s_Reader_isLetter_0 ⟨fun q => ⟨_, rfl, h0 (no ?_)⟩, fun q => ⟨fun q2 => ⟨_, rfl, h0 (no ?_)⟩, fun q2 => ⟨_, rfl, h1 (isLt_t.mpr ⟨?_, ?_⟩)⟩⟩⟩)
  · have := (nI_ltI (b := 97) (by omega) (by omega)).mp q; omega
  · have := (nI_ltI (a := 122) (by omega) (by omega)).mp q2; omega
  · exact Nat.le_of_not_lt (fun z => q (nI_lt (b := 97) z (by omega)))
  · exact Nat.le_of_not_lt (fun z => q2 (nI_lt (a := 122) z (by omega)))
theorem c_isDigit {P : Int32 → xD → Prop} {c : Nat} (hc : c < 256) (h1 : isDg c = true → P 1 D) (h0 : isDg c = false → P 0 D) : xCi (d + 1) m_Reader_isDigit [.int (nI c)] D P := by
  have no : ¬ (48 ≤ c ∧ c ≤ 57) → isDg c = false := fun q => by
    cases hb : isDg c with
    | false => rfl
    | true => exact absurd (isDg_t.mp hb) q
  refine xCi_of y_Reader_isDigit (Nat.le_of_ble_eq_true rfl) (s_Reader_isDigit_0 ⟨fun q => ⟨_, rfl, h0 (no ?_)⟩, fun q => ⟨fun q2 => ⟨_, rfl, h0 (no ?_)⟩, fun q2 => ⟨_, rfl, h1 (isDg_t.mpr ⟨?_, ?_⟩)⟩⟩⟩)
  · have := (nI_ltI (b := 48) (by omega) (by omega)).mp q; omega
  · have := (nI_ltI (a := 57) (by omega) (by omega)).mp q2; omega
  · exact Nat.le_of_not_lt (fun z => q (nI_lt (b := 48) z (by omega)))
  · exact Nat.le_of_not_lt (fun z => q2 (nI_lt (a := 57) z (by omega)))
theorem c_endOfLetters {P : Int32 → xD → Prop} {i : Nat} (hR : rdT D a t) (hi : i ≤ t.1) (h : P (nI (runT t isLt i)) D) : xCi (d + 2) m_Reader_endOfLetters [.ref a, .int (nI i)] D P := by
  have hn := hR.2.2.1
  refine xCi_of y_Reader_endOfLetters (Nat.le_of_ble_eq_true rfl) (s_Reader_endOfLetters_0 hR.1 ?_)
  have key : ∀ m j, j + m = t.1 → runT t isLt j = runT t isLt i → xPf (d + 2) m_Reader_endOfLetters 2 [(0, .ref a), (1, .int (nI i)), (2, .int (nI j))] [] D (fun r D' => ∃ x, r = some (.int x) ∧ P x D') := by
    intro m
    induction m with
    | zero =>
      intro j hj e
      refine s_Reader_endOfLetters_2 hR.1 (c_Row_size hR.2.1 ⟨fun _ => ⟨_, rfl, ?_⟩, fun q => absurd (nI_le (by omega) (by omega)) q⟩)
      rw [← e, runT_f (inT_f (Or.inl (by omega)))] at h; exact h
    | succ m ih =>
      intro j hj e
      refine s_Reader_endOfLetters_2 hR.1 (c_Row_size hR.2.1 ⟨fun q => absurd q (nI_ge (by omega) (by omega)), fun _ => rd_get hR (by omega) (c_isLetter (hR.2.2.2 j (by omega)).2 (fun q => z1 ?_) (fun q => z0 ⟨_, rfl, ?_⟩))⟩)
      · rw [nI_1 j]
        exact ih (j + 1) (by omega) (by rw [← runT_s (inT_t (by omega) q)]; exact e)
      · rw [← e, runT_f (inT_f (Or.inr q))] at h; exact h
  exact key (t.1 - i) i (by omega) rfl
theorem c_endOfDigits {P : Int32 → xD → Prop} {i : Nat} (hR : rdT D a t) (hi : i ≤ t.1) (h : P (nI (runT t isDg i)) D) : xCi (d + 2) m_Reader_endOfDigits [.ref a, .int (nI i)] D P := by
  have hn := hR.2.2.1
  refine xCi_of y_Reader_endOfDigits (Nat.le_of_ble_eq_true rfl) (s_Reader_endOfDigits_0 hR.1 ?_)
  have key : ∀ m j, j + m = t.1 → runT t isDg j = runT t isDg i → xPf (d + 2) m_Reader_endOfDigits 2 [(0, .ref a), (1, .int (nI i)), (2, .int (nI j))] [] D (fun r D' => ∃ x, r = some (.int x) ∧ P x D') := by
    intro m
    induction m with
    | zero =>
      intro j hj e
      refine s_Reader_endOfDigits_2 hR.1 (c_Row_size hR.2.1 ⟨fun _ => ⟨_, rfl, ?_⟩, fun q => absurd (nI_le (by omega) (by omega)) q⟩)
      rw [← e, runT_f (inT_f (Or.inl (by omega)))] at h; exact h
    | succ m ih =>
      intro j hj e
      refine s_Reader_endOfDigits_2 hR.1 (c_Row_size hR.2.1 ⟨fun q => absurd q (nI_ge (by omega) (by omega)), fun _ => rd_get hR (by omega) (c_isDigit (hR.2.2.2 j (by omega)).2 (fun q => z1 ?_) (fun q => z0 ⟨_, rfl, ?_⟩))⟩)
      · rw [nI_1 j]
        exact ih (j + 1) (by omega) (by rw [← runT_s (inT_t (by omega) q)]; exact e)
      · rw [← e, runT_f (inT_f (Or.inr q))] at h; exact h
  exact key (t.1 - i) i (by omega) rfl
/-- one field is written -/
theorem fld {D1 : xD} {k : Nat} {v : Int32} (e : D1 = (xu D.1 a k v, D.2)) : xOut a (a + 1) D D1 ∧ ∀ j, D1.1 a j = if j = k then v else D.1 a j := by
  subst e
  exact ⟨xOut_f D a k v, fun j => by show xu D.1 a k v a j = _; rw [xu_self]; rfl⟩
theorem step_block {P : xD → Prop} {i : Nat} (hR : rdT D a t) (hi : i ≤ t.1) (hb : inT t isBl i = false)
    (h : ∀ D', xOut a (a + 1) D D' → D'.1 a 4 = nI (tK t i) → D'.1 a 5 = nI (tS t i) → D'.1 a 6 = nI (tE t i) → (∀ j, 6 < j → D'.1 a j = D.1 a j) → P D') :
    ∀ D3 : xD, D3 = (xu D.1 a 5 (nI i), D.2) → xCi (d + 3) m_Row_size [.ref (a + 1)] D3 (fun r5 D4 => ((nI i) < r5 → xCi (d + 3) m_Row_get [.ref (a + 1), .int (nI i)] D4 (fun r7 D6 => xCi (d + 3) m_Reader_isLetter [.int r7] D6 (fun r9 D8 => (r9 = 0 → xCi (d + 3) m_Row_get [.ref (a + 1), .int (nI i)] D8 (fun r11 D10 => xCi (d + 3) m_Reader_isDigit [.int r11] D10 (fun r13 D12 => (r13 = 0 → ∀ D14 : xD, D14 = (xu D12.1 a 6 ((nI i) + (1 : Int32)), D12.2) → xCi (d + 3) m_Row_get [.ref (a + 1), .int (nI i)] D14 (fun r16 D15 => (¬ r16 = (59 : Int32) → ∀ D17 : xD, D17 = (xu D15.1 a 4 (4 : Int32), D15.2) → ((none : Option Value) = none ∧ P D17)) ∧ (r16 = (59 : Int32) → ∀ D18 : xD, D18 = (xu D15.1 a 4 (2 : Int32), D15.2) → ((none : Option Value) = none ∧ P D18)))) ∧ (¬ r13 = 0 → xCi (d + 3) m_Reader_endOfDigits [.ref a, .int (nI i)] D12 (fun r20 D19 => ∀ D21 : xD, D21 = (xu D19.1 a 6 r20, D19.2) → (((D21.1 a 6) - (D21.1 a 5)) ≤ (2 : Int32) → ∀ D22 : xD, D22 = (xu D21.1 a 4 (1 : Int32), D21.2) → ((none : Option Value) = none ∧ P D22)) ∧ (¬ ((D21.1 a 6) - (D21.1 a 5)) ≤ (2 : Int32) → ∀ D23 : xD, D23 = (xu D21.1 a 4 (4 : Int32), D21.2) → ((none : Option Value) = none ∧ P D23))))))) ∧ (¬ r9 = 0 → xCi (d + 3) m_Reader_endOfLetters [.ref a, .int (nI i)] D8 (fun r25 D24 => ∀ D26 : xD, D26 = (xu D24.1 a 6 r25, D24.2) → ∀ D27 : xD, D27 = (xu D26.1 a 4 (0 : Int32), D26.2) → ((none : Option Value) = none ∧ P D27)))))) ∧ (¬ (nI i) < r5 → ∀ D28 : xD, D28 = (xu D4.1 a 6 (nI i), D4.2) → ∀ D29 : xD, D29 = (xu D28.1 a 4 (3 : Int32), D28.2) → ((none : Option Value) = none ∧ P D29))) := by
  have hn := hR.2.2.1
  have eS : tS t i = i := runT_f hb
  unfold tK tE at h
  rw [eS] at h
  intro D3 e3
  obtain ⟨o3, f3⟩ := fld e3
  clear e3
  have hR3 := hR.out o3 (by omega)
  refine c_Row_size hR3.2.1 ⟨fun q => ?_, fun q => ?_⟩
  · have hlt := (nI_ltI (by omega) (by omega)).mp q
    have h256 := (hR.2.2.2 i hlt).2
    have nle : ¬ t.1 ≤ i := by omega
    rw [if_neg nle, if_neg nle] at h
    refine rd_get hR3 hlt (c_isLetter h256 (fun y => z1 ?_) (fun y => z0 ?_))
    · rw [if_pos y, if_pos y] at h
      refine c_endOfLetters hR3 (by omega) (fun D5 e5 D6 e6 => ?_)
      obtain ⟨o5, f5⟩ := fld e5
      obtain ⟨o6, f6⟩ := fld e6
      refine ⟨rfl, h D6 (o3.trans (o5.trans o6)) ?_ ?_ ?_ (fun j hj => ?_)⟩
      · rw [f6, if_pos rfl]; rfl
      · rw [f6, if_neg (by omega), f5, if_neg (by omega), f3, if_pos rfl]
      · rw [f6, if_neg (by omega), f5, if_pos rfl]
      · rw [f6, if_neg (by omega), f5, if_neg (by omega), f3, if_neg (by omega)]
    · have ny : ¬ isLt (t.2 i) = true := by rw [y]; exact Bool.false_ne_true
      rw [if_neg ny, if_neg ny] at h
      refine rd_get hR3 hlt (c_isDigit h256 (fun w => z1 ?_) (fun w => z0 (fun D5 e5 => ?_)))
      · rw [if_pos w, if_pos w] at h
        refine c_endOfDigits hR3 (by omega) (fun D5 e5 => ?_)
        obtain ⟨o5, f5⟩ := fld e5
        have hge := runT_ge t isDg i
        have hle := runT_le (t := t) (p := isDg) hi
        rw [f5 6, if_pos rfl, f5 5, if_neg (by omega), f3 5, if_pos rfl, pk_sub hge]
        refine ⟨fun z D6 e6 => ?_, fun z D6 e6 => ?_⟩
        · obtain ⟨o6, f6⟩ := fld e6
          rw [if_pos ((nI_leI (b := 2) (by omega) (by omega)).mp z)] at h
          refine ⟨rfl, h D6 (o3.trans (o5.trans o6)) ?_ ?_ ?_ (fun j hj => ?_)⟩
          · rw [f6, if_pos rfl]; rfl
          · rw [f6, if_neg (by omega), f5, if_neg (by omega), f3, if_pos rfl]
          · rw [f6, if_neg (by omega), f5, if_pos rfl]
          · rw [f6, if_neg (by omega), f5, if_neg (by omega), f3, if_neg (by omega)]
        · obtain ⟨o6, f6⟩ := fld e6
          rw [if_neg (fun v => z (nI_le (b := 2) v (by omega)))] at h
          refine ⟨rfl, h D6 (o3.trans (o5.trans o6)) ?_ ?_ ?_ (fun j hj => ?_)⟩
          · rw [f6, if_pos rfl]; rfl
          · rw [f6, if_neg (by omega), f5, if_neg (by omega), f3, if_pos rfl]
          · rw [f6, if_neg (by omega), f5, if_pos rfl]
          · rw [f6, if_neg (by omega), f5, if_neg (by omega), f3, if_neg (by omega)]
      · obtain ⟨o5, f5⟩ := fld e5
        have nw : ¬ isDg (t.2 i) = true := by rw [w]; exact Bool.false_ne_true
        rw [if_neg nw, if_neg nw] at h
        have hR5 := hR3.out o5 (by omega)
        refine rd_get hR5 hlt ⟨fun z D6 e6 => ?_, fun z D6 e6 => ?_⟩
        · obtain ⟨o6, f6⟩ := fld e6
          rw [if_neg (fun v => z (by rw [v]; rfl))] at h
          refine ⟨rfl, h D6 (o3.trans (o5.trans o6)) ?_ ?_ ?_ (fun j hj => ?_)⟩
          · rw [f6, if_pos rfl]; rfl
          · rw [f6, if_neg (by omega), f5, if_neg (by omega), f3, if_pos rfl]
          · rw [f6, if_neg (by omega), f5, if_pos rfl, nI_1]
          · rw [f6, if_neg (by omega), f5, if_neg (by omega), f3, if_neg (by omega)]
        · obtain ⟨o6, f6⟩ := fld e6
          rw [if_pos ((nI_eq (b := 59) (by omega) (by omega)).mp z)] at h
          refine ⟨rfl, h D6 (o3.trans (o5.trans o6)) ?_ ?_ ?_ (fun j hj => ?_)⟩
          · rw [f6, if_pos rfl]; rfl
          · rw [f6, if_neg (by omega), f5, if_neg (by omega), f3, if_pos rfl]
          · rw [f6, if_neg (by omega), f5, if_pos rfl, nI_1]
          · rw [f6, if_neg (by omega), f5, if_neg (by omega), f3, if_neg (by omega)]
  · have hge : t.1 ≤ i := Nat.le_of_not_lt (fun z => q (nI_lt z (by omega)))
    rw [if_pos hge, if_pos hge] at h
    intro D5 e5 D6 e6
    obtain ⟨o5, f5⟩ := fld e5
    obtain ⟨o6, f6⟩ := fld e6
    refine ⟨rfl, h D6 (o3.trans (o5.trans o6)) ?_ ?_ ?_ (fun j hj => ?_)⟩
    · rw [f6, if_pos rfl]; rfl
    · rw [f6, if_neg (by omega), f5, if_neg (by omega), f3, if_pos rfl]
    · rw [f6, if_neg (by omega), f5, if_pos rfl]
    · rw [f6, if_neg (by omega), f5, if_neg (by omega), f3, if_neg (by omega)]
theorem c_step {P : xD → Prop} {p : Nat} (hR : rdT D a t) (h6 : D.1 a 6 = nI p) (hp : p ≤ t.1)
    (h : ∀ D', xOut a (a + 1) D D' → D'.1 a 4 = nI (tK t p) → D'.1 a 5 = nI (tS t p) → D'.1 a 6 = nI (tE t p) → (∀ j, 6 < j → D'.1 a j = D.1 a j) → P D') : xCv (d + 4) m_Reader_step [.ref a] D P := by
  have hn := hR.2.2.1
  refine xCv_of y_Reader_step (Nat.le_of_ble_eq_true rfl) (s_Reader_step_0 hR.1 ?_)
  rw [h6]
  have key : ∀ m i, i + m = t.1 → tS t i = tS t p → xPf (d + 4) m_Reader_step 5 [(0, .ref a), (1, .int (nI i))] [] D (fun r D' => r = none ∧ P D') := by
    intro m
    induction m with
    | zero =>
      intro i hi e
      have hb : inT t isBl i = false := inT_f (Or.inl (by omega))
      have blk := step_block (d := d) (P := P) hR (by omega) hb (fun D' a1 a2 a3 a4 a5 => h D' a1 (by unfold tK at a2 ⊢; rw [← e]; exact a2) (by rw [← e]; exact a3) (by unfold tE at a4 ⊢; rw [← e]; exact a4) a5)
      exact s_Reader_step_5 hR.1 (c_Row_size hR.2.1 ⟨fun _ => blk, fun q => absurd (nI_le (by omega) (by omega)) q⟩)
    | succ m ih =>
      intro i hi e
      refine s_Reader_step_5 hR.1 (c_Row_size hR.2.1 ⟨fun q => absurd q (nI_ge (by omega) (by omega)), fun _ => rd_get hR (by omega) (c_isBlank (hR.2.2.2 i (by omega)).2 (fun q => z1 ?_) (fun q => z0 ?_))⟩)
      · rw [nI_1 i]
        refine ih (i + 1) (by omega) ?_
        rw [← e]
        exact (runT_s (inT_t (by omega) q)).symm
      · have hb : inT t isBl i = false := inT_f (Or.inr q)
        exact step_block (d := d) (P := P) hR (by omega) hb (fun D' a1 a2 a3 a4 a5 => h D' a1 (by unfold tK at a2 ⊢; rw [← e]; exact a2) (by rw [← e]; exact a3) (by unfold tE at a4 ⊢; rw [← e]; exact a4) a5)
  exact key (t.1 - p) p (by omega) rfl
end LEX
