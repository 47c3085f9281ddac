/-! How often one looks, who is LAST then; who waits how long; who falls for a FEINT. -/
theorem tSet_tSet (τ : Nat → Int32) (j : Nat) (v w : Int32) : tSet (tSet τ j v) j w = tSet τ j w := by
  funext i
  rw [tSet_at, tSet_at, tSet_at]
  by_cases q : i = j
  · rw [if_pos q, if_pos q]
  · rw [if_neg q, if_neg q, if_neg q]
/-- at how many of the first n tenths p is LAST, if f is FIRST -/
def lkL (τ : Nat → Int32) (p f : Nat) : Nat → Nat
  | 0 => 0
  | n + 1 => lkL τ p f n + if tLast τ f n (tN τ 5) = p then 1 else 0
theorem lkL_le (τ : Nat → Int32) (p f : Nat) : ∀ n, lkL τ p f n ≤ n := by
  intro n
  induction n with
  | zero => exact Nat.le_refl _
  | succ n ih => rw [lkL]; split <;> omega
/-- the first of the least of f 1 .. f n -/
def ltF (f : Nat → Nat) : Nat → Option (Nat × Nat)
  | 0 => none
  | n + 1 => match ltF f n with
    | none => some (n + 1, f (n + 1))
    | some (b, v) => if f (n + 1) < v then some (n + 1, f (n + 1)) else some (b, v)
theorem ltF_ok {f : Nat → Nat} {b v : Nat} : ∀ {n : Nat}, ltF f n = some (b, v) → b ≤ n ∧ v = f b := by
  intro n
  induction n with
  | zero => intro h; cases h
  | succ n ih =>
    intro h
    rw [ltF] at h
    cases hr : ltF f n with
    | none => rw [hr] at h; cases h; exact ⟨Nat.le_refl _, rfl⟩
    | some q =>
      obtain ⟨b', v'⟩ := q
      rw [hr] at h
      have h : (if f (n + 1) < v' then some (n + 1, f (n + 1)) else some (b', v')) = some (b, v) := h
      split at h
      · cases h; exact ⟨Nat.le_refl _, rfl⟩
      · cases h; have := ih hr; exact ⟨by omega, this.2⟩
def lkE (τ : Nat → Int32) (p f e : Nat) : Nat := lkL (tSet τ (6 + 7 * p + 1) (nI e)) p f 60 + 60 / e
/-- all that one waits within 60 tenths -/
def lkW (τ : Nat → Int32) (p : Nat) : Nat := sm (tWait τ p) 60
def mxN (f : Nat → Nat) : Nat → Nat
  | 0 => 0
  | n + 1 => if mxN f n < f n then f n else mxN f n
theorem mxN_ge {f : Nat → Nat} {i : Nat} : ∀ {n : Nat}, i < n → f i ≤ mxN f n := by
  intro n
  induction n with
  | zero => intro h; omega
  | succ n ih =>
    intro h
    rw [mxN]
    by_cases q : i = n
    · subst q; split <;> omega
    · have := ih (by omega)
      split <;> omega
theorem mxN_le {f : Nat → Nat} {B : Nat} : ∀ {n : Nat}, (∀ i, i < n → f i ≤ B) → mxN f n ≤ B := by
  intro n
  induction n with
  | zero => intro _; exact Nat.zero_le _
  | succ n ih =>
    intro h
    have h1 := ih (fun i hi => h i (by omega))
    have h2 := h n (by omega)
    rw [mxN]; split <;> omega
def lkFar (τ : Nat → Int32) (p : Nat) : Nat := (mxN (lkW τ) (tN τ 5) - lkW τ p + 29) / 60
/-- whether one looks while the hand is out from a tenth on -/
def lkI (τ : Nat → Int32) (q a : Nat) : Bool := (List.range (tN τ 4 + 1)).any (fun i => decide ((a + i) % tP τ q 1 = 0))
theorem lkI_t {τ : Nat → Int32} {q a : Nat} : lkI τ q a = true ↔ ∃ i, i ≤ tN τ 4 ∧ (a + i) % tP τ q 1 = 0 := by
  unfold lkI
  rw [List.any_eq_true]
  constructor
  · rintro ⟨i, h1, h2⟩; have := List.mem_range.mp h1; exact ⟨i, by omega, of_decide_eq_true h2⟩
  · rintro ⟨i, h1, h2⟩; exact ⟨i, List.mem_range.mpr (by omega), decide_eq_true h2⟩
def tchB (τ : Nat → Int32) (p a q : Nat) : Bool := decide (q ≠ p) && (decide (tP τ q 6 = 1) && lkI τ q a)
/-- whom a FEINT gets -/
def tchS (τ : Nat → Int32) (p a : Nat) : Nat := bsN (tchB τ p a) (tN τ 5)
def onesN (n : Nat) : Nat := cnN (fun k => n.testBit k) 6
def lur (f : Nat → Nat) : Nat → Nat × Nat
  | 0 => (0, 0)
  | n + 1 => if (lur f n).2 < f n then (n, f n) else lur f n
theorem lur_le {f : Nat → Nat} {B : Nat} (h : ∀ i, f i ≤ B) : ∀ n, (lur f n).1 ≤ n ∧ (lur f n).2 ≤ B := by
  intro n
  induction n with
  | zero => exact ⟨Nat.le_refl _, Nat.zero_le _⟩
  | succ n ih =>
    rw [lur]
    split
    · exact ⟨by show n ≤ n + 1; omega, h n⟩
    · exact ⟨by omega, ih.2⟩
section LOOKS
variable {d : Nat} {D : xD} {t : Nat} {τ : Nat → Int32}
theorem c_Looks_lasts {P : Int32 → xD → Prop} {p f : Nat} (hR : tR D t τ) (hT : tOK τ) (h0 : 0 < tN τ 5) (hp : p < 2 ^ 31) (hf : f < 2 ^ 31) (fin : P (nI (lkL τ p f 60)) D) : xCi (d + 6) m_Looks_lasts [.ref t, .int (nI p), .int (nI f)] D P := by
  have b5 := hT.2.2.2.2.2.2.1
  refine xCi_of y_Looks_lasts (Nat.le_of_ble_eq_true rfl) (s_Looks_lasts_0 hR.1 ?_)
  have key : ∀ m i, i + m = 60 → xPf (d + 6) m_Looks_lasts 5 [(0, .ref t), (1, .int (nI p)), (2, .int (nI f)), (3, .int (nI (lkL τ p f i))), (4, .int (nI i))] [] D (fun r D' => ∃ x, r = some (.int x) ∧ P x D') := by
    intro m
    induction m with
    | zero =>
      intro i hi
      have ei : i = 60 := by omega
      subst ei
      exact s_Looks_lasts_5 hR.1 ⟨fun _ => ⟨_, rfl, fin⟩, fun q => absurd (nI_le (a := 60) (b := 60) (by omega) (by omega)) q⟩
    | succ m ih =>
      intro i hi
      have nx := ih (i + 1) (by omega)
      rw [lkL] at nx
      have hl := tLast_lt τ f i (tN τ 5) h0
      refine s_Looks_lasts_5 hR.1 ⟨fun q => absurd q (nI_ge (a := i) (b := 60) (by omega) (by omega)), fun _ => ?_⟩
      refine c_Table_lastOf hR hT hf (by omega) h0 ?_
      rw [nI_1 i]
      refine ⟨fun q => ?_, fun q => ?_⟩
      · rw [if_neg (fun z => q (by rw [z])), Nat.add_zero] at nx
        rw [Int32.add_zero]
        exact nx
      · rw [if_pos ((nI_eq (by omega) hp).mp q)] at nx
        rw [nI_1 (lkL τ p f i)]
        exact nx
  exact key 60 0 (by omega)
theorem tOK_eyes {p e : Nat} (hT : tOK τ) (h1 : 1 ≤ e) (h9 : e ≤ 9) : tOK (tSet τ (6 + 7 * p + 1) (nI e)) := tOK_set hT (by omega) (by omega) (fun _ => ⟨h1, h9⟩) (by omega) (by omega) (by omega) (by omega)
theorem c_Looks_bestEyes {P : Int32 → xD → Prop} {l p f : Nat} (k0 : xk l = 12) (hR : tR D t τ) (hT : tOK τ) (h0 : 0 < tN τ 5) (hp : p < tN τ 5) (hf : f < 2 ^ 31) (hd : t + 5 ≤ l + 1 ∨ l + 6 ≤ t)
    (fin : ∀ D', xOut (l + 2) (l + 6) D D' → P (bkI (ltF (lkE τ p f) 9)) D') : xCi (d + 7) m_Looks_bestEyes [.ref l, .ref t, .int (nI p), .int (nI f)] D P := by
  have b5 := hT.2.2.2.2.2.2.1
  refine xCi_of y_Looks_bestEyes (Nat.le_of_ble_eq_true rfl) (s_Looks_bestEyes_0 k0 hR.1 ?_)
  refine c_Table_copy (ck_12_0 k0) hR b5 (by omega) (fun D1 o1 hR1 => ?_)
  have key : ∀ m e, e + m = 9 → ∀ D' σ, xOut (l + 2) (l + 6) D D' → tR D' (l + 1) σ → (∀ v, tSet σ (6 + 7 * p + 1) v = tSet τ (6 + 7 * p + 1) v) →
      xPf (d + 7) m_Looks_bestEyes 17 [(0, .ref l), (1, .ref t), (2, .int (nI p)), (3, .int (nI f)), (4, .int (bkI (ltF (lkE τ p f) e))), (5, .int (nI (bkV (ltF (lkE τ p f) e)))), (6, .int (nI (e + 1)))] [] D' (fun r D' => ∃ x, r = some (.int x) ∧ P x D') := by
    intro m
    induction m with
    | zero =>
      intro e he D' σ oD hR' hσ
      have ee : e = 9 := by omega
      subst ee
      exact s_Looks_bestEyes_17 k0 hR.1 ⟨fun _ => ⟨_, rfl, fin D' oD⟩, fun q => absurd (nI_lt (a := 9) (b := 10) (by omega) (by omega)) q⟩
    | succ m ih =>
      intro e he D' σ oD hR' hσ
      have nx := ih (e + 1) (by omega)
      refine s_Looks_bestEyes_17 k0 hR.1 ⟨fun q => absurd q (nI_nlt (a := 9) (b := e + 1) (by omega) (by omega)), fun _ => ?_⟩
      refine c_Table_setOf (w := 1) hR' (by omega) (by omega) (fun D2 o2 hR2 => ?_)
      rw [hσ] at hR2
      have n5 : tN (tSet τ (6 + 7 * p + 1) (nI (e + 1))) 5 = tN τ 5 := tN_set _ _ (by omega)
      refine c_Looks_lasts hR2 (tOK_eyes hT (by omega) (by omega)) (by omega) (by omega) hf ?_
      have hle := lkL_le (tSet τ (6 + 7 * p + 1) (nI (e + 1))) p f 60
      have hv : lkL (tSet τ (6 + 7 * p + 1) (nI (e + 1))) p f 60 + 60 / (e + 1) = lkE τ p f (e + 1) := rfl
      have h60 : 60 / (e + 1) ≤ 60 := Nat.div_le_self _ _
      have hb : lkE τ p f (e + 1) ≤ 120 := by omega
      rw [show (60 : Int32) = nI 60 from rfl, pk_div (by omega) (by omega) (by omega), nI_add, hv, nI_1 (e + 1)]
      have oD2 := oD.trans (o2.mono (show l + 2 ≤ l + 1 + 4 by omega) (show l + 1 + 5 ≤ l + 6 by omega))
      have nx := nx D2 _ oD2 hR2 (fun v => tSet_tSet _ _ _ _)
      rw [ltF] at nx
      refine ⟨nI_ne0 (by omega) (by omega), ?_⟩
      cases hr : ltF (lkE τ p f) e with
      | none =>
        rw [hr] at nx
        exact ⟨fun _ => nx, fun y => absurd rfl y⟩
      | some bv =>
        obtain ⟨b, v⟩ := bv
        obtain ⟨hb1, hb2⟩ := ltF_ok hr
        have hv2 : v ≤ 120 := by
          rw [hb2]
          have h1 := lkL_le (tSet τ (6 + 7 * p + 1) (nI b)) p f 60
          have h2 : 60 / b ≤ 60 := Nat.div_le_self _ _
          have h3 : lkE τ p f b = lkL (tSet τ (6 + 7 * p + 1) (nI b)) p f 60 + 60 / b := rfl
          omega
        rw [hr] at nx
        simp only [] at nx
        refine ⟨fun y => absurd y (fun y => nI_pos (n := b) (by omega) (by rw [show nI b = -1 from y]; decide)), fun _ => ⟨fun y => ?_, fun y => ?_⟩⟩
        · rw [if_neg (by have := (nI_leI (a := v) (by omega) (by omega)).mp y; omega)] at nx
          exact nx
        · rw [if_pos (Nat.lt_of_not_le (fun w => y (nI_le (a := v) w (by omega))))] at nx
          exact nx
  exact key 9 0 (by omega) D1 τ (o1.mono (by omega) (by omega)) hR1 (fun _ => rfl)
theorem tWait_le (hT : tOK τ) {p n : Nat} (hp : p < tN τ 5) : tWait τ p n ≤ 38 := by
  obtain ⟨-, -, q3, q4, q5, -⟩ := hT.2.2.2.2.2.2.2 p hp
  unfold tWait
  omega
theorem sm_le_mul {f : Nat → Nat} {B : Nat} (h : ∀ i, f i ≤ B) : ∀ n, sm f n ≤ n * B := by
  intro n
  induction n with
  | zero => simp [sm]
  | succ n ih => have := h n; rw [sm, Nat.succ_mul]; omega
theorem lkW_le (hT : tOK τ) {p : Nat} (hp : p < tN τ 5) : lkW τ p ≤ 60 * 38 := sm_le_mul (fun _ => tWait_le hT hp) 60
theorem c_Looks_waits {P : Int32 → xD → Prop} {p : Nat} (hR : tR D t τ) (hT : tOK τ) (hp : p < tN τ 5) (fin : P (nI (lkW τ p)) D) : xCi (d + 4) m_Looks_waits [.ref t, .int (nI p)] D P := by
  refine xCi_of y_Looks_waits (Nat.le_of_ble_eq_true rfl) (s_Looks_waits_0 hR.1 ?_)
  have key : ∀ m i, i + m = 60 → xPf (d + 4) m_Looks_waits 4 [(0, .ref t), (1, .int (nI p)), (2, .int (nI (sm (tWait τ p) i))), (3, .int (nI i))] [] D (fun r D' => ∃ x, r = some (.int x) ∧ P x D') := by
    intro m
    induction m with
    | zero =>
      intro i hi
      have ei : i = 60 := by omega
      subst ei
      exact s_Looks_waits_4 hR.1 ⟨fun _ => ⟨_, rfl, fin⟩, fun q => absurd (nI_le (a := 60) (b := 60) (by omega) (by omega)) q⟩
    | succ m ih =>
      intro i hi
      have nx := ih (i + 1) (by omega)
      rw [sm] at nx
      refine s_Looks_waits_4 hR.1 ⟨fun q => absurd q (nI_ge (a := i) (b := 60) (by omega) (by omega)), fun _ => ?_⟩
      refine c_Table_waitOf hR hT hp (by omega) ?_
      rw [nI_add, nI_1 i]
      exact nx
  exact key 60 0 (by omega)
theorem c_Looks_farther {P : Int32 → xD → Prop} {p : Nat} (hR : tR D t τ) (hT : tOK τ) (hp : p < tN τ 5) (fin : P (nI (lkFar τ p)) D) : xCi (d + 5) m_Looks_farther [.ref t, .int (nI p)] D P := by
  have b5 := hT.2.2.2.2.2.2.1
  refine xCi_of y_Looks_farther (Nat.le_of_ble_eq_true rfl) (s_Looks_farther_0 hR.1 ?_)
  have key : ∀ m i, i + m = tN τ 5 → xPf (d + 5) m_Looks_farther 4 [(0, .ref t), (1, .int (nI p)), (2, .int (nI (mxN (lkW τ) i))), (3, .int (nI i))] [] D (fun r D' => ∃ x, r = some (.int x) ∧ P x D') := by
    intro m
    induction m with
    | zero =>
      intro i hi
      have ei : i = tN τ 5 := by omega
      have h1 := mxN_ge (f := lkW τ) hp
      have h2 := mxN_le (f := lkW τ) (n := tN τ 5) (fun i hi => lkW_le hT hi)
      refine s_Looks_farther_4 hR.1 (c_Table_people hR hT ⟨fun _ => ?_, fun q => absurd (nI_le (by omega) (by omega)) q⟩)
      refine c_Looks_waits hR hT hp ⟨_, rfl, ?_⟩
      rw [ei, pk_sub h1, show (29 : Int32) = nI 29 from rfl, nI_add, show (60 : Int32) = nI 60 from rfl, pk_div (by omega) (by omega) (by omega)]
      exact fin
    | succ m ih =>
      intro i hi
      have nx := ih (i + 1) (by omega)
      rw [mxN] at nx
      have h1 := mxN_le (f := lkW τ) (n := i) (fun j hj => lkW_le hT (p := j) (by omega))
      have h2 := lkW_le hT (p := i) (by omega)
      refine s_Looks_farther_4 hR.1 (c_Table_people hR hT ⟨fun q => absurd q (nI_ge (by omega) (by omega)), fun _ => ?_⟩)
      refine c_Looks_waits hR hT (by omega) (fun r7 e7 => ?_)
      have f7 : r7 = nI (if mxN (lkW τ) i < lkW τ i then lkW τ i else mxN (lkW τ) i) := by
        rw [e7]
        by_cases z : mxN (lkW τ) i < lkW τ i
        · rw [if_pos z, if_pos (nI_lt z (by omega))]
        · rw [if_neg z, if_neg (fun y => z ((nI_ltI (by omega) (by omega)).mp y))]
      rw [f7, nI_1 i]
      exact nx
  exact key (tN τ 5) 0 (by omega)
theorem c_Looks_looksIn {P : Int32 → xD → Prop} {q a : Nat} (hR : tR D t τ) (hT : tOK τ) (hq : q < tN τ 5) (ha : a < 60) (h1 : lkI τ q a = true → P 1 D) (h0 : lkI τ q a = false → P 0 D) : xCi (d + 4) m_Looks_looksIn [.ref t, .int (nI q), .int (nI a)] D P := by
  have b4 := hT.2.2.2.2.2.1
  refine xCi_of y_Looks_looksIn (Nat.le_of_ble_eq_true rfl) (s_Looks_looksIn_0 hR.1 ?_)
  refine c_Table_number (j := 4) hR (by omega) ?_
  rw [hT.1 4 (by omega), nI_add]
  have key : ∀ m i, i + m = tN τ 4 + 1 → (∀ j, j < i → ¬ (a + j) % tP τ q 1 = 0) → xPf (d + 4) m_Looks_looksIn 11 [(0, .ref t), (1, .int (nI q)), (2, .int (nI a)), (3, .int (nI (a + tN τ 4))), (4, .int (nI (a + i)))] [] D (fun r D' => ∃ x, r = some (.int x) ∧ P x D') := by
    intro m
    induction m with
    | zero =>
      intro i hi hn
      refine s_Looks_looksIn_11 hR.1 ⟨fun _ => ⟨_, rfl, h0 ?_⟩, fun z => absurd (nI_lt (by omega) (by omega)) z⟩
      cases hb : lkI τ q a with
      | false => rfl
      | true =>
        obtain ⟨j, hj, hj2⟩ := lkI_t.mp hb
        exact absurd hj2 (hn j (by omega))
    | succ m ih =>
      intro i hi hn
      refine s_Looks_looksIn_11 hR.1 ⟨fun z => absurd z (nI_nlt (by omega) (by omega)), fun _ => ?_⟩
      refine c_Table_goesInto (w := 1) hR hT hq (by omega) (by omega) ?_
      by_cases z : (a + i) % tP τ q 1 = 0
      · rw [if_pos z]
        exact ⟨fun y => absurd y (by decide), fun _ => ⟨_, rfl, h1 (lkI_t.mpr ⟨i, by omega, z⟩)⟩⟩
      · rw [if_neg z, nI_1 (a + i)]
        refine ⟨fun _ => ih (i + 1) (by omega) (fun j hj => ?_), fun y => absurd rfl y⟩
        by_cases y : j = i
        · rw [y]; exact z
        · exact hn j (by omega)
  exact key (tN τ 4 + 1) 0 (by omega) (fun j hj => absurd hj (by omega))
theorem c_Looks_touching {P : Int32 → xD → Prop} {p a : Nat} (hR : tR D t τ) (hT : tOK τ) (hp : p < 2 ^ 31) (ha : a < 60) (fin : P (nI (tchS τ p a)) D) : xCi (d + 5) m_Looks_touching [.ref t, .int (nI p), .int (nI a)] D P := by
  have b5 := hT.2.2.2.2.2.2.1
  refine xCi_of y_Looks_touching (Nat.le_of_ble_eq_true rfl) (s_Looks_touching_0 hR.1 ?_)
  have key : ∀ m i, i + m = tN τ 5 → xPf (d + 5) m_Looks_touching 5 [(0, .ref t), (1, .int (nI p)), (2, .int (nI a)), (3, .int (nI (bsN (tchB τ p a) i))), (4, .int (nI i))] [] D (fun r D' => ∃ x, r = some (.int x) ∧ P x D') := by
    intro m
    induction m with
    | zero =>
      intro i hi
      have ei : i = tN τ 5 := by omega
      refine s_Looks_touching_5 hR.1 (c_Table_people hR hT ⟨fun _ => ⟨_, rfl, ?_⟩, fun q => absurd (nI_le (by omega) (by omega)) q⟩)
      rw [ei]; exact fin
    | succ m ih =>
      intro i hi
      have nx := ih (i + 1) (by omega)
      rw [bsN] at nx
      have skip : tchB τ p a i = false → xPf (d + 5) m_Looks_touching 5 [(0, .ref t), (1, .int (nI p)), (2, .int (nI a)), (3, .int (nI (bsN (tchB τ p a) i))), (4, .int (nI (i + 1)))] [] D (fun r D' => ∃ x, r = some (.int x) ∧ P x D') := fun q => by
        rw [q, if_neg Bool.false_ne_true, Nat.add_zero] at nx
        exact nx
      refine s_Looks_touching_5 hR.1 (c_Table_people hR hT ⟨fun q => absurd q (nI_ge (by omega) (by omega)), fun _ => ?_⟩)
      rw [nI_1 i]
      refine ⟨fun q => skip ?_, fun q => ?_⟩
      · have := (nI_eq (by omega) hp).mp q
        unfold tchB
        rw [decide_eq_false (fun z => z this)]; rfl
      · have q1 : i ≠ p := fun z => q (by rw [z])
        refine c_Table_of (w := 6) hR b5 (by omega) (by omega) ?_
        rw [(hT.2.2.2.2.2.2.2 i (by omega)).1 6 (by omega) (by omega)]
        have h6 := (hT.2.2.2.2.2.2.2 i (by omega)).2.2.2.2.2.2.1
        refine ⟨fun z => skip ?_, fun z => ?_⟩
        · unfold tchB
          rw [decide_eq_false (p := tP τ i 6 = 1) (fun y => z (by rw [y]; rfl)), Bool.false_and, Bool.and_false]
        · have z1 : tP τ i 6 = 1 := (nI_eq (b := 1) (by omega) (by omega)).mp z
          have eb : tchB τ p a i = lkI τ i a := by
            unfold tchB
            rw [decide_eq_true q1, decide_eq_true z1, Bool.true_and, Bool.true_and]
          refine c_Looks_looksIn hR hT (by omega) ha (fun y => ?_) (fun y => ?_)
          · refine ⟨fun w => absurd w (by decide), fun _ => ?_⟩
            rw [eb, y, if_pos rfl] at nx
            rw [bsN_s (by omega)]
            exact nx
          · exact ⟨fun _ => skip (by rw [eb]; exact y), fun w => absurd rfl w⟩
  exact key (tN τ 5) 0 (by omega)
set_option maxRecDepth 20000 in
theorem bc64 : ∀ n, n < 64 → (((((((((nI n) - ((((nI n).toUInt32 >>> ((1 : Int32).toUInt32 &&& Int32.toUInt32 31)).toInt32) &&& (1431655765 : Int32))) &&& (858993459 : Int32)) + (((((nI n) - ((((nI n).toUInt32 >>> ((1 : Int32).toUInt32 &&& Int32.toUInt32 31)).toInt32) &&& (1431655765 : Int32))).toUInt32 >>> ((2 : Int32).toUInt32 &&& Int32.toUInt32 31)).toInt32) &&& (858993459 : Int32))) + ((((((nI n) - ((((nI n).toUInt32 >>> ((1 : Int32).toUInt32 &&& Int32.toUInt32 31)).toInt32) &&& (1431655765 : Int32))) &&& (858993459 : Int32)) + (((((nI n) - ((((nI n).toUInt32 >>> ((1 : Int32).toUInt32 &&& Int32.toUInt32 31)).toInt32) &&& (1431655765 : Int32))).toUInt32 >>> ((2 : Int32).toUInt32 &&& Int32.toUInt32 31)).toInt32) &&& (858993459 : Int32))).toUInt32 >>> ((4 : Int32).toUInt32 &&& Int32.toUInt32 31)).toInt32)) &&& (252645135 : Int32)) + ((((((((nI n) - ((((nI n).toUInt32 >>> ((1 : Int32).toUInt32 &&& Int32.toUInt32 31)).toInt32) &&& (1431655765 : Int32))) &&& (858993459 : Int32)) + (((((nI n) - ((((nI n).toUInt32 >>> ((1 : Int32).toUInt32 &&& Int32.toUInt32 31)).toInt32) &&& (1431655765 : Int32))).toUInt32 >>> ((2 : Int32).toUInt32 &&& Int32.toUInt32 31)).toInt32) &&& (858993459 : Int32))) + ((((((nI n) - ((((nI n).toUInt32 >>> ((1 : Int32).toUInt32 &&& Int32.toUInt32 31)).toInt32) &&& (1431655765 : Int32))) &&& (858993459 : Int32)) + (((((nI n) - ((((nI n).toUInt32 >>> ((1 : Int32).toUInt32 &&& Int32.toUInt32 31)).toInt32) &&& (1431655765 : Int32))).toUInt32 >>> ((2 : Int32).toUInt32 &&& Int32.toUInt32 31)).toInt32) &&& (858993459 : Int32))).toUInt32 >>> ((4 : Int32).toUInt32 &&& Int32.toUInt32 31)).toInt32)) &&& (252645135 : Int32)).toUInt32 >>> ((8 : Int32).toUInt32 &&& Int32.toUInt32 31)).toInt32)) + (((((((((nI n) - ((((nI n).toUInt32 >>> ((1 : Int32).toUInt32 &&& Int32.toUInt32 31)).toInt32) &&& (1431655765 : Int32))) &&& (858993459 : Int32)) + (((((nI n) - ((((nI n).toUInt32 >>> ((1 : Int32).toUInt32 &&& Int32.toUInt32 31)).toInt32) &&& (1431655765 : Int32))).toUInt32 >>> ((2 : Int32).toUInt32 &&& Int32.toUInt32 31)).toInt32) &&& (858993459 : Int32))) + ((((((nI n) - ((((nI n).toUInt32 >>> ((1 : Int32).toUInt32 &&& Int32.toUInt32 31)).toInt32) &&& (1431655765 : Int32))) &&& (858993459 : Int32)) + (((((nI n) - ((((nI n).toUInt32 >>> ((1 : Int32).toUInt32 &&& Int32.toUInt32 31)).toInt32) &&& (1431655765 : Int32))).toUInt32 >>> ((2 : Int32).toUInt32 &&& Int32.toUInt32 31)).toInt32) &&& (858993459 : Int32))).toUInt32 >>> ((4 : Int32).toUInt32 &&& Int32.toUInt32 31)).toInt32)) &&& (252645135 : Int32)) + ((((((((nI n) - ((((nI n).toUInt32 >>> ((1 : Int32).toUInt32 &&& Int32.toUInt32 31)).toInt32) &&& (1431655765 : Int32))) &&& (858993459 : Int32)) + (((((nI n) - ((((nI n).toUInt32 >>> ((1 : Int32).toUInt32 &&& Int32.toUInt32 31)).toInt32) &&& (1431655765 : Int32))).toUInt32 >>> ((2 : Int32).toUInt32 &&& Int32.toUInt32 31)).toInt32) &&& (858993459 : Int32))) + ((((((nI n) - ((((nI n).toUInt32 >>> ((1 : Int32).toUInt32 &&& Int32.toUInt32 31)).toInt32) &&& (1431655765 : Int32))) &&& (858993459 : Int32)) + (((((nI n) - ((((nI n).toUInt32 >>> ((1 : Int32).toUInt32 &&& Int32.toUInt32 31)).toInt32) &&& (1431655765 : Int32))).toUInt32 >>> ((2 : Int32).toUInt32 &&& Int32.toUInt32 31)).toInt32) &&& (858993459 : Int32))).toUInt32 >>> ((4 : Int32).toUInt32 &&& Int32.toUInt32 31)).toInt32)) &&& (252645135 : Int32)).toUInt32 >>> ((8 : Int32).toUInt32 &&& Int32.toUInt32 31)).toInt32)).toUInt32 >>> ((16 : Int32).toUInt32 &&& Int32.toUInt32 31)).toInt32)) &&& (63 : Int32)) = nI (onesN n) := by decide +kernel
theorem c_bitCount {P : Int32 → xD → Prop} {n : Nat} (hn : n < 64) (h : P (nI (onesN n)) D) : xCi (d + 1) m_Integer_bitCount [.int (nI n)] D P := by
  refine xCi_of y_Integer_bitCount (Nat.le_of_ble_eq_true rfl) (s_Integer_bitCount_0 ⟨_, rfl, ?_⟩)
  rw [bc64 n hn]
  exact h
theorem tchS_lt (hT : tOK τ) (p a : Nat) : tchS τ p a < 64 := by
  have h1 := bsN_lt (tchB τ p a) (tN τ 5)
  have h2 : 2 ^ tN τ 5 ≤ 2 ^ 6 := Nat.pow_le_pow_right (by omega) hT.2.2.2.2.2.2.1
  unfold tchS
  omega
theorem onesN_le (n : Nat) : onesN n ≤ 6 := cnN_le _ 6
theorem c_Looks_lure {P : Int32 → xD → Prop} {p : Nat} (hR : tR D t τ) (hT : tOK τ) (hp : p < 2 ^ 31) (fin : P (nI (lur (fun a => onesN (tchS τ p a)) 60).1) D) : xCi (d + 6) m_Looks_lure [.ref t, .int (nI p)] D P := by
  refine xCi_of y_Looks_lure (Nat.le_of_ble_eq_true rfl) (s_Looks_lure_0 hR.1 ?_)
  have key : ∀ m i, i + m = 60 → xPf (d + 6) m_Looks_lure 7 [(0, .ref t), (1, .int (nI p)), (2, .int (nI (lur (fun a => onesN (tchS τ p a)) i).1)), (3, .int (nI (lur (fun a => onesN (tchS τ p a)) i).2)), (4, .int (nI i))] [] D (fun r D' => ∃ x, r = some (.int x) ∧ P x D') := by
    intro m
    induction m with
    | zero =>
      intro i hi
      have ei : i = 60 := by omega
      subst ei
      exact s_Looks_lure_7 hR.1 ⟨fun _ => ⟨_, rfl, fin⟩, fun q => absurd (nI_le (a := 60) (b := 60) (by omega) (by omega)) q⟩
    | succ m ih =>
      intro i hi
      have nx := ih (i + 1) (by omega)
      rw [lur] at nx
      have hl := lur_le (f := fun a => onesN (tchS τ p a)) (fun a => onesN_le _) i
      have ho := onesN_le (tchS τ p i)
      refine s_Looks_lure_7 hR.1 ⟨fun q => absurd q (nI_ge (a := i) (b := 60) (by omega) (by omega)), fun _ => ?_⟩
      refine c_Looks_touching hR hT hp (by omega) (c_bitCount (tchS_lt hT p i) ?_)
      rw [nI_1 i]
      refine ⟨fun q => ?_, fun q => ?_⟩
      · have z := (nI_leI (by omega) (by omega)).mp q
        rw [if_neg (by omega)] at nx
        exact nx
      · have z := Nat.lt_of_not_le (fun w => q (nI_le w (by omega)))
        rw [if_pos z] at nx
        exact nx
  exact key 60 0 (by omega)
end LOOKS
