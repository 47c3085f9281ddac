/-! A BOOK's round, deed by deed. -/
theorem neg_lt {x : Int32} (h : x < 0) {k : Nat} (hk : k < 2 ^ 31) : x < nI k := by
  have h1 := Int32.lt_iff_toInt_lt.mp h
  refine Int32.lt_iff_toInt_lt.mpr ?_
  rw [nI_toInt hk]
  have : (0 : Int32).toInt = 0 := rfl
  omega
theorem neg_le {x : Int32} (h : x < 0) {k : Nat} (hk : k < 2 ^ 31) : ¬ nI k ≤ x := fun q => by
  have h1 := Int32.lt_iff_toInt_lt.mp h
  have h2 := Int32.le_iff_toInt_le.mp q
  rw [nI_toInt hk] at h2
  have : (0 : Int32).toInt = 0 := rfl
  omega
theorem neg_ne {x : Int32} (h : x < 0) {k : Nat} (hk : k < 2 ^ 31) : x ≠ nI k := fun q => nI_pos hk (q ▸ h)
/-- .. as a test -/
def dAlB (A K : Nat) (δ : dS) (p : Nat) : Bool := (δ.2.1 p == A) && (List.range K).any (fun k => δ.1 p k == A)
theorem dAlB_iff {A K : Nat} {δ : dS} {p : Nat} : dAlB A K δ p = true ↔ dAl A K δ p := by
  unfold dAlB dAl
  rw [Bool.and_eq_true, beq_iff_eq, List.any_eq_true]
  constructor
  · rintro ⟨h1, k, h2, h3⟩
    exact ⟨h1, k, List.mem_range.mp h2, beq_iff_eq.mp h3⟩
  · rintro ⟨h1, k, h2, h3⟩
    exact ⟨h1, k, List.mem_range.mpr h2, beq_iff_eq.mpr h3⟩
/-- a deal; who has a SPOON, in order; letters; tenths; feints; who has none at the end -/
abbrev bS : Type := dS × List Nat × (Nat → Nat) × Nat × Nat × Option Nat
/-- the first of n who is not among them -/
def bWo (tk : List Nat) : Nat → Option Nat
  | 0 => none
  | n + 1 => match bWo tk n with
    | some p => some p
    | none => if n ∈ tk then none else some n
theorem bWo_some {tk : List Nat} {p : Nat} : ∀ {n : Nat}, bWo tk n = some p → p < n ∧ p ∉ tk ∧ ∀ q, q < p → q ∈ tk := by
  intro n
  induction n generalizing p with
  | zero => intro h; cases h
  | succ n ih =>
    intro h
    unfold bWo at h
    cases hx : bWo tk n with
    | some q => simp only [hx] at h; cases h; have := ih hx; exact ⟨by omega, this.2⟩
    | none =>
      simp only [hx] at h
      split at h
      · cases h
      · rename_i q
        cases h
        refine ⟨by omega, q, ?_⟩
        have key : ∀ m, bWo tk m = none → ∀ q, q < m → q ∈ tk := by
          intro m
          induction m with
          | zero => intro _ q hq; omega
          | succ m ihm =>
            intro hm q hq
            unfold bWo at hm
            cases hy : bWo tk m with
            | some z => simp only [hy] at hm; cases hm
            | none =>
              simp only [hy] at hm
              split at hm
              · by_cases e : q = m
                · rw [e]; assumption
                · exact ihm hy q (by omega)
              · cases hm
        exact key _ hx
theorem bWo_none {tk : List Nat} : ∀ {m : Nat}, bWo tk m = none → ∀ q, q < m → q ∈ tk := by
  intro m
  induction m with
  | zero => intro _ q hq; omega
  | succ m ihm =>
    intro hm q hq
    unfold bWo at hm
    cases hy : bWo tk m with
    | some z => simp only [hy] at hm; cases hm
    | none =>
      simp only [hy] at hm
      split at hm
      · by_cases e : q = m
        · rw [e]; assumption
        · exact ihm hy q (by omega)
      · cases hm
theorem pigeons : ∀ (N : Nat) (tk : List Nat), (∀ p, p < N → p ∈ tk) → N ≤ tk.length := by
  intro N
  induction N with
  | zero => intro tk _; omega
  | succ N ih =>
    intro tk h
    have hN := h N (by omega)
    have h1 := ih (tk.erase N) (fun p hp => (List.mem_erase_of_ne (by omega)).mpr (h p (by omega)))
    have h2 := List.length_erase_of_mem hN
    have h3 := List.length_pos_of_mem hN
    omega
def bReach (N A K p : Nat) (s : bS) : Option bS :=
  if p ∈ s.2.1 then none
  else if s.2.1 = [] ∧ dAlB A K s.1 p = false then some (s.1, s.2.1, (fun i => if i = p then s.2.2.1 i + 1 else s.2.2.1 i), s.2.2.2)
  else if s.2.1.length + 2 = N then some (s.1, s.2.1 ++ [p], (fun i => if some i = bWo (s.2.1 ++ [p]) N then s.2.2.1 i + 1 else s.2.2.1 i), s.2.2.2.1, s.2.2.2.2.1, bWo (s.2.1 ++ [p]) N)
  else some (s.1, s.2.1 ++ [p], s.2.2)
/-- a deed: its sort, its number, its KIND -/
def bDo (N A K a b c : Nat) (s : bS) : Option bS :=
  if s.2.2.2.2.2 ≠ none then none
  else if a = 4 then some (s.1, s.2.1, s.2.2.1, s.2.2.2.1 + b, s.2.2.2.2)
  else if N ≤ b then none
  else if a = 0 then (if s.1.2.1 b = A then (if (dTake N b s.1).1 = none then none else some ((dTake N b s.1).2, s.2)) else none)
  else if a = 1 then (if s.1.2.1 b = A + 1 ∧ 0 < s.1.1 b c then some (dHand b c s.1, s.2) else none)
  else if a = 2 then bReach N A K b s
  else some (s.1, s.2.1, s.2.2.1, s.2.2.2.1, s.2.2.2.2.1 + 1, s.2.2.2.2.2)
/-- what holds on the way -/
def bW (N K n : Nat) (s : bS) : Prop := dW N K n s.1 ∧ (∀ p, p ∈ s.2.1 → p < N) ∧ s.2.1.length < N ∧ (s.2.2.2.2.2 = none → s.2.1.length + 1 < N) ∧ ∀ p, s.2.2.2.2.2 = some p → p < N
theorem bReach_ok {N A K p n : Nat} {s s' : bS} (hW : bW N K n s) (hp : p < N) (hl : s.2.2.2.2.2 = none) (h : bReach N A K p s = some s') : bW N K n s' := by
  obtain ⟨w1, w2, w3, w4, w5⟩ := hW
  have w6 := w4 hl
  unfold bReach at h
  split at h
  · cases h
  · split at h
    · cases h; exact ⟨w1, w2, w3, w4, w5⟩
    · have wp : ∀ q, q ∈ s.2.1 ++ [p] → q < N := fun q hq => by
        rcases List.mem_append.mp hq with h1 | h1
        · exact w2 q h1
        · rw [List.mem_singleton.mp h1]; exact hp
      split at h
      · rename_i e
        cases h
        refine ⟨w1, wp, by simp; omega, fun q => ?_, fun q hq => (bWo_some hq).1⟩
        have := pigeons N _ (bWo_none q)
        simp at this; omega
      · rename_i e
        cases h
        exact ⟨w1, wp, by simp; omega, fun _ => by simp; omega, fun q hq => by rw [hl] at hq; cases hq⟩
theorem bDo_ok {N A K n a b c : Nat} {s s' : bS} (hK : K ≤ 13) (hW : bW N K n s) (h : bDo N A K a b c s = some s') : bW N K n s' := by
  unfold bDo at h
  split at h
  · cases h
  · rename_i hl
    have hl : s.2.2.2.2.2 = none := Decidable.byContradiction hl
    split at h
    · cases h; exact hW
    · split at h
      · cases h
      · rename_i hb
        split at h
        · split at h
          · split at h
            · cases h
            · cases h
              exact ⟨(dW_take hW.1 hK (by omega)).1, hW.2⟩
          · cases h
        · split at h
          · split at h
            · rename_i q
              cases h
              exact ⟨(dW_hand hW.1 hK (by omega) q.2).1, hW.2⟩
            · cases h
          · split at h
            · exact bReach_ok hW (by omega) hl h
            · cases h; exact hW
/-- a BOOK β: how many, then three numbers of each -/
def bEnt (β : Nat → Int32) (k w : Nat) : Nat := (β (1 + 3 * k + w)).toNatClampNeg
def bOK (β : Nat → Int32) : Prop := ∃ m, m ≤ 40 ∧ β 0 = nI m ∧ ∀ k, k < m → β (1 + 3 * k) = nI (bEnt β k 0) ∧ β (1 + 3 * k + 1) = nI (bEnt β k 1) ∧ bEnt β k 0 ≤ 4 ∧ bEnt β k 1 ≤ 9 ∧ (bEnt β k 0 = 1 → β (1 + 3 * k + 2) = nI (bEnt β k 2) ∧ bEnt β k 2 < 13)
def bRun (N A K : Nat) (β : Nat → Int32) (s0 : bS) : Nat → Option bS
  | 0 => some s0
  | k + 1 => match bRun N A K β s0 k with
    | none => none
    | some s => bDo N A K (bEnt β k 0) (bEnt β k 1) (bEnt β k 2) s
/-- how many of n can be -/
def bMany (N A K : Nat) (β : Nat → Int32) (s0 : bS) : Nat → Nat
  | 0 => 0
  | n + 1 => if bRun N A K β s0 (n + 1) = none then bMany N A K β s0 n else n + 1
theorem bRun_none {N A K : Nat} {β : Nat → Int32} {s0 : bS} {k : Nat} (h : bRun N A K β s0 k = none) : ∀ j, bRun N A K β s0 (k + j) = none := by
  intro j
  induction j with
  | zero => exact h
  | succ j ih => rw [show k + (j + 1) = k + j + 1 by omega, bRun, ih]
theorem bMany_at {N A K : Nat} {β : Nat → Int32} {s0 : bS} {k : Nat} (h : bRun N A K β s0 k ≠ none) : bMany N A K β s0 k = k := by
  cases k with
  | zero => rfl
  | succ k => rw [bMany, if_neg h]
theorem bMany_stop {N A K : Nat} {β : Nat → Int32} {s0 : bS} {k : Nat} (h : bRun N A K β s0 k ≠ none) (h1 : bRun N A K β s0 (k + 1) = none) : ∀ j, bMany N A K β s0 (k + 1 + j) = k := by
  intro j
  induction j with
  | zero => rw [Nat.add_zero, bMany, if_pos h1, bMany_at h]
  | succ j ih => rw [show k + 1 + (j + 1) = k + 1 + j + 1 by omega, bMany, if_pos (show bRun N A K β s0 (k + 1 + j + 1) = none from bRun_none h1 (j + 1)), ih]
theorem bRun_ok {N A K n : Nat} {β : Nat → Int32} {s0 s : bS} (hK : K ≤ 13) (h0 : bW N K n s0) : ∀ {k : Nat}, bRun N A K β s0 k = some s → bW N K n s := by
  intro k
  induction k generalizing s with
  | zero => intro h; cases h; exact h0
  | succ k ih =>
    intro h
    unfold bRun at h
    cases hx : bRun N A K β s0 k with
    | none => simp only [hx] at h; cases h
    | some s1 => simp only [hx] at h; exact bDo_ok hK (ih hx) h
/-- what is answered of a state -/
def bAns (N : Nat) (s : bS) (x : Int32) : Int32 :=
  if x < 0 then -2 else
  if x.toNatClampNeg = 0 then nI s.2.2.2.1 else if x.toNatClampNeg = 1 then nI s.2.1.length else if x.toNatClampNeg = 2 then oI s.2.2.2.2.2
  else if x.toNatClampNeg = 3 then nI (s.1.2.2 N).length else if x.toNatClampNeg = 4 then nI (s.1.2.2 0).length else if x.toNatClampNeg = 5 then nI s.2.2.2.2.1
  else if 10 ≤ x.toNatClampNeg ∧ x.toNatClampNeg < 10 + s.2.1.length then nI (s.2.1.getD (x.toNatClampNeg - 10) 0)
  else if 20 ≤ x.toNatClampNeg ∧ x.toNatClampNeg < 20 + N then nI (s.2.2.1 (x.toNatClampNeg - 20))
  else if 30 ≤ x.toNatClampNeg ∧ x.toNatClampNeg < 30 + N then nI (s.1.2.2 (x.toNatClampNeg - 30)).length else -2
theorem rcnt_mem {f : Nat → Int32} {l : List Nat} {p : Nat} (hl : ∀ i c, l[i]? = some c → f i = nI c) (hb : ∀ c, c ∈ l → c < 2 ^ 31) (hp : p < 2 ^ 31) : rcnt f (nI p) l.length = 0 ↔ p ∉ l := by
  have key : ∀ n, n ≤ l.length → (rcnt f (nI p) n = 0 ↔ ∀ i, i < n → l[i]? ≠ some p) := by
    intro n
    induction n with
    | zero => intro _; exact ⟨fun _ i hi => by omega, fun _ => rfl⟩
    | succ n ih =>
      intro hn
      have i1 := ih (by omega)
      have hg : l[n]? = some l[n] := List.getElem?_eq_getElem (by omega)
      have hf := hl n _ hg
      have hlt := hb l[n] (List.getElem_mem (by omega))
      rw [rcnt, hf]
      by_cases e : l[n] = p
      · rw [if_pos (by rw [e])]
        exact ⟨fun z => by omega, fun z => absurd (by rw [hg, e]) (z n (by omega))⟩
      · rw [if_neg (fun z => e ((nI_eq hlt hp).mp z))]
        constructor
        · intro z i hi
          by_cases q : i = n
          · rw [q, hg]; exact fun y => e (Option.some.inj y)
          · exact i1.mp (by omega) i (by omega)
        · intro z
          have := i1.mpr (fun i hi => z i (by omega))
          omega
  rw [key l.length (Nat.le_refl _), List.mem_iff_getElem?]
  constructor
  · rintro h ⟨i, hi⟩
    exact h i (List.getElem?_eq_some_iff.mp hi).1 hi
  · intro h i _ hi
    exact h ⟨i, hi⟩
