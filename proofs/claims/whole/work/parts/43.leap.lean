/-! A whole ROUND: what its object Rounds keeps, leaps, play. -/
theorem oI_iff {r : Option Nat} (h : ∀ p, r = some p → p < 2 ^ 31) : oI r = -1 ↔ r = none := by
  cases r with
  | none => exact ⟨fun _ => rfl, fun _ => rfl⟩
  | some p => exact ⟨fun q => absurd q (fun q => nI_pos (h p rfl) (by rw [show nI p = -1 from q]; decide)), fun q => by cases q⟩
/-- nothing outside of a Rounds at r has changed, and its table that is mended neither -/
def xOutR (r : Nat) (D D' : xD) : Prop := (∀ i, (i < r ∨ (r + 14 ≤ i ∧ i < r + 19) ∨ r + 32 ≤ i) → D'.1 i = D.1 i) ∧ D'.2 = D.2
theorem xOutR.rfl' {r : Nat} {D : xD} : xOutR r D D := ⟨fun _ _ => rfl, rfl⟩
theorem xOutR.trans {r : Nat} {D D1 D2 : xD} (h1 : xOutR r D D1) (h2 : xOutR r D1 D2) : xOutR r D D2 := ⟨fun i hi => (h2.1 i hi).trans (h1.1 i hi), h2.2.trans h1.2⟩
theorem xOut.toR {lo hi r : Nat} {D D1 : xD} (h : xOut lo hi D D1) (q : (r ≤ lo ∧ hi ≤ r + 14) ∨ (r + 19 ≤ lo ∧ hi ≤ r + 32)) : xOutR r D D1 := ⟨fun i hi => h.1 i (by omega), h.2⟩
theorem xOutR.out {r : Nat} {D D1 : xD} (h : xOutR r D D1) : xOut r (r + 32) D D1 := ⟨fun i hi => h.1 i (by omega), h.2⟩
theorem tR.outR {D D' : xD} {r t : Nat} {τ : Nat → Int32} (h : tR D t τ) (o : xOutR r D D') (q : t + 5 ≤ r ∨ t = r + 14 ∨ r + 32 ≤ t) : tR D' t τ :=
  ⟨h.1, rS_of h.2.1 (by rw [o.1 _ (by omega)]), rS_of h.2.2.1 (by rw [o.1 _ (by omega)]), fun j hj => by rw [o.1 (t + 2) (by omega)]; exact h.2.2.2.1 j hj, fun p hp w hw => by rw [o.1 (t + 4) (by omega)]; exact h.2.2.2.2 p hp w hw⟩
theorem xOut_f (D : xD) (a k : Nat) (v : Int32) : xOut a (a + 1) D (xu D.1 a k v, D.2) := ⟨fun i q => xu_ne _ _ _ (by omega), rfl⟩
theorem sm_cntr {c : Nat → Nat} {s : Nat} : ∀ {m : Nat}, (∀ i, i < m → c (s + i) < 13) → sm (cntr c s m) 13 = m := by
  intro m
  induction m with
  | zero =>
    intro _
    have : ∀ n, sm (cntr c s 0) n = 0 := by
      intro n
      induction n with
      | zero => rfl
      | succ n ih => rw [sm, ih]; rfl
    exact this 13
  | succ m ih =>
    intro h
    have h1 := ih (fun i hi => h i (by omega))
    have h2 : sm (cntr c s (m + 1)) 13 = sm (fun i => if i = c (s + m) then cntr c s m (c (s + m)) + 1 else cntr c s m i) 13 := sm_congr (fun i _ => by
      show cntr c s m i + (if c (s + m) = i then 1 else 0) = _
      by_cases q : i = c (s + m)
      · rw [if_pos q.symm, if_pos q, ← q]
      · rw [if_neg (fun z => q z.symm), if_neg q]; omega)
    have h3 := sm_at (cntr c s m) (v := cntr c s m (c (s + m)) + 1) (h m (by omega))
    omega
theorem cntr_0 {c : Nat → Nat} {s K k : Nat} (hk : K ≤ k) : ∀ {m : Nat}, (∀ i, i < m → c (s + i) < K) → cntr c s m k = 0 := by
  intro m
  induction m with
  | zero => intro _; rfl
  | succ m ih =>
    intro h
    rw [cntr, ih (fun i hi => h i (by omega)), if_neg (by have := h m (by omega); omega)]
theorem sm_const (a : Nat) : ∀ n, sm (fun _ => a) n = n * a := by
  intro n
  induction n with
  | zero => simp [sm]
  | succ n ih => rw [sm, ih, Nat.succ_mul]
theorem dW_init {N A K n : Nat} {c : Nat → Nat} (h0 : 0 < N) (hK : K ≤ 13) (hn : n ≤ 52) (hA : A * N < n) (hc : ∀ j, j < n → c j < K) : dW N K n (dInit N A n c) := by
  have hAp : ∀ p, p < N → A * p + A ≤ A * N := fun p hp => by
    have : A * (p + 1) ≤ A * N := Nat.mul_le_mul_left A (by omega)
    rw [Nat.mul_succ] at this; exact this
  refine ⟨hn, fun p hp => ?_, ?_, fun p hp x hx => ?_, fun p hp => ⟨?_, if_neg (by omega)⟩, fun p k hk => ?_, fun p hp => if_neg (by omega)⟩
  · have e : (dInit N A n c).1 p = cntr c (A * p) A := funext fun k => if_pos hp
    rw [e, sm_cntr (fun i hi => by
      have := hAp p hp
      have := hc (A * p + i) (by omega)
      omega)]
    exact (if_pos hp).symm
  · have e1 : sm (dInit N A n c).2.1 N = N * A := (sm_congr (fun i hi => if_pos hi)).trans (sm_const A N)
    have e2 : ∀ m, sm (fun p => ((dInit N A n c).2.2 p).length) (m + 1) = n - A * N := by
      intro m
      induction m with
      | zero => simp [sm, dInit]
      | succ m ih => rw [sm, ih]; simp [dInit]
    rw [e1, e2, Nat.mul_comm N A]; omega
  · have hx2 : x ∈ (if p = 0 then (List.range (n - A * N)).map (fun i => c (A * N + i)) else []) := hx
    by_cases q : p = 0
    · rw [if_pos q] at hx2
      obtain ⟨i, hi, rfl⟩ := List.mem_map.mp hx2
      have := List.mem_range.mp hi
      exact hc _ (by omega)
    · rw [if_neg q] at hx2; cases hx2
  · exact funext fun k => if_neg (by omega)
  · show (if p < N then cntr c (A * p) A k else 0) = 0
    by_cases q : p < N
    · rw [if_pos q]
      exact cntr_0 hk (fun i hi => hc _ (by have := hAp p q; omega))
    · rw [if_neg q]
/-- what holds of each deal of a ROUND -/
def dOK (τ : Nat → Int32) (n : Nat) (δ : dS) : Prop := dW (tN τ 5) (tN τ 0) n δ ∧ ∀ q, q < tN τ 5 → δ.2.1 q = tN τ 2
theorem dOK_init {τ : Nat → Int32} {n : Nat} {c : Nat → Nat} (hT : tOK τ) (h0 : 0 < tN τ 5) (hn : n ≤ 52) (hA : tN τ 2 * tN τ 5 < n) (hc : ∀ j, j < n → c j < tN τ 0) : dOK τ n (dInit (tN τ 5) (tN τ 2) n c) :=
  ⟨dW_init h0 hT.2.1.2 hn hA hc, fun _ hq => if_pos hq⟩
theorem rTen_ok {τ : Nat → Int32} {t n : Nat} {δ : dS} {h : Nat → Nat} (hT : tOK τ) (hL : tLaw τ) (hδ : dOK τ n δ) : ∀ k, k ≤ tN τ 5 → dOK τ n (rTen τ t k δ h).1 := by
  intro k
  induction k with
  | zero => intro _; exact hδ
  | succ k ih =>
    intro hk
    have i1 := ih (by omega)
    rw [rTen]
    split
    · have := rTurn_ok (h := (rTen τ t k δ h).2.1) hT hL i1.1 (show k < tN τ 5 by omega) i1.2
      exact ⟨this.1, this.2.1⟩
    · exact i1
theorem rTen_lt {τ : Nat → Int32} {t : Nat} {δ : dS} {h : Nat → Nat} : ∀ {k : Nat} {p : Nat}, (rTen τ t k δ h).2.2 = some p → p < k := by
  intro k
  induction k with
  | zero => intro p q; cases q
  | succ k ih =>
    intro p q
    rw [rTen] at q
    split at q
    · have q2 : (if (rTurn τ k (rTen τ t k δ h).1 (rTen τ t k δ h).2.1).2.2 = true then some k else none) = some p := q
      split at q2
      · cases q2; omega
      · cases q2
    · have := ih q; omega
theorem rTen_stop {τ : Nat → Int32} {t k : Nat} {δ : dS} {h : Nat → Nat} (q : (rTen τ t k δ h).2.2 ≠ none) : ∀ j, rTen τ t (k + j) δ h = rTen τ t k δ h := by
  intro j
  induction j with
  | zero => rfl
  | succ j ih =>
    rw [show k + (j + 1) = k + j + 1 by omega, rTen, if_neg (by rw [ih]; exact fun z => q z.1), ih]
theorem rRun_ok {τ : Nat → Int32} {n : Nat} {δ0 : dS} {f0 : Option Nat} (hT : tOK τ) (hL : tLaw τ) (hδ : dOK τ n δ0) : ∀ t, dOK τ n (rRun τ δ0 f0 t).1 := by
  intro t
  induction t with
  | zero => exact hδ
  | succ t ih =>
    rw [rRun]
    split
    · exact rTen_ok hT hL ih _ (Nat.le_refl _)
    · exact ih
theorem rRun_lt {τ : Nat → Int32} {δ0 : dS} {f0 : Option Nat} (h0 : ∀ p, f0 = some p → p < tN τ 5) : ∀ {t p : Nat}, (rRun τ δ0 f0 t).2.2.1 = some p → p < tN τ 5 := by
  intro t
  induction t with
  | zero => intro p q; exact h0 p q
  | succ t ih =>
    intro p q
    rw [rRun] at q
    split at q
    · exact rTen_lt q
    · exact ih q
/-- the Rounds at r keeps: a deal, how many each handed on, who is FIRST -/
def rR (D : xD) (r N A K : Nat) (δ : dS) (h : Nat → Nat) : Prop := dR D (r + 1) N A K δ ∧ rS D (r + 12) N ∧ ∀ i, i < N → D.1 (r + 13) i = nI (h i)
/-- .. and how all lay at an earlier tenth -/
def rE (D : xD) (r : Nat) (τ : Nat → Int32) (δ0 : dS) (f0 : Option Nat) (L T : Nat) : Prop :=
  D.1 r 5 = -1 ∨ ∃ S, D.1 r 5 = nI S ∧ 0 < S ∧ S ≤ T ∧ S % L = 0 ∧ (rRun τ δ0 f0 S).2.2.1 = none ∧ dR D (r + 19) (tN τ 5) (tN τ 2) (tN τ 0) (rRun τ δ0 f0 S).1 ∧ rS D (r + 30) (tN τ 5) ∧ ∀ i, i < tN τ 5 → D.1 (r + 31) i = nI ((rRun τ δ0 f0 S).2.1 i)
theorem nI_leap {a b x y m : Nat} (h : y + m * b = a + m * x) (hx : x = a) : nI a + nI m * (nI a - nI b) = nI y := by
  subst hx
  rw [Int32.mul_sub, pk_mul, pk_mul, Int32.sub_eq_add_neg, ← Int32.add_assoc, nI_add, ← h, ← nI_add, Int32.add_assoc, Int32.add_right_neg, Int32.add_zero]
