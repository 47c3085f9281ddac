/-! Films: who saw how many spoons when, who pulled first. A film is 21 numbers: 0 how many FRAMES, then the tenth and the set of each. -/
def fT (φ : Nat → Int32) (k : Nat) : Nat := tN φ (1 + 2 * k)
def fW (φ : Nat → Int32) (k : Nat) : Nat := tN φ (2 + 2 * k)
def fOK (φ : Nat → Int32) : Prop := φ 0 = nI (tN φ 0) ∧ tN φ 0 ≤ 10 ∧ ∀ k, k < tN φ 0 → φ (1 + 2 * k) = nI (fT φ k) ∧ fT φ k ≤ 99 ∧ φ (2 + 2 * k) = nI (fW φ k) ∧ fW φ k < 64 ∧ ∀ j, j < k → fT φ j < fT φ k
/-- the object f of class Film holds the film -/
def fR (D : xD) (f : Nat) (φ : Nat → Int32) : Prop := xk f = 5 ∧ rS D (f + 1) (tN φ 0) ∧ rS D (f + 3) (tN φ 0) ∧ ∀ k, k < tN φ 0 → D.1 (f + 2) k = φ (1 + 2 * k) ∧ D.1 (f + 4) k = φ (2 + 2 * k)
theorem fR.out {D D' : xD} {lo hi f : Nat} {φ : Nat → Int32} (h : fR D f φ) (o : xOut lo hi D D') (q : f + 5 ≤ lo ∨ hi ≤ f + 1) : fR D' f φ :=
  ⟨h.1, h.2.1.out o (by omega), h.2.2.1.out o (by omega), fun k hk => by rw [o.1 _ (by omega), o.1 _ (by omega)]; exact h.2.2.2 k hk⟩
def fHas (φ : Nat → Int32) (p k : Nat) : Bool := (fW φ k).testBit p
/-- the first FRAME with him -/
def fFst (φ : Nat → Int32) (p : Nat) : Option Nat := fsN (fHas φ p) (tN φ 0)
/-- TAKEN above this less one .. -/
def fA (φ : Nat → Int32) (p : Nat) : Nat := match fFst φ p with
  | some (k + 1) => fT φ k + 1
  | _ => 0
/-- .. up to this -/
def fU (φ : Nat → Int32) (p : Nat) : Nat := match fFst φ p with
  | some k => fT φ k
  | none => 0
theorem fA_U {φ : Nat → Int32} {p : Nat} (h : fOK φ) (hp : fFst φ p ≠ none) : fA φ p ≤ fU φ p ∧ fU φ p ≤ 99 := by
  unfold fA fU
  cases hf : fFst φ p with
  | none => exact absurd hf hp
  | some k =>
    have hk := (fsN_some hf).1
    obtain ⟨h1, h2, h3⟩ := h
    obtain ⟨g1, g2, g3, g4, g5⟩ := h3 k hk
    cases k with
    | zero => exact ⟨Nat.zero_le _, g2⟩
    | succ k => exact ⟨g5 k (by omega), g2⟩
theorem fU_le {φ : Nat → Int32} {p : Nat} (h : fOK φ) : fU φ p ≤ 99 := by
  by_cases hp : fFst φ p = none
  · unfold fU; rw [hp]; exact Nat.zero_le _
  · exact (fA_U h hp).2
theorem fA_le {φ : Nat → Int32} {p : Nat} (h : fOK φ) : fA φ p ≤ 99 := by
  by_cases hp : fFst φ p = none
  · unfold fA; rw [hp]; exact Nat.zero_le _
  · have := fA_U h hp; omega
theorem aI_0 : nI 0 - (1 : Int32) = -1 := by decide
theorem aI_s (n : Nat) : nI (n + 1) - (1 : Int32) = nI n := pk_sub (a := n + 1) (b := 1) (by omega)
theorem aI_lt {a b : Nat} (ha : a < 2 ^ 30) (hb : b < 2 ^ 30) : nI a - (1 : Int32) < nI b - 1 ↔ a < b := by
  cases a with
  | zero =>
    cases b with
    | zero => rw [aI_0]; exact ⟨fun h => absurd h (by decide), fun h => absurd h (by omega)⟩
    | succ b =>
      rw [aI_0, aI_s]
      exact ⟨fun _ => by omega, fun _ => neg_lt (by decide) (by omega)⟩
  | succ a =>
    cases b with
    | zero =>
      rw [aI_0, aI_s]
      refine ⟨fun h => ?_, fun h => absurd h (by omega)⟩
      have h0 : nI a < 0 := Int32.lt_trans h (by decide)
      exact absurd h0 (nI_pos (by omega))
    | succ b =>
      rw [aI_s, aI_s, nI_ltI (by omega) (by omega)]; omega
/-- what is left of a span -/
theorem aI_span {U M : Nat} (hU : U < 2 ^ 30) (hM : M < 2 ^ 30) {r : Int32} (e : r = if (0 : Int32) < nI U - (nI M - 1) then nI U - (nI M - 1) else 0) : r = nI (U + 1 - M) := by
  cases M with
  | zero =>
    have z : nI U - (nI 0 - 1) = nI (U + 1) := by rw [aI_0, Int32.sub_eq_add_neg, show (-(-1) : Int32) = 1 by decide, nI_1]
    have y : (0 : Int32) < nI (U + 1) := nI_lt (a := 0) (b := U + 1) (by omega) (by omega)
    rw [z, if_pos y] at e
    exact e
  | succ m =>
    rw [aI_s] at e
    by_cases q : m < U
    · have z : (0 : Int32) < nI (U - m) := nI_lt (a := 0) (b := U - m) (by omega) (by omega)
      rw [pk_sub (by omega), if_pos z] at e
      rw [e, show U + 1 - (m + 1) = U - m by omega]
    · rw [show U + 1 - (m + 1) = 0 by omega]
      by_cases y : m = U
      · rw [y, pk_sub (Nat.le_refl _), Nat.sub_self, if_neg (by decide)] at e
        exact e
      · have z : nI U - nI m < 0 := pk_sneg (by omega) (by omega)
        rw [if_neg (fun w => by
          have := Int32.lt_trans w z
          exact absurd this (by decide))] at e
        exact e
def fLieB (φ : Nat → Int32) (k : Nat) : Bool := decide (0 < k) && decide (¬ (nI (fW φ (k - 1)) &&& (nI (fW φ k) ^^^ (-1 : Int32))) = 0)
/-- the least of all others' -/
def fLs (φ : Nat → Int32) (p : Nat) (g : Nat → Nat) : Nat → Nat
  | 0 => 100
  | q + 1 => if q ≠ p ∧ fFst φ q ≠ none ∧ g q < fLs φ p g q then g q else fLs φ p g q
theorem fLs_le {φ : Nat → Int32} {p : Nat} {g : Nat → Nat} : ∀ n, fLs φ p g n ≤ 100 := by
  intro n
  induction n with
  | zero => exact Nat.le_refl _
  | succ n ih => rw [fLs]; split <;> omega
theorem fLs_gt {φ : Nat → Int32} {p B : Nat} {g : Nat → Nat} (hB : B < 100) : ∀ n, B < fLs φ p g n ↔ ∀ q, q < n → q ≠ p → fFst φ q ≠ none → B < g q := by
  intro n
  induction n with
  | zero => exact ⟨fun _ q hq => absurd hq (by omega), fun _ => hB⟩
  | succ n ih =>
    rw [fLs]
    constructor
    · intro h q hq h1 h2
      by_cases z : n ≠ p ∧ fFst φ n ≠ none ∧ g n < fLs φ p g n
      · rw [if_pos z] at h
        by_cases e : q = n
        · rw [e]; exact h
        · exact ih.mp (by omega) q (by omega) h1 h2
      · rw [if_neg z] at h
        by_cases e : q = n
        · subst e
          exact Nat.lt_of_lt_of_le h (Nat.le_of_not_lt (fun y => z ⟨h1, h2, y⟩))
        · exact ih.mp h q (by omega) h1 h2
    · intro h
      have h1 := ih.mpr (fun q hq => h q (by omega))
      split
      · rename_i z; exact h n (by omega) z.1 z.2.1
      · exact h1
def fSureB (φ : Nat → Int32) (N p : Nat) : Bool := decide (fFst φ p ≠ none) && decide (fU φ p < fLs φ p (fA φ) N)
def fMayB (φ : Nat → Int32) (N p : Nat) : Bool := decide (fFst φ p ≠ none) && decide (fA φ p ≤ fLs φ p (fU φ) N)
def fShB (φ : Nat → Int32) (N k : Nat) : Bool := decide (fW φ k % 2 ^ N = 2 ^ N - 1)
def fAns (φ : Nat → Int32) (N : Nat) (x : Int32) : Int32 :=
  if x = 0 then nI (bsN (fLieB φ) (tN φ 0)) else if x = 1 then oI (fsN (fSureB φ N) N) else if x = 2 then nI (bsN (fMayB φ N) N) else if x = 3 then nI (cnN (fShB φ N) (tN φ 0)) else -2
/-- in how many ways all others have theirs at a tenth or later -/
def fWy (φ : Nat → Int32) (p t : Nat) : Nat → Nat
  | 0 => 1
  | q + 1 => if q ≠ p ∧ fFst φ q ≠ none then fWy φ p t q * (fU φ q + 1 - (if fA φ q < t then t else fA φ q)) else fWy φ p t q
theorem fWy_le {φ : Nat → Int32} {p t : Nat} (h : fOK φ) : ∀ n, fWy φ p t n ≤ 100 ^ n := by
  intro n
  induction n with
  | zero => exact Nat.le_refl _
  | succ n ih =>
    have := fU_le (p := n) h
    rw [fWy, Nat.pow_succ]
    split
    · exact Nat.mul_le_mul ih (by omega)
    · omega
theorem fWy_pos {φ : Nat → Int32} {p : Nat} (h : fOK φ) : ∀ n, 0 < fWy φ p 0 n := by
  intro n
  induction n with
  | zero => exact Nat.one_pos
  | succ n ih =>
    rw [fWy]
    split
    · rename_i z
      have := fA_U h z.2
      refine Nat.mul_pos ih ?_
      rw [if_neg (by omega)]
      omega
    · exact ih
def fDown (φ : Nat → Int32) (N p : Nat) : Nat := (fU φ p + 1 - fA φ p) * fWy φ p 0 N
def fUp (φ : Nat → Int32) (N p : Nat) : Nat → Nat
  | 0 => 0
  | m + 1 => fUp φ N p m + fWy φ p (fA φ p + m) N
theorem fUp_le {φ : Nat → Int32} {N p : Nat} (h : fOK φ) (hN : N ≤ 6) : ∀ m, fUp φ N p m ≤ m * 100 ^ 6 := by
  intro m
  induction m with
  | zero => exact Nat.zero_le _
  | succ m ih =>
    have h1 := fWy_le (p := p) (t := fA φ p + m) h N
    have h2 : 100 ^ N ≤ 100 ^ 6 := Nat.pow_le_pow_right (by omega) hN
    rw [fUp, Nat.succ_mul]; omega
section FILM
variable {d : Nat} {D : xD} {f : Nat} {φ : Nat → Int32}
theorem c_Film_frames {P : Int32 → xD → Prop} (hR : fR D f φ) (h : P (nI (tN φ 0)) D) : xCi (d + 2) m_Film_frames [.ref f] D P := by
  refine xCi_of y_Film_frames (Nat.le_of_ble_eq_true rfl) (s_Film_frames_0 hR.1 ?_)
  exact c_Row_size hR.2.1 ⟨_, rfl, h⟩
theorem c_Film_tenth {P : Int32 → xD → Prop} {k : Nat} (hR : fR D f φ) (hF : fOK φ) (hk : k < tN φ 0) (h : P (nI (fT φ k)) D) : xCi (d + 2) m_Film_tenth [.ref f, .int (nI k)] D P := by
  refine xCi_of y_Film_tenth (Nat.le_of_ble_eq_true rfl) (s_Film_tenth_0 hR.1 ?_)
  refine c_get hR.2.1 hk ⟨_, rfl, ?_⟩
  rw [show f + 1 + 1 = f + 2 by omega, (hR.2.2.2 k hk).1, (hF.2.2 k hk).1]; exact h
theorem c_Film_who {P : Int32 → xD → Prop} {k : Nat} (hR : fR D f φ) (hF : fOK φ) (hk : k < tN φ 0) (h : P (nI (fW φ k)) D) : xCi (d + 2) m_Film_who [.ref f, .int (nI k)] D P := by
  refine xCi_of y_Film_who (Nat.le_of_ble_eq_true rfl) (s_Film_who_0 hR.1 ?_)
  refine c_get hR.2.2.1 hk ⟨_, rfl, ?_⟩
  rw [show f + 3 + 1 = f + 4 by omega, (hR.2.2.2 k hk).2, (hF.2.2 k hk).2.2.1]; exact h
theorem c_Film_firstWith {P : Int32 → xD → Prop} {p : Nat} (hR : fR D f φ) (hF : fOK φ) (hp : p < 6) (h : P (oI (fFst φ p)) D) : xCi (d + 3) m_Film_firstWith [.ref f, .int (nI p)] D P := by
  have hn := hF.2.1
  refine xCi_of y_Film_firstWith (Nat.le_of_ble_eq_true rfl) (s_Film_firstWith_0 hR.1 ?_)
  have key : ∀ m k, k + m = tN φ 0 → (∀ i, i < k → fHas φ p i = false) → xPf (d + 3) m_Film_firstWith 2 [(0, .ref f), (1, .int (nI p)), (2, .int (nI k))] [] D (fun r D' => ∃ x, r = some (.int x) ∧ P x D') := by
    intro m
    induction m with
    | zero =>
      intro k hk hall
      refine s_Film_firstWith_2 hR.1 (c_Film_frames hR ⟨fun _ => ⟨_, rfl, ?_⟩, fun q => absurd (nI_le (by omega) (by omega)) q⟩)
      have e : fFst φ p = none := fsN_none.mpr (fun i hi => hall i (by omega))
      rw [e] at h; exact h
    | succ m ih =>
      intro k hk hall
      refine s_Film_firstWith_2 hR.1 (c_Film_frames hR ⟨fun q => absurd q (nI_ge (by omega) (by omega)), fun _ => ?_⟩)
      refine c_Film_who hR hF (by omega) ?_
      have hw := (hF.2.2 k (by omega)).2.2.2.1
      rw [yb_bit (by omega) (by omega), nI_1 k]
      cases hb : (fW φ k).testBit p with
      | false =>
        refine ⟨fun _ => ih (k + 1) (by omega) (fun i hi => ?_), fun q => absurd rfl q⟩
        by_cases e : i = k
        · rw [e]; exact hb
        · exact hall i (by omega)
      | true =>
        refine ⟨fun q => absurd q (by decide), fun _ => ⟨_, rfl, ?_⟩⟩
        have e : fFst φ p = some k := fsN_at hall hb (by omega)
        rw [e] at h; exact h
  exact key (tN φ 0) 0 (by omega) (fun i hi => absurd hi (by omega))
theorem fFst_lt {p k : Nat} (hF : fOK φ) (h : fFst φ p = some k) : k < 10 := by
  have := (fsN_some h).1
  have := hF.2.1
  omega
theorem oI_m1 {r : Option Nat} (h : ∀ k, r = some k → k < 2 ^ 31) : oI r = -1 ↔ r = none := oI_iff h
theorem fFst_m1 {p : Nat} (hF : fOK φ) : oI (fFst φ p) = -1 ↔ fFst φ p = none := oI_iff (fun k hk => by have := fFst_lt hF hk; omega)
theorem c_Film_above {P : Int32 → xD → Prop} {p : Nat} (hR : fR D f φ) (hF : fOK φ) (hp : p < 6) (h : P (nI (fA φ p) - 1) D) : xCi (d + 4) m_Film_above [.ref f, .int (nI p)] D P := by
  refine xCi_of y_Film_above (Nat.le_of_ble_eq_true rfl) (s_Film_above_0 hR.1 (c_Film_firstWith hR hF hp ?_))
  unfold fA at h
  cases hf : fFst φ p with
  | none =>
    rw [hf] at h
    exact ⟨fun _ => ⟨_, rfl, h⟩, fun q => absurd (show (-1 : Int32) ≤ 0 by decide) q⟩
  | some k =>
    have hk := fFst_lt hF hf
    have hk2 := (fsN_some hf).1
    rw [hf] at h
    cases k with
    | zero => exact ⟨fun _ => ⟨_, rfl, h⟩, fun q => absurd (show nI 0 ≤ 0 by decide) q⟩
    | succ k =>
      have h : P (nI (fT φ k + 1) - 1) D := h
      rw [aI_s] at h
      show (nI (k + 1) ≤ 0 → _) ∧ (¬ nI (k + 1) ≤ 0 → xCi (d + 3) m_Film_tenth [.ref f, .int (nI (k + 1) - 1)] D _)
      rw [aI_s]
      exact ⟨fun q => absurd q (nI_nle (by omega) (by omega)), fun _ => c_Film_tenth hR hF (by omega) ⟨_, rfl, h⟩⟩
theorem c_Film_upTo {P : Int32 → xD → Prop} {p : Nat} (hR : fR D f φ) (hF : fOK φ) (hp : p < 6) (hs : fFst φ p ≠ none) (h : P (nI (fU φ p)) D) : xCi (d + 4) m_Film_upTo [.ref f, .int (nI p)] D P := by
  refine xCi_of y_Film_upTo (Nat.le_of_ble_eq_true rfl) (s_Film_upTo_0 hR.1 (c_Film_firstWith hR hF hp ?_))
  unfold fU at h
  cases hf : fFst φ p with
  | none => exact absurd hf hs
  | some k =>
    rw [hf] at h
    exact c_Film_tenth hR hF (fsN_some hf).1 ⟨_, rfl, h⟩
theorem c_Film_lies {P : Int32 → xD → Prop} (hR : fR D f φ) (hF : fOK φ) (h : P (nI (bsN (fLieB φ) (tN φ 0))) D) : xCi (d + 3) m_Film_lies [.ref f] D P := by
  have hn := hF.2.1
  refine xCi_of y_Film_lies (Nat.le_of_ble_eq_true rfl) (s_Film_lies_0 hR.1 ?_)
  have b1 : bsN (fLieB φ) 1 = 0 := by
    show 0 + (if fLieB φ 0 = true then 2 ^ 0 else 0) = 0
    have : fLieB φ 0 = false := by unfold fLieB; rfl
    rw [this]; rfl
  have key : ∀ m k, k + m = tN φ 0 ∨ (tN φ 0 = 0 ∧ m = 0) → 0 < k → k ≤ 10 → (tN φ 0 = 0 → k = 1) → xPf (d + 3) m_Film_lies 4 [(0, .ref f), (1, .int (nI (bsN (fLieB φ) k))), (2, .int (nI k))] [] D (fun r D' => ∃ x, r = some (.int x) ∧ P x D') := by
    intro m
    induction m with
    | zero =>
      intro k hk h0 h10 hz
      refine s_Film_lies_4 hR.1 (c_Film_frames hR ⟨fun _ => ⟨_, rfl, ?_⟩, fun q => absurd (nI_le (by omega) (by omega)) q⟩)
      by_cases z : tN φ 0 = 0
      · rw [z] at h
        rw [hz z, b1]; exact h
      · rw [show k = tN φ 0 by omega]; exact h
    | succ m ih =>
      intro k hk h0 h10 hz
      have nx := ih (k + 1) (by omega) (by omega) (by omega) (by omega)
      rw [bsN] at nx
      refine s_Film_lies_4 hR.1 (c_Film_frames hR ⟨fun q => absurd q (nI_ge (by omega) (by omega)), fun _ => ?_⟩)
      rw [show nI k - (1 : Int32) = nI (k - 1) from pk_sub (a := k) (b := 1) (by omega)]
      refine c_Film_who hR hF (by omega) (c_Film_who hR hF (by omega) ?_)
      rw [nI_1 k]
      refine ⟨fun q => ?_, fun q => ?_⟩
      · have e : fLieB φ k = false := by
          unfold fLieB
          rw [decide_eq_false (p := ¬ _) (fun z => z q), Bool.and_false]
        rw [e, if_neg Bool.false_ne_true, Nat.add_zero] at nx
        exact nx
      · have e : fLieB φ k = true := by
          unfold fLieB
          rw [decide_eq_true (p := ¬ _) q, decide_eq_true h0]; rfl
        rw [e, if_pos rfl] at nx
        rw [bsN_s (by omega)]
        exact nx
  have := key (tN φ 0 - 1) 1 (by omega) (by omega) (by omega) (fun _ => rfl)
  rw [b1] at this
  exact this
theorem c_Film_leastOfOthers {P : Int32 → xD → Prop} {N p : Nat} {x : Int32} {g : Nat → Nat} (hR : fR D f φ) (hF : fOK φ) (hN : N ≤ 6) (hp : p < 6) (hg : ∀ q, g q = if x = 0 then fA φ q else fU φ q) (h : P (nI (fLs φ p g N)) D) : xCi (d + 5) m_Film_leastOfOthers [.ref f, .int (nI N), .int (nI p), .int x] D P := by
  refine xCi_of y_Film_leastOfOthers (Nat.le_of_ble_eq_true rfl) (s_Film_leastOfOthers_0 hR.1 ?_)
  have key : ∀ m q, q + m = N → xPf (d + 5) m_Film_leastOfOthers 7 [(0, .ref f), (1, .int (nI N)), (2, .int (nI p)), (3, .int x), (4, .int (nI (fLs φ p g q))), (5, .int (nI q))] [] D (fun r D' => ∃ x, r = some (.int x) ∧ P x D') := by
    intro m
    induction m with
    | zero =>
      intro q hq
      refine s_Film_leastOfOthers_7 hR.1 ⟨fun _ => ⟨_, rfl, ?_⟩, fun z => absurd (nI_le (by omega) (by omega)) z⟩
      rw [show q = N by omega]; exact h
    | succ m ih =>
      intro q hq
      have nx := ih (q + 1) (by omega)
      rw [fLs] at nx
      have hl := fLs_le (φ := φ) (p := p) (g := g) q
      refine s_Film_leastOfOthers_7 hR.1 ⟨fun z => absurd z (nI_ge (by omega) (by omega)), fun _ => ?_⟩
      rw [nI_1 q]
      refine ⟨fun z => ?_, fun z => ?_⟩
      · rw [if_neg (fun y => y.1 ((nI_eq (by omega) (by omega)).mp z))] at nx
        exact nx
      · have z1 : q ≠ p := fun y => z (by rw [y])
        refine c_Film_firstWith hR hF (by omega) ?_
        rw [fFst_m1 hF]
        refine ⟨fun y => ?_, fun y => ?_⟩
        · rw [if_neg (fun w => w.2.1 y)] at nx
          exact nx
        · have mn : ∀ r : Int32, r = (if nI (g q) < nI (fLs φ p g q) then nI (g q) else nI (fLs φ p g q)) → g q < 2 ^ 30 → r = nI (if q ≠ p ∧ fFst φ q ≠ none ∧ g q < fLs φ p g q then g q else fLs φ p g q) := fun r er hb => by
            rw [er]
            by_cases w : g q < fLs φ p g q
            · rw [if_pos (nI_lt w (by omega)), if_pos ⟨z1, y, w⟩]
            · rw [if_neg (fun v => w ((nI_ltI (by omega) (by omega)).mp v)), if_neg (fun v => w v.2.2)]
          refine ⟨fun w => ?_, fun w => ?_⟩
          · have eg : g q = fA φ q := by rw [hg, if_pos w]
            have ha := fA_le (p := q) hF
            refine c_Film_above hR hF (by omega) (fun r5 e5 => ?_)
            rw [show nI (fA φ q) - 1 + (1 : Int32) = nI (g q) by rw [Int32.sub_eq_add_neg, Int32.add_assoc, show (-1 : Int32) + 1 = 0 by decide, Int32.add_zero, eg]] at e5
            rw [mn r5 e5 (by omega)]
            exact nx
          · have eg : g q = fU φ q := by rw [hg, if_neg w]
            have hu := fU_le (p := q) hF
            refine c_Film_upTo hR hF (by omega) y (fun r5 e5 => ?_)
            rw [← eg] at e5
            rw [mn r5 e5 (by omega)]
            exact nx
  exact key N 0 (by omega)
theorem c_Film_sure {P : Int32 → xD → Prop} {N : Nat} (hR : fR D f φ) (hF : fOK φ) (hN : N ≤ 6) (h : P (oI (fsN (fSureB φ N) N)) D) : xCi (d + 6) m_Film_sure [.ref f, .int (nI N)] D P := by
  refine xCi_of y_Film_sure (Nat.le_of_ble_eq_true rfl) (s_Film_sure_0 hR.1 ?_)
  have key : ∀ m p, p + m = N → (∀ i, i < p → fSureB φ N i = false) → xPf (d + 6) m_Film_sure 2 [(0, .ref f), (1, .int (nI N)), (2, .int (nI p))] [] D (fun r D' => ∃ x, r = some (.int x) ∧ P x D') := by
    intro m
    induction m with
    | zero =>
      intro p hp hall
      refine s_Film_sure_2 hR.1 ⟨fun _ => ⟨_, rfl, ?_⟩, fun q => absurd (nI_le (by omega) (by omega)) q⟩
      rw [fsN_none.mpr (fun i hi => hall i (by omega))] at h; exact h
    | succ m ih =>
      intro p hp hall
      have skip : fSureB φ N p = false → xPf (d + 6) m_Film_sure 2 [(0, .ref f), (1, .int (nI N)), (2, .int (nI (p + 1)))] [] D (fun r D' => ∃ x, r = some (.int x) ∧ P x D') := fun q => ih (p + 1) (by omega) (fun i hi => by
        by_cases e : i = p
        · rw [e]; exact q
        · exact hall i (by omega))
      refine s_Film_sure_2 hR.1 ⟨fun q => absurd q (nI_ge (by omega) (by omega)), fun _ => c_Film_firstWith hR hF (by omega) ?_⟩
      rw [fFst_m1 hF, nI_1 p]
      refine ⟨fun y => skip ?_, fun y => ?_⟩
      · unfold fSureB
        rw [decide_eq_false (p := fFst φ p ≠ none) (fun w => w y)]; rfl
      · have hl := fLs_le (φ := φ) (p := p) (g := fA φ) N
        have hu := fU_le (p := p) hF
        refine c_Film_leastOfOthers (g := fA φ) hR hF hN (by omega) (fun q => by rw [if_pos rfl]) (c_Film_upTo hR hF (by omega) y ?_)
        refine ⟨fun w => skip ?_, fun w => ⟨_, rfl, ?_⟩⟩
        · have w1 := (nI_leI (by omega) (by omega)).mp w
          unfold fSureB
          rw [decide_eq_false (p := fU φ p < fLs φ p (fA φ) N) (by omega), Bool.and_false]
        · have e : fSureB φ N p = true := by
            unfold fSureB
            rw [decide_eq_true (p := fFst φ p ≠ none) y, decide_eq_true (p := fU φ p < fLs φ p (fA φ) N) (Nat.lt_of_not_le (fun v => w (nI_le v (by omega))))]; rfl
          rw [fsN_at hall e (by omega)] at h
          exact h
  exact key N 0 (by omega) (fun i hi => absurd hi (by omega))
theorem c_Film_may {P : Int32 → xD → Prop} {N : Nat} (hR : fR D f φ) (hF : fOK φ) (hN : N ≤ 6) (h : P (nI (bsN (fMayB φ N) N)) D) : xCi (d + 6) m_Film_may [.ref f, .int (nI N)] D P := by
  refine xCi_of y_Film_may (Nat.le_of_ble_eq_true rfl) (s_Film_may_0 hR.1 ?_)
  have key : ∀ m p, p + m = N → xPf (d + 6) m_Film_may 4 [(0, .ref f), (1, .int (nI N)), (2, .int (nI (bsN (fMayB φ N) p))), (3, .int (nI p))] [] D (fun r D' => ∃ x, r = some (.int x) ∧ P x D') := by
    intro m
    induction m with
    | zero =>
      intro p hp
      refine s_Film_may_4 hR.1 ⟨fun _ => ⟨_, rfl, ?_⟩, fun q => absurd (nI_le (by omega) (by omega)) q⟩
      rw [show p = N by omega]; exact h
    | succ m ih =>
      intro p hp
      have nx := ih (p + 1) (by omega)
      rw [bsN] at nx
      have skip : fMayB φ N p = false → xPf (d + 6) m_Film_may 4 [(0, .ref f), (1, .int (nI N)), (2, .int (nI (bsN (fMayB φ N) p))), (3, .int (nI (p + 1)))] [] D (fun r D' => ∃ x, r = some (.int x) ∧ P x D') := fun q => by
        rw [q, if_neg Bool.false_ne_true, Nat.add_zero] at nx; exact nx
      refine s_Film_may_4 hR.1 ⟨fun q => absurd q (nI_ge (by omega) (by omega)), fun _ => c_Film_firstWith hR hF (by omega) ?_⟩
      rw [fFst_m1 hF, nI_1 p]
      refine ⟨fun y => skip ?_, fun y => ?_⟩
      · unfold fMayB
        rw [decide_eq_false (p := fFst φ p ≠ none) (fun w => w y)]; rfl
      · have hl := fLs_le (φ := φ) (p := p) (g := fU φ) N
        have ha := fA_le (p := p) hF
        refine c_Film_leastOfOthers (g := fU φ) hR hF hN (by omega) (fun q => by rw [if_neg (by decide)]) (c_Film_above hR hF (by omega) ?_)
        have cmp : nI (fLs φ p (fU φ) N) ≤ nI (fA φ p) - 1 ↔ ¬ fA φ p ≤ fLs φ p (fU φ) N := by
          cases hA : fA φ p with
          | zero =>
            rw [aI_0]
            exact ⟨fun w => absurd (Int32.lt_of_le_of_lt w (by decide)) (nI_pos (n := fLs φ p (fU φ) N) (by omega)), fun w => absurd (Nat.zero_le _) w⟩
          | succ a =>
            rw [aI_s, nI_leI (by omega) (by omega)]; omega
        rw [cmp]
        refine ⟨fun w => skip ?_, fun w => ?_⟩
        · unfold fMayB
          rw [decide_eq_false (p := fA φ p ≤ fLs φ p (fU φ) N) w, Bool.and_false]
        · have e : fMayB φ N p = true := by
            unfold fMayB
            rw [decide_eq_true (p := fFst φ p ≠ none) y, decide_eq_true (p := fA φ p ≤ fLs φ p (fU φ) N) (Decidable.not_not.mp w)]; rfl
          rw [e, if_pos rfl] at nx
          rw [bsN_s (by omega)]
          exact nx
  exact key N 0 (by omega)
theorem c_Film_shorts {P : Int32 → xD → Prop} {N : Nat} (hR : fR D f φ) (hF : fOK φ) (hN : N ≤ 6) (h : P (nI (cnN (fShB φ N) (tN φ 0))) D) : xCi (d + 3) m_Film_shorts [.ref f, .int (nI N)] D P := by
  have hn := hF.2.1
  refine xCi_of y_Film_shorts (Nat.le_of_ble_eq_true rfl) (s_Film_shorts_0 hR.1 ?_)
  have h2 : 2 ^ N ≤ 2 ^ 6 := Nat.pow_le_pow_right (by omega) hN
  have h1 : 0 < 2 ^ N := Nat.two_pow_pos N
  rw [yb_1 (by omega), show nI (2 ^ N) - (1 : Int32) = nI (2 ^ N - 1) from pk_sub (a := 2 ^ N) (b := 1) h1]
  have key : ∀ m k, k + m = tN φ 0 → xPf (d + 3) m_Film_shorts 11 [(0, .ref f), (1, .int (nI N)), (2, .int (nI (2 ^ N - 1))), (3, .int (nI (cnN (fShB φ N) k))), (4, .int (nI k))] [] D (fun r D' => ∃ x, r = some (.int x) ∧ P x D') := by
    intro m
    induction m with
    | zero =>
      intro k hk
      refine s_Film_shorts_11 hR.1 (c_Film_frames hR ⟨fun _ => ⟨_, rfl, ?_⟩, fun q => absurd (nI_le (by omega) (by omega)) q⟩)
      rw [show k = tN φ 0 by omega]; exact h
    | succ m ih =>
      intro k hk
      have nx := ih (k + 1) (by omega)
      rw [cnN] at nx
      refine s_Film_shorts_11 hR.1 (c_Film_frames hR ⟨fun q => absurd q (nI_ge (by omega) (by omega)), fun _ => ?_⟩)
      refine c_Film_who hR hF (by omega) ?_
      have hm : fW φ k % 2 ^ N < 2 ^ N := Nat.mod_lt _ h1
      rw [yb_and, Nat.and_two_pow_sub_one_eq_mod, nI_eq (by omega) (by omega), nI_1 k]
      refine ⟨fun q => ?_, fun q => ?_⟩
      · have e : fShB φ N k = false := by unfold fShB; exact decide_eq_false q
        rw [e, if_neg Bool.false_ne_true, Nat.add_zero] at nx
        rw [Int32.add_zero]; exact nx
      · have e : fShB φ N k = true := by unfold fShB; exact decide_eq_true q
        rw [e, if_pos rfl] at nx
        rw [nI_1]; exact nx
  exact key (tN φ 0) 0 (by omega)
theorem c_Film_answer {P : Int32 → xD → Prop} {N : Nat} {x : Int32} (hR : fR D f φ) (hF : fOK φ) (hN : N ≤ 6) (h : P (fAns φ N x) D) : xCi (d + 7) m_Film_answer [.ref f, .int (nI N), .int x] D P := by
  refine xCi_of y_Film_answer (Nat.le_of_ble_eq_true rfl) (s_Film_answer_0 hR.1 ?_)
  unfold fAns at h
  refine ⟨fun q => ?_, fun q => ?_, fun q => ?_, fun q => ?_, fun q => ⟨_, rfl, ?_⟩⟩
  · rw [if_pos q] at h
    exact c_Film_lies hR hF ⟨_, rfl, h⟩
  · subst q
    rw [if_neg (by decide), if_pos rfl] at h
    exact c_Film_sure hR hF hN ⟨_, rfl, h⟩
  · subst q
    rw [if_neg (by decide), if_neg (by decide), if_pos rfl] at h
    exact c_Film_may hR hF hN ⟨_, rfl, h⟩
  · subst q
    rw [if_neg (by decide), if_neg (by decide), if_neg (by decide), if_pos rfl] at h
    exact c_Film_shorts hR hF hN ⟨_, rfl, h⟩
  · have no : ∀ k : Int32, 0 ≤ k.toInt → k.toInt ≤ 3 → ¬ x = k := fun k k0 k3 e => by rw [e] at q; omega
    rw [if_neg (no 0 (by decide) (by decide)), if_neg (no 1 (by decide) (by decide)), if_neg (no 2 (by decide) (by decide)), if_neg (no 3 (by decide) (by decide))] at h
    exact h
theorem c_Film_waysOfOthers {P : Int64 → xD → Prop} {N p t : Nat} (hR : fR D f φ) (hF : fOK φ) (hN : N ≤ 6) (hp : p < 6) (ht : t < 2 ^ 20) (h : P (lN (fWy φ p t N)) D) : xCl (d + 5) m_Film_waysOfOthers [.ref f, .int (nI N), .int (nI p), .int (nI t)] D P := by
  refine xCl_of y_Film_waysOfOthers (Nat.le_of_ble_eq_true rfl) (s_Film_waysOfOthers_0 hR.1 ?_)
  have key : ∀ m q, q + m = N → xPf (d + 5) m_Film_waysOfOthers 6 [(0, .ref f), (1, .int (nI N)), (2, .int (nI p)), (3, .int (nI t)), (4, .long (lN (fWy φ p t q))), (6, .int (nI q))] [] D (fun r D' => ∃ x, r = some (.long x) ∧ P x D') := by
    intro m
    induction m with
    | zero =>
      intro q hq
      refine s_Film_waysOfOthers_6 hR.1 ⟨fun _ => ⟨_, rfl, ?_⟩, fun z => absurd (nI_le (by omega) (by omega)) z⟩
      rw [show q = N by omega]; exact h
    | succ m ih =>
      intro q hq
      have nx := ih (q + 1) (by omega)
      rw [fWy] at nx
      refine s_Film_waysOfOthers_6 hR.1 ⟨fun z => absurd z (nI_ge (by omega) (by omega)), fun _ => ?_⟩
      rw [nI_1 q]
      refine ⟨fun z => ?_, fun z => ?_⟩
      · rw [if_neg (fun y => y.1 ((nI_eq (by omega) (by omega)).mp z))] at nx
        exact nx
      · have z1 : q ≠ p := fun y => z (by rw [y])
        refine c_Film_firstWith hR hF (by omega) ?_
        rw [fFst_m1 hF]
        refine ⟨fun y => ?_, fun y => ?_⟩
        · rw [if_neg (fun w => w.2 y)] at nx
          exact nx
        · have ha := fA_le (p := q) hF
          have hu := fU_le (p := q) hF
          refine c_Film_upTo hR hF (by omega) y (c_Film_above hR hF (by omega) (fun r7 e7 r8 e8 => ?_))
          have f7 : r7 = nI (if fA φ q < t then t else fA φ q) - 1 := by
            rw [e7]
            by_cases w : fA φ q < t
            · rw [if_pos w, if_pos ((aI_lt (by omega) (by omega)).mpr w)]
            · rw [if_neg w, if_neg (fun v => w ((aI_lt (by omega) (by omega)).mp v))]
          rw [f7] at e8
          have hm : (if fA φ q < t then t else fA φ q) < 2 ^ 30 := by split <;> omega
          rw [aI_span (by omega) hm e8, nI_l (by omega), lN_mul]
          rw [if_pos ⟨z1, y⟩] at nx
          exact nx
  exact key N 0 (by omega)
theorem c_Film_likelyFirst {P : Int64 → xD → Prop} {N p : Nat} {x : Int32} (hR : fR D f φ) (hF : fOK φ) (hN : N ≤ 6) (hp : p < 6) (hs : fFst φ p ≠ none) (h : P (lN (lst (fUp φ N p (fU φ p + 1 - fA φ p)) (fDown φ N p) (x ≠ 0))) D) : xCl (d + 6) m_Film_likelyFirst [.ref f, .int (nI N), .int (nI p), .int x] D P := by
  obtain ⟨hAU, hU⟩ := fA_U hF hs
  refine xCl_of y_Film_likelyFirst (Nat.le_of_ble_eq_true rfl) (s_Film_likelyFirst_0 hR.1 ?_)
  refine c_Film_upTo hR hF hp hs (c_Film_above hR hF hp (c_Film_above hR hF hp ?_))
  have e1 : nI (fU φ p) - (nI (fA φ p) - 1) = nI (fU φ p + 1 - fA φ p) := by
    cases hA : fA φ p with
    | zero => rw [aI_0, Int32.sub_eq_add_neg, show (-(-1) : Int32) = 1 by decide, nI_1]; rfl
    | succ a => rw [aI_s, pk_sub (by omega), show fU φ p + 1 - (a + 1) = fU φ p - a by omega]
  have e2 : nI (fA φ p) - 1 + (1 : Int32) = nI (fA φ p + 0) := by rw [Int32.sub_eq_add_neg, Int32.add_assoc, show (-1 : Int32) + 1 = 0 by decide, Int32.add_zero, Nat.add_zero]
  rw [e1, e2, nI_l (by omega)]
  have key : ∀ m i, i + m = fU φ p + 1 - fA φ p → xPf (d + 6) m_Film_likelyFirst 26 [(0, .ref f), (1, .int (nI N)), (2, .int (nI p)), (3, .int x), (4, .long (lN (fU φ p + 1 - fA φ p))), (6, .long (lN (fUp φ N p i))), (8, .int (nI (fA φ p + i)))] [] D (fun r D' => ∃ x, r = some (.long x) ∧ P x D') := by
    intro m
    induction m with
    | zero =>
      intro i hi
      have ei : i = fU φ p + 1 - fA φ p := by omega
      subst ei
      refine s_Film_likelyFirst_26 hR.1 (c_Film_upTo hR hF hp hs ⟨fun _ => ?_, fun q => absurd (nI_lt (by omega) (by omega)) q⟩)
      refine c_Film_waysOfOthers (t := 0) hR hF hN hp (by omega) ?_
      rw [lN_mul]
      have u1 := fUp_le (p := p) hF hN (fU φ p + 1 - fA φ p)
      have u2 : (fU φ p + 1 - fA φ p) * 100 ^ 6 ≤ 100 * 100 ^ 6 := Nat.mul_le_mul_right _ (by omega)
      have w1 := fWy_le (p := p) (t := 0) hF N
      have w2 : 100 ^ N ≤ 100 ^ 6 := Nat.pow_le_pow_right (by omega) hN
      have w3 : (fU φ p + 1 - fA φ p) * fWy φ p 0 N ≤ 100 * 100 ^ 6 := Nat.mul_le_mul (by omega) (by omega)
      exact c_S_leastTerms (by omega) (by omega) (Nat.mul_pos (by omega) (fWy_pos hF N)) ⟨_, rfl, h⟩
    | succ m ih =>
      intro i hi
      refine s_Film_likelyFirst_26 hR.1 (c_Film_upTo hR hF hp hs ⟨fun q => absurd q (nI_nlt (by omega) (by omega)), fun _ => ?_⟩)
      refine c_Film_waysOfOthers hR hF hN hp (by omega) ?_
      rw [lN_add, nI_1 (fA φ p + i)]
      exact ih (i + 1) (by omega)
  exact key (fU φ p + 1 - fA φ p) 0 (by omega)
theorem c_Film_clear {P : xD → Prop} (k0 : xk f = 5) (h : ∀ D', xOut (f + 1) (f + 5) D D' → rS D' (f + 1) 0 → rS D' (f + 3) 0 → P D') : xCv (d + 2) m_Film_clear [.ref f] D P := by
  refine xCv_of y_Film_clear (Nat.le_of_ble_eq_true rfl) (s_Film_clear_0 k0 ?_)
  refine c_clear (ck_5_0 k0) (fun D1 o1 w1 => c_clear (ck_5_1 k0) (fun D2 o2 w2 => ⟨rfl, ?_⟩))
  exact h D2 ((o1.mono (by omega) (by omega)).trans (o2.mono (by omega) (by omega))) (w1.out o2 (by omega)) w2
theorem c_Film_copy {P : xD → Prop} {g : Nat} (k0 : xk g = 5) (hR : fR D f φ) (h10 : tN φ 0 ≤ 10) (hd : g + 5 ≤ f ∨ f + 5 ≤ g) (h : ∀ D', xOut (g + 1) (g + 5) D D' → fR D' g φ → P D') : xCv (d + 2) m_Film_copy [.ref g, .ref f] D P := by
  have l2 : xl (g + 1 + 1) = 10 := cl_5_0 k0
  have l4 : xl (g + 3 + 1) = 10 := cl_5_1 k0
  refine xCv_of y_Film_copy (Nat.le_of_ble_eq_true rfl) (s_Film_copy_0 k0 hR.1 ?_)
  refine c_rcopy (ck_5_0 k0) hR.2.1 (by omega) (fun D1 o1 w1 v1 => ?_)
  refine c_rcopy (ck_5_1 k0) (hR.2.2.1.out o1 (by omega)) (by omega) (fun D2 o2 w2 v2 => ⟨rfl, ?_⟩)
  refine h D2 ((o1.mono (by omega) (by omega)).trans (o2.mono (by omega) (by omega))) ⟨k0, w1.out o2 (by omega), w2, fun k hk => ⟨?_, ?_⟩⟩
  · rw [o2.1 _ (by omega), show g + 2 = g + 1 + 1 by omega, v1 k hk, show f + 1 + 1 = f + 2 by omega]; exact (hR.2.2.2 k hk).1
  · rw [show g + 4 = g + 3 + 1 by omega, v2 k hk, o1.1 _ (by omega), show f + 3 + 1 = f + 4 by omega]; exact (hR.2.2.2 k hk).2
end FILM
