/-! What is asked of what is told: the answers, and the class's. -/
theorem qn {A : Prop} {B : Nat → Prop} (h : A) : ((none : Option Nat) = none → A) ∧ ∀ b, (none : Option Nat) = some b → B b := ⟨fun _ => h, fun b q => by cases q⟩
theorem qs {A : Prop} {B : Nat → Prop} {t : Nat} (h : B t) : (some t = none → A) ∧ ∀ b, some t = some b → B b := ⟨fun q => (by cases q), fun b q => by cases q; exact h⟩
theorem z0 {A B : Prop} (h : A) : ((0 : Int32) = 0 → A) ∧ (¬ (0 : Int32) = 0 → B) := ⟨fun _ => h, fun q => absurd rfl q⟩
theorem z0' {A B : Prop} (h : A) : (¬ (0 : Int32) = 0 → B) ∧ ((0 : Int32) = 0 → A) := ⟨fun q => absurd rfl q, fun _ => h⟩
theorem z1 {A B : Prop} (h : B) : ((1 : Int32) = 0 → A) ∧ (¬ (1 : Int32) = 0 → B) := ⟨fun q => absurd q (by decide), fun _ => h⟩
theorem z1' {A B : Prop} (h : B) : (¬ (1 : Int32) = 0 → B) ∧ ((1 : Int32) = 0 → A) := ⟨fun _ => h, fun q => absurd q (by decide)⟩
/-- whether an index is one of n, as it is asked -/
theorem rgLt {A A' B : Prop} {x : Int32} (n : Nat) (hn : n < 2 ^ 31) (h0 : slotOf n x = none → A) (h1 : slotOf n x = none → A') (hs : ∀ k, k < n → slotOf n x = some k → x = nI k → B) : (x < 0 → A) ∧ (¬ x < 0 → (x < nI n → B) ∧ (¬ x < nI n → A')) := by
  cases hx : slotOf n x with
  | none =>
    rcases slot_none hn hx with q | ⟨q, z⟩
    · exact ⟨fun _ => h0 hx, fun c => absurd q c⟩
    · exact ⟨fun c => absurd c q, fun _ => ⟨fun c => absurd z (Int32.not_le.mpr c), fun _ => h1 hx⟩⟩
  | some k =>
    obtain ⟨h, e⟩ := slot_some hx
    subst e
    exact ⟨fun c => absurd c (nI_pos (by omega)), fun _ => ⟨fun _ => hs k h hx rfl, fun c => absurd (nI_lt h hn) c⟩⟩
theorem rgLe {A A' B : Prop} {x : Int32} (n : Nat) (hn : n < 2 ^ 31) (h0 : slotOf n x = none → A) (h1 : slotOf n x = none → A') (hs : ∀ k, k < n → slotOf n x = some k → x = nI k → B) : (x < 0 → A) ∧ (¬ x < 0 → (nI n ≤ x → A') ∧ (¬ nI n ≤ x → B)) := by
  cases hx : slotOf n x with
  | none =>
    rcases slot_none hn hx with q | ⟨q, z⟩
    · exact ⟨fun _ => h0 hx, fun c => absurd q c⟩
    · exact ⟨fun c => absurd c q, fun _ => ⟨fun _ => h1 hx, fun c => absurd z c⟩⟩
  | some k =>
    obtain ⟨h, e⟩ := slot_some hx
    subst e
    exact ⟨fun c => absurd c (nI_pos (by omega)), fun _ => ⟨fun c => absurd c (nI_ge h hn), fun _ => hs k h hx rfl⟩⟩
/-- the text of a sort at an index -/
def txO (σ : sT) (s : Nat) (x : Int32) : Option (Nat → Int32) := match slotOf (σ.2.2.1 s) x with
  | none => none
  | some k => some (σ.2.2.2 s k)
section AT
variable {d : Nat} {D : xD} {g : gS}
theorem c_sheet {P : Option Nat → xD → Prop} {s : Nat} {x : Int32} (hI : cI D g) (hs5 : s < 5) (hn : txO g.1 s x = none → P none D) (hs : ∀ a ξ, txO g.1 s x = some ξ → 7 ≤ a → a + 19 ≤ 45 → xk a = 3 → shR D a s ξ → txOK s ξ → P (some a) D) : xCq (d + 3) m_Told_sheetAt [.ref 1, .int (nI s), .int x] D P := by
  obtain ⟨i1, i2, -⟩ := hI
  have h2 := (i2.2.2 s hs5).1
  refine c_Told_sheetAt i1 i2 hs5 ?_
  unfold txO at hn hs
  cases hx : slotOf (g.1.2.2.1 s) x with
  | none => rw [hx] at hn; exact hn rfl
  | some k =>
    rw [hx] at hs
    obtain ⟨h1, -⟩ := slot_some hx
    exact hs _ _ rfl (by omega) (by omega) (told_sheet i1.1 (by omega)) (i1.2.2.2.2.2.2.2 s hs5 k h1) ((i2.2.2 s hs5).2 k h1)
theorem c_S_tableAt {P : Option Nat → xD → Prop} {x : Int32} (hI : cI D g) (hn : txO g.1 0 x = none → P none D) (hs : ∀ t τ, txO g.1 0 x = some τ → 8 ≤ t → t + 5 ≤ 46 → tR D t τ → tOK τ → tLaw τ → tFit τ → P (some t) D) : xCq (d + 4) m_S_tableAt [.ref 0, .int x] D P := by
  refine xCq_of y_S_tableAt (Nat.le_of_ble_eq_true rfl) (s_S_tableAt_0 xk_0 ?_)
  refine c_sheet (s := 0) hI (by omega) (fun q => qn ⟨none, rfl, hn q⟩) (fun a ξ q a1 a2 ka hR hx => qs ⟨ka, some (a + 1), rfl, ?_⟩)
  have ht := hx.1 rfl
  exact hs _ _ q (by omega) (by omega) (hR.1 rfl) ht.1 ht.2.1 ht.2.2
theorem c_S_heapAt {P : Option Nat → xD → Prop} {x : Int32} (hI : cI D g) (hn : txO g.1 1 x = none → P none D) (hs : ∀ a η, txO g.1 1 x = some η → 8 ≤ a → a + 2 ≤ 46 → rS D a (tN η 0) → (∀ i, i < tN η 0 → D.1 (a + 1) i = η (1 + i)) → hpOK η → P (some a) D) : xCq (d + 4) m_S_heapAt [.ref 0, .int x] D P := by
  refine xCq_of y_S_heapAt (Nat.le_of_ble_eq_true rfl) (s_S_heapAt_0 xk_0 ?_)
  refine c_sheet (s := 1) hI (by omega) (fun q => qn ⟨none, rfl, hn q⟩) (fun a ξ q a1 a2 ka hR hx => qs ⟨ka, some (a + 6), rfl, ?_⟩)
  have hr := hR.2.1 rfl
  exact hs _ _ q (by omega) (by omega) hr.1 (fun i hi => by rw [show a + 6 + 1 = a + 7 by omega]; exact hr.2 i hi) (hx.2.1 rfl)
theorem c_S_bookAt {P : Option Nat → xD → Prop} {x : Int32} (hI : cI D g) (hn : txO g.1 2 x = none → P none D) (hs : ∀ b β, txO g.1 2 x = some β → 8 ≤ b → b + 2 ≤ 46 → kR D b (tN β 0) β → bOK β → P (some b) D) : xCq (d + 4) m_S_bookAt [.ref 0, .int x] D P := by
  refine xCq_of y_S_bookAt (Nat.le_of_ble_eq_true rfl) (s_S_bookAt_0 xk_0 ?_)
  refine c_sheet (s := 2) hI (by omega) (fun q => qn ⟨none, rfl, hn q⟩) (fun a ξ q a1 a2 ka hR hx => qs ⟨ka, some (a + 8), rfl, ?_⟩)
  exact hs _ _ q (by omega) (by omega) (hR.2.2.1 rfl) (hx.2.2.1 rfl)
theorem c_S_filmAt {P : Option Nat → xD → Prop} {x : Int32} (hI : cI D g) (hn : txO g.1 4 x = none → P none D) (hs : ∀ f φ, txO g.1 4 x = some φ → 8 ≤ f → f + 5 ≤ 46 → fR D f φ → fOK φ → P (some f) D) : xCq (d + 4) m_S_filmAt [.ref 0, .int x] D P := by
  refine xCq_of y_S_filmAt (Nat.le_of_ble_eq_true rfl) (s_S_filmAt_0 xk_0 ?_)
  refine c_sheet (s := 4) hI (by omega) (fun q => qn ⟨none, rfl, hn q⟩) (fun a ξ q a1 a2 ka hR hx => qs ⟨ka, some (a + 14), rfl, ?_⟩)
  exact hs _ _ q (by omega) (by omega) (hR.2.2.2.2 rfl) (hx.2.2.2.2 rfl)
theorem c_has {P : Int32 → xD → Prop} {t : Nat} {τ : Nat → Int32} {x : Int32} (hR : tR D t τ) (hT : tOK τ) (hn : slotOf (tN τ 5) x = none → P 0 D) (hs : ∀ p, p < tN τ 5 → slotOf (tN τ 5) x = some p → x = nI p → P 1 D) : xCi (d + 3) m_Table_has [.ref t, .int x] D P := by
  have b5 := hT.2.2.2.2.2.2.1
  refine c_Table_has hR hT ?_
  rw [slot_has (by omega)]
  cases hx : slotOf (tN τ 5) x with
  | none => rw [if_pos rfl]; exact hn hx
  | some p => rw [if_neg (fun q => by cases q)]; obtain ⟨h1, h2⟩ := slot_some hx; exact hs p h1 hx h2
theorem c_hasKind {P : Int32 → xD → Prop} {t : Nat} {τ : Nat → Int32} {x : Int32} (hR : tR D t τ) (hT : tOK τ) (hn : slotOf (tN τ 0) x = none → P 0 D) (hs : ∀ p, p < tN τ 0 → slotOf (tN τ 0) x = some p → x = nI p → P 1 D) : xCi (d + 3) m_Table_hasKind [.ref t, .int x] D P := by
  have b0 := hT.2.1
  refine c_Table_hasKind hR hT ?_
  rw [slot_has (by omega)]
  cases hx : slotOf (tN τ 0) x with
  | none => rw [if_pos rfl]; exact hn hx
  | some p => rw [if_neg (fun q => by cases q)]; obtain ⟨h1, h2⟩ := slot_some hx; exact hs p h1 hx h2
end AT
def aTable (σ : sT) (t w : Int32) : Int32 := match txO σ 0 t with
  | none => -1
  | some τ => match slotOf 6 w with
    | none => -1
    | some j => τ j
def aPerson (σ : sT) (t p w : Int32) : Int32 := match txO σ 0 t with
  | none => -2
  | some τ => match slotOf (tN τ 5) p with
    | none => -2
    | some i => match slotOf 7 w with
      | none => -2
      | some j => τ (6 + 7 * i + j)
def aCard (σ : sT) (h k : Int32) : Int32 := match txO σ 1 h with
  | none => -2
  | some η => if k = -1 then nI (tN η 0) else match slotOf (tN η 0) k with
    | none => -2
    | some i => η (1 + i)
def aDeed (σ : sT) (b k w : Int32) : Int32 := match txO σ 2 b with
  | none => -2
  | some β => if k = -1 then (if w = 0 then nI (tN β 0) else -2) else match slotOf (tN β 0) k with
    | none => -2
    | some i => match slotOf 3 w with
      | none => -2
      | some j => β (1 + 3 * i + j)
def aFault (σ : sT) (w : Int32) : Int32 := if w = 0 then σ.2.1.1 else if w = 1 then σ.2.1.2 else -1
def aHand (σ : sT) (h w : Int32) : Int32 := match txO σ 3 h with
  | none => -2
  | some η => if w = 0 then nI (tN η 0) else if w = 1 then nI (tN η 1) else if 100 ≤ w then (match slotOf (tN η 1) (w - 100) with
    | none => -2
    | some i => η (6 + i)) else if 10 ≤ w then (match slotOf (tN η 0) (w - 10) with
    | none => -2
    | some i => η (2 + i)) else -2
def aFrame (σ : sT) (f k w : Int32) : Int32 := match txO σ 4 f with
  | none => -2
  | some φ => if k = -1 then (if w = 0 then nI (tN φ 0) else -2) else match slotOf (tN φ 0) k with
    | none => -2
    | some i => if w = 0 then nI (fT φ i) else if w = 1 then nI (fW φ i) else -2
def aEven (σ : sT) (t p : Int32) : Int32 := match txO σ 0 t with
  | none => -1
  | some τ => match slotOf (tN τ 5) p with
    | none => -1
    | some i => nI (lkFar τ i)
def aFeint (σ : sT) (t p a : Int32) : Int32 := match txO σ 0 t with
  | none => -1
  | some τ => match slotOf (tN τ 5) p with
    | none => -1
    | some i => if a = -1 then nI (lur (fun a => onesN (tchS τ i a)) 60).1 else match slotOf 60 a with
      | none => -1
      | some a => nI (tchS τ i a)
def aLooks (σ : sT) (t p f a : Int32) : Int32 := match txO σ 0 t with
  | none => -1
  | some τ => match slotOf (tN τ 5) f with
    | none => -1
    | some i => if a = -1 then (match slotOf (tN τ 5) p with
      | none => -1
      | some j => if j = i then -1 else nI (lkL τ j i 60)) else match slotOf 60 a with
      | none => -1
      | some a => nI (tLast τ i a (tN τ 5))
def aOften (σ : sT) (t p f : Int32) : Int32 := match txO σ 0 t with
  | none => -1
  | some τ => match slotOf (tN τ 5) p with
    | none => -1
    | some i => match slotOf (tN τ 5) f with
      | none => -1
      | some j => if i = j then -1 else bkI (ltF (lkE τ i j) 9)
noncomputable def lkRes (τ : Nat → Int32) (N : Nat) (x : Int32) : Int32 := Classical.epsilon (fun r => lkAns τ N x r)
theorem lkRes_is {τ : Nat → Int32} {N : Nat} (hN : N ≤ 5) {x r : Int32} (h : lkAns τ N x r) : r = lkRes τ N x := lkAns_one hN h (Classical.epsilon_spec (p := fun r => lkAns τ N x r) ⟨r, h⟩)
noncomputable def aRests (σ : sT) (t p k : Int32) : Int32 := match txO σ 0 t with
  | none => -1
  | some τ => if 5 < tN τ 5 then -1 else if p = -1 then lkRes τ (tN τ 5) k else match slotOf (tN τ 5) p with
    | none => -1
    | some i => match slotOf (3 ^ tN τ 5) k with
      | none => -1
      | some w => nI (lkC τ (tN τ 5) w i)
/-- whom a question at 10 and on, at 20 and on means -/
def perAsk (N : Nat) (w : Int32) : Option Nat := if w < 10 then none else if w < 20 then slotOf N (w - 10) else slotOf N (w - 20)
def aFilm (σ : sT) (t f w : Int32) : Int32 := match txO σ 0 t with
  | none => -2
  | some τ => match txO σ 4 f with
    | none => -2
    | some φ => match perAsk (tN τ 5) w with
      | none => fAns φ (tN τ 5) w
      | some p => if fFst φ p = none then -2 else if w < 20 then nI (fA φ p) - 1 else nI (fU φ p)
def aPulled (σ : sT) (t f p u : Int32) : Int64 := match txO σ 0 t with
  | none => -1
  | some τ => match txO σ 4 f with
    | none => -1
    | some φ => match slotOf (tN τ 5) p with
      | none => -1
      | some i => if fFst φ i = none then -1 else lN (lst (fUp φ (tN τ 5) i (fU φ i + 1 - fA φ i)) (fDown φ (tN τ 5) i) (u ≠ 0))
section ASK
variable {d : Nat} {D : xD} {g : gS}
theorem c_S_table {P : Int32 → xD → Prop} {t w : Int32} (hI : cI D g) (h : P (aTable g.1 t w) D) : xCi (d + 40) m_S_table [.ref 0, .int t, .int w] D P := by
  refine xCi_of y_S_table (Nat.le_of_ble_eq_true rfl) (s_S_table_0 xk_0 (c_S_tableAt hI (fun q => ?_) (fun a τ q a1 a2 hR hT hL hF => ?_)))
  · unfold aTable at h; rw [q] at h; exact qn ⟨_, rfl, h⟩
  · unfold aTable at h; simp only [q] at h
    refine qs ⟨hR.1, rgLt 6 (by omega) (fun y => ⟨_, rfl, ?_⟩) (fun y => ⟨_, rfl, ?_⟩) (fun k hk y e => ?_)⟩
    · rw [y] at h; exact h
    · rw [y] at h; exact h
    · rw [y] at h; rw [e]; exact c_Table_number hR hk ⟨_, rfl, h⟩
theorem c_S_person {P : Int32 → xD → Prop} {t p w : Int32} (hI : cI D g) (h : P (aPerson g.1 t p w) D) : xCi (d + 40) m_S_person [.ref 0, .int t, .int p, .int w] D P := by
  refine xCi_of y_S_person (Nat.le_of_ble_eq_true rfl) (s_S_person_0 xk_0 (c_S_tableAt hI (fun q => ?_) (fun a τ q a1 a2 hR hT hL hF => ?_)))
  · unfold aPerson at h; rw [q] at h; exact qn ⟨_, rfl, h⟩
  · unfold aPerson at h; simp only [q] at h
    refine qs ⟨hR.1, c_has hR hT (fun y => ?_) (fun i hi y e => ?_)⟩
    · rw [y] at h; exact z0 ⟨_, rfl, h⟩
    · simp only [y] at h
      refine z1 (rgLt 7 (by omega) (fun y => ⟨_, rfl, ?_⟩) (fun y => ⟨_, rfl, ?_⟩) (fun k hk y e2 => ?_))
      · rw [y] at h; exact h
      · rw [y] at h; exact h
      · rw [y] at h; rw [e, e2]; exact c_Table_of hR hT.2.2.2.2.2.2.1 hi hk ⟨_, rfl, h⟩
theorem c_S_card {P : Int32 → xD → Prop} {x k : Int32} (hI : cI D g) (h : P (aCard g.1 x k) D) : xCi (d + 40) m_S_card [.ref 0, .int x, .int k] D P := by
  refine xCi_of y_S_card (Nat.le_of_ble_eq_true rfl) (s_S_card_0 xk_0 (c_S_heapAt hI (fun q => ?_) (fun a η q a1 a2 hR hv hO => ?_)))
  · unfold aCard at h; rw [q] at h; exact qn ⟨_, rfl, h⟩
  · unfold aCard at h; simp only [q] at h
    have hn := hO.2.1
    refine qs ⟨hR.2.2, fun c => ?_, fun c => c_Row_size hR ⟨_, rfl, ?_⟩⟩
    · rw [if_neg c] at h
      refine c_Row_reaches hR ?_
      rw [slot_has (by omega)]
      cases hx : slotOf (tN η 0) k with
      | none => rw [hx] at h; rw [if_pos rfl]; exact z0 ⟨_, rfl, h⟩
      | some i =>
        obtain ⟨h1, e⟩ := slot_some hx
        simp only [hx] at h
        rw [if_neg (fun q => by cases q), e]
        refine z1 (c_get hR h1 ⟨_, rfl, ?_⟩)
        rw [hv i h1]; exact h
    · rw [if_pos c] at h; exact h
theorem c_S_deed {P : Int32 → xD → Prop} {b k w : Int32} (hI : cI D g) (h : P (aDeed g.1 b k w) D) : xCi (d + 40) m_S_deed [.ref 0, .int b, .int k, .int w] D P := by
  refine xCi_of y_S_deed (Nat.le_of_ble_eq_true rfl) (s_S_deed_0 xk_0 (c_S_bookAt hI (fun q => ?_) (fun a β q a1 a2 hR hO => ?_)))
  · unfold aDeed at h; rw [q] at h; exact qn ⟨_, rfl, h⟩
  · unfold aDeed at h; simp only [q] at h
    have hn := (bOK_len hO).1
    refine qs ⟨hR.1.2.2, c_Row_size hR.1 ?_⟩
    rw [show (3 : Int32) = nI 3 from rfl, pk_div (by omega) (by omega) (by omega), show 3 * tN β 0 / 3 = tN β 0 by omega]
    refine ⟨fun c => ?_, fun c => ⟨fun c1 => ⟨_, rfl, ?_⟩, fun c1 => ⟨_, rfl, ?_⟩⟩⟩
    · rw [if_neg c] at h
      refine rgLe (tN β 0) (by omega) (fun y => ⟨_, rfl, ?_⟩) (fun y => ⟨_, rfl, ?_⟩) (fun i hi y e => ?_)
      · rw [y] at h; exact h
      · rw [y] at h; exact h
      · simp only [y] at h
        refine rgLt 3 (by omega) (fun y => ⟨_, rfl, ?_⟩) (fun y => ⟨_, rfl, ?_⟩) (fun j hj y e2 => ?_)
        · rw [y] at h; exact h
        · rw [y] at h; exact h
        · simp only [y] at h
          rw [e, e2, pk_mul, nI_add]
          refine c_get hR.1 (show i * 3 + j < 3 * tN β 0 by omega) ⟨_, rfl, ?_⟩
          rw [hR.2 _ (by omega), show 1 + (i * 3 + j) = 1 + 3 * i + j by omega]; exact h
    · rw [if_pos c, if_neg c1] at h; exact h
    · rw [if_pos c, if_pos c1] at h; exact h
theorem c_S_count {P : Int32 → xD → Prop} {x : Int32} (hI : cI D g) (h : P (howI g.1 x) D) : xCi (d + 40) m_S_count [.ref 0, .int x] D P := by
  refine xCi_of y_S_count (Nat.le_of_ble_eq_true rfl) (s_S_count_0 xk_0 ?_)
  exact c_Told_howMany hI.1 ⟨_, rfl, h⟩
theorem c_S_fault {P : Int32 → xD → Prop} {w : Int32} (hI : cI D g) (h : P (aFault g.1 w) D) : xCi (d + 40) m_S_fault [.ref 0, .int w] D P := by
  refine xCi_of y_S_fault (Nat.le_of_ble_eq_true rfl) (s_S_fault_0 xk_0 ?_)
  have f3 := hI.1.2.2.2.1
  have f4 := hI.1.2.2.2.2.1
  unfold aFault at h
  refine ⟨fun c => ⟨fun c1 => ⟨_, rfl, ?_⟩, fun c1 => ⟨_, rfl, ?_⟩⟩, fun c => ⟨_, rfl, ?_⟩⟩
  · rw [if_neg c, if_neg c1] at h; exact h
  · rw [if_neg c, if_pos c1] at h; rw [f4]; exact h
  · rw [if_pos c] at h; rw [f3]; exact h
theorem c_S_even {P : Int32 → xD → Prop} {t p : Int32} (hI : cI D g) (h : P (aEven g.1 t p) D) : xCi (d + 40) m_S_even [.ref 0, .int t, .int p] D P := by
  refine xCi_of y_S_even (Nat.le_of_ble_eq_true rfl) (s_S_even_0 xk_0 (c_S_tableAt hI (fun q => ?_) (fun a τ q a1 a2 hR hT hL hF => ?_)))
  · unfold aEven at h; rw [q] at h; exact qn ⟨_, rfl, h⟩
  · unfold aEven at h; simp only [q] at h
    refine qs ⟨hR.1, c_has hR hT (fun y => ?_) (fun i hi y e => ?_)⟩
    · rw [y] at h; exact z0' ⟨_, rfl, h⟩
    · simp only [y] at h
      rw [e]
      exact z1' (c_Looks_farther hR hT hi ⟨_, rfl, h⟩)
theorem c_S_feint {P : Int32 → xD → Prop} {t p a : Int32} (hI : cI D g) (h : P (aFeint g.1 t p a) D) : xCi (d + 40) m_S_feint [.ref 0, .int t, .int p, .int a] D P := by
  refine xCi_of y_S_feint (Nat.le_of_ble_eq_true rfl) (s_S_feint_0 xk_0 (c_S_tableAt hI (fun q => ?_) (fun b τ q a1 a2 hR hT hL hF => ?_)))
  · unfold aFeint at h; rw [q] at h; exact qn ⟨_, rfl, h⟩
  · unfold aFeint at h; simp only [q] at h
    have b5 := hT.2.2.2.2.2.2.1
    refine qs ⟨hR.1, c_has hR hT (fun y => ?_) (fun i hi y e => ?_)⟩
    · rw [y] at h; exact z0' ⟨_, rfl, h⟩
    · simp only [y] at h
      rw [e]
      refine z1' ⟨fun c => ?_, fun c => ?_⟩
      · rw [if_neg c] at h
        refine rgLe 60 (by omega) (fun y => ⟨_, rfl, ?_⟩) (fun y => ⟨_, rfl, ?_⟩) (fun j hj y e2 => ?_)
        · rw [y] at h; exact h
        · rw [y] at h; exact h
        · rw [y] at h; rw [e2]; exact c_Looks_touching hR hT (by omega) hj ⟨_, rfl, h⟩
      · rw [if_pos c] at h
        exact c_Looks_lure hR hT (by omega) ⟨_, rfl, h⟩
theorem c_S_looks {P : Int32 → xD → Prop} {t p f a : Int32} (hI : cI D g) (h : P (aLooks g.1 t p f a) D) : xCi (d + 40) m_S_looks [.ref 0, .int t, .int p, .int f, .int a] D P := by
  refine xCi_of y_S_looks (Nat.le_of_ble_eq_true rfl) (s_S_looks_0 xk_0 (c_S_tableAt hI (fun q => ?_) (fun b τ q a1 a2 hR hT hL hF => ?_)))
  · unfold aLooks at h; rw [q] at h; exact qn ⟨_, rfl, h⟩
  · unfold aLooks at h; simp only [q] at h
    have b5 := hT.2.2.2.2.2.2.1
    refine qs ⟨hR.1, c_has hR hT (fun y => ?_) (fun i hi y e => ?_)⟩
    · rw [y] at h; exact z0' ⟨_, rfl, h⟩
    · simp only [y] at h
      rw [e]
      refine z1' ⟨fun c => ?_, fun c => ?_⟩
      · rw [if_neg c] at h
        refine rgLe 60 (by omega) (fun y => ⟨_, rfl, ?_⟩) (fun y => ⟨_, rfl, ?_⟩) (fun j hj y e2 => ?_)
        · rw [y] at h; exact h
        · rw [y] at h; exact h
        · rw [y] at h; rw [e2]; exact c_Table_lastOf hR hT (by omega) (by omega) (by omega) ⟨_, rfl, h⟩
      · rw [if_pos c] at h
        refine c_has hR hT (fun y => ?_) (fun j hj y e2 => ?_)
        · rw [y] at h; exact z0 ⟨_, rfl, h⟩
        · simp only [y] at h
          rw [e2]
          refine z1 ⟨fun z => ⟨_, rfl, ?_⟩, fun z => ?_⟩
          · rw [if_pos ((nI_eq (by omega) (by omega)).mp z)] at h; exact h
          · rw [if_neg (fun w => z (by rw [w]))] at h
            exact c_Looks_lasts hR hT (by omega) (by omega) (by omega) ⟨_, rfl, h⟩
theorem c_S_frame {P : Int32 → xD → Prop} {f k w : Int32} (hI : cI D g) (h : P (aFrame g.1 f k w) D) : xCi (d + 40) m_S_frame [.ref 0, .int f, .int k, .int w] D P := by
  refine xCi_of y_S_frame (Nat.le_of_ble_eq_true rfl) (s_S_frame_0 xk_0 (c_S_filmAt hI (fun q => ?_) (fun a φ q a1 a2 hR hO => ?_)))
  · unfold aFrame at h; rw [q] at h; exact qn ⟨_, rfl, h⟩
  · unfold aFrame at h; simp only [q] at h
    have hn := hO.2.1
    refine qs ⟨hR.1, fun c => ?_, fun c => ⟨fun c1 => ⟨_, rfl, ?_⟩, fun c1 => c_Film_frames hR ⟨_, rfl, ?_⟩⟩⟩
    · rw [if_neg c] at h
      cases hx : slotOf (tN φ 0) k with
      | none =>
        rw [hx] at h
        refine ⟨fun _ => ⟨_, rfl, h⟩, fun c0 => c_Film_frames hR ⟨fun c1 => ?_, fun _ => ⟨_, rfl, h⟩⟩⟩
        rcases slot_none (by omega) hx with y | ⟨-, y⟩
        · exact absurd y c0
        · exact absurd y (Int32.not_le.mpr c1)
      | some i =>
        obtain ⟨h1, e⟩ := slot_some hx
        simp only [hx] at h
        rw [e]
        refine ⟨fun c0 => absurd c0 (nI_pos (by omega)), fun c0 => c_Film_frames hR ⟨fun c1 => ⟨fun c2 => ⟨fun c3 => ⟨_, rfl, ?_⟩, fun c3 => c_Film_who hR hO h1 ⟨_, rfl, ?_⟩⟩, fun c2 => c_Film_tenth hR hO h1 ⟨_, rfl, ?_⟩⟩, fun c1 => absurd (nI_lt h1 (by omega)) c1⟩⟩
        · rw [if_neg c2, if_neg c3] at h; exact h
        · rw [if_neg c2, if_pos c3] at h; exact h
        · rw [if_pos c2] at h; exact h
    · rw [if_pos c, if_neg c1] at h; exact h
    · rw [if_pos c, if_pos c1] at h; exact h
end ASK
