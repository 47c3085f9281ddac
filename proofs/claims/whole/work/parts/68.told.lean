/-! All that is told: texts of five sorts, two of each; the tape; the FAULT. A text is the numbers of it: of a table 48, of a heap, a book, a hand, a film how many first. -/
/-- which of n an index is -/
def slotOf (n : Nat) (x : Int32) : Option Nat := if x < 0 then none else if x.toNatClampNeg < n then some x.toNatClampNeg else none
theorem slot_nI {n k : Nat} (h : k < n) (hn : n < 2 ^ 31) : slotOf n (nI k) = some k := by
  unfold slotOf
  rw [if_neg (nI_pos (by omega)), nI_clamp (by omega), if_pos h]
theorem slot_some {n k : Nat} {x : Int32} (h : slotOf n x = some k) : k < n ∧ x = nI k := by
  unfold slotOf at h
  by_cases c : x < 0
  · rw [if_pos c] at h; cases h
  · rw [if_neg c] at h
    obtain ⟨j, hj, rfl⟩ := nI_of c
    rw [nI_clamp hj] at h
    by_cases q : j < n
    · rw [if_pos q] at h; cases h; exact ⟨q, rfl⟩
    · rw [if_neg q] at h; cases h
theorem slot_neg {n : Nat} {x : Int32} (h : x < 0) : slotOf n x = none := if_pos h
theorem slot_ge {n : Nat} {x : Int32} (hn : n < 2 ^ 31) (h : nI n ≤ x) : slotOf n x = none := by
  by_cases c : x < 0
  · exact slot_neg c
  · obtain ⟨j, hj, rfl⟩ := nI_of c
    unfold slotOf
    rw [if_neg c, nI_clamp hj, if_neg]
    have := (nI_leI (by omega) hj).mp h
    omega
theorem slot_none {n : Nat} {x : Int32} (hn : n < 2 ^ 31) (h : slotOf n x = none) : x < 0 ∨ (¬ x < 0 ∧ nI n ≤ x) := by
  rcases pk_ix x hn with q | q | ⟨j, hj, rfl⟩
  · exact Or.inl q
  · by_cases c : x < 0
    · exact Or.inl c
    · exact Or.inr ⟨c, q⟩
  · rw [slot_nI hj hn] at h; cases h
/-- .. as a test of the class -/
theorem slot_has {n : Nat} {x : Int32} (hn : n < 2 ^ 31) : (if x < 0 then (0 : Int32) else if nI n ≤ x then 0 else 1) = if slotOf n x = none then 0 else 1 := by
  cases h : slotOf n x with
  | none =>
    rw [if_pos rfl]
    rcases slot_none hn h with q | ⟨q, z⟩
    · rw [if_pos q]
    · rw [if_neg q, if_pos z]
  | some k =>
    obtain ⟨h1, rfl⟩ := slot_some h
    rw [if_neg (nI_pos (by omega)), if_neg (nI_ge h1 hn), if_neg (fun q => by cases q)]
/-- the tape; the FAULT and its place; how many texts of a sort; the texts -/
abbrev sT : Type := (Nat × (Nat → Nat)) × (Int32 × Int32) × (Nat → Nat) × (Nat → Nat → Nat → Int32)
def hpOK (η : Nat → Int32) : Prop := η 0 = nI (tN η 0) ∧ tN η 0 ≤ 52 ∧ ∀ i, i < tN η 0 → η (1 + i) = nI (tN η (1 + i)) ∧ tN η (1 + i) < 13
def hdOK (η : Nat → Int32) : Prop := η 0 = nI (tN η 0) ∧ tN η 0 ≤ 4 ∧ η 1 = nI (tN η 1) ∧ tN η 1 ≤ 48 ∧ (∀ i, i < tN η 0 → η (2 + i) = nI (tN η (2 + i)) ∧ tN η (2 + i) < 13) ∧ ∀ i, i < tN η 1 → η (6 + i) = nI (tN η (6 + i)) ∧ tN η (6 + i) < 13
def txOK (s : Nat) (ξ : Nat → Int32) : Prop := (s = 0 → tOK ξ ∧ tLaw ξ ∧ tFit ξ) ∧ (s = 1 → hpOK ξ) ∧ (s = 2 → bOK ξ) ∧ (s = 3 → hdOK ξ) ∧ (s = 4 → fOK ξ)
/-- the object a of class Sheet holds the text of sort s -/
def shR (D : xD) (a s : Nat) (ξ : Nat → Int32) : Prop := (s = 0 → tR D (a + 1) ξ) ∧ (s = 1 → rS D (a + 6) (tN ξ 0) ∧ ∀ i, i < tN ξ 0 → D.1 (a + 7) i = ξ (1 + i)) ∧ (s = 2 → kR D (a + 8) (tN ξ 0) ξ) ∧
  (s = 3 → rS D (a + 10) (tN ξ 0) ∧ (∀ i, i < tN ξ 0 → D.1 (a + 11) i = ξ (2 + i)) ∧ rS D (a + 12) (tN ξ 1) ∧ ∀ i, i < tN ξ 1 → D.1 (a + 13) i = ξ (6 + i)) ∧ (s = 4 → fR D (a + 14) ξ)
theorem shR.out {D D' : xD} {lo hi a s : Nat} {ξ : Nat → Int32} (h : shR D a s ξ) (o : xOut lo hi D D') (q : a + 19 ≤ lo ∨ hi ≤ a + 1) : shR D' a s ξ := by
  obtain ⟨h0, h1, h2, h3, h4⟩ := h
  refine ⟨fun e => (h0 e).out o (by omega), fun e => ⟨(h1 e).1.out o (by omega), fun i hi => by rw [o.1 _ (by omega)]; exact (h1 e).2 i hi⟩, fun e => (h2 e).out o (by omega), fun e => ?_, fun e => (h4 e).out o (by omega)⟩
  obtain ⟨g1, g2, g3, g4⟩ := h3 e
  exact ⟨g1.out o (by omega), fun i hi => by rw [o.1 _ (by omega)]; exact g2 i hi, g3.out o (by omega), fun i hi => by rw [o.1 _ (by omega)]; exact g4 i hi⟩
/-- what is told is as the document has it -/
def sOK (σ : sT) : Prop := σ.1.1 ≤ 600 ∧ (∀ j, j < σ.1.1 → σ.1.2 j < 256) ∧ ∀ s, s < 5 → σ.2.2.1 s ≤ 2 ∧ ∀ k, k < σ.2.2.1 s → txOK s (σ.2.2.2 s k)
/-- the object a of class Told holds it -/
def dT (D : xD) (a : Nat) (σ : sT) : Prop := xk a = 1 ∧ rS D (a + 1) σ.1.1 ∧ (∀ j, j < σ.1.1 → D.1 (a + 2) j = nI (σ.1.2 j)) ∧ D.1 a 3 = σ.2.1.1 ∧ D.1 a 4 = σ.2.1.2 ∧ rS D (a + 3) 5 ∧ (∀ s, s < 5 → D.1 (a + 4) s = nI (σ.2.2.1 s)) ∧ ∀ s, s < 5 → ∀ k, k < σ.2.2.1 s → shR D (a + 6 + k * 19) s (σ.2.2.2 s k)
theorem dT.out {D D' : xD} {lo hi a : Nat} {σ : sT} (h : dT D a σ) (hs : sOK σ) (o : xOut lo hi D D') (q : a + 44 ≤ lo ∨ hi ≤ a) : dT D' a σ := by
  obtain ⟨h1, h2, h3, h4, h5, h6, h7, h8⟩ := h
  refine ⟨h1, h2.out o (by omega), fun j hj => by rw [o.1 _ (by omega)]; exact h3 j hj, by rw [o.1 _ (by omega)]; exact h4, by rw [o.1 _ (by omega)]; exact h5, h6.out o (by omega), fun s hs => by rw [o.1 _ (by omega)]; exact h7 s hs, fun s hs5 k hk => ?_⟩
  have := (hs.2.2 s hs5).1
  exact (h8 s hs5 k hk).out o (by omega)
set_option maxRecDepth 20000 in
theorem told_sheets : ∀ a, a < 368 → xk a = 1 → ∀ k, k < 2 → xk (a + 6 + k * 19) = 3 := by decide +kernel
theorem told_sheet {a k : Nat} (h : xk a = 1) (hk : k < 2) : xk (a + 6 + k * 19) = 3 := told_sheets a (xlt h (by decide)) h k hk
section TOLD
variable {d : Nat} {D : xD} {a : Nat} {σ : sT}
def howI (σ : sT) (x : Int32) : Int32 := match slotOf 5 x with
  | none => -2
  | some s => nI (σ.2.2.1 s)
theorem c_Told_howMany {P : Int32 → xD → Prop} {x : Int32} (hT : dT D a σ) (h : P (howI σ x) D) : xCi (d + 2) m_Told_howMany [.ref a, .int x] D P := by
  refine xCi_of y_Told_howMany (Nat.le_of_ble_eq_true rfl) (s_Told_howMany_0 hT.1 ?_)
  refine c_Row_reaches hT.2.2.2.2.2.1 ?_
  rw [slot_has (by omega)]
  unfold howI at h
  cases hx : slotOf 5 x with
  | none =>
    rw [hx] at h
    rw [if_pos rfl]
    exact ⟨fun _ => ⟨_, rfl, h⟩, fun q => absurd rfl q⟩
  | some s =>
    obtain ⟨h1, rfl⟩ := slot_some hx
    rw [hx] at h
    rw [if_neg (fun q => by cases q)]
    refine ⟨fun q => absurd q (by decide), fun _ => c_get hT.2.2.2.2.2.1 h1 ⟨_, rfl, ?_⟩⟩
    rw [show a + 3 + 1 = a + 4 by omega, hT.2.2.2.2.2.2.1 s h1]
    exact h
theorem c_Told_howManyN {P : Int32 → xD → Prop} {s : Nat} (hT : dT D a σ) (hs : s < 5) (h : P (nI (σ.2.2.1 s)) D) : xCi (d + 2) m_Told_howMany [.ref a, .int (nI s)] D P := by
  refine c_Told_howMany hT ?_
  unfold howI
  rw [slot_nI hs (by omega)]
  exact h
theorem c_Told_slotAt {P : Option Nat → xD → Prop} {x : Int32} (k0 : xk a = 1) (h : P (match slotOf 2 x with | none => none | some k => some (a + 6 + k * 19)) D) : xCq (d + 1) m_Told_slotAt [.ref a, .int x] D P := by
  have l5 : xl (a + 5) = 2 := cl_1_2 k0
  refine xCq_of y_Told_slotAt (Nat.le_of_ble_eq_true rfl) (s_Told_slotAt_0 k0 ?_)
  rw [l5]
  cases hx : slotOf 2 x with
  | none =>
    rw [hx] at h
    rcases slot_none (by omega) hx with q | ⟨q, z⟩
    · exact ⟨fun _ => ⟨none, rfl, h⟩, fun c => absurd q c⟩
    · exact ⟨fun c => absurd c q, fun _ => ⟨fun _ => ⟨none, rfl, h⟩, fun c => absurd z c⟩⟩
  | some k =>
    obtain ⟨h1, rfl⟩ := slot_some hx
    rw [hx] at h
    rw [nI_clamp (by omega)]
    have e : a + 5 + 1 + k * xw 5 = a + 6 + k * 19 := by rw [show xw 5 = 19 from rfl]
    rw [e]
    refine ⟨fun c => absurd c (nI_pos (by omega)), fun _ => ⟨fun c => absurd c (nI_ge (a := k) (b := 2) h1 (by omega)), fun _ => ⟨vp_in_nI h1 (by omega), told_sheet k0 h1, some _, rfl, h⟩⟩⟩
theorem c_Told_sheetAt {P : Option Nat → xD → Prop} {s : Nat} {x : Int32} (hT : dT D a σ) (hO : sOK σ) (hs : s < 5) (h : P (match slotOf (σ.2.2.1 s) x with | none => none | some k => some (a + 6 + k * 19)) D) : xCq (d + 3) m_Told_sheetAt [.ref a, .int (nI s), .int x] D P := by
  have h2 := (hO.2.2 s hs).1
  refine xCq_of y_Told_sheetAt (Nat.le_of_ble_eq_true rfl) (s_Told_sheetAt_0 hT.1 (c_Told_howManyN hT hs ?_))
  cases hx : slotOf (σ.2.2.1 s) x with
  | none =>
    rw [hx] at h
    refine ⟨fun _ => ⟨none, rfl, h⟩, fun c => ?_⟩
    rcases slot_none (by omega) hx with q | ⟨-, z⟩
    · refine c_Told_slotAt hT.1 ?_
      rw [slot_neg q]
      exact ⟨fun _ => ⟨none, rfl, h⟩, fun b q => by cases q⟩
    · exact absurd z c
  | some k =>
    obtain ⟨h1, rfl⟩ := slot_some hx
    rw [hx] at h
    refine ⟨fun c => absurd c (nI_ge h1 (by omega)), fun _ => c_Told_slotAt hT.1 ?_⟩
    rw [slot_nI (show k < 2 by omega) (by omega)]
    refine ⟨fun q => (by cases q), fun b q => ?_⟩
    cases q
    exact ⟨told_sheet hT.1 (by omega), some _, rfl, h⟩
theorem bOK_len {β : Nat → Int32} (h : bOK β) : tN β 0 ≤ 40 ∧ β 0 = nI (tN β 0) ∧ ∀ k, k < tN β 0 → β (1 + 3 * k) = nI (bEnt β k 0) ∧ β (1 + 3 * k + 1) = nI (bEnt β k 1) ∧ bEnt β k 0 ≤ 4 ∧ bEnt β k 1 ≤ 9 ∧ (bEnt β k 0 = 1 → β (1 + 3 * k + 2) = nI (bEnt β k 2) ∧ bEnt β k 2 < 13) := by
  obtain ⟨m, h1, h2, h3⟩ := h
  have e : tN β 0 = m := by unfold tN; rw [h2, nI_clamp (by omega)]
  rw [e]
  exact ⟨h1, h2, h3⟩
/-- a text goes from one sheet to another -/
theorem c_Sheet_copy {P : xD → Prop} {s b : Nat} {ξ : Nat → Int32} (ka : xk a = 3) (kb : xk b = 3) (hs : s < 5) (hR : shR D b s ξ) (hx : txOK s ξ) (hd : a + 19 ≤ b ∨ b + 19 ≤ a)
    (h : ∀ D', xOut (a + 1) (a + 19) D D' → shR D' a s ξ → (∀ s' ξ', s' < 5 → s' ≠ s → shR D a s' ξ' → shR D' a s' ξ') → P D') : xCv (d + 3) m_Sheet_copy [.ref a, .int (nI s), .ref b] D P := by
  refine xCv_of y_Sheet_copy (Nat.le_of_ble_eq_true rfl) (s_Sheet_copy_0 ka kb ?_)
  have inj : ∀ u : Nat, u < 5 → nI s = nI u → s = u := fun u hu q => (nI_eq (by omega) (by omega)).mp q
  obtain ⟨r0, r1, r2, r3, r4⟩ := hR
  refine ⟨fun q => ?_, fun q => ?_, fun q => ?_, fun q => ?_, fun q => ?_, fun q => ?_⟩
  · have e := inj 0 (by omega) q
    have ht := (hx.1 e).1
    refine c_Table_copy (ck_3_0 ka) (r0 e) ht.2.2.2.2.2.2.1 (by omega) (fun D1 o1 w1 => ⟨rfl, h D1 (o1.mono (by omega) (by omega)) ⟨fun _ => w1, fun e' => by omega, fun e' => by omega, fun e' => by omega, fun e' => by omega⟩ (fun s' ξ' hs' hne g => ?_)⟩)
    refine ⟨fun e' => by omega, fun e' => ⟨(g.2.1 e').1.out o1 (by omega), fun i hi => by rw [o1.1 _ (by omega)]; exact (g.2.1 e').2 i hi⟩, fun e' => (g.2.2.1 e').out o1 (by omega), fun e' => ?_, fun e' => (g.2.2.2.2 e').out o1 (by omega)⟩
    obtain ⟨g1, g2, g3, g4⟩ := g.2.2.2.1 e'
    exact ⟨g1.out o1 (by omega), fun i hi => by rw [o1.1 _ (by omega)]; exact g2 i hi, g3.out o1 (by omega), fun i hi => by rw [o1.1 _ (by omega)]; exact g4 i hi⟩
  · have e := inj 1 (by omega) q
    have ht := hx.2.1 e
    have l7 : xl (a + 6 + 1) = 52 := cl_3_1 ka
    refine c_rcopy (ck_3_1 ka) (r1 e).1 (by have := ht.2.1; omega) (fun D1 o1 w1 v1 => ⟨rfl, h D1 (o1.mono (by omega) (by omega)) ⟨fun e' => by omega, fun _ => ⟨w1, fun i hi => ?_⟩, fun e' => by omega, fun e' => by omega, fun e' => by omega⟩ (fun s' ξ' hs' hne g => ?_)⟩)
    · rw [show a + 7 = a + 6 + 1 by omega, v1 i hi, show b + 6 + 1 = b + 7 by omega]; exact (r1 e).2 i hi
    · refine ⟨fun e' => (g.1 e').out o1 (by omega), fun e' => by omega, fun e' => (g.2.2.1 e').out o1 (by omega), fun e' => ?_, fun e' => (g.2.2.2.2 e').out o1 (by omega)⟩
      obtain ⟨g1, g2, g3, g4⟩ := g.2.2.2.1 e'
      exact ⟨g1.out o1 (by omega), fun i hi => by rw [o1.1 _ (by omega)]; exact g2 i hi, g3.out o1 (by omega), fun i hi => by rw [o1.1 _ (by omega)]; exact g4 i hi⟩
  · have e := inj 2 (by omega) q
    have ht := (bOK_len (hx.2.2.1 e)).1
    have l9 : xl (a + 8 + 1) = 120 := cl_3_2 ka
    refine c_rcopy (ck_3_2 ka) (r2 e).1 (by omega) (fun D1 o1 w1 v1 => ⟨rfl, h D1 (o1.mono (by omega) (by omega)) ⟨fun e' => by omega, fun e' => by omega, fun _ => ⟨w1, fun i hi => ?_⟩, fun e' => by omega, fun e' => by omega⟩ (fun s' ξ' hs' hne g => ?_)⟩)
    · rw [v1 i hi]; exact (r2 e).2 i hi
    · refine ⟨fun e' => (g.1 e').out o1 (by omega), fun e' => ⟨(g.2.1 e').1.out o1 (by omega), fun i hi => by rw [o1.1 _ (by omega)]; exact (g.2.1 e').2 i hi⟩, fun e' => by omega, fun e' => ?_, fun e' => (g.2.2.2.2 e').out o1 (by omega)⟩
      obtain ⟨g1, g2, g3, g4⟩ := g.2.2.2.1 e'
      exact ⟨g1.out o1 (by omega), fun i hi => by rw [o1.1 _ (by omega)]; exact g2 i hi, g3.out o1 (by omega), fun i hi => by rw [o1.1 _ (by omega)]; exact g4 i hi⟩
  · have e := inj 3 (by omega) q
    obtain ⟨t0, t1, t2, t3, -, -⟩ := hx.2.2.2.1 e
    obtain ⟨f1, f2, f3, f4⟩ := r3 e
    have l11 : xl (a + 10 + 1) = 4 := cl_3_3 ka
    have l13 : xl (a + 12 + 1) = 48 := cl_3_4 ka
    refine c_rcopy (ck_3_3 ka) f1 (by omega) (fun D1 o1 w1 v1 => ?_)
    refine c_rcopy (ck_3_4 ka) (f3.out o1 (by omega)) (by omega) (fun D2 o2 w2 v2 => ⟨rfl, h D2 ((o1.mono (by omega) (by omega)).trans (o2.mono (by omega) (by omega))) ⟨fun e' => by omega, fun e' => by omega, fun e' => by omega, fun _ => ⟨w1.out o2 (by omega), fun i hi => ?_, w2, fun i hi => ?_⟩, fun e' => by omega⟩ (fun s' ξ' hs' hne g => ?_)⟩)
    · rw [o2.1 _ (by omega), show a + 11 = a + 10 + 1 by omega, v1 i hi, show b + 10 + 1 = b + 11 by omega]; exact f2 i hi
    · rw [show a + 13 = a + 12 + 1 by omega, v2 i hi, o1.1 _ (by omega), show b + 12 + 1 = b + 13 by omega]; exact f4 i hi
    · have o12 : xOut (a + 10) (a + 14) D D2 := (o1.mono (by omega) (by omega)).trans (o2.mono (by omega) (by omega))
      exact ⟨fun e' => (g.1 e').out o12 (by omega), fun e' => ⟨(g.2.1 e').1.out o12 (by omega), fun i hi => by rw [o12.1 _ (by omega)]; exact (g.2.1 e').2 i hi⟩, fun e' => (g.2.2.1 e').out o12 (by omega), fun e' => by omega, fun e' => (g.2.2.2.2 e').out o12 (by omega)⟩
  · have e := inj 4 (by omega) q
    have ht := hx.2.2.2.2 e
    refine c_Film_copy (ck_3_5 ka) (r4 e) ht.2.1 (by omega) (fun D1 o1 w1 => ⟨rfl, h D1 (o1.mono (by omega) (by omega)) ⟨fun e' => by omega, fun e' => by omega, fun e' => by omega, fun e' => by omega, fun _ => w1⟩ (fun s' ξ' hs' hne g => ?_)⟩)
    refine ⟨fun e' => (g.1 e').out o1 (by omega), fun e' => ⟨(g.2.1 e').1.out o1 (by omega), fun i hi => by rw [o1.1 _ (by omega)]; exact (g.2.1 e').2 i hi⟩, fun e' => (g.2.2.1 e').out o1 (by omega), fun e' => ?_, fun e' => by omega⟩
    obtain ⟨g1, g2, g3, g4⟩ := g.2.2.2.1 e'
    exact ⟨g1.out o1 (by omega), fun i hi => by rw [o1.1 _ (by omega)]; exact g2 i hi, g3.out o1 (by omega), fun i hi => by rw [o1.1 _ (by omega)]; exact g4 i hi⟩
  · rw [nI_toInt (by omega)] at q; omega
theorem c_howRaw {P : Int32 → xD → Prop} {s : Nat} (k0 : xk a = 1) (r3 : rS D (a + 3) 5) (hs : s < 5) (h : P (D.1 (a + 4) s) D) : xCi (d + 2) m_Told_howMany [.ref a, .int (nI s)] D P := by
  refine xCi_of y_Told_howMany (Nat.le_of_ble_eq_true rfl) (s_Told_howMany_0 k0 (c_Row_reaches r3 ?_))
  rw [slot_has (by omega), slot_nI hs (by omega), if_neg (fun q => by cases q)]
  exact ⟨fun q => absurd q (by decide), fun _ => c_get r3 hs ⟨_, rfl, h⟩⟩
/-- .. and is kept: at most one behind the last -/
theorem c_Told_keep {P : xD → Prop} {s b k : Nat} {ξ : Nat → Int32} (hT : dT D a σ) (hO : sOK σ) (kb : xk b = 3) (hs : s < 5) (hk : k < 2) (hkc : k ≤ σ.2.2.1 s) (hR : shR D b s ξ) (hx : txOK s ξ) (hd : a + 44 ≤ b ∨ b + 19 ≤ a)
    (h : ∀ D', xOut (a + 1) (a + 44) D D' → dT D' a (σ.1, σ.2.1, (fun i => if i = s then max (σ.2.2.1 s) (k + 1) else σ.2.2.1 i), fun i j => if i = s ∧ j = k then ξ else σ.2.2.2 i j) → P D') : xCv (d + 4) m_Told_keep [.ref a, .int (nI s), .int (nI k), .ref b] D P := by
  have h2 := (hO.2.2 s hs).1
  refine xCv_of y_Told_keep (Nat.le_of_ble_eq_true rfl) (s_Told_keep_0 hT.1 kb (c_Told_slotAt hT.1 ?_))
  rw [slot_nI hk (by omega)]
  refine ⟨fun q => (by cases q), fun b' q => ?_⟩
  cases q
  refine ⟨told_sheet hT.1 hk, c_Sheet_copy (told_sheet hT.1 hk) kb hs hR hx (by omega) (fun D1 o1 w1 g1 => ?_)⟩
  obtain ⟨t1, t2, t3, t4, t5, t6, t7, t8⟩ := hT
  have sheets : ∀ D', xOut (a + 6 + k * 19 + 1) (a + 6 + k * 19 + 19) D D' → D' = D1 → ∀ i, i < 5 → ∀ j, j < 2 → (i = s ∧ j = k → shR D1 (a + 6 + j * 19) i ξ) ∧ (¬ (i = s ∧ j = k) → j < σ.2.2.1 i → shR D1 (a + 6 + j * 19) i (σ.2.2.2 i j)) := by
    intro D' _ _ i hi j hj
    refine ⟨fun e => by rw [e.1, e.2]; exact w1, fun e hjc => ?_⟩
    have old := t8 i hi j hjc
    by_cases q : j = k
    · rw [q] at old ⊢
      exact g1 i _ hi (fun z => e ⟨z, q⟩) old
    · have : j * 19 + 19 ≤ k * 19 ∨ k * 19 + 19 ≤ j * 19 := by omega
      exact old.out o1 (by omega)
  have sh := sheets D1 o1 rfl
  have r3 : rS D1 (a + 3) 5 := t6.out o1 (by omega)
  have v4 : ∀ i, i < 5 → D1.1 (a + 4) i = nI (σ.2.2.1 i) := fun i hi => by rw [o1.1 _ (by omega)]; exact t7 i hi
  refine c_howRaw t1 r3 hs ?_
  rw [v4 s hs]
  have done : ∀ D', xOut (a + 4) (a + 5) D1 D' → (∀ i, i < 5 → D'.1 (a + 4) i = nI (if i = s then max (σ.2.2.1 s) (k + 1) else σ.2.2.1 i)) → P D' := by
    intro D' o2 v2
    refine h D' ((o1.mono (by omega) (by omega)).trans (o2.mono (by omega) (by omega))) ⟨t1, (t2.out o1 (by omega)).out o2 (by omega), fun j hj => by rw [o2.1 _ (by omega), o1.1 _ (by omega)]; exact t3 j hj, by rw [o2.1 _ (by omega), o1.1 _ (by omega)]; exact t4, by rw [o2.1 _ (by omega), o1.1 _ (by omega)]; exact t5, r3.out o2 (by omega), v2, fun i hi j hj => ?_⟩
    have hjc : j < (if i = s then max (σ.2.2.1 s) (k + 1) else σ.2.2.1 i) := hj
    have hi2 := (hO.2.2 i hi).1
    have hj2 : j < 2 := by split at hjc <;> omega
    have hsh := sh i hi j hj2
    show shR D' (a + 6 + j * 19) i (if i = s ∧ j = k then ξ else σ.2.2.2 i j)
    by_cases e : i = s ∧ j = k
    · rw [if_pos e]
      exact (hsh.1 e).out o2 (by omega)
    · rw [if_neg e]
      refine (hsh.2 e ?_).out o2 (by omega)
      by_cases q : i = s
      · rw [if_pos q] at hjc
        rw [q]
        have : j ≠ k := fun z => e ⟨q, z⟩
        omega
      · rw [if_neg q] at hjc; exact hjc
  refine ⟨fun q => ⟨rfl, done D1 xOut.rfl' (fun i hi => ?_)⟩, fun q => ?_⟩
  · have hlt := (nI_ltI (by omega) (by omega)).mp q
    rw [v4 i hi]
    by_cases e : i = s
    · rw [if_pos e, e, Nat.max_eq_left (by omega)]
    · rw [if_neg e]
  · have hge : σ.2.2.1 s ≤ k := Nat.le_of_not_lt (fun z => q (nI_lt z (by omega)))
    rw [nI_1 k]
    refine c_set r3 hs (fun D8 o8 v8 => ⟨rfl, done D8 (o8.mono (by omega) (by omega)) (fun i hi => ?_)⟩)
    rw [show a + 4 = a + 3 + 1 by omega, v8, show a + 3 + 1 = a + 4 by omega, v4 i hi]
    by_cases e : i = s
    · rw [if_pos e, if_pos e, Nat.max_eq_right (by omega)]
    · rw [if_neg e, if_neg e]
end TOLD
