/-! Texts read line by line: what is told, or where it breaks. -/
/-- the numeral 600, that nothing reckons with -/
noncomputable def tSix : Nat := Classical.choose (⟨600, rfl⟩ : ∃ n : Nat, n = 600)
theorem tSix_is : tSix = 600 := Classical.choose_spec (⟨600, rfl⟩ : ∃ n : Nat, n = 600)
theorem tSix_i : (600 : Int32) = nI tSix := by rw [tSix_is]; rfl
def nx (t : Nat × (Nat → Nat)) (p : Nat) : Nat → Nat
  | 0 => p
  | i + 1 => tE t (nx t p i)
/-- how many NUMBERS, at most m -/
def cN (t : Nat × (Nat → Nat)) : Nat → Nat → Nat
  | 0, _ => 0
  | m + 1, p => if tK t p = 1 then cN t m (tE t p) + 1 else 0
theorem cN_le (t : Nat × (Nat → Nat)) : ∀ m p, cN t m p ≤ m := by
  intro m
  induction m with
  | zero => intro p; exact Nat.le_refl _
  | succ m ih => intro p; have := ih (tE t p); rw [cN]; split <;> omega
theorem nx_le {t : Nat × (Nat → Nat)} {p : Nat} (h : p ≤ t.1) : ∀ i, nx t p i ≤ t.1 := by
  intro i
  induction i with
  | zero => exact h
  | succ i ih => exact tE_le ih
theorem nx_ge (t : Nat × (Nat → Nat)) (p : Nat) : ∀ i, p ≤ nx t p i := by
  intro i
  induction i with
  | zero => exact Nat.le_refl _
  | succ i ih =>
    have h1 := tS_ge t (nx t p i)
    have h2 := tE_ge t (nx t p i)
    show p ≤ tE t (nx t p i)
    omega
noncomputable def firstW (t : Nat × (Nat → Nat)) (p : Nat) : List (Nat × Nat) → Option Nat
  | [] => none
  | (k, f) :: l => cif (isW t p k) (some f) (firstW t p l)
theorem firstW_t {t : Nat × (Nat → Nat)} {p k f : Nat} {l : List (Nat × Nat)} (h : isW t p k) : firstW t p ((k, f) :: l) = some f := by rw [firstW, cif_t h]
theorem firstW_f {t : Nat × (Nat → Nat)} {p k f : Nat} {l : List (Nat × Nat)} (h : ¬ isW t p k) : firstW t p ((k, f) :: l) = firstW t p l := by rw [firstW, cif_f h]
theorem firstW_mem {t : Nat × (Nat → Nat)} {p f : Nat} : ∀ {l : List (Nat × Nat)}, firstW t p l = some f → ∃ k, (k, f) ∈ l ∧ isW t p k := by
  intro l
  induction l with
  | nil => intro h; cases h
  | cons x l ih =>
    obtain ⟨k, g⟩ := x
    intro h
    by_cases w : isW t p k
    · rw [firstW_t w] at h
      cases h
      exact ⟨k, List.mem_cons_self, w⟩
    · rw [firstW_f w] at h
      obtain ⟨k', h1, h2⟩ := ih h
      exact ⟨k', List.mem_cons_of_mem _ h1, h2⟩
/-- words that begin a line of a sort of text, and the forms of lines -/
def lnF (s : Nat) : List (Nat × Nat) :=
  if s = 0 then [(0, 0), (1, 1), (2, 2), (3, 3), (4, 4), (5, 5), (6, 6), (7, 7)] else if s = 1 then [(8, 8)] else if s = 2 then [(9, 20), (10, 21), (11, 22), (12, 23), (13, 24)] else if s = 3 then [(14, 9), (15, 10)] else [(16, 11)]
def lawF : List (Nat × Nat) := [(17, 0), (18, 1), (19, 2), (20, 3)]
theorem lnF_ok : ∀ s, s < 5 → ∀ x, x ∈ lnF s → (s = 0 ∧ x.2 ≤ 7) ∨ (s = 1 ∧ x.2 = 8) ∨ (s = 2 ∧ 20 ≤ x.2 ∧ x.2 ≤ 24) ∨ (s = 3 ∧ (x.2 = 9 ∨ x.2 = 10)) ∨ (s = 4 ∧ x.2 = 11) := by decide +kernel
theorem lawF_ok : ∀ x, x ∈ lawF → x.2 < 4 := by decide +kernel
theorem form_ok {t : Nat × (Nat → Nat)} {p s f : Nat} (hs : s < 5) (h : firstW t p (lnF s) = some f) : (s = 0 ∧ f ≤ 7) ∨ (s = 1 ∧ f = 8) ∨ (s = 2 ∧ 20 ≤ f ∧ f ≤ 24) ∨ (s = 3 ∧ (f = 9 ∨ f = 10)) ∨ (s = 4 ∧ f = 11) := by
  obtain ⟨k, h1, -⟩ := firstW_mem h
  exact lnF_ok s hs _ h1
theorem law_ok {t : Nat × (Nat → Nat)} {p f : Nat} (h : firstW t p lawF = some f) : f < 4 := by
  obtain ⟨k, h1, -⟩ := firstW_mem h
  exact lawF_ok _ h1
def lsN (f : Nat) : Nat := if f = 5 then 4 else if f = 21 then 2 else 1
noncomputable def msN (f : Nat) : Nat := if 8 ≤ f ∧ f ≤ 11 then tSix else lsN f
def tl (q : qS) (f first : Nat) (V P : Nat → Nat) (c : Nat) : qS :=
  if f < 5 then tlNum q f (V 0) (P 0) else if f = 5 then tlPer q first V P else if f = 6 then tlJum q (V 0) (P 0) else if f = 8 then tlKs q 0 1 52 V P c else if f = 9 then tlKs q 0 2 4 V P c else if f = 10 then tlKs q 1 6 48 V P c else if f = 11 then tlFra q first V P c else tlDeed q (f - 20) first V P
/-- behind the LAW's word at p: one KIND, or none -/
noncomputable def lnLaw (t : Nat × (Nat → Nat)) (q : qS) (p1 p w : Nat) : Nat ⊕ (qS × Nat) :=
  if cN t (if w = 1 ∨ w = 2 then 1 else 0) (tE t p) < (if w = 1 ∨ w = 2 then 1 else 0) then .inl (tS t (nx t (tE t p) (cN t (if w = 1 ∨ w = 2 then 1 else 0) (tE t p))))
  else if tK t (nx t (tE t p) (cN t (if w = 1 ∨ w = 2 then 1 else 0) (tE t p))) ≠ 2 then .inl (tS t (nx t (tE t p) (cN t (if w = 1 ∨ w = 2 then 1 else 0) (tE t p))))
  else .inr (tlLaw q w (tV t p1) (tS t p1) (tV t (tE t p)) (tS t (tE t p)), tE t (nx t (tE t p) (cN t (if w = 1 ∨ w = 2 then 1 else 0) (tE t p))))
/-- behind the word of a line of form f; it began at p, its NUMBERS begin at p1 -/
noncomputable def lnRest (t : Nat × (Nat → Nat)) (q : qS) (p p1 f : Nat) : Nat ⊕ (qS × Nat) :=
  if cN t (msN f) p1 < lsN f then .inl (tS t (nx t p1 (cN t (msN f) p1)))
  else if f = 7 then (match (if tK t (nx t p1 (cN t (msN f) p1)) = 0 then firstW t (nx t p1 (cN t (msN f) p1)) lawF else none) with
    | none => .inl (tS t (nx t p1 (cN t (msN f) p1)))
    | some w => lnLaw t q p1 (nx t p1 (cN t (msN f) p1)) w)
  else if tK t (nx t p1 (cN t (msN f) p1)) ≠ 2 then .inl (tS t (nx t p1 (cN t (msN f) p1)))
  else .inr (tl q f (tS t p) (fun i => tV t (nx t p1 i)) (fun i => tS t (nx t p1 i)) (cN t (msN f) p1), tE t (nx t p1 (cN t (msN f) p1)))
/-- a line -/
noncomputable def lnS (t : Nat × (Nat → Nat)) (s : Nat) (q : qS) (p : Nat) : Nat ⊕ (qS × Nat) :=
  match (if tK t p = 0 then firstW t p (lnF s) else none) with
  | none => .inl (tS t p)
  | some f => lnRest t q p (tE t p) f
noncomputable def rdS (t : Nat × (Nat → Nat)) (s : Nat) : Nat → qS → Nat → Nat ⊕ qS
  | 0, q, _ => .inr q
  | F + 1, q, p => if tK t p = 3 then .inr q else match lnS t s q p with
    | .inl b => .inl b
    | .inr (q', p') => rdS t s F q' p'
def q0 (s : Nat) : qS := (none, if s = 0 then tNew else fun _ => 0, 0, 0)
def stands (q : qS) : Prop := 2 ≤ tN q.2.1 5 ∧ q.2.2.1 ≤ tN q.2.1 5 ∧ q.2.2.2 ≤ tN q.2.1 0 ∧ tN q.2.1 5 * tN q.2.1 2 < tN q.2.1 0 * tN q.2.1 1
/-- the FAULT at the end, and the text -/
noncomputable def rdEnd (t : Nat × (Nat → Nat)) (s : Nat) (q : qS) : qS := (if s = 0 then cif (stands q) q.1 (nt q.1 4 t.1) else q.1, q.2)
noncomputable def rd (t : Nat × (Nat → Nat)) (s : Nat) : Option (Nat × Nat) × (Nat → Int32) := match rdS t s tSix (q0 s) 0 with
  | .inl b => (some (1, b), fun _ => 0)
  | .inr q => ((rdEnd t s q).1, q.2.1)
/-! As long as no FAULT is noted, what is told is as the document has it. -/
theorem nt_some (F : Option (Nat × Nat)) (k p : Nat) : nt F k p ≠ none := by
  cases F with
  | none => exact fun h => by cases h
  | some f => exact fun h => by cases h
theorem chk_none {F : Option (Nat × Nat)} {n lo hi p : Nat} (h : chk F n lo hi p = none) : F = none ∧ lo ≤ n ∧ n ≤ hi := by
  unfold chk at h
  split at h
  · exact absurd h (nt_some _ _ _)
  · exact ⟨h, by omega, by omega⟩
def pOK0 (ξ : Nat → Int32) (gk : Nat) : Prop :=
  (∀ j, j < 6 → ξ j = nI (tN ξ j)) ∧ (2 ≤ tN ξ 0 ∧ tN ξ 0 ≤ 13) ∧ (1 ≤ tN ξ 1 ∧ tN ξ 1 ≤ 4) ∧ (2 ≤ tN ξ 2 ∧ tN ξ 2 ≤ 4) ∧ (1 ≤ tN ξ 3 ∧ tN ξ 3 ≤ 9) ∧ tN ξ 4 ≤ 9 ∧ tN ξ 5 ≤ 6 ∧
  (∀ p, p < 6 → ξ (6 + 7 * p + 4) = nI (tP ξ p 4) ∧ tP ξ p 4 ≤ 3 ∧ ξ (6 + 7 * p + 6) = nI (tP ξ p 6) ∧ tP ξ p 6 ≤ 1 ∧ (ξ (6 + 7 * p + 5) = -1 ∨ ∃ k, k < gk ∧ ξ (6 + 7 * p + 5) = nI k) ∧ (tP ξ p 4 = 1 ∨ tP ξ p 4 = 2 → ∃ k, k < gk ∧ ξ (6 + 7 * p + 5) = nI k)) ∧
  ∀ p, p < tN ξ 5 → (∀ w, w < 4 → ξ (6 + 7 * p + w) = nI (tP ξ p w)) ∧ (1 ≤ tP ξ p 0 ∧ tP ξ p 0 ≤ 9) ∧ (1 ≤ tP ξ p 1 ∧ tP ξ p 1 ≤ 9) ∧ tP ξ p 2 ≤ 9 ∧ tP ξ p 3 ≤ 20
def pOK (s : Nat) (q : qS) : Prop := q.1 = none → (s = 0 → pOK0 q.2.1 q.2.2.2) ∧ (s = 1 → hpOK q.2.1) ∧ (s = 2 → bOK q.2.1) ∧ (s = 3 → hdOK q.2.1) ∧ (s = 4 → fOK q.2.1)
theorem pOK_new : pOK0 tNew 0 := by
  have e : ∀ p w, p < 6 → w < 7 → tNew (6 + 7 * p + w) = if w = 5 then -1 else nI 0 := fun p w hp hw => by
    unfold tNew
    rw [if_neg (by omega), if_neg (by omega), if_neg (by omega), if_neg (by omega), show (6 + 7 * p + w - 6) % 7 = w by omega]
  have z : ∀ p w, p < 6 → w < 7 → w ≠ 5 → tP tNew p w = 0 := fun p w hp hw hne => by
    unfold tP tN
    rw [e p w hp hw, if_neg hne]; rfl
  refine ⟨by decide, by decide, by decide, by decide, by decide, by decide, by decide, fun p hp => ?_, fun p hp => absurd hp (by decide +revert)⟩
  rw [e p 4 hp (by omega), e p 5 hp (by omega), e p 6 hp (by omega), z p 4 hp (by omega) (by omega), z p 6 hp (by omega) (by omega)]
  exact ⟨rfl, by omega, rfl, by omega, Or.inl rfl, fun h => by omega⟩
theorem tSet_P (ξ : Nat → Int32) {p w u : Nat} {v : Int32} (hu : u < 7) (hw : w < 7) {q : Nat} : tSet ξ (6 + 7 * p + w) v (6 + 7 * q + u) = if q = p ∧ u = w then v else ξ (6 + 7 * q + u) := tSet_p ξ v hw hu
theorem pOK_num {q : qS} {f n pl : Nat} (hf : f < 5) (h : pOK 0 q) : pOK 0 (tlNum q f n pl) := by
  intro hn
  obtain ⟨h0, hlo, hhi⟩ := chk_none (show chk q.1 n (lo5 f) (hi5 f) pl = none from hn)
  refine ⟨fun _ => ?_, fun e => by omega, fun e => by omega, fun e => by omega, fun e => by omega⟩
  obtain ⟨a1, a2, a3, a4, a5, a6, a7, a8, a9⟩ := (h h0).1 rfl
  have hn14 : n ≤ 13 := by unfold hi5 at hhi; split at hhi <;> (try split at hhi) <;> (try split at hhi) <;> omega
  have N : ∀ j, tN (tSet q.2.1 f (nI n)) j = if j = f then n else tN q.2.1 j := fun j => by rw [tSet_N, nI_clamp (by omega)]
  have hi : ∀ p w, w < 7 → (tSet q.2.1 f (nI n)) (6 + 7 * p + w) = q.2.1 (6 + 7 * p + w) := fun p w hw => tSet_ne (by omega)
  have hP : ∀ p w, w < 7 → tP (tSet q.2.1 f (nI n)) p w = tP q.2.1 p w := fun p w hw => by unfold tP tN; rw [hi p w hw]
  have g5 : tN (tSet q.2.1 f (nI n)) 5 = tN q.2.1 5 := by rw [N, if_neg (by omega)]
  show pOK0 (tSet q.2.1 f (nI n)) q.2.2.2
  refine ⟨fun j hj => ?_, ?_, ?_, ?_, ?_, ?_, by rw [g5]; exact a7, fun p hp => ?_, fun p hp => ?_⟩
  · rw [N, tSet_at]
    by_cases z : j = f
    · rw [if_pos z, if_pos z]
    · rw [if_neg z, if_neg z]; exact a1 j hj
  · rw [N]; unfold lo5 at hlo; unfold hi5 at hhi; split <;> rename_i z
    · rw [if_pos z.symm] at hlo hhi; omega
    · exact a2
  · rw [N]; unfold lo5 at hlo; unfold hi5 at hhi; split <;> rename_i z
    · subst z; rw [if_neg (by omega), if_pos rfl] at hlo hhi; omega
    · exact a3
  · rw [N]; unfold lo5 at hlo; unfold hi5 at hhi; split <;> rename_i z
    · subst z; rw [if_neg (by omega), if_neg (by omega), if_pos rfl] at hlo hhi; omega
    · exact a4
  · rw [N]; unfold lo5 at hlo; unfold hi5 at hhi; split <;> rename_i z
    · subst z; rw [if_neg (by omega), if_neg (by omega), if_neg (by omega), if_pos rfl] at hlo; rw [if_neg (by omega), if_neg (by omega), if_neg (by omega)] at hhi; omega
    · exact a5
  · rw [N]; unfold hi5 at hhi; split <;> rename_i z
    · subst z; rw [if_neg (by omega), if_neg (by omega), if_neg (by omega)] at hhi; omega
    · exact a6
  · rw [hi p 4 (by omega), hi p 5 (by omega), hi p 6 (by omega), hP p 4 (by omega), hP p 6 (by omega)]; exact a8 p hp
  · rw [g5] at hp
    rw [hP p 0 (by omega), hP p 1 (by omega), hP p 2 (by omega), hP p 3 (by omega)]
    exact ⟨fun w hw => by rw [hi p w (by omega), hP p w (by omega)]; exact (a9 p hp).1 w hw, (a9 p hp).2⟩
theorem pOK_per {q : qS} {first : Nat} {V P : Nat → Nat} (h : pOK 0 q) : pOK 0 (tlPer q first V P) := by
  intro hn
  have hn : chk (chk (chk (chk (if tN q.2.1 5 < 6 then q.1 else nt q.1 3 first) (V 0) 1 9 (P 0)) (V 1) 1 9 (P 1)) (V 2) 0 9 (P 2)) (V 3) 0 20 (P 3) = none := hn
  obtain ⟨hn, c3, c3'⟩ := chk_none hn
  obtain ⟨hn, c2, c2'⟩ := chk_none hn
  obtain ⟨hn, c1, c1'⟩ := chk_none hn
  obtain ⟨hn, c0, c0'⟩ := chk_none hn
  by_cases c : tN q.2.1 5 < 6
  · rw [if_pos c] at hn
    refine ⟨fun _ => ?_, fun e => by omega, fun e => by omega, fun e => by omega, fun e => by omega⟩
    obtain ⟨a1, a2, a3, a4, a5, a6, a7, a8, a9⟩ := (h hn).1 rfl
    have e : (tlPer q first V P).2.1 = tSet (tSet (tSet (tSet (tSet q.2.1 (6 + 7 * tN q.2.1 5 + 0) (nI (V 0))) (6 + 7 * tN q.2.1 5 + 1) (nI (V 1))) (6 + 7 * tN q.2.1 5 + 2) (nI (V 2))) (6 + 7 * tN q.2.1 5 + 3) (nI (V 3))) 5 (nI (tN q.2.1 5 + 1)) := by unfold tlPer; rw [if_pos c, if_pos c]
    rw [e]
    generalize hN : tN q.2.1 5 = N at c a7 a9 ⊢
    generalize hζ : tSet (tSet (tSet (tSet (tSet q.2.1 (6 + 7 * N + 0) (nI (V 0))) (6 + 7 * N + 1) (nI (V 1))) (6 + 7 * N + 2) (nI (V 2))) (6 + 7 * N + 3) (nI (V 3))) 5 (nI (N + 1)) = ζ
    have lo : ∀ j, j < 5 → ζ j = q.2.1 j := fun j hj => by rw [← hζ, tSet_ne (by omega), tSet_ne (by omega), tSet_ne (by omega), tSet_ne (by omega), tSet_ne (by omega)]
    have f5 : ζ 5 = nI (N + 1) := by rw [← hζ, tSet_at, if_pos rfl]
    have n5 : tN ζ 5 = N + 1 := by unfold tN; rw [f5, nI_clamp (by omega)]
    have at' : ∀ p w, w < 7 → ζ (6 + 7 * p + w) = if p = N ∧ w < 4 then nI (V w) else q.2.1 (6 + 7 * p + w) := fun p w hw => by
      rw [← hζ, tSet_ne (by omega), tSet_P _ hw (by omega), tSet_P _ hw (by omega), tSet_P _ hw (by omega), tSet_P _ hw (by omega)]
      by_cases z : p = N ∧ w < 4
      · rw [if_pos z]
        rcases (show w = 0 ∨ w = 1 ∨ w = 2 ∨ w = 3 by omega) with rfl | rfl | rfl | rfl
        · rw [if_neg (by omega), if_neg (by omega), if_neg (by omega), if_pos ⟨z.1, rfl⟩]
        · rw [if_neg (by omega), if_neg (by omega), if_pos ⟨z.1, rfl⟩]
        · rw [if_neg (by omega), if_pos ⟨z.1, rfl⟩]
        · rw [if_pos ⟨z.1, rfl⟩]
      · rw [if_neg (by omega), if_neg (by omega), if_neg (by omega), if_neg (by omega), if_neg z]
    have hP : ∀ p w, w < 7 → ¬ (p = N ∧ w < 4) → tP ζ p w = tP q.2.1 p w := fun p w hw hne => by unfold tP tN; rw [at' p w hw, if_neg hne]
    have hV : ∀ w, w < 4 → V w < 2 ^ 31 → tP ζ N w = V w := fun w hw hv => by unfold tP tN; rw [at' N w (by omega), if_pos ⟨rfl, hw⟩, nI_clamp hv]
    have lN : ∀ j, j < 5 → tN ζ j = tN q.2.1 j := fun j hj => by unfold tN; rw [lo j hj]
    refine ⟨fun j hj => ?_, by rw [lN 0 (by omega)]; exact a2, by rw [lN 1 (by omega)]; exact a3, by rw [lN 2 (by omega)]; exact a4, by rw [lN 3 (by omega)]; exact a5, by rw [lN 4 (by omega)]; exact a6, by rw [n5]; omega, fun p hp => ?_, fun p hp => ?_⟩
    · by_cases z : j = 5
      · rw [z, f5, n5]
      · rw [lo j (by omega), lN j (by omega)]; exact a1 j hj
    · rw [at' p 4 (by omega), at' p 5 (by omega), at' p 6 (by omega), if_neg (by omega), if_neg (by omega), if_neg (by omega), hP p 4 (by omega) (by omega), hP p 6 (by omega) (by omega)]
      exact a8 p hp
    · rw [n5] at hp
      by_cases z : p = N
      · subst z
        rw [hV 0 (by omega) (by omega), hV 1 (by omega) (by omega), hV 2 (by omega) (by omega), hV 3 (by omega) (by omega)]
        refine ⟨fun w hw => ?_, ⟨c0, c0'⟩, ⟨c1, c1'⟩, c2', c3'⟩
        have hv : V w < 2 ^ 31 := by rcases (show w = 0 ∨ w = 1 ∨ w = 2 ∨ w = 3 by omega) with rfl | rfl | rfl | rfl <;> omega
        rw [at' p w (by omega), if_pos ⟨rfl, hw⟩, hV w hw hv]
      · have b9 := a9 p (by omega)
        rw [hP p 0 (by omega) (by omega), hP p 1 (by omega) (by omega), hP p 2 (by omega) (by omega), hP p 3 (by omega) (by omega)]
        exact ⟨fun w hw => by rw [at' p w (by omega), if_neg (by omega), hP p w (by omega) (by omega)]; exact b9.1 w hw, b9.2⟩
  · rw [if_neg c] at hn
    exact absurd hn (nt_some _ _ _)
theorem pOK_jum {q : qS} {n pl : Nat} (h : pOK 0 q) : pOK 0 (tlJum q n pl) := by
  intro hn
  obtain ⟨h0, -, hhi⟩ := chk_none (show chk q.1 n 0 5 pl = none from hn)
  refine ⟨fun _ => ?_, fun e => by omega, fun e => by omega, fun e => by omega, fun e => by omega⟩
  obtain ⟨a1, a2, a3, a4, a5, a6, a7, a8, a9⟩ := (h h0).1 rfl
  show pOK0 (tSetP q.2.1 n 6 1) q.2.2.2
  unfold tSetP
  rw [if_pos (show n < 6 by omega)]
  have lo : ∀ j, j < 6 → tN (tSet q.2.1 (6 + 7 * n + 6) 1) j = tN q.2.1 j := fun j hj => tN_set _ _ hj
  have at' : ∀ p w, w < 7 → tSet q.2.1 (6 + 7 * n + 6) 1 (6 + 7 * p + w) = if p = n ∧ w = 6 then 1 else q.2.1 (6 + 7 * p + w) := fun p w hw => tSet_P _ hw (by omega)
  have hP : ∀ p w, w < 7 → tP (tSet q.2.1 (6 + 7 * n + 6) 1) p w = if p = n ∧ w = 6 then 1 else tP q.2.1 p w := fun p w hw => tP_set _ _ (by omega) hw
  refine ⟨fun j hj => by rw [lo j hj, tSet_ne (by omega)]; exact a1 j hj, by rw [lo 0 (by omega)]; exact a2, by rw [lo 1 (by omega)]; exact a3, by rw [lo 2 (by omega)]; exact a4, by rw [lo 3 (by omega)]; exact a5, by rw [lo 4 (by omega)]; exact a6, by rw [lo 5 (by omega)]; exact a7, fun p hp => ?_, fun p hp => ?_⟩
  · obtain ⟨b1, b2, b3, b4, b5, b6⟩ := a8 p hp
    have n4 : ¬ (p = n ∧ 4 = 6) := by omega
    have n5 : ¬ (p = n ∧ 5 = 6) := by omega
    rw [at' p 4 (by omega), at' p 5 (by omega), at' p 6 (by omega), hP p 4 (by omega), hP p 6 (by omega), if_neg n4, if_neg n4, if_neg n5]
    refine ⟨b1, b2, ?_, ?_, b5, b6⟩
    · by_cases z : p = n ∧ 6 = 6
      · rw [if_pos z, if_pos z]; rfl
      · rw [if_neg z, if_neg z]; exact b3
    · split <;> omega
  · rw [lo 5 (by omega)] at hp
    rw [hP p 0 (by omega), hP p 1 (by omega), hP p 2 (by omega), hP p 3 (by omega), if_neg (by omega), if_neg (by omega), if_neg (by omega), if_neg (by omega)]
    exact ⟨fun w hw => by rw [at' p w (by omega), hP p w (by omega), if_neg (by omega), if_neg (by omega)]; exact (a9 p hp).1 w hw, (a9 p hp).2⟩
theorem pOK_law {q : qS} {w n pl n1 pl1 : Nat} (hw : w < 4) (h : pOK 0 q) : pOK 0 (tlLaw q w n pl n1 pl1) := by
  intro hn
  have key : ∀ (kd : Int32) (gk' : Nat), q.1 = none → n ≤ 5 → q.2.2.2 ≤ gk' → (kd = -1 ∨ ∃ k, k < gk' ∧ kd = nI k) → (w = 1 ∨ w = 2 → ∃ k, k < gk' ∧ kd = nI k) → pOK0 (tSet (tSet q.2.1 (6 + 7 * n + 4) (nI w)) (6 + 7 * n + 5) kd) gk' := by
    intro kd gk' h0 hn5 hg k1 k2
    obtain ⟨a1, a2, a3, a4, a5, a6, a7, a8, a9⟩ := (h h0).1 rfl
    generalize hζ : tSet (tSet q.2.1 (6 + 7 * n + 4) (nI w)) (6 + 7 * n + 5) kd = ζ
    have lo : ∀ j, j < 6 → ζ j = q.2.1 j := fun j hj => by rw [← hζ, tSet_ne (by omega), tSet_ne (by omega)]
    have lN : ∀ j, j < 6 → tN ζ j = tN q.2.1 j := fun j hj => by unfold tN; rw [lo j hj]
    have at' : ∀ p u, u < 7 → ζ (6 + 7 * p + u) = if p = n ∧ u = 5 then kd else if p = n ∧ u = 4 then nI w else q.2.1 (6 + 7 * p + u) := fun p u hu => by rw [← hζ, tSet_P _ hu (by omega), tSet_P _ hu (by omega)]
    have hP : ∀ p u, u < 7 → ¬ (p = n ∧ (u = 4 ∨ u = 5)) → tP ζ p u = tP q.2.1 p u := fun p u hu hne => by
      unfold tP tN
      rw [at' p u hu, if_neg (by omega), if_neg (by omega)]
    refine ⟨fun j hj => by rw [lo j hj, lN j hj]; exact a1 j hj, by rw [lN 0 (by omega)]; exact a2, by rw [lN 1 (by omega)]; exact a3, by rw [lN 2 (by omega)]; exact a4, by rw [lN 3 (by omega)]; exact a5, by rw [lN 4 (by omega)]; exact a6, by rw [lN 5 (by omega)]; exact a7, fun p hp => ?_, fun p hp => ?_⟩
    · obtain ⟨b1, b2, b3, b4, b5, b6⟩ := a8 p hp
      rw [hP p 6 (by omega) (by omega), at' p 6 (by omega), if_neg (by omega), if_neg (by omega)]
      by_cases z : p = n
      · have e4 : tP ζ p 4 = w := by unfold tP tN; rw [at' p 4 (by omega), if_neg (by omega), if_pos ⟨z, rfl⟩, nI_clamp (by omega)]
        rw [e4, at' p 4 (by omega), if_neg (by omega), if_pos ⟨z, rfl⟩, at' p 5 (by omega), if_pos ⟨z, rfl⟩]
        exact ⟨rfl, by omega, b3, b4, k1, k2⟩
      · rw [hP p 4 (by omega) (by omega), at' p 4 (by omega), if_neg (by omega), if_neg (by omega), at' p 5 (by omega), if_neg (by omega), if_neg (by omega)]
        refine ⟨b1, b2, b3, b4, ?_, fun z2 => ?_⟩
        · rcases b5 with y | ⟨k, y1, y2⟩
          · exact Or.inl y
          · exact Or.inr ⟨k, by omega, y2⟩
        · obtain ⟨k, y1, y2⟩ := b6 z2
          exact ⟨k, by omega, y2⟩
    · rw [lN 5 (by omega)] at hp
      rw [hP p 0 (by omega) (by omega), hP p 1 (by omega) (by omega), hP p 2 (by omega) (by omega), hP p 3 (by omega) (by omega)]
      exact ⟨fun u hu => by rw [at' p u (by omega), if_neg (by omega), if_neg (by omega), hP p u (by omega) (by omega)]; exact (a9 p hp).1 u hu, (a9 p hp).2⟩
  refine ⟨fun _ => ?_, fun e => by omega, fun e => by omega, fun e => by omega, fun e => by omega⟩
  unfold tlLaw at hn ⊢
  by_cases c : w = 1 ∨ w = 2
  · rw [if_pos c] at hn ⊢
    obtain ⟨hn, -, k12⟩ := chk_none hn
    obtain ⟨h0, -, n5⟩ := chk_none hn
    have e : tSetP (tSetP (tSetP q.2.1 n 4 (nI w)) n 5 (-1)) n 5 (nI n1) = tSet (tSet q.2.1 (6 + 7 * n + 4) (nI w)) (6 + 7 * n + 5) (nI n1) := by
      unfold tSetP
      rw [if_pos (show n < 6 by omega), if_pos (show n < 6 by omega), if_pos (show n < 6 by omega), tSet_tSet]
    show pOK0 (tSetP (tSetP (tSetP q.2.1 n 4 (nI w)) n 5 (-1)) n 5 (nI n1)) (if q.2.2.2 < n1 + 1 then n1 + 1 else q.2.2.2)
    rw [e]
    have hk : n1 < (if q.2.2.2 < n1 + 1 then n1 + 1 else q.2.2.2) := by split <;> omega
    exact key (nI n1) _ h0 n5 (by split <;> omega) (Or.inr ⟨n1, hk, rfl⟩) (fun _ => ⟨n1, hk, rfl⟩)
  · rw [if_neg c] at hn ⊢
    obtain ⟨h0, -, n5⟩ := chk_none hn
    have e : tSetP (tSetP q.2.1 n 4 (nI w)) n 5 (-1) = tSet (tSet q.2.1 (6 + 7 * n + 4) (nI w)) (6 + 7 * n + 5) (-1) := by
      unfold tSetP
      rw [if_pos (show n < 6 by omega), if_pos (show n < 6 by omega)]
    show pOK0 (tSetP (tSetP q.2.1 n 4 (nI w)) n 5 (-1)) q.2.2.2
    rw [e]
    exact key (-1) _ h0 n5 (Nat.le_refl _) (Or.inl rfl) (fun z => absurd z c)
theorem pOK_k1 {q : qS} {s c from' most v pl off : Nat} (kl : klR s off c from' most) (h : pOK s q) : pOK s (tlK1 q c from' most v pl) := by
  intro hn
  unfold tlK1 at hn ⊢
  by_cases z : tN q.2.1 c < most
  · rw [if_pos z] at hn ⊢
    obtain ⟨h0, -, v12⟩ := chk_none hn
    rcases kl with ⟨rfl, -, rfl, rfl, rfl⟩ | ⟨rfl, -, rfl, rfl, rfl⟩ | ⟨rfl, -, rfl, rfl, rfl⟩
    · refine ⟨fun e => by omega, fun _ => ?_, fun e => by omega, fun e => by omega, fun e => by omega⟩
      obtain ⟨a1, a2, a3⟩ := (h h0).2.1 rfl
      show hpOK (tSet (tSet q.2.1 (1 + tN q.2.1 0) (nI v)) 0 (nI (tN q.2.1 0 + 1)))
      have e0 : tN (tSet (tSet q.2.1 (1 + tN q.2.1 0) (nI v)) 0 (nI (tN q.2.1 0 + 1))) 0 = tN q.2.1 0 + 1 := by rw [tSet_N, if_pos rfl, nI_clamp (by omega)]
      refine ⟨by rw [e0, tSet_at, if_pos rfl], by rw [e0]; omega, fun i hi => ?_⟩
      rw [e0] at hi
      have nn : tN (tSet (tSet q.2.1 (1 + tN q.2.1 0) (nI v)) 0 (nI (tN q.2.1 0 + 1))) (1 + i) = if i = tN q.2.1 0 then v else tN q.2.1 (1 + i) := by
        rw [tSet_N, if_neg (by omega), tSet_N, nI_clamp (by omega)]
        by_cases y : i = tN q.2.1 0
        · rw [if_pos (by omega), if_pos y]
        · rw [if_neg (by omega), if_neg y]
      rw [nn, tSet_ne (by omega), tSet_at]
      by_cases y : i = tN q.2.1 0
      · rw [if_pos (by omega), if_pos y]; exact ⟨rfl, by omega⟩
      · rw [if_neg (by omega), if_neg y]; exact a3 i (by omega)
    · refine ⟨fun e => by omega, fun e => by omega, fun e => by omega, fun _ => ?_, fun e => by omega⟩
      obtain ⟨a1, a2, a3, a4, a5, a6⟩ := (h h0).2.2.2.1 rfl
      show hdOK (tSet (tSet q.2.1 (2 + tN q.2.1 0) (nI v)) 0 (nI (tN q.2.1 0 + 1)))
      have nn : ∀ j, tN (tSet (tSet q.2.1 (2 + tN q.2.1 0) (nI v)) 0 (nI (tN q.2.1 0 + 1))) j = if j = 0 then tN q.2.1 0 + 1 else if j = 2 + tN q.2.1 0 then v else tN q.2.1 j := fun j => by rw [tSet_N, tSet_N, nI_clamp (by omega), nI_clamp (by omega)]
      have e0 := nn 0
      rw [if_pos rfl] at e0
      have e1 := nn 1
      rw [if_neg (by omega), if_neg (by omega)] at e1
      refine ⟨by rw [e0, tSet_at, if_pos rfl], by rw [e0]; omega, by rw [e1, tSet_ne (by omega), tSet_ne (by omega)]; exact a3, by rw [e1]; exact a4, fun i hi => ?_, fun i hi => ?_⟩
      · rw [e0] at hi
        rw [nn, if_neg (by omega), tSet_ne (by omega), tSet_at]
        by_cases y : 2 + i = 2 + tN q.2.1 0
        · rw [if_pos y, if_pos y]; exact ⟨rfl, by omega⟩
        · rw [if_neg y, if_neg y]; exact a5 i (by omega)
      · rw [e1] at hi
        rw [nn, if_neg (by omega), if_neg (by omega), tSet_ne (by omega), tSet_ne (by omega)]; exact a6 i hi
    · refine ⟨fun e => by omega, fun e => by omega, fun e => by omega, fun _ => ?_, fun e => by omega⟩
      obtain ⟨a1, a2, a3, a4, a5, a6⟩ := (h h0).2.2.2.1 rfl
      show hdOK (tSet (tSet q.2.1 (6 + tN q.2.1 1) (nI v)) 1 (nI (tN q.2.1 1 + 1)))
      have nn : ∀ j, tN (tSet (tSet q.2.1 (6 + tN q.2.1 1) (nI v)) 1 (nI (tN q.2.1 1 + 1))) j = if j = 1 then tN q.2.1 1 + 1 else if j = 6 + tN q.2.1 1 then v else tN q.2.1 j := fun j => by rw [tSet_N, tSet_N, nI_clamp (by omega), nI_clamp (by omega)]
      have e0 := nn 0
      rw [if_neg (by omega), if_neg (by omega)] at e0
      have e1 := nn 1
      rw [if_pos rfl] at e1
      refine ⟨by rw [e0, tSet_ne (by omega), tSet_ne (by omega)]; exact a1, by rw [e0]; exact a2, by rw [e1, tSet_at, if_pos rfl], by rw [e1]; omega, fun i hi => ?_, fun i hi => ?_⟩
      · rw [e0] at hi
        rw [nn, if_neg (by omega), if_neg (by omega), tSet_ne (by omega), tSet_ne (by omega)]; exact a5 i hi
      · rw [e1] at hi
        rw [nn, if_neg (by omega), tSet_ne (by omega), tSet_at]
        by_cases y : 6 + i = 6 + tN q.2.1 1
        · rw [if_pos y, if_pos y]; exact ⟨rfl, by omega⟩
        · rw [if_neg y, if_neg y]; exact a6 i (by omega)
  · rw [if_neg z] at hn
    exact absurd hn (nt_some _ _ _)
theorem pOK_ks {q : qS} {s c from' most off : Nat} {V P : Nat → Nat} (kl : klR s off c from' most) (h : pOK s q) : ∀ i, pOK s (tlKs q c from' most V P i) := by
  intro i
  induction i with
  | zero => exact h
  | succ i ih => exact pOK_k1 kl ih
theorem pOK_deed {q : qS} {deed first : Nat} {V P : Nat → Nat} (hd : deed < 5) (h : pOK 2 q) : pOK 2 (tlDeed q deed first V P) := by
  intro hn
  have hn : (if deed = 1 then chk (chk (if tN q.2.1 0 < 40 then q.1 else nt q.1 3 first) (V 0) 0 5 (P 0)) (V 1) 0 12 (P 1) else if deed = 4 then chk (if tN q.2.1 0 < 40 then q.1 else nt q.1 3 first) (V 0) 1 9 (P 0) else chk (if tN q.2.1 0 < 40 then q.1 else nt q.1 3 first) (V 0) 0 5 (P 0)) = none := hn
  have fin : (if tN q.2.1 0 < 40 then q.1 else nt q.1 3 first) = none ∧ V 0 ≤ 9 ∧ (deed = 1 → V 1 < 13) := by
    split at hn
    · obtain ⟨hn, -, x1⟩ := chk_none hn
      obtain ⟨hn, -, x2⟩ := chk_none hn
      exact ⟨hn, by omega, fun _ => by omega⟩
    · split at hn
      · obtain ⟨hn, -, x2⟩ := chk_none hn
        exact ⟨hn, x2, fun _ => by omega⟩
      · obtain ⟨hn, -, x2⟩ := chk_none hn
        exact ⟨hn, by omega, fun _ => by omega⟩
  obtain ⟨hn, v9, v13⟩ := fin
  by_cases c : tN q.2.1 0 < 40
  · rw [if_pos c] at hn
    refine ⟨fun e => by omega, fun e => by omega, fun _ => ?_, fun e => by omega, fun e => by omega⟩
    obtain ⟨a1, a2, a3⟩ := bOK_len ((h hn).2.2.1 rfl)
    have e : (tlDeed q deed first V P).2.1 = tSet (tSet (tSet (tSet q.2.1 (1 + 3 * tN q.2.1 0) (nI deed)) (1 + 3 * tN q.2.1 0 + 1) (nI (V 0))) (1 + 3 * tN q.2.1 0 + 2) (if deed = 1 then nI (V 1) else -1)) 0 (nI (tN q.2.1 0 + 1)) := by unfold tlDeed; exact if_pos c
    rw [e]
    generalize hm : tN q.2.1 0 = m at c a1 a2 a3 ⊢
    generalize hx : (if deed = 1 then nI (V 1) else (-1 : Int32)) = x
    generalize hζ : tSet (tSet (tSet (tSet q.2.1 (1 + 3 * m) (nI deed)) (1 + 3 * m + 1) (nI (V 0))) (1 + 3 * m + 2) x) 0 (nI (m + 1)) = ζ
    have at' : ∀ k w, w < 3 → ζ (1 + 3 * k + w) = if k = m then (if w = 0 then nI deed else if w = 1 then nI (V 0) else x) else q.2.1 (1 + 3 * k + w) := fun k w hw => by
      rw [← hζ, tSet_ne (by omega), tSet_at, tSet_at, tSet_at]
      by_cases z : k = m
      · subst z
        rw [if_pos rfl]
        rcases (show w = 0 ∨ w = 1 ∨ w = 2 by omega) with rfl | rfl | rfl
        · rw [if_neg (by omega), if_neg (by omega), if_pos rfl, if_pos (by omega)]
        · rw [if_neg (by omega), if_pos rfl, if_neg (by omega), if_pos rfl]
        · rw [if_pos rfl, if_neg (by omega), if_neg (by omega)]
      · rw [if_neg (by omega), if_neg (by omega), if_neg (by omega), if_neg z]
    refine ⟨m + 1, by omega, by rw [← hζ, tSet_at, if_pos rfl], fun k hk => ?_⟩
    have h0 := at' k 0 (by omega)
    have h1 := at' k 1 (by omega)
    have h2 := at' k 2 (by omega)
    rw [Nat.add_zero] at h0
    unfold bEnt
    rw [Nat.add_zero, h0, h1, h2]
    by_cases z : k = m
    · subst z
      rw [if_pos rfl, if_pos rfl, if_pos rfl, if_pos rfl, if_neg (by omega), if_pos rfl, if_neg (by omega), if_neg (by omega), nI_clamp (by omega), nI_clamp (by omega)]
      refine ⟨rfl, rfl, by omega, v9, fun e1 => ?_⟩
      rw [if_pos e1] at hx
      have := v13 e1
      rw [← hx, nI_clamp (by omega)]
      exact ⟨rfl, this⟩
    · rw [if_neg z, if_neg z, if_neg z]
      have := a3 k (by omega)
      unfold bEnt at this
      rw [Nat.add_zero] at this
      exact this
  · rw [if_neg c] at hn
    exact absurd hn (nt_some _ _ _)
theorem frW_ok {F : Option (Nat × Nat)} {V P : Nat → Nat} : ∀ i, (frW F V P i).1 = none → F = none ∧ (frW F V P i).2 < 64 := by
  intro i
  induction i with
  | zero => intro h; exact ⟨h, by show 0 < 64; omega⟩
  | succ i ih =>
    intro h
    rw [frW] at h
    have h : (if (frW F V P i).2.testBit (min (V (i + 1)) 6) = true then nt (chk (frW F V P i).1 (V (i + 1)) 0 5 (P (i + 1))) 2 (P (i + 1)) else chk (frW F V P i).1 (V (i + 1)) 0 5 (P (i + 1))) = none := h
    split at h
    · exact absurd h (nt_some _ _ _)
    · obtain ⟨h1, -, h2⟩ := chk_none h
      obtain ⟨h3, h4⟩ := ih h1
      refine ⟨h3, ?_⟩
      show (frW F V P i).2 ||| 2 ^ min (V (i + 1)) 6 < 2 ^ 6
      exact Nat.or_lt_two_pow h4 (Nat.pow_lt_pow_right (by omega) (by omega))
theorem pOK_fra {q : qS} {first c : Nat} {V P : Nat → Nat} (h : pOK 4 q) : pOK 4 (tlFra q first V P c) := by
  intro hn
  obtain ⟨hn, w64⟩ := frW_ok (c - 1) (show (frW (chk (if tN q.2.1 0 < 10 then q.1 else nt q.1 3 first) (V 0) (frA q.2.1) 99 (P 0)) V P (c - 1)).1 = none from hn)
  have hn0 := hn
  obtain ⟨hn, vlo, v99⟩ := chk_none hn
  by_cases z : tN q.2.1 0 < 10
  · have hn1 := hn
    rw [if_pos z] at hn1
    refine ⟨fun e => by omega, fun e => by omega, fun e => by omega, fun e => by omega, fun _ => ?_⟩
    obtain ⟨a1, a2, a3⟩ := (h hn1).2.2.2.2 rfl
    have e : (tlFra q first V P c).2.1 = tSet (tSet (tSet q.2.1 (1 + 2 * tN q.2.1 0) (nI (V 0))) (2 + 2 * tN q.2.1 0) (nI (frW (chk (if tN q.2.1 0 < 10 then q.1 else nt q.1 3 first) (V 0) (frA q.2.1) 99 (P 0)) V P (c - 1)).2)) 0 (nI (tN q.2.1 0 + 1)) := by unfold tlFra; exact if_pos z
    rw [e]
    generalize (frW (chk (if tN q.2.1 0 < 10 then q.1 else nt q.1 3 first) (V 0) (frA q.2.1) 99 (P 0)) V P (c - 1)).2 = w at w64 ⊢
    have nn : ∀ j, tN (tSet (tSet (tSet q.2.1 (1 + 2 * tN q.2.1 0) (nI (V 0))) (2 + 2 * tN q.2.1 0) (nI w)) 0 (nI (tN q.2.1 0 + 1))) j = if j = 0 then tN q.2.1 0 + 1 else if j = 2 + 2 * tN q.2.1 0 then w else if j = 1 + 2 * tN q.2.1 0 then V 0 else tN q.2.1 j := fun j => by rw [tSet_N, tSet_N, tSet_N, nI_clamp (by omega), nI_clamp (by omega), nI_clamp (by omega)]
    have e0 := nn 0
    rw [if_pos rfl] at e0
    have ft : ∀ k, fT (tSet (tSet (tSet q.2.1 (1 + 2 * tN q.2.1 0) (nI (V 0))) (2 + 2 * tN q.2.1 0) (nI w)) 0 (nI (tN q.2.1 0 + 1))) k = if k = tN q.2.1 0 then V 0 else fT q.2.1 k := fun k => by
      unfold fT
      rw [nn, if_neg (by omega), if_neg (by omega)]
      by_cases y : k = tN q.2.1 0
      · rw [if_pos (by omega), if_pos y]
      · rw [if_neg (by omega), if_neg y]
    have fw : ∀ k, fW (tSet (tSet (tSet q.2.1 (1 + 2 * tN q.2.1 0) (nI (V 0))) (2 + 2 * tN q.2.1 0) (nI w)) 0 (nI (tN q.2.1 0 + 1))) k = if k = tN q.2.1 0 then w else fW q.2.1 k := fun k => by
      unfold fW
      rw [nn, if_neg (by omega)]
      by_cases y : k = tN q.2.1 0
      · rw [if_pos (by omega), if_pos y]
      · rw [if_neg (by omega), if_neg (by omega), if_neg y]
    refine ⟨by rw [e0, tSet_at, if_pos rfl], by rw [e0]; omega, fun k hk => ?_⟩
    rw [e0] at hk
    rw [ft, fw, tSet_ne (by omega), tSet_ne (by omega), tSet_at, tSet_ne (by omega), tSet_at]
    by_cases y : k = tN q.2.1 0
    · rw [if_pos y, if_pos y, if_pos (by omega), if_pos (by omega)]
      refine ⟨rfl, v99, rfl, w64, fun j hj => ?_⟩
      rw [ft, if_neg (by omega)]
      have hA : frA q.2.1 = fT q.2.1 (tN q.2.1 0 - 1) + 1 := by unfold frA; rw [if_neg (by omega)]
      rw [hA] at vlo
      by_cases x : j = tN q.2.1 0 - 1
      · rw [x]; omega
      · have := (a3 (tN q.2.1 0 - 1) (by omega)).2.2.2.2 j (by omega)
        omega
    · obtain ⟨b1, b2, b3, b4, b5⟩ := a3 k (by omega)
      rw [if_neg y, if_neg y, if_neg (by omega), if_neg (by omega), tSet_ne (by omega)]
      refine ⟨b1, b2, b3, b4, fun j hj => ?_⟩
      rw [ft, if_neg (by omega)]
      exact b5 j hj
  · rw [if_neg z] at hn
    exact absurd hn (nt_some _ _ _)
/-- what holds from line to line -/
def vOK (s : Nat) (q : qS) : Prop := pOK s q ∧ q.2.2.1 ≤ 100 ∧ q.2.2.2 ≤ 100
theorem vOK_0 {s : Nat} (hs : s < 5) : vOK s (q0 s) := by
  refine ⟨fun _ => ⟨fun e => ?_, fun e => ?_, fun e => ?_, fun e => ?_, fun e => ?_⟩, Nat.zero_le _, Nat.zero_le _⟩
  · subst e; exact pOK_new
  · subst e; exact ⟨rfl, Nat.zero_le _, fun i hi => absurd hi (Nat.not_lt_zero _)⟩
  · subst e; exact ⟨0, Nat.zero_le _, rfl, fun i hi => absurd hi (Nat.not_lt_zero _)⟩
  · subst e; exact ⟨rfl, Nat.zero_le _, rfl, Nat.zero_le _, fun i hi => absurd hi (Nat.not_lt_zero _), fun i hi => absurd hi (Nat.not_lt_zero _)⟩
  · subst e; exact ⟨rfl, Nat.zero_le _, fun i hi => absurd hi (Nat.not_lt_zero _)⟩
theorem tlK1_g (q : qS) (c from' most v pl : Nat) : (tlK1 q c from' most v pl).2.2 = q.2.2 := by unfold tlK1; split <;> rfl
theorem tlKs_g (q : qS) (c from' most : Nat) (V P : Nat → Nat) : ∀ i, (tlKs q c from' most V P i).2.2 = q.2.2 := by
  intro i
  induction i with
  | zero => rfl
  | succ i ih => rw [tlKs, tlK1_g, ih]
theorem vOK_tl {q : qS} {s f first c : Nat} {V P : Nat → Nat} (hf : (s = 0 ∧ f ≤ 7) ∨ (s = 1 ∧ f = 8) ∨ (s = 2 ∧ 20 ≤ f ∧ f ≤ 24) ∨ (s = 3 ∧ (f = 9 ∨ f = 10)) ∨ (s = 4 ∧ f = 11)) (h7 : f ≠ 7) (hV : V 0 < 100) (h : vOK s q) : vOK s (tl q f first V P c) := by
  obtain ⟨h1, h2, h3⟩ := h
  unfold tl
  rcases hf with ⟨rfl, hf⟩ | ⟨rfl, rfl⟩ | ⟨rfl, hf, hf2⟩ | ⟨rfl, rfl | rfl⟩ | ⟨rfl, rfl⟩
  · by_cases c5 : f < 5
    · rw [if_pos c5]; exact ⟨pOK_num c5 h1, h2, h3⟩
    · rw [if_neg c5]
      by_cases c6 : f = 5
      · rw [if_pos c6]; exact ⟨pOK_per h1, h2, h3⟩
      · rw [if_neg c6, if_pos (show f = 6 by omega)]
        refine ⟨pOK_jum h1, ?_, h3⟩
        show (if q.2.2.1 < V 0 + 1 then V 0 + 1 else q.2.2.1) ≤ 100
        split <;> omega
  · have kl : klR 1 6 0 1 52 := Or.inl ⟨rfl, rfl, rfl, rfl, rfl⟩
    rw [if_neg (by omega), if_neg (by omega), if_neg (by omega), if_pos rfl]
    exact ⟨pOK_ks kl h1 c, by rw [tlKs_g]; exact h2, by rw [tlKs_g]; exact h3⟩
  · rw [if_neg (by omega), if_neg (by omega), if_neg (by omega), if_neg (by omega), if_neg (by omega), if_neg (by omega), if_neg (by omega)]
    exact ⟨pOK_deed (by omega) h1, h2, h3⟩
  · have kl : klR 3 10 0 2 4 := Or.inr (Or.inl ⟨rfl, rfl, rfl, rfl, rfl⟩)
    rw [if_neg (by omega), if_neg (by omega), if_neg (by omega), if_neg (by omega), if_pos rfl]
    exact ⟨pOK_ks kl h1 c, by rw [tlKs_g]; exact h2, by rw [tlKs_g]; exact h3⟩
  · have kl : klR 3 12 1 6 48 := Or.inr (Or.inr ⟨rfl, rfl, rfl, rfl, rfl⟩)
    rw [if_neg (by omega), if_neg (by omega), if_neg (by omega), if_neg (by omega), if_neg (by omega), if_pos rfl]
    exact ⟨pOK_ks kl h1 c, by rw [tlKs_g]; exact h2, by rw [tlKs_g]; exact h3⟩
  · rw [if_neg (by omega), if_neg (by omega), if_neg (by omega), if_neg (by omega), if_neg (by omega), if_neg (by omega), if_pos rfl]
    exact ⟨pOK_fra h1, h2, h3⟩
theorem vOK_law {q : qS} {w n pl n1 pl1 : Nat} (hw : w < 4) (hn : n < 100) (hn1 : w = 1 ∨ w = 2 → n1 < 100) (h : vOK 0 q) : vOK 0 (tlLaw q w n pl n1 pl1) := by
  obtain ⟨h1, h2, h3⟩ := h
  refine ⟨pOK_law hw h1, ?_, ?_⟩
  · unfold tlLaw
    split
    · show (if q.2.2.1 < n + 1 then n + 1 else q.2.2.1) ≤ 100
      split <;> omega
    · show (if q.2.2.1 < n + 1 then n + 1 else q.2.2.1) ≤ 100
      split <;> omega
  · unfold tlLaw
    split
    · rename_i z
      have := hn1 z
      show (if q.2.2.2 < n1 + 1 then n1 + 1 else q.2.2.2) ≤ 100
      split <;> omega
    · exact h3
/-- a text without FAULT is as the document has it -/
theorem txOK_of {t : Nat × (Nat → Nat)} {s : Nat} {q : qS} (h : pOK s q) (hn : (rdEnd t s q).1 = none) : txOK s q.2.1 := by
  by_cases c : s = 0
  · subst c
    have hn : (if 0 = 0 then cif (stands q) q.1 (nt q.1 4 t.1) else q.1) = none := hn
    rw [if_pos rfl] at hn
    by_cases st : stands q
    · rw [cif_t st] at hn
      obtain ⟨a1, a2, a3, a4, a5, a6, a7, a8, a9⟩ := (h hn).1 rfl
      obtain ⟨s1, s2, s3, s4⟩ := st
      refine ⟨fun _ => ⟨⟨a1, a2, a3, a4, a5, a6, a7, fun p hp => ?_⟩, fun p hp hl => ?_, s1, by rw [Nat.mul_comm]; exact s4⟩, fun e => by omega, fun e => by omega, fun e => by omega, fun e => by omega⟩
      · obtain ⟨b1, b2, b3, b4, b5, b6⟩ := a8 p (by omega)
        obtain ⟨c1, c2, c3, c4, c5⟩ := a9 p hp
        refine ⟨fun w hw h5 => ?_, c2, c3, c4, c5, b2, b4, ?_⟩
        · by_cases w4 : w < 4
          · exact c1 w w4
          · rcases (show w = 4 ∨ w = 6 by omega) with rfl | rfl
            · exact b1
            · exact b3
        · rcases b5 with y | ⟨k, y1, y2⟩
          · exact Or.inl y
          · exact Or.inr ⟨k, by omega, y2⟩
      · obtain ⟨k, y1, y2⟩ := (a8 p (by omega)).2.2.2.2.2 hl
        exact ⟨k, by omega, y2⟩
    · rw [cif_f st] at hn
      exact absurd hn (nt_some _ _ _)
  · have hn : (if s = 0 then cif (stands q) q.1 (nt q.1 4 t.1) else q.1) = none := hn
    rw [if_neg c] at hn
    have := h hn
    exact ⟨fun e => absurd e c, this.2⟩
