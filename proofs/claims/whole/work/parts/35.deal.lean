/-! Who holds what, and what waits: a Deal. -/
/-- how many of a KIND one holds; how many in all; what waits for one, the first one first (of 0: the HEAP; of the number of PEOPLE: what is AWAY) -/
abbrev dS : Type := (Nat → Nat → Nat) × (Nat → Nat) × (Nat → List Nat)
def dLane (N hl al p : Nat) : Nat := if p = N then al else if p = 0 then hl else p
/-- the object e of class Deal is δ, N PEOPLE, ALIKE A, KINDS K -/
def dR (D : xD) (e N A K : Nat) (δ : dS) : Prop :=
  lnRows D e ∧ rS D (e + 1) 78 ∧ rS D (e + 3) N ∧ D.1 e 5 = nI N ∧ D.1 e 6 = nI A ∧ D.1 e 7 = nI K ∧ (∀ p, p < N → ∀ k, k < 13 → D.1 (e + 2) (13 * p + k) = nI (δ.1 p k)) ∧ (∀ p, p < N → D.1 (e + 4) p = nI (δ.2.1 p)) ∧
  ∃ hl al, ((hl = 0 ∧ al = N) ∨ (hl = N ∧ al = 0)) ∧ D.1 e 8 = nI hl ∧ D.1 e 9 = nI al ∧ ∀ p, p ≤ N → lnR D e (dLane N hl al p) (δ.2.2 p)
def sm (f : Nat → Nat) : Nat → Nat
  | 0 => 0
  | n + 1 => sm f n + f n
theorem sm_le (f : Nat → Nat) {j : Nat} : ∀ {n : Nat}, j < n → f j ≤ sm f n := by
  intro n
  induction n with
  | zero => omega
  | succ n ih =>
    intro h
    rw [sm]
    by_cases e : j = n
    · subst e; omega
    · have := ih (by omega); omega
theorem sm_congr {f g : Nat → Nat} : ∀ {n : Nat}, (∀ i, i < n → f i = g i) → sm f n = sm g n := by
  intro n
  induction n with
  | zero => intro _; rfl
  | succ n ih =>
    intro h
    rw [sm, sm, ih (fun i hi => h i (by omega)), h n (by omega)]
theorem sm_upd (f : Nat → Nat) (j v : Nat) : ∀ n, sm (fun i => if i = j then v else f i) n + (if j < n then f j else 0) = sm f n + (if j < n then v else 0) := by
  intro n
  induction n with
  | zero => simp [sm]
  | succ n ih =>
    rw [sm, sm]
    by_cases e : n = j
    · subst e
      have h1 : ¬ n < n := by omega
      have h2 : n < n + 1 := by omega
      simp only [if_neg h1, if_pos h2, if_true] at ih ⊢
      omega
    · rw [if_neg e]
      by_cases q : j < n
      · rw [if_pos q, if_pos q] at ih
        rw [if_pos (by omega), if_pos (by omega)]
        omega
      · rw [if_neg q, if_neg q] at ih
        rw [if_neg (by omega), if_neg (by omega)]
        omega
/-- what holds of every deal: hands add up, all cards are n, at most 52; all KINDS are there -/
def dW (N K n : Nat) (δ : dS) : Prop :=
  n ≤ 52 ∧ (∀ p, p < N → sm (δ.1 p) 13 = δ.2.1 p) ∧ sm δ.2.1 N + sm (fun p => (δ.2.2 p).length) (N + 1) = n ∧ (∀ p, p ≤ N → ∀ c, c ∈ δ.2.2 p → c < K) ∧
  (∀ p, N ≤ p → δ.1 p = (fun _ => 0) ∧ δ.2.1 p = 0) ∧ (∀ p k, K ≤ k → δ.1 p k = 0) ∧ ∀ p, N < p → δ.2.2 p = []
theorem dW.sz {N K n : Nat} {δ : dS} (h : dW N K n δ) {p : Nat} (hp : p < N) : δ.2.1 p ≤ 52 := by
  obtain ⟨h1, h2, h3, -⟩ := h
  have := sm_le δ.2.1 hp
  omega
theorem dW.hd {N K n : Nat} {δ : dS} (h : dW N K n δ) {p k : Nat} (hp : p < N) (hk : k < 13) : δ.1 p k ≤ 52 := by
  have h1 := h.sz hp
  have h2 := h.2.1 p hp
  have := sm_le (δ.1 p) hk
  omega
def dAl (A K : Nat) (δ : dS) (p : Nat) : Prop := δ.2.1 p = A ∧ ∃ k, k < K ∧ δ.1 p k = A
theorem dLane_lt {N hl al p : Nat} (h : (hl = 0 ∧ al = N) ∨ (hl = N ∧ al = 0)) (hN : N ≤ 6) (hp : p ≤ N) : dLane N hl al p < 7 := by
  unfold dLane
  split
  · omega
  · split <;> omega
theorem dLane_inj {N hl al p q : Nat} (h : (hl = 0 ∧ al = N) ∨ (hl = N ∧ al = 0)) (h0 : 0 < N) (hp : p ≤ N) (hq : q ≤ N) (e : dLane N hl al p = dLane N hl al q) : p = q := by
  unfold dLane at e
  split at e <;> split at e <;> (try split at e) <;> (try split at e) <;> omega
section DEAL
variable {d : Nat} {D : xD} {e N A K n : Nat} {δ : dS}
theorem dR.out {D' : xD} {lo hi : Nat} (h : dR D e N A K δ) (o : xOut lo hi D D') (q : e + 11 ≤ lo ∨ hi ≤ e) : dR D' e N A K δ := by
  obtain ⟨h1, h2, h3, h4, h5, h6, h7, h8, hl, al, h9, h10, h11, h12⟩ := h
  exact ⟨h1.out o (by omega), h2.out o (by omega), h3.out o (by omega), by rw [o.1 _ (by omega)]; exact h4, by rw [o.1 _ (by omega)]; exact h5, by rw [o.1 _ (by omega)]; exact h6,
    fun p hp k hk => by rw [o.1 _ (by omega)]; exact h7 p hp k hk, fun p hp => by rw [o.1 _ (by omega)]; exact h8 p hp, hl, al, h9, by rw [o.1 _ (by omega)]; exact h10, by rw [o.1 _ (by omega)]; exact h11, fun p hp => (h12 p hp).out o (by omega)⟩
theorem c_Deal_laneTo {P : Int32 → xD → Prop} {hl al p : Nat} (k0 : xk e = 8) (h5 : D.1 e 5 = nI N) (h8 : D.1 e 8 = nI hl) (h9 : D.1 e 9 = nI al) (hN : N ≤ 6) (hp : p ≤ N) (h : P (nI (dLane N hl al p)) D) : xCi (d + 1) m_Deal_laneTo [.ref e, .int (nI p)] D P := by
  refine xCi_of y_Deal_laneTo (Nat.le_of_ble_eq_true rfl) (s_Deal_laneTo_0 k0 ?_)
  rw [h5, h8, h9]
  unfold dLane at h
  refine ⟨fun c => ?_, fun c => ⟨_, rfl, ?_⟩⟩
  · rw [if_neg (fun q => c (by rw [q]))] at h
    refine ⟨fun c1 => ⟨_, rfl, ?_⟩, fun c1 => ⟨_, rfl, ?_⟩⟩
    · rw [if_neg (fun q => c1 (by rw [q]; rfl))] at h; exact h
    · rw [if_pos (by
        apply Decidable.byContradiction
        intro q
        exact nI_ne0 (by omega) (by omega) c1)] at h; exact h
  · rw [if_pos ((nI_eq (by omega) (by omega)).mp c)] at h; exact h
theorem c_Deal_holdsCards {P : Int32 → xD → Prop} {p : Nat} (hR : dR D e N A K δ) (hN : N ≤ 6) (hp : p < N) (h : P (nI (δ.2.1 p)) D) : xCi (d + 2) m_Deal_holdsCards [.ref e, .int (nI p)] D P := by
  obtain ⟨h1, h2, h3, h4, h5, h6, h7, h8, -⟩ := hR
  refine xCi_of y_Deal_holdsCards (Nat.le_of_ble_eq_true rfl) (s_Deal_holdsCards_0 h1.1 (c_Row_get h3 ⟨_, rfl, ?_⟩))
  rw [rg_in D _ hp (by omega), show e + 3 + 1 = e + 4 by omega, h8 p hp]
  exact h
theorem ix13 {p k : Nat} : nI p * (13 : Int32) + nI k = nI (13 * p + k) := by
  rw [show (13 : Int32) = nI 13 from rfl, pk_mul, nI_add, Nat.mul_comm]
theorem c_Deal_holdsOf {P : Int32 → xD → Prop} {p k : Nat} (hR : dR D e N A K δ) (hN : N ≤ 6) (hp : p < N) (hk : k < 13) (h : P (nI (δ.1 p k)) D) : xCi (d + 2) m_Deal_holdsOf [.ref e, .int (nI p), .int (nI k)] D P := by
  obtain ⟨h1, h2, h3, h4, h5, h6, h7, h8, -⟩ := hR
  refine xCi_of y_Deal_holdsOf (Nat.le_of_ble_eq_true rfl) (s_Deal_holdsOf_0 h1.1 ?_)
  rw [ix13]
  refine c_Row_get h2 ⟨_, rfl, ?_⟩
  rw [rg_in D _ (show 13 * p + k < 78 by omega) (by omega), show e + 1 + 1 = e + 2 by omega, h7 p hp k hk]
  exact h
theorem c_Deal_waitsFor {P : Int32 → xD → Prop} {p : Nat} (hR : dR D e N A K δ) (hN : N ≤ 6) (hp : p ≤ N) (h : P (nI (δ.2.2 p).length) D) : xCi (d + 2) m_Deal_waitsFor [.ref e, .int (nI p)] D P := by
  obtain ⟨h1, h2, h3, h4, h5, h6, h7, h8, hl, al, h9, h10, h11, h12⟩ := hR
  refine xCi_of y_Deal_waitsFor (Nat.le_of_ble_eq_true rfl) (s_Deal_waitsFor_0 h1.1 ?_)
  refine c_Deal_laneTo h1.1 h4 h10 h11 hN hp (c_Row_get h1.2.2.2 ⟨_, rfl, ?_⟩)
  rw [rg_in D _ (dLane_lt h9 hN hp) (by omega), show e + 9 + 1 = e + 10 by omega, (h12 p hp).1]
  exact h
theorem c_Deal_away {P : Int32 → xD → Prop} (hR : dR D e N A K δ) (hN : N ≤ 6) (h : P (nI (δ.2.2 N).length) D) : xCi (d + 2) m_Deal_away [.ref e] D P := by
  obtain ⟨h1, h2, h3, h4, h5, h6, h7, h8, hl, al, h9, h10, h11, h12⟩ := hR
  refine xCi_of y_Deal_away (Nat.le_of_ble_eq_true rfl) (s_Deal_away_0 h1.1 ?_)
  rw [h11]
  refine c_Row_get h1.2.2.2 ⟨_, rfl, ?_⟩
  have hq := h12 N (Nat.le_refl _)
  have el : dLane N hl al N = al := if_pos rfl
  rw [el] at hq
  rw [rg_in D _ (by omega) (by omega), show e + 9 + 1 = e + 10 by omega, hq.1]
  exact h
theorem c_Deal_waiting {P : Int32 → xD → Prop} {p i c : Nat} (hR : dR D e N A K δ) (hN : N ≤ 6) (hp : p ≤ N) (hi : (δ.2.2 p)[i]? = some c) (h : P (nI c) D) : xCi (d + 2) m_Deal_waiting [.ref e, .int (nI p), .int (nI i)] D P := by
  obtain ⟨h1, h2, h3, h4, h5, h6, h7, h8, hl, al, h9, h10, h11, h12⟩ := hR
  obtain ⟨g1, g2, g, g3, g4, g5⟩ := h12 p hp
  have hil : i < (δ.2.2 p).length := (List.getElem?_eq_some_iff.mp hi).1
  have hlt := dLane_lt h9 hN hp
  refine xCi_of y_Deal_waiting (Nat.le_of_ble_eq_true rfl) (s_Deal_waiting_0 h1.1 ?_)
  refine c_Deal_laneTo h1.1 h4 h10 h11 hN hp (c_Row_get h1.2.2.1 ?_)
  rw [rg_in D _ hlt (by omega), show e + 7 + 1 = e + 8 by omega, g4]
  have ei : nI (dLane N hl al p) * (52 : Int32) + (nI g + nI i - (nI g + nI i) / (52 : Int32) * (52 : Int32)) = nI (dLane N hl al p * 52 + (g + i) % 52) := by
    rw [nI_add, show (52 : Int32) = nI 52 from rfl, pk_rem (by omega) (by omega) (by omega), pk_mul, nI_add]
  rw [ei]
  refine c_Row_get h1.2.1 ⟨_, rfl, ?_⟩
  rw [rg_in D _ (show dLane N hl al p * 52 + (g + i) % 52 < 364 by omega) (by omega), show e + 5 + 1 = e + 6 by omega, (g5 i c hi).2]
  exact h
theorem c_Deal_hasAlike {P : Int32 → xD → Prop} {p : Nat} (hR : dR D e N A K δ) (hW : dW N K n δ) (hN : N ≤ 6) (hK : K ≤ 13) (hA : A ≤ 4) (hp : p < N) (h1 : dAl A K δ p → P 1 D) (h0 : ¬ dAl A K δ p → P 0 D) : xCi (d + 3) m_Deal_hasAlike [.ref e, .int (nI p)] D P := by
  have k0 : xk e = 8 := hR.1.1
  have f6 : D.1 e 6 = nI A := hR.2.2.2.2.1
  have f7 : D.1 e 7 = nI K := hR.2.2.2.2.2.1
  have r3 := hR.2.2.1
  have f4 := hR.2.2.2.2.2.2.2.1 p hp
  have b1 := hW.sz hp
  refine xCi_of y_Deal_hasAlike (Nat.le_of_ble_eq_true rfl) (s_Deal_hasAlike_0 k0 ?_)
  have key : ∀ k j, j + k = K → (δ.2.1 p = A → ∀ i, i < j → ¬ δ.1 p i = A) → xPf (d + 3) m_Deal_hasAlike 2 [(0, .ref e), (1, .int (nI p)), (2, .int (nI j))] [] D (fun r D' => ∃ x, r = some (.int x) ∧ P x D') := by
    intro k
    induction k with
    | zero =>
      intro j hj hno
      refine s_Deal_hasAlike_2 k0 ⟨fun _ => ⟨_, rfl, h0 (fun q => ?_)⟩, fun c => ?_⟩
      · obtain ⟨q1, i, q2, q3⟩ := q
        exact hno q1 i (by omega) q3
      · rw [f7] at c; exact absurd (nI_le (by omega) (by omega)) c
    | succ k ih =>
      intro j hj hno
      have b2 := hW.hd hp (show j < 13 by omega)
      refine s_Deal_hasAlike_2 k0 ⟨fun c => ?_, fun _ => ?_⟩
      · rw [f7] at c; exact absurd c (nI_ge (by omega) (by omega))
      · refine c_Row_get r3 ?_
        rw [rg_in D _ hp (by omega), show e + 3 + 1 = e + 4 by omega, f4, f6]
        refine ⟨fun c => ?_, fun c => ?_⟩
        · rw [nI_1]
          exact ih (j + 1) (by omega) (fun q => absurd (by rw [q]) c)
        · have eA := (nI_eq (by omega) (by omega)).mp c
          refine c_Deal_holdsOf hR hN hp (by omega) ⟨fun c1 => ?_, fun c1 => ⟨_, rfl, h1 ⟨eA, j, by omega, ?_⟩⟩⟩
          · rw [f6] at c1
            rw [nI_1]
            refine ih (j + 1) (by omega) (fun q i hi => ?_)
            by_cases e1 : i = j
            · subst e1; exact fun q2 => c1 (by rw [q2])
            · exact hno q i (by omega)
          · rw [f6] at c1; exact (nI_eq (by omega) (by omega)).mp c1
  exact key K 0 (by omega) (fun _ i hi => absurd hi (by omega))
/-- the first one who has ALIKE ones -/
def dFirst (A K : Nat) (δ : dS) (N : Nat) (r : Option Nat) : Prop := match r with
  | none => ∀ p, p < N → ¬ dAl A K δ p
  | some p => p < N ∧ dAl A K δ p ∧ ∀ q, q < p → ¬ dAl A K δ q
def oI (r : Option Nat) : Int32 := match r with
  | none => -1
  | some p => nI p
theorem c_Deal_firstAlike {P : Int32 → xD → Prop} (hR : dR D e N A K δ) (hW : dW N K n δ) (hN : N ≤ 6) (hK : K ≤ 13) (hA : A ≤ 4) (h : ∀ r, dFirst A K δ N r → P (oI r) D) : xCi (d + 4) m_Deal_firstAlike [.ref e] D P := by
  have k0 : xk e = 8 := hR.1.1
  have f5 : D.1 e 5 = nI N := hR.2.2.2.1
  refine xCi_of y_Deal_firstAlike (Nat.le_of_ble_eq_true rfl) (s_Deal_firstAlike_0 k0 ?_)
  have key : ∀ k j, j + k = N → (∀ i, i < j → ¬ dAl A K δ i) → xPf (d + 4) m_Deal_firstAlike 2 [(0, .ref e), (1, .int (nI j))] [] D (fun r D' => ∃ x, r = some (.int x) ∧ P x D') := by
    intro k
    induction k with
    | zero =>
      intro j hj hno
      refine s_Deal_firstAlike_2 k0 ⟨fun _ => ⟨_, rfl, h none (fun p hp => hno p (by omega))⟩, fun c => ?_⟩
      rw [f5] at c; exact absurd (nI_le (by omega) (by omega)) c
    | succ k ih =>
      intro j hj hno
      refine s_Deal_firstAlike_2 k0 ⟨fun c => ?_, fun _ => ?_⟩
      · rw [f5] at c; exact absurd c (nI_ge (by omega) (by omega))
      · refine c_Deal_hasAlike hR hW hN hK hA (by omega) (fun q => ⟨fun c => absurd c (by decide), fun _ => ⟨_, rfl, h (some j) ⟨by omega, q, hno⟩⟩⟩) (fun q => ⟨fun _ => ?_, fun c => absurd rfl c⟩)
        rw [nI_1]
        refine ih (j + 1) (by omega) (fun i hi => ?_)
        by_cases e1 : i = j
        · subst e1; exact q
        · exact hno i (by omega)
  exact key N 0 (by omega) (fun i hi => absurd hi (by omega))
end DEAL
