/-! What is asked of a ROUND. -/
/-- the last tenth, as a number that nothing reckons with -/
noncomputable def tTop : Nat := Classical.choose (⟨2000, rfl⟩ : ∃ n : Nat, n = 2000)
theorem tTop_is : tTop = 2000 := Classical.choose_spec (⟨2000, rfl⟩ : ∃ n : Nat, n = 2000)
theorem tTop_i : (2000 : Int32) = nI tTop := by rw [tTop_is]; rfl
theorem rRun_le {τ : Nat → Int32} {δ0 : dS} {f0 : Option Nat} : ∀ t, (rRun τ δ0 f0 t).2.2.2 ≤ t := by
  intro t
  induction t with
  | zero => exact Nat.le_refl _
  | succ t ih =>
    rw [rRun]
    split
    · exact Nat.le_refl _
    · omega
theorem rGo_le (τ : Nat → Int32) (n : Nat) (c : Nat → Nat) (U : Nat) : (rGo τ n c U).2.2.2 ≤ U := rRun_le U
theorem dFst_lt {A K N p : Nat} {δ : dS} (h : dFst A K δ N = some p) : p < N := by
  have := dFst_is A K δ N
  rw [h] at this
  exact this.1
theorem rGo_lt {τ : Nat → Int32} {n : Nat} {c : Nat → Nat} {U p : Nat} (h : (rGo τ n c U).2.2.1 = some p) : p < tN τ 5 := rRun_lt (fun _ q => dFst_lt q) h
/-- whoever of the first k would end it by MOST -/
noncomputable def rMend (τ : Nat → Int32) (n : Nat) (c : Nat → Nat) : Nat → Option Nat
  | 0 => none
  | k + 1 => match rMend τ n c k with
    | some p => some p
    | none => if tP τ k 4 ≠ 0 ∧ (rGo (tSet τ (6 + 7 * k + 4) 0) n c tTop).2.2.1 ≠ none then some k else none
theorem rMend_lt {τ : Nat → Int32} {n : Nat} {c : Nat → Nat} : ∀ {k p : Nat}, rMend τ n c k = some p → p < k := by
  intro k
  induction k with
  | zero => intro p h; cases h
  | succ k ih =>
    intro p h
    unfold rMend at h
    cases hx : rMend τ n c k with
    | some q => simp only [hx] at h; cases h; have := ih hx; omega
    | none =>
      simp only [hx] at h
      split at h
      · cases h; omega
      · cases h
theorem rMend_none {τ : Nat → Int32} {n : Nat} {c : Nat → Nat} {k : Nat} (h : rMend τ n c k = none) : rMend τ n c (k + 1) = if tP τ k 4 ≠ 0 ∧ (rGo (tSet τ (6 + 7 * k + 4) 0) n c tTop).2.2.1 ≠ none then some k else none := by
  rw [rMend, h]
theorem rMend_stop {τ : Nat → Int32} {n : Nat} {c : Nat → Nat} {k p : Nat} (h : rMend τ n c k = some p) : ∀ j, rMend τ n c (k + j) = some p := by
  intro j
  induction j with
  | zero => exact h
  | succ j ih => rw [show k + (j + 1) = k + j + 1 by omega, rMend, ih]
/-- what is answered of a ROUND as it is at what -/
noncomputable def rAns (τ : Nat → Int32) (n : Nat) (c : Nat → Nat) (w : Nat) : Int32 :=
  if w = 3 then nI (sm (rGo τ n c tTop).2.1 (tN τ 5)) else match (rGo τ n c tTop).2.2.1 with
    | none => if w = 4 then oI (rMend τ n c (tN τ 5)) else -1
    | some f => if w = 0 then nI (rGo τ n c tTop).2.2.2 else if w = 1 then nI f else if w = 2 then nI (tLast τ f (rGo τ n c tTop).2.2.2 (tN τ 5)) else -1
noncomputable def rAnsOf (τ : Nat → Int32) (n : Nat) (c : Nat → Nat) (p : Nat) (spoon : Prop) [Decidable spoon] : Int32 :=
  if spoon then (match (rGo τ n c tTop).2.2.1 with
    | none => -1
    | some f => nI (tSpoon τ p f (rGo τ n c tTop).2.2.2)) else nI ((rGo τ n c tTop).2.1 p)
section ANSWER
variable {d : Nat} {D : xD} {r t n : Nat} {τ : Nat → Int32}
theorem tOK_most {p : Nat} (hT : tOK τ) (hL : tLaw τ) : tOK (tSet τ (6 + 7 * p + 4) 0) ∧ tLaw (tSet τ (6 + 7 * p + 4) 0) :=
  ⟨tOK_set (v := 0) hT (by omega) (by omega) (by omega) (by omega) (by omega) (by omega) (by omega), tLaw_set hL (by omega) (fun _ q => by
    rw [show (0 : Int32).toNatClampNeg = 0 from rfl] at q; omega) (by omega)⟩
theorem c_Rounds_mends {P : Int32 → xD → Prop} {a : Nat} {c : Nat → Nat} (k0 : xk r = 9) (hR : tR D t τ) (hT : tOK τ) (hLw : tLaw τ) (h0 : 0 < tN τ 5) (ha : rS D a n) (hn : n ≤ 52) (hc : ∀ j, j < n → D.1 (a + 1) j = nI (c j) ∧ c j < tN τ 0) (hA : tN τ 2 * tN τ 5 < n)
    (r5 : rS D (r + 6) 364) (ht : t + 5 ≤ r ∨ r + 32 ≤ t) (hae : a + 2 ≤ r ∨ r + 32 ≤ a)
    (h : ∀ D', xOut r (r + 32) D D' → rS D' (r + 6) 364 → P (oI (rMend τ n c (tN τ 5))) D') :
    xCi (d + 7) m_Rounds_mends [.ref r, .ref t, .ref a] D P := by
  have b5 := hT.2.2.2.2.2.2.1
  refine xCi_of y_Rounds_mends (Nat.le_of_ble_eq_true rfl) (s_Rounds_mends_0 k0 hR.1 ha.2.2 ?_)
  have key : ∀ k p, p + k = tN τ 5 → rMend τ n c p = none → ∀ D', xOut r (r + 32) D D' → rS D' (r + 6) 364 →
      xPf (d + 7) m_Rounds_mends 2 [(0, .ref r), (1, .ref t), (2, .ref a), (3, .int (nI p))] [] D' (fun r D' => ∃ x, r = some (.int x) ∧ P x D') := by
    intro k
    induction k with
    | zero =>
      intro p hp hm D' o r5'
      have ep : p = tN τ 5 := by omega
      refine s_Rounds_mends_2 k0 hR.1 ha.2.2 (c_Table_people (hR.out o (by omega)) hT ⟨fun _ => ⟨_, rfl, ?_⟩, fun q => absurd (nI_le (by omega) (by omega)) q⟩)
      have := h D' o r5'
      rw [← ep, hm] at this
      exact this
    | succ k ih =>
      intro p hp hm D' o r5'
      have hR' := hR.out o (show t + 5 ≤ r ∨ r + 32 ≤ t + 1 by omega)
      obtain ⟨q1, -⟩ := hT.2.2.2.2.2.2.2 p (by omega)
      have q4 : tP τ p 4 ≤ 3 := (hT.2.2.2.2.2.2.2 p (by omega)).2.2.2.2.2.1
      refine s_Rounds_mends_2 k0 hR.1 ha.2.2 (c_Table_people hR' hT ⟨fun q => absurd q (nI_ge (by omega) (by omega)), fun _ => ?_⟩)
      refine c_Table_of (w := 4) hR' b5 (by omega) (by omega) ?_
      rw [q1 4 (by omega) (by omega)]
      refine ⟨fun c1 => ?_, fun c1 => ?_⟩
      · rw [nI_1]
        have e0 : tP τ p 4 = 0 := by
          apply Decidable.byContradiction
          intro z
          exact nI_ne0 (by omega) (by omega) c1
        refine ih (p + 1) (by omega) ?_ D' o r5'
        rw [rMend_none hm, if_neg (fun z => z.1 e0)]
      · have e0 : tP τ p 4 ≠ 0 := fun z => c1 (by rw [z]; rfl)
        refine c_Table_copy (ck_9_2 k0) hR' b5 (by omega) (fun D1 o1 hR1 => ?_)
        refine c_Table_setOf (w := 4) hR1 (show p < 6 by omega) (by omega) (fun D2 o2 hR2 => ?_)
        obtain ⟨hT2, hL2⟩ := tOK_most (p := p) hT hLw
        have e5 : tN (tSet τ (6 + 7 * p + 4) 0) 5 = tN τ 5 := tN_set _ _ (by omega)
        have e2 : tN (tSet τ (6 + 7 * p + 4) 0) 2 = tN τ 2 := tN_set _ _ (by omega)
        have eK : tN (tSet τ (6 + 7 * p + 4) 0) 0 = tN τ 0 := tN_set _ _ (by omega)
        have o12 : xOut r (r + 32) D D2 := o.trans ((o1.mono (by omega) (by omega)).trans (o2.mono (by omega) (by omega)))
        rw [tTop_i]
        refine c_Rounds_play (U := tTop) (c := c) k0 hR2 hT2 hL2 (by rw [e5]; exact h0) (ha.out o12 (by omega)) hn (fun j hj => by rw [o12.1 _ (by omega), eK]; exact hc j hj) (by rw [e2, e5]; exact hA) ((r5'.out o1 (by omega)).out o2 (by omega)) (Or.inr (Or.inl rfl)) hae (by rw [tTop_is]; omega) (fun D3 o3 hR3 g6 g7 => ?_)
        have o13 := o12.trans o3.out
        have r53 : rS D3 (r + 6) 364 := hR3.1.1.2.1
        rw [g6]
        have hx : ∀ q, (rGo (tSet τ (6 + 7 * p + 4) 0) n c tTop).2.2.1 = some q → q < 2 ^ 31 := fun q hq => by
          have := rGo_lt hq
          rw [e5] at this
          omega
        refine ⟨fun z => ?_, fun z => ⟨_, rfl, ?_⟩⟩
        · have hz := (oI_iff hx).mp z
          rw [nI_1]
          refine ih (p + 1) (by omega) ?_ D3 o13 r53
          rw [rMend_none hm, if_neg (fun y => y.2 hz)]
        · have hz : (rGo (tSet τ (6 + 7 * p + 4) 0) n c tTop).2.2.1 ≠ none := fun y => z ((oI_iff hx).mpr y)
          have em : rMend τ n c (p + 1) = some p := by rw [rMend_none hm, if_pos ⟨e0, hz⟩]
          have := rMend_stop em k
          rw [show p + 1 + k = tN τ 5 by omega] at this
          have hf := h D3 o13 r53
          rw [this] at hf
          exact hf
  exact key (tN τ 5) 0 (by omega) rfl D xOut.rfl' r5
theorem c_Rounds_sum {P : Int32 → xD → Prop} {a : Nat} {x : Int32} {g : Nat → Nat} (k0 : xk r = 9) (hR : tR D t τ) (hT : tOK τ) (ka : xk a = 2) (hr : rS D (r + 12) (tN τ 5)) (hv : ∀ i, i < tN τ 5 → D.1 (r + 13) i = nI (g i)) (fin : P (nI (sm g (tN τ 5))) D) :
    xPf (d + 3) m_Rounds_answer 11 [(0, .ref r), (1, .ref t), (2, .ref a), (3, .int x), (4, .int 0), (5, .int 0)] [] D (fun r D' => ∃ x, r = some (.int x) ∧ P x D') := by
  have b5 := hT.2.2.2.2.2.2.1
  have key : ∀ k p, p + k = tN τ 5 → xPf (d + 3) m_Rounds_answer 11 [(0, .ref r), (1, .ref t), (2, .ref a), (3, .int x), (4, .int (nI (sm g p))), (5, .int (nI p))] [] D (fun r D' => ∃ x, r = some (.int x) ∧ P x D') := by
    intro k
    induction k with
    | zero =>
      intro p hp
      have ep : p = tN τ 5 := by omega
      refine s_Rounds_answer_11 k0 hR.1 ka (c_Table_people hR hT ⟨fun _ => ⟨_, rfl, by rw [ep]; exact fin⟩, fun q => absurd (nI_le (by omega) (by omega)) q⟩)
    | succ k ih =>
      intro p hp
      refine s_Rounds_answer_11 k0 hR.1 ka (c_Table_people hR hT ⟨fun q => absurd q (nI_ge (by omega) (by omega)), fun _ => ?_⟩)
      refine c_Row_get hr ?_
      rw [rg_in D _ (show p < tN τ 5 by omega) (by omega), show r + 12 + 1 = r + 13 by omega, hv p (by omega), nI_1, nI_add]
      exact ih (p + 1) (by omega)
  exact key (tN τ 5) 0 (by omega)
theorem c_Rounds_answer {P : Int32 → xD → Prop} {a w : Nat} {c : Nat → Nat} (k0 : xk r = 9) (hR : tR D t τ) (hT : tOK τ) (hLw : tLaw τ) (h0 : 0 < tN τ 5) (ha : rS D a n) (hn : n ≤ 52) (hc : ∀ j, j < n → D.1 (a + 1) j = nI (c j) ∧ c j < tN τ 0) (hA : tN τ 2 * tN τ 5 < n)
    (hG : rR D r (tN τ 5) (tN τ 2) (tN τ 0) (rGo τ n c tTop).1 (rGo τ n c tTop).2.1) (g6 : D.1 r 6 = oI (rGo τ n c tTop).2.2.1) (g7 : D.1 r 7 = nI (rGo τ n c tTop).2.2.2) (ht : t + 5 ≤ r ∨ r + 32 ≤ t) (hae : a + 2 ≤ r ∨ r + 32 ≤ a) (hw : w ≤ 4)
    (h : ∀ D', xOut r (r + 32) D D' → rS D' (r + 6) 364 → P (rAns τ n c w) D') :
    xCi (d + 8) m_Rounds_answer [.ref r, .ref t, .ref a, .int (nI w)] D P := by
  have b5 := hT.2.2.2.2.2.2.1
  have r5 : rS D (r + 6) 364 := hG.1.1.2.1
  have hU := rGo_le τ n c tTop
  have hTop := tTop_is
  have hlt : ∀ q, (rGo τ n c tTop).2.2.1 = some q → q < tN τ 5 := fun q hq => rGo_lt hq
  unfold rAns at h
  generalize rGo τ n c tTop = ρ at hG g6 g7 h hU hlt
  have inj : ∀ v : Nat, v < 10 → nI w = nI v → w = v := fun v hv q => (nI_eq (by omega) (by omega)).mp q
  refine xCi_of y_Rounds_answer (Nat.le_of_ble_eq_true rfl) (s_Rounds_answer_0 k0 hR.1 ha.2.2 ⟨fun c3 => ?_, fun c3 => ?_⟩)
  · have w3 : w ≠ 3 := fun z => c3 (by rw [z]; rfl)
    rw [g6, g7]
    cases hf : ρ.2.2.1 with
    | none =>
      refine ⟨fun z => absurd rfl z, fun _ => ⟨fun z => ⟨_, rfl, ?_⟩, fun z => ?_⟩⟩
      · have := h D xOut.rfl' r5
        rw [if_neg w3, hf] at this
        simp only [] at this
        rw [if_neg (fun q => z (by rw [q]; rfl))] at this
        exact this
      · refine c_Rounds_mends k0 hR hT hLw h0 ha hn hc hA r5 ht hae (fun D' o r5' => ⟨_, rfl, ?_⟩)
        have := h D' o r5'
        rw [if_neg w3, hf] at this
        simp only [] at this
        rw [if_pos (inj 4 (by omega) z)] at this
        exact this
    | some f =>
      have hfN := hlt f hf
      have base := h D xOut.rfl' r5
      rw [if_neg w3, hf] at base
      simp only [] at base
      refine ⟨fun _ => ⟨fun z => ⟨_, rfl, ?_⟩, fun z => ⟨_, rfl, ?_⟩, fun z => ?_, fun z => ⟨_, rfl, ?_⟩⟩, fun z => absurd z (fun q => nI_pos (n := f) (by omega) (by rw [show nI f = -1 from q]; decide))⟩
      · rw [if_pos (inj 0 (by omega) z)] at base; exact base
      · have e := inj 1 (by omega) z
        rw [if_neg (by omega), if_pos e] at base; exact base
      · have e := inj 2 (by omega) z
        rw [if_neg (by omega), if_neg (by omega), if_pos e] at base
        exact c_Table_lastOf hR hT (by omega) (by omega) h0 ⟨_, rfl, base⟩
      · rw [nI_toInt (by omega)] at z
        rw [if_neg (by omega), if_neg (by omega), if_neg (by omega)] at base; exact base
  · have w3 := inj 3 (by omega) c3
    have fin := h D xOut.rfl' r5
    rw [if_pos w3] at fin
    exact c_Rounds_sum (d := d + 5) k0 hR hT ha.2.2 hG.2.1 hG.2.2 fin
theorem c_Rounds_answerOf {P : Int32 → xD → Prop} {p : Nat} {x : Int32} {c : Nat → Nat} (k0 : xk r = 9) (hR : tR D t τ) (hT : tOK τ) (hp : p < tN τ 5)
    (hG : rR D r (tN τ 5) (tN τ 2) (tN τ 0) (rGo τ n c tTop).1 (rGo τ n c tTop).2.1) (g6 : D.1 r 6 = oI (rGo τ n c tTop).2.2.1) (g7 : D.1 r 7 = nI (rGo τ n c tTop).2.2.2)
    (h : P (rAnsOf τ n c p (x ≠ 0)) D) :
    xCi (d + 5) m_Rounds_answerOf [.ref r, .ref t, .int (nI p), .int x] D P := by
  have b5 := hT.2.2.2.2.2.2.1
  have hU := rGo_le τ n c tTop
  have hTop := tTop_is
  refine xCi_of y_Rounds_answerOf (Nat.le_of_ble_eq_true rfl) (s_Rounds_answerOf_0 k0 hR.1 ⟨fun cx => ?_, fun cx => ?_⟩)
  · unfold rAnsOf at h
    rw [if_pos cx] at h
    rw [g6, g7]
    cases hf : (rGo τ n c tTop).2.2.1 with
    | none =>
      rw [hf] at h
      exact ⟨fun z => absurd rfl z, fun _ => ⟨_, rfl, h⟩⟩
    | some f =>
      rw [hf] at h
      have hfN := rGo_lt hf
      exact ⟨fun _ => c_Table_spoonOf hR hT hp (by omega) (by omega) ⟨_, rfl, h⟩, fun z => absurd z (fun q => nI_pos (n := f) (by omega) (by rw [show nI f = -1 from q]; decide))⟩
  · unfold rAnsOf at h
    rw [if_neg (fun q => q cx)] at h
    refine c_Row_get hG.2.1 ⟨_, rfl, ?_⟩
    rw [rg_in D _ hp (by omega), show r + 12 + 1 = r + 13 by omega, hG.2.2 p hp]
    exact h
end ANSWER
