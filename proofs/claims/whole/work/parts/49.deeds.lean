/-! The class Deeds. -/
/-- the object e of class Deeds is at s -/
def bR (D : xD) (e N A K : Nat) (s : bS) : Prop :=
  xk e = 7 ∧ dR D (e + 1) N A K s.1 ∧ rS D (e + 12) s.2.1.length ∧ (∀ i c, s.2.1[i]? = some c → D.1 (e + 13) i = nI c) ∧ rS D (e + 14) N ∧ (∀ i, i < N → D.1 (e + 15) i = nI (s.2.2.1 i)) ∧
  D.1 e 3 = nI N ∧ D.1 e 4 = nI A ∧ D.1 e 5 = nI s.2.2.2.1 ∧ D.1 e 6 = nI s.2.2.2.2.1 ∧ D.1 e 7 = oI s.2.2.2.2.2
section DEEDS
variable {d : Nat} {D : xD} {e N A K n : Nat} {s : bS}
theorem bR.at {s' : bS} (q : s = s') (h : bR D e N A K s) : bR D e N A K s' := q ▸ h
theorem bR_deal {D' : xD} {δ : dS} (hB : bR D e N A K s) (o : xOut (e + 1) (e + 12) D D') (hD : dR D' (e + 1) N A K δ) : bR D' e N A K (δ, s.2) := by
  obtain ⟨h1, h2, h3, h4, h5, h6, h7, h8, h9, h10, h11⟩ := hB
  exact ⟨h1, hD, h3.out o (by omega), fun i c hc => by rw [o.1 _ (by omega)]; exact h4 i c hc, h5.out o (by omega), fun i hi => by rw [o.1 _ (by omega)]; exact h6 i hi, by rw [o.1 _ (by omega)]; exact h7, by rw [o.1 _ (by omega)]; exact h8, by rw [o.1 _ (by omega)]; exact h9, by rw [o.1 _ (by omega)]; exact h10, by rw [o.1 _ (by omega)]; exact h11⟩
theorem bR_let {p : Nat} (hB : bR D e N A K s) (hp : p < N) : bR (xu D.1 (e + 15) p (D.1 (e + 15) p + 1), D.2) e N A K (s.1, s.2.1, (fun i => if i = p then s.2.2.1 i + 1 else s.2.2.1 i), s.2.2.2) := by
  obtain ⟨h1, h2, h3, h4, h5, h6, h7, h8, h9, h10, h11⟩ := hB
  have o := xOut_f D (e + 15) p (D.1 (e + 15) p + 1)
  refine ⟨h1, h2.out o (by omega), h3.out o (by omega), fun i c hc => by rw [o.1 _ (by omega)]; exact h4 i c hc, h5.out o (by omega), fun i hi => ?_, by rw [o.1 _ (by omega)]; exact h7, by rw [o.1 _ (by omega)]; exact h8, by rw [o.1 _ (by omega)]; exact h9, by rw [o.1 _ (by omega)]; exact h10, by rw [o.1 _ (by omega)]; exact h11⟩
  show xu D.1 (e + 15) p (D.1 (e + 15) p + 1) (e + 15) i = nI (if i = p then s.2.2.1 i + 1 else s.2.2.1 i)
  rw [xu_self]
  unfold upd
  by_cases q : i = p
  · rw [if_pos q, if_pos q, h6 p hp, nI_1, q]
  · rw [if_neg q, if_neg q]; exact h6 i hi
theorem c_Deeds_withoutSpoon {P : Int32 → xD → Prop} (hB : bR D e N A K s) (hN : N ≤ 6) (hb : ∀ c, c ∈ s.2.1 → c < N) (h : P (oI (bWo s.2.1 N)) D) : xCi (d + 3) m_Deeds_withoutSpoon [.ref e] D P := by
  obtain ⟨k0, h2, h3, h4, h5, h6, h7, h8, h9, h10, h11⟩ := hB
  refine xCi_of y_Deeds_withoutSpoon (Nat.le_of_ble_eq_true rfl) (s_Deeds_withoutSpoon_0 k0 ?_)
  have key : ∀ k j, j + k = N → bWo s.2.1 j = none → xPf (d + 3) m_Deeds_withoutSpoon 2 [(0, .ref e), (1, .int (nI j))] [] D (fun r D' => ∃ x, r = some (.int x) ∧ P x D') := by
    intro k
    induction k with
    | zero =>
      intro j hj hw
      refine s_Deeds_withoutSpoon_2 k0 ⟨fun _ => ⟨_, rfl, ?_⟩, fun c => ?_⟩
      · rw [show N = j by omega, hw] at h; exact h
      · rw [h7] at c; exact absurd (nI_le (by omega) (by omega)) c
    | succ k ih =>
      intro j hj hw
      refine s_Deeds_withoutSpoon_2 k0 ⟨fun c => ?_, fun _ => ?_⟩
      · rw [h7] at c; exact absurd c (nI_ge (by omega) (by omega))
      · refine c_Row_countOf h3 ?_
        have hm := rcnt_mem h4 (fun c hc => by have := hb c hc; omega) (show j < 2 ^ 31 by omega)
        have hle := rcnt_le (D.1 (e + 12 + 1)) (nI j) s.2.1.length
        have hlr := h3.le
        refine ⟨fun c => ?_, fun c => ⟨_, rfl, ?_⟩⟩
        · rw [nI_1]
          refine ih (j + 1) (by omega) ?_
          have hj' : j ∈ s.2.1 := Decidable.byContradiction (fun z => c (by rw [hm.mpr z]; rfl))
          rw [bWo, hw]; simp only []; rw [if_pos hj']
        · have h0 : rcnt (D.1 (e + 12 + 1)) (nI j) s.2.1.length = 0 := by
            apply Decidable.byContradiction
            intro z
            exact nI_ne0 (by omega) (by omega) c
          have hj' := hm.mp h0
          have e1 : bWo s.2.1 (j + 1) = some j := by rw [bWo, hw]; simp only []; rw [if_neg hj']
          have e2 : ∀ i, bWo s.2.1 (j + 1 + i) = some j := by
            intro i
            induction i with
            | zero => exact e1
            | succ i ihi => rw [show j + 1 + (i + 1) = j + 1 + i + 1 by omega, bWo, ihi]
          have := e2 k
          rw [show j + 1 + k = N by omega] at this
          rw [this] at h
          exact h
  exact key N 0 (by omega) rfl
theorem reach_push {P : Int32 → xD → Prop} {p : Nat} (hB : bR D e N A K s) (hN : N ≤ 6) (hW : bW N K n s) (hl : s.2.2.2.2.2 = none) (hp : p < N) (hne : p ∉ s.2.1) (hno : ¬ (s.2.1 = [] ∧ dAlB A K s.1 p = false))
    (h1 : ∀ D' s', xOut e (e + 16) D D' → bReach N A K p s = some s' → bR D' e N A K s' → P 1 D') :
    xCv (d + 3) m_Row_push [.ref (e + 12), .int (nI p)] D (fun D5 => xCi (d + 3) m_Row_size [.ref (e + 12)] D5 (fun r7 D6 => (¬ r7 = ((D6.1 e 3) - (1 : Int32)) → ∃ x, some (Value.int (1 : Int32)) = some (.int x) ∧ P x D6) ∧ (r7 = ((D6.1 e 3) - (1 : Int32)) → xCi (d + 3) m_Deeds_withoutSpoon [.ref e] D6 (fun r9 D8 => ∀ D10 : xD, D10 = (xu D8.1 e 7 r9, D8.2) → xCv (d + 3) m_Row_add [.ref (e + 14), .int (D10.1 e 7), .int (1 : Int32)] D10 (fun D11 => ∃ x, some (Value.int (1 : Int32)) = some (.int x) ∧ P x D11))))) := by
  obtain ⟨k0, h2, h3, h4, h5, h6, h7, h8, h9, h10, h11⟩ := hB
  obtain ⟨w1, w2, w3, w4, w5⟩ := hW
  have w6 := w4 hl
  have l13 : xl (e + 12 + 1) = 6 := cl_7_1 k0
  refine c_Row_push h3 ?_
  have ep : rpush D (e + 12) s.2.1.length (nI p) = (xu (xu D.1 (e + 13) s.2.1.length (nI p)) (e + 12) 1 (nI (s.2.1.length + 1)), D.2) := by
    unfold rpush; rw [if_pos (by omega)]
  rw [ep]
  have o1 : xOut (e + 12) (e + 14) D (xu (xu D.1 (e + 13) s.2.1.length (nI p)) (e + 12) 1 (nI (s.2.1.length + 1)), D.2) := ⟨fun i q => by show xu _ _ _ _ i = _; rw [xu_ne _ _ _ (by omega), xu_ne _ _ _ (by omega)], rfl⟩
  have v12 : (xu (xu D.1 (e + 13) s.2.1.length (nI p)) (e + 12) 1 (nI (s.2.1.length + 1))) (e + 12) 1 = nI (s.2.1.length + 1) := by rw [xu_self]; simp [upd]
  have v13 : ∀ i, (xu (xu D.1 (e + 13) s.2.1.length (nI p)) (e + 12) 1 (nI (s.2.1.length + 1))) (e + 13) i = if i = s.2.1.length then nI p else D.1 (e + 13) i := fun i => by rw [xu_ne _ _ _ (by omega), xu_self]; rfl
  generalize xu (xu D.1 (e + 13) s.2.1.length (nI p)) (e + 12) 1 (nI (s.2.1.length + 1)) = G at o1 v12 v13 ⊢
  have r12 : rS (G, D.2) (e + 12) (s.2.1 ++ [p]).length := ⟨by rw [List.length_append]; exact v12, by rw [List.length_append, List.length_singleton]; omega, h3.2.2⟩
  have hB1 : bR (G, D.2) e N A K (s.1, s.2.1 ++ [p], s.2.2) := by
    refine ⟨k0, h2.out o1 (by omega), r12, fun i c hc => ?_, h5.out o1 (by omega), fun i hi => by rw [o1.1 _ (by omega)]; exact h6 i hi, by rw [o1.1 _ (by omega)]; exact h7, by rw [o1.1 _ (by omega)]; exact h8, by rw [o1.1 _ (by omega)]; exact h9, by rw [o1.1 _ (by omega)]; exact h10, by rw [o1.1 _ (by omega)]; exact h11⟩
    show G (e + 13) i = nI c
    rw [v13]
    have hc : (s.2.1 ++ [p])[i]? = some c := hc
    by_cases q : i < s.2.1.length
    · rw [List.getElem?_append_left q] at hc
      rw [if_neg (by omega)]
      exact h4 i c hc
    · have hil : i < (s.2.1 ++ [p]).length := (List.getElem?_eq_some_iff.mp hc).1
      have ei : i = s.2.1.length := by simp at hil; omega
      subst ei
      simp at hc
      subst hc
      exact if_pos rfl
  refine c_Row_size r12 ?_
  have g3 : (G, D.2).1 e 3 = nI N := by rw [o1.1 _ (by omega)]; exact h7
  have eb : bReach N A K p s = if s.2.1.length + 2 = N then some (s.1, s.2.1 ++ [p], (fun i => if some i = bWo (s.2.1 ++ [p]) N then s.2.2.1 i + 1 else s.2.2.1 i), s.2.2.2.1, s.2.2.2.2.1, bWo (s.2.1 ++ [p]) N) else some (s.1, s.2.1 ++ [p], s.2.2) := by
    unfold bReach; rw [if_neg hne, if_neg hno]
  have el : (s.2.1 ++ [p]).length = s.2.1.length + 1 := by simp
  rw [g3, show (1 : Int32) = nI 1 from rfl, pk_sub (show 1 ≤ N by omega), el]
  refine ⟨fun c => ⟨_, rfl, ?_⟩, fun c => ?_⟩
  · rw [if_neg (fun z => c (by rw [show s.2.1.length + 1 = N - 1 by omega]))] at eb
    exact h1 _ _ (o1.mono (by omega) (by omega)) eb hB1
  · have ec : s.2.1.length + 2 = N := by
      have := (nI_eq (by omega) (by omega)).mp c
      omega
    rw [if_pos ec] at eb
    have wp : ∀ q, q ∈ s.2.1 ++ [p] → q < N := fun q hq => by
      rcases List.mem_append.mp hq with z | z
      · exact w2 q z
      · rw [List.mem_singleton.mp z]; exact hp
    refine c_Deeds_withoutSpoon hB1 hN wp ?_
    intro D10 e10
    have o2 : xOut e (e + 1) (G, D.2) D10 := by rw [e10]; exact xOut_f (G, D.2) e 7 _
    have f10 : ∀ j, D10.1 e j = if j = 7 then oI (bWo (s.2.1 ++ [p]) N) else G e j := fun j => by rw [e10]; show xu G e 7 _ e j = _; rw [xu_self]; rfl
    clear e10
    obtain ⟨q, hq⟩ : ∃ q, bWo (s.2.1 ++ [p]) N = some q := by
      cases hx : bWo (s.2.1 ++ [p]) N with
      | some q => exact ⟨q, rfl⟩
      | none =>
        have := pigeons N _ (bWo_none hx)
        simp at this; omega
    have hqN := (bWo_some hq).1
    have hB2 : bR D10 e N A K (s.1, s.2.1 ++ [p], s.2.2.1, s.2.2.2.1, s.2.2.2.2.1, bWo (s.2.1 ++ [p]) N) := by
      obtain ⟨a0, a2, a3, a4, a5, a6, a7, a8, a9, a10, a11⟩ := hB1
      exact ⟨k0, a2.out o2 (by omega), a3.out o2 (by omega), fun i c hc => by rw [o2.1 _ (by omega)]; exact a4 i c hc, a5.out o2 (by omega), fun i hi => by rw [o2.1 _ (by omega)]; exact a6 i hi, by rw [f10]; simpa using a7, by rw [f10]; simpa using a8, by rw [f10]; simpa using a9, by rw [f10]; simpa using a10, by rw [f10]; simp⟩
    have f7 : D10.1 e 7 = nI q := by rw [f10]; simp [hq, oI]
    rw [f7]
    refine c_Row_add hB2.2.2.2.2.1 ⟨_, rfl, ?_⟩
    rw [radd_in _ _ _ hqN (by omega), show e + 14 + 1 = e + 15 by omega]
    refine h1 _ _ ((o1.mono (by omega) (by omega)).trans ((o2.mono (by omega) (by omega)).trans ((xOut_f D10 (e + 15) q _).mono (by omega) (by omega)))) eb ?_
    refine bR.at ?_ (bR_let hB2 hqN)
    refine Prod.ext rfl (Prod.ext rfl (Prod.ext (funext fun i => ?_) rfl))
    show (if i = q then s.2.2.1 i + 1 else s.2.2.1 i) = if some i = bWo (s.2.1 ++ [p]) N then s.2.2.1 i + 1 else s.2.2.1 i
    rw [hq]
    by_cases z : i = q
    · rw [if_pos z, if_pos (by rw [z])]
    · rw [if_neg z, if_neg (fun y => z (Option.some.inj y))]
theorem c_Deeds_reaches {P : Int32 → xD → Prop} {p : Nat} (hB : bR D e N A K s) (hN : N ≤ 6) (hK : K ≤ 13) (hA : A ≤ 4) (hW : bW N K n s) (hl : s.2.2.2.2.2 = none) (hp : p < N)
    (h1 : ∀ D' s', xOut e (e + 16) D D' → bReach N A K p s = some s' → bR D' e N A K s' → P 1 D') (h0 : bReach N A K p s = none → P 0 D) : xCi (d + 4) m_Deeds_reaches [.ref e, .int (nI p)] D P := by
  have hB0 := hB
  obtain ⟨k0, h2, h3, h4, h5, h6, h7, h8, h9, h10, h11⟩ := hB
  have hm : rcnt (D.1 (e + 12 + 1)) (nI p) s.2.1.length = 0 ↔ p ∉ s.2.1 := rcnt_mem h4 (fun c hc => by have := hW.2.1 c hc; omega) (show p < 2 ^ 31 by omega)
  have hle := rcnt_le (D.1 (e + 12 + 1)) (nI p) s.2.1.length
  have hlr := h3.le
  refine xCi_of y_Deeds_reaches (Nat.le_of_ble_eq_true rfl) (s_Deeds_reaches_0 k0 ?_)
  refine c_Row_countOf h3 ⟨fun c => ?_, fun c => ⟨_, rfl, ?_⟩⟩
  · have hne : p ∉ s.2.1 := hm.mp (by
      apply Decidable.byContradiction
      intro z
      exact nI_nle (by omega) (by omega) c)
    refine c_Row_size h3 ⟨fun c1 => ?_, fun c1 => ?_⟩
    · have hx : s.2.1 ≠ [] := fun z => c1 (by rw [z]; rfl)
      exact reach_push hB0 hN hW hl hp hne (fun z => hx z.1) h1
    · have hx : s.2.1 = [] := by
        apply List.eq_nil_of_length_eq_zero
        apply Decidable.byContradiction
        intro z
        exact nI_ne0 (by omega) (by omega) c1
      refine c_Deal_hasAlike h2 hW.1 hN hK hA hp (fun q => ⟨fun _ => ?_, fun z => absurd z (by decide)⟩) (fun q => ⟨fun z => absurd rfl z, fun _ => ?_⟩)
      · exact reach_push hB0 hN hW hl hp hne (fun z => by rw [dAlB_iff.mpr q] at z; exact absurd z.2 (by decide)) h1
      · have q2 : dAlB A K s.1 p = false := by
          cases hx2 : dAlB A K s.1 p with
          | false => rfl
          | true => exact absurd (dAlB_iff.mp hx2) q
        refine c_Row_add h5 ⟨_, rfl, ?_⟩
        rw [radd_in _ _ _ hp (by omega), show e + 14 + 1 = e + 15 by omega]
        refine h1 _ _ ((xOut_f D (e + 15) p _).mono (by omega) (by omega)) ?_ (bR_let hB0 hp)
        unfold bReach
        rw [if_neg hne, if_pos ⟨hx, q2⟩]
  · refine h0 ?_
    unfold bReach
    exact if_pos (Decidable.byContradiction (fun z => c (by rw [hm.mpr z]; exact nI_le (a := 0) (b := 0) (Nat.le_refl _) (by omega))))
theorem c_Deeds_handsOn {P : Int32 → xD → Prop} {p c : Nat} (hB : bR D e N A K s) (hN : N ≤ 6) (hK : K ≤ 13) (hA : A ≤ 4) (hW : bW N K n s) (hp : p < N) (hc : c < 13)
    (h1 : ∀ D', xOut e (e + 16) D D' → s.1.2.1 p = A + 1 ∧ 0 < s.1.1 p c → bR D' e N A K (dHand p c s.1, s.2) → P 1 D') (h0 : ¬ (s.1.2.1 p = A + 1 ∧ 0 < s.1.1 p c) → P 0 D) : xCi (d + 4) m_Deeds_handsOn [.ref e, .int (nI p), .int (nI c)] D P := by
  have hB0 := hB
  obtain ⟨k0, h2, h3, h4, h5, h6, h7, h8, h9, h10, h11⟩ := hB
  have b1 := hW.1.sz hp
  have b2 := hW.1.hd hp hc
  refine xCi_of y_Deeds_handsOn (Nat.le_of_ble_eq_true rfl) (s_Deeds_handsOn_0 k0 ?_)
  refine c_Deal_holdsCards h2 hN hp ?_
  rw [h8, nI_1]
  refine ⟨fun c1 => ⟨_, rfl, h0 (fun z => c1 (by rw [z.1]))⟩, fun c1 => ?_⟩
  have e1 := (nI_eq (by omega) (by omega)).mp c1
  refine c_Deal_holdsOf h2 hN hp hc ⟨fun c2 => ?_, fun c2 => ⟨_, rfl, h0 (fun z => nI_ne0 z.2 (by omega) c2)⟩⟩
  have e2 : 0 < s.1.1 p c := Nat.pos_of_ne_zero (fun z => c2 (by rw [z]; rfl))
  obtain ⟨w1, w2, w3, w4⟩ := dW_hand hW.1 hK hp e2
  exact c_Deal_handOn h2 hN hp hc e2 w2 w3 (fun D1 o1 hD1 => ⟨_, rfl, h1 D1 (o1.mono (by omega) (by omega)) ⟨e1, e2⟩ (bR_deal hB0 (o1.mono (by omega) (by omega)) hD1)⟩)
theorem c_Deeds_happens {P : Int32 → xD → Prop} {a b c : Nat} {y : Int32} (hB : bR D e N A K s) (hN : N ≤ 6) (hK : K ≤ 13) (hA : A ≤ 4) (hW : bW N K n s) (ha : a ≤ 4) (hb : b < 2 ^ 30) (hc : a = 1 → y = nI c ∧ c < 13) (hlt : ∀ p, s.2.2.2.2.2 = some p → p < N)
    (h1 : ∀ D' s', xOut e (e + 16) D D' → bDo N A K a b c s = some s' → bR D' e N A K s' → P 1 D') (h0 : ∀ D', xOut e (e + 16) D D' → dR D' (e + 1) N A K (dTake N b s.1).2 ∨ dR D' (e + 1) N A K s.1 → bDo N A K a b c s = none → P 0 D') : xCi (d + 5) m_Deeds_happens [.ref e, .int (nI a), .int (nI b), .int y] D P := by
  have hB0 := hB
  obtain ⟨k0, h2, h3, h4, h5, h6, h7, h8, h9, h10, h11⟩ := hB
  have stay := h0 D xOut.rfl' (Or.inr h2)
  have inj : ∀ v : Nat, v < 10 → nI a = nI v → a = v := fun v hv q => (nI_eq (by omega) (by omega)).mp q
  refine xCi_of y_Deeds_happens (Nat.le_of_ble_eq_true rfl) (s_Deeds_happens_0 k0 ⟨fun cl => ?_, fun cl => ⟨_, rfl, stay ?_⟩⟩)
  · rw [h11] at cl
    have hl := (oI_iff (fun p hp => by have := hlt p hp; omega)).mp cl
    have e0 : bDo N A K a b c s = if a = 4 then some (s.1, s.2.1, s.2.2.1, s.2.2.2.1 + b, s.2.2.2.2) else if N ≤ b then none else if a = 0 then (if s.1.2.1 b = A then (if (dTake N b s.1).1 = none then none else some ((dTake N b s.1).2, s.2)) else none) else if a = 1 then (if s.1.2.1 b = A + 1 ∧ 0 < s.1.1 b c then some (dHand b c s.1, s.2) else none) else if a = 2 then bReach N A K b s else some (s.1, s.2.1, s.2.2.1, s.2.2.2.1, s.2.2.2.2.1 + 1, s.2.2.2.2.2) := by
      unfold bDo; rw [if_neg (fun z => z hl)]
    refine ⟨fun c4 => ⟨fun cn => absurd cn (nI_pos (by omega)), fun _ => ⟨fun cb => ?_, fun cb => ⟨_, rfl, stay ?_⟩⟩⟩, fun c4 D10 e10 => ⟨_, rfl, ?_⟩⟩
    · rw [if_neg (fun z => c4 (by rw [z]; rfl))] at e0
      rw [h7] at cb
      have hbN := (nI_ltI (by omega) (by omega)).mp cb
      rw [if_neg (by omega)] at e0
      refine ⟨fun z => ?_, fun z => ?_, fun z => ?_, fun z => ?_⟩
      · rw [if_pos (inj 0 (by omega) z)] at e0
        refine c_Deal_holdsCards h2 hN hbN ?_
        have b1 := hW.1.sz hbN
        rw [h8]
        refine ⟨fun c1 => ⟨_, rfl, stay ?_⟩, fun c1 => ?_⟩
        · rw [e0, if_neg (fun z => c1 (by rw [z]))]
        · rw [if_pos ((nI_eq (by omega) (by omega)).mp c1)] at e0
          have h52 : (s.1.2.2 0).length ≤ 52 := by
            obtain ⟨hl2, al, _, _, _, z⟩ := h2.2.2.2.2.2.2.2.2
            exact (z 0 (by omega)).2.1
          refine c_Deal_take h2 hN hbN h52 (fun D1 o1 hD1 => ?_)
          cases hx : (dTake N b s.1).1 with
          | none =>
            rw [if_pos hx] at e0
            exact ⟨fun _ => ⟨_, rfl, h0 D1 (o1.mono (by omega) (by omega)) (Or.inl hD1) e0⟩, fun q => absurd rfl q⟩
          | some v =>
            have hv := ((dW_take hW.1 hK hbN).2 v hx).1
            rw [if_neg (by rw [hx]; exact fun z => by cases z)] at e0
            exact ⟨fun q => absurd q (fun q => nI_pos (n := v) (by omega) (by rw [show nI v = -1 from q]; decide)), fun _ => ⟨_, rfl, h1 D1 _ (o1.mono (by omega) (by omega)) e0 (bR_deal hB0 (o1.mono (by omega) (by omega)) hD1)⟩⟩
      · have ea := inj 1 (by omega) z
        rw [if_neg (by omega), if_pos ea] at e0
        obtain ⟨y1, y2⟩ := hc ea
        rw [y1]
        refine c_Deeds_handsOn hB0 hN hK hA hW hbN y2 (fun D1 o1 q hB1 => ⟨Or.inr rfl, _, rfl, h1 D1 _ o1 ?_ hB1⟩) (fun q => ⟨Or.inl rfl, _, rfl, stay ?_⟩)
        · rw [e0, if_pos q]
        · rw [e0, if_neg q]
      · have ea := inj 2 (by omega) z
        rw [if_neg (by omega), if_neg (by omega), if_pos ea] at e0
        exact c_Deeds_reaches hB0 hN hK hA hW hl hbN (fun D1 s1 o1 q hB1 => ⟨Or.inr rfl, _, rfl, h1 D1 s1 o1 (by rw [e0]; exact q) hB1⟩) (fun q => ⟨Or.inl rfl, _, rfl, stay (by rw [e0]; exact q)⟩)
      · rw [nI_toInt (by omega)] at z
        rw [if_neg (by omega), if_neg (by omega), if_neg (by omega)] at e0
        intro D1 e1
        have o1 : xOut e (e + 1) D D1 := by rw [e1]; exact xOut_f D e 6 _
        have f1 : ∀ j, D1.1 e j = if j = 6 then D.1 e 6 + 1 else D.1 e j := fun j => by rw [e1]; show xu D.1 e 6 _ e j = _; rw [xu_self]; rfl
        refine ⟨_, rfl, h1 D1 _ (o1.mono (by omega) (by omega)) e0 ⟨k0, h2.out o1 (by omega), h3.out o1 (by omega), fun i c hc => by rw [o1.1 _ (by omega)]; exact h4 i c hc, h5.out o1 (by omega), fun i hi => by rw [o1.1 _ (by omega)]; exact h6 i hi, by rw [f1]; simpa using h7, by rw [f1]; simpa using h8, by rw [f1]; simpa using h9, ?_, by rw [f1]; simpa using h11⟩⟩
        rw [f1, if_pos rfl, h10, nI_1]
    · rw [if_neg (fun z => c4 (by rw [z]; rfl))] at e0
      rw [h7] at cb
      have hbN : N ≤ b := by
        apply Nat.le_of_not_lt
        intro z
        exact cb (nI_lt z (by omega))
      rw [e0, if_pos hbN]
    · rw [if_pos (inj 4 (by omega) c4)] at e0
      have o1 : xOut e (e + 1) D D10 := by rw [e10]; exact xOut_f D e 5 _
      have f1 : ∀ j, D10.1 e j = if j = 5 then D.1 e 5 + nI b else D.1 e j := fun j => by rw [e10]; show xu D.1 e 5 _ e j = _; rw [xu_self]; rfl
      refine h1 D10 _ (o1.mono (by omega) (by omega)) e0 ⟨k0, h2.out o1 (by omega), h3.out o1 (by omega), fun i c hc => by rw [o1.1 _ (by omega)]; exact h4 i c hc, h5.out o1 (by omega), fun i hi => by rw [o1.1 _ (by omega)]; exact h6 i hi, by rw [f1]; simpa using h7, by rw [f1]; simpa using h8, ?_, by rw [f1]; simpa using h10, by rw [f1]; simpa using h11⟩
      rw [f1, if_pos rfl, h9, nI_add]
  · unfold bDo
    rw [if_pos]
    intro z
    exact cl (by rw [h11, z]; rfl)
end DEEDS
