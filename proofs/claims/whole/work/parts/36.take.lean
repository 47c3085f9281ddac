/-! Cards that are taken and handed on. -/
def dSw (N p : Nat) (δ : dS) : Nat → List Nat := if p = 0 ∧ δ.2.2 0 = [] then (fun i => if i = 0 then δ.2.2 N else if i = N then [] else δ.2.2 i) else δ.2.2
def dGot (p c : Nat) (l : List Nat) (δ : dS) : dS := (fun i k => if i = p ∧ k = c then δ.1 i k + 1 else δ.1 i k, fun i => if i = p then δ.2.1 i + 1 else δ.2.1 i, fun i => if i = p then l else δ.2.2 i)
def dTake1 (p : Nat) (δ : dS) : Option Nat × dS := match δ.2.2 p with
  | [] => (none, δ)
  | c :: l => (some c, dGot p c l δ)
def dTake (N p : Nat) (δ : dS) : Option Nat × dS := dTake1 p (δ.1, δ.2.1, dSw N p δ)
def dHand (p c : Nat) (δ : dS) : dS := (fun i k => if i = p ∧ k = c then δ.1 i k - 1 else δ.1 i k, fun i => if i = p then δ.2.1 i - 1 else δ.2.1 i, fun i => if i = p + 1 then δ.2.2 i ++ [c] else δ.2.2 i)
section TAKE
variable {d : Nat} {D : xD} {e N A K n : Nat} {δ : dS}
/-- one place of the row of hands, one of the row of sizes: what is left of a deal -/
theorem dR_add {D3 : xD} {p c : Nat} {s : Int32} {f g : Nat → Nat} {q : Nat → List Nat} (hp : p < N) (hc : c < 13) (hN : N ≤ 6)
    (hR : dR D3 e N A K (δ.1, δ.2.1, q)) (h1 : nI (δ.1 p c) + s = nI (f c)) (h2 : nI (δ.2.1 p) + s = nI (g p)) :
    dR (xu (xu D3.1 (e + 2) (13 * p + c) (D3.1 (e + 2) (13 * p + c) + s)) (e + 4) p (D3.1 (e + 4) p + s), D3.2) e N A K (fun i k => if i = p ∧ k = c then f c else δ.1 i k, fun i => if i = p then g p else δ.2.1 i, q) := by
  obtain ⟨k1, k2, k3, k4, k5, k6, k7, k8, hl, al, k9, k10, k11, k12⟩ := hR
  have v2 : ∀ j, (xu (xu D3.1 (e + 2) (13 * p + c) (D3.1 (e + 2) (13 * p + c) + s)) (e + 4) p (D3.1 (e + 4) p + s)) (e + 2) j = if j = 13 * p + c then D3.1 (e + 2) (13 * p + c) + s else D3.1 (e + 2) j := fun j => by
    rw [xu_ne _ _ _ (by omega), xu_self]; rfl
  have v4 : ∀ j, (xu (xu D3.1 (e + 2) (13 * p + c) (D3.1 (e + 2) (13 * p + c) + s)) (e + 4) p (D3.1 (e + 4) p + s)) (e + 4) j = if j = p then D3.1 (e + 4) p + s else D3.1 (e + 4) j := fun j => by
    rw [xu_self]; unfold upd; rw [xu_ne _ _ _ (by omega)]
  have vo : ∀ i, i ≠ e + 2 → i ≠ e + 4 → (xu (xu D3.1 (e + 2) (13 * p + c) (D3.1 (e + 2) (13 * p + c) + s)) (e + 4) p (D3.1 (e + 4) p + s)) i = D3.1 i := fun i a b => by
    rw [xu_ne _ _ _ b, xu_ne _ _ _ a]
  refine ⟨⟨k1.1, rS_of k1.2.1 ?_, rS_of k1.2.2.1 ?_, rS_of k1.2.2.2 ?_⟩, rS_of k2 ?_, rS_of k3 ?_, ?_, ?_, ?_, fun i hi k hk => ?_, fun i hi => ?_, hl, al, k9, ?_, ?_, fun i hi => ?_⟩
  · show xu _ _ _ _ (e + 5) 1 = _; rw [vo _ (by omega) (by omega)]
  · show xu _ _ _ _ (e + 7) 1 = _; rw [vo _ (by omega) (by omega)]
  · show xu _ _ _ _ (e + 9) 1 = _; rw [vo _ (by omega) (by omega)]
  · show xu _ _ _ _ (e + 1) 1 = _; rw [vo _ (by omega) (by omega)]
  · show xu _ _ _ _ (e + 3) 1 = _; rw [vo _ (by omega) (by omega)]
  · show xu _ _ _ _ e 5 = _; rw [vo _ (by omega) (by omega)]; exact k4
  · show xu _ _ _ _ e 6 = _; rw [vo _ (by omega) (by omega)]; exact k5
  · show xu _ _ _ _ e 7 = _; rw [vo _ (by omega) (by omega)]; exact k6
  · show xu _ _ _ _ (e + 2) _ = nI (if i = p ∧ k = c then f c else δ.1 i k)
    rw [v2]
    by_cases q : i = p ∧ k = c
    · rw [if_pos q, q.1, q.2, if_pos rfl, k7 p hp c hc]; exact h1
    · rw [if_neg q, if_neg (by omega)]; exact k7 i hi k hk
  · show xu _ _ _ _ (e + 4) _ = nI (if i = p then g p else δ.2.1 i)
    rw [v4]
    by_cases q : i = p
    · rw [if_pos q, if_pos q, k8 p hp]; exact h2
    · rw [if_neg q, if_neg q]; exact k8 i hi
  · show xu _ _ _ _ e 8 = _; rw [vo _ (by omega) (by omega)]; exact k10
  · show xu _ _ _ _ e 9 = _; rw [vo _ (by omega) (by omega)]; exact k11
  · obtain ⟨g1, g2, g', g3, g4, g5⟩ := k12 i hi
    exact ⟨by show xu _ _ _ _ (e + 10) _ = _; rw [vo _ (by omega) (by omega)]; exact g1, g2, g', g3, by show xu _ _ _ _ (e + 8) _ = _; rw [vo _ (by omega) (by omega)]; exact g4, fun j x hx => ⟨(g5 j x hx).1, by show xu _ _ _ _ (e + 6) _ = _; rw [vo _ (by omega) (by omega)]; exact (g5 j x hx).2⟩⟩
theorem c_take1 {P : Int32 → xD → Prop} {p : Nat} (hR : dR D e N A K δ) (hN : N ≤ 6) (hp : p < N)
    (h : ∀ D', xOut e (e + 11) D D' → dR D' e N A K (dTake1 p δ).2 → P (oI (dTake1 p δ).1) D') :
    xCi (d + 2) m_Deal_laneTo [.ref e, .int (nI p)] D (fun r2 D1 => xCi (d + 2) m_Deal_leave [.ref e, .int r2] D1 (fun r4 D3 => (r4 = (-1 : Int32) → ∃ x, some (Value.int r4) = some (.int x) ∧ P x D3) ∧ (¬ r4 = (-1 : Int32) → xCv (d + 2) m_Row_add [.ref (e + 1), .int ((nI p * (13 : Int32)) + r4), .int (1 : Int32)] D3 (fun D5 => xCv (d + 2) m_Row_add [.ref (e + 3), .int (nI p), .int (1 : Int32)] D5 (fun D6 => ∃ x, some (Value.int r4) = some (.int x) ∧ P x D6))))) := by
  have hR0 := hR
  obtain ⟨k1, k2, k3, k4, k5, k6, k7, k8, hl, al, k9, k10, k11, k12⟩ := hR
  refine c_Deal_laneTo k1.1 k4 k10 k11 hN (by omega) ?_
  have hlt := dLane_lt k9 hN (show p ≤ N by omega)
  have hq := k12 p (by omega)
  cases hl0 : δ.2.2 p with
  | nil =>
    rw [hl0] at hq
    have e1 : dTake1 p δ = (none, δ) := by unfold dTake1; rw [hl0]
    rw [e1] at h
    exact c_Deal_leave0 k1 hq hlt ⟨fun _ => ⟨_, rfl, h D xOut.rfl' hR0⟩, fun c => absurd rfl c⟩
  | cons c l =>
    rw [hl0] at hq
    have hc : c < 13 := by
      obtain ⟨_, _, g, _, _, g5⟩ := hq
      exact (g5 0 c rfl).1
    have e1 : dTake1 p δ = (some c, dGot p c l δ) := by unfold dTake1; rw [hl0]
    rw [e1] at h
    refine c_Deal_leave k1 hq hlt (fun D3 o1 r1 l1 l2 => ⟨fun q => absurd q (fun q => nI_pos (n := c) (by omega) (by rw [q]; decide)), fun _ => ?_⟩)
    rw [ix13]
    have r2 : rS D3 (e + 1) 78 := k2.out o1 (by omega)
    refine c_Row_add r2 ?_
    rw [radd_in _ _ _ (show 13 * p + c < 78 by omega) (by omega), show e + 1 + 1 = e + 2 by omega]
    have r3 : rS (xu D3.1 (e + 2) (13 * p + c) (D3.1 (e + 2) (13 * p + c) + 1), D3.2) (e + 3) N := rS_of (k3.out o1 (by omega)) (by show xu _ _ _ _ (e + 3) 1 = _; rw [xu_ne _ _ _ (by omega)])
    refine c_Row_add r3 ⟨_, rfl, ?_⟩
    rw [radd_in _ _ _ hp (by omega), show e + 3 + 1 = e + 4 by omega]
    have e4 : (xu D3.1 (e + 2) (13 * p + c) (D3.1 (e + 2) (13 * p + c) + 1)) (e + 4) p = D3.1 (e + 4) p := by rw [xu_ne _ _ _ (by omega)]
    show P (oI (some c)) (xu (xu D3.1 (e + 2) (13 * p + c) (D3.1 (e + 2) (13 * p + c) + 1)) (e + 4) p ((xu D3.1 (e + 2) (13 * p + c) (D3.1 (e + 2) (13 * p + c) + 1)) (e + 4) p + 1), D3.2)
    rw [e4]
    have hR3 : dR D3 e N A K (δ.1, δ.2.1, fun i => if i = p then l else δ.2.2 i) := by
      refine ⟨r1, r2, k3.out o1 (by omega), by rw [o1.1 _ (by omega)]; exact k4, by rw [o1.1 _ (by omega)]; exact k5, by rw [o1.1 _ (by omega)]; exact k6, fun i hi k hk => by rw [o1.1 _ (by omega)]; exact k7 i hi k hk, fun i hi => by rw [o1.1 _ (by omega)]; exact k8 i hi, hl, al, k9, by rw [o1.1 _ (by omega)]; exact k10, by rw [o1.1 _ (by omega)]; exact k11, fun i hi => ?_⟩
      show lnR D3 e _ (if i = p then l else δ.2.2 i)
      by_cases q : i = p
      · rw [if_pos q, q]; exact l1
      · rw [if_neg q]
        exact l2 _ _ (dLane_lt k9 hN hi) (fun q2 => q (dLane_inj k9 (by omega) hi (by omega) q2)) (k12 i hi)
    refine h _ ⟨fun i hi => ?_, ?_⟩ ?_
    · show xu _ _ _ _ i = _
      rw [xu_ne _ _ _ (by omega), xu_ne _ _ _ (by omega), o1.1 i (by omega)]
    · exact o1.2
    · have := dR_add (δ := δ) (q := fun i => if i = p then l else δ.2.2 i) (s := 1) (f := fun _ => δ.1 p c + 1) (g := fun i => δ.2.1 i + 1) hp hc hN hR3 (nI_1 _) (nI_1 _)
      refine (show dGot p c l δ = _ from ?_) ▸ this
      unfold dGot
      refine Prod.ext (funext fun i => funext fun k => ?_) (Prod.ext (funext fun i => ?_) rfl)
      · by_cases q : i = p ∧ k = c
        · simp only [if_pos q]; rw [q.1, q.2]
        · simp only [if_neg q]
      · by_cases q : i = p
        · simp only [if_pos q]; rw [q]
        · simp only [if_neg q]
theorem c_Deal_take {P : Int32 → xD → Prop} {p : Nat} (hR : dR D e N A K δ) (hN : N ≤ 6) (hp : p < N) (h52 : (δ.2.2 0).length ≤ 52)
    (h : ∀ D', xOut e (e + 11) D D' → dR D' e N A K (dTake N p δ).2 → P (oI (dTake N p δ).1) D') : xCi (d + 3) m_Deal_take [.ref e, .int (nI p)] D P := by
  have hR0 := hR
  obtain ⟨k1, k2, k3, k4, k5, k6, k7, k8, hl, al, k9, k10, k11, k12⟩ := hR
  refine xCi_of y_Deal_take (Nat.le_of_ble_eq_true rfl) (s_Deal_take_0 k1.1 ⟨fun c => ?_, fun c => ?_⟩)
  · have e1 : dTake N p δ = dTake1 p δ := by
      unfold dTake dSw
      rw [if_neg (fun q => c (by rw [q.1]; rfl))]
    rw [e1] at h
    exact c_take1 hR0 hN hp h
  · have p0 : p = 0 := by
      apply Decidable.byContradiction
      intro q
      exact nI_ne0 (by omega) (by omega) c
    subst p0
    have q0 := k12 0 (by omega)
    have el : dLane N hl al 0 = hl := by unfold dLane; rw [if_neg (by omega), if_pos rfl]
    rw [el] at q0
    rw [k10]
    refine c_Row_get k1.2.2.2 ?_
    rw [rg_in D _ (show hl < 7 by omega) (by omega), show e + 9 + 1 = e + 10 by omega, q0.1]
    refine ⟨fun c1 => ?_, fun c1 D15 e15 D16 e16 => ?_⟩
    · have e1 : dTake N 0 δ = dTake1 0 δ := by
        unfold dTake dSw
        rw [if_neg (fun q => c1 (by rw [q.2]; rfl))]
      rw [e1] at h
      exact c_take1 hR0 hN hp h
    · have hnil : δ.2.2 0 = [] := by
        cases hx : δ.2.2 0 with
        | nil => rfl
        | cons a l => rw [hx] at c1; exact absurd c1 (nI_ne0 (by simp) (by rw [hx] at h52; simp at h52 ⊢; omega))
      rw [k11] at e15
      have e16' : D16 = (xu (xu D.1 e 8 (nI al)) e 9 (nI hl), D.2) := by rw [e16, e15, k10]
      have vo : ∀ i, i ≠ e → D16.1 i = D.1 i := fun i hi => by rw [e16']; show xu _ _ _ _ i = _; rw [xu_ne _ _ _ hi, xu_ne _ _ _ hi]
      have ve : ∀ j, j ≠ 8 → j ≠ 9 → D16.1 e j = D.1 e j := fun j a b => by
        rw [e16']; show xu _ _ _ _ e j = _; rw [xu_self]; unfold upd; rw [if_neg b, xu_self]; unfold upd; rw [if_neg a]
      have v8 : D16.1 e 8 = nI al := by rw [e16']; show xu _ _ _ _ e 8 = _; rw [xu_self]; unfold upd; rw [if_neg (by decide), xu_self]; simp [upd]
      have v9 : D16.1 e 9 = nI hl := by rw [e16']; show xu _ _ _ _ e 9 = _; rw [xu_self]; simp [upd]
      have o16 : xOut e (e + 1) D D16 := ⟨fun i hi => vo i (by omega), by rw [e16']⟩
      have hR16 : dR D16 e N A K (δ.1, δ.2.1, dSw N 0 δ) := by
        refine ⟨k1.out o16 (by omega), k2.out o16 (by omega), k3.out o16 (by omega), by rw [ve _ (by decide) (by decide)]; exact k4, by rw [ve _ (by decide) (by decide)]; exact k5, by rw [ve _ (by decide) (by decide)]; exact k6, fun i hi k hk => by rw [vo _ (by omega)]; exact k7 i hi k hk, fun i hi => by rw [vo _ (by omega)]; exact k8 i hi, al, hl, by omega, v8, v9, fun i hi => ?_⟩
        show lnR D16 e (dLane N al hl i) (dSw N 0 δ i)
        have es : dSw N 0 δ = fun i => if i = 0 then δ.2.2 N else if i = N then [] else δ.2.2 i := by unfold dSw; rw [if_pos ⟨rfl, hnil⟩]
        rw [es]
        refine lnR.out ?_ o16 (by omega)
        unfold dLane
        by_cases i0 : i = 0
        · subst i0
          have := k12 N (Nat.le_refl _)
          unfold dLane at this
          rw [if_pos rfl] at this
          simp only [if_true]
          rw [if_neg (by omega)]
          exact this
        · by_cases iN : i = N
          · subst iN
            simp only [if_neg i0, if_true]
            rw [← hnil]
            exact q0
          · simp only [if_neg i0, if_neg iN]
            have := k12 i hi
            unfold dLane at this
            rw [if_neg iN, if_neg i0] at this
            exact this
      refine c_take1 hR16 hN hp (fun D' o hD => ?_)
      exact h D' ((o16.mono (Nat.le_refl _) (by omega)).trans o) hD
theorem c_Deal_handOn {P : xD → Prop} {p c : Nat} (hR : dR D e N A K δ) (hN : N ≤ 6) (hp : p < N) (hc : c < 13) (h1 : 0 < δ.1 p c) (h2 : 0 < δ.2.1 p) (hlen : (δ.2.2 (p + 1)).length < 52)
    (h : ∀ D', xOut e (e + 11) D D' → dR D' e N A K (dHand p c δ) → P D') : xCv (d + 3) m_Deal_handOn [.ref e, .int (nI p), .int (nI c)] D P := by
  have hR0 := hR
  obtain ⟨k1, k2, k3, k4, k5, k6, k7, k8, -⟩ := hR
  refine xCv_of y_Deal_handOn (Nat.le_of_ble_eq_true rfl) (s_Deal_handOn_0 k1.1 ?_)
  rw [ix13]
  refine c_Row_add k2 ?_
  rw [radd_in _ _ _ (show 13 * p + c < 78 by omega) (by omega), show e + 1 + 1 = e + 2 by omega]
  have r3 : rS (xu D.1 (e + 2) (13 * p + c) (D.1 (e + 2) (13 * p + c) + (-1)), D.2) (e + 3) N := rS_of k3 (by show xu _ _ _ _ (e + 3) 1 = _; rw [xu_ne _ _ _ (by omega)])
  refine c_Row_add r3 ?_
  rw [radd_in _ _ _ hp (by omega), show e + 3 + 1 = e + 4 by omega]
  have e4 : (xu D.1 (e + 2) (13 * p + c) (D.1 (e + 2) (13 * p + c) + (-1))) (e + 4) p = D.1 (e + 4) p := by rw [xu_ne _ _ _ (by omega)]
  have E : ((xu (xu D.1 (e + 2) (13 * p + c) (D.1 (e + 2) (13 * p + c) + (-1))) (e + 4) p ((xu D.1 (e + 2) (13 * p + c) (D.1 (e + 2) (13 * p + c) + (-1))) (e + 4) p + (-1)), D.2) : xD) = (xu (xu D.1 (e + 2) (13 * p + c) (D.1 (e + 2) (13 * p + c) + (-1))) (e + 4) p (D.1 (e + 4) p + (-1)), D.2) := by rw [e4]
  show xCi (d + 2) m_Deal_laneTo _ (xu (xu D.1 (e + 2) (13 * p + c) (D.1 (e + 2) (13 * p + c) + (-1))) (e + 4) p ((xu D.1 (e + 2) (13 * p + c) (D.1 (e + 2) (13 * p + c) + (-1))) (e + 4) p + (-1)), D.2) _
  rw [E]
  have hR2 := dR_add (δ := δ) (q := δ.2.2) (s := -1) (f := fun _ => δ.1 p c - 1) (g := fun i => δ.2.1 i - 1) hp hc hN hR0 (by have := pk_m1 (δ.1 p c - 1); rw [show δ.1 p c - 1 + 1 = δ.1 p c by omega] at this; exact this) (by have := pk_m1 (δ.2.1 p - 1); rw [show δ.2.1 p - 1 + 1 = δ.2.1 p by omega] at this; exact this)
  have o2 : xOut e (e + 11) D (xu (xu D.1 (e + 2) (13 * p + c) (D.1 (e + 2) (13 * p + c) + (-1))) (e + 4) p (D.1 (e + 4) p + (-1)), D.2) := ⟨fun i hi => by show xu _ _ _ _ i = _; rw [xu_ne _ _ _ (by omega), xu_ne _ _ _ (by omega)], rfl⟩
  generalize (xu (xu D.1 (e + 2) (13 * p + c) (D.1 (e + 2) (13 * p + c) + (-1))) (e + 4) p (D.1 (e + 4) p + (-1)), D.2) = D2 at hR2 o2 ⊢
  obtain ⟨j1, j2, j3, j4, j5, j6, j7, j8, hl, al, j9, j10, j11, j12⟩ := hR2
  rw [nI_1]
  refine c_Deal_laneTo j1.1 j4 j10 j11 hN (show p + 1 ≤ N by omega) ?_
  refine c_Deal_enter j1 (j12 (p + 1) (by omega)) (dLane_lt j9 hN (by omega)) hlen hc (fun D3 o3 r3 l1 l2 => ⟨rfl, h D3 (o2.trans (o3.mono (by omega) (Nat.le_refl _))) ?_⟩)
  refine ⟨r3, j2.out o3 (by omega), j3.out o3 (by omega), by rw [o3.1 _ (by omega)]; exact j4, by rw [o3.1 _ (by omega)]; exact j5, by rw [o3.1 _ (by omega)]; exact j6, fun i hi k hk => ?_, fun i hi => ?_, hl, al, j9, by rw [o3.1 _ (by omega)]; exact j10, by rw [o3.1 _ (by omega)]; exact j11, fun i hi => ?_⟩
  · rw [o3.1 _ (by omega), j7 i hi k hk]
    unfold dHand
    by_cases q : i = p ∧ k = c
    · simp only [if_pos q]; rw [q.1, q.2]
    · simp only [if_neg q]
  · rw [o3.1 _ (by omega), j8 i hi]
    unfold dHand
    by_cases q : i = p
    · simp only [if_pos q]; rw [q]
    · simp only [if_neg q]
  · show lnR D3 e _ (if i = p + 1 then δ.2.2 i ++ [c] else δ.2.2 i)
    by_cases q : i = p + 1
    · rw [if_pos q, q]; exact l1
    · rw [if_neg q]
      exact l2 _ _ (dLane_lt j9 hN hi) (fun q2 => q (dLane_inj j9 (by omega) hi (by omega) q2)) (j12 i hi)
end TAKE
