/-! What another PACE, other EYES, another LAW, another seat would do. -/
/-- tables by which ROUNDS go alike -/
def tSame (τ σ : Nat → Int32) : Prop := tN τ 0 = tN σ 0 ∧ tN τ 1 = tN σ 1 ∧ tN τ 2 = tN σ 2 ∧ tN τ 5 = tN σ 5 ∧ ∀ p, p < tN τ 5 → tP τ p 0 = tP σ p 0 ∧ tP τ p 4 = tP σ p 4 ∧ (tP τ p 4 = 1 ∨ tP τ p 4 = 2 → τ (6 + 7 * p + 5) = σ (6 + 7 * p + 5))
theorem chS_kd {law took K : Nat} {k1 k2 : Int32} {f : Nat → Nat} (h : law = 1 ∨ law = 2 → k1 = k2) : chS law k1 f K took = chS law k2 f K took := by
  unfold chS
  by_cases q1 : law = 1
  · rw [h (Or.inl q1)]
  · by_cases q2 : law = 2
    · rw [h (Or.inr q2)]
    · rw [if_neg q1, if_neg q1, if_neg q2, if_neg q2]
theorem rTurn_congr {τ σ : Nat → Int32} (h : tSame τ σ) {p : Nat} (hp : p < tN τ 5) (δ : dS) (g : Nat → Nat) : rTurn τ p δ g = rTurn σ p δ g := by
  obtain ⟨h0, h1, h2, h5, hh⟩ := h
  obtain ⟨a0, a4, a5⟩ := hh p hp
  unfold rTurn
  rw [← h5, ← h0, ← h2, ← a4]
  cases (dTake (tN τ 5) p δ).1 with
  | none => rfl
  | some c =>
    simp only []
    rw [chS_kd a5]
theorem rTen_congr {τ σ : Nat → Int32} (h : tSame τ σ) (t : Nat) (δ : dS) (g : Nat → Nat) : ∀ n, n ≤ tN τ 5 → rTen τ t n δ g = rTen σ t n δ g := by
  intro n
  induction n with
  | zero => intro _; rfl
  | succ n ih =>
    intro hn
    rw [rTen, rTen, ih (by omega), rTurn_congr h (by omega), (h.2.2.2.2 n (by omega)).1]
theorem rRun_congr {τ σ : Nat → Int32} (h : tSame τ σ) (δ0 : dS) (f0 : Option Nat) : ∀ t, rRun τ δ0 f0 t = rRun σ δ0 f0 t := by
  intro t
  induction t with
  | zero => rfl
  | succ t ih =>
    rw [rRun, rRun, ih, ← h.2.2.2.1, rTen_congr h _ _ _ _ (Nat.le_refl _)]
theorem rGo_congr {τ σ : Nat → Int32} (h : tSame τ σ) (n : Nat) (c : Nat → Nat) (U : Nat) : rGo τ n c U = rGo σ n c U := by
  unfold rGo
  rw [rRun_congr h, h.1, h.2.2.1, h.2.2.2.1]
theorem shC_congr {τ σ : Nat → Int32} (h0 : tN τ 0 = tN σ 0) (h1 : tN τ 1 = tN σ 1) : shC τ = shC σ := by
  funext x
  unfold shC
  rw [h0, h1]
theorem eX_congr {τ σ : Nat → Int32} (h0 : tN τ 0 = tN σ 0) (h1 : tN τ 1 = tN σ 1) (seed : Int32) (i : Nat) : eX τ seed i = eX σ seed i := by
  unfold eX
  rw [shC_congr h0 h1]
theorem eRho_congr {τ σ : Nat → Int32} (h : tSame τ σ) (seed : Int32) (i : Nat) : eRho τ seed i = eRho σ seed i := by
  rw [eRho_is, eRho_is, rGo_congr h, shC_congr h.1 h.2.1, eX_congr h.1 h.2.1, h.1, h.2.1]
/-- who is LAST of a ROUND -/
noncomputable def eLastOf (τ : Nat → Int32) (seed : Int32) (i : Nat) : Option Nat := match (eRho τ seed i).2.2.1 with
  | none => none
  | some f => some (tLast τ f (eRho τ seed i).2.2.2 (tN τ 5))
noncomputable def eLst (τ : Nat → Int32) (seed : Int32) (p k : Nat) : Nat := eCnt (eLastOf τ seed) (some p) k
noncomputable def eFst (τ : Nat → Int32) (seed : Int32) (o : Option Nat) (k : Nat) : Nat := eCnt (fun i => (eRho τ seed i).2.2.1) o k
theorem eRho_lt {τ : Nat → Int32} {seed : Int32} {i f : Nat} (h : (eRho τ seed i).2.2.1 = some f) : f < tN τ 5 := by
  rw [eRho_is] at h
  exact rGo_lt h
theorem eRho_le (τ : Nat → Int32) (seed : Int32) (i : Nat) : (eRho τ seed i).2.2.2 ≤ 2000 := by
  have := rGo_le τ (tN τ 0 * tN τ 1) (shC τ (eX τ seed i)).1 tTop
  rw [eRho_is, ← tTop_is]
  exact this
section OTHER
variable {d : Nat} {D : xD} {v t : Nat} {τ : Nat → Int32}
theorem eR.congr {k : Nat} {seed : Int32} {σ : Nat → Int32} (h : eR D v τ seed k) (hs : tSame τ σ) : eR D v σ seed k :=
  ⟨h.1, h.2.1, h.2.2.1, fun i hi => by rw [← eRho_congr hs]; exact h.2.2.2.1 i hi, fun i hi => by rw [← eRho_congr hs]; exact h.2.2.2.2 i hi⟩
theorem c_Evenings_timesFirst {P : Int32 → xD → Prop} {k : Nat} {seed : Int32} {o : Option Nat} (k0 : xk v = 10) (hE : eR D v τ seed k) (h6 : tN τ 5 ≤ 6) (ho : ∀ p, o = some p → p < 2 ^ 31) (h : P (nI (eFst τ seed o k)) D) : xCi (d + 3) m_Evenings_timesFirst [.ref v, .int (oI o)] D P := by
  refine xCi_of y_Evenings_timesFirst (Nat.le_of_ble_eq_true rfl) (s_Evenings_timesFirst_0 k0 ?_)
  refine c_Row_countOf hE.2.1 ⟨_, rfl, ?_⟩
  rw [rcnt_o (g := fun i => (eRho τ seed i).2.2.1) ho (fun i hi => ⟨hE.2.2.2.1 i hi, fun p hp => by have := eRho_lt hp; omega⟩)]
  exact h
theorem c_Evenings_timesLast {P : Int32 → xD → Prop} {k p : Nat} {seed : Int32} (k0 : xk v = 10) (hR : tR D t τ) (hT : tOK τ) (h0 : 0 < tN τ 5) (hE : eR D v τ seed k) (hk : k ≤ 20) (hp : p < 2 ^ 31) (h : P (nI (eLst τ seed p k)) D) : xCi (d + 6) m_Evenings_timesLast [.ref v, .ref t, .int (nI p)] D P := by
  have b5 := hT.2.2.2.2.2.2.1
  refine xCi_of y_Evenings_timesLast (Nat.le_of_ble_eq_true rfl) (s_Evenings_timesLast_0 k0 hR.1 ?_)
  have key : ∀ m i, i + m = k → xPf (d + 6) m_Evenings_timesLast 5 [(0, .ref v), (1, .ref t), (2, .int (nI p)), (3, .int (nI (eLst τ seed p i))), (4, .int (nI i))] [] D (fun r D' => ∃ x, r = some (.int x) ∧ P x D') := by
    intro m
    induction m with
    | zero =>
      intro i hi
      have ei : i = k := by omega
      exact s_Evenings_timesLast_5 k0 hR.1 (c_Row_size hE.2.1 ⟨fun _ => ⟨_, rfl, by rw [ei]; exact h⟩, fun q => absurd (nI_le (by omega) (by omega)) q⟩)
    | succ m ih =>
      intro i hi
      have nx := ih (i + 1) (by omega)
      refine s_Evenings_timesLast_5 k0 hR.1 (c_Row_size hE.2.1 ⟨fun q => absurd q (nI_ge (by omega) (by omega)), fun _ => ?_⟩)
      refine c_get hE.2.1 (by omega) ?_
      rw [show v + 35 + 1 = v + 36 by omega, hE.2.2.2.1 i (by omega), nI_1 i]
      have es : eLst τ seed p (i + 1) = eLst τ seed p i + (if eLastOf τ seed i = some p then 1 else 0) := by unfold eLst; rw [eCnt]
      cases hf : (eRho τ seed i).2.2.1 with
      | none =>
        refine ⟨fun _ => ?_, fun q => absurd rfl q⟩
        have e1 : eLastOf τ seed i = none := by unfold eLastOf; rw [hf]
        rw [e1, if_neg (fun q => by cases q), Nat.add_zero] at es
        rw [es] at nx
        exact nx
      | some f =>
        have hfN := eRho_lt hf
        have hle := eRho_le τ seed i
        refine ⟨fun q => absurd q (fun q => nI_pos (n := f) (by omega) (by rw [show nI f = -1 from q]; decide)), fun _ => ?_⟩
        refine c_get hE.2.1 (by omega) (c_get hE.2.2.1 (by omega) ?_)
        rw [show v + 35 + 1 = v + 36 by omega, hE.2.2.2.1 i (by omega), show v + 37 + 1 = v + 38 by omega, hE.2.2.2.2 i (by omega), hf]
        have e1 : eLastOf τ seed i = some (tLast τ f (eRho τ seed i).2.2.2 (tN τ 5)) := by unfold eLastOf; rw [hf]
        have hlt := tLast_lt τ f (eRho τ seed i).2.2.2 (tN τ 5) h0
        refine c_Table_lastOf hR hT (by omega) (by omega) h0 ⟨fun q => ?_, fun q => ?_⟩
        · rw [e1, if_neg (fun z => q (by rw [Option.some.inj z])), Nat.add_zero] at es
          rw [es] at nx
          exact nx
        · rw [e1, if_pos (by rw [(nI_eq (by omega) hp).mp q])] at es
          rw [es] at nx
          rw [nI_1 (eLst τ seed p i)]
          exact nx
  exact key k 0 (by omega)
end OTHER
