/-! The reference: one's turn. -/
/-- what a round changes -/
def mRd (D D' : xD) : Prop := (∀ i, i ≠ 325 → (i < 346 ∨ 350 < i) → i ≠ 353 → i ≠ 354 → D'.1 i = D.1 i ∧ D'.2 i = D.2 i) ∧ ∀ j, (j < 54 ∨ 57 ≤ j) → D'.1 325 j = D.1 325 j
theorem mRd.rfl' {D : xD} : mRd D D := ⟨fun _ _ _ _ _ => ⟨rfl, rfl⟩, fun _ _ => rfl⟩
theorem mRd.trans {D D1 D2 : xD} (h1 : mRd D D1) (h2 : mRd D1 D2) : mRd D D2 :=
  ⟨fun i a b c e => ⟨((h2.1 i a b c e).1).trans (h1.1 i a b c e).1, ((h2.1 i a b c e).2).trans (h1.1 i a b c e).2⟩, fun j a => (h2.2 j a).trans (h1.2 j a)⟩
theorem mF.rd {lo hi f g : Nat} {D D1 : xD} (h : mF lo hi f g D D1) (q1 : ∀ i, (i < 346 ∨ 350 < i) → i ≠ 353 → i ≠ 354 → i < lo ∨ hi ≤ i) (q2 : ∀ j, (j < 54 ∨ 57 ≤ j) → j < f ∨ g ≤ j) : mRd D D1 :=
  ⟨fun i a b c e => h.1 i a (q1 i b c e), fun j a => h.2 j (q2 j a)⟩
theorem mRd.o {D D' : xD} (h : mRd D D') : mO D D' := fun i a b => h.1 i a (by omega) (by omega) (by omega)
theorem mSit.rd {D D' : xD} {τ : Nat → Int32} (h : mSit D τ) (o : mRd D D') : mSit D' τ :=
  ⟨by rw [o.2 31 (by omega)]; exact h.1, fun i hi w hw => by rw [(o.1 (339 + w) (by omega) (by omega) (by omega) (by omega)).1]; exact h.2 i hi w hw⟩
theorem mPk.rd {D D' : xD} {n : Nat} {c : Nat → Nat} (h : mPk D n c) (o : mRd D D') : mPk D' n c :=
  ⟨by rw [o.2 40 (by omega)]; exact h.1, fun j hj => by rw [(o.1 345 (by omega) (by omega) (by omega) (by omega)).1]; exact h.2 j hj⟩
theorem mH.rd {D D' : xD} {τ : Nat → Int32} (h : mH D τ) (o : mRd D D') : mH D' τ := by
  obtain ⟨⟨t, h0, h1, h2⟩, h3, h4, h5, h6⟩ := h
  exact ⟨⟨t, h0, by rw [o.2 26 (by omega)]; exact h1, fun j hj => by rw [(o.1 331 (by omega) (by omega) (by omega) (by omega)).1]; exact h2 j hj⟩, by rw [o.2 27 (by omega)]; exact h3, by rw [o.2 28 (by omega)]; exact h4, by rw [o.2 29 (by omega)]; exact h5, by rw [o.2 30 (by omega)]; exact h6⟩
theorem mWho.rd {D D' : xD} {n : Nat} {u : Nat → Nat} (h : mWho D n u) (o : mRd D D') : mWho D' n u := fun i hi => by rw [(o.1 338 (by omega) (by omega) (by omega) (by omega)).1]; exact h i hi
/-- a round on its way: who sits, who holds what, how many each handed on -/
def mGm (D : xD) (τ : Nat → Int32) (δ : dS) (h : Nat → Nat) : Prop :=
  mSit D τ ∧ D.1 325 27 = nI (tN τ 0) ∧ D.1 325 29 = nI (tN τ 2) ∧ mDl D (tN τ 5) δ ∧ ∀ i, i < tN τ 5 → D.1 353 i = nI (h i)
theorem mGm.fr {D D' : xD} {lo hi f g : Nat} {τ : Nat → Int32} {δ : dS} {h : Nat → Nat} (G : mGm D τ δ h) (o : mF lo hi f g D D') (q : 353 < lo ∨ hi ≤ 339) (r : 31 < f ∨ g ≤ 27) : mGm D' τ δ h :=
  ⟨G.1.fr o (by omega) (by omega), by rw [o.2 27 (by omega)]; exact G.2.1, by rw [o.2 29 (by omega)]; exact G.2.2.1, G.2.2.2.1.fr o (by omega), fun i hi => by rw [(o.1 353 (by omega) (by omega)).1]; exact G.2.2.2.2 i hi⟩
theorem turn_al {τ : Nat → Int32} {p n : Nat} {δ : dS} {h : Nat → Nat} (hT : tOK τ) (hL : tLaw τ) (hO : dOK τ n δ) (hp : p < tN τ 5) (hno : ¬ dAl (tN τ 2) (tN τ 0) δ p) : dAl (tN τ 2) (tN τ 0) (rTurn τ p δ h).1 p ↔ (rTurn τ p δ h).2.2 = true := by
  have hK := hT.2.1.2
  have ok := rTurn_ok (h := h) hT hL hO.1 hp hO.2
  have ht := dW_take hO.1 hK hp
  cases hx : (dTake (tN τ 5) p δ).1 with
  | none =>
    rw [rTurn_none hx]
    have e := dTake_none hx
    refine ⟨fun q => absurd ?_ hno, fun q => by cases q⟩
    obtain ⟨q1, k, q2, q3⟩ := q
    exact ⟨by rw [← e.2]; exact q1, k, q2, by rw [← e.1]; exact q3⟩
  | some c =>
    obtain ⟨c1, c2, c3⟩ := ht.2 c hx
    obtain ⟨k, k1, k2, k3⟩ := chS_ok (law := tP τ p 4) (kd := τ (6 + 7 * p + 5)) (f := (dTake (tN τ 5) p δ).2.1 p) hK c1 (by rw [c3]; omega) (hL p hp)
    have er := rTurn_some (h := h) hx k3 (by omega)
    rw [er] at ok
    rw [er]
    have key : ∀ j, j ≠ c → (dHand p k (dTake (tN τ 5) p δ).2).1 p j ≤ δ.1 p j := by
      intro j hj
      have e1 : (dTake (tN τ 5) p δ).2.1 p j = δ.1 p j := by
        unfold dTake dTake1 at hx ⊢
        cases hy : dSw (tN τ 5) p δ p with
        | nil => simp only [hy] at hx; cases hx
        | cons a l =>
          simp only [hy] at hx ⊢
          cases hx
          show (if p = p ∧ j = c then δ.1 p j + 1 else δ.1 p j) = _
          rw [if_neg (fun z => hj z.2)]
      show (if p = p ∧ j = k then (dTake (tN τ 5) p δ).2.1 p j - 1 else (dTake (tN τ 5) p δ).2.1 p j) ≤ _
      split <;> omega
    constructor
    · rintro ⟨q1, j, q2, q3⟩
      show ((dHand p k (dTake (tN τ 5) p δ).2).1 p c == tN τ 2) = true
      by_cases e : j = c
      · rw [← e, q3]; exact beq_self_eq_true _
      · have a1 := key j e
        have a2 := sm_le (δ.1 p) (show j < 13 by omega)
        have a3 := hO.1.2.1 p hp
        have a4 := hO.2 p hp
        have q3' : (dHand p k (dTake (tN τ 5) p δ).2).1 p j = tN τ 2 := q3
        exact absurd ⟨a4, j, q2, by omega⟩ hno
    · intro q
      exact ⟨ok.2.1 p hp, c, c1, eq_of_beq q⟩
theorem turn_al2 {τ : Nat → Int32} {p q n : Nat} {δ : dS} {h : Nat → Nat} (hT : tOK τ) (hL : tLaw τ) (hO : dOK τ n δ) (hp : p < tN τ 5) (hq : q < tN τ 5) (ne : q ≠ p) : dAl (tN τ 2) (tN τ 0) (rTurn τ p δ h).1 q ↔ dAl (tN τ 2) (tN τ 0) δ q := by
  have ok := rTurn_ok (h := h) hT hL hO.1 hp hO.2
  have e1 := ok.2.1 q hq
  have e2 := hO.2 q hq
  have e3 := ok.2.2 q ne
  unfold dAl
  rw [e1, e2, e3]
theorem rTen_al {τ : Nat → Int32} {t n : Nat} {δ : dS} {h : Nat → Nat} (hT : tOK τ) (hL : tLaw τ) (hO : dOK τ n δ) (hno : ∀ q, q < tN τ 5 → ¬ dAl (tN τ 2) (tN τ 0) δ q) : ∀ k, k ≤ tN τ 5 → (rTen τ t k δ h).2.2 = none → ∀ q, q < tN τ 5 → ¬ dAl (tN τ 2) (tN τ 0) (rTen τ t k δ h).1 q := by
  intro k
  induction k with
  | zero => intro _ _; exact hno
  | succ k ih =>
    intro hk hn q hq
    by_cases c : (rTen τ t k δ h).2.2 = none ∧ t % tP τ k 0 = 0
    · have e : rTen τ t (k + 1) δ h = ((rTurn τ k (rTen τ t k δ h).1 (rTen τ t k δ h).2.1).1, (rTurn τ k (rTen τ t k δ h).1 (rTen τ t k δ h).2.1).2.1, if (rTurn τ k (rTen τ t k δ h).1 (rTen τ t k δ h).2.1).2.2 = true then some k else none) := by rw [rTen, if_pos c]
      rw [e] at hn ⊢
      have ok := rTen_ok (t := t) (h := h) hT hL hO k (by omega)
      have i0 := ih (by omega) c.1
      by_cases z : q = k
      · subst z
        intro y
        have := (turn_al hT hL ok hq (i0 q hq)).mp y
        simp only [if_pos this] at hn
        cases hn
      · intro y
        exact i0 q hq ((turn_al2 hT hL ok (by omega) hq z).mp y)
    · have e : rTen τ t (k + 1) δ h = rTen τ t k δ h := by rw [rTen, if_neg c]
      rw [e] at hn ⊢
      exact ih (by omega) hn q hq
theorem rRun_al {τ : Nat → Int32} {n : Nat} {δ0 : dS} {f0 : Option Nat} (hT : tOK τ) (hL : tLaw τ) (hO : dOK τ n δ0) (h0 : f0 = none → ∀ q, q < tN τ 5 → ¬ dAl (tN τ 2) (tN τ 0) δ0 q) : ∀ t, (rRun τ δ0 f0 t).2.2.1 = none → ∀ q, q < tN τ 5 → ¬ dAl (tN τ 2) (tN τ 0) (rRun τ δ0 f0 t).1 q := by
  intro t
  induction t with
  | zero => intro hn; exact h0 hn
  | succ t ih =>
    intro hn
    have hp := rRun_none hn (show t ≤ t + 1 by omega)
    have e : rRun τ δ0 f0 (t + 1) = ((rTen τ (t + 1) (tN τ 5) (rRun τ δ0 f0 t).1 (rRun τ δ0 f0 t).2.1).1, (rTen τ (t + 1) (tN τ 5) (rRun τ δ0 f0 t).1 (rRun τ δ0 f0 t).2.1).2.1, (rTen τ (t + 1) (tN τ 5) (rRun τ δ0 f0 t).1 (rRun τ δ0 f0 t).2.1).2.2, t + 1) := by rw [rRun, if_pos hp]
    rw [e] at hn ⊢
    exact rTen_al hT hL (rRun_ok hT hL hO t) (ih hp) _ (Nat.le_refl _) hn
section MTURN
variable {d : Nat} {D : xD} {n : Nat} {τ : Nat → Int32} {δ : dS} {h : Nat → Nat}
theorem c_M_moves {P : xD → Prop} {p : Nat} {t : Int32} (hT : tOK τ) (hL : tLaw τ) (G : mGm D τ δ h) (hO : dOK τ n δ) (hp : p < tN τ 5) (hno : ¬ dAl (tN τ 2) (tN τ 0) δ p)
    (k : ∀ D', mRd D D' → mGm D' τ (rTurn τ p δ h).1 (rTurn τ p δ h).2.1 → ((rTurn τ p δ h).2.2 = true → D'.1 325 54 = nI p ∧ D'.1 325 55 = t) → ((rTurn τ p δ h).2.2 = false → D'.1 325 54 = D.1 325 54) → P D') : xCv (d + 3) m_M_moves [.ref 325, .int (nI p), .int t] D P := by
  have l28 : xl (325 + 28) = 6 := cl_13_57 xk_M
  have hK := hT.2.1.2
  have hN := hT.2.2.2.2.2.2.1
  have hA := hT.2.2.2.1.2
  obtain ⟨q1, -, -, -, -, q4, -⟩ := hT.2.2.2.2.2.2.2 p hp
  have ht := dW_take hO.1 hK hp
  have al := turn_al (h := h) hT hL hO hp hno
  have ok := rTurn_ok (h := h) hT hL hO.1 hp hO.2
  obtain ⟨S, g27, g29, gD, gh⟩ := G
  refine xCv_of y_M_moves (Nat.le_of_ble_eq_true rfl) (s_M_moves_0 xk_M ?_)
  refine c_M_comes gD hN hp (fun D1 o1 hD1 => ?_)
  have S1 := S.fr o1 (by omega) (by omega)
  have e27 : D1.1 325 27 = nI (tN τ 0) := by rw [o1.2 27 (by omega)]; exact g27
  have e29 : D1.1 325 29 = nI (tN τ 2) := by rw [o1.2 29 (by omega)]; exact g29
  cases hx : (dTake (tN τ 5) p δ).1 with
  | none =>
    rw [rTurn_none hx] at k
    refine ⟨fun z => absurd rfl z, fun _ => ⟨rfl, k D1 (o1.rd (by omega) (by omega)) ⟨S1, e27, e29, hD1, fun i hi => by rw [(o1.1 353 (by omega) (by omega)).1]; exact gh i hi⟩ (fun q => by cases q) (fun _ => o1.2 54 (by omega))⟩⟩
  | some c =>
    obtain ⟨c1, c2, c3⟩ := ht.2 c hx
    obtain ⟨x, k1, k2, k3⟩ := chS_ok (law := tP τ p 4) (kd := τ (6 + 7 * p + 5)) (f := (dTake (tN τ 5) p δ).2.1 p) hK c1 (by rw [c3]; omega) (hL p hp)
    have er := rTurn_some (h := h) hx k3 (by omega)
    rw [er] at k al ok
    obtain ⟨w1, w2, w3, w4⟩ := dW_hand ht.1 hK hp k2
    refine ⟨fun _ => ?_, fun z => absurd z (fun q => nI_pos (n := c) (by omega) (by rw [show nI c = -1 from q]; decide))⟩
    refine c_M_handsOn hD1 ht.1 e27 hN hK hp (by rw [S1.2 p hp 4 (by omega)]; exact q1 4 (by omega) (by omega)) (S1.2 p hp 5 (by omega)) q4 c1 (by rw [c3]; omega) ?_
    rw [k3]
    refine c_M_goesOn hD1 S1.1 hN hp (by omega) k2 w2 w3 (fun D2 o2 hD2 => ?_)
    have i28 : vp_in (nI p) (xl (325 + 28)) := by rw [l28]; exact vp_in_nI (by omega) (by omega)
    have o12 : mF 346 351 0 0 D D2 := o1.trans o2
    have h2 : D2.1 353 p = nI (h p) := by rw [(o12.1 353 (by omega) (by omega)).1]; exact gh p hp
    rw [nI_clamp (n := p) (by omega), show D2.1 (325 + 28) p = nI (h p) from h2, nI_1]
    refine ⟨i28, i28, fun D3 e3 => ?_⟩
    obtain ⟨o3, v3⟩ := ma (by omega) e3
    have v3' : ∀ j, D3.1 353 j = if j = p then nI (h p + 1) else D2.1 353 j := v3
    have hD3 := hD2.fr o3 (by omega)
    have rd3 : mRd D D3 := (o12.rd (by omega) (by omega)).trans (o3.rd (by omega) (by omega))
    have f27 : D3.1 325 27 = nI (tN τ 0) := by rw [rd3.2 27 (by omega)]; exact g27
    have f29 : D3.1 325 29 = nI (tN τ 2) := by rw [rd3.2 29 (by omega)]; exact g29
    have G3 : mGm D3 τ (dHand p x (dTake (tN τ 5) p δ).2) (fun i => if i = p then h i + 1 else h i) := by
      refine ⟨S.rd rd3, f27, f29, hD3, fun i hi => ?_⟩
      show D3.1 353 i = nI (if i = p then h i + 1 else h i)
      rw [v3']
      by_cases q : i = p
      · rw [if_pos q, if_pos q, q]
      · rw [if_neg q, if_neg q, (o12.1 353 (by omega) (by omega)).1]; exact gh i hi
    refine c_M_areAlike hD3 w1 f27 f29 hN hK hA hp (fun q => z1 (fun D4 e4 D5 e5 => ⟨rfl, ?_⟩)) (fun q => z0 ⟨rfl, ?_⟩)
    · obtain ⟨o4, f4⟩ := mf e4
      obtain ⟨o5, f5⟩ := mf e5
      refine k D5 (rd3.trans ((o4.rd (by omega) (by omega)).trans (o5.rd (by omega) (by omega)))) ((G3.fr o4 (by omega) (by omega)).fr o5 (by omega) (by omega)) (fun _ => ⟨by rw [o5.2 54 (by omega)]; exact f4, f5⟩) (fun z => ?_)
      rw [al.mp q] at z; cases z
    · refine k D3 rd3 G3 (fun z => absurd (al.mpr z) q) (fun _ => ?_)
      rw [o3.2 54 (by omega), o12.2 54 (by omega)]
end MTURN
