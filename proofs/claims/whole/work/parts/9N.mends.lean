/-! The reference: a table and a heap that fits are laid; how a round ends. -/
theorem mSit.set {D D' : xD} {τ : Nat → Int32} {p : Nat} {v : Int32} (S : mSit D τ) (hp : p < 6) (o : mF 343 344 0 0 D D') (e : ∀ j, D'.1 343 j = if j = p then v else D.1 343 j) : mSit D' (tSet τ (6 + 7 * p + 4) v) := by
  refine ⟨by rw [tN_set _ _ (by omega), o.2 31 (by omega)]; exact S.1, fun i hi w hw => ?_⟩
  rw [tN_set _ _ (by omega)] at hi
  rw [tSet_p _ _ (by omega) (by omega)]
  by_cases z : w = 4
  · subst z
    show D'.1 343 i = _
    rw [e]
    by_cases y : i = p
    · rw [if_pos y, if_pos ⟨y, rfl⟩]
    · rw [if_neg y, if_neg (fun x => y x.1)]; exact S.2 i hi 4 (by omega)
  · rw [if_neg (fun x => z x.2), (o.1 (339 + w) (by omega) (by omega)).1]; exact S.2 i hi w hw
section MENDS
variable {d : Nat} {D : xD} {g : gS} {n : Nat} {τ : Nat → Int32}
theorem m_lay {P : Int32 → xD → Prop} {x y : Int32} (hI : mI D g) (h0 : (∀ (α : Type) (z : α) (f : (Nat → Int32) → (Nat → Int32) → α), fOf z g.1 x y f = z) → ∀ D', mO D D' → (∀ j, j < 26 ∨ 41 ≤ j → D'.1 325 j = D.1 325 j) → P 0 D')
    (h1 : ∀ τ η, (∀ (α : Type) (z : α) (f : (Nat → Int32) → (Nat → Int32) → α), fOf z g.1 x y f = f τ η) → tOK τ → tLaw τ → tFit τ → hpOK η → fitsH τ η → ∀ D', mO D D' → (∀ j, j < 26 ∨ 41 ≤ j → D'.1 325 j = D.1 325 j) → mI D' g → mH D' τ → mSit D' τ → mWho D' (tN τ 5) (fun p => p) → mPk D' (tN η 0) (hpC η) → P 1 D') :
    xCi (d + 4) m_M_is [.ref 325, .int (1 : Int32), .int y] D (fun r2 D1 => (r2 = 0 → ∃ v, some (Value.int (0 : Int32)) = some (.int v) ∧ P v D1) ∧ (¬ r2 = 0 → xCi (d + 4) m_M_hand1 [.ref 325, .int x] D1 (fun r4 D3 => (r4 = 0 → ∃ v, some (Value.int (0 : Int32)) = some (.int v) ∧ P v D3) ∧ (¬ r4 = 0 → xCi (d + 4) m_M_layHeap [.ref 325, .int y] D3 (fun r6 D5 => (r6 = 0 → ∃ v, some (Value.int (0 : Int32)) = some (.int v) ∧ P v D5) ∧ (¬ r6 = 0 → ∃ v, some (Value.int (1 : Int32)) = some (.int v) ∧ P v D5)))))) := by
  refine c_M_is (s := 1) hI (by omega) (fun q => z0 ⟨_, rfl, h0 (fun α z f => fOf_n (Or.inr q)) D mO.rfl' (fun _ _ => rfl)⟩) (fun i hi hi2 hy q => z1 ?_)
  have hO := ((hI.2.1.2.2 1 (by omega)).2 i hi).2.1 rfl
  have tx := fun j (hj : j < 53) => m_tx (s := 1) hI (by omega) hi (i := j) hj
  generalize hη : g.1.2.2.2 1 i = η at q hO tx
  refine c_M_hand hI (fun q1 => z0 ⟨_, rfl, h0 (fun α z f => fOf_n (Or.inl q1)) D mO.rfl' (fun _ _ => rfl)⟩) (fun τ q1 hT hL hF D2 o2 I2 H2 S2 W2 => z1 ?_)
  have tx2 : ∀ j, j < 53 → D2.1 332 (53 * i + j) = η j := fun j hj => by rw [(o2.1 332 (by omega) (by omega)).1]; exact tx j hj
  rw [hy]
  refine c_M_layHeap hT hO H2 hi2 tx2 (fun q2 D3 o3 pk => z1 ⟨_, rfl, ?_⟩) (fun q2 D3 o3 => z0 ⟨_, rfl, ?_⟩)
  · have o23 : mO D D3 := (o2.o (by omega)).trans (o3.o (by omega))
    exact h1 τ η (fun α z f => fOf_t q1 q q2) hT hL hF hO q2 D3 o23 (fun j hj => by rw [o3.2 j (by omega), o2.2 j (by omega)]) (hI.o o23) (H2.fr o3 (by omega) (by omega)) (S2.fr o3 (by omega) (by omega)) (W2.fr o3 (by omega)) pk
  · have o23 : mO D D3 := (o2.o (by omega)).trans (o3.o (by omega))
    exact h0 (fun α z f => fOf_f q1 q q2) D3 o23 (fun j hj => by rw [o3.2 j (by omega), o2.2 j (by omega)])
theorem c_M_layRound {P : Int32 → xD → Prop} {x y : Int32} (hI : mI D g) (h0 : (∀ (α : Type) (z : α) (f : (Nat → Int32) → (Nat → Int32) → α), fOf z g.1 x y f = z) → ∀ D', mO D D' → P 0 D')
    (h1 : ∀ τ η, (∀ (α : Type) (z : α) (f : (Nat → Int32) → (Nat → Int32) → α), fOf z g.1 x y f = f τ η) → tOK τ → tLaw τ → tFit τ → hpOK η → fitsH τ η → ∀ D', mO D D' → mI D' g → mH D' τ → mSit D' τ → mWho D' (tN τ 5) (fun p => p) → mPk D' (tN η 0) (hpC η) → P 1 D') : xCi (d + 5) m_M_layRound [.ref 325, .int x, .int y] D P :=
  xCi_of y_M_layRound (Nat.le_of_ble_eq_true rfl) (s_M_layRound_0 xk_M (m_lay hI (fun q D' o _ => h0 q D' o) (fun τ η q hT hL hF hO q2 D' o _ I H S W pk => h1 τ η q hT hL hF hO q2 D' o I H S W pk)))
theorem c_M_ends {P : Int32 → xD → Prop} {c : Nat → Nat} (hT : tOK τ) (hL : tLaw τ) (S : mSit D τ) (e27 : D.1 325 27 = nI (tN τ 0)) (e29 : D.1 325 29 = nI (tN τ 2)) (h0 : 0 < tN τ 5) (pk : mPk D n c) (hn : n ≤ 52) (hc : ∀ j, j < n → c j < tN τ 0) (hA : tN τ 2 * tN τ 5 < n)
    (hno : (rGo τ n c tTop).2.2.1 = none → ∀ D', mRd D D' → mGm D' τ (rGo τ n c tTop).1 (rGo τ n c tTop).2.1 → D'.1 325 54 = -1 → D'.1 325 56 = -1 → P 0 D')
    (hyes : ∀ f, (rGo τ n c tTop).2.2.1 = some f → ∀ D', mRd D D' → mGm D' τ (rGo τ n c tTop).1 (rGo τ n c tTop).2.1 → D'.1 325 54 = nI f → D'.1 325 55 = nI (rGo τ n c tTop).2.2.2 → D'.1 325 56 = nI (tLast τ f (rGo τ n c tTop).2.2.2 (tN τ 5)) → (∀ p, p < tN τ 5 → D'.1 354 p = nI (tSpoon τ p f (rGo τ n c tTop).2.2.2)) → P 1 D') : xCi (d + 5) m_M_ends [.ref 325] D P := by
  have l29 : xl (325 + 29) = 6 := cl_13_58 xk_M
  have hN := hT.2.2.2.2.2.2.1
  have hle := rGo_le τ n c tTop
  have h2000 := tTop_is
  refine xCi_of y_M_ends (Nat.le_of_ble_eq_true rfl) (s_M_ends_0 xk_M ?_)
  rw [tTop_i]
  refine c_M_go hT hL S e27 e29 h0 pk hn hc hA (by omega) (fun D1 o1 G1 g54 g55 => ?_)
  have ltf : ∀ p, (rGo τ n c tTop).2.2.1 = some p → p < tN τ 5 := fun p hp => rGo_lt hp
  generalize rGo τ n c tTop = R at *
  have E1 := mE_of hT G1.1
  cases hf : R.2.2.1 with
  | none =>
    rw [hf] at g54
    refine ⟨fun z => absurd g54 z, fun _ D2 e2 => ?_⟩
    obtain ⟨o2, f2⟩ := mf e2
    have a54 : D2.1 325 54 = -1 := by rw [o2.2 54 (by omega)]; exact g54
    have fin := hno hf D2 (o1.trans (o2.rd (by omega) (by omega))) (G1.fr o2 (by omega) (by omega)) a54 f2
    exact s_M_ends_37 xk_M ⟨fun _ => ⟨fun _ => ⟨_, rfl, fin⟩, fun z => absurd a54 z⟩, fun _ => ⟨fun _ => ⟨fun _ => ⟨_, rfl, fin⟩, fun z => absurd a54 z⟩, fun z => absurd a54 z⟩⟩
  | some f =>
    have hfN := ltf f hf
    rw [hf] at g54
    have g55 := g55 (by rw [hf]; exact fun z => by cases z)
    have ne54 : ¬ nI f = (-1 : Int32) := fun q => nI_pos (n := f) (by omega) (by rw [q]; decide)
    rw [g55, show D1.1 325 54 = nI f from g54]
    refine ⟨fun _ => c_M_lastBy E1 h0 (by omega) (by omega) (fun D2 e2 => ?_), fun z => absurd z ne54⟩
    obtain ⟨o2, f2⟩ := mf e2
    have key : ∀ m p, p + m = tN τ 5 → ∀ D', mF 354 355 0 0 D2 D' → (∀ q, q < p → D'.1 354 q = nI (tSpoon τ q f R.2.2.2)) → xPf (d + 5) m_M_ends 37 [(0, .ref 325), (1, .int (nI p))] [] D' (fun r D' => ∃ v, r = some (.int v) ∧ P v D') := by
      intro m
      induction m with
      | zero =>
        intro p hp D' o hv
        have G' := (G1.fr o2 (by omega) (by omega)).1.fr o (by omega) (by omega)
        refine s_M_ends_37 xk_M ?_
        rw [G'.1, o.2 54 (by omega), o2.2 54 (by omega), show D1.1 325 54 = nI f from g54]
        refine ⟨fun _ => ⟨fun z => absurd z ne54, fun _ => ⟨_, rfl, ?_⟩⟩, fun z => absurd (nI_le (by omega) (by omega)) z⟩
        have rd : mRd D D' := o1.trans ((o2.rd (by omega) (by omega)).trans (o.rd (by omega) (by omega)))
        have G2 := G1.fr o2 (by omega) (by omega)
        have G3 : mGm D' τ R.1 R.2.1 := ⟨G', by rw [o.2 27 (by omega)]; exact G2.2.1, by rw [o.2 29 (by omega)]; exact G2.2.2.1, G2.2.2.2.1.fr o (by omega), fun i hi => by rw [(o.1 353 (by omega) (by omega)).1]; exact G2.2.2.2.2 i hi⟩
        exact hyes f hf D' rd G3 (by rw [o.2 54 (by omega), o2.2 54 (by omega)]; exact g54) (by rw [o.2 55 (by omega), o2.2 55 (by omega)]; exact g55) (by rw [o.2 56 (by omega)]; exact f2) (fun q hq => hv q (by omega))
      | succ m ih =>
        intro p hp D' o hv
        have G' := (G1.fr o2 (by omega) (by omega)).1.fr o (by omega) (by omega)
        have E' := (E1.fr o2 (by omega) (by omega)).fr o (by omega) (by omega)
        refine s_M_ends_37 xk_M ?_
        rw [G'.1, o.2 54 (by omega), o2.2 54 (by omega), show D1.1 325 54 = nI f from g54, o.2 55 (by omega), o2.2 55 (by omega), g55, nI_clamp (n := p) (by omega), nI_1]
        refine ⟨fun z => absurd z (nI_ge (by omega) (by omega)), fun _ => ⟨fun z => absurd z ne54, fun _ => c_M_spoonBy E' (by omega) (by omega) (by omega) ⟨by rw [l29]; exact vp_in_nI (by omega) (by omega), fun D3 e3 => ?_⟩⟩⟩
        obtain ⟨o3, v3⟩ := ma (by omega) e3
        have v3' : ∀ j, D3.1 354 j = if j = p then nI (tSpoon τ p f R.2.2.2) else D'.1 354 j := v3
        refine ih (p + 1) (by omega) D3 (o.trans (o3.m (by omega) (by omega))) (fun q hq => ?_)
        rw [v3']
        by_cases z : q = p
        · rw [if_pos z, z]
        · rw [if_neg z]; exact hv q (by omega)
    exact key (tN τ 5) 0 (by omega) D2 mF.rfl' (fun q hq => absurd hq (Nat.not_lt_zero _))
theorem c_M_allHanded {P : Int32 → xD → Prop} {δ : dS} {hd : Nat → Nat} (G : mGm D τ δ hd) (hN : tN τ 5 ≤ 6) (h : P (nI (sm hd (tN τ 5))) D) : xCi (d + 1) m_M_allHanded [.ref 325] D P := by
  have l28 : xl (325 + 28) = 6 := cl_13_57 xk_M
  refine xCi_of y_M_allHanded (Nat.le_of_ble_eq_true rfl) (s_M_allHanded_0 xk_M ?_)
  have key : ∀ m p, p + m = tN τ 5 → xPf (d + 1) m_M_allHanded 4 [(0, .ref 325), (1, .int (nI (sm hd p))), (2, .int (nI p))] [] D (fun r D' => ∃ v, r = some (.int v) ∧ P v D') := by
    intro m
    induction m with
    | zero =>
      intro p hp
      refine s_M_allHanded_4 xk_M ?_
      rw [G.1.1]
      refine ⟨fun _ => ⟨_, rfl, ?_⟩, fun z => absurd (nI_le (by omega) (by omega)) z⟩
      rw [show p = tN τ 5 by omega]; exact h
    | succ m ih =>
      intro p hp
      have nx := ih (p + 1) (by omega)
      rw [sm] at nx
      refine s_M_allHanded_4 xk_M ?_
      rw [G.1.1, nI_clamp (n := p) (by omega), show D.1 (325 + 28) p = nI (hd p) from G.2.2.2.2 p (by omega), nI_add, nI_1]
      exact ⟨fun z => absurd z (nI_ge (by omega) (by omega)), fun _ => ⟨by rw [l28]; exact vp_in_nI (by omega) (by omega), nx⟩⟩
  exact key (tN τ 5) 0 (by omega)
theorem c_M_mends {P : Int32 → xD → Prop} {c : Nat → Nat} (hT : tOK τ) (hL : tLaw τ) (S : mSit D τ) (e27 : D.1 325 27 = nI (tN τ 0)) (e29 : D.1 325 29 = nI (tN τ 2)) (e30 : D.1 325 30 = nI (tN τ 5)) (h0 : 0 < tN τ 5) (pk : mPk D n c) (hn : n ≤ 52) (hc : ∀ j, j < n → c j < tN τ 0) (hA : tN τ 2 * tN τ 5 < n)
    (h : ∀ D', mO D D' → P (oI (rMend τ n c (tN τ 5))) D') : xCi (d + 6) m_M_mends [.ref 325] D P := by
  have l18 : xl (325 + 18) = 6 := cl_13_37 xk_M
  have hN := hT.2.2.2.2.2.2.1
  refine xCi_of y_M_mends (Nat.le_of_ble_eq_true rfl) (s_M_mends_0 xk_M ?_)
  have key : ∀ m p, p + m = tN τ 5 → rMend τ n c p = none → ∀ D', mO D D' → mSit D' τ → D'.1 325 27 = nI (tN τ 0) → D'.1 325 29 = nI (tN τ 2) → D'.1 325 30 = nI (tN τ 5) → mPk D' n c → xPf (d + 6) m_M_mends 2 [(0, .ref 325), (1, .int (nI p))] [] D' (fun r D' => ∃ v, r = some (.int v) ∧ P v D') := by
    intro m
    induction m with
    | zero =>
      intro p hp hm D' o S' e27' e29' e30' pk'
      refine s_M_mends_2 xk_M ?_
      rw [e30']
      refine ⟨fun _ => ⟨_, rfl, ?_⟩, fun z => absurd (nI_le (by omega) (by omega)) z⟩
      have := h D' o
      rw [show tN τ 5 = p by omega, hm] at this
      exact this
    | succ m ih =>
      intro p hp hm D' o S' e27' e29' e30' pk'
      have hpN : p < tN τ 5 := by omega
      obtain ⟨q1, -, -, -, -, q4, -⟩ := hT.2.2.2.2.2.2.2 p hpN
      have el : D'.1 (325 + 18) p = nI (tP τ p 4) := by rw [← q1 4 (by omega) (by omega)]; exact S'.2 p hpN 4 (by omega)
      have i18 : vp_in (nI p) (xl (325 + 18)) := by rw [l18]; exact vp_in_nI (by omega) (by omega)
      have ms := rMend_none hm
      refine s_M_mends_2 xk_M ?_
      rw [e30', nI_clamp (n := p) (by omega), el, nI_1]
      refine ⟨fun z => absurd z (nI_ge (by omega) (by omega)), fun _ => ⟨i18, i18, fun D1 e1 => ?_⟩⟩
      obtain ⟨o1, v1⟩ := ma (by omega) e1
      have v1' : ∀ j, D1.1 343 j = if j = p then 0 else D'.1 343 j := v1
      -- he has his own law again
      have back : ∀ D2 D3 : xD, mRd D1 D2 → mF 343 344 0 0 D2 D3 → (∀ j, D3.1 343 j = if j = p then nI (tP τ p 4) else D2.1 343 j) → mO D D3 ∧ mSit D3 τ ∧ D3.1 325 27 = nI (tN τ 0) ∧ D3.1 325 29 = nI (tN τ 2) ∧ D3.1 325 30 = nI (tN τ 5) ∧ mPk D3 n c := by
        intro D2 D3 r2 o3 v3
        refine ⟨o.trans ((o1.o (by omega)).trans (r2.o.trans (o3.o (by omega)))), ⟨by rw [o3.2 31 (by omega), r2.2 31 (by omega), o1.2 31 (by omega)]; exact S'.1, fun i hi w hw => ?_⟩, by rw [o3.2 27 (by omega), r2.2 27 (by omega), o1.2 27 (by omega)]; exact e27', by rw [o3.2 29 (by omega), r2.2 29 (by omega), o1.2 29 (by omega)]; exact e29', by rw [o3.2 30 (by omega), r2.2 30 (by omega), o1.2 30 (by omega)]; exact e30', ⟨by rw [o3.2 40 (by omega), r2.2 40 (by omega), o1.2 40 (by omega)]; exact pk'.1, fun j hj => by rw [(o3.1 345 (by omega) (by omega)).1, (r2.1 345 (by omega) (by omega) (by omega) (by omega)).1, (o1.1 345 (by omega) (by omega)).1]; exact pk'.2 j hj⟩⟩
        by_cases z : w = 4
        · subst z
          show D3.1 343 i = _
          rw [v3]
          by_cases y : i = p
          · rw [if_pos y, y]; exact (q1 4 (by omega) (by omega)).symm
          · rw [if_neg y, (r2.1 343 (by omega) (by omega) (by omega) (by omega)).1, v1', if_neg y]; exact S'.2 i hi 4 (by omega)
        · rw [(o3.1 (339 + w) (by omega) (by omega)).1, (r2.1 (339 + w) (by omega) (by omega) (by omega) (by omega)).1, (o1.1 (339 + w) (by omega) (by omega)).1]; exact S'.2 i hi w hw
      refine ⟨fun z => ⟨i18, fun D2 e2 => ?_⟩, fun z => ?_⟩
      · obtain ⟨o2, v2⟩ := ma (by omega) e2
        obtain ⟨b1, b2, b3, b4, b5, b6⟩ := back D1 D2 mRd.rfl' o2 v2
        have w0 : tP τ p 4 = 0 := by
          apply Decidable.byContradiction
          intro w
          exact nI_ne0 (by omega) (by omega) z
        rw [if_neg (fun w => w.1 w0)] at ms
        exact ⟨fun _ => ih (p + 1) (by omega) ms D2 b1 b2 b3 b4 b5 b6, fun y => absurd rfl y⟩
      · have w0 : tP τ p 4 ≠ 0 := fun w => z (by rw [w]; rfl)
        have S1 : mSit D1 (tSet τ (6 + 7 * p + 4) 0) := S'.set (by omega) o1 v1'
        have TO := tOK_most (p := p) hT hL
        have tn : ∀ j, j < 6 → tN (tSet τ (6 + 7 * p + 4) 0) j = tN τ j := fun j hj => tN_set _ _ hj
        have pk1 : mPk D1 n c := ⟨by rw [o1.2 40 (by omega)]; exact pk'.1, fun j hj => by rw [(o1.1 345 (by omega) (by omega)).1]; exact pk'.2 j hj⟩
        refine c_M_ends TO.1 TO.2 S1 (by rw [tn 0 (by omega), o1.2 27 (by omega)]; exact e27') (by rw [tn 2 (by omega), o1.2 29 (by omega)]; exact e29') (by rw [tn 5 (by omega)]; exact h0) pk1 hn (fun j hj => by rw [tn 0 (by omega)]; exact hc j hj) (by rw [tn 2 (by omega), tn 5 (by omega)]; exact hA) (fun q D2 r2 G2 f1 f2 => z0 ⟨i18, fun D3 e3 => ?_⟩) (fun f q D2 r2 G2 f1 f2 f3 f4 => z1 ⟨i18, fun D3 e3 => ?_⟩)
        · obtain ⟨o3, v3⟩ := ma (by omega) e3
          obtain ⟨b1, b2, b3, b4, b5, b6⟩ := back D2 D3 r2 o3 v3
          rw [if_neg (fun w => w.2 q)] at ms
          exact ⟨fun _ => ih (p + 1) (by omega) ms D3 b1 b2 b3 b4 b5 b6, fun y => absurd rfl y⟩
        · obtain ⟨o3, v3⟩ := ma (by omega) e3
          obtain ⟨b1, -⟩ := back D2 D3 r2 o3 v3
          rw [if_pos ⟨w0, by rw [q]; exact fun z => by cases z⟩] at ms
          refine ⟨fun y => absurd y (by decide), fun _ => ⟨_, rfl, ?_⟩⟩
          have := rMend_stop ms (tN τ 5 - (p + 1))
          rw [show p + 1 + (tN τ 5 - (p + 1)) = tN τ 5 by omega] at this
          have hh := h D3 b1
          rw [this] at hh
          exact hh
  exact key (tN τ 5) 0 (by omega) rfl D mO.rfl' S e27 e29 e30 pk
end MENDS
