/-! The reference: within so many cards, what to hand on. -/
theorem bestK_tail {g : (Nat → Nat) → Nat} {h : Nat → Nat} {K : Nat} (h0 : ∀ j, j < 4 → K ≤ j → h j = 0) : ∀ r, K + r ≤ 4 → bestK g h (K + r) = bestK g h K := by
  intro r
  induction r with
  | zero => intro _; rfl
  | succ r ih =>
    intro hr
    rw [show K + (r + 1) = K + r + 1 by omega, bestK, if_neg (by rw [h0 (K + r) (by omega) (by omega)]; omega)]
    exact ih (by omega)
theorem bestK_congr {g : (Nat → Nat) → Nat} {h h' : Nat → Nat} (q : ∀ i, i < 4 → h i = h' i) (hg : ∀ a b : Nat → Nat, (∀ i, i < 4 → a i = b i) → g a = g b) : ∀ m, m ≤ 4 → bestK g h m = bestK g h' m := by
  intro m
  induction m with
  | zero => intro _; rfl
  | succ m ih =>
    intro hm
    have e : g (dec h m) = g (dec h' m) := hg _ _ (fun i hi => by rw [dec_at, dec_at, q i hi])
    rw [bestK, bestK, ih (by omega), q m (by omega), e]
section MWITHIN
variable {d : Nat} {D : xD} {g : gS}
/-- why the ways aren't found -/
def noW (σ : sT) (x y n : Int32) : Prop :=
  slotOf 7 n = none ∨ (txO σ 0 x = none ∨ txO σ 3 y = none ∨ ∃ τ η, txO σ 0 x = some τ ∧ txO σ 3 y = some η ∧ ¬ fitHd τ η) ∨ (∃ τ η, txO σ 0 x = some τ ∧ txO σ 3 y = some η ∧ fitHd τ η ∧ (4 < tN τ 0 ∨ ∃ m, slotOf 7 n = some m ∧ hN τ η < m))
theorem noW_is {α : Type} {z : α} {σ : sT} {x y n : Int32} {f : (Nat → Int32) → (Nat → Int32) → Nat → α} (q : noW σ x y n) (hf : ∀ τ η m, 4 < tN τ 0 → f τ η m = z) : hOf z σ x y (fun τ η => mOf z (hN τ η) n (f τ η)) = z := by
  rcases q with q | q | ⟨τ, η, q1, q2, q3, q4⟩
  · exact hOf_const (fun τ η => by unfold mOf; rw [q])
  · exact hOf_no q
  · rw [hOf_t q1 q2 q3]
    unfold mOf
    cases hn : slotOf 7 n with
    | none => rfl
    | some m =>
      show (if hN τ η < m then z else f τ η m) = z
      rcases q4 with q4 | ⟨m', q4, q5⟩
      · rw [hf τ η m q4]; split <;> rfl
      · rw [hn] at q4; cases q4
        exact if_pos q5
theorem c_M_layWithin {P : Int32 → xD → Prop} {x y n : Int32} (hI : mI D g) (h0 : noW g.1 x y n → ∀ D', mO D D' → P 0 D')
    (h1 : ∀ τ η m, txO g.1 0 x = some τ → txO g.1 3 y = some η → tOK τ → hdOK η → fitHd τ η → slotOf 7 n = some m → n = nI m → m ≤ 6 → m ≤ hN τ η → tN τ 0 ≤ 4 → ∀ D', mO D D' → D'.1 325 27 = nI (tN τ 0) → D'.1 325 29 = nI (tN τ 2) → mHf D' (hh η) (hu τ η) (hN τ η) → mHs D' (tN τ 0) (tN τ 2) → (∀ c k, cmO (hu τ η) c → sm (dg c) 4 ≤ m → k < 625 → isH (tN τ 0) (tN τ 2) k = true → wE D' (tN τ 0) (tN τ 2) m (hN τ η) (hu τ η) c k) → P 1 D') : xCi (d + 6) m_M_layWithin [.ref 325, .int x, .int y, .int n] D P := by
  refine xCi_of y_M_layWithin (Nat.le_of_ble_eq_true rfl) (s_M_layWithin_0 xk_M ?_)
  refine c_M_in0 7 (by omega) (by decide) (fun q => z0 ⟨_, rfl, h0 (Or.inl q) D mO.rfl'⟩) (fun m q hm en => z1 ?_)
  refine c_M_fitsHand hI (fun q1 D2 o2 => z0 ⟨_, rfl, h0 (Or.inr (Or.inl q1)) D2 o2⟩) (fun τ η q1 q2 hT hO hf D2 o2 H2 X I2 => z1 ?_)
  have bK := hT.2.1
  have bA := hT.2.2.2.1
  have h52 := hN_le (η := η) hT
  have e27 : D2.1 325 27 = nI (tN τ 0) := by rw [H2.2.1]; exact hT.1 0 (by omega)
  have e29 : D2.1 325 29 = nI (tN τ 2) := by rw [H2.2.2.2.1]; exact hT.1 2 (by omega)
  rw [e27, X.2.2, en]
  refine ⟨fun c => ⟨_, rfl, h0 (Or.inr (Or.inr ⟨τ, η, q1, q2, hf, Or.inl ((nI_ltI (a := 4) (by omega) (by omega)).mp c)⟩)) D2 o2⟩, fun c => ⟨fun c1 => ?_, fun c1 => ⟨_, rfl, h0 (Or.inr (Or.inr ⟨τ, η, q1, q2, hf, Or.inr ⟨m, q, Nat.lt_of_not_le (fun z => c1 (nI_le z (by omega)))⟩⟩)) D2 o2⟩⟩⟩
  have hK : tN τ 0 ≤ 4 := Nat.le_of_not_lt (fun z => c (nI_lt (a := 4) z (by omega)))
  have hmN := (nI_leI (by omega) (by omega)).mp c1
  refine c_M_findWays e27 e29 X hK (by omega) (by omega) (fun k _ => hu_le hT k) (fun k hk => hu_0 hk) (hu_sum4 hT hO hf hK) (hN_16 hT hK) (by omega) hmN (fun D3 o3 Hs E => ⟨_, rfl, ?_⟩)
  exact h1 τ η m q1 q2 hT hO hf q en (by omega) hmN hK D3 (o2.trans (o3.o (by omega))) (by rw [o3.2 27 (by omega)]; exact e27) (by rw [o3.2 29 (by omega)]; exact e29) (X.fr o3 (by omega) (by omega)) Hs E
/-- his hand, as a number -/
theorem own_ok {τ η : Nat → Int32} (hT : tOK τ) (hO : hdOK η) (hf : fitHd τ η) (hK : tN τ 0 ≤ 4) : (∀ k, k < 4 → hh η k ≤ 4) ∧ (∀ k, k < 4 → tN τ 0 ≤ k → hh η k = 0) ∧ cdM (hh η) < 625 ∧ (∀ k, k < 4 → dg (cdM (hh η)) k = hh η k) ∧ isH (tN τ 0) (tN τ 2) (cdM (hh η)) = true := by
  have b4 : ∀ k, k < 4 → hh η k ≤ 4 := fun k _ => by have := hh_le hf k; have := hT.2.2.2.1; omega
  have z : ∀ k, k < 4 → tN τ 0 ≤ k → hh η k = 0 := fun k hk hKk => hh_0 hf (by omega) hKk
  have ed : ∀ k, k < 4 → dg (cdM (hh η)) k = hh η k := fun k hk => dg_cdM b4 hk
  refine ⟨b4, z, cdM_lt b4, ed, isH_iff.mpr ⟨?_, fun k hk hKk => by rw [ed k hk]; exact z k hk hKk⟩⟩
  rw [sm_congr (f := dg (cdM (hh η))) (g := hh η) ed]
  exact hh_sum4 hO hf hK
theorem dg_0 (k : Nat) : dg 0 k = 0 := by unfold dg; rw [Nat.zero_div]
theorem c_M_within {P : Int64 → xD → Prop} {x y n u : Int32} (hI : mI D g) (h : ∀ D', mO D D' → P (aWithin g.1 x y n u) D') : xCl (d + 40) m_M_within [.ref 325, .int x, .int y, .int n, .int u] D P := by
  have l36 : xl (325 + 36) = 625 := cl_13_70 xk_M
  have l37 : xl (325 + 37) = 21875 := cl_13_71 xk_M
  refine xCl_of y_M_within (Nat.le_of_ble_eq_true rfl) (s_M_within_0 xk_M (fun D1 e1 => ?_))
  obtain ⟨o1, I1⟩ := m_0 hI e1
  unfold aWithin at h
  refine c_M_layWithin I1 (fun q D2 o2 => z0 ⟨_, rfl, ?_⟩) (fun τ η m q1 q2 hT hO hf qn en m6 mN hK D2 o2 e27 e29 X Hs E => z1 ?_)
  · have := h D2 (o1.trans o2)
    rw [noW_is q (fun τ η m hK => by rw [if_pos hK])] at this
    exact this
  · have hz := h D2 (o1.trans o2)
    rw [hOf_t q1 q2 hf, en, mOf_s m6 mN, if_neg (by omega)] at hz
    have bA := hT.2.2.2.1
    have h16 := hN_16 (η := η) hT hK
    obtain ⟨b4, zz, lt, ed, hH⟩ := own_ok hT hO hf hK
    have r35 := rkM_35 hK (by omega) lt hH
    refine c_M_ownNumber Hs.1 e27 X hK zz ?_
    have e36 : D2.1 (325 + 36) (nI (cdM (hh η))).toNatClampNeg = nI (rkM (tN τ 0) (tN τ 2) (cdM (hh η))) := by
      rw [nI_clamp (by omega)]; exact (Hs.2.1 _ lt hH).1
    have s0 : sm (dg 0) 4 = 0 := by rw [sm4, dg_0, dg_0, dg_0, dg_0]
    have w := E 0 (cdM (hh η)) ⟨by omega, fun k _ => by rw [dg_0]; exact Nat.zero_le _⟩ (by rw [s0]; exact Nat.zero_le _) lt hH
    unfold wE wV at w
    rw [s0, Nat.sub_zero, Nat.sub_zero, Nat.mul_zero, Nat.zero_add] at w
    have eg : gd (tN τ 0) (tN τ 2) m (dg (cdM (hh η))) (fun k => hu τ η k - dg 0 k) (hN τ η) = gd (tN τ 0) (tN τ 2) m (hh η) (hu τ η) (hN τ η) :=
      gd_congr hK _ _ _ _ _ _ ed (fun i _ => by show hu τ η i - dg 0 i = _; rw [dg_0, Nat.sub_zero])
    rw [eg] at w
    rw [e36, nI_clamp (n := rkM (tN τ 0) (tN τ 2) (cdM (hh η))) (by omega), X.2.2, en]
    refine ⟨by rw [l36]; exact vp_in_nI lt (by omega), by rw [l37]; exact vp_in_nI (by omega) (by omega), c_M_rows mN (by omega) ?_⟩
    rw [show D2.2 (325 + 37) (rkM (tN τ 0) (tN τ 2) (cdM (hh η))) = _ from w]
    have hs := gd_small (K := tN τ 0) (A := tN τ 2) (h := hh η) (hu_sum4 hT hO hf hK) mN h16 m6
    have hfl : fall (hN τ η) m < 2 ^ 25 := by
      have h2 := fall_le (hN τ η) m
      have h3 : hN τ η ^ m ≤ 16 ^ 6 := Nat.le_trans (Nat.pow_le_pow_left h16 m) (Nat.pow_le_pow_right (by omega) m6)
      have h4 : (16 : Nat) ^ 6 < 2 ^ 25 := by decide
      omega
    exact c_M_least (by omega) (by omega) (Or.inr (fall_pos mN)) ⟨_, rfl, hz⟩
theorem c_M_kept {P : Int32 → xD → Prop} {x y n k : Int32} (hI : mI D g) (h : ∀ D', mO D D' → P (aKept g.1 x y n k) D') : xCi (d + 40) m_M_kept [.ref 325, .int x, .int y, .int n, .int k] D P := by
  have l34 : xl (325 + 34) = 13 := cl_13_67 xk_M
  refine xCi_of y_M_kept (Nat.le_of_ble_eq_true rfl) (s_M_kept_0 xk_M (fun D1 e1 => ?_))
  obtain ⟨o1, I1⟩ := m_0 hI e1
  unfold aKept at h
  refine ⟨fun c => ⟨_, rfl, ?_⟩, fun c => ?_⟩
  · have := h D1 o1
    rw [hOf_const (fun τ η => by
      unfold mOf
      cases hn : slotOf 7 n with
      | none => rfl
      | some m =>
        obtain ⟨hm, en⟩ := slot_some hn
        rw [en] at c
        have := (nI_ltI (b := 1) (by omega) (by omega)).mp c
        show (if hN τ η < m then (-1 : Int32) else if m = 0 then -1 else if 4 < tN τ 0 then -1 else oKept (tN τ 0) (tN τ 2) (hh η) (hu τ η) (hN τ η) m k) = _
        rw [if_pos (show m = 0 by omega)]
        split <;> rfl)] at this
    exact this
  refine c_M_layWithin I1 (fun q D2 o2 => z0 ⟨_, rfl, ?_⟩) (fun τ η m q1 q2 hT hO hf qn en m6 mN hK D2 o2 e27 e29 X Hs E => z1 ?_)
  · have := h D2 (o1.trans o2)
    rw [noW_is q (fun τ η m hK => by rw [if_pos hK]; split <;> rfl)] at this
    exact this
  have m1 : 1 ≤ m := by
    apply Nat.le_of_not_lt
    intro z
    exact c (by rw [en]; exact nI_lt (b := 1) (by omega) (by omega))
  have h16 := hN_16 (η := η) hT hK
  have bA := hT.2.2.2.1
  have o12 := o1.trans o2
  have hz : ∀ D', mO D D' → P (oKept (tN τ 0) (tN τ 2) (hh η) (hu τ η) (hN τ η) m k) D' := fun D' o => by
    have := h D' o
    rw [hOf_t q1 q2 hf, en, mOf_s m6 mN, if_neg (by omega), if_neg (by omega)] at this
    exact this
  obtain ⟨b4, zz, lt, ed, hH⟩ := own_ok hT hO hf hK
  have eHas : oHas (tN τ 0) (tN τ 2) (dg (cdM (hh η))) = oHas (tN τ 0) (tN τ 2) (hh η) := oHas_congr hK ed
  refine c_M_isKind e27 (by omega) (fun q3 => z0 ⟨_, rfl, ?_⟩) (fun i q3 hi ek => z1 ?_)
  · have := hz D2 o12
    unfold oKept at this
    by_cases k0 : k < 0
    · rw [if_pos k0] at this; exact this
    · rw [if_neg k0] at this
      obtain ⟨j, hj, rfl⟩ := nI_of k0
      rw [nI_clamp hj] at this
      have jK : tN τ 0 ≤ j := by
        apply Nat.le_of_not_lt
        intro z
        rw [slot_nI z (by omega)] at q3
        cases q3
      by_cases j13 : 13 ≤ j
      · rw [if_pos j13] at this; exact this
      · rw [if_neg j13, if_pos (hu_0 jK)] at this; exact this
  have eK : oKept (tN τ 0) (tN τ 2) (hh η) (hu τ η) (hN τ η) m k = if hu τ η i = 0 then -1 else if oHas (tN τ 0) (tN τ 2) (hh η) = true then -1 else bkI (bestK (fun h' => gd (tN τ 0) (tN τ 2) (m - 1) h' (dec (hu τ η) i) (hN τ η - 1)) (inc (hh η) i) 4) := by
    unfold oKept
    rw [ek, if_neg (nI_pos (by omega)), nI_clamp (by omega), if_neg (by omega)]
  rw [eK] at hz
  have ui := hu_le (η := η) hT i
  rw [ek, nI_clamp (n := i) (by omega), show D2.1 (325 + 34) i = nI (hu τ η i) from X.2.1 i (by omega)]
  refine ⟨by rw [l34]; exact vp_in_nI (by omega) (by omega), fun q => ⟨_, rfl, ?_⟩, fun q => ?_⟩
  · have u0 : hu τ η i = 0 := by
      apply Decidable.byContradiction
      intro w
      exact nI_ne0 (by omega) (by omega) q
    have := hz D2 o12
    rw [if_pos u0] at this; exact this
  have u1 : hu τ η i ≠ 0 := fun w => q (by rw [w]; rfl)
  refine c_M_ownNumber Hs.1 e27 X hK zz ?_
  refine c_M_hasAlike (K := tN τ 0) Hs.1 e29 (by omega) hK (by omega) (by omega) hH (fun q4 => z1 ⟨_, rfl, ?_⟩) (fun q4 => z0 ?_)
  · have := hz D2 o12
    rw [eHas] at q4
    rw [if_neg u1, if_pos q4] at this; exact this
  · rw [eHas] at q4
    rw [if_neg u1, if_neg q4] at hz
    intro D10 e10
    obtain ⟨o10, f10⟩ := mf e10
    have X' := X.fr o10 (by omega) (by omega)
    have Hs' := Hs.fr o10 (by omega) (by omega)
    have e27' : D10.1 325 27 = nI (tN τ 0) := by rw [o10.2 27 (by omega)]; exact e27
    refine c_M_ownNumber Hs'.1 e27' X' hK zz ?_
    have hno : ∀ j, j < 4 → dg (cdM (hh η)) j < tN τ 2 := fun j hj => by
      rw [ed j hj]
      by_cases z : j < tN τ 0
      · exact Nat.lt_of_not_le (fun w => q4 (oHas_t.mpr ⟨j, z, w⟩))
      · rw [zz j hj (by omega)]; omega
    have hu4 : ∀ k, k < 4 → hu τ η k ≤ 4 := fun k _ => hu_le hT k
    have c0 : cmO (hu τ η) 0 := ⟨by omega, fun k _ => by rw [dg_0]; exact Nat.zero_le _⟩
    obtain ⟨n1, n2, n3⟩ := came_next hu4 c0 (show i < 4 by omega) (by rw [dg_0]; omega)
    have s0 : sm (dg 0) 4 = 0 := by rw [sm4, dg_0, dg_0, dg_0, dg_0]
    have sd : sm (dec (hu τ η) i) 4 = hN τ η - 1 := by
      have := sm_dec (f := hu τ η) (k := i) (n := 4) (by omega) (by omega)
      have := hu_sum4 hT hO hf hK
      omega
    have gc : ∀ a b : Nat → Nat, (∀ i, i < 4 → a i = b i) → gd (tN τ 0) (tN τ 2) (m - 1) a (dec (hu τ η) i) (hN τ η - 1) = gd (tN τ 0) (tN τ 2) (m - 1) b (dec (hu τ η) i) (hN τ η - 1) := fun a b q => gd_congr hK _ _ _ _ _ _ q (fun _ _ => rfl)
    have bt := bestK_tail (g := fun h' => gd (tN τ 0) (tN τ 2) (m - 1) h' (dec (hu τ η) i) (hN τ η - 1)) (h := inc (hh η) i) (K := tN τ 0) (fun j hj hKj => by rw [inc_at, if_neg (by omega)]; exact zz j hj hKj) (4 - tN τ 0) (by omega)
    rw [show tN τ 0 + (4 - tN τ 0) = 4 by omega] at bt
    have bc := bestK_congr (g := fun h' => gd (tN τ 0) (tN τ 2) (m - 1) h' (dec (hu τ η) i) (hN τ η - 1)) (h := inc (dg (cdM (hh η))) i) (h' := inc (hh η) i) (fun j hj => by rw [inc_at, inc_at, ed j hj]) gc (tN τ 0) hK
    have hbig : ∀ f, gd (tN τ 0) (tN τ 2) (m - 1) f (dec (hu τ η) i) (hN τ η - 1) < 2 ^ 63 := fun f => by
      have := gd_small (K := tN τ 0) (A := tN τ 2) (h := f) (n := m - 1) sd (by omega) (by omega) (by omega)
      omega
    refine c_M_bestBy (c := 0) (g := fun h' => gd (tN τ 0) (tN τ 2) (m - 1) h' (dec (hu τ η) i) (hN τ η - 1)) Hs' e27' hK (by omega) lt hH hno hi n1.1 hbig (fun j hj hj0 => ?_) (fun D13 o13 hb => ?_)
    · obtain ⟨p1, p2, p3, p4⟩ := hand_next lt (by omega) hH hno hi hK hj hj0
      have w := (E (0 + 5 ^ i) (cdM (hh η) + 5 ^ i - 5 ^ j) n1 (by rw [n2, s0]; omega) p2 p3).fr o10 (by omega)
      unfold wE at w
      rw [w]
      unfold wV
      rw [n2, s0, Nat.zero_add]
      congr 1
      refine gd_congr hK _ _ _ _ _ _ p4 (fun l hl => ?_)
      show hu τ η l - dg (0 + 5 ^ i) l = dec (hu τ η) i l
      rw [n3 l hl, inc_at, dec_at, dg_0]
      by_cases w : l = i
      · rw [if_pos w, if_pos w]
      · rw [if_neg w, if_neg w, Nat.sub_zero]
    · have ne := bestK_ex (g := fun h' => gd (tN τ 0) (tN τ 2) (m - 1) h' (dec (hu τ η) i) (hN τ η - 1)) (h := inc (dg (cdM (hh η))) i) (k := i) (by rw [inc_at, if_pos rfl]; omega) hi
      have f := hz D13 (o12.trans ((o10.o (by omega)).trans (o13.o (by omega))))
      rw [bt, ← bc] at f
      have vl : bsO (fun h' => gd (tN τ 0) (tN τ 2) (m - 1) h' (dec (hu τ η) i) (hN τ η - 1)) (inc (dg (cdM (hh η))) i) (tN τ 0) ≤ 2 ^ 63 - 1 := bsO_le (fun h' => by have := hbig h'; omega) _
      refine ⟨fun _ => ⟨_, rfl, ?_⟩, fun z => absurd ((lg_cmp_ge _ _).mpr ((pk_lLE (a := 0) (by omega) (by omega)).mpr (Nat.zero_le _))) z⟩
      cases hx : bestK (fun h' => gd (tN τ 0) (tN τ 2) (m - 1) h' (dec (hu τ η) i) (hN τ η - 1)) (inc (dg (cdM (hh η))) i) (tN τ 0) with
      | none => exact absurd hx ne
      | some bv =>
        obtain ⟨b, v⟩ := bv
        rw [hx] at f
        rw [hb b v hx]; exact f
end MWITHIN
