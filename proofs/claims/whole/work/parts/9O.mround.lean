/-! The reference: fits, round, behind. -/
theorem fOf_const {α : Type} {z : α} {σ : sT} {t p : Int32} {f : (Nat → Int32) → (Nat → Int32) → α} (q : ∀ τ η, f τ η = z) : fOf z σ t p f = z := by
  cases h1 : txO σ 0 t with
  | none => exact fOf_n (Or.inl h1)
  | some τ =>
    cases h2 : txO σ 1 p with
    | none => exact fOf_n (Or.inr h2)
    | some η =>
      by_cases q2 : fitsH τ η
      · rw [fOf_t h1 h2 q2]; exact q τ η
      · exact fOf_f h1 h2 q2
theorem rAns_no {τ : Nat → Int32} {n : Nat} {c : Nat → Nat} {w : Nat} (e : (rGo τ n c tTop).2.2.1 = none) : rAns τ n c w = if w = 3 then nI (sm (rGo τ n c tTop).2.1 (tN τ 5)) else if w = 4 then oI (rMend τ n c (tN τ 5)) else -1 := by
  unfold rAns; rw [e]
theorem rAns_yes {τ : Nat → Int32} {n : Nat} {c : Nat → Nat} {w f : Nat} (e : (rGo τ n c tTop).2.2.1 = some f) : rAns τ n c w = if w = 3 then nI (sm (rGo τ n c tTop).2.1 (tN τ 5)) else if w = 0 then nI (rGo τ n c tTop).2.2.2 else if w = 1 then nI f else if w = 2 then nI (tLast τ f (rGo τ n c tTop).2.2.2 (tN τ 5)) else -1 := by
  unfold rAns; rw [e]
theorem rAnsOf_h {τ : Nat → Int32} {n : Nat} {c : Nat → Nat} {p : Nat} : rAnsOf τ n c p ((0 : Int32) ≠ 0) = nI ((rGo τ n c tTop).2.1 p) := by
  unfold rAnsOf; rw [if_neg (fun z => z rfl)]
theorem rAnsOf_no {τ : Nat → Int32} {n : Nat} {c : Nat → Nat} {p : Nat} (e : (rGo τ n c tTop).2.2.1 = none) : rAnsOf τ n c p ((1 : Int32) ≠ 0) = -1 := by
  unfold rAnsOf; rw [if_pos (by decide), e]
theorem rAnsOf_yes {τ : Nat → Int32} {n : Nat} {c : Nat → Nat} {p f : Nat} (e : (rGo τ n c tTop).2.2.1 = some f) : rAnsOf τ n c p ((1 : Int32) ≠ 0) = nI (tSpoon τ p f (rGo τ n c tTop).2.2.2) := by
  unfold rAnsOf; rw [if_pos (by decide), e]
section MROUND
variable {d : Nat} {D : xD} {g : gS}
theorem c_M_fits {P : Int32 → xD → Prop} {x y : Int32} (hI : mI D g) (h : ∀ D', mO D D' → P (aFits g.1 x y) D') : xCi (d + 40) m_M_fits [.ref 325, .int x, .int y] D P := by
  refine xCi_of y_M_fits (Nat.le_of_ble_eq_true rfl) (s_M_fits_0 xk_M (fun D1 e1 => ?_))
  obtain ⟨o1, I1⟩ := m_0 hI e1
  unfold aFits at h
  refine c_M_is (s := 1) I1 (by omega) (fun q => z0 ⟨_, rfl, ?_⟩) (fun i hi hi2 hy q => z1 ?_)
  · simp only [q] at h
    cases q1 : txO g.1 0 x with
    | none => rw [q1] at h; exact h D1 o1
    | some τ => rw [q1] at h; exact h D1 o1
  · simp only [q] at h
    have hO := ((I1.2.1.2.2 1 (by omega)).2 i hi).2.1 rfl
    have tx := fun j (hj : j < 53) => m_tx (s := 1) I1 (by omega) hi (i := j) hj
    generalize hη : g.1.2.2.2 1 i = η at q hO tx h
    refine c_M_hand I1 (fun q1 => z0' ⟨_, rfl, ?_⟩) (fun τ q1 hT hL hF D2 o2 I2 H2 S2 W2 => z1' ?_)
    · rw [q1] at h; exact h D1 o1
    · simp only [q1] at h
      have tx2 : ∀ j, j < 53 → D2.1 332 (53 * i + j) = η j := fun j hj => by rw [(o2.1 332 (by omega) (by omega)).1]; exact tx j hj
      rw [hy]
      refine c_M_layHeap hT hO H2 hi2 tx2 (fun q2 D3 o3 pk => z1 ⟨_, rfl, ?_⟩) (fun q2 D3 o3 => z0 ⟨_, rfl, ?_⟩)
      · have := h D3 (o1.trans ((o2.o (by omega)).trans (o3.o (by omega))))
        rw [cif_t q2] at this; exact this
      · have := h D3 (o1.trans ((o2.o (by omega)).trans (o3.o (by omega))))
        rw [cif_f q2] at this; exact this
theorem in1020 {P : Int32 → xD → Prop} {w e30 : Int32} {N : Nat} (hN : N ≤ 6) (e : e30 = nI N) (lo : Nat) (c : Int32) (hc : c + 1 = nI lo) (hl : lo < 100) (h1 : ∀ p, p < N → w = nI (lo + p) → P 1 D) (h0 : (∀ p, p < N → w ≠ nI (lo + p)) → P 0 D) : xCi (d + 1) m_M_in [.int w, .int (nI lo), .int (c + e30)] D P :=
  c_M_inR lo N (by omega) (by omega) rfl (by rw [e, Int32.add_assoc, Int32.add_comm (nI N), ← Int32.add_assoc, hc, nI_add]) h1 h0
theorem c_M_round {P : Int32 → xD → Prop} {x y w : Int32} (hI : mI D g) (h : ∀ D', mO D D' → P (aRound g.1 x y w) D') : xCi (d + 40) m_M_round [.ref 325, .int x, .int y, .int w] D P := by
  have l28 : xl (325 + 28) = 6 := cl_13_57 xk_M
  have l29 : xl (325 + 29) = 6 := cl_13_58 xk_M
  refine xCi_of y_M_round (Nat.le_of_ble_eq_true rfl) (s_M_round_0 xk_M (fun D1 e1 => ?_))
  obtain ⟨o1, I1⟩ := m_0 hI e1
  unfold aRound at h
  refine c_M_layRound I1 (fun q D2 o2 => z0' ⟨_, rfl, ?_⟩) (fun τ η q hT hL hF hO q2 D2 o2 I2 H2 S2 W2 pk => z1' ?_)
  · rw [q] at h; exact h D2 (o1.trans o2)
  · rw [q] at h
    have hN := hT.2.2.2.2.2.2.1
    have h05 : 0 < tN τ 5 := by have := hF.1; omega
    have fl := fits_lt hT hO q2
    have fA := fits_A q2
    have n52 := hO.2.1
    have e27 : D2.1 325 27 = nI (tN τ 0) := by rw [H2.2.1]; exact hT.1 0 (by omega)
    have e29 : D2.1 325 29 = nI (tN τ 2) := by rw [H2.2.2.2.1]; exact hT.1 2 (by omega)
    have e30 : D2.1 325 30 = nI (tN τ 5) := by rw [H2.2.2.2.2]; exact hT.1 5 (by omega)
    have w10 : ∀ p, p < tN τ 5 → w = nI (10 + p) → ∀ D', mO D D' → P (rAnsOf τ (tN η 0) (hpC η) p ((1 : Int32) ≠ 0)) D' := fun p hp ew D' o => by
      have := h D' o
      rw [ew, per_10 hN hp] at this
      simp only [] at this
      rw [if_neg (show ¬ (20 : Int32) ≤ nI (10 + p) from nI_ge (b := 20) (by omega) (by omega))] at this
      exact this
    have w20 : ∀ p, p < tN τ 5 → w = nI (20 + p) → ∀ D', mO D D' → P (rAnsOf τ (tN η 0) (hpC η) p ((0 : Int32) ≠ 0)) D' := fun p hp ew D' o => by
      have := h D' o
      rw [ew, per_20 hN hp] at this
      simp only [] at this
      rw [if_pos (show (20 : Int32) ≤ nI (20 + p) from nI_le (a := 20) (by omega) (by omega))] at this
      exact this
    have wk : (∀ p, p < tN τ 5 → w ≠ nI (10 + p)) → (∀ p, p < tN τ 5 → w ≠ nI (20 + p)) → ∀ k, k < 5 → w = nI k → ∀ D', mO D D' → P (rAns τ (tN η 0) (hpC η) k) D' := fun a b k hk ew D' o => by
      have := h D' o
      rw [per_no hN a b, ew] at this
      simp only [slot_nI hk (by omega)] at this
      exact this
    have wn : (∀ p, p < tN τ 5 → w ≠ nI (10 + p)) → (∀ p, p < tN τ 5 → w ≠ nI (20 + p)) → (w.toInt < 0 ∨ 4 < w.toInt) → ∀ D', mO D D' → P (-2) D' := fun a b c D' o => by
      have := h D' o
      have sn : slotOf 5 w = none := by
        cases hs : slotOf 5 w with
        | none => rfl
        | some k =>
          obtain ⟨hk, e⟩ := slot_some hs
          rw [e, nI_toInt (by omega)] at c
          omega
      rw [per_no hN a b] at this
      simp only [sn] at this
      exact this
    clear h
    refine c_M_ends hT hL S2 e27 e29 h05 pk n52 fl fA (fun e D3 r3 G3 f54 f56 => ?_) (fun f e D3 r3 G3 f54 f55 f56 fs => ?_)
    · have o3 : mO D D3 := o1.trans (o2.trans r3.o)
      have e30' : D3.1 325 30 = nI (tN τ 5) := by rw [r3.2 30 (by omega)]; exact e30
      have ans : ∀ k, rAns τ (tN η 0) (hpC η) k = _ := fun k => rAns_no e
      refine in1020 hN e30' 10 9 rfl (by omega) (fun p hp ew => z1 (z0 ⟨_, rfl, ?_⟩)) (fun n10 => z0 (in1020 hN e30' 20 19 rfl (by omega) (fun p hp ew => z1 ?_) (fun n20 => z0 ⟨fun c => z0 ⟨_, rfl, ?_⟩, fun c => ⟨_, rfl, ?_⟩, fun c => ⟨_, rfl, ?_⟩, fun c => c_M_allHanded G3 hN ⟨_, rfl, ?_⟩, fun c => z0 ?_, fun c => ⟨_, rfl, wn n10 n20 c D3 o3⟩⟩)))
      · have := w10 p hp ew D3 o3
        rw [rAnsOf_no e] at this; exact this
      · rw [ew, show nI (20 + p) - (20 : Int32) = nI (20 + p - 20) from pk_sub (b := 20) (by omega), Nat.add_sub_cancel_left, nI_clamp (n := p) (by omega), show D3.1 (325 + 28) p = nI ((rGo τ (tN η 0) (hpC η) tTop).2.1 p) from G3.2.2.2.2 p hp]
        refine ⟨by rw [l28]; exact vp_in_nI (by omega) (by omega), _, rfl, ?_⟩
        have := w20 p hp ew D3 o3
        rw [rAnsOf_h] at this; exact this
      · have := wk n10 n20 0 (by omega) c D3 o3
        rw [ans, if_neg (by omega), if_neg (by omega)] at this; exact this
      · have := wk n10 n20 1 (by omega) c D3 o3
        rw [ans, if_neg (by omega), if_neg (by omega)] at this; rw [f54]; exact this
      · have := wk n10 n20 2 (by omega) c D3 o3
        rw [ans, if_neg (by omega), if_neg (by omega)] at this; rw [f56]; exact this
      · have := wk n10 n20 3 (by omega) c D3 o3
        rw [ans, if_pos rfl] at this; exact this
      · refine c_M_mends hT hL G3.1 G3.2.1 G3.2.2.1 e30' h05 (pk.rd r3) n52 fl fA (fun D4 o4 => ⟨_, rfl, ?_⟩)
        have := wk n10 n20 4 (by omega) c D4 (o3.trans o4)
        rw [ans, if_neg (by omega), if_pos rfl] at this; exact this
    · have o3 : mO D D3 := o1.trans (o2.trans r3.o)
      have e30' : D3.1 325 30 = nI (tN τ 5) := by rw [r3.2 30 (by omega)]; exact e30
      have ans : ∀ k, rAns τ (tN η 0) (hpC η) k = _ := fun k => rAns_yes e
      refine in1020 hN e30' 10 9 rfl (by omega) (fun p hp ew => z1 (z1 ?_)) (fun n10 => z0 (in1020 hN e30' 20 19 rfl (by omega) (fun p hp ew => z1 ?_) (fun n20 => z0 ⟨fun c => z1 ⟨_, rfl, ?_⟩, fun c => ⟨_, rfl, ?_⟩, fun c => ⟨_, rfl, ?_⟩, fun c => c_M_allHanded G3 hN ⟨_, rfl, ?_⟩, fun c => z1 ⟨_, rfl, ?_⟩, fun c => ⟨_, rfl, wn n10 n20 c D3 o3⟩⟩)))
      · rw [ew, show nI (10 + p) - (10 : Int32) = nI (10 + p - 10) from pk_sub (b := 10) (by omega), Nat.add_sub_cancel_left, nI_clamp (n := p) (by omega), show D3.1 (325 + 29) p = _ from fs p hp]
        refine ⟨by rw [l29]; exact vp_in_nI (by omega) (by omega), _, rfl, ?_⟩
        have := w10 p hp ew D3 o3
        rw [rAnsOf_yes e] at this; exact this
      · rw [ew, show nI (20 + p) - (20 : Int32) = nI (20 + p - 20) from pk_sub (b := 20) (by omega), Nat.add_sub_cancel_left, nI_clamp (n := p) (by omega), show D3.1 (325 + 28) p = nI ((rGo τ (tN η 0) (hpC η) tTop).2.1 p) from G3.2.2.2.2 p hp]
        refine ⟨by rw [l28]; exact vp_in_nI (by omega) (by omega), _, rfl, ?_⟩
        have := w20 p hp ew D3 o3
        rw [rAnsOf_h] at this; exact this
      · have := wk n10 n20 0 (by omega) c D3 o3
        rw [ans, if_neg (by omega), if_pos rfl] at this; rw [f55]; exact this
      · have := wk n10 n20 1 (by omega) c D3 o3
        rw [ans, if_neg (by omega), if_neg (by omega), if_pos rfl] at this; rw [f54]; exact this
      · have := wk n10 n20 2 (by omega) c D3 o3
        rw [ans, if_neg (by omega), if_neg (by omega), if_neg (by omega), if_pos rfl] at this; rw [f56]; exact this
      · have := wk n10 n20 3 (by omega) c D3 o3
        rw [ans, if_pos rfl] at this; exact this
      · have := wk n10 n20 4 (by omega) c D3 o3
        rw [ans, if_neg (by omega), if_neg (by omega), if_neg (by omega), if_neg (by omega)] at this; exact this
theorem c_M_behind {P : Int32 → xD → Prop} {x y u p k : Int32} (hI : mI D g) (h : ∀ D', mO D D' → P (aBehind g.1 x y u p k) D') : xCi (d + 40) m_M_behind [.ref 325, .int x, .int y, .int u, .int p, .int k] D P := by
  have l21 : xl (325 + 21) = 78 := cl_13_41 xk_M
  have l25 : xl (325 + 25) = 7 := cl_13_45 xk_M
  have ht := tTop_is
  refine xCi_of y_M_behind (Nat.le_of_ble_eq_true rfl) (s_M_behind_0 xk_M (fun D1 e1 => ?_))
  obtain ⟨o1, I1⟩ := m_0 hI e1
  unfold aBehind at h
  refine c_M_in0 (tTop + 1) (by omega) (by rw [aI_s, tTop_i]) (fun q => z0 ⟨_, rfl, ?_⟩) (fun U qU hU eU => z1 ?_)
  · have := h D1 o1
    rw [fOf_const (fun τ η => by
      cases slotOf (tN τ 5) p with
      | none => rfl
      | some q' => simp only [q])] at this
    exact this
  refine c_M_layRound I1 (fun q D2 o2 => z0 ⟨_, rfl, ?_⟩) (fun τ η q hT hL hF hO q2 D2 o2 I2 H2 S2 W2 pk => z1 ?_)
  · rw [q] at h; exact h D2 (o1.trans o2)
  rw [q] at h
  have o12 := o1.trans o2
  have hN := hT.2.2.2.2.2.2.1
  have hK := hT.2.1.2
  have h05 : 0 < tN τ 5 := by have := hF.1; omega
  have fl := fits_lt hT hO q2
  have fA := fits_A q2
  have n52 := hO.2.1
  have e27 : D2.1 325 27 = nI (tN τ 0) := by rw [H2.2.1]; exact hT.1 0 (by omega)
  have e29 : D2.1 325 29 = nI (tN τ 2) := by rw [H2.2.2.2.1]; exact hT.1 2 (by omega)
  have e30 : D2.1 325 30 = nI (tN τ 5) := by rw [H2.2.2.2.2]; exact hT.1 5 (by omega)
  refine c_M_isOne e30 (by omega) (fun q1 => z0 ⟨_, rfl, ?_⟩) (fun i q1 hi hp => z1 ⟨fun kn => ?_, fun kn => ?_⟩)
  · simp only [q1] at h; exact h D2 o12
  · simp only [q1, qU] at h
    rw [if_pos kn] at h
    rw [eU]
    refine c_M_go hT hL S2 e27 e29 h05 pk n52 fl fA (by omega) (fun D3 r3 G3 f54 f55 => ⟨fun z => absurd kn z, fun _ => ?_⟩)
    have ln := (G3.2.2.2.1.2.2 i (by omega)).1
    rw [mQ_p hi] at ln
    rw [hp, nI_clamp (n := i) (by omega), show D3.1 (325 + 25) i = _ from ln]
    exact ⟨by rw [l25]; exact vp_in_nI (by omega) (by omega), _, rfl, h D3 (o12.trans r3.o)⟩
  · simp only [q1, qU] at h
    rw [if_neg kn] at h
    refine c_M_isKind e27 (by omega) (fun q3 => z0' ⟨_, rfl, ?_⟩) (fun j q3 hj ek => z1' ?_)
    · simp only [q3] at h; exact h D2 o12
    · simp only [q3] at h
      rw [eU]
      refine c_M_go hT hL S2 e27 e29 h05 pk n52 fl fA (by omega) (fun D3 r3 G3 f54 f55 => ⟨fun _ => ?_, fun z => absurd z kn⟩)
      rw [hp, ek, ix13', nI_clamp (n := 13 * i + j) (by omega), show D3.1 (325 + 21) (13 * i + j) = _ from G3.2.2.2.1.1 i hi j (by omega)]
      exact ⟨by rw [l21]; exact vp_in_nI (by omega) (by omega), _, rfl, h D3 (o12.trans r3.o)⟩
end MROUND
