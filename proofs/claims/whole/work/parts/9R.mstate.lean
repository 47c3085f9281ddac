/-! The reference: stop, state, holds. -/
theorem bMany_ne {N A K : Nat} {β : Nat → Int32} {s0 : bS} : ∀ {k : Nat}, bRun N A K β s0 k = none → bMany N A K β s0 k < k := by
  intro k
  cases k with
  | zero => intro h; cases h
  | succ k =>
    intro h
    rw [bMany, if_pos h]
    have := bMany_le (N := N) (A := A) (K := K) (β := β) (s0 := s0) k
    omega
section MSTATE
variable {d : Nat} {D : xD} {g : gS}
theorem c_M_layBook {P : Int32 → xD → Prop} {x y b : Int32} (hI : mI D g) (h0 : (txO g.1 2 b = none ∨ ∀ (α : Type) (z : α) (f : (Nat → Int32) → (Nat → Int32) → α), fOf z g.1 x y f = z) → ∀ D', mO D D' → P 0 D')
    (h1 : ∀ τ η β, (∀ (α : Type) (z : α) (f : (Nat → Int32) → (Nat → Int32) → α), fOf z g.1 x y f = f τ η) → txO g.1 2 b = some β → bOK β → tOK τ → tLaw τ → tFit τ → hpOK η → fitsH τ η → ∀ D', mO D D' → mI D' g → mH D' τ → mSit D' τ → mPk D' (tN η 0) (hpC η) → mBk D' β → P 1 D') : xCi (d + 5) m_M_layBook [.ref 325, .int x, .int y, .int b] D P := by
  refine xCi_of y_M_layBook (Nat.le_of_ble_eq_true rfl) (s_M_layBook_0 xk_M ?_)
  refine c_M_hasBook hI (fun D1 o1 I1 q => z0 ⟨_, rfl, h0 (Or.inl q) D1 (o1.o (by omega))⟩) (fun β D1 o1 I1 q hO Bk => z1 ?_)
  have r1 : mO D D1 := o1.o (by omega)
  refine m_lay I1 (fun q1 D2 o2 _ => h0 (Or.inr q1) D2 (r1.trans o2)) (fun τ η q1 hT hL hF hp q2 D2 o2 f2 I2 H2 S2 W2 pk => ?_)
  refine h1 τ η β q1 q hO hT hL hF hp q2 D2 (r1.trans o2) I2 H2 S2 pk ?_
  obtain ⟨k, k1, k2, k3⟩ := Bk
  exact ⟨k, k1, by rw [f2 46 (by omega)]; exact k2, fun j hj => by rw [(o2 333 (by omega) (by omega)).1]; exact k3 j hj⟩
theorem c_M_stop {P : Int32 → xD → Prop} {x y b : Int32} (hI : mI D g) (h : ∀ D', mO D D' → P (aStop g.1 x y b) D') : xCi (d + 40) m_M_stop [.ref 325, .int x, .int y, .int b] D P := by
  refine xCi_of y_M_stop (Nat.le_of_ble_eq_true rfl) (s_M_stop_0 xk_M (fun D1 e1 => ?_))
  obtain ⟨o1, I1⟩ := m_0 hI e1
  unfold aStop at h
  refine c_M_layBook I1 (fun q D2 o2 => z0 ⟨_, rfl, ?_⟩) (fun τ η β q q1 hO hT hL hF hp q2 D2 o2 I2 H2 S2 pk Bk => z1 ?_)
  · have := h D2 (o1.trans o2)
    rcases q with q | q
    · rw [fOf_const (fun τ η => by rw [q])] at this; exact this
    · rw [q] at this; exact this
  · rw [q] at h
    simp only [q1] at h
    refine c_M_deeds Bk hO (c_M_play hT hF.1 H2 S2 pk hp.2.1 (fits_lt hT hp q2) (fits_A q2) Bk hO (Nat.le_refl _) (fun D3 o3 _ => ⟨_, rfl, h D3 (o1.trans (o2.trans (o3.o (by omega))))⟩))
theorem c_M_layState {P : Int32 → xD → Prop} {x y b n : Int32} (hI : mI D g) (h0 : stOf g.1 x y b n = none → ∀ D', mO D D' → P 0 D')
    (h1 : ∀ τ s, stOf g.1 x y b n = some (τ, s) → tOK τ → tFit τ → s.2.1.length < tN τ 5 → (∀ p, s.2.2.2.2.2 = some p → p < tN τ 5) → ∀ D', mO D D' → mBs D' (tN τ 5) (tN τ 2) (tN τ 0) s → P 1 D') : xCi (d + 6) m_M_layState [.ref 325, .int x, .int y, .int b, .int n] D P := by
  refine xCi_of y_M_layState (Nat.le_of_ble_eq_true rfl) (s_M_layState_0 xk_M ?_)
  unfold stOf at h0 h1
  refine c_M_layBook hI (fun q D2 o2 => z0 ⟨_, rfl, h0 ?_ D2 o2⟩) (fun τ η β q q1 hO hT hL hF hp q2 D2 o2 I2 H2 S2 pk Bk => z1 ?_)
  · rcases q with q | q
    · exact fOf_const (fun τ η => by rw [q])
    · exact q _ _ _
  · rw [q] at h0 h1
    simp only [q1] at h0 h1
    have m40 := (bOK_len hO).1
    refine c_M_deeds Bk hO (c_M_in0 (tN β 0 + 1) (by omega) (aI_s _).symm (fun q3 => z0 ⟨_, rfl, h0 (by rw [q3]) D2 o2⟩) (fun M q3 hM en => z1 ?_))
    simp only [q3] at h0 h1
    rw [en]
    refine c_M_play hT hF.1 H2 S2 pk hp.2.1 (fits_lt hT hp q2) (fits_A q2) Bk hO (by omega) (fun D3 o3 hB => ?_)
    have oo := o2.trans (o3.o (by omega))
    have hW0 := bW_init hT hF.1 hp.2.1 (fits_A q2) (fits_lt hT hp q2)
    have hle := bMany_le (N := tN τ 5) (A := tN τ 2) (K := tN τ 0) (β := β) (s0 := bInit τ (tN η 0) (hpC η)) M
    cases hr : bRun (tN τ 5) (tN τ 2) (tN τ 0) β (bInit τ (tN η 0) (hpC η)) M with
    | none =>
      have ne := bMany_ne hr
      refine ⟨fun _ => ⟨_, rfl, h0 (by rw [hr]; rfl) D3 oo⟩, fun z => ?_⟩
      have := (nI_eq (by omega) (by omega)).mp z
      omega
    | some s =>
      have em := bMany_at (show bRun (tN τ 5) (tN τ 2) (tN τ 0) β (bInit τ (tN η 0) (hpC η)) M ≠ none from by rw [hr]; exact fun z => by cases z)
      have hW := bRun_ok (n := tN η 0) hT.2.1.2 hW0 hr
      refine ⟨fun z => absurd (by rw [em]) z, fun _ => ⟨_, rfl, h1 τ s (by rw [hr]; rfl) hT hF hW.2.2.1 hW.2.2.2.2 D3 oo (hB s hr)⟩⟩
theorem c_M_state {P : Int32 → xD → Prop} {x y b n w : Int32} (hI : mI D g) (h : ∀ D', mO D D' → P (aState g.1 x y b n w) D') : xCi (d + 40) m_M_state [.ref 325, .int x, .int y, .int b, .int n, .int w] D P := by
  have l25 : xl (325 + 25) = 7 := cl_13_45 xk_M
  have l26 : xl (325 + 26) = 6 := cl_13_51 xk_M
  have l27 : xl (325 + 27) = 6 := cl_13_52 xk_M
  refine xCi_of y_M_state (Nat.le_of_ble_eq_true rfl) (s_M_state_0 xk_M (fun D1 e1 => ?_))
  obtain ⟨o1, I1⟩ := m_0 hI e1
  unfold aState at h
  refine c_M_layState I1 (fun q D2 o2 => z0' ⟨_, rfl, ?_⟩) (fun τ s q hT hF hl hlt D2 o2 hB => z1' ?_)
  · rw [q] at h; exact h D2 (o1.trans o2)
  · simp only [q] at h
    have hh := h D2 (o1.trans o2)
    have hN := hT.2.2.2.2.2.2.1
    obtain ⟨⟨a1, a2, a3, a4⟩, bd, c1, c2, c3, c4, c5, c8, c9⟩ := hB
    refine c_M_inR 10 s.2.1.length (by omega) (by omega) rfl (by rw [c3, show (9 : Int32) = nI 9 from rfl, nI_add, nI_1]; congr 1; omega) (fun p hp ew => z1 ?_) (fun n10 => z0 (c_M_inR 20 (tN τ 5) (by omega) (by omega) rfl (by rw [a3, show (19 : Int32) = nI 19 from rfl, nI_add, nI_1]; congr 1; omega) (fun p hp ew => z1 ?_) (fun n20 => z0 (c_M_inR 30 (tN τ 5) (by omega) (by omega) rfl (by rw [a3, show (29 : Int32) = nI 29 from rfl, nI_add, nI_1]; congr 1; omega) (fun p hp ew => z1 ?_) (fun n30 => z0 ?_)))))
    · rw [ew, bAns_nI (by omega), if_neg (by omega), if_neg (by omega), if_neg (by omega), if_neg (by omega), if_neg (by omega), if_neg (by omega), if_pos (by omega), Nat.add_sub_cancel_left] at hh
      have hg : s.2.1[p]? = some (s.2.1.getD p 0) := by
        rw [List.getD_eq_getElem?_getD, List.getElem?_eq_getElem hp]; rfl
      rw [ew, show nI (10 + p) - (10 : Int32) = nI (10 + p - 10) from pk_sub (b := 10) (by omega), Nat.add_sub_cancel_left, nI_clamp (n := p) (by omega), show D2.1 (325 + 26) p = _ from c8 p _ hg]
      exact ⟨by rw [l26]; exact vp_in_nI (by omega) (by omega), _, rfl, hh⟩
    · rw [ew, bAns_nI (by omega), if_neg (by omega), if_neg (by omega), if_neg (by omega), if_neg (by omega), if_neg (by omega), if_neg (by omega), if_neg (by omega), if_pos (by omega), Nat.add_sub_cancel_left] at hh
      rw [ew, show nI (20 + p) - (20 : Int32) = nI (20 + p - 20) from pk_sub (b := 20) (by omega), Nat.add_sub_cancel_left, nI_clamp (n := p) (by omega), show D2.1 (325 + 27) p = _ from c9 p hp]
      exact ⟨by rw [l27]; exact vp_in_nI (by omega) (by omega), _, rfl, hh⟩
    · rw [ew, bAns_nI (by omega), if_neg (by omega), if_neg (by omega), if_neg (by omega), if_neg (by omega), if_neg (by omega), if_neg (by omega), if_neg (by omega), if_neg (by omega), if_pos (by omega), Nat.add_sub_cancel_left] at hh
      have ln := (bd.2.2 p (by omega)).1
      rw [mQ_p hp] at ln
      rw [ew, show nI (30 + p) - (30 : Int32) = nI (30 + p - 30) from pk_sub (b := 30) (by omega), Nat.add_sub_cancel_left, nI_clamp (n := p) (by omega), show D2.1 (325 + 25) p = _ from ln]
      exact ⟨by rw [l25]; exact vp_in_nI (by omega) (by omega), _, rfl, hh⟩
    · have l6 := (bd.2.2 (tN τ 5) (Nat.le_refl _)).1
      rw [mQ_N] at l6
      have l0 := (bd.2.2 0 (by omega)).1
      have h05 := hF.1
      rw [mQ_p (by omega)] at l0
      have i25 : ∀ k, k < 7 → vp_in (nI k) (xl (325 + 25)) := fun k hk => by rw [l25]; exact vp_in_nI hk (by omega)
      refine ⟨fun c => ⟨_, rfl, ?_⟩, fun c => ⟨_, rfl, ?_⟩, fun c => ⟨_, rfl, ?_⟩, fun c => ⟨i25 6 (by omega), _, rfl, ?_⟩, fun c => ⟨i25 0 (by omega), _, rfl, ?_⟩, fun c => ⟨_, rfl, ?_⟩, fun c => ⟨_, rfl, ?_⟩⟩
      · rw [c, show bAns (tN τ 5) s (0 : Int32) = _ from bAns_nI (w := 0) (by omega), if_pos rfl] at hh
        rw [c1]; exact hh
      · rw [c, show bAns (tN τ 5) s (1 : Int32) = _ from bAns_nI (w := 1) (by omega), if_neg (by omega), if_pos rfl] at hh
        rw [c3]; exact hh
      · rw [c, show bAns (tN τ 5) s (2 : Int32) = _ from bAns_nI (w := 2) (by omega), if_neg (by omega), if_neg (by omega), if_pos rfl] at hh
        rw [c4]; exact hh
      · rw [c, show bAns (tN τ 5) s (3 : Int32) = _ from bAns_nI (w := 3) (by omega), if_neg (by omega), if_neg (by omega), if_neg (by omega), if_pos rfl] at hh
        rw [show D2.1 (325 + 25) ((6 : Int32)).toNatClampNeg = _ from l6]; exact hh
      · rw [c, show bAns (tN τ 5) s (4 : Int32) = _ from bAns_nI (w := 4) (by omega), if_neg (by omega), if_neg (by omega), if_neg (by omega), if_neg (by omega), if_pos rfl] at hh
        rw [show D2.1 (325 + 25) ((0 : Int32)).toNatClampNeg = _ from l0]; exact hh
      · rw [c, show bAns (tN τ 5) s (5 : Int32) = _ from bAns_nI (w := 5) (by omega), if_neg (by omega), if_neg (by omega), if_neg (by omega), if_neg (by omega), if_neg (by omega), if_pos rfl] at hh
        rw [c2]; exact hh
      · by_cases hx : w < 0
        · rw [bAns_neg hx] at hh; exact hh
        · obtain ⟨j, hj, rfl⟩ := nI_of hx
          rw [nI_toInt hj] at c
          rw [bAns_nI hj, if_neg (by omega), if_neg (by omega), if_neg (by omega), if_neg (by omega), if_neg (by omega), if_neg (by omega), if_neg (fun z => n10 (j - 10) (by omega) (by congr 1; omega)), if_neg (fun z => n20 (j - 20) (by omega) (by congr 1; omega)), if_neg (fun z => n30 (j - 30) (by omega) (by congr 1; omega))] at hh
          exact hh
theorem c_M_holds {P : Int32 → xD → Prop} {x y b n p k : Int32} (hI : mI D g) (h : ∀ D', mO D D' → P (aHolds g.1 x y b n p k) D') : xCi (d + 40) m_M_holds [.ref 325, .int x, .int y, .int b, .int n, .int p, .int k] D P := by
  have l21 : xl (325 + 21) = 78 := cl_13_41 xk_M
  have l22 : xl (325 + 22) = 6 := cl_13_42 xk_M
  refine xCi_of y_M_holds (Nat.le_of_ble_eq_true rfl) (s_M_holds_0 xk_M (fun D1 e1 => ?_))
  obtain ⟨o1, I1⟩ := m_0 hI e1
  unfold aHolds at h
  refine c_M_layState I1 (fun q D2 o2 => z0 ⟨_, rfl, ?_⟩) (fun τ s q hT hF hl hlt D2 o2 hB => z1 ?_)
  · rw [q] at h; exact h D2 (o1.trans o2)
  · simp only [q] at h
    have hh := h D2 (o1.trans o2)
    have hN := hT.2.2.2.2.2.2.1
    have hK := hT.2.1.2
    obtain ⟨⟨a1, a2, a3, a4⟩, bd, -⟩ := hB
    refine c_M_isOne a3 (by omega) (fun q1 => z0 ⟨_, rfl, ?_⟩) (fun i q1 hi hp => z1 ⟨fun kn => ⟨fun z => absurd kn z, fun _ => ?_⟩, fun kn => ?_⟩)
    · simp only [q1] at hh; exact hh
    · simp only [q1] at hh
      rw [if_pos kn] at hh
      rw [hp, nI_clamp (n := i) (by omega), show D2.1 (325 + 22) i = _ from bd.2.1 i hi]
      exact ⟨by rw [l22]; exact vp_in_nI (by omega) (by omega), _, rfl, hh⟩
    · simp only [q1] at hh
      rw [if_neg kn] at hh
      refine c_M_isKind a1 (by omega) (fun q2 => z0' ⟨_, rfl, ?_⟩) (fun j q2 hj ek => z1' ⟨fun _ => ?_, fun z => absurd z kn⟩)
      · simp only [q2] at hh; exact hh
      · simp only [q2] at hh
        rw [hp, ek, ix13', nI_clamp (n := 13 * i + j) (by omega), show D2.1 (325 + 21) (13 * i + j) = _ from bd.1 i hi j (by omega)]
        exact ⟨by rw [l21]; exact vp_in_nI (by omega) (by omega), _, rfl, hh⟩
end MSTATE
