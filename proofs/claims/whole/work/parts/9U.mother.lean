/-! The reference: what another pace, eyes, law or seat would do. -/
theorem eBy_le (τ : Nat → Int32) (seed : Int32) (k p w s : Nat) : eBy τ seed k p w s ≤ k := eCnt_le _ _ _
theorem eBy_is (τ : Nat → Int32) (seed : Int32) (k p w s : Nat) : eBy τ seed k p w s = eLst (tChange τ p w s) seed (tSeatOf p w s) k := rfl
section MOTHER
variable {d : Nat} {D : xD} {g : gS} {τ : Nat → Int32}
theorem c_M_leastOf {P : Int32 → xD → Prop} {w : Nat} (hw : w ≤ 5) (h : P (nI (leastV w)) D) : xCi (d + 1) m_M_leastOf [.ref 325, .int (nI w)] D P := by
  refine xCi_of y_M_leastOf (Nat.le_of_ble_eq_true rfl) (s_M_leastOf_0 xk_M ⟨fun c => ⟨_, rfl, ?_⟩, fun c => ⟨_, rfl, ?_⟩⟩)
  · have := (nI_leI (a := 2) (by omega) (by omega)).mp c
    unfold leastV at h
    rw [if_neg (by omega)] at h; exact h
  · unfold leastV at h
    rw [if_pos (Nat.lt_of_not_le (fun z => c (nI_le (a := 2) z (by omega))))] at h; exact h
theorem c_M_mostOf {P : Int32 → xD → Prop} {w : Nat} (e30 : D.1 325 30 = nI (tN τ 5)) (h0 : 0 < tN τ 5) (hw : w ≤ 5) (h : P (nI (mostV τ w)) D) : xCi (d + 1) m_M_mostOf [.ref 325, .int (nI w)] D P := by
  have inj : ∀ u : Nat, u < 10 → nI w = nI u → w = u := fun u hu q => (nI_eq (by omega) (by omega)).mp q
  unfold mostV at h
  refine xCi_of y_M_mostOf (Nat.le_of_ble_eq_true rfl) (s_M_mostOf_0 xk_M ⟨fun c => ⟨fun c3 => ⟨fun c4 => ⟨_, rfl, ?_⟩, fun c4 => ⟨_, rfl, ?_⟩⟩, fun c3 => ⟨_, rfl, ?_⟩⟩, fun c => ⟨_, rfl, ?_⟩⟩)
  · have := (nI_leI (a := 3) (by omega) (by omega)).mp c
    have n3 : w ≠ 3 := fun z => c3 (by rw [z]; rfl)
    have n4 : w ≠ 4 := fun z => c4 (by rw [z]; rfl)
    rw [if_neg (by omega), if_neg n3, if_neg n4] at h
    rw [e30, show nI (tN τ 5) - (1 : Int32) = nI (tN τ 5 - 1) from pk_sub (b := 1) (by omega)]; exact h
  · have := inj 4 (by omega) c4
    rw [if_neg (by omega), if_neg (by omega), if_pos this] at h; exact h
  · have := inj 3 (by omega) c3
    rw [if_neg (by omega), if_pos this] at h; exact h
  · rw [if_pos (Nat.lt_of_not_le (fun z => c (nI_le (a := 3) z (by omega))))] at h; exact h
theorem most_least (τ : Nat → Int32) (hF : tFit τ) (w : Nat) : leastV w ≤ mostV τ w := by
  have := hF.1
  unfold leastV mostV
  split
  · rw [if_pos (by omega)]; omega
  · omega
theorem c_M_otherwise {P : Int32 → xD → Prop} {x seed k p s v z : Int32} (hI : mI D g) (h : ∀ D', mO D D' → P (aOtherwise g.1 x seed k p s v z) D') : xCi (d + 40) m_M_otherwise [.ref 325, .int x, .int seed, .int k, .int p, .int s, .int v, .int z] D P := by
  have l31 : xl (325 + 31) = 6 := cl_13_63 xk_M
  have l32 : xl (325 + 32) = 6 := cl_13_64 xk_M
  refine xCi_of y_M_otherwise (Nat.le_of_ble_eq_true rfl) (s_M_otherwise_0 xk_M (fun D1 e1 => ?_))
  obtain ⟨o1, I1⟩ := m_0 hI e1
  unfold aOtherwise at h
  have no : (kOf k = none ∨ slotOf 6 s = none) → P (-1) D1 := by
    intro q
    have := h D1 o1
    cases h1 : txO g.1 0 x with
    | none => rw [h1] at this; exact this
    | some τ =>
      simp only [h1] at this
      cases h2 : slotOf (tN τ 5) p with
      | none => rw [h2] at this; exact this
      | some i =>
        simp only [h2] at this
        rcases q with q | q
        · rw [q] at this; exact this
        · cases h3 : kOf k with
          | none => rw [h3] at this; exact this
          | some m => simp only [h3, q] at this; exact this
  refine c_M_inK (fun q => z0 ⟨_, rfl, no (Or.inl q)⟩) (fun m qk => z1 (c_M_in0 6 (by omega) (by decide) (fun q => z0 ⟨_, rfl, no (Or.inr q)⟩) (fun w qw hw ew => z1 ?_)))
  clear no
  refine c_M_hand I1 (fun q1 => z0 ⟨_, rfl, ?_⟩) (fun τ q1 hT hL hF D2 o2 I2 H2 S2 W2 => z1 ?_)
  · rw [q1] at h; exact h D1 o1
  simp only [q1] at h
  have o12 := o1.trans (o2.o (by omega))
  have hN := hT.2.2.2.2.2.2.1
  have h02 := hF.1
  have e30 : D2.1 325 30 = nI (tN τ 5) := by rw [H2.2.2.2.2]; exact hT.1 5 (by omega)
  refine c_M_isOne e30 (by omega) (fun q2 => z0 ⟨_, rfl, ?_⟩) (fun i q2 hi ep => z1 ?_)
  · rw [q2] at h; exact h D2 o12
  simp only [q2, qk, qw] at h
  obtain ⟨m1, m20, em⟩ := kOf_some qk
  have i31 : vp_in (nI i) (xl (325 + 31)) := by rw [l31]; exact vp_in_nI (by omega) (by omega)
  have i32 : vp_in (nI i) (xl (325 + 32)) := by rw [l32]; exact vp_in_nI (by omega) (by omega)
  -- a value is tried
  have go : ∀ u, leastV w ≤ u → u ≤ mostV τ w → ∀ D' {Q : xD → Prop}, mO D D' → mH D' τ → (∀ D3, mO D D3 → mH D3 τ → D3.1 357 i = nI (eBy τ seed m i w u) → D3.1 356 i = nI (eFst (tChange τ i w u) seed (some (tSeatOf i w u)) m) → Q D3) →
      xCv (d + 39) m_M_change [.ref 325, .int p, .int s, .int (nI u)] D' (fun D1 => ∀ D2 : xD, D2 = (xu D1.1 325 59 seed, D1.2) → xCv (d + 39) m_M_playLuck [.ref 325, .int k] D2 Q) := by
    intro u u1 u2 D' Q o H hQ
    rw [ep, ew, em]
    refine c_M_change hT hL hF H hi (by omega) u1 u2 (fun D3 σ f o3 S3 W3 sT sL sF s0 s1 s2 s5 f6 fi ts fs eF eL D4 e4 => ?_)
    obtain ⟨o4, f4⟩ := mf e4
    have H3 := H.fr o3 (by omega) (by omega)
    have H4 := H3.fr o4 (by omega) (by omega)
    refine c_M_playLuck (f := f) sT sL sF (S3.fr o4 (by omega) (by omega)) (by rw [s0, H4.2.1]; exact hT.1 0 (by omega)) (by rw [s1, H4.2.2.1]; exact hT.1 1 (by omega)) (by rw [s2, H4.2.2.2.1]; exact hT.1 2 (by omega)) (by rw [s5]; exact W3.fr o4 (by omega)) (by rw [s5]; exact f6) (by rw [s5]; exact fi) f4 m20 (fun D5 o5 a65 af al => ?_)
    have a1 := al _ (by rw [s5]; exact ts)
    have a2 := af _ (by rw [s5]; exact ts)
    rw [fs] at a1 a2
    refine hQ D5 (o.trans ((o3.o (by omega)).trans ((o4.o (by omega)).trans o5.o))) (H4.lk o5) ?_ ?_
    · rw [a1, eL, eBy_is]
    · rw [a2, eF]
  have ml := most_least τ hF w
  have m20' := mostV_20 hT w
  have n30 : ∀ D', mH D' τ → D'.1 325 30 = nI (tN τ 5) := fun D' H => by rw [H.2.2.2.2]; exact hT.1 5 (by omega)
  by_cases vn : v = -1
  · rw [if_pos vn] at h
    refine ⟨fun _ => ⟨fun y => absurd vn y, fun _ => ?_⟩, fun y => absurd vn y⟩
    rw [ew]
    refine c_M_leastOf (by omega) ?_
    rw [← ew]
    -- value by value
    have key : ∀ r n, n + r = mostV τ w + 1 - leastV w → ∀ D' b c, mO D D' → mH D' τ → ((n = 0 ∧ b = -1 ∧ c = 1000000) ∨ ∃ b' c', eBst (eBy τ seed m i w) (leastV w) n = some (b', c') ∧ b = nI b' ∧ c = nI c' ∧ c' ≤ 20) →
        xPf (d + 40) m_M_otherwise 97 [(0, .ref 325), (1, .int x), (2, .int seed), (3, .int k), (4, .int p), (5, .int s), (6, .int v), (7, .int z), (8, .int b), (9, .int c), (10, .int (nI (leastV w + n)))] [] D' (fun r D' => ∃ v, r = some (.int v) ∧ P v D') := by
      intro r
      induction r with
      | zero =>
        intro n hn D' b c o H hb
        refine s_M_otherwise_97 xk_M ⟨fun y => absurd vn y, fun _ => ?_⟩
        rw [ew]
        refine c_M_mostOf (n30 D' H) (by omega) (by omega) ⟨fun _ => ⟨fun y => absurd vn y, fun _ => ⟨_, rfl, ?_⟩⟩, fun y => absurd (nI_lt (by omega) (by omega)) y⟩
        rcases hb with ⟨n0, -⟩ | ⟨b', c', q, eb, -⟩
        · omega
        · have := h D' o
          have en : n = mostV τ w + 1 - leastV w := by omega
          rw [en] at q
          unfold eBest at this
          rw [q] at this
          rw [eb]; exact this
      | succ r ih =>
        intro n hn D' b c o H hb
        have hle := eBy_le τ seed m i w (leastV w + n)
        refine s_M_otherwise_97 xk_M ⟨fun y => absurd vn y, fun _ => ?_⟩
        rw [show xCi (d + 39) m_M_mostOf [.ref 325, .int s] = xCi (d + 39) m_M_mostOf [.ref 325, .int (nI w)] by rw [ew]]
        refine c_M_mostOf (n30 D' H) (by omega) (by omega) ⟨fun y => absurd y (nI_nlt (by omega) (by omega)), fun _ => ?_⟩
        refine go (leastV w + n) (by omega) (by omega) D' o H (fun D3 o3 H3 al _ => ?_)
        have al' : D3.1 (325 + 32) (p).toNatClampNeg = nI (eBy τ seed m i w (leastV w + n)) := by rw [ep, nI_clamp (n := i) (by omega)]; exact al
        rw [al', nI_1]
        have i32' : vp_in p (xl (325 + 32)) := by rw [ep]; exact i32
        rcases hb with ⟨n0, eb, ec⟩ | ⟨b', c', q, eb, ec, c20⟩
        · subst n0
          rw [ec]
          refine ⟨i32', fun y => ?_, fun y => ⟨i32', c_M_lesser ?_⟩⟩
          · have := (nI_leI (a := 1000000) (by omega) (by omega)).mp y
            omega
          · rw [if_pos (show nI (eBy τ seed m i w (leastV w + 0)) ≤ (1000000 : Int32) from nI_le (b := 1000000) (by omega) (by omega))]
            exact ih 1 (by omega) D3 _ _ o3 H3 (Or.inr ⟨_, _, rfl, rfl, rfl, Nat.le_trans hle m20⟩)
        · rw [ec]
          have es := eBst_some q
          simp only [] at es
          refine ⟨i32', fun y => ⟨i32', c_M_lesser ?_⟩, fun y => ⟨i32', c_M_lesser ?_⟩⟩
          · have hy := (nI_leI (by omega) (by omega)).mp y
            rw [if_neg (by omega)] at es
            refine ih (n + 1) (by omega) D3 _ _ o3 H3 (Or.inr ⟨b', c', es, eb, ?_, c20⟩)
            by_cases w2 : eBy τ seed m i w (leastV w + n) ≤ c'
            · rw [if_pos (nI_le w2 (by omega)), show eBy τ seed m i w (leastV w + n) = c' by omega]
            · rw [if_neg (nI_ge (by omega) (by omega))]
          · have hy : eBy τ seed m i w (leastV w + n) < c' := Nat.lt_of_not_le (fun w2 => y (nI_le w2 (by omega)))
            rw [if_pos hy] at es
            refine ih (n + 1) (by omega) D3 _ _ o3 H3 (Or.inr ⟨_, _, es, rfl, ?_, by omega⟩)
            rw [if_pos (nI_le (by omega) (by omega))]
    exact key (mostV τ w + 1 - leastV w) 0 (by omega) D2 (-1) 1000000 o12 H2 (Or.inl ⟨rfl, rfl, rfl⟩)
  · rw [if_neg vn] at h
    refine ⟨fun y => absurd y vn, fun _ => ?_⟩
    rw [show xCi (d + 39) m_M_leastOf [.ref 325, .int s] = xCi (d + 39) m_M_leastOf [.ref 325, .int (nI w)] by rw [ew]]
    refine c_M_leastOf (by omega) ?_
    rw [show xCi (d + 39) m_M_mostOf [.ref 325, .int s] = xCi (d + 39) m_M_mostOf [.ref 325, .int (nI w)] by rw [ew]]
    refine c_M_mostOf e30 (by omega) (by omega) ?_
    refine c_M_in (fun c => z0' ⟨_, rfl, ?_⟩) (fun c c1 => z1' ⟨fun _ => ?_, fun y => absurd y vn⟩)
    · have := h D2 o12
      cases hv : slotOf 21 v with
      | none => rw [hv] at this; exact this
      | some u =>
        obtain ⟨hu, ev⟩ := slot_some hv
        simp only [hv] at this
        rw [if_neg (fun y => ?_)] at this
        · exact this
        · rw [ev] at c
          rcases c with c | c
          · have := (nI_ltI (by omega) (by omega)).mp c; omega
          · have := (nI_ltI (by omega) (by omega)).mp c; omega
    · have c0 : ¬ v < 0 := fun y => by
        refine c ?_
        exact neg_lt y (by have := ml; omega)
      obtain ⟨u, hu, ev⟩ := nI_of c0
      have u1 : leastV w ≤ u := Nat.le_of_not_lt (fun y => c (by rw [ev]; exact nI_lt y (by omega)))
      have u2 : u ≤ mostV τ w := Nat.le_of_not_lt (fun y => c1 (by rw [ev]; exact nI_lt y hu))
      have sv : slotOf 21 v = some u := by rw [ev]; exact slot_nI (by omega) (by omega)
      simp only [sv] at h
      rw [if_pos ⟨u1, u2⟩] at h
      refine s_M_otherwise_97 xk_M ⟨fun _ => ⟨fun y => absurd y (by rw [ev]; exact nI_nlt (Nat.le_refl _) (by omega)), fun _ => ?_⟩, fun y => absurd y vn⟩
      rw [show xCv (d + 39) m_M_change [.ref 325, .int p, .int s, .int v] = xCv (d + 39) m_M_change [.ref 325, .int p, .int s, .int (nI u)] by rw [ev]]
      refine go u u1 u2 D2 o12 H2 (fun D3 o3 H3 al af => ?_)
      have i32' : vp_in p (xl (325 + 32)) := by rw [ep]; exact i32
      have i31' : vp_in p (xl (325 + 31)) := by rw [ep]; exact i31
      have al' : D3.1 (325 + 32) (p).toNatClampNeg = nI (eBy τ seed m i w u) := by rw [ep, nI_clamp (n := i) (by omega)]; exact al
      have af' : D3.1 (325 + 31) (p).toNatClampNeg = nI (eFst (tChange τ i w u) seed (some (tSeatOf i w u)) m) := by rw [ep, nI_clamp (n := i) (by omega)]; exact af
      -- only one is tried
      have fin : ∀ b c, xPf (d + 40) m_M_otherwise 97 [(0, .ref 325), (1, .int x), (2, .int seed), (3, .int k), (4, .int p), (5, .int s), (6, .int v), (7, .int z), (8, .int b), (9, .int c), (10, .int (v + (1 : Int32)))] [] D3 (fun r D' => ∃ v, r = some (.int v) ∧ P v D') := by
        intro b c
        have := h D3 o3
        refine s_M_otherwise_97 xk_M ⟨fun _ => ⟨fun _ => ⟨fun _ => ⟨fun y => ⟨i32', _, rfl, ?_⟩, fun y => ⟨i31', _, rfl, ?_⟩⟩, fun y => absurd y vn⟩, fun y => absurd (by rw [ev, nI_1]; exact nI_lt (by omega) (by omega)) y⟩, fun y => absurd y vn⟩
        · rw [if_pos y] at this; rw [al']; exact this
        · rw [if_neg y] at this; rw [af']; exact this
      exact ⟨i32', fun _ => ⟨i32', c_M_lesser (fin _ _)⟩, fun _ => ⟨i32', c_M_lesser (fin _ _)⟩⟩
end MOTHER
