/-! The reference's answers of what is told. -/
theorem k00 : ((0 : Int32) : Int32).toNatClampNeg = 0 := by decide
section M2
variable {d : Nat} {D : xD} {g : gS}
theorem m_0 {D1 : xD} (hI : mI D g) (e : D1 = (xu D.1 325 0 (0 : Int32), D.2)) : mO D D1 ∧ mI D1 g := by
  obtain ⟨o, -⟩ := mf e
  have o' : mO D D1 := o.o (by omega)
  exact ⟨o', hI.o o'⟩
theorem c_M_table {P : Int32 → xD → Prop} {x w : Int32} (hI : mI D g) (h : ∀ D', mO D D' → P (aTable g.1 x w) D') : xCi (d + 40) m_M_table [.ref 325, .int x, .int w] D P := by
  refine xCi_of y_M_table (Nat.le_of_ble_eq_true rfl) (s_M_table_0 xk_M (fun D1 e1 => ?_))
  obtain ⟨o1, I1⟩ := m_0 hI e1
  unfold aTable at h
  refine c_M_hand I1 (fun q => z0 ⟨_, rfl, ?_⟩) (fun τ q hT hL hF D2 o2 I2 H2 S2 W2 => z1 ?_)
  · rw [q] at h; exact h D1 o1
  · simp only [q] at h
    have o := o1.trans (o2.o (by omega))
    refine c_M_in0 6 (by omega) (by decide) (fun q1 => z0 ⟨_, rfl, ?_⟩) (fun j q1 hj hx => z1 ?_)
    · rw [q1] at h; exact h D2 o
    · simp only [q1] at h
      obtain ⟨⟨t, T⟩, -⟩ := H2
      rw [hx]
      exact c_M_of T (by omega) ⟨_, rfl, h D2 o⟩
theorem c_M_person {P : Int32 → xD → Prop} {x p w : Int32} (hI : mI D g) (h : ∀ D', mO D D' → P (aPerson g.1 x p w) D') : xCi (d + 40) m_M_person [.ref 325, .int x, .int p, .int w] D P := by
  refine xCi_of y_M_person (Nat.le_of_ble_eq_true rfl) (s_M_person_0 xk_M (fun D1 e1 => ?_))
  obtain ⟨o1, I1⟩ := m_0 hI e1
  unfold aPerson at h
  refine c_M_hand I1 (fun q => z0 ⟨_, rfl, ?_⟩) (fun τ q hT hL hF D2 o2 I2 H2 S2 W2 => z1 ?_)
  · rw [q] at h; exact h D1 o1
  · simp only [q] at h
    have o := o1.trans (o2.o (by omega))
    have b5 := hT.2.2.2.2.2.2.1
    refine c_M_isOne (by rw [H2.2.2.2.2]; exact hT.1 5 (by omega)) (by omega) (fun q1 => z0 ⟨_, rfl, ?_⟩) (fun i q1 hi hp => z1 ?_)
    · rw [q1] at h; exact h D2 o
    · simp only [q1] at h
      refine c_M_in0 7 (by omega) (by decide) (fun q2 => z0 ⟨_, rfl, ?_⟩) (fun j q2 hj hx => z1 ?_)
      · rw [q2] at h; exact h D2 o
      · simp only [q2] at h
        obtain ⟨⟨t, T⟩, -⟩ := H2
        rw [hx, hp]
        exact c_M_ofOne T (by omega) (by omega) ⟨_, rfl, h D2 o⟩
theorem c_M_fault {P : Int32 → xD → Prop} {w : Int32} (hI : mI D g) (h : ∀ D', mO D D' → P (aFault g.1 w) D') : xCi (d + 40) m_M_fault [.ref 325, .int w] D P := by
  have l3 : xl (325 + 3) = 4 := cl_13_3 xk_M
  have l4 : xl (325 + 4) = 4 := cl_13_4 xk_M
  refine xCi_of y_M_fault (Nat.le_of_ble_eq_true rfl) (s_M_fault_0 xk_M (fun D1 e1 => ?_))
  obtain ⟨o1, I1⟩ := m_0 hI e1
  unfold aFault at h
  rw [k00]
  refine ⟨fun c => ⟨fun c1 => ⟨_, rfl, ?_⟩, fun c1 => ⟨by rw [l4]; exact vp_in_nI (n := 0) (by omega) (by omega), _, rfl, ?_⟩⟩, fun c => ⟨by rw [l3]; exact vp_in_nI (n := 0) (by omega) (by omega), _, rfl, ?_⟩⟩
  · rw [if_neg c, if_neg c1] at h; exact h D1 o1
  · rw [if_neg c, if_pos c1, ← I1.1.2.2.2.1] at h; exact h D1 o1
  · rw [if_pos c, ← I1.1.2.2.1] at h; exact h D1 o1
theorem c_M_count {P : Int32 → xD → Prop} {s : Int32} (hI : mI D g) (h : ∀ D', mO D D' → P (howI g.1 s) D') : xCi (d + 40) m_M_count [.ref 325, .int s] D P := by
  have l5 : xl (325 + 5) = 20 := cl_13_5 xk_M
  refine xCi_of y_M_count (Nat.le_of_ble_eq_true rfl) (s_M_count_0 xk_M (fun D1 e1 => ?_))
  obtain ⟨o1, I1⟩ := m_0 hI e1
  unfold howI at h
  refine c_M_in0 5 (by omega) (by decide) (fun q => z0 ⟨_, rfl, ?_⟩) (fun k q hk hx => z1 ?_)
  · rw [q] at h; exact h D1 o1
  · simp only [q] at h
    rw [hx, nI_clamp (by omega)]
    refine ⟨by rw [l5]; exact vp_in_nI (by omega) (by omega), _, rfl, ?_⟩
    have := I1.1.2.2.2.2.1 k hk
    rw [show 5 * 0 + k = k by omega] at this
    rw [← this] at h; exact h D1 o1
theorem c_M_card {P : Int32 → xD → Prop} {x k : Int32} (hI : mI D g) (h : ∀ D', mO D D' → P (aCard g.1 x k) D') : xCi (d + 40) m_M_card [.ref 325, .int x, .int k] D P := by
  have l7 : xl (325 + 7) = 424 := cl_13_7 xk_M
  refine xCi_of y_M_card (Nat.le_of_ble_eq_true rfl) (s_M_card_0 xk_M (fun D1 e1 => ?_))
  obtain ⟨o1, I1⟩ := m_0 hI e1
  unfold aCard at h
  refine c_M_is (s := 1) I1 (by omega) (fun q => z0' ⟨_, rfl, ?_⟩) (fun i hi hi2 hx q => z1' ?_)
  · rw [q] at h; exact h D1 o1
  · simp only [q] at h
    obtain ⟨t0, t1, t2⟩ := ((I1.2.1.2.2 1 (by omega)).2 i hi).2.1 rfl
    generalize hη : g.1.2.2.2 1 i = η at h t0 t1 t2
    have tx : ∀ j, j < 53 → D1.1 (325 + 7) (53 * i + j) = η j := fun j hj => by rw [← hη]; exact m_tx (s := 1) I1 (by omega) hi hj
    rw [hx, show (53 : Int32) * nI i = nI (53 * i) from pk_mul 53 i, nI_clamp (by omega), nI_1]
    have t00 : D1.1 (325 + 7) (53 * i) = η 0 := tx 0 (by omega)
    rw [t00, t0]
    refine ⟨by rw [l7]; exact vp_in_nI (by omega) (by omega), fun c => ?_, fun c => ⟨_, rfl, ?_⟩⟩
    · rw [if_neg c] at h
      refine c_M_in0 (tN η 0) (by omega) rfl (fun q1 => z0 ⟨_, rfl, ?_⟩) (fun j q1 hj hk => z1 ?_)
      · rw [q1] at h; exact h D1 o1
      · simp only [q1] at h
        rw [hk, nI_add, nI_clamp (by omega)]
        refine ⟨by rw [l7]; exact vp_in_nI (by omega) (by omega), _, rfl, ?_⟩
        have := tx (1 + j) (by omega)
        rw [← Nat.add_assoc] at this
        rw [← this] at h; exact h D1 o1
    · rw [if_pos c] at h; exact h D1 o1
/-- the book in hand -/
def mBk (D : xD) (β : Nat → Int32) : Prop := ∃ b, b < 2 ∧ D.1 325 46 = nI b ∧ ∀ j, j < 121 → D.1 333 (121 * b + j) = β j
theorem mBk.fr {D D' : xD} {lo hi f g : Nat} {β : Nat → Int32} (h : mBk D β) (o : mF lo hi f g D D') (q : 333 < lo ∨ hi ≤ 333) (r : 46 < f ∨ g ≤ 46) : mBk D' β := by
  obtain ⟨b, h0, h1, h2⟩ := h
  exact ⟨b, h0, by rw [o.2 46 r]; exact h1, fun j hj => by rw [(o.1 333 (by omega) q).1]; exact h2 j hj⟩
theorem c_M_hasBook {P : Int32 → xD → Prop} {x : Int32} (hI : mI D g) (h0 : ∀ D', mF 0 0 46 47 D D' → mI D' g → txO g.1 2 x = none → P 0 D') (h1 : ∀ β D', mF 0 0 46 47 D D' → mI D' g → txO g.1 2 x = some β → bOK β → mBk D' β → P 1 D') : xCi (d + 3) m_M_hasBook [.ref 325, .int x] D P := by
  refine xCi_of y_M_hasBook (Nat.le_of_ble_eq_true rfl) (s_M_hasBook_0 xk_M (fun D1 e1 => ?_))
  obtain ⟨o1, f1⟩ := mf e1
  have I1 := hI.o (o1.o (by omega))
  refine c_M_is (s := 2) I1 (by omega) (fun q => ⟨Or.inl rfl, _, rfl, h0 D1 o1 I1 q⟩) (fun i hi hi2 hx q => ⟨Or.inr rfl, _, rfl, h1 _ D1 o1 I1 q (((I1.2.1.2.2 2 (by omega)).2 i hi).2.2.1 rfl) ⟨i, hi2, by rw [f1, hx], fun j hj => m_tx (s := 2) I1 (by omega) hi hj⟩⟩)
theorem c_M_deeds {P : Int32 → xD → Prop} {β : Nat → Int32} (H : mBk D β) (hO : bOK β) (h : P (nI (tN β 0)) D) : xCi (d + 1) m_M_deeds [.ref 325] D P := by
  have l8 : xl (325 + 8) = 968 := cl_13_8 xk_M
  obtain ⟨b, h0, h1, h2⟩ := H
  refine xCi_of y_M_deeds (Nat.le_of_ble_eq_true rfl) (s_M_deeds_0 xk_M ?_)
  rw [h1, show (121 : Int32) * nI b = nI (121 * b) from pk_mul 121 b, nI_clamp (by omega)]
  refine ⟨by rw [l8]; exact vp_in_nI (by omega) (by omega), _, rfl, ?_⟩
  have := h2 0 (by omega)
  rw [Nat.add_zero, (bOK_len hO).2.1] at this
  rw [← this] at h; exact h
theorem c_M_deedOf {P : Int32 → xD → Prop} {β : Nat → Int32} {k w : Nat} (H : mBk D β) (hk : k < 40) (hw : w < 3) (h : P (β (1 + 3 * k + w)) D) : xCi (d + 1) m_M_deedOf [.ref 325, .int (nI k), .int (nI w)] D P := by
  have l8 : xl (325 + 8) = 968 := cl_13_8 xk_M
  obtain ⟨b, h0, h1, h2⟩ := H
  refine xCi_of y_M_deedOf (Nat.le_of_ble_eq_true rfl) (s_M_deedOf_0 xk_M ?_)
  rw [h1, show (121 : Int32) * nI b = nI (121 * b) from pk_mul 121 b, show (3 : Int32) * nI k = nI (3 * k) from pk_mul 3 k, nI_1, nI_add, nI_add, nI_clamp (by omega)]
  refine ⟨by rw [l8]; exact vp_in_nI (by omega) (by omega), _, rfl, ?_⟩
  have := h2 (1 + 3 * k + w) (by omega)
  rw [show 121 * b + (1 + 3 * k + w) = 121 * b + 1 + 3 * k + w by omega] at this
  rw [← this] at h; exact h
theorem c_M_deed {P : Int32 → xD → Prop} {b k w : Int32} (hI : mI D g) (h : ∀ D', mO D D' → P (aDeed g.1 b k w) D') : xCi (d + 40) m_M_deed [.ref 325, .int b, .int k, .int w] D P := by
  refine xCi_of y_M_deed (Nat.le_of_ble_eq_true rfl) (s_M_deed_0 xk_M (fun D1 e1 => ?_))
  obtain ⟨o1, I1⟩ := m_0 hI e1
  unfold aDeed at h
  refine c_M_hasBook I1 (fun D2 o2 I2 q => z0' ⟨_, rfl, ?_⟩) (fun β D2 o2 I2 q hO H => z1' ?_)
  · rw [q] at h; exact h D2 (o1.trans (o2.o (by omega)))
  · simp only [q] at h
    have o := o1.trans (o2.o (by omega))
    have h40 := (bOK_len hO).1
    refine ⟨fun c => c_M_deeds H hO (c_M_in0 (tN β 0) (by omega) rfl (fun q1 => z0 ⟨_, rfl, ?_⟩) (fun i q1 hi hx => z1 (c_M_in0 3 (by omega) (by decide) (fun q2 => z0 ⟨_, rfl, ?_⟩) (fun j q2 hj hx2 => z1 ?_)))), fun c => ⟨fun c1 => ⟨_, rfl, ?_⟩, fun c1 => c_M_deeds H hO ⟨_, rfl, ?_⟩⟩⟩
    · rw [if_neg c, q1] at h; exact h D2 o
    · rw [if_neg c] at h; simp only [q1, q2] at h; exact h D2 o
    · rw [if_neg c] at h; simp only [q1, q2] at h
      rw [hx, hx2]
      exact c_M_deedOf H (by omega) hj ⟨_, rfl, h D2 o⟩
    · rw [if_pos c, if_neg c1] at h; exact h D2 o
    · rw [if_pos c, if_pos c1] at h; exact h D2 o
/-- the film in hand -/
def mFm (D : xD) (φ : Nat → Int32) : Prop := ∃ b, b < 2 ∧ D.1 325 76 = nI b ∧ ∀ j, j < 21 → D.1 335 (21 * b + j) = φ j
theorem mFm.fr {D D' : xD} {lo hi f g : Nat} {φ : Nat → Int32} (h : mFm D φ) (o : mF lo hi f g D D') (q : 335 < lo ∨ hi ≤ 335) (r : 76 < f ∨ g ≤ 76) : mFm D' φ := by
  obtain ⟨b, h0, h1, h2⟩ := h
  exact ⟨b, h0, by rw [o.2 76 r]; exact h1, fun j hj => by rw [(o.1 335 (by omega) q).1]; exact h2 j hj⟩
theorem c_M_frames {P : Int32 → xD → Prop} {φ : Nat → Int32} (H : mFm D φ) (hO : fOK φ) (h : P (nI (tN φ 0)) D) : xCi (d + 1) m_M_frames [.ref 325] D P := by
  have l : xl (325 + 10) = 168 := cl_13_10 xk_M
  obtain ⟨b, h0, h1, h2⟩ := H
  refine xCi_of y_M_frames (Nat.le_of_ble_eq_true rfl) (s_M_frames_0 xk_M ?_)
  rw [h1, show (21 : Int32) * nI b = nI (21 * b) from pk_mul 21 b, nI_clamp (by omega)]
  refine ⟨by rw [l]; exact vp_in_nI (by omega) (by omega), _, rfl, ?_⟩
  have := h2 0 (by omega)
  rw [Nat.add_zero, hO.1] at this
  rw [← this] at h; exact h
theorem c_M_frameOf {P : Int32 → xD → Prop} {φ : Nat → Int32} {k w : Nat} (H : mFm D φ) (hk : k < 10) (hw : w < 2) (h : P (φ (1 + 2 * k + w)) D) : xCi (d + 1) m_M_frameOf [.ref 325, .int (nI k), .int (nI w)] D P := by
  have l : xl (325 + 10) = 168 := cl_13_10 xk_M
  obtain ⟨b, h0, h1, h2⟩ := H
  refine xCi_of y_M_frameOf (Nat.le_of_ble_eq_true rfl) (s_M_frameOf_0 xk_M ?_)
  rw [h1, show (21 : Int32) * nI b = nI (21 * b) from pk_mul 21 b, show (2 : Int32) * nI k = nI (2 * k) from pk_mul 2 k, nI_1, nI_add, nI_add, nI_clamp (by omega)]
  refine ⟨by rw [l]; exact vp_in_nI (by omega) (by omega), _, rfl, ?_⟩
  have := h2 (1 + 2 * k + w) (by omega)
  rw [show 21 * b + (1 + 2 * k + w) = 21 * b + 1 + 2 * k + w by omega] at this
  rw [← this] at h; exact h
theorem c_M_frame {P : Int32 → xD → Prop} {b k w : Int32} (hI : mI D g) (h : ∀ D', mO D D' → P (aFrame g.1 b k w) D') : xCi (d + 40) m_M_frame [.ref 325, .int b, .int k, .int w] D P := by
  refine xCi_of y_M_frame (Nat.le_of_ble_eq_true rfl) (s_M_frame_0 xk_M (fun D1 e1 => ?_))
  obtain ⟨o1, I1⟩ := m_0 hI e1
  unfold aFrame at h
  refine c_M_is (s := 4) I1 (by omega) (fun q => z0' ⟨_, rfl, ?_⟩) (fun i hi hi2 hx q => z1' (fun D2 e2 => ?_))
  · rw [q] at h; exact h D1 o1
  · simp only [q] at h
    have hO := ((I1.2.1.2.2 4 (by omega)).2 i hi).2.2.2.2 rfl
    obtain ⟨o2, f2⟩ := mf e2
    have I2 := I1.o (o2.o (by omega))
    have H : mFm D2 (g.1.2.2.2 4 i) := ⟨i, hi2, by rw [f2, hx], fun j hj => m_tx (s := 4) I2 (by omega) hi hj⟩
    generalize g.1.2.2.2 4 i = φ at h hO H
    have o := o1.trans (o2.o (by omega))
    have h10 := hO.2.1
    refine ⟨fun c => c_M_frames H hO (c_M_in0 (tN φ 0) (by omega) rfl (fun q1 => z0 ⟨_, rfl, ?_⟩) (fun k' q1 hi hx => z1 (c_M_in0 2 (by omega) (by decide) (fun q2 => z0 ⟨_, rfl, ?_⟩) (fun j q2 hj hx2 => z1 ?_)))), fun c => ⟨fun c1 => ⟨_, rfl, ?_⟩, fun c1 => c_M_frames H hO ⟨_, rfl, ?_⟩⟩⟩
    · rw [if_neg c, q1] at h; exact h D2 o
    · rw [if_neg c] at h; simp only [q1] at h
      have n0 : ¬ w = 0 := fun e => by rw [e] at q2; exact absurd q2 (by decide)
      have n1 : ¬ w = 1 := fun e => by rw [e] at q2; exact absurd q2 (by decide)
      rw [if_neg n0, if_neg n1] at h; exact h D2 o
    · rw [if_neg c] at h; simp only [q1] at h
      obtain ⟨f1, -, f2', -⟩ := hO.2.2 k' hi
      rw [hx, hx2]
      refine c_M_frameOf H (by omega) hj ⟨_, rfl, ?_⟩
      rw [hx2] at h
      rcases (show j = 0 ∨ j = 1 by omega) with rfl | rfl
      · rw [if_pos (show nI 0 = 0 by decide), ← f1] at h; exact h D2 o
      · rw [if_neg (show ¬ nI 1 = 0 by decide), if_pos (show nI 1 = 1 by decide), ← f2'] at h
        rw [show 1 + 2 * k' + 1 = 2 + 2 * k' by omega]; exact h D2 o
    · rw [if_pos c, if_neg c1] at h; exact h D2 o
    · rw [if_pos c, if_pos c1] at h; exact h D2 o
theorem c_M_hand2 {P : Int32 → xD → Prop} {x w : Int32} (hI : mI D g) (h : ∀ D', mO D D' → P (aHand g.1 x w) D') : xCi (d + 40) m_M_hand2 [.ref 325, .int x, .int w] D P := by
  have l : xl (325 + 9) = 432 := cl_13_9 xk_M
  refine xCi_of y_M_hand2 (Nat.le_of_ble_eq_true rfl) (s_M_hand2_0 xk_M (fun D1 e1 => ?_))
  obtain ⟨o1, I1⟩ := m_0 hI e1
  unfold aHand at h
  refine c_M_is (s := 3) I1 (by omega) (fun q => z0' ⟨_, rfl, ?_⟩) (fun i hi hi2 hx q => z1' ?_)
  · rw [q] at h; exact h D1 o1
  · simp only [q] at h
    obtain ⟨t0, t1, t2, t3, t4, t5⟩ := ((I1.2.1.2.2 3 (by omega)).2 i hi).2.2.2.1 rfl
    generalize hη : g.1.2.2.2 3 i = η at h t0 t1 t2 t3 t4 t5
    have tx : ∀ j, j < 54 → D1.1 (325 + 9) (54 * i + j) = η j := fun j hj => by rw [← hη]; exact m_tx (s := 3) I1 (by omega) hi hj
    have t00 : D1.1 (325 + 9) (54 * i) = η 0 := tx 0 (by omega)
    rw [hx, show (54 : Int32) * nI i = nI (54 * i) from pk_mul 54 i, nI_clamp (by omega), nI_1, nI_clamp (by omega), t00, t0, show (9 : Int32) + nI (tN η 0) = nI (9 + tN η 0) from nI_add 9 _]
    refine ⟨by rw [l]; exact vp_in_nI (by omega) (by omega), ?_⟩
    have l1 : vp_in (nI (54 * i + 1)) (xl (325 + 9)) := by rw [l]; exact vp_in_nI (by omega) (by omega)
    by_cases c : w < 0
    · have n0 : ¬ w = 0 := fun e => by rw [e] at c; exact absurd c (by decide)
      have n1 : ¬ w = 1 := fun e => by rw [e] at c; exact absurd c (by decide)
      have n2 : ¬ (100 : Int32) ≤ w := fun z => absurd (neg_lt (k := 100) c (by omega)) (Int32.not_lt.mpr z)
      have n3 : ¬ (10 : Int32) ≤ w := fun z => absurd (neg_lt (k := 10) c (by omega)) (Int32.not_lt.mpr z)
      rw [if_neg n0, if_neg n1, if_neg n2, if_neg n3] at h
      refine c_M_in (fun _ => z0 (c_M_in (fun _ => z0 ⟨l1, c_M_in (fun _ => z0 ⟨_, rfl, h D1 o1⟩) (fun z => absurd (neg_lt (k := 100) c (by omega)) z)⟩) (fun z => absurd c z))) (fun z => absurd (neg_lt (k := 10) c (by omega)) z)
    · obtain ⟨j, hj, rfl⟩ := nI_of c
      have e0 : nI j = (0 : Int32) ↔ j = 0 := nI_eq (b := 0) hj (by omega)
      have e1 : nI j = (1 : Int32) ↔ j = 1 := nI_eq (b := 1) hj (by omega)
      have e100 : (100 : Int32) ≤ nI j ↔ 100 ≤ j := nI_leI (a := 100) (by omega) hj
      have e10 : (10 : Int32) ≤ nI j ↔ 10 ≤ j := nI_leI (a := 10) (by omega) hj
      have g10 : nI j < (10 : Int32) ↔ j < 10 := nI_ltI (b := 10) hj (by omega)
      have g100 : nI j < (100 : Int32) ↔ j < 100 := nI_ltI (b := 100) hj (by omega)
      have g1 : (1 : Int32) < nI j ↔ 1 < j := nI_ltI (a := 1) (by omega) hj
      have g0 : nI j < (0 : Int32) ↔ False := ⟨fun z => absurd z c, fun z => z.elim⟩
      simp only [e0, e1, e100, e10] at h
      have inner : (nI j < 10 ∨ nI (9 + tN η 0) < nI j) → (nI j < 0 ∨ 1 < nI j) → xCi (d + 39) m_M_in [.int (nI j), .int (100 : Int32), .int ((99 : Int32) + D1.1 (325 + 9) (54 * i + 1))] D1 (fun r9 D8 => (r9 = 0 → ∃ v, some (Value.int (-2 : Int32)) = some (.int v) ∧ P v D8) ∧ (¬ r9 = 0 → vp_in (nI (54 * i) + (2 : Int32) + (4 : Int32) + nI j - (100 : Int32)) (xl (325 + 9)) ∧ ∃ v, some (Value.int (D8.1 (325 + 9) (nI (54 * i) + (2 : Int32) + (4 : Int32) + nI j - (100 : Int32)).toNatClampNeg)) = some (.int v) ∧ P v D8)) := by
       intro z z1'
       rw [tx 1 (by omega), t2, show (99 : Int32) + nI (tN η 1) = nI (99 + tN η 1) from nI_add 99 _]
       refine c_M_in (fun z2 => z0 ⟨_, rfl, ?_⟩) (fun z2 z3 => z1 ?_)
       · rw [g10, nI_ltI (by omega) hj] at z
         rw [g0, g1] at z1'
         rw [g100, nI_ltI (by omega) hj] at z2
         have j2 : 1 < j := by rcases z1' with y | y; exact y.elim; exact y
         rw [if_neg (by omega), if_neg (by omega)] at h
         by_cases y : 100 ≤ j
         · rw [if_pos y] at h
           have es : slotOf (tN η 1) (nI j - 100) = none := by
             rw [show nI j - (100 : Int32) = nI (j - 100) from pk_sub (a := j) (b := 100) y]
             cases hs : slotOf (tN η 1) (nI (j - 100)) with
             | none => rfl
             | some u =>
               obtain ⟨u1, u2⟩ := slot_some hs
               have := (nI_eq (by omega) (by omega)).mp u2; omega
           rw [es] at h; exact h D1 o1
         · rw [if_neg y] at h
           by_cases y2 : 10 ≤ j
           · rw [if_pos y2] at h
             have es : slotOf (tN η 0) (nI j - 10) = none := by
               rw [show nI j - (10 : Int32) = nI (j - 10) from pk_sub (a := j) (b := 10) y2]
               cases hs : slotOf (tN η 0) (nI (j - 10)) with
               | none => rfl
               | some u =>
                 obtain ⟨u1, u2⟩ := slot_some hs
                 have := (nI_eq (by omega) (by omega)).mp u2; omega
             rw [es] at h; exact h D1 o1
           · rw [if_neg y2] at h; exact h D1 o1
       · rw [g100] at z2
         rw [nI_ltI (by omega) hj] at z3
         have y : 100 ≤ j := by omega
         rw [if_neg (by omega), if_neg (by omega), if_pos y, show nI j - (100 : Int32) = nI (j - 100) from pk_sub (a := j) (b := 100) y, slot_nI (show j - 100 < tN η 1 by omega) (by omega)] at h
         simp only at h
         have ei : nI (54 * i) + (2 : Int32) + (4 : Int32) + nI j - (100 : Int32) = nI (54 * i + (6 + (j - 100))) := by
           rw [show (2 : Int32) = nI 2 from rfl, show (4 : Int32) = nI 4 from rfl, show (100 : Int32) = nI 100 from rfl, nI_add, nI_add, nI_add, pk_sub (by omega)]
           congr 1; omega
         rw [ei, nI_clamp (by omega), tx _ (by omega)]
         exact ⟨by rw [l]; exact vp_in_nI (by omega) (by omega), _, rfl, h D1 o1⟩
      refine c_M_in (fun z => z0 (c_M_in (fun z1' => z0 ⟨l1, inner z z1'⟩) (fun z1' z2 => z1 ?_))) (fun z z2 => z1 ?_)
      · rw [g1] at z2
        rw [nI_add, nI_clamp (by omega), tx _ (by omega)]
        refine ⟨by rw [l]; exact vp_in_nI (by omega) (by omega), _, rfl, ?_⟩
        rcases (show j = 0 ∨ j = 1 by omega) with rfl | rfl
        · rw [if_pos rfl, ← t0] at h; exact h D1 o1
        · rw [if_neg (by omega), if_pos rfl, ← t2] at h; exact h D1 o1
      · rw [g10] at z
        rw [nI_ltI (by omega) hj] at z2
        rw [if_neg (by omega), if_neg (by omega), if_neg (by omega), if_pos (by omega), show nI j - (10 : Int32) = nI (j - 10) from pk_sub (a := j) (b := 10) (by omega), slot_nI (show j - 10 < tN η 0 by omega) (by omega)] at h
        simp only at h
        have ei : nI (54 * i) + (2 : Int32) + nI j - (10 : Int32) = nI (54 * i + (2 + (j - 10))) := by
          rw [show (2 : Int32) = nI 2 from rfl, show (10 : Int32) = nI 10 from rfl, nI_add, nI_add, pk_sub (by omega)]
          congr 1; omega
        rw [ei, nI_clamp (by omega), tx _ (by omega)]
        exact ⟨by rw [l]; exact vp_in_nI (by omega) (by omega), _, rfl, h D1 o1⟩
end M2
