/-! The reference: several rounds one behind the other; luck. -/
/-- what several rounds change -/
def mLk (D D' : xD) : Prop := (∀ i, i ≠ 325 → (i < 345 ∨ 350 < i) → i ≠ 353 → i ≠ 354 → i ≠ 356 → i ≠ 357 → D'.1 i = D.1 i ∧ D'.2 i = D.2 i) ∧ ∀ j, j ≠ 40 → j ≠ 59 → j ≠ 65 → (j < 54 ∨ 57 ≤ j) → D'.1 325 j = D.1 325 j
theorem mLk.rfl' {D : xD} : mLk D D := ⟨fun _ _ _ _ _ _ _ => ⟨rfl, rfl⟩, fun _ _ _ _ _ => rfl⟩
theorem mLk.trans {D D1 D2 : xD} (h1 : mLk D D1) (h2 : mLk D1 D2) : mLk D D2 :=
  ⟨fun i a b c e f g => ⟨((h2.1 i a b c e f g).1).trans (h1.1 i a b c e f g).1, ((h2.1 i a b c e f g).2).trans (h1.1 i a b c e f g).2⟩, fun j a b c e => (h2.2 j a b c e).trans (h1.2 j a b c e)⟩
theorem mSh.lk {D D' : xD} (h : mSh D D') : mLk D D' := ⟨fun i a b _ _ _ _ => h.1 i a (by omega), fun j a b _ _ => h.2 j a b⟩
theorem mRd.lk {D D' : xD} (h : mRd D D') : mLk D D' := ⟨fun i a b c e _ _ => h.1 i a (by omega) c e, fun j _ _ _ b => h.2 j b⟩
theorem mF.lk {lo hi f g : Nat} {D D1 : xD} (h : mF lo hi f g D D1) (q1 : ∀ i, (i < 345 ∨ 350 < i) → i ≠ 353 → i ≠ 354 → i ≠ 356 → i ≠ 357 → i < lo ∨ hi ≤ i) (q2 : ∀ j, j ≠ 40 → j ≠ 59 → j ≠ 65 → (j < 54 ∨ 57 ≤ j) → j < f ∨ g ≤ j) : mLk D D1 :=
  ⟨fun i a b c e f g => h.1 i a (q1 i b c e f g), fun j a b c e => h.2 j (q2 j a b c e)⟩
theorem mLk.o {D D' : xD} (h : mLk D D') : mO D D' := fun i a b => h.1 i a (by omega) (by omega) (by omega) (by omega) (by omega)
theorem mSit.lk {D D' : xD} {τ : Nat → Int32} (h : mSit D τ) (o : mLk D D') : mSit D' τ :=
  ⟨by rw [o.2 31 (by omega) (by omega) (by omega) (by omega)]; exact h.1, fun i hi w hw => by rw [(o.1 (339 + w) (by omega) (by omega) (by omega) (by omega) (by omega) (by omega)).1]; exact h.2 i hi w hw⟩
theorem mWho.lk {D D' : xD} {n : Nat} {u : Nat → Nat} (h : mWho D n u) (o : mLk D D') : mWho D' n u := fun i hi => by rw [(o.1 338 (by omega) (by omega) (by omega) (by omega) (by omega) (by omega)).1]; exact h i hi
theorem mTb.lk {D D' : xD} {t : Nat} {τ : Nat → Int32} (h : mTb D t τ) (o : mLk D D') : mTb D' t τ :=
  ⟨h.1, by rw [o.2 26 (by omega) (by omega) (by omega) (by omega)]; exact h.2.1, fun j hj => by rw [(o.1 331 (by omega) (by omega) (by omega) (by omega) (by omega) (by omega)).1]; exact h.2.2 j hj⟩
theorem mH.lk {D D' : xD} {τ : Nat → Int32} (h : mH D τ) (o : mLk D D') : mH D' τ := by
  obtain ⟨⟨t, h0⟩, h3, h4, h5, h6⟩ := h
  exact ⟨⟨t, h0.lk o⟩, by rw [o.2 27 (by omega) (by omega) (by omega) (by omega)]; exact h3, by rw [o.2 28 (by omega) (by omega) (by omega) (by omega)]; exact h4, by rw [o.2 29 (by omega) (by omega) (by omega) (by omega)]; exact h5, by rw [o.2 30 (by omega) (by omega) (by omega) (by omega)]; exact h6⟩
theorem eFst_s (τ : Nat → Int32) (seed : Int32) (o : Option Nat) (i : Nat) : eFst τ seed o (i + 1) = eFst τ seed o i + if (eRho τ seed i).2.2.1 = o then 1 else 0 := rfl
theorem eLst_s (τ : Nat → Int32) (seed : Int32) (p i : Nat) : eLst τ seed p (i + 1) = eLst τ seed p i + if eLastOf τ seed i = some p then 1 else 0 := rfl
theorem eLast_n {τ : Nat → Int32} {seed : Int32} {i : Nat} (h : (eRho τ seed i).2.2.1 = none) : eLastOf τ seed i = none := by
  unfold eLastOf; rw [h]
theorem eLast_s {τ : Nat → Int32} {seed : Int32} {i f : Nat} (h : (eRho τ seed i).2.2.1 = some f) : eLastOf τ seed i = some (tLast τ f (eRho τ seed i).2.2.2 (tN τ 5)) := by
  unfold eLastOf; rw [h]
section MLUCK
variable {d : Nat} {D : xD} {g : gS} {τ : Nat → Int32}
theorem c_M_playLuck {P : xD → Prop} {k : Nat} {f : Nat → Nat} {seed : Int32} (hT : tOK τ) (hL : tLaw τ) (hF : tFit τ) (S : mSit D τ) (e27 : D.1 325 27 = nI (tN τ 0)) (e28 : D.1 325 28 = nI (tN τ 1)) (e29 : D.1 325 29 = nI (tN τ 2)) (W : mWho D (tN τ 5) f) (hf : ∀ i, i < tN τ 5 → f i < 6) (inj : ∀ i j, i < tN τ 5 → j < tN τ 5 → f i = f j → i = j) (hx : D.1 325 59 = seed) (hk : k ≤ 20)
    (h : ∀ D', mLk D D' → D'.1 325 65 = nI (eFst τ seed none k) → (∀ s, s < tN τ 5 → D'.1 356 (f s) = nI (eFst τ seed (some s) k)) → (∀ s, s < tN τ 5 → D'.1 357 (f s) = nI (eLst τ seed s k)) → P D') : xCv (d + 6) m_M_playLuck [.ref 325, .int (nI k)] D P := by
  have l13 : xl (325 + 13) = 6 := cl_13_32 xk_M
  have l31 : xl (325 + 31) = 6 := cl_13_63 xk_M
  have l32 : xl (325 + 32) = 6 := cl_13_64 xk_M
  have hN := hT.2.2.2.2.2.2.1
  have hF1 := hF.1
  have p52 := pack_le hT
  have g0 := hT.1 0 (by omega)
  have g1 := hT.1 1 (by omega)
  refine xCv_of y_M_playLuck (Nat.le_of_ble_eq_true rfl) (s_M_playLuck_0 xk_M (fun D1 e1 => ?_))
  obtain ⟨o1, f1⟩ := mf e1
  have rounds : ∀ m i, i + m = k → ∀ D', mLk D D' → D'.1 325 59 = eX τ seed i → D'.1 325 65 = nI (eFst τ seed none i) → (∀ s, s < tN τ 5 → D'.1 356 (f s) = nI (eFst τ seed (some s) i)) → (∀ s, s < tN τ 5 → D'.1 357 (f s) = nI (eLst τ seed s i)) → xPf (d + 6) m_M_playLuck 35 [(0, .ref 325), (1, .int (nI k)), (2, .int (nI i))] [] D' (fun r D' => r = none ∧ P D') := by
    intro m
    induction m with
    | zero =>
      intro i hi D' o _ q65 qf ql
      have ei : i = k := by omega
      subst ei
      exact s_M_playLuck_35 xk_M ⟨fun _ => ⟨rfl, h D' o q65 qf ql⟩, fun z => absurd (nI_le (by omega) (by omega)) z⟩
    | succ m ih =>
      intro i hi D' o q59 q65 qf ql
      refine s_M_playLuck_35 xk_M ⟨fun z => absurd z (nI_ge (by omega) (by omega)), fun _ => ?_⟩
      have a27 : D'.1 325 27 = nI (tN τ 0) := by rw [o.2 27 (by omega) (by omega) (by omega) (by omega)]; exact e27
      have a28 : D'.1 325 28 = nI (tN τ 1) := by rw [o.2 28 (by omega) (by omega) (by omega) (by omega)]; exact e28
      refine c_M_shuffle (τ := τ) hT (by rw [a27, g0]) (by rw [a28, g1]) q59 (fun D2 s2 pk x2 => ?_)
      have o2 := o.trans s2.lk
      have b27 : D2.1 325 27 = nI (tN τ 0) := by rw [o2.2 27 (by omega) (by omega) (by omega) (by omega)]; exact e27
      have b29 : D2.1 325 29 = nI (tN τ 2) := by rw [o2.2 29 (by omega) (by omega) (by omega) (by omega)]; exact e29
      have er : rGo τ (tN τ 0 * tN τ 1) (shC τ (eX τ seed i)).1 tTop = eRho τ seed i := (eRho_is τ seed i).symm
      rw [nI_1]
      refine c_M_ends hT hL (S.lk o2) b27 b29 (by omega) pk p52 (fun j hj => shC_lt hT _ hj) hF.2 (fun e D3 r3 G3 f54 f56 => z0 (fun D4 e4 => ?_)) (fun w e D3 r3 G3 f54 f55 f56 fs => z1 ?_)
      · rw [er] at e
        obtain ⟨o4, f4⟩ := mf e4
        have o34 : mLk D2 D4 := r3.lk.trans (o4.lk (by omega) (by omega))
        have q65' : D3.1 325 65 = nI (eFst τ seed none i) := by rw [r3.2 65 (by omega), s2.2 65 (by omega) (by omega)]; exact q65
        rw [q65', nI_1] at f4
        have ar : ∀ a, a ≠ 325 → 354 < a → D4.1 a = D'.1 a := fun a h1 h2 => by
          rw [(o4.1 a h1 (by omega)).1, (r3.1 a h1 (by omega) (by omega) (by omega)).1, (s2.1 a h1 (by omega)).1]
        refine ih (i + 1) (by omega) D4 (o2.trans o34) ?_ ?_ (fun s hs => ?_) (fun s hs => ?_)
        · rw [o4.2 59 (by omega), r3.2 59 (by omega), x2]; rfl
        · rw [f4, eFst_s, if_pos e]
        · rw [ar 356 (by omega) (by omega), qf s hs, eFst_s, if_neg (by rw [e]; exact fun z => by cases z)]; rfl
        · rw [ar 357 (by omega) (by omega), ql s hs, eLst_s, if_neg (by rw [eLast_n e]; exact fun z => by cases z)]; rfl
      · rw [er] at e f55 f56
        have hw := eRho_lt e
        have hl := tLast_lt τ w (eRho τ seed i).2.2.2 (tN τ 5) (by omega)
        have W3 : mWho D3 (tN τ 5) f := W.lk (o2.trans r3.lk)
        have ar : ∀ a, a ≠ 325 → 354 < a → D3.1 a = D'.1 a := fun a h1 h2 => by
          rw [(r3.1 a h1 (by omega) (by omega) (by omega)).1, (s2.1 a h1 (by omega)).1]
        have w13 : ∀ s, s < tN τ 5 → D3.1 (325 + 13) s = nI (f s) := fun s hs => W3 s hs
        rw [f54, nI_clamp (n := w) (by omega), w13 w hw, nI_clamp (n := f w) (by have := hf w hw; omega), show D3.1 (325 + 31) (f w) = nI (eFst τ seed (some w) i) from by rw [show (325 + 31 : Nat) = 356 from rfl, ar 356 (by omega) (by omega)]; exact qf w hw, nI_1]
        refine ⟨by rw [l13]; exact vp_in_nI (by omega) (by omega), by rw [l31]; exact vp_in_nI (hf w hw) (by omega), by rw [l31]; exact vp_in_nI (hf w hw) (by omega), fun D5 e5 => ?_⟩
        obtain ⟨o5, v5⟩ := ma (by omega) e5
        have v5' : ∀ j, D5.1 356 j = if j = f w then nI (eFst τ seed (some w) i + 1) else D3.1 356 j := v5
        have g56 : D5.1 325 56 = nI (tLast τ w (eRho τ seed i).2.2.2 (tN τ 5)) := by rw [o5.2 56 (by omega)]; exact f56
        generalize hz : tLast τ w (eRho τ seed i).2.2.2 (tN τ 5) = z at g56 hl
        have w13' : D5.1 (325 + 13) z = nI (f z) := by rw [(o5.1 (325 + 13) (by omega) (by omega)).1]; exact w13 z hl
        rw [g56, nI_clamp (n := z) (by omega), w13', nI_clamp (n := f z) (by have := hf z hl; omega), show D5.1 (325 + 32) (f z) = nI (eLst τ seed z i) from by rw [show (325 + 32 : Nat) = 357 from rfl, (o5.1 357 (by omega) (by omega)).1, ar 357 (by omega) (by omega)]; exact ql z hl, nI_1]
        refine ⟨by rw [l13]; exact vp_in_nI (by omega) (by omega), by rw [l32]; exact vp_in_nI (hf z hl) (by omega), by rw [l32]; exact vp_in_nI (hf z hl) (by omega), fun D6 e6 => ?_⟩
        obtain ⟨o6, v6⟩ := ma (by omega) e6
        have v6' : ∀ j, D6.1 357 j = if j = f z then nI (eLst τ seed z i + 1) else D5.1 357 j := v6
        refine ih (i + 1) (by omega) D6 (o2.trans (r3.lk.trans ((o5.lk (by omega) (by omega)).trans (o6.lk (by omega) (by omega))))) ?_ ?_ (fun s hs => ?_) (fun s hs => ?_)
        · rw [o6.2 59 (by omega), o5.2 59 (by omega), r3.2 59 (by omega), x2]; rfl
        · rw [o6.2 65 (by omega), o5.2 65 (by omega), r3.2 65 (by omega), s2.2 65 (by omega) (by omega), q65, eFst_s, if_neg (by rw [e]; exact fun y => by cases y)]; rfl
        · rw [(o6.1 356 (by omega) (by omega)).1, v5', eFst_s, e]
          by_cases y : s = w
          · rw [if_pos (by rw [y]), if_pos (by rw [y]), y]
          · rw [if_neg (fun x => y (inj s w hs hw x)), if_neg (fun x => y (Option.some.inj x).symm), ar 356 (by omega) (by omega)]; exact qf s hs
        · rw [v6', eLst_s, eLast_s e, hz]
          by_cases y : s = z
          · rw [if_pos (by rw [y]), if_pos (by rw [y]), y]
          · rw [if_neg (fun x => y (inj s z hs hl x)), if_neg (fun x => y (Option.some.inj x).symm), (o5.1 357 (by omega) (by omega)).1, ar 357 (by omega) (by omega)]; exact ql s hs
  have zero : ∀ m j, j + m = 6 → ∀ D', mF 356 358 0 0 D1 D' → (∀ i, i < j → D'.1 356 i = 0 ∧ D'.1 357 i = 0) → xPf (d + 6) m_M_playLuck 7 [(0, .ref 325), (1, .int (nI k)), (2, .int (nI j))] [] D' (fun r D' => r = none ∧ P D') := by
    intro m
    induction m with
    | zero =>
      intro j hj D' o hz
      refine s_M_playLuck_7 xk_M ⟨fun _ => rounds k 0 (by omega) D' ((o1.lk (by omega) (by omega)).trans (o.lk (by omega) (by omega))) (by rw [o.2 59 (by omega), o1.2 59 (by omega)]; exact hx) (by rw [o.2 65 (by omega)]; exact f1) (fun s hs => ?_) (fun s hs => ?_), fun z => absurd (nI_le (a := 6) (by omega) (by omega)) z⟩
      · rw [(hz (f s) (by have := hf s hs; omega)).1]; rfl
      · rw [(hz (f s) (by have := hf s hs; omega)).2]; rfl
    | succ m ih =>
      intro j hj D' o hz
      refine s_M_playLuck_7 xk_M ?_
      rw [nI_clamp (n := j) (by omega), nI_1]
      refine ⟨fun z => absurd z (nI_ge (b := 6) (by omega) (by omega)), fun _ => ⟨by rw [l31]; exact vp_in_nI (by omega) (by omega), fun D2 e2 => ⟨by rw [l32]; exact vp_in_nI (by omega) (by omega), fun D3 e3 => ?_⟩⟩⟩
      obtain ⟨o2, v2⟩ := ma (by omega) e2
      obtain ⟨o3, v3⟩ := ma (by omega) e3
      have v2' : ∀ i, D2.1 356 i = if i = j then 0 else D'.1 356 i := v2
      have v3' : ∀ i, D3.1 357 i = if i = j then 0 else D2.1 357 i := v3
      refine ih (j + 1) (by omega) D3 (o.trans ((o2.m (by omega) (by omega)).trans (o3.m (by omega) (by omega)))) (fun i hi => ?_)
      rw [(o3.1 356 (by omega) (by omega)).1, v2', v3', (o2.1 357 (by omega) (by omega)).1]
      by_cases z : i = j
      · rw [if_pos z, if_pos z]; exact ⟨rfl, rfl⟩
      · rw [if_neg z, if_neg z]; exact hz i (by omega)
  exact zero 6 0 (by omega) D1 mF.rfl' (fun i hi => absurd hi (Nat.not_lt_zero _))
theorem c_M_inK {P : Int32 → xD → Prop} {k : Int32} (h0 : kOf k = none → P 0 D) (h1 : ∀ m, kOf k = some m → P 1 D) : xCi (d + 1) m_M_in [.int k, .int (1 : Int32), .int (20 : Int32)] D P := by
  refine c_M_in (fun c => ?_) (fun c c1 => ?_)
  · cases hx : kOf k with
    | none => exact h0 hx
    | some m =>
      obtain ⟨a, b, e⟩ := kOf_some hx
      subst e
      rcases c with y | y
      · exact absurd y (nI_nlt (b := 1) (by omega) (by omega))
      · exact absurd y (nI_nlt (a := 20) (by omega) (by omega))
  · cases hx : kOf k with
    | none =>
      rcases kOf_none hx with y | ⟨-, y⟩
      · exact absurd y c
      · exact absurd y c1
    | some m => exact h1 m hx
theorem c_M_luck {P : Int32 → xD → Prop} {x seed k w : Int32} (hI : mI D g) (h : ∀ D', mO D D' → P (aLuck g.1 x seed k w) D') : xCi (d + 40) m_M_luck [.ref 325, .int x, .int seed, .int k, .int w] D P := by
  have l31 : xl (325 + 31) = 6 := cl_13_63 xk_M
  have l32 : xl (325 + 32) = 6 := cl_13_64 xk_M
  refine xCi_of y_M_luck (Nat.le_of_ble_eq_true rfl) (s_M_luck_0 xk_M (fun D1 e1 => ?_))
  obtain ⟨o1, I1⟩ := m_0 hI e1
  unfold aLuck at h
  refine c_M_inK (fun q => z0 ⟨_, rfl, ?_⟩) (fun m q => z1 ?_)
  · have := h D1 o1
    cases hx : txO g.1 0 x with
    | none => rw [hx] at this; exact this
    | some τ => simp only [hx, q] at this; exact this
  refine c_M_hand I1 (fun q1 => z0 ⟨_, rfl, ?_⟩) (fun τ q1 hT hL hF D2 o2 I2 H2 S2 W2 => z1 ?_)
  · rw [q1] at h; exact h D1 o1
  simp only [q1, q] at h
  obtain ⟨m1, m20, em⟩ := kOf_some q
  have o12 := o1.trans (o2.o (by omega))
  have hN := hT.2.2.2.2.2.2.1
  have e27 : D2.1 325 27 = nI (tN τ 0) := by rw [H2.2.1]; exact hT.1 0 (by omega)
  have e28 : D2.1 325 28 = nI (tN τ 1) := by rw [H2.2.2.1]; exact hT.1 1 (by omega)
  have e29 : D2.1 325 29 = nI (tN τ 2) := by rw [H2.2.2.2.1]; exact hT.1 2 (by omega)
  have e30 : D2.1 325 30 = nI (tN τ 5) := by rw [H2.2.2.2.2]; exact hT.1 5 (by omega)
  have play : ∀ {Q : xD → Prop} {D3 : xD}, D3 = (xu D2.1 325 59 seed, D2.2) → (∀ D', mO D D' → D'.1 325 65 = nI (eFst τ seed none m) → (∀ s, s < tN τ 5 → D'.1 356 s = nI (eFst τ seed (some s) m)) → (∀ s, s < tN τ 5 → D'.1 357 s = nI (eLst τ seed s m)) → Q D') → xCv (d + 39) m_M_playLuck [.ref 325, .int k] D3 Q := by
    intro Q D3 e3 hQ
    obtain ⟨o3, f3⟩ := mf e3
    rw [em]
    exact c_M_playLuck (f := fun p => p) hT hL hF (S2.fr o3 (by omega) (by omega)) (by rw [o3.2 27 (by omega)]; exact e27) (by rw [o3.2 28 (by omega)]; exact e28) (by rw [o3.2 29 (by omega)]; exact e29) (W2.fr o3 (by omega)) (fun i hi => by omega) (fun i j _ _ z => z) f3 m20 (fun D' o a b c => hQ D' (o12.trans ((o3.o (by omega)).trans o.o)) a b c)
  refine ⟨fun w0 D6 e6 => play e6 (fun D7 o7 a65 af al => ⟨fun z => absurd w0 z, fun _ => ⟨_, rfl, ?_⟩⟩), fun w0 => ?_⟩
  · have := h D7 o7
    rw [if_pos w0] at this
    rw [a65]; exact this
  · rw [if_neg w0] at h
    refine c_M_inR 10 (tN τ 5) (by omega) (by omega) rfl (by rw [e30, show (9 : Int32) = nI 9 from rfl, nI_add, nI_1]; congr 1; omega) (fun p hp ew => z1' (fun D6 e6 => play e6 (fun D7 o7 a65 af al => ⟨fun _ => ⟨fun c => ?_, fun c => ?_⟩, fun z => absurd z w0⟩))) (fun n10 => z0' (c_M_inR 20 (tN τ 5) (by omega) (by omega) rfl (by rw [e30, show (19 : Int32) = nI 19 from rfl, nI_add, nI_1]; congr 1; omega) (fun p hp ew => z1' (fun D6 e6 => play e6 (fun D7 o7 a65 af al => ⟨fun _ => ⟨fun c => ?_, fun c => ?_⟩, fun z => absurd z w0⟩))) (fun n20 => z0' ⟨_, rfl, ?_⟩)))
    · rw [ew] at c
      exact absurd c (nI_ge (b := 20) (by omega) (by omega))
    · have := h D7 o7
      rw [ew, per_10 hN hp] at this
      simp only [] at this
      rw [if_neg (show ¬ (20 : Int32) ≤ nI (10 + p) from nI_ge (b := 20) (by omega) (by omega))] at this
      rw [ew, show nI (10 + p) - (10 : Int32) = nI (10 + p - 10) from pk_sub (b := 10) (by omega), Nat.add_sub_cancel_left, nI_clamp (n := p) (by omega), show D7.1 (325 + 31) p = _ from af p hp]
      exact ⟨by rw [l31]; exact vp_in_nI (by omega) (by omega), _, rfl, this⟩
    · have := h D7 o7
      rw [ew, per_20 hN hp] at this
      simp only [] at this
      rw [if_pos (show (20 : Int32) ≤ nI (20 + p) from nI_le (a := 20) (by omega) (by omega))] at this
      rw [ew, show nI (20 + p) - (20 : Int32) = nI (20 + p - 20) from pk_sub (b := 20) (by omega), Nat.add_sub_cancel_left, nI_clamp (n := p) (by omega), show D7.1 (325 + 32) p = _ from al p hp]
      exact ⟨by rw [l32]; exact vp_in_nI (by omega) (by omega), _, rfl, this⟩
    · rw [ew] at c
      exact absurd (nI_le (a := 20) (by omega) (by omega)) c
    · rw [per_no hN n10 n20] at h
      exact h D2 o12
end MLUCK
