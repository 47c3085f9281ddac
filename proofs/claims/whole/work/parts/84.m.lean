/-! The reference: its state, what it asks of what is told. -/
theorem xk_M : xk 325 = 13 := by decide +kernel
/-- of the reference's arrays those from lo up to hi, of its fields those from f up to g may have changed -/
def mF (lo hi f g : Nat) (D D' : xD) : Prop := (∀ i, i ≠ 325 → (i < lo ∨ hi ≤ i) → D'.1 i = D.1 i ∧ D'.2 i = D.2 i) ∧ ∀ j, (j < f ∨ g ≤ j) → D'.1 325 j = D.1 325 j
theorem mF.rfl' {lo hi f g : Nat} {D : xD} : mF lo hi f g D D := ⟨fun _ _ _ => ⟨rfl, rfl⟩, fun _ _ => rfl⟩
theorem mF.trans {lo hi f g : Nat} {D D1 D2 : xD} (h1 : mF lo hi f g D D1) (h2 : mF lo hi f g D1 D2) : mF lo hi f g D D2 :=
  ⟨fun i a b => ⟨((h2.1 i a b).1).trans (h1.1 i a b).1, ((h2.1 i a b).2).trans (h1.1 i a b).2⟩, fun j a => (h2.2 j a).trans (h1.2 j a)⟩
theorem mF.m {lo hi f g lo' hi' f' g' : Nat} {D D1 : xD} (h : mF lo hi f g D D1) (q1 : ∀ i, i < lo' ∨ hi' ≤ i → i < lo ∨ hi ≤ i) (q2 : ∀ j, j < f' ∨ g' ≤ j → j < f ∨ g ≤ j) : mF lo' hi' f' g' D D1 :=
  ⟨fun i a b => h.1 i a (q1 i b), fun j a => h.2 j (q2 j a)⟩
/-- what is told is as it was, and all the class's -/
def mO (D D' : xD) : Prop := ∀ i, i ≠ 325 → (i < 336 ∨ 367 ≤ i) → D'.1 i = D.1 i ∧ D'.2 i = D.2 i
theorem mO.rfl' {D : xD} : mO D D := fun _ _ _ => ⟨rfl, rfl⟩
theorem mO.trans {D D1 D2 : xD} (h1 : mO D D1) (h2 : mO D1 D2) : mO D D2 := fun i a b => ⟨((h2 i a b).1).trans (h1 i a b).1, ((h2 i a b).2).trans (h1 i a b).2⟩
theorem mF.o {lo hi f g : Nat} {D D1 : xD} (h : mF lo hi f g D D1) (q : ∀ i, i < 336 ∨ 367 ≤ i → i < lo ∨ hi ≤ i) : mO D D1 := fun i a b => h.1 i a (q i b)
/-- a field is written; a place of an array -/
theorem mf {D D1 : xD} {k : Nat} {v : Int32} (e : D1 = (xu D.1 325 k v, D.2)) : mF 0 0 k (k + 1) D D1 ∧ D1.1 325 k = v := by
  subst e
  refine ⟨⟨fun i a _ => ⟨xu_ne _ _ _ a, rfl⟩, fun j q => ?_⟩, ?_⟩
  · show xu D.1 325 k v 325 j = _; rw [xu_self]; exact pk_un (by omega)
  · show xu D.1 325 k v 325 k = _; rw [xu_self]; exact pk_us
theorem ma {D D1 : xD} {a k : Nat} {v : Int32} (ha : a ≠ 325) (e : D1 = (xu D.1 a k v, D.2)) : mF a (a + 1) 0 0 D D1 ∧ ∀ j, D1.1 a j = if j = k then v else D.1 a j := by
  subst e
  refine ⟨⟨fun i _ q => ⟨xu_ne _ _ _ (by omega), rfl⟩, fun j q => ?_⟩, fun j => ?_⟩
  · show xu D.1 a k v 325 j = _; rw [xu_ne _ _ _ (Ne.symm ha)]
  · show xu D.1 a k v a j = _; rw [xu_self]; rfl
def wS (s : Nat) : Nat := if s = 0 then 48 else if s = 1 then 53 else if s = 2 then 121 else if s = 3 then 54 else 21
/-- what is told, at the k-th place: 0 now, then the images -/
def mT (D : xD) (k : Nat) (σ : sT) : Prop := D.1 327 k = nI σ.1.1 ∧ (∀ j, j < σ.1.1 → D.1 326 (600 * k + j) &&& (255 : Int32) = nI (σ.1.2 j)) ∧ D.1 328 k = σ.2.1.1 ∧ D.1 329 k = σ.2.1.2 ∧ (∀ s, s < 5 → D.1 330 (5 * k + s) = nI (σ.2.2.1 s)) ∧
  ∀ s, s < 5 → ∀ j, j < σ.2.2.1 s → ∀ i, i < wS s → D.1 (331 + s) (wS s * (2 * k + j) + i) = σ.2.2.2 s j i
def mI (D : xD) (g : gS) : Prop := mT D 0 g.1 ∧ sOK g.1 ∧ (∀ k, k < 3 → ∀ σ, g.2 k = some σ → mT D (k + 1) σ ∧ sOK σ) ∧ ∀ k, k < 3 → D.1 367 k = if g.2 k = none then 0 else 1
theorem mT.o {D D' : xD} {k : Nat} {σ : sT} (h : mT D k σ) (o : mO D D') : mT D' k σ := by
  obtain ⟨h1, h2, h3, h4, h5, h6⟩ := h
  refine ⟨by rw [(o 327 (by omega) (by omega)).1]; exact h1, fun j hj => by rw [(o 326 (by omega) (by omega)).1]; exact h2 j hj, by rw [(o 328 (by omega) (by omega)).1]; exact h3, by rw [(o 329 (by omega) (by omega)).1]; exact h4, fun s hs => by rw [(o 330 (by omega) (by omega)).1]; exact h5 s hs, fun s hs j hj i hi => ?_⟩
  rw [(o (331 + s) (by omega) (by omega)).1]; exact h6 s hs j hj i hi
theorem mI.o {D D' : xD} {g : gS} (h : mI D g) (o : mO D D') : mI D' g :=
  ⟨h.1.o o, h.2.1, fun k hk σ hσ => ⟨(h.2.2.1 k hk σ hσ).1.o o, (h.2.2.1 k hk σ hσ).2⟩, fun k hk => by rw [(o 367 (by omega) (by omega)).1]; exact h.2.2.2 k hk⟩
/-- the table in hand -/
def mTb (D : xD) (t : Nat) (τ : Nat → Int32) : Prop := t < 2 ∧ D.1 325 26 = nI t ∧ ∀ j, j < 48 → D.1 331 (48 * t + j) = τ j
def mH (D : xD) (τ : Nat → Int32) : Prop := (∃ t, mTb D t τ) ∧ D.1 325 27 = τ 0 ∧ D.1 325 28 = τ 1 ∧ D.1 325 29 = τ 2 ∧ D.1 325 30 = τ 5
/-- those who sit, each as he is told -/
def mSit (D : xD) (τ : Nat → Int32) : Prop := D.1 325 31 = nI (tN τ 5) ∧ ∀ i, i < tN τ 5 → ∀ w, w < 6 → D.1 (339 + w) i = τ (6 + 7 * i + w)
def mWho (D : xD) (n : Nat) (f : Nat → Nat) : Prop := ∀ i, i < n → D.1 338 i = nI (f i)
theorem mTb.fr {D D' : xD} {lo hi f g t : Nat} {τ : Nat → Int32} (h : mTb D t τ) (o : mF lo hi f g D D') (q : 331 < lo ∨ hi ≤ 331) (r : 26 < f ∨ g ≤ 26) : mTb D' t τ :=
  ⟨h.1, by rw [o.2 26 r]; exact h.2.1, fun j hj => by rw [(o.1 331 (by omega) q).1]; exact h.2.2 j hj⟩
theorem mH.fr {D D' : xD} {lo hi f g : Nat} {τ : Nat → Int32} (h : mH D τ) (o : mF lo hi f g D D') (q : 331 < lo ∨ hi ≤ 331) (r : 30 < f ∨ g ≤ 26) : mH D' τ := by
  obtain ⟨⟨t, h0⟩, h1, h2, h3, h4⟩ := h
  exact ⟨⟨t, h0.fr o q (by omega)⟩, by rw [o.2 27 (by omega)]; exact h1, by rw [o.2 28 (by omega)]; exact h2, by rw [o.2 29 (by omega)]; exact h3, by rw [o.2 30 (by omega)]; exact h4⟩
theorem mSit.fr {D D' : xD} {lo hi f g : Nat} {τ : Nat → Int32} (h : mSit D τ) (o : mF lo hi f g D D') (q : 344 < lo ∨ hi ≤ 339) (r : 31 < f ∨ g ≤ 31) : mSit D' τ :=
  ⟨by rw [o.2 31 r]; exact h.1, fun i hi w hw => by rw [(o.1 (339 + w) (by omega) (by omega)).1]; exact h.2 i hi w hw⟩
theorem mWho.fr {D D' : xD} {lo hi f g n : Nat} {u : Nat → Nat} (h : mWho D n u) (o : mF lo hi f g D D') (q : 338 < lo ∨ hi ≤ 338) : mWho D' n u := fun i hi => by rw [(o.1 338 (by omega) q).1]; exact h i hi
theorem ixm (c k : Nat) : Int32.ofNat c * nI k = nI (c * k) := pk_mul c k
section M1
variable {d : Nat} {D : xD} {g : gS} {τ : Nat → Int32}
theorem c_M_in {P : Int32 → xD → Prop} {x a b : Int32} (h0 : (x < a ∨ b < x) → P 0 D) (h1 : ¬ x < a → ¬ b < x → P 1 D) : xCi (d + 1) m_M_in [.int x, .int a, .int b] D P :=
  xCi_of y_M_in (Nat.le_of_ble_eq_true rfl) (s_M_in_0 ⟨fun c => ⟨_, rfl, h0 (Or.inl c)⟩, fun c => ⟨fun c1 => ⟨_, rfl, h0 (Or.inr c1)⟩, fun c1 => ⟨_, rfl, h1 c c1⟩⟩⟩)
theorem sub1_lt {n : Nat} {x : Int32} (hn : n < 2 ^ 20) (h : ¬ x < 0) : nI n - 1 < x ↔ nI n ≤ x := by
  obtain ⟨j, hj, rfl⟩ := nI_of h
  cases n with
  | zero =>
    refine ⟨fun _ => nI_pos' hj, fun _ => ?_⟩
    rw [show nI 0 - 1 = (-1 : Int32) by decide]
    exact neg_lt (by decide) hj
  | succ m => rw [aI_s, nI_ltI (by omega) hj, nI_leI (by omega) hj]; omega
/-- one of n -/
theorem c_M_in0 {P : Int32 → xD → Prop} {x b : Int32} (n : Nat) (hn : n < 2 ^ 20) (hb : b = nI n - 1) (h0 : slotOf n x = none → P 0 D) (h1 : ∀ k, slotOf n x = some k → k < n → x = nI k → P 1 D) : xCi (d + 1) m_M_in [.int x, .int (0 : Int32), .int b] D P := by
  subst hb
  refine c_M_in (fun c => ?_) (fun c c1 => ?_)
  · cases hx : slotOf n x with
    | none => exact h0 hx
    | some k =>
      obtain ⟨hk, rfl⟩ := slot_some hx
      rcases c with c | c
      · exact absurd c (nI_pos (by omega))
      · exact absurd ((sub1_lt hn (nI_pos (by omega))).mp c) (nI_ge hk (by omega))
  · cases hx : slotOf n x with
    | none =>
      rcases slot_none (by omega) hx with q | ⟨-, q⟩
      · exact absurd q c
      · exact absurd ((sub1_lt hn c).mpr q) c1
    | some k =>
      obtain ⟨hk, e⟩ := slot_some hx
      exact h1 k hx hk e
theorem c_M_is {P : Int32 → xD → Prop} {s : Nat} {x : Int32} (hI : mI D g) (hs : s < 5) (h0 : txO g.1 s x = none → P 0 D) (h1 : ∀ k, k < g.1.2.2.1 s → k < 2 → x = nI k → txO g.1 s x = some (g.1.2.2.2 s k) → P 1 D) : xCi (d + 2) m_M_is [.ref 325, .int (nI s), .int x] D P := by
  have l : xl (325 + 5) = 20 := cl_13_5 xk_M
  have c2 := (hI.2.1.2.2 s hs).1
  refine xCi_of y_M_is (Nat.le_of_ble_eq_true rfl) (s_M_is_0 xk_M ⟨by rw [l]; exact vp_in_nI (by omega) (by omega), ?_⟩)
  have e : D.1 (325 + 5) (nI s).toNatClampNeg = nI (g.1.2.2.1 s) := by
    rw [nI_clamp (by omega)]
    have := hI.1.2.2.2.2.1 s hs
    rw [show 5 * 0 + s = s by omega] at this
    exact this
  rw [e]
  refine c_M_in0 (g.1.2.2.1 s) (by omega) rfl (fun q => ⟨Or.inl rfl, _, rfl, h0 ?_⟩) (fun k q hk hx => ⟨Or.inr rfl, _, rfl, h1 k hk (by omega) hx ?_⟩)
  · unfold txO; rw [q]
  · unfold txO; rw [q]
/-- the numbers of a text -/
theorem m_tx {s k i : Nat} (hI : mI D g) (hs : s < 5) (hk : k < g.1.2.2.1 s) (hi : i < wS s) : D.1 (331 + s) (wS s * k + i) = g.1.2.2.2 s k i := by
  have := hI.1.2.2.2.2.2 s hs k hk i hi
  rw [show 2 * 0 + k = k by omega] at this
  exact this
theorem c_M_isOne {P : Int32 → xD → Prop} {N : Nat} {x : Int32} (e : D.1 325 30 = nI N) (hN : N < 2 ^ 20) (h0 : slotOf N x = none → P 0 D) (h1 : ∀ k, slotOf N x = some k → k < N → x = nI k → P 1 D) : xCi (d + 2) m_M_isOne [.ref 325, .int x] D P :=
  xCi_of y_M_isOne (Nat.le_of_ble_eq_true rfl) (s_M_isOne_0 xk_M (c_M_in0 N hN (by rw [e]) (fun q => ⟨Or.inl rfl, _, rfl, h0 q⟩) (fun k q hk hx => ⟨Or.inr rfl, _, rfl, h1 k q hk hx⟩)))
theorem c_M_isKind {P : Int32 → xD → Prop} {N : Nat} {x : Int32} (e : D.1 325 27 = nI N) (hN : N < 2 ^ 20) (h0 : slotOf N x = none → P 0 D) (h1 : ∀ k, slotOf N x = some k → k < N → x = nI k → P 1 D) : xCi (d + 2) m_M_isKind [.ref 325, .int x] D P :=
  xCi_of y_M_isKind (Nat.le_of_ble_eq_true rfl) (s_M_isKind_0 xk_M (c_M_in0 N hN (by rw [e]) (fun q => ⟨Or.inl rfl, _, rfl, h0 q⟩) (fun k q hk hx => ⟨Or.inr rfl, _, rfl, h1 k q hk hx⟩)))
theorem c_M_of {P : Int32 → xD → Prop} {t j : Nat} (H : mTb D t τ) (hj : j < 48) (h : P (τ j) D) : xCi (d + 1) m_M_of [.ref 325, .int (nI j)] D P := by
  have l : xl (325 + 6) = 384 := cl_13_6 xk_M
  have ht := H.1
  have e : (48 : Int32) * D.1 325 26 + nI j = nI (48 * t + j) := by rw [H.2.1, show (48 : Int32) = nI 48 from rfl, pk_mul, nI_add]
  refine xCi_of y_M_of (Nat.le_of_ble_eq_true rfl) (s_M_of_0 xk_M ?_)
  rw [e, nI_clamp (by omega)]
  refine ⟨by rw [l]; exact vp_in_nI (by omega) (by omega), _, rfl, ?_⟩
  have := H.2.2 j hj
  rw [← this] at h; exact h
theorem c_M_ofOne {P : Int32 → xD → Prop} {t p w : Nat} (H : mTb D t τ) (hp : p < 6) (hw : w < 7) (h : P (τ (6 + 7 * p + w)) D) : xCi (d + 2) m_M_ofOne [.ref 325, .int (nI p), .int (nI w)] D P := by
  have e : (6 : Int32) + (7 : Int32) * nI p + nI w = nI (6 + 7 * p + w) := by rw [show (7 : Int32) = nI 7 from rfl, show (6 : Int32) = nI 6 from rfl, pk_mul, nI_add, nI_add]
  refine xCi_of y_M_ofOne (Nat.le_of_ble_eq_true rfl) (s_M_ofOne_0 xk_M ?_)
  rw [e]
  exact c_M_of H (by omega) ⟨_, rfl, h⟩
theorem sit_w {P : xD → Prop} {t i w : Nat} {f : Nat → Nat} (T : mTb D t τ) (hw : w < 6) (hi : i < 6) (e : D.1 338 i = nI (f i)) (hf : f i < 6) (h : ∀ D', mF (339 + w) (340 + w) 0 0 D D' → (∀ j, D'.1 (339 + w) j = if j = i then τ (6 + 7 * f i + w) else D.1 (339 + w) j) → P D') :
    vp_in (nI i) (xl (325 + 13)) ∧ xCi (d + 2) m_M_ofOne [.ref 325, .int (D.1 (325 + 13) i), .int (nI w)] D (fun r2 D1 => vp_in (nI i) (xl (325 + (14 + w))) ∧ ∀ D3 : xD, D3 = (xu D1.1 (325 + (14 + w)) i r2, D1.2) → P D3) := by
  have l13 : xl (325 + 13) = 6 := cl_13_32 xk_M
  have lw : xl (325 + (14 + w)) = 6 := by
    rcases (show w = 0 ∨ w = 1 ∨ w = 2 ∨ w = 3 ∨ w = 4 ∨ w = 5 by omega) with rfl | rfl | rfl | rfl | rfl | rfl
    · exact cl_13_33 xk_M
    · exact cl_13_34 xk_M
    · exact cl_13_35 xk_M
    · exact cl_13_36 xk_M
    · exact cl_13_37 xk_M
    · exact cl_13_38 xk_M
  have e' : D.1 (325 + 13) i = nI (f i) := e
  rw [e']
  refine ⟨by rw [l13]; exact vp_in_nI hi (by omega), c_M_ofOne T hf (by omega) ⟨by rw [lw]; exact vp_in_nI hi (by omega), fun D3 e3 => ?_⟩⟩
  rw [show 325 + (14 + w) = 339 + w by omega] at e3
  obtain ⟨o3, v3⟩ := ma (by omega) e3
  exact h D3 (o3.m (by omega) (by omega)) v3
theorem c_M_sit {P : xD → Prop} {t n : Nat} {f : Nat → Nat} (T : mTb D t τ) (hn : n ≤ 6) (hw : mWho D n f) (hf : ∀ i, i < n → f i < 6) (h : ∀ D', mF 339 345 31 32 D D' → mSit D' (tSeats τ f n) → P D') : xCv (d + 3) m_M_sit [.ref 325, .int (nI n)] D P := by
  refine xCv_of y_M_sit (Nat.le_of_ble_eq_true rfl) (s_M_sit_0 xk_M (fun D1 e1 => ?_))
  obtain ⟨o1, f1⟩ := mf e1
  have key : ∀ m i, i + m = n → ∀ D', mF 339 345 31 32 D D' → D'.1 325 31 = nI n → (∀ j, j < i → ∀ w, w < 6 → D'.1 (339 + w) j = τ (6 + 7 * f j + w)) → xPf (d + 3) m_M_sit 7 [(0, .ref 325), (1, .int (nI n)), (2, .int (nI i))] [] D' (fun r D' => r = none ∧ P D') := by
    intro m
    induction m with
    | zero =>
      intro i hi D' o e31 hv
      refine s_M_sit_7 xk_M ⟨fun _ => ⟨rfl, h D' o ⟨?_, fun j hj w hw' => ?_⟩⟩, fun z => absurd (nI_le (by omega) (by omega)) z⟩
      · rw [tSeats_5 τ f (by omega)]; exact e31
      · rw [tSeats_5 τ f (by omega)] at hj
        rw [tSeats_p τ f n (by omega)]; exact hv j (by omega) w hw'
    | succ m ih =>
      intro i hi D' o e31 hv
      refine s_M_sit_7 xk_M ⟨fun z => absurd z (nI_ge (by omega) (by omega)), fun _ => ?_⟩
      rw [nI_clamp (by omega)]
      have T' := T.fr o (by omega) (by omega)
      have hw' := hw.fr o (by omega)
      have hi6 : i < 6 := by omega
      have hfi := hf i (by omega)
      refine sit_w (w := 0) T' (by omega) hi6 (hw' i (by omega)) hfi (fun D1 o1 v1 => ?_)
      refine sit_w (w := 1) (T'.fr o1 (by omega) (by omega)) (by omega) hi6 (hw'.fr o1 (by omega) i (by omega)) hfi (fun D2 o2 v2 => ?_)
      have o12 : mF 339 341 0 0 D' D2 := (o1.m (by omega) (by omega)).trans (o2.m (by omega) (by omega))
      refine sit_w (w := 2) (T'.fr o12 (by omega) (by omega)) (by omega) hi6 (hw'.fr o12 (by omega) i (by omega)) hfi (fun D3 o3 v3 => ?_)
      have o13 : mF 339 342 0 0 D' D3 := (o12.m (by omega) (by omega)).trans (o3.m (by omega) (by omega))
      refine sit_w (w := 3) (T'.fr o13 (by omega) (by omega)) (by omega) hi6 (hw'.fr o13 (by omega) i (by omega)) hfi (fun D4 o4 v4 => ?_)
      have o14 : mF 339 343 0 0 D' D4 := (o13.m (by omega) (by omega)).trans (o4.m (by omega) (by omega))
      refine sit_w (w := 4) (T'.fr o14 (by omega) (by omega)) (by omega) hi6 (hw'.fr o14 (by omega) i (by omega)) hfi (fun D5 o5 v5 => ?_)
      have o15 : mF 339 344 0 0 D' D5 := (o14.m (by omega) (by omega)).trans (o5.m (by omega) (by omega))
      refine sit_w (w := 5) (T'.fr o15 (by omega) (by omega)) (by omega) hi6 (hw'.fr o15 (by omega) i (by omega)) hfi (fun D6 o6 v6 => ?_)
      have o16 : mF 339 345 0 0 D' D6 := (o15.m (by omega) (by omega)).trans (o6.m (by omega) (by omega))
      rw [nI_1 i]
      refine ih (i + 1) (by omega) D6 (o.trans (o16.m (by omega) (by omega))) (by rw [o16.2 31 (by omega)]; exact e31) (fun j hj w hw6 => ?_)
      have old : j ≠ i → D'.1 (339 + w) j = τ (6 + 7 * f j + w) := fun z => hv j (by omega) w hw6
      rcases (show w = 0 ∨ w = 1 ∨ w = 2 ∨ w = 3 ∨ w = 4 ∨ w = 5 by omega) with rfl | rfl | rfl | rfl | rfl | rfl
      · rw [(o6.1 _ (by omega) (by omega)).1, (o5.1 _ (by omega) (by omega)).1, (o4.1 _ (by omega) (by omega)).1, (o3.1 _ (by omega) (by omega)).1, (o2.1 _ (by omega) (by omega)).1, v1]
        by_cases z : j = i
        · rw [if_pos z, z]
        · rw [if_neg z]; exact old z
      · rw [(o6.1 _ (by omega) (by omega)).1, (o5.1 _ (by omega) (by omega)).1, (o4.1 _ (by omega) (by omega)).1, (o3.1 _ (by omega) (by omega)).1, v2]
        by_cases z : j = i
        · rw [if_pos z, z]
        · rw [if_neg z, (o1.1 _ (by omega) (by omega)).1]; exact old z
      · rw [(o6.1 _ (by omega) (by omega)).1, (o5.1 _ (by omega) (by omega)).1, (o4.1 _ (by omega) (by omega)).1, v3]
        by_cases z : j = i
        · rw [if_pos z, z]
        · rw [if_neg z, (o12.1 _ (by omega) (by omega)).1]; exact old z
      · rw [(o6.1 _ (by omega) (by omega)).1, (o5.1 _ (by omega) (by omega)).1, v4]
        by_cases z : j = i
        · rw [if_pos z, z]
        · rw [if_neg z, (o13.1 _ (by omega) (by omega)).1]; exact old z
      · rw [(o6.1 _ (by omega) (by omega)).1, v5]
        by_cases z : j = i
        · rw [if_pos z, z]
        · rw [if_neg z, (o14.1 _ (by omega) (by omega)).1]; exact old z
      · rw [v6]
        by_cases z : j = i
        · rw [if_pos z, z]
        · rw [if_neg z, (o15.1 _ (by omega) (by omega)).1]; exact old z
  exact key n 0 (by omega) D1 (o1.m (by omega) (by omega)) f1 (fun j hj => absurd hj (Nat.not_lt_zero _))
/-- as they are told -/
theorem mSit_id {D : xD} (hT : tOK τ) (h : mSit D (tSeats τ (fun p => p) (tN τ 5))) : mSit D τ := by
  have b5 := hT.2.2.2.2.2.2.1
  refine ⟨by rw [h.1, tSeats_5 _ _ (by omega)], fun i hi w hw => ?_⟩
  have := h.2 i (by rw [tSeats_5 _ _ (by omega)]; exact hi) w hw
  rw [tSeats_p _ _ _ (by omega)] at this
  exact this
theorem c_M_hand {P : Int32 → xD → Prop} {x : Int32} (hI : mI D g) (h0 : txO g.1 0 x = none → P 0 D) (h1 : ∀ τ, txO g.1 0 x = some τ → tOK τ → tLaw τ → tFit τ → ∀ D', mF 338 345 26 32 D D' → mI D' g → mH D' τ → mSit D' τ → mWho D' (tN τ 5) (fun p => p) → P 1 D') : xCi (d + 4) m_M_hand1 [.ref 325, .int x] D P := by
  refine xCi_of y_M_hand1 (Nat.le_of_ble_eq_true rfl) (s_M_hand1_0 xk_M (c_M_is (s := 0) hI (by omega) (fun q => z0' ⟨_, rfl, h0 q⟩) (fun k hk hk2 hx q => z1' ?_)))
  have tx := ((hI.2.1.2.2 0 (by omega)).2 k hk).1 rfl
  generalize hτ : g.1.2.2.2 0 k = τ at q tx
  have b5 := tx.1.2.2.2.2.2.2.1
  intro D1 e1
  obtain ⟨o1, f1⟩ := mf e1
  have T1 : mTb D1 k τ := by
    refine ⟨hk2, by rw [f1, hx], fun j hj => ?_⟩
    rw [(o1.1 331 (by omega) (by omega)).1, ← hτ]
    exact m_tx (s := 0) hI (by omega) hk hj
  refine c_M_of (j := 0) T1 (by omega) (fun D2 e2 => ?_)
  obtain ⟨o2, f2⟩ := mf e2
  have T2 := T1.fr o2 (by omega) (by omega)
  refine c_M_of (j := 1) T2 (by omega) (fun D3 e3 => ?_)
  obtain ⟨o3, f3⟩ := mf e3
  have T3 := T2.fr o3 (by omega) (by omega)
  refine c_M_of (j := 2) T3 (by omega) (fun D4 e4 => ?_)
  obtain ⟨o4, f4⟩ := mf e4
  have T4 := T3.fr o4 (by omega) (by omega)
  refine c_M_of (j := 5) T4 (by omega) (fun D5 e5 => ?_)
  obtain ⟨o5, f5⟩ := mf e5
  have T5 := T4.fr o5 (by omega) (by omega)
  have H5 : mH D5 τ := ⟨⟨k, T5⟩, by rw [o5.2 27 (by omega), o4.2 27 (by omega), o3.2 27 (by omega)]; exact f2, by rw [o5.2 28 (by omega), o4.2 28 (by omega)]; exact f3, by rw [o5.2 29 (by omega)]; exact f4, f5⟩
  have o15 : mF 338 345 26 32 D D5 := (o1.m (by omega) (by omega)).trans ((o2.m (by omega) (by omega)).trans ((o3.m (by omega) (by omega)).trans ((o4.m (by omega) (by omega)).trans (o5.m (by omega) (by omega)))))
  have e5' : τ 5 = nI (tN τ 5) := tx.1.1 5 (by omega)
  have l13 : xl (325 + 13) = 6 := cl_13_32 xk_M
  have key : ∀ m i, i + m = tN τ 5 → ∀ D', mF 338 339 0 0 D5 D' → mWho D' i (fun p => p) → xPf (d + 4) m_M_hand1 54 [(0, .ref 325), (1, .int x), (2, .int (nI i))] [] D' (fun r D' => ∃ v, r = some (.int v) ∧ P v D') := by
    intro m
    induction m with
    | zero =>
      intro i hi D' o hw
      have H' := H5.fr o (by omega) (by omega)
      obtain ⟨⟨t', T'⟩, -⟩ := id H'
      refine s_M_hand1_54 xk_M ?_
      rw [H'.2.2.2.2, e5']
      refine ⟨fun _ => c_M_sit (f := fun p => p) T' b5 (by rw [← hi]; exact hw) (fun i hi => by omega) (fun D6 o6 S6 => ⟨_, rfl, ?_⟩), fun z => absurd (nI_le (by omega) (by omega)) z⟩
      have oA : mF 338 345 26 32 D D6 := o15.trans ((o.m (by omega) (by omega)).trans (o6.m (by omega) (by omega)))
      refine h1 τ q tx.1 tx.2.1 tx.2.2 D6 oA (hI.o (oA.o (by omega))) (H'.fr o6 (by omega) (by omega)) (mSit_id tx.1 S6) (by rw [← hi]; exact hw.fr o6 (by omega))
    | succ m ih =>
      intro i hi D' o hw
      have H' := H5.fr o (by omega) (by omega)
      refine s_M_hand1_54 xk_M ?_
      rw [H'.2.2.2.2, e5', nI_clamp (by omega)]
      refine ⟨fun z => absurd z (nI_ge (by omega) (by omega)), fun _ => ⟨by rw [l13]; exact vp_in_nI (by omega) (by omega), fun D6 e6 => ?_⟩⟩
      obtain ⟨o6, v6⟩ := ma (by omega) e6
      rw [nI_1 i]
      refine ih (i + 1) (by omega) D6 (o.trans (o6.m (by omega) (by omega))) (fun j hj => ?_)
      have v6' := v6 j
      rw [show D6.1 (325 + 13) j = D6.1 338 j from rfl] at v6'
      rw [v6']
      by_cases z : j = i
      · rw [if_pos z, z]
      · rw [if_neg z]; exact hw j (by omega)
  exact key (tN τ 5) 0 (by omega) D5 mF.rfl' (fun j hj => absurd hj (Nat.not_lt_zero _))
end M1
