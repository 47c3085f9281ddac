/-! What is asked of a HEAP at a TABLE: whether it FITS; books; ROUNDS. -/
theorem known_step (h : Nat → Int32) (n : Nat) : ∀ K, K < 2 ^ 31 → known h (n + 1) K = known h n K ∨ (known h (n + 1) K = known h n K + 1 ∧ ∃ k, k < K ∧ h n = nI k) := by
  intro K
  induction K with
  | zero => intro _; exact Or.inl rfl
  | succ K ih =>
    intro hK
    have e : known h (n + 1) (K + 1) = known h (n + 1) K + (rcnt h (nI K) n + if h n = nI K then 1 else 0) := rfl
    have e2 : known h n (K + 1) = known h n K + rcnt h (nI K) n := rfl
    rw [e, e2]
    by_cases q : h n = nI K
    · rw [if_pos q]
      rcases ih (by omega) with z | ⟨z, k, hk, hk2⟩
      · exact Or.inr ⟨by omega, K, by omega, q⟩
      · rw [q] at hk2
        have := (nI_eq (by omega) (by omega)).mp hk2
        omega
    · rw [if_neg q]
      rcases ih (by omega) with z | ⟨z, k, hk, hk2⟩
      · exact Or.inl (by omega)
      · exact Or.inr ⟨by omega, k, by omega, hk2⟩
theorem known_n (h : Nat → Int32) {K : Nat} (hK : K < 2 ^ 31) : ∀ n, known h n K ≤ n ∧ (known h n K = n → ∀ j, j < n → ∃ k, k < K ∧ h j = nI k) := by
  intro n
  induction n with
  | zero =>
    refine ⟨?_, fun _ j hj => absurd hj (by omega)⟩
    have : ∀ K, known h 0 K = 0 := by
      intro K
      induction K with
      | zero => rfl
      | succ K ih => rw [known, ih]; rfl
    rw [this]; exact Nat.le_refl _
  | succ n ih =>
    rcases known_step h n K hK with z | ⟨z, hk⟩
    · exact ⟨by omega, fun q => by omega⟩
    · refine ⟨by omega, fun q j hj => ?_⟩
      by_cases e : j = n
      · rw [e]; exact hk
      · exact ih.2 (by omega) j (by omega)
theorem rcnt_congr {f g : Nat → Int32} {v : Int32} : ∀ {n : Nat}, (∀ i, i < n → f i = g i) → rcnt f v n = rcnt g v n := by
  intro n
  induction n with
  | zero => intro _; rfl
  | succ n ih => intro h; rw [rcnt, rcnt, ih (fun i hi => h i (by omega)), h n (by omega)]
theorem known_congr {f g : Nat → Int32} {n : Nat} (h : ∀ i, i < n → f i = g i) : ∀ K, known f n K = known g n K := by
  intro K
  induction K with
  | zero => rfl
  | succ K ih => rw [known, known, ih, rcnt_congr h]
theorem fits_congr {τ : Nat → Int32} {f g : Nat → Int32} {n : Nat} (h : ∀ i, i < n → f i = g i) : fitsS τ f n ↔ fitsS τ g n := by
  unfold fitsS
  rw [known_congr h]
  constructor
  · rintro ⟨a, b, c⟩; exact ⟨fun k hk => by rw [← rcnt_congr h]; exact a k hk, b, c⟩
  · rintro ⟨a, b, c⟩; exact ⟨fun k hk => by rw [rcnt_congr h]; exact a k hk, b, c⟩
/-- the cards of a HEAP -/
def hpC (η : Nat → Int32) : Nat → Nat := fun i => tN η (1 + i)
def fitsH (τ η : Nat → Int32) : Prop := fitsS τ (fun i => η (1 + i)) (tN η 0)
theorem fits_lt {τ η : Nat → Int32} (hT : tOK τ) (hO : hpOK η) (h : fitsH τ η) : ∀ j, j < tN η 0 → hpC η j < tN τ 0 := by
  intro j hj
  have hK := hT.2.1
  obtain ⟨k, hk, hk2⟩ := (known_n (fun i => η (1 + i)) (K := tN τ 0) (by omega) (tN η 0)).2 h.2.1 j hj
  have hk2 : η (1 + j) = nI k := hk2
  have e : hpC η j = k := by unfold hpC tN; rw [hk2, nI_clamp (by omega)]
  omega
theorem fits_A {τ η : Nat → Int32} (h : fitsH τ η) : tN τ 2 * tN τ 5 < tN η 0 := by
  have := h.2.2
  rw [Nat.mul_comm]; exact this
noncomputable def aFits (σ : sT) (t p : Int32) : Int32 := match txO σ 0 t with
  | none => -1
  | some τ => match txO σ 1 p with
    | none => -1
    | some η => cif (fitsH τ η) 1 0
/-- a table and a heap that FITS -/
noncomputable def fOf {α : Type} (z : α) (σ : sT) (t p : Int32) (f : (Nat → Int32) → (Nat → Int32) → α) : α := match txO σ 0 t with
  | none => z
  | some τ => match txO σ 1 p with
    | none => z
    | some η => cif (fitsH τ η) (f τ η) z
theorem fOf_n {α : Type} {z : α} {σ : sT} {t p : Int32} {f : (Nat → Int32) → (Nat → Int32) → α} (q : txO σ 0 t = none ∨ txO σ 1 p = none) : fOf z σ t p f = z := by
  unfold fOf
  rcases q with q | q
  · rw [q]
  · rw [q]
    cases txO σ 0 t with
    | none => rfl
    | some τ => rfl
theorem fOf_f {α : Type} {z : α} {σ : sT} {t p : Int32} {f : (Nat → Int32) → (Nat → Int32) → α} {τ η : Nat → Int32} (q1 : txO σ 0 t = some τ) (q2 : txO σ 1 p = some η) (q : ¬ fitsH τ η) : fOf z σ t p f = z := by
  unfold fOf
  rw [q1, q2]
  exact cif_f q
theorem fOf_t {α : Type} {z : α} {σ : sT} {t p : Int32} {f : (Nat → Int32) → (Nat → Int32) → α} {τ η : Nat → Int32} (q1 : txO σ 0 t = some τ) (q2 : txO σ 1 p = some η) (q : fitsH τ η) : fOf z σ t p f = f τ η := by
  unfold fOf
  rw [q1, q2]
  exact cif_t q
noncomputable def aStop (σ : sT) (t p b : Int32) : Int32 := fOf (-1) σ t p (fun τ η => match txO σ 2 b with
  | none => -1
  | some β => nI (bMany (tN τ 5) (tN τ 2) (tN τ 0) β (bInit τ (tN η 0) (hpC η)) (tN β 0)))
/-- where the round of a book is behind so many deeds -/
noncomputable def stOf (σ : sT) (t p b n : Int32) : Option ((Nat → Int32) × bS) := fOf none σ t p (fun τ η => match txO σ 2 b with
  | none => none
  | some β => match slotOf (tN β 0 + 1) n with
    | none => none
    | some k => (bRun (tN τ 5) (tN τ 2) (tN τ 0) β (bInit τ (tN η 0) (hpC η)) k).map (fun s => (τ, s)))
noncomputable def aState (σ : sT) (t p b n w : Int32) : Int32 := match stOf σ t p b n with
  | none => -2
  | some (τ, s) => bAns (tN τ 5) s w
noncomputable def aHolds (σ : sT) (t p b n q k : Int32) : Int32 := match stOf σ t p b n with
  | none => -2
  | some (τ, s) => match slotOf (tN τ 5) q with
    | none => -2
    | some q => if k = -1 then nI (s.1.2.1 q) else match slotOf (tN τ 0) k with
      | none => -2
      | some k => nI (s.1.1 q k)
noncomputable def aRound (σ : sT) (t p w : Int32) : Int32 := fOf (-2) σ t p (fun τ η => match perAsk (tN τ 5) w with
  | none => match slotOf 5 w with
    | none => -2
    | some w => rAns τ (tN η 0) (hpC η) w
  | some q => if 20 ≤ w then rAnsOf τ (tN η 0) (hpC η) q ((0 : Int32) ≠ 0) else rAnsOf τ (tN η 0) (hpC η) q ((1 : Int32) ≠ 0))
noncomputable def aBehind (σ : sT) (t p u q k : Int32) : Int32 := fOf (-2) σ t p (fun τ η => match slotOf (tN τ 5) q with
  | none => -2
  | some q => match slotOf (tTop + 1) u with
    | none => -2
    | some u => if k = -1 then nI ((rGo τ (tN η 0) (hpC η) u).1.2.2 q).length else match slotOf (tN τ 0) k with
      | none => -2
      | some k => nI ((rGo τ (tN η 0) (hpC η) u).1.1 q k))
theorem bMany_le {N A K : Nat} {β : Nat → Int32} {s0 : bS} : ∀ n, bMany N A K β s0 n ≤ n := by
  intro n
  induction n with
  | zero => exact Nat.le_refl _
  | succ n ih => rw [bMany]; split <;> omega
theorem bMany_eq {N A K : Nat} {β : Nat → Int32} {s0 : bS} {n : Nat} : bMany N A K β s0 n = n ↔ bRun N A K β s0 n ≠ none := by
  constructor
  · intro h q
    cases n with
    | zero => cases q
    | succ n =>
      rw [bMany, if_pos q] at h
      have := bMany_le (N := N) (A := A) (K := K) (β := β) (s0 := s0) n
      omega
  · exact bMany_at
section ASK4
variable {d : Nat} {D : xD} {g : gS}
theorem c_suits {P : Int32 → xD → Prop} {t a : Nat} {τ η : Nat → Int32} (hR : tR D t τ) (hT : tOK τ) (ha : rS D a (tN η 0)) (hv : ∀ i, i < tN η 0 → D.1 (a + 1) i = η (1 + i)) (hO : hpOK η) (h1 : fitsH τ η → P 1 D) (h0 : ¬ fitsH τ η → P 0 D) : xCi (d + 4) m_Table_suits [.ref t, .ref a] D P := by
  have hn := hO.2.1
  exact c_Table_suits hR hT ha (by omega) (fun q => h1 ((fits_congr hv).mp q)) (fun q => h0 (fun z => q ((fits_congr hv).mpr z)))
theorem c_S_fits {P : Int32 → xD → Prop} {t p : Int32} (hI : cI D g) (h : P (aFits g.1 t p) D) : xCi (d + 40) m_S_fits [.ref 0, .int t, .int p] D P := by
  refine xCi_of y_S_fits (Nat.le_of_ble_eq_true rfl) (s_S_fits_0 xk_0 (c_S_tableAt hI (fun q => ?_) (fun b τ q a1 a2 hR hT hL hF => ?_)))
  · unfold aFits at h; rw [q] at h
    exact qn (c_S_heapAt hI (fun _ => qn ⟨_, rfl, h⟩) (fun a η _ _ _ hR _ _ => qs ⟨hR.2.2, _, rfl, h⟩))
  · unfold aFits at h; simp only [q] at h
    refine qs ⟨hR.1, c_S_heapAt hI (fun y => ?_) (fun a η y b1 b2 ha hv hO => ?_)⟩
    · rw [y] at h; exact qn ⟨_, rfl, h⟩
    · simp only [y] at h
      refine qs ⟨ha.2.2, c_suits hR hT ha hv hO (fun z => ?_) (fun z => ?_)⟩
      · rw [cif_t z] at h; exact z1 ⟨_, rfl, h⟩
      · rw [cif_f z] at h; exact z0 ⟨_, rfl, h⟩
theorem hp_c {D : xD} {a : Nat} {τ η : Nat → Int32} (hT : tOK τ) (hv : ∀ i, i < tN η 0 → D.1 (a + 1) i = η (1 + i)) (hO : hpOK η) (hf : fitsH τ η) : ∀ j, j < tN η 0 → D.1 (a + 1) j = nI (hpC η j) ∧ hpC η j < tN τ 0 := fun j hj => ⟨by rw [hv j hj]; exact (hO.2.2 j hj).1, fits_lt hT hO hf j hj⟩
theorem wI_deeds {D D' : xD} {lo hi : Nat} (w : wI D) (o : xOut lo hi D D') (q : 206 ≤ lo ∧ hi ≤ 222) (r : rS D' 212 364) : wI D' :=
  ⟨r, w.2.1.out o (by omega), w.2.2.1.out o (by omega), w.2.2.2.1.out o (by omega), w.2.2.2.2.out o (by omega)⟩
theorem wI_rounds {D D' : xD} {lo hi : Nat} (w : wI D) (o : xOut lo hi D D') (q : 222 ≤ lo ∧ hi ≤ 254) (r : rS D' 228 364) : wI D' :=
  ⟨w.1.out o (by omega), r, w.2.2.1.out o (by omega), w.2.2.2.1.out o (by omega), w.2.2.2.2.out o (by omega)⟩
theorem c_S_stop {P : Int32 → xD → Prop} {t p b : Int32} (hI : cI D g) (h : ∀ D', xOut 180 325 D D' → cI D' g → P (aStop g.1 t p b) D') : xCi (d + 40) m_S_stop [.ref 0, .int t, .int p, .int b] D P := by
  have hz := h D xOut.rfl' hI
  unfold aStop at hz h
  refine xCi_of y_S_stop (Nat.le_of_ble_eq_true rfl) (s_S_stop_0 xk_0 (c_S_tableAt hI (fun q => ?_) (fun b τ q a1 a2 hR hT hL hF => ?_)))
  · rw [fOf_n (Or.inl q)] at hz
    exact qn (c_S_heapAt hI (fun _ => qn (c_S_bookAt hI (fun _ => qn ⟨_, rfl, hz⟩) (fun _ _ _ _ _ hR _ => qs ⟨hR.1.2.2, _, rfl, hz⟩))) (fun a η _ _ _ hR _ _ => qs ⟨hR.2.2, c_S_bookAt hI (fun _ => qn ⟨_, rfl, hz⟩) (fun _ _ _ _ _ hR _ => qs ⟨hR.1.2.2, _, rfl, hz⟩)⟩))
  · refine qs ⟨hR.1, c_S_heapAt hI (fun y => ?_) (fun a η y b1 b2 ha hv hO => ?_)⟩
    · rw [fOf_n (Or.inr y)] at hz
      exact qn (c_S_bookAt hI (fun _ => qn ⟨_, rfl, hz⟩) (fun _ _ _ _ _ hR _ => qs ⟨hR.1.2.2, _, rfl, hz⟩))
    · refine qs ⟨ha.2.2, c_S_bookAt hI (fun z => ?_) (fun e β z e1 e2 hk hβ => ?_)⟩
      · by_cases f : fitsH τ η
        · rw [fOf_t q y f, z] at hz; exact qn ⟨_, rfl, hz⟩
        · rw [fOf_f q y f] at hz; exact qn ⟨_, rfl, hz⟩
      · refine qs ⟨hk.1.2.2, c_suits hR hT ha hv hO (fun f => z1' ?_) (fun f => z0' ⟨_, rfl, ?_⟩)⟩
        · rw [fOf_t q y f] at h
          simp only [z] at h
          obtain ⟨m40, m0, -⟩ := bOK_len hβ
          refine c_Deeds_play (M := 40) xk_206 hR hT hF.1 ha hO.2.1 (hp_c hT hv hO f) (fits_A f) hI.2.2.2.2.2.1 hk hβ m0 m40 (by omega) (by omega) (by omega) (by omega) (fun D' oD r5 _ => ⟨_, rfl, ?_⟩)
          rw [Nat.min_eq_left m40]
          exact h D' (oD.mono (by omega) (by omega)) (hI.work oD (by omega) (wI_deeds hI.2.2.2.2.2 oD (by omega) r5))
        · rw [fOf_f q y f] at hz; exact hz
theorem c_S_comesTo {P : Int32 → xD → Prop} {t p b n : Int32} (hI : cI D g) (h0 : ∀ D', xOut 206 222 D D' → cI D' g → stOf g.1 t p b n = none → P 0 D')
    (h1 : ∀ D' τ s, xOut 206 222 D D' → cI D' g → txO g.1 0 t = some τ → tOK τ → stOf g.1 t p b n = some (τ, s) → s.2.1.length < 10 → bR D' 206 (tN τ 5) (tN τ 2) (tN τ 0) s → P 1 D') : xCi (d + 8) m_S_comesTo [.ref 0, .int t, .int p, .int b, .int n] D P := by
  have hz := h0 D xOut.rfl' hI
  unfold stOf at hz h0 h1
  refine xCi_of y_S_comesTo (Nat.le_of_ble_eq_true rfl) (s_S_comesTo_0 xk_0 (c_S_tableAt hI (fun q => ?_) (fun tb τ q a1 a2 hR hT hL hF => ?_)))
  · have hz := hz (fOf_n (Or.inl q))
    exact qn (c_S_heapAt hI (fun _ => qn (c_S_bookAt hI (fun _ => qn ⟨fun _ => ⟨_, rfl, hz⟩, fun _ => ⟨_, rfl, hz⟩⟩) (fun _ _ _ _ _ hR _ => qs ⟨hR.1.2.2, fun _ => ⟨_, rfl, hz⟩, fun _ => ⟨_, rfl, hz⟩⟩))) (fun a η _ _ _ hR _ _ => qs ⟨hR.2.2, c_S_bookAt hI (fun _ => qn ⟨fun _ => ⟨_, rfl, hz⟩, fun _ => ⟨_, rfl, hz⟩⟩) (fun _ _ _ _ _ hR _ => qs ⟨hR.1.2.2, fun _ => ⟨_, rfl, hz⟩, fun _ => ⟨_, rfl, hz⟩⟩)⟩))
  · refine qs ⟨hR.1, c_S_heapAt hI (fun y => ?_) (fun a η y b1 b2 ha hv hO => ?_)⟩
    · have hz := hz (fOf_n (Or.inr y))
      exact qn (c_S_bookAt hI (fun _ => qn ⟨fun _ => ⟨_, rfl, hz⟩, fun _ => ⟨_, rfl, hz⟩⟩) (fun _ _ _ _ _ hR _ => qs ⟨hR.1.2.2, fun _ => ⟨_, rfl, hz⟩, fun _ => ⟨_, rfl, hz⟩⟩))
    · refine qs ⟨ha.2.2, c_S_bookAt hI (fun z => ?_) (fun e β z e1 e2 hk hβ => ?_)⟩
      · have hz := hz (by
          by_cases f : fitsH τ η
          · rw [fOf_t q y f, z]
          · rw [fOf_f q y f])
        exact qn ⟨fun _ => ⟨_, rfl, hz⟩, fun _ => ⟨_, rfl, hz⟩⟩
      · obtain ⟨m40, m0, -⟩ := bOK_len hβ
        have bad : ¬ (fitsH τ η ∧ ∃ k, k ≤ tN β 0 ∧ n = nI k) → P 0 D := fun w => hz (by
          by_cases f : fitsH τ η
          · rw [fOf_t q y f]
            simp only [z]
            cases hx : slotOf (tN β 0 + 1) n with
            | none => rfl
            | some k =>
              obtain ⟨k1, k2⟩ := slot_some hx
              exact absurd ⟨f, k, by omega, k2⟩ w
          · rw [fOf_f q y f])
        refine qs ⟨hk.1.2.2, fun c => ⟨_, rfl, bad ?_⟩, fun c => c_suits hR hT ha hv hO (fun f => z1' ?_) (fun f => z0' ⟨_, rfl, bad (fun w => f w.1)⟩)⟩
        · rintro ⟨-, k, k1, k2⟩
          rw [k2] at c
          exact nI_pos (by omega) c
        · obtain ⟨M, hM, rfl⟩ := nI_of c
          refine c_Deeds_play (M := M) xk_206 hR hT hF.1 ha hO.2.1 (hp_c hT hv hO f) (fits_A f) hI.2.2.2.2.2.1 hk hβ m0 m40 hM (by omega) (by omega) (by omega) (fun D' oD r5 hs => ?_)
          have hI' : cI D' g := hI.work oD (by omega) (wI_deeds hI.2.2.2.2.2 oD (by omega) r5)
          have hle := bMany_le (N := tN τ 5) (A := tN τ 2) (K := tN τ 0) (β := β) (s0 := bInit τ (tN η 0) (hpC η)) (min (tN β 0) M)
          have hmin : min (tN β 0) M ≤ 40 := by omega
          rw [nI_eq (by omega) hM]
          have st : M ≤ tN β 0 → fOf none g.1 t p (fun τ η => match txO g.1 2 b with
              | none => none
              | some β => match slotOf (tN β 0 + 1) (nI M) with
                | none => none
                | some k => (bRun (tN τ 5) (tN τ 2) (tN τ 0) β (bInit τ (tN η 0) (hpC η)) k).map (fun s => (τ, s))) = (bRun (tN τ 5) (tN τ 2) (tN τ 0) β (bInit τ (tN η 0) (hpC η)) M).map (fun s => (τ, s)) := fun hle => by
            rw [fOf_t q y f]
            simp only [z]
            rw [slot_nI (show M < tN β 0 + 1 by omega) (by omega)]
          refine ⟨fun w => ⟨_, rfl, h0 D' oD hI' ?_⟩, fun w => ⟨_, rfl, ?_⟩⟩
          · by_cases v : M ≤ tN β 0
            · rw [st v]
              rw [Nat.min_eq_right v] at w
              cases hb : bRun (tN τ 5) (tN τ 2) (tN τ 0) β (bInit τ (tN η 0) (hpC η)) M with
              | none => rfl
              | some s => exact absurd (bMany_eq.mpr (by rw [hb]; exact fun z => by cases z)) w
            · rw [fOf_t q y f]
              simp only [z]
              rw [slot_ge (show tN β 0 + 1 < 2 ^ 31 by omega) (nI_le (by omega) hM)]
          · have v : M ≤ tN β 0 := by omega
            rw [Nat.min_eq_right v] at w hs
            have hb := bMany_eq.mp w
            cases hb2 : bRun (tN τ 5) (tN τ 2) (tN τ 0) β (bInit τ (tN η 0) (hpC η)) M with
            | none => exact absurd hb2 hb
            | some s =>
              have hW := bRun_ok (n := tN η 0) hT.2.1.2 (bW_init hT hF.1 hO.2.1 (fits_A f) (fits_lt hT hO f)) hb2
              have b5 := hT.2.2.2.2.2.2.1
              exact h1 D' τ s oD hI' q hT (by rw [st v, hb2]; rfl) (by have := hW.2.2.1; omega) (hs s hb2)
theorem c_S_state {P : Int32 → xD → Prop} {t p b n w : Int32} (hI : cI D g) (h : ∀ D', xOut 180 325 D D' → cI D' g → P (aState g.1 t p b n w) D') : xCi (d + 40) m_S_state [.ref 0, .int t, .int p, .int b, .int n, .int w] D P := by
  refine xCi_of y_S_state (Nat.le_of_ble_eq_true rfl) (s_S_state_0 xk_0 (c_S_comesTo hI (fun D' oD hI' q => ?_) (fun D' τ s oD hI' qt hT q hl hB => ?_)))
  · have hz := h D' (oD.mono (by omega) (by omega)) hI'
    unfold aState at hz; rw [q] at hz; exact z0 ⟨_, rfl, hz⟩
  · have hz := h D' (oD.mono (by omega) (by omega)) hI'
    unfold aState at hz; rw [q] at hz
    exact z1 (c_Deeds_answer hB hT.2.2.2.2.2.2.1 hl ⟨_, rfl, hz⟩)
theorem st_none {σ : sT} {t p b n : Int32} (q : txO σ 0 t = none) : stOf σ t p b n = none := by unfold stOf; exact fOf_n (Or.inl q)
theorem st_tab {σ : sT} {t p b n : Int32} {τ τ' : Nat → Int32} {s : bS} (q : txO σ 0 t = some τ) (h : stOf σ t p b n = some (τ', s)) : τ' = τ := by
  unfold stOf fOf at h
  rw [q] at h
  cases hp : txO σ 1 p with
  | none => rw [hp] at h; cases h
  | some η =>
    simp only [hp] at h
    by_cases f : fitsH τ η
    · rw [cif_t f] at h
      cases hb : txO σ 2 b with
      | none => rw [hb] at h; cases h
      | some β =>
        simp only [hb] at h
        cases hx : slotOf (tN β 0 + 1) n with
        | none => rw [hx] at h; cases h
        | some k =>
          simp only [hx] at h
          cases hr : bRun (tN τ 5) (tN τ 2) (tN τ 0) β (bInit τ (tN η 0) (hpC η)) k with
          | none => rw [hr] at h; cases h
          | some s' => rw [hr] at h; cases h; rfl
    · rw [cif_f f] at h; cases h
theorem c_S_holds {P : Int32 → xD → Prop} {t p b n x k : Int32} (hI : cI D g) (h : ∀ D', xOut 180 325 D D' → cI D' g → P (aHolds g.1 t p b n x k) D') : xCi (d + 40) m_S_holds [.ref 0, .int t, .int p, .int b, .int n, .int x, .int k] D P := by
  have hz := h D xOut.rfl' hI
  unfold aHolds at hz h
  refine xCi_of y_S_holds (Nat.le_of_ble_eq_true rfl) (s_S_holds_0 xk_0 (c_S_tableAt hI (fun q => ?_) (fun a τ q a1 a2 hR hT hL hF => ?_)))
  · rw [st_none q] at hz; exact qn ⟨_, rfl, hz⟩
  · have b5 := hT.2.2.2.2.2.2.1
    refine qs ⟨hR.1, c_has hR hT (fun y => ?_) (fun i hi y e => ?_)⟩
    · refine z0 ⟨_, rfl, ?_⟩
      cases hs : stOf g.1 t p b n with
      | none => rw [hs] at hz; exact hz
      | some ts =>
        obtain ⟨τ', s⟩ := ts
        rw [hs] at hz
        rw [st_tab q hs] at hz
        simp only [y] at hz
        exact hz
    · refine z1 (c_S_comesTo hI (fun D' oD hI' qs' => ?_) (fun D' τ' s oD hI' qt hT' qs' hl hB => ?_))
      · have hz := h D' (oD.mono (by omega) (by omega)) hI'
        rw [qs'] at hz
        exact z0' ⟨_, rfl, hz⟩
      · have hz := h D' (oD.mono (by omega) (by omega)) hI'
        have et := st_tab q qs'
        subst et
        rw [qs'] at hz
        simp only [y] at hz
        have hR' := hR.out oD (show a + 5 ≤ 206 ∨ 222 ≤ a + 1 by omega)
        rw [e]
        refine z1' ⟨fun c => ?_, fun c => c_Deal_holdsCards hB.2.1 b5 hi ⟨_, rfl, ?_⟩⟩
        · rw [if_neg c] at hz
          refine c_hasKind hR' hT (fun y => ?_) (fun j hj y e2 => ?_)
          · rw [y] at hz; exact z0 ⟨_, rfl, hz⟩
          · simp only [y] at hz
            rw [e2]
            exact z1 (c_Deal_holdsOf hB.2.1 b5 hi (by have := hT.2.1; omega) ⟨_, rfl, hz⟩)
        · rw [if_pos c] at hz; exact hz
theorem c_S_round {P : Int32 → xD → Prop} {t p w : Int32} (hI : cI D g) (h : ∀ D', xOut 180 325 D D' → cI D' g → P (aRound g.1 t p w) D') : xCi (d + 40) m_S_round [.ref 0, .int t, .int p, .int w] D P := by
  have hz := h D xOut.rfl' hI
  unfold aRound at hz h
  refine xCi_of y_S_round (Nat.le_of_ble_eq_true rfl) (s_S_round_0 xk_0 (c_S_tableAt hI (fun q => ?_) (fun b τ q a1 a2 hR hT hL hF => ?_)))
  · rw [fOf_n (Or.inl q)] at hz
    exact qn (c_S_heapAt hI (fun _ => qn ⟨_, rfl, hz⟩) (fun a η _ _ _ hR _ _ => qs ⟨hR.2.2, _, rfl, hz⟩))
  · refine qs ⟨hR.1, c_S_heapAt hI (fun y => ?_) (fun a η y b1 b2 ha hv hO => ?_)⟩
    · rw [fOf_n (Or.inr y)] at hz; exact qn ⟨_, rfl, hz⟩
    · refine qs ⟨ha.2.2, c_suits hR hT ha hv hO (fun f => z1' ?_) (fun f => z0' ⟨_, rfl, ?_⟩)⟩
      · have b5 := hT.2.2.2.2.2.2.1
        have hTop := tTop_is
        rw [fOf_t q y f] at h hz
        refine c_S_personAsked hR hT ?_
        rw [perAsk_m1 b5, tTop_i]
        have play : ∀ {Q : xD → Prop}, (∀ D', xOut 222 254 D D' → rR D' 222 (tN τ 5) (tN τ 2) (tN τ 0) (rGo τ (tN η 0) (hpC η) tTop).1 (rGo τ (tN η 0) (hpC η) tTop).2.1 → D'.1 222 6 = oI (rGo τ (tN η 0) (hpC η) tTop).2.2.1 → D'.1 222 7 = nI (rGo τ (tN η 0) (hpC η) tTop).2.2.2 → Q D') → xCv (d + 39) m_Rounds_play [.ref 222, .ref b, .ref a, .int (nI tTop)] D Q := fun {Q} hq =>
          c_Rounds_play (U := tTop) xk_222 hR hT hL (by have := hF.1; omega) ha hO.2.1 (hp_c hT hv hO f) (fits_A f) hI.2.2.2.2.2.2.1 (by omega) (by omega) (by omega) (fun D' oD g1 g2 g3 => hq D' oD.out g1 g2 g3)
        have fin : ∀ D', xOut 222 254 D D' → rS D' 228 364 → xOut 180 325 D D' ∧ cI D' g := fun D' o r => ⟨o.mono (by omega) (by omega), hI.work o (by omega) (wI_rounds hI.2.2.2.2.2 o (by omega) r)⟩
        cases hp : perAsk (tN τ 5) w with
        | none =>
          simp only [hp] at h hz
          cases hx : slotOf 5 w with
          | none =>
            rw [hx] at hz
            refine ⟨fun _ => ⟨_, rfl, hz⟩, fun c => ⟨fun c1 => ?_, fun c1 => ⟨fun z => absurd rfl z, fun _ => ⟨_, rfl, hz⟩⟩⟩⟩
            rcases slot_none (by omega) hx with z | ⟨-, z⟩
            · exact absurd z c
            · exact absurd (Int32.le_trans z c1) (by decide)
          | some v =>
            obtain ⟨h1, e⟩ := slot_some hx
            simp only [hx] at h
            rw [e]
            refine ⟨fun c => absurd c (nI_pos (by omega)), fun c => ⟨fun c1 => play (fun D' oD g1 g2 g3 => ⟨fun z => absurd rfl z, fun _ => ?_⟩), fun c1 => absurd (nI_le (a := v) (b := 4) (by omega) (by omega)) c1⟩⟩
            have hR' := hR.out oD (show b + 5 ≤ 222 ∨ 254 ≤ b + 1 by omega)
            refine c_Rounds_answer xk_222 hR' hT hL (by have := hF.1; omega) (ha.out oD (by omega)) hO.2.1 (fun j hj => by rw [oD.1 _ (by omega)]; exact hp_c hT hv hO f j hj) (fits_A f) g1 g2 g3 (by omega) (by omega) (by omega) (fun D2 o2 r2 => ⟨_, rfl, ?_⟩)
            obtain ⟨f1, f2⟩ := fin D2 (oD.trans o2) r2
            exact h D2 f1 f2
        | some i =>
          have hiN := perAsk_lt hp
          simp only [hp] at h
          have w10 : ¬ w < 10 := fun c => by unfold perAsk at hp; rw [if_pos c] at hp; cases hp
          refine ⟨fun c => absurd (Int32.lt_trans c (by decide)) w10, fun c => ⟨fun c1 => absurd (Int32.lt_of_le_of_lt c1 (by decide)) w10, fun c1 => ⟨fun _ => play (fun D' oD g1 g2 g3 => ⟨fun _ => ?_, fun z => by cases z⟩), fun z => by cases z⟩⟩⟩
          have hR' := hR.out oD (show b + 5 ≤ 222 ∨ 254 ≤ b + 1 by omega)
          obtain ⟨f1, f2⟩ := fin D' oD g1.1.1.2.1
          have hz := h D' f1 f2
          refine ⟨fun c2 => ?_, fun c2 => ?_⟩
          · rw [if_pos c2] at hz
            exact c_Rounds_answerOf (p := i) xk_222 hR' hT hiN g1 g2 g3 ⟨_, rfl, hz⟩
          · rw [if_neg c2] at hz
            exact c_Rounds_answerOf (p := i) xk_222 hR' hT hiN g1 g2 g3 ⟨_, rfl, hz⟩
      · rw [fOf_f q y f] at hz; exact hz
theorem c_S_behind {P : Int32 → xD → Prop} {t p u x k : Int32} (hI : cI D g) (h : ∀ D', xOut 180 325 D D' → cI D' g → P (aBehind g.1 t p u x k) D') : xCi (d + 40) m_S_behind [.ref 0, .int t, .int p, .int u, .int x, .int k] D P := by
  have hz := h D xOut.rfl' hI
  unfold aBehind at hz h
  refine xCi_of y_S_behind (Nat.le_of_ble_eq_true rfl) (s_S_behind_0 xk_0 (c_S_tableAt hI (fun q => ?_) (fun b τ q a1 a2 hR hT hL hF => ?_)))
  · rw [fOf_n (Or.inl q)] at hz
    exact qn (c_S_heapAt hI (fun _ => qn ⟨_, rfl, hz⟩) (fun a η _ _ _ hR _ _ => qs ⟨hR.2.2, _, rfl, hz⟩))
  · refine qs ⟨hR.1, c_S_heapAt hI (fun y => ?_) (fun a η y b1 b2 ha hv hO => ?_)⟩
    · rw [fOf_n (Or.inr y)] at hz; exact qn ⟨_, rfl, hz⟩
    · refine qs ⟨ha.2.2, c_suits hR hT ha hv hO (fun f => z1 ?_) (fun f => z0 ⟨_, rfl, ?_⟩)⟩
      · have b5 := hT.2.2.2.2.2.2.1
        have bK := hT.2.1
        have hTop := tTop_is
        rw [fOf_t q y f] at h hz
        refine c_has hR hT (fun y => ?_) (fun i hi y e => ?_)
        · rw [y] at hz; exact z0' ⟨_, rfl, hz⟩
        · simp only [y] at h hz
          rw [e]
          refine z1' ?_
          cases hx : slotOf (tTop + 1) u with
          | none =>
            rw [hx] at hz
            refine ⟨fun _ => ⟨_, rfl, hz⟩, fun c => ⟨fun _ => ⟨_, rfl, hz⟩, fun c1 => ?_⟩⟩
            rcases slot_none (by omega) hx with z | ⟨-, z⟩
            · exact absurd z c
            · refine absurd ?_ c1
              rw [tTop_i]
              exact Int32.lt_of_lt_of_le (nI_lt (show tTop < tTop + 1 by omega) (by omega)) z
          | some v =>
            obtain ⟨h1, e2⟩ := slot_some hx
            simp only [hx] at h hz
            rw [e2]
            have play : ∀ {Q : xD → Prop}, (∀ D', xOut 180 325 D D' → cI D' g → rR D' 222 (tN τ 5) (tN τ 2) (tN τ 0) (rGo τ (tN η 0) (hpC η) v).1 (rGo τ (tN η 0) (hpC η) v).2.1 → Q D') → xCv (d + 39) m_Rounds_play [.ref 222, .ref b, .ref a, .int (nI v)] D Q := fun {Q} hq =>
              c_Rounds_play (U := v) xk_222 hR hT hL (by have := hF.1; omega) ha hO.2.1 (hp_c hT hv hO f) (fits_A f) hI.2.2.2.2.2.2.1 (by omega) (by omega) (by omega) (fun D' oD g1 g2 g3 => hq D' (oD.out.mono (by omega) (by omega)) (hI.work oD.out (by omega) (wI_rounds hI.2.2.2.2.2 oD.out (by omega) g1.1.1.2.1)) g1)
            refine ⟨fun c => absurd c (nI_pos (by omega)), fun _ => ⟨fun c => ?_, fun _ => ⟨fun c => ?_, fun c => ?_⟩⟩⟩
            · rw [tTop_i] at c
              have := (nI_ltI (by omega) (by omega)).mp c
              omega
            · rw [if_pos c] at h
              exact play (fun D' o2 i2 g1 => ⟨fun z => absurd c z, fun _ => c_Deal_waitsFor g1.1 b5 (by omega) ⟨_, rfl, h D' o2 i2⟩⟩)
            · rw [if_neg c] at h hz
              refine c_hasKind hR hT (fun y => ?_) (fun j hj y e3 => ?_)
              · rw [y] at hz; exact z0' ⟨_, rfl, hz⟩
              · simp only [y] at h
                rw [e3]
                refine z1' (play (fun D' o2 i2 g1 => ⟨fun _ => c_Deal_holdsOf g1.1 b5 hi (by omega) ⟨_, rfl, h D' o2 i2⟩, fun z => ?_⟩))
                exact absurd z (fun z => nI_pos (n := j) (by omega) (by rw [z]; decide))
      · rw [fOf_f q y f] at hz; exact hz
end ASK4
