/-! What is asked of a HAND at a TABLE. -/
def hh (η : Nat → Int32) : Nat → Nat := fun k => (hdH η).count k
def hu (τ η : Nat → Int32) : Nat → Nat := fun k => u0 (tN τ 0) (tN τ 1) k - (hdH η ++ hdG η).count k
def hN (τ η : Nat → Int32) : Nat := tN τ 0 * tN τ 1 - (tN η 0 + tN η 1)
def fitHd (τ η : Nat → Int32) : Prop := hFit τ (hdH η) (hdG η)
theorem hdH_len (η : Nat → Int32) : (hdH η).length = tN η 0 := by unfold hdH; rw [List.length_map, List.length_range]
theorem hdG_len (η : Nat → Int32) : (hdG η).length = tN η 1 := by unfold hdG; rw [List.length_map, List.length_range]
theorem hd_lt {η : Nat → Int32} (h : hdOK η) : ∀ c, c ∈ hdH η ++ hdG η → c < 13 := by
  intro c hc
  rcases List.mem_append.mp hc with q | q
  · exact hd_mem (fun i hi => (h.2.2.2.2.1 i hi).2) c q
  · exact hd_mem (fun i hi => (h.2.2.2.2.2 i hi).2) c q
theorem sm_sub {f g : Nat → Nat} : ∀ {n : Nat}, (∀ i, i < n → g i ≤ f i) → sm (fun k => f k - g k) n + sm g n = sm f n := by
  intro n
  induction n with
  | zero => intro _; rfl
  | succ n ih =>
    intro h
    have h1 := ih (fun i hi => h i (by omega))
    have h2 := h n (by omega)
    rw [sm, sm, sm]; omega
theorem sm_tail {f : Nat → Nat} {m : Nat} (h : ∀ i, m ≤ i → f i = 0) : ∀ j, sm f (m + j) = sm f m := by
  intro j
  induction j with
  | zero => rfl
  | succ j ih => rw [show m + (j + 1) = m + j + 1 by omega, sm, ih, h _ (by omega), Nat.add_zero]
section HANDS
variable {τ η : Nat → Int32}
theorem hh_le (h : fitHd τ η) (k : Nat) : hh η k ≤ tN τ 2 := by
  have h1 : hh η k ≤ (hdH η).length := List.count_le_length
  rw [h.1] at h1
  exact h1
theorem hu_le (hT : tOK τ) (k : Nat) : hu τ η k ≤ 4 := by
  have := hT.2.2.1
  unfold hu u0
  split <;> omega
theorem hu_0 {k : Nat} (h : tN τ 0 ≤ k) : hu τ η k = 0 := by
  unfold hu u0
  rw [if_neg (by omega)]; omega
theorem hh_0 (h : fitHd τ η) {k : Nat} (hk : k < 13) (hK : tN τ 0 ≤ k) : hh η k = 0 := by
  have := h.2 k hk
  rw [List.count_append] at this
  unfold u0 at this
  rw [if_neg (by omega)] at this
  unfold hh
  omega
theorem hu_sum (hT : tOK τ) (hO : hdOK η) (h : fitHd τ η) : sm (hu τ η) 13 = hN τ η := by
  have h1 := sm_sub (f := u0 (tN τ 0) (tN τ 1)) (g := fun k => (hdH η ++ hdG η).count k) (n := 13) (fun i hi => h.2 i hi)
  have h2 := sm_count (L := hdH η ++ hdG η) (hd_lt hO)
  rw [sm_u0, Nat.min_eq_right (by have := hT.2.1; omega), h2, List.length_append, hdH_len, hdG_len] at h1
  unfold hN
  have e : sm (hu τ η) 13 = sm (fun k => u0 (tN τ 0) (tN τ 1) k - (hdH η ++ hdG η).count k) 13 := rfl
  omega
theorem hu_hN (hT : tOK τ) (hO : hdOK η) (h : fitHd τ η) {k : Nat} (hk : k < 13) : hu τ η k ≤ hN τ η := by
  rw [← hu_sum hT hO h]; exact sm_le _ hk
theorem hN_le (hT : tOK τ) : hN τ η ≤ 52 := by
  have := pack_le hT
  unfold hN; omega
theorem hu_sum4 (hT : tOK τ) (hO : hdOK η) (h : fitHd τ η) (hK : tN τ 0 ≤ 4) : sm (hu τ η) 4 = hN τ η := by
  rw [← hu_sum hT hO h]
  exact (sm_tail (m := 4) (fun i hi => hu_0 (by omega)) 9).symm
theorem hh_sum4 (hO : hdOK η) (h : fitHd τ η) (hK : tN τ 0 ≤ 4) : sm (hh η) 4 = tN τ 2 := by
  have h1 := sm_count (L := hdH η) (fun c hc => hd_lt hO c (List.mem_append_left _ hc))
  have e : sm (hh η) 13 = (hdH η).length := h1
  rw [h.1] at e
  rw [← e]
  have key : ∀ j, j ≤ 9 → sm (hh η) (4 + j) = sm (hh η) 4 := by
    intro j
    induction j with
    | zero => intro _; rfl
    | succ j ih => intro hj; rw [show 4 + (j + 1) = 4 + j + 1 by omega, sm, ih (by omega), hh_0 h (by omega) (by omega), Nat.add_zero]
  exact (key 9 (by omega)).symm
theorem hN_16 (hT : tOK τ) (hK : tN τ 0 ≤ 4) : hN τ η ≤ 16 := by
  have h1 : tN τ 0 * tN τ 1 ≤ 4 * 4 := Nat.mul_le_mul hK hT.2.2.1.2
  unfold hN; omega
end HANDS
noncomputable def aUnseen (σ : sT) (t h w : Int32) : Int32 := match txO σ 0 t with
  | none => -1
  | some τ => match txO σ 3 h with
    | none => -1
    | some η => if w = 0 then cif (fitHd τ η) 1 0 else cif (fitHd τ η) (oAns (tN τ 0) (tN τ 2) (hh η) (hu τ η) (hN τ η) w) (-1)
/-- a hand that fits and so many that may come -/
noncomputable def hOf {α : Type} (z : α) (σ : sT) (t h : Int32) (f : (Nat → Int32) → (Nat → Int32) → α) : α := match txO σ 0 t with
  | none => z
  | some τ => match txO σ 3 h with
    | none => z
    | some η => cif (fitHd τ η) (f τ η) z
def mOf {α : Type} (z : α) (N : Nat) (n : Int32) (f : Nat → α) : α := match slotOf 7 n with
  | none => z
  | some m => if N < m then z else f m
noncomputable def aWithin (σ : sT) (t h n u : Int32) : Int64 := hOf (-1) σ t h (fun τ η => mOf (-1) (hN τ η) n (fun m => if 4 < tN τ 0 then -1 else lN (lst (gd (tN τ 0) (tN τ 2) m (hh η) (hu τ η) (hN τ η)) (fall (hN τ η) m) (u ≠ 0))))
noncomputable def aKept (σ : sT) (t h n k : Int32) : Int32 := hOf (-1) σ t h (fun τ η => mOf (-1) (hN τ η) n (fun m => if m = 0 then -1 else if 4 < tN τ 0 then -1 else oKept (tN τ 0) (tN τ 2) (hh η) (hu τ η) (hN τ η) m k))
noncomputable def aAlone (σ : sT) (t h k n u : Int32) : Int64 := hOf (-1) σ t h (fun τ η => mOf (-1) (hN τ η) n (fun m => match slotOf (tN τ 0) k with
  | none => -1
  | some i => lN (lst (chW (hu τ η i) (hN τ η - hu τ η i) m (tN τ 2 - hh η i) (m + 1 - (tN τ 2 - hh η i))) (bn (hN τ η) m) (u ≠ 0))))
def hpL (η : Nat → Int32) : List Nat := (List.range (tN η 0)).map (fun i => tN η (1 + i))
noncomputable def aSoonest (σ : sT) (t h p x : Int32) : Int32 := match txO σ 1 p with
  | none => -1
  | some θ => hOf (-1) σ t h (fun τ η => oSoonest (tN τ 0) (tN τ 2) (hh η) (hpL θ) x)
noncomputable def aKeeps (σ : sT) (t h k j u : Int32) : Int64 := hOf (-1) σ t h (fun τ η => match slotOf (tN τ 0) k with
  | none => -1
  | some i => match slotOf 5 j with
    | none => -1
    | some j => if hN τ η < tN τ 2 then -1 else lN (lst (chW (hu τ η i) (hN τ η - hu τ η i) (tN τ 2) j (tN τ 2 + 1 - j)) (bn (hN τ η) (tN τ 2)) (u ≠ 0)))
theorem hOf_n {α : Type} {z : α} {σ : sT} {t h : Int32} {f : (Nat → Int32) → (Nat → Int32) → α} (q : txO σ 0 t = none ∨ txO σ 3 h = none) : hOf z σ t h f = z := by
  unfold hOf
  rcases q with q | q
  · rw [q]
  · rw [q]
    cases txO σ 0 t with
    | none => rfl
    | some τ => rfl
theorem hOf_f {α : Type} {z : α} {σ : sT} {t h : Int32} {f : (Nat → Int32) → (Nat → Int32) → α} {τ η : Nat → Int32} (q1 : txO σ 0 t = some τ) (q2 : txO σ 3 h = some η) (q : ¬ fitHd τ η) : hOf z σ t h f = z := by
  unfold hOf
  rw [q1, q2]
  exact cif_f q
theorem hOf_t {α : Type} {z : α} {σ : sT} {t h : Int32} {f : (Nat → Int32) → (Nat → Int32) → α} {τ η : Nat → Int32} (q1 : txO σ 0 t = some τ) (q2 : txO σ 3 h = some η) (q : fitHd τ η) : hOf z σ t h f = f τ η := by
  unfold hOf
  rw [q1, q2]
  exact cif_t q
theorem mOf_n {α : Type} {z : α} {N : Nat} {n : Int32} {f : Nat → α} (hN : N ≤ 52) (q : ¬ ∃ m, m ≤ 6 ∧ m ≤ N ∧ n = nI m) : mOf z N n f = z := by
  unfold mOf
  cases hx : slotOf 7 n with
  | none => rfl
  | some m =>
    obtain ⟨h1, h2⟩ := slot_some hx
    show (if N < m then z else f m) = z
    rw [if_pos (Nat.lt_of_not_le (fun y => q ⟨m, by omega, y, h2⟩))]
theorem mOf_s {α : Type} {z : α} {N m : Nat} {f : Nat → α} (h1 : m ≤ 6) (h2 : m ≤ N) : mOf z N (nI m) f = f m := by
  unfold mOf
  rw [slot_nI (show m < 7 by omega) (by omega)]
  exact if_neg (by omega)
section ASK3
variable {d : Nat} {D : xD} {g : gS}
theorem wI_odds {D D' : xD} {lo hi : Nat} (w : wI D) (o : xOut lo hi D D') (q : 304 ≤ lo ∧ hi ≤ 323) (r : oK D' 304) : wI D' :=
  ⟨w.1.out o (by omega), w.2.1.out o (by omega), w.2.2.1.out o (by omega), r, w.2.2.2.2.out o (by omega)⟩
theorem c_S_lies {P : Int32 → xD → Prop} {t x : Int32} (hI : cI D g) (hn : txO g.1 0 t = none ∨ txO g.1 3 x = none → P 0 D)
    (h0 : ∀ D' τ η, txO g.1 0 t = some τ → txO g.1 3 x = some η → xOut 304 311 D D' → cI D' g → ¬ fitHd τ η → P 0 D')
    (h1 : ∀ D' τ η, txO g.1 0 t = some τ → txO g.1 3 x = some η → tOK τ → tLaw τ → tFit τ → hdOK η → xOut 304 311 D D' → cI D' g → fitHd τ η → oR D' 304 (tN τ 0) (tN τ 2) (hh η) (hu τ η) (fun _ => 0) (hN τ η) → P 1 D') :
    xCi (d + 6) m_S_lies [.ref 0, .int t, .int x] D P := by
  refine xCi_of y_S_lies (Nat.le_of_ble_eq_true rfl) (s_S_lies_0 xk_0 (c_S_tableAt hI (fun q => ?_) (fun b τ q a1 a2 hR hT hL hF => ?_)))
  · exact qn (c_sheet (s := 3) hI (by omega) (fun _ => qn ⟨_, rfl, hn (Or.inl q)⟩) (fun a ξ _ _ _ ka _ _ => qs ⟨ka, _, rfl, hn (Or.inl q)⟩))
  · refine qs ⟨hR.1, c_sheet (s := 3) hI (by omega) (fun y => qn ⟨_, rfl, hn (Or.inr y)⟩) (fun a η y b1 b2 ka hS hx => qs ⟨ka, ?_⟩)⟩
    obtain ⟨r1, v1, r2, v2⟩ := hS.2.2.2.1 rfl
    have hO := hx.2.2.2.1 rfl
    have keep : ∀ D', xOut 304 311 D D' → cI D' g := fun D' oD => hI.work oD (by omega) (wI_odds hI.2.2.2.2.2 oD (by omega) (hI.2.2.2.2.2.2.2.2.1.out oD (by omega)))
    refine c_Odds_lie (H := hdH η) (G := hdG η) xk_304 ka hR hT (lR_of r1 (fun i hi => by rw [show a + 10 + 1 = a + 11 by omega, v1 i hi]; exact (hO.2.2.2.2.1 i hi).1)) (lR_of r2 (fun i hi => by rw [show a + 12 + 1 = a + 13 by omega, v2 i hi]; exact (hO.2.2.2.2.2 i hi).1)) (by rw [hdH_len]; exact hO.2.1) (by rw [hdG_len]; exact hO.2.2.2.1) (fun c hc => hd_lt hO c (List.mem_append_left _ hc)) (fun c hc => hd_lt hO c (List.mem_append_right _ hc)) (by omega) (by omega) (fun D' oD hfit hR' => ?_) (fun D' oD hfit => ?_)
    · rw [hdH_len, hdG_len] at hR'
      exact z1 ⟨_, rfl, h1 D' τ η q y hT hL hF hO oD (keep D' oD) hfit hR'⟩
    · exact z0 ⟨_, rfl, h0 D' τ η q y oD (keep D' oD) hfit⟩
theorem c_S_unseen {P : Int32 → xD → Prop} {t x w : Int32} (hI : cI D g) (h : ∀ D', xOut 180 325 D D' → cI D' g → P (aUnseen g.1 t x w) D') : xCi (d + 40) m_S_unseen [.ref 0, .int t, .int x, .int w] D P := by
  have hz := h D xOut.rfl' hI
  refine xCi_of y_S_unseen (Nat.le_of_ble_eq_true rfl) (s_S_unseen_0 xk_0 (c_S_tableAt hI (fun q => ?_) (fun b τ q a1 a2 hR hT hL hF => ?_)))
  · unfold aUnseen at hz; rw [q] at hz; exact qn ⟨_, rfl, hz⟩
  · unfold aUnseen at h hz; simp only [q] at h hz
    refine qs ⟨hR.1, c_sheet (s := 3) hI (by omega) (fun y => ?_) (fun a η y b1 b2 ka hS hx => qs ⟨ka, ?_⟩)⟩
    · rw [y] at hz; exact qn ⟨_, rfl, hz⟩
    · simp only [y] at h
      refine c_S_lies hI (fun z => ?_) (fun D' τ' η' q' y' oD hI' hf => ?_) (fun D' τ' η' q' y' hT' hL' hF' hO' oD hI' hf hR' => ?_)
      · rcases z with z | z
        · rw [q] at z; cases z
        · rw [y] at z; cases z
      · rw [q] at q'; rw [y] at y'; cases q'; cases y'
        have h := h D' (oD.mono (by omega) (by omega)) hI'
        rw [cif_f hf, cif_f hf] at h
        refine ⟨fun c => ?_, fun c => ?_⟩
        · rw [if_neg c] at h; exact z0 ⟨_, rfl, h⟩
        · rw [if_pos c] at h; exact z0 ⟨_, rfl, h⟩
      · rw [q] at q'; rw [y] at y'; cases q'; cases y'
        have h := h D' (oD.mono (by omega) (by omega)) hI'
        rw [cif_t hf, cif_t hf] at h
        have bA := hT'.2.2.2.1
        refine ⟨fun c => ?_, fun c => ?_⟩
        · rw [if_neg c] at h
          refine z1 (c_Odds_answer xk_304 hR' hT'.2.1.2 bA.2 (fun k _ => ?_) ⟨_, rfl, h⟩)
          have := hh_le hf k
          have := hu_le (η := η) hT' k
          omega
        · rw [if_pos c] at h; exact z1 ⟨_, rfl, h⟩
theorem c_S_within {P : Int64 → xD → Prop} {t x n u : Int32} (hI : cI D g) (h : ∀ D', xOut 180 325 D D' → cI D' g → P (aWithin g.1 t x n u) D') : xCl (d + 40) m_S_within [.ref 0, .int t, .int x, .int n, .int u] D P := by
  refine xCl_of y_S_within (Nat.le_of_ble_eq_true rfl) (s_S_within_0 xk_0 (c_S_lies hI (fun z => ?_) (fun D' τ η q y oD hI' hf => ?_) (fun D' τ η q y hT hL hF hO oD hI' hf hR => ?_)))
  · have hz := h D xOut.rfl' hI
    unfold aWithin at hz; rw [hOf_n z] at hz; exact z0 ⟨_, rfl, hz⟩
  · have hz := h D' (oD.mono (by omega) (by omega)) hI'
    unfold aWithin at hz; rw [hOf_f q y hf] at hz; exact z0 ⟨_, rfl, hz⟩
  · have hz := h D' (oD.mono (by omega) (by omega)) hI'
    unfold aWithin at h hz; rw [hOf_t q y hf] at h hz
    have h52 := hN_le (η := η) hT
    refine z1 (c_Odds_mayCome xk_304 hR h52 (fun m m6 mN e => ?_) (fun no => ?_))
    · subst e
      rw [mOf_s m6 mN] at h hz
      refine z1 ?_
      rw [hR.2.2.2.2.2.2.1]
      refine ⟨fun c => ?_, fun c => ⟨_, rfl, ?_⟩⟩
      · have hK := (nI_leI (b := 4) (by have := hT.2.1; omega) (by omega)).mp c
        rw [if_neg (by omega)] at h
        exact c_Odds_likely xk_304 hK hT.2.2.2.1.2 hR hI'.2.2.2.2.2.2.2.2.1 (hh_sum4 hO hf hK) (fun i _ => hu_le hT i) (hu_sum4 hT hO hf hK) m6 mN (hN_16 hT hK) (fun D2 o2 k2 => ⟨_, rfl, h D2 ((oD.mono (by omega) (by omega)).trans (o2.mono (by omega) (by omega))) (hI'.work o2 (by omega) (wI_odds hI'.2.2.2.2.2 o2 (by omega) k2))⟩)
      · rw [if_pos (Nat.lt_of_not_le (fun z => c (nI_le (b := 4) z (by omega))))] at hz; exact hz
    · rw [mOf_n h52 no] at hz; exact z0 ⟨_, rfl, hz⟩
theorem c_S_kept {P : Int32 → xD → Prop} {t x n k : Int32} (hI : cI D g) (h : ∀ D', xOut 180 325 D D' → cI D' g → P (aKept g.1 t x n k) D') : xCi (d + 40) m_S_kept [.ref 0, .int t, .int x, .int n, .int k] D P := by
  refine xCi_of y_S_kept (Nat.le_of_ble_eq_true rfl) (s_S_kept_0 xk_0 ⟨fun c => ⟨_, rfl, ?_⟩, fun c => c_S_lies hI (fun z => ?_) (fun D' τ η q y oD hI' hf => ?_) (fun D' τ η q y hT hL hF hO oD hI' hf hR => ?_)⟩)
  · have hz := h D xOut.rfl' hI
    have e : aKept g.1 t x n k = -1 := by
      unfold aKept hOf
      cases txO g.1 0 t with
      | none => rfl
      | some τ =>
        cases txO g.1 3 x with
        | none => rfl
        | some η =>
          show cif (fitHd τ η) _ _ = _
          by_cases f : fitHd τ η
          · rw [cif_t f]
            unfold mOf
            cases hx : slotOf 7 n with
            | none => rfl
            | some m =>
              obtain ⟨h1, h2⟩ := slot_some hx
              have m0 : m = 0 := by
                rw [h2] at c
                have := (nI_ltI (b := 1) (by omega) (by omega)).mp c
                omega
              subst m0
              show (if _ then _ else _) = _
              rw [if_neg (by omega)]; rfl
          · rw [cif_f f]
    rw [e] at hz; exact hz
  · have hz := h D xOut.rfl' hI
    unfold aKept at hz; rw [hOf_n z] at hz; exact z0 ⟨_, rfl, hz⟩
  · have hz := h D' (oD.mono (by omega) (by omega)) hI'
    unfold aKept at hz; rw [hOf_f q y hf] at hz; exact z0 ⟨_, rfl, hz⟩
  · have hz := h D' (oD.mono (by omega) (by omega)) hI'
    unfold aKept at h hz; rw [hOf_t q y hf] at h hz
    have h52 := hN_le (η := η) hT
    refine z1 (c_Odds_mayCome xk_304 hR h52 (fun m m6 mN e => ?_) (fun no => ?_))
    · subst e
      have m1 : 1 ≤ m := Nat.le_of_not_lt (fun z => c (nI_lt (b := 1) z (by omega)))
      rw [mOf_s m6 mN, if_neg (show ¬ m = 0 by omega)] at h hz
      refine z1 ?_
      rw [hR.2.2.2.2.2.2.1]
      refine ⟨fun c => ?_, fun c => ⟨_, rfl, ?_⟩⟩
      · have hK := (nI_leI (b := 4) (by have := hT.2.1; omega) (by omega)).mp c
        rw [if_neg (by omega)] at h
        exact c_Odds_bestHandedOn xk_304 hK hT.2.2.2.1.2 hR hI'.2.2.2.2.2.2.2.2.1 (hh_sum4 hO hf hK) (fun i _ => hu_le hT i) (fun i hi => hu_0 (by omega)) (hu_sum4 hT hO hf hK) m6 m1 mN (hN_16 hT hK) (fun D2 o2 k2 => ⟨_, rfl, h D2 ((oD.mono (by omega) (by omega)).trans (o2.mono (by omega) (by omega))) (hI'.work o2 (by omega) (wI_odds hI'.2.2.2.2.2 o2 (by omega) k2))⟩)
      · rw [if_pos (Nat.lt_of_not_le (fun z => c (nI_le (b := 4) z (by omega))))] at hz; exact hz
    · rw [mOf_n h52 no] at hz; exact z0 ⟨_, rfl, hz⟩
theorem c_S_alone {P : Int64 → xD → Prop} {t x k n u : Int32} (hI : cI D g) (h : ∀ D', xOut 180 325 D D' → cI D' g → P (aAlone g.1 t x k n u) D') : xCl (d + 40) m_S_alone [.ref 0, .int t, .int x, .int k, .int n, .int u] D P := by
  refine xCl_of y_S_alone (Nat.le_of_ble_eq_true rfl) (s_S_alone_0 xk_0 (c_S_lies hI (fun z => ?_) (fun D' τ η q y oD hI' hf => ?_) (fun D' τ η q y hT hL hF hO oD hI' hf hR => ?_)))
  · have hz := h D xOut.rfl' hI
    unfold aAlone at hz; rw [hOf_n z] at hz; exact z0 ⟨_, rfl, hz⟩
  · have hz := h D' (oD.mono (by omega) (by omega)) hI'
    unfold aAlone at hz; rw [hOf_f q y hf] at hz; exact z0 ⟨_, rfl, hz⟩
  · have hz := h D' (oD.mono (by omega) (by omega)) hI'
    unfold aAlone at hz; rw [hOf_t q y hf] at hz
    have h52 := hN_le (η := η) hT
    have bK := hT.2.1
    refine z1 (c_Odds_mayCome xk_304 hR h52 (fun m m6 mN e => ?_) (fun no => ?_))
    · subst e
      rw [mOf_s m6 mN] at hz
      refine z1 ?_
      rw [hR.2.2.2.2.2.2.1]
      refine rgLt (tN τ 0) (by omega) (fun y => ⟨_, rfl, ?_⟩) (fun y => ⟨_, rfl, ?_⟩) (fun i hi y e => ?_)
      · rw [y] at hz; exact hz
      · rw [y] at hz; exact hz
      · simp only [y] at hz
        rw [e]
        exact c_Odds_likelyAlone xk_304 hR (by omega) m6 mN (hh_le hf i) hT.2.2.2.1.2 (hu_hN hT hO hf (by omega)) h52 ⟨_, rfl, hz⟩
    · rw [mOf_n h52 no] at hz; exact z0 ⟨_, rfl, hz⟩
theorem c_S_soonest {P : Int32 → xD → Prop} {t x p w : Int32} (hI : cI D g) (h : ∀ D', xOut 180 325 D D' → cI D' g → P (aSoonest g.1 t x p w) D') : xCi (d + 40) m_S_soonest [.ref 0, .int t, .int x, .int p, .int w] D P := by
  refine xCi_of y_S_soonest (Nat.le_of_ble_eq_true rfl) (s_S_soonest_0 xk_0 (c_S_heapAt hI (fun q => ?_) (fun a θ q a1 a2 hR hv hO => ?_)))
  · have hz := h D xOut.rfl' hI
    unfold aSoonest at hz; rw [q] at hz; exact qn ⟨_, rfl, hz⟩
  · unfold aSoonest at h; simp only [q] at h
    refine qs ⟨hR.2.2, c_S_lies hI (fun z => ?_) (fun D' τ η q y oD hI' hf => ?_) (fun D' τ η q y hT hL hF hOh oD hI' hf hR' => ?_)⟩
    · have hz := h D xOut.rfl' hI
      rw [hOf_n z] at hz; exact z0' ⟨_, rfl, hz⟩
    · have hz := h D' (oD.mono (by omega) (by omega)) hI'
      rw [hOf_f q y hf] at hz; exact z0' ⟨_, rfl, hz⟩
    · rw [hOf_t q y hf] at h
      refine z1' ?_
      have hl : lR D a (hpL θ) := lR_of hR (fun i hi => by rw [hv i hi]; exact (hO.2.2 i hi).1)
      refine c_Odds_soonestBy xk_304 hR' hT.2.1.2 hT.2.2.2.1.2 (fun k _ => by have := hh_le hf k; have := hT.2.2.2.1; omega) (hl.out oD (by omega)) (by show ((List.range _).map _).length ≤ _; rw [List.length_map, List.length_range]; exact hO.2.1) (hd_mem (fun i hi => (hO.2.2 i hi).2)) (by omega) (fun D2 o2 => ⟨_, rfl, h D2 ((oD.mono (by omega) (by omega)).trans (o2.mono (by omega) (by omega))) (hI'.work o2 (by omega) (wI_odds hI'.2.2.2.2.2 o2 (by omega) (hI'.2.2.2.2.2.2.2.2.1.out o2 (by omega))))⟩)
theorem c_S_keeps {P : Int64 → xD → Prop} {t x k j u : Int32} (hI : cI D g) (h : ∀ D', xOut 180 325 D D' → cI D' g → P (aKeeps g.1 t x k j u) D') : xCl (d + 40) m_S_keeps [.ref 0, .int t, .int x, .int k, .int j, .int u] D P := by
  refine xCl_of y_S_keeps (Nat.le_of_ble_eq_true rfl) (s_S_keeps_0 xk_0 (c_S_lies hI (fun z => ?_) (fun D' τ η q y oD hI' hf => ?_) (fun D' τ η q y hT hL hF hO oD hI' hf hR => ?_)))
  · have hz := h D xOut.rfl' hI
    unfold aKeeps at hz; rw [hOf_n z] at hz; exact z0 ⟨_, rfl, hz⟩
  · have hz := h D' (oD.mono (by omega) (by omega)) hI'
    unfold aKeeps at hz; rw [hOf_f q y hf] at hz; exact z0 ⟨_, rfl, hz⟩
  · have hz := h D' (oD.mono (by omega) (by omega)) hI'
    unfold aKeeps at hz; rw [hOf_t q y hf] at hz
    have h52 := hN_le (η := η) hT
    have bK := hT.2.1
    have bA := hT.2.2.2.1
    refine z1 ?_
    rw [hR.2.2.2.2.2.2.1, hR.2.2.2.2.2.2.2.1, hR.2.2.2.2.2.2.2.2]
    refine rgLe (tN τ 0) (by omega) (fun y => ⟨_, rfl, ?_⟩) (fun y => ⟨_, rfl, ?_⟩) (fun i hi y e => ?_)
    · rw [y] at hz; exact hz
    · rw [y] at hz; exact hz
    · simp only [y] at hz
      rw [e]
      cases hx : slotOf 5 j with
      | none =>
        rw [hx] at hz
        refine ⟨fun _ => ⟨_, rfl, hz⟩, fun c => ⟨fun c1 => ?_, fun _ => ⟨_, rfl, hz⟩⟩⟩
        rcases slot_none (by omega) hx with z | ⟨-, z⟩
        · exact absurd z c
        · exact absurd (Int32.le_trans z c1) (by decide)
      | some m =>
        obtain ⟨h1, e2⟩ := slot_some hx
        simp only [hx] at hz
        rw [e2]
        refine ⟨fun c => absurd c (nI_pos (by omega)), fun _ => ⟨fun _ => ⟨fun c => ?_, fun c => ⟨_, rfl, ?_⟩⟩, fun c => absurd (nI_le (a := m) (b := 4) (by omega) (by omega)) c⟩⟩
        · have hAN := (nI_leI (by omega) (by omega)).mp c
          rw [if_neg (by omega)] at hz
          exact c_Odds_likelyKept xk_304 hR (by omega) (by omega) hAN bA.2 (hu_hN hT hO hf (by omega)) h52 ⟨_, rfl, hz⟩
        · rw [if_pos (Nat.lt_of_not_le (fun z => c (nI_le z (by omega))))] at hz; exact hz
end ASK3
