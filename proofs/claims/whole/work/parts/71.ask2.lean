/-! What is asked of what is told, on. -/
/-- the cards of a hand, those that are gone -/
def hdH (η : Nat → Int32) : List Nat := (List.range (tN η 0)).map (fun i => tN η (2 + i))
def hdG (η : Nat → Int32) : List Nat := (List.range (tN η 1)).map (fun i => tN η (6 + i))
theorem lR_of {D : xD} {a n : Nat} {f : Nat → Nat} (h : rS D a n) (hv : ∀ i, i < n → D.1 (a + 1) i = nI (f i)) : lR D a ((List.range n).map f) := by
  refine ⟨by rw [List.length_map, List.length_range]; exact h, fun i c hc => ?_⟩
  have hi := (List.getElem?_eq_some_iff.mp hc).1
  rw [List.length_map, List.length_range] at hi
  rw [List.getElem?_map, List.getElem?_range hi] at hc
  cases hc
  exact hv i hi
theorem hd_mem {n : Nat} {f : Nat → Nat} {B : Nat} (h : ∀ i, i < n → f i < B) : ∀ c, c ∈ (List.range n).map f → c < B := by
  intro c hc
  obtain ⟨i, hi, rfl⟩ := List.mem_map.mp hc
  exact h i (List.mem_range.mp hi)
section ASK2
variable {d : Nat} {D : xD} {g : gS}
theorem c_S_hand {P : Int32 → xD → Prop} {x w : Int32} (hI : cI D g) (h : P (aHand g.1 x w) D) : xCi (d + 40) m_S_hand [.ref 0, .int x, .int w] D P := by
  refine xCi_of y_S_hand (Nat.le_of_ble_eq_true rfl) (s_S_hand_0 xk_0 (c_sheet (s := 3) hI (by omega) (fun q => ?_) (fun a η q a1 a2 ka hR hx => ?_)))
  · unfold aHand at h; rw [q] at h; exact qn ⟨_, rfl, h⟩
  · unfold aHand at h; simp only [q] at h
    obtain ⟨r1, v1, r2, v2⟩ := hR.2.2.2.1 rfl
    obtain ⟨t1, t2, t3, t4, t5, t6⟩ := hx.2.2.2.1 rfl
    refine qs ⟨ka, fun c => ⟨fun c1 => absurd c c1, fun _ => c_Row_size r1 ⟨_, rfl, ?_⟩⟩, fun c => ⟨fun c1 => ⟨fun c2 => ⟨fun c3 => ⟨_, rfl, ?_⟩, fun c3 => ?_⟩, fun c2 => ?_⟩, fun c1 => ⟨fun _ => c_Row_size r2 ⟨_, rfl, ?_⟩, fun z => absurd z c⟩⟩⟩
    · rw [if_pos c] at h; exact h
    · rw [if_neg c, if_neg c1, if_neg (fun z => absurd z (Int32.not_le.mpr c2)), if_neg (fun z => absurd z (Int32.not_le.mpr c3))] at h; exact h
    · rw [if_neg c, if_neg c1, if_neg (fun z => absurd z (Int32.not_le.mpr c2)), if_pos (Int32.not_lt.mp c3)] at h
      refine c_Row_reaches r1 ?_
      rw [slot_has (by omega)]
      cases hx : slotOf (tN η 0) (w - 10) with
      | none => rw [hx] at h; rw [if_pos rfl]; exact z0 ⟨_, rfl, h⟩
      | some i =>
        obtain ⟨h1, e⟩ := slot_some hx
        simp only [hx] at h
        rw [if_neg (fun q => by cases q), e]
        refine z1 (c_get r1 h1 ⟨_, rfl, ?_⟩)
        rw [show a + 10 + 1 = a + 11 by omega, v1 i h1]; exact h
    · rw [if_neg c, if_neg c1, if_pos (Int32.not_lt.mp c2)] at h
      refine c_Row_reaches r2 ?_
      rw [slot_has (by omega)]
      cases hx : slotOf (tN η 1) (w - 100) with
      | none => rw [hx] at h; rw [if_pos rfl]; exact z0 ⟨_, rfl, h⟩
      | some i =>
        obtain ⟨h1, e⟩ := slot_some hx
        simp only [hx] at h
        rw [if_neg (fun q => by cases q), e]
        refine z1 (c_get r2 h1 ⟨_, rfl, ?_⟩)
        rw [show a + 12 + 1 = a + 13 by omega, v2 i h1]; exact h
    · rw [if_neg c, if_pos c1] at h; exact h
theorem wI_looks {D D' : xD} {lo hi : Nat} (w : wI D) (o : xOut lo hi D D') (q : 317 < lo) (r : rS D' 323 1215) : wI D' :=
  ⟨w.1.out o (by omega), w.2.1.out o (by omega), w.2.2.1.out o (by omega), w.2.2.2.1.out o (by omega), r⟩
theorem c_S_often {P : Int32 → xD → Prop} {t p f : Int32} (hI : cI D g) (h : ∀ D', xOut 180 325 D D' → cI D' g → P (aOften g.1 t p f) D') : xCi (d + 40) m_S_often [.ref 0, .int t, .int p, .int f] D P := by
  have h0 := h D xOut.rfl' hI
  refine xCi_of y_S_often (Nat.le_of_ble_eq_true rfl) (s_S_often_0 xk_0 (c_S_tableAt hI (fun q => ?_) (fun b τ q a1 a2 hR hT hL hF => ?_)))
  · unfold aOften at h0; rw [q] at h0; exact qn ⟨_, rfl, h0⟩
  · unfold aOften at h0 h; simp only [q] at h0 h
    have b5 := hT.2.2.2.2.2.2.1
    refine qs ⟨hR.1, c_has hR hT (fun y => ?_) (fun i hi y e => ?_)⟩
    · rw [y] at h0; exact z0 ⟨_, rfl, h0⟩
    · simp only [y] at h0 h
      rw [e]
      refine z1 (c_has hR hT (fun y => ?_) (fun j hj y e2 => ?_))
      · rw [y] at h0; exact z0 ⟨_, rfl, h0⟩
      · simp only [y] at h0 h
        rw [e2]
        refine z1 ⟨fun z => ?_, fun z => ⟨_, rfl, ?_⟩⟩
        · rw [if_neg (fun w => z (by rw [w]))] at h
          refine c_Looks_bestEyes xk_317 hR hT (by omega) hi (by omega) (by omega) (fun D' oD => ⟨_, rfl, h D' (oD.mono (by omega) (by omega)) (hI.work oD (by omega) ?_)⟩)
          exact wI_looks hI.2.2.2.2.2 oD (by omega) (hI.2.2.2.2.2.2.2.2.2.out oD (by omega))
        · rw [if_pos ((nI_eq (by omega) (by omega)).mp z)] at h0; exact h0
theorem c_S_rests {P : Int32 → xD → Prop} {t p k : Int32} (hI : cI D g) (h : ∀ D', xOut 180 325 D D' → cI D' g → P (aRests g.1 t p k) D') : xCi (d + 40) m_S_rests [.ref 0, .int t, .int p, .int k] D P := by
  have h0 := h D xOut.rfl' hI
  refine xCi_of y_S_rests (Nat.le_of_ble_eq_true rfl) (s_S_rests_0 xk_0 (c_S_tableAt hI (fun q => ?_) (fun b τ q a1 a2 hR hT hL hF => ?_)))
  · unfold aRests at h0; rw [q] at h0; exact qn ⟨_, rfl, h0⟩
  · unfold aRests at h0 h; simp only [q] at h0 h
    have b5 := hT.2.2.2.2.2.2.1
    have fin : ∀ D' v, xOut 319 325 D D' → rS D' 323 1215 → P v D' → P v D' := fun _ _ _ _ y => y
    refine qs ⟨hR.1, c_Table_people hR hT ⟨fun c => ?_, fun c => ⟨_, rfl, ?_⟩⟩⟩
    · have h5 : tN τ 5 ≤ 5 := (nI_leI (b := 5) (by omega) (by omega)).mp c
      have h3 := ways_243 h5
      rw [if_neg (by omega)] at h0 h
      have fin : ∀ D', xOut 319 325 D D' → rS D' 323 1215 → xOut 180 325 D D' ∧ cI D' g := fun D' o r => ⟨o.mono (by omega) (by omega), hI.work o (by omega) (wI_looks hI.2.2.2.2.2 o (by omega) r)⟩
      refine ⟨fun c1 => ?_, fun c1 => ⟨fun c2 => ⟨_, rfl, ?_⟩, fun c2 => ?_⟩⟩
      · rw [if_neg c1] at h0 h
        refine c_has hR hT (fun y => ?_) (fun i hi y e => ?_)
        · rw [y] at h0; exact z0 ⟨_, rfl, h0⟩
        · simp only [y] at h0 h
          rw [e]
          refine z1 ?_
          have wy : ∀ {Q : Int32 → xD → Prop}, Q (nI (3 ^ tN τ 5)) D → xCi (d + 39) m_Table_people [.ref b] D (fun r10 D9 => xCi (d + 39) m_Looks_waysOf [.int r10] D9 Q) := fun {Q} hq => c_Table_people hR hT (c_Looks_waysOf (by omega) (by rw [Nat.min_eq_left h5]; exact hq))
          cases hx : slotOf (3 ^ tN τ 5) k with
          | none =>
            rw [hx] at h0
            refine ⟨fun _ => ⟨_, rfl, h0⟩, fun c2 => wy ⟨fun c3 => ?_, fun _ => ⟨_, rfl, h0⟩⟩⟩
            rcases slot_none (by omega) hx with z | ⟨-, z⟩
            · exact absurd z c2
            · exact absurd z (Int32.not_le.mpr c3)
          | some w =>
            obtain ⟨h1, e2⟩ := slot_some hx
            simp only [hx] at h
            rw [e2]
            refine ⟨fun c2 => absurd c2 (nI_pos (by omega)), fun c2 => wy ⟨fun _ => ?_, fun c3 => absurd (nI_lt h1 (by omega)) c3⟩⟩
            refine c_Looks_costOf xk_317 hR hT rfl h5 h1 hi hI.2.2.2.2.2.2.2.2.2 (by omega) (fun D' oD r' => ⟨_, rfl, ?_⟩)
            obtain ⟨f1, f2⟩ := fin D' oD r'
            exact h D' f1 f2
      · rw [if_pos c1] at h0
        have hA : lkAns τ (tN τ 5) k (-1) := Or.inr ⟨fun w hw _ hx => by
          have := lkMany_le τ (tN τ 5) w
          have n1 : ¬ nI (lkMany τ (tN τ 5) w) < 0 := nI_pos (by omega)
          rw [hx] at n1
          exact n1 (Int32.lt_trans c2 (by decide)), Or.inr ⟨fun q => by rw [q] at c2; exact absurd c2 (by decide), rfl⟩⟩
        rw [← lkRes_is h5 hA] at h0
        exact h0
      · rw [if_pos c1] at h
        refine c_Looks_resting xk_317 hR hT rfl (by have := hF.1; omega) h5 hI.2.2.2.2.2.2.2.2.2 (by omega) (fun D' r oD r' hA => ⟨_, rfl, ?_⟩)
        obtain ⟨f1, f2⟩ := fin D' oD r'
        rw [lkRes_is h5 hA]
        exact h D' f1 f2
    · rw [if_pos (Nat.lt_of_not_le (fun z => c (nI_le (b := 5) z (by omega))))] at h0
      exact h0
theorem w_in {w : Int32} {k n p : Nat} (hk : k ≤ 20) (hn : n ≤ 6) (h : slotOf n (w - nI k) = some p) (h0 : ¬ w < nI k) : w = nI (k + p) ∧ p < n := by
  obtain ⟨h1, h2⟩ := slot_some h
  refine ⟨?_, h1⟩
  have : w = w - nI k + nI k := by rw [Int32.sub_add_cancel]
  rw [this, h2, nI_add, Nat.add_comm]
theorem c_S_personAsked {P : Int32 → xD → Prop} {t : Nat} {τ : Nat → Int32} {w : Int32} (hR : tR D t τ) (hT : tOK τ) (h : P (oI (perAsk (tN τ 5) w)) D) : xCi (d + 4) m_S_personAsked [.ref t, .int w] D P := by
  refine xCi_of y_S_personAsked (Nat.le_of_ble_eq_true rfl) (s_S_personAsked_0 hR.1 ?_)
  unfold perAsk at h
  refine ⟨fun c => ⟨fun c1 => ⟨_, rfl, ?_⟩, fun c1 => c_has hR hT (fun y => ?_) (fun p hp y e => ?_)⟩, fun c => ⟨fun c1 => ?_, fun c1 => c_has hR hT (fun y => ?_) (fun p hp y e => ?_)⟩⟩
  · rw [if_pos c1] at h; exact h
  · rw [if_neg c1, if_pos c, y] at h; exact z0 ⟨_, rfl, h⟩
  · rw [if_neg c1, if_pos c, y] at h; rw [e]; exact z1 ⟨_, rfl, h⟩
  · exact absurd (Int32.lt_trans c1 (by decide)) c
  · rw [if_neg c1, if_neg c, y] at h; exact z0 ⟨_, rfl, h⟩
  · rw [if_neg c1, if_neg c, y] at h; rw [e]; exact z1 ⟨_, rfl, h⟩
theorem perAsk_lt {N p : Nat} {w : Int32} (h : perAsk N w = some p) : p < N := by
  unfold perAsk at h
  split at h
  · cases h
  · split at h <;> exact (slot_some h).1
theorem perAsk_m1 {N : Nat} {w : Int32} (hN : N ≤ 6) : oI (perAsk N w) = -1 ↔ perAsk N w = none := oI_iff (fun p hp => by have := perAsk_lt hp; omega)
theorem c_S_film {P : Int32 → xD → Prop} {t f w : Int32} (hI : cI D g) (h : P (aFilm g.1 t f w) D) : xCi (d + 40) m_S_film [.ref 0, .int t, .int f, .int w] D P := by
  refine xCi_of y_S_film (Nat.le_of_ble_eq_true rfl) (s_S_film_0 xk_0 (c_S_tableAt hI (fun q => ?_) (fun b τ q a1 a2 hR hT hL hF => ?_)))
  · unfold aFilm at h; simp only [q] at h
    exact qn (c_S_filmAt hI (fun _ => qn ⟨_, rfl, h⟩) (fun a φ _ _ _ hR _ => qs ⟨hR.1, _, rfl, h⟩))
  · unfold aFilm at h; simp only [q] at h
    have b5 := hT.2.2.2.2.2.2.1
    refine qs ⟨hR.1, c_S_filmAt hI (fun y => ?_) (fun a φ y b1 b2 hR2 hO => ?_)⟩
    · rw [y] at h; exact qn ⟨_, rfl, h⟩
    · simp only [y] at h
      refine qs ⟨hR2.1, c_S_personAsked hR hT ?_⟩
      rw [perAsk_m1 b5]
      cases hp : perAsk (tN τ 5) w with
      | none =>
        rw [hp] at h
        refine ⟨fun z => absurd rfl z, fun _ => c_Table_people hR hT (c_Film_answer hR2 hO b5 ⟨_, rfl, h⟩)⟩
      | some p =>
        have hpN := perAsk_lt hp
        simp only [hp] at h
        refine ⟨fun _ => ?_, fun z => by cases z⟩
        refine c_Film_firstWith (p := p) hR2 hO (by omega) ?_
        rw [fFst_m1 hO]
        refine ⟨fun z => ?_, fun z => ⟨_, rfl, ?_⟩⟩
        · rw [if_neg z] at h
          refine ⟨fun c => c_Film_upTo (p := p) hR2 hO (by omega) z ⟨_, rfl, ?_⟩, fun c => c_Film_above (p := p) hR2 hO (by omega) ⟨_, rfl, ?_⟩⟩
          · rw [if_neg (Int32.not_lt.mpr c)] at h; exact h
          · rw [if_pos (Int32.not_le.mp c)] at h; exact h
        · rw [if_pos z] at h; exact h
theorem c_S_pulled {P : Int64 → xD → Prop} {t f p u : Int32} (hI : cI D g) (h : P (aPulled g.1 t f p u) D) : xCl (d + 40) m_S_pulled [.ref 0, .int t, .int f, .int p, .int u] D P := by
  refine xCl_of y_S_pulled (Nat.le_of_ble_eq_true rfl) (s_S_pulled_0 xk_0 (c_S_tableAt hI (fun q => ?_) (fun b τ q a1 a2 hR hT hL hF => ?_)))
  · unfold aPulled at h; simp only [q] at h
    exact qn (c_S_filmAt hI (fun _ => qn ⟨_, rfl, h⟩) (fun a φ _ _ _ hR _ => qs ⟨hR.1, _, rfl, h⟩))
  · unfold aPulled at h; simp only [q] at h
    have b5 := hT.2.2.2.2.2.2.1
    refine qs ⟨hR.1, c_S_filmAt hI (fun y => ?_) (fun a φ y b1 b2 hR2 hO => ?_)⟩
    · rw [y] at h; exact qn ⟨_, rfl, h⟩
    · simp only [y] at h
      refine qs ⟨hR2.1, c_has hR hT (fun y => ?_) (fun i hi y e => ?_)⟩
      · rw [y] at h; exact z0 ⟨_, rfl, h⟩
      · simp only [y] at h
        rw [e]
        refine z1 (c_Film_firstWith hR2 hO (by omega) ?_)
        rw [fFst_m1 hO]
        refine ⟨fun z => ?_, fun z => ⟨_, rfl, ?_⟩⟩
        · rw [if_neg z] at h
          exact c_Table_people hR hT (c_Film_likelyFirst hR2 hO b5 (by omega) z ⟨_, rfl, h⟩)
        · rw [if_pos z] at h; exact h
end ASK2
