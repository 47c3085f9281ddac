/-! What is asked of SHUFFLED packs, evenings, luck; the tape is fed and cut. -/
def aShuffled (σ : sT) (t seed k : Int32) : Int32 := match txO σ 0 t with
  | none => -1
  | some τ => match slotOf (tN τ 0 * tN τ 1) k with
    | none => -1
    | some i => nI ((shC τ seed).1 i)
def nAns (s : nS) (w : Nat) : Int32 := if w = 0 then oI (nWin s) else if w = 1 then nI s.2.2.2.2.1 else oI s.2.2.2.2.2
noncomputable def aEvening (σ : sT) (t seed w : Int32) : Int32 := match txO σ 0 t with
  | none => -2
  | some τ => match perAsk (tN τ 5) w with
    | none => match slotOf 3 w with
      | none => -2
      | some w => nAns (nEnd τ seed) w
    | some p => if 20 ≤ w then oI ((nEnd τ seed).2.2.1 p) else nI ((nEnd τ seed).2.1 p)
/-- how many ROUNDS: 1 to 20 -/
def kOf (k : Int32) : Option Nat := match slotOf 21 k with
  | none => none
  | some 0 => none
  | some (m + 1) => some (m + 1)
noncomputable def aLuck (σ : sT) (t seed k w : Int32) : Int32 := match txO σ 0 t with
  | none => -1
  | some τ => match kOf k with
    | none => -1
    | some m => if w = 0 then nI (eFst τ seed none m) else match perAsk (tN τ 5) w with
      | none => -1
      | some p => if 20 ≤ w then nI (eLst τ seed p m) else nI (eFst τ seed (some p) m)
noncomputable def aOtherwise (σ : sT) (t seed k p s v x : Int32) : Int32 := match txO σ 0 t with
  | none => -1
  | some τ => match slotOf (tN τ 5) p with
    | none => -1
    | some p => match kOf k with
      | none => -1
      | some m => match slotOf 6 s with
        | none => -1
        | some w => if v = -1 then nI (eBest τ seed m p w) else match slotOf 21 v with
          | none => -1
          | some u => if leastV w ≤ u ∧ u ≤ mostV τ w then (if x = 0 then nI (eBy τ seed m p w u) else nI (eFst (tChange τ p w u) seed (some (tSeatOf p w u)) m)) else -1
theorem kOf_some {k : Int32} {m : Nat} (h : kOf k = some m) : 1 ≤ m ∧ m ≤ 20 ∧ k = nI m := by
  unfold kOf at h
  cases hx : slotOf 21 k with
  | none => rw [hx] at h; cases h
  | some j =>
    obtain ⟨h1, h2⟩ := slot_some hx
    rw [hx] at h
    cases j with
    | zero => cases h
    | succ j => cases h; exact ⟨by omega, by omega, h2⟩
theorem kOf_none {k : Int32} (h : kOf k = none) : k < 1 ∨ (¬ k < 1 ∧ 20 < k) := by
  unfold kOf at h
  cases hx : slotOf 21 k with
  | none =>
    rcases slot_none (by omega) hx with q | ⟨q, z⟩
    · exact Or.inl (Int32.lt_trans q (by decide))
    · refine Or.inr ⟨fun c => ?_, Int32.lt_of_lt_of_le (by decide) z⟩
      exact absurd (Int32.lt_of_le_of_lt z c) (by decide)
  | some j =>
    obtain ⟨h1, h2⟩ := slot_some hx
    rw [hx] at h
    cases j with
    | zero => exact Or.inl (by rw [h2]; decide)
    | succ j => cases h
theorem mostV_20 {τ : Nat → Int32} (hT : tOK τ) (w : Nat) : mostV τ w ≤ 20 := by
  have := hT.2.2.2.2.2.2.1
  unfold mostV
  split
  · omega
  · split
    · omega
    · split <;> omega
section ASK5
variable {d : Nat} {D : xD} {g : gS}
theorem wI_eve {D D' : xD} {lo hi : Nat} (w : wI D) (o : xOut lo hi D D') (q : 254 ≤ lo ∧ hi ≤ 304) (r : eI D' 254) : wI D' :=
  ⟨w.1.out o (by omega), w.2.1.out o (by omega), r, w.2.2.2.1.out o (by omega), w.2.2.2.2.out o (by omega)⟩
theorem c_S_shuffled {P : Int32 → xD → Prop} {t seed k : Int32} (hI : cI D g) (h : ∀ D', xOut 180 325 D D' → cI D' g → P (aShuffled g.1 t seed k) D') : xCi (d + 40) m_S_shuffled [.ref 0, .int t, .int seed, .int k] D P := by
  have hz := h D xOut.rfl' hI
  unfold aShuffled at hz h
  refine xCi_of y_S_shuffled (Nat.le_of_ble_eq_true rfl) (s_S_shuffled_0 xk_0 (c_S_tableAt hI (fun q => ?_) (fun b τ q a1 a2 hR hT hL hF => ?_)))
  · rw [q] at hz; exact qn ⟨_, rfl, hz⟩
  · simp only [q] at h
    have h52 := pack_le hT
    refine qs ⟨hR.1, xCq_of y_Evenings_shuffledBy (Nat.le_of_ble_eq_true rfl) (s_Evenings_shuffledBy_0 xk_254 hR.1 (fun D1 e1 => ?_))⟩
    have o1 : xOut 254 255 D D1 := by rw [e1]; exact xOut_f D 254 8 seed
    have f8 : D1.1 254 8 = seed := by rw [e1]; show xu D.1 254 8 seed 254 8 = seed; rw [xu_self]; simp [upd]
    refine c_Evenings_shuffle xk_254 (hR.out o1 (by omega)) hT f8 (by omega) (fun D2 o2 w2 v2 x2 => ⟨some 287, rfl, ?_⟩)
    have o12 : xOut 254 304 D D2 := (o1.mono (by omega) (by omega)).trans (o2.out.mono (by omega) (by omega))
    have hI2 : cI D2 g := hI.work o12 (by omega) (wI_eve hI.2.2.2.2.2 o12 (by omega) ⟨(hI.2.2.2.2.2.2.2.1.1.out o1 (by omega)).outS o2 (by omega), (hI.2.2.2.2.2.2.2.1.2.out o1 (by omega)).outS o2 (by omega)⟩)
    have h := h D2 (o12.mono (by omega) (by omega)) hI2
    refine qs ⟨w2.2.2, c_Row_reaches w2 ?_⟩
    rw [slot_has (by omega)]
    cases hx : slotOf (tN τ 0 * tN τ 1) k with
    | none => rw [hx] at h; rw [if_pos rfl]; exact z0 ⟨_, rfl, h⟩
    | some i =>
      obtain ⟨h1, e⟩ := slot_some hx
      simp only [hx] at h
      rw [if_neg (fun q => by cases q), e]
      refine z1 (c_get w2 h1 ⟨_, rfl, ?_⟩)
      rw [show D2.1 (287 + 1) i = nI ((shC τ seed).1 i) from v2 i h1]; exact h
theorem c_S_evening {P : Int32 → xD → Prop} {t seed w : Int32} (hI : cI D g) (h : ∀ D', xOut 180 325 D D' → cI D' g → P (aEvening g.1 t seed w) D') : xCi (d + 40) m_S_evening [.ref 0, .int t, .int seed, .int w] D P := by
  have hz := h D xOut.rfl' hI
  unfold aEvening at hz h
  refine xCi_of y_S_evening (Nat.le_of_ble_eq_true rfl) (s_S_evening_0 xk_0 (c_S_tableAt hI (fun q => ?_) (fun b τ q a1 a2 hR hT hL hF => ?_)))
  · rw [q] at hz; exact qn ⟨_, rfl, hz⟩
  · simp only [q] at h hz
    have b5 := hT.2.2.2.2.2.2.1
    refine qs ⟨hR.1, c_S_personAsked hR hT ?_⟩
    rw [perAsk_m1 b5]
    have spend : ∀ {Q : xD → Prop}, (∀ D', xOut 180 325 D D' → cI D' g → nRE D' 254 (tN τ 5) (nEnd τ seed) → Q D') → xCv (d + 39) m_Evenings_spend [.ref 254, .ref b, .int seed] D Q := fun {Q} hq =>
      c_Evenings_spend xk_254 hI.2.2.2.2.2.2.2.1 hR hT hL hF (by omega) (fun D' oD e1 e2 => hq D' (oD.mono (by omega) (by omega)) (hI.work oD (by omega) (wI_eve hI.2.2.2.2.2 oD (by omega) e1)) e2)
    cases hp : perAsk (tN τ 5) w with
    | none =>
      simp only [hp] at h hz
      cases hx : slotOf 3 w with
      | none =>
        rw [hx] at hz
        refine ⟨fun _ => ⟨_, rfl, hz⟩, fun c => ⟨fun c1 => ?_, fun c1 => ⟨fun z => absurd rfl z, fun _ => ⟨_, rfl, hz⟩⟩⟩⟩
        rcases slot_none (by omega) hx with z | ⟨-, z⟩
        · exact absurd z c
        · exact absurd (Int32.le_trans z c1) (by decide)
      | some v =>
        obtain ⟨h1, e⟩ := slot_some hx
        simp only [hx] at h
        rw [e]
        refine ⟨fun c => absurd c (nI_pos (by omega)), fun c => ⟨fun c1 => spend (fun D' oD hI' hE => ⟨fun z => absurd rfl z, fun _ => c_Evenings_answer xk_254 hE (by omega) ⟨_, rfl, h D' oD hI'⟩⟩), fun c1 => absurd (nI_le (a := v) (b := 2) (by omega) (by omega)) c1⟩⟩
    | some i =>
      have hiN := perAsk_lt hp
      simp only [hp] at h
      have w10 : ¬ w < 10 := fun c => by unfold perAsk at hp; rw [if_pos c] at hp; cases hp
      refine ⟨fun c => absurd (Int32.lt_trans c (by decide)) w10, fun c => ⟨fun c1 => absurd (Int32.lt_of_le_of_lt c1 (by decide)) w10, fun c1 => ⟨fun _ => spend (fun D' oD hI' hE => ⟨fun _ => ?_, fun z => by cases z⟩), fun z => by cases z⟩⟩⟩
      have hz := h D' oD hI'
      refine ⟨fun c2 => ?_, fun c2 => ?_⟩
      · rw [if_pos c2] at hz
        exact c_Evenings_answerOf (p := i) xk_254 hE hiN ⟨_, rfl, hz⟩
      · rw [if_neg c2] at hz
        exact c_Evenings_answerOf (p := i) xk_254 hE hiN ⟨_, rfl, hz⟩
theorem eI_of {D D' : xD} {v k : Nat} {τ : Nat → Int32} {seed : Int32} (h : eI D v) (o : xOut v (v + 39) D D') (e : eR D' v τ seed k) : eI D' v := ⟨e.1, h.2.out o (by omega)⟩
theorem c_S_luck {P : Int32 → xD → Prop} {t seed k w : Int32} (hI : cI D g) (h : ∀ D', xOut 180 325 D D' → cI D' g → P (aLuck g.1 t seed k w) D') : xCi (d + 40) m_S_luck [.ref 0, .int t, .int seed, .int k, .int w] D P := by
  have hz := h D xOut.rfl' hI
  unfold aLuck at hz h
  refine xCi_of y_S_luck (Nat.le_of_ble_eq_true rfl) (s_S_luck_0 xk_0 (c_S_tableAt hI (fun q => ?_) (fun b τ q a1 a2 hR hT hL hF => ?_)))
  · rw [q] at hz; exact qn ⟨_, rfl, hz⟩
  · simp only [q] at h hz
    have b5 := hT.2.2.2.2.2.2.1
    refine qs ⟨hR.1, ?_⟩
    cases hk : kOf k with
    | none =>
      rw [hk] at hz
      rcases kOf_none hk with c | ⟨c, c1⟩
      · exact ⟨fun _ => ⟨_, rfl, hz⟩, fun z => absurd c z⟩
      · exact ⟨fun z => absurd z c, fun _ => ⟨fun z => absurd c1 (Int32.not_lt.mpr z), fun _ => ⟨_, rfl, hz⟩⟩⟩
    | some m =>
      obtain ⟨m1, m20, e⟩ := kOf_some hk
      simp only [hk] at h hz
      rw [e]
      refine ⟨fun z => absurd z (nI_nlt (a := m) (b := 1) m1 (by omega)), fun _ => ⟨fun _ => c_S_personAsked hR hT ?_, fun z => absurd (nI_le (a := m) (b := 20) m20 (by omega)) z⟩⟩
      rw [perAsk_m1 b5]
      have play : ∀ {Q : xD → Prop}, (∀ D', xOut 180 325 D D' → cI D' g → tR D' b τ → eR D' 254 τ seed m → Q D') → xCv (d + 39) m_Evenings_playRounds [.ref 254, .ref b, .int seed, .int (nI m)] D Q := fun {Q} hq =>
        c_Evenings_playRounds xk_254 hR hT hL hF hI.2.2.2.2.2.2.2.1.1 (by omega) m20 (fun D' oD e1 => hq D' (oD.mono (by omega) (by omega)) (hI.work oD (by omega) (wI_eve hI.2.2.2.2.2 oD (by omega) (eI_of hI.2.2.2.2.2.2.2.1 oD e1))) (hR.out oD (by omega)) e1)
      have none_ok : w = 0 → perAsk (tN τ 5) w = none := fun c => by rw [c]; unfold perAsk; rw [if_pos (by decide)]
      refine ⟨fun c => play (fun D' oD hI' hR' hE => ?_), fun c => ⟨fun z => play (fun D' oD hI' hR' hE => ?_), fun z => ⟨_, rfl, ?_⟩⟩⟩
      · rw [none_ok c]
        rw [if_pos c] at h
        exact ⟨fun z => absurd rfl z, fun _ => c_Evenings_timesFirst (o := none) xk_254 hE b5 (fun p q => by cases q) ⟨_, rfl, h D' oD hI'⟩⟩
      · rw [if_neg c] at h
        cases hp : perAsk (tN τ 5) w with
        | none => exact absurd hp z
        | some i =>
          have hiN := perAsk_lt hp
          simp only [hp] at h
          have hz := h D' oD hI'
          refine ⟨fun _ => ⟨fun c2 => ?_, fun c2 => ?_⟩, fun z => by cases z⟩
          · rw [if_pos c2] at hz
            exact c_Evenings_timesLast (p := i) xk_254 hR' hT (by omega) hE m20 (by omega) ⟨_, rfl, hz⟩
          · rw [if_neg c2] at hz
            exact c_Evenings_timesFirst (o := some i) xk_254 hE b5 (fun p q => by cases q; omega) ⟨_, rfl, hz⟩
      · rw [if_neg c] at hz
        rw [z] at hz; exact hz
theorem c_S_otherwise {P : Int32 → xD → Prop} {t seed k p s v x : Int32} (hI : cI D g) (h : ∀ D', xOut 180 325 D D' → cI D' g → P (aOtherwise g.1 t seed k p s v x) D') : xCi (d + 40) m_S_otherwise [.ref 0, .int t, .int seed, .int k, .int p, .int s, .int v, .int x] D P := by
  have hz := h D xOut.rfl' hI
  unfold aOtherwise at hz h
  refine xCi_of y_S_otherwise (Nat.le_of_ble_eq_true rfl) (s_S_otherwise_0 xk_0 (c_S_tableAt hI (fun q => ?_) (fun b τ q a1 a2 hR hT hL hF => ?_)))
  · rw [q] at hz; exact qn ⟨_, rfl, hz⟩
  · simp only [q] at h hz
    have b5 := hT.2.2.2.2.2.2.1
    refine qs ⟨hR.1, c_has hR hT (fun y => ?_) (fun i hi y e => ?_)⟩
    · rw [y] at hz; exact z0 ⟨_, rfl, hz⟩
    · simp only [y] at h hz
      rw [e]
      refine z1 ?_
      cases hk : kOf k with
      | none =>
        rw [hk] at hz
        rcases kOf_none hk with c | ⟨c, c1⟩
        · exact ⟨fun _ => ⟨_, rfl, hz⟩, fun z => absurd c z⟩
        · exact ⟨fun z => absurd z c, fun _ => ⟨fun _ => ⟨_, rfl, hz⟩, fun z => absurd c1 z⟩⟩
      | some m =>
        obtain ⟨m1, m20, e2⟩ := kOf_some hk
        simp only [hk] at h hz
        rw [e2]
        refine ⟨fun z => absurd z (nI_nlt (a := m) (b := 1) m1 (by omega)), fun _ => ⟨fun z => absurd z (nI_nlt (a := 20) (b := m) m20 (by omega)), fun _ => ?_⟩⟩
        cases hs : slotOf 6 s with
        | none =>
          rw [hs] at hz
          refine ⟨fun _ => ⟨_, rfl, hz⟩, fun c => ⟨fun c1 => ?_, fun _ => ⟨_, rfl, hz⟩⟩⟩
          rcases slot_none (by omega) hs with z | ⟨-, z⟩
          · exact absurd z c
          · exact absurd (Int32.le_trans z c1) (by decide)
        | some w =>
          obtain ⟨w6, e3⟩ := slot_some hs
          simp only [hs] at h hz
          rw [e3]
          have fin : ∀ D', xOut 254 304 D D' → eI D' 254 → xOut 180 325 D D' ∧ cI D' g := fun D' o r => ⟨o.mono (by omega) (by omega), hI.work o (by omega) (wI_eve hI.2.2.2.2.2 o (by omega) r)⟩
          refine ⟨fun c => absurd c (nI_pos (by omega)), fun _ => ⟨fun _ => ⟨fun c => ?_, fun c => ?_⟩, fun c => absurd (nI_le (a := w) (b := 5) (by omega) (by omega)) c⟩⟩
          · rw [if_neg c] at h hz
            have hm20 := mostV_20 hT w
            have hl1 : leastV w ≤ 1 := by unfold leastV; split <;> omega
            refine c_Evenings_leastValue (by omega) ?_
            have bad : (¬ ∃ u, u ≤ 20 ∧ v = nI u ∧ leastV w ≤ u ∧ u ≤ mostV τ w) → P (-1) D := fun no => by
              cases hv : slotOf 21 v with
              | none => rw [hv] at hz; exact hz
              | some u =>
                obtain ⟨u1, u2⟩ := slot_some hv
                simp only [hv] at hz
                rw [if_neg (fun q => no ⟨u, by omega, u2, q.1, q.2⟩)] at hz
                exact hz
            refine ⟨fun c1 => ⟨_, rfl, bad ?_⟩, fun c1 => c_Evenings_greatestValue hR hT (by have := hF.1; omega) (by omega) ⟨fun c2 => ?_, fun c2 => ⟨_, rfl, bad ?_⟩⟩⟩
            · rintro ⟨u, u1, u2, u3, u4⟩
              rw [u2] at c1
              have := (nI_ltI (by omega) (by omega)).mp c1
              omega
            · have hv0 : ¬ v < 0 := fun z => c1 (neg_lt z (by omega))
              obtain ⟨u, hu, rfl⟩ := nI_of hv0
              have h1 : leastV w ≤ u := Nat.le_of_not_lt (fun z => c1 (nI_lt z (by omega)))
              have h2 : u ≤ mostV τ w := (nI_leI hu (by omega)).mp c2
              rw [slot_nI (show u < 21 by omega) (by omega)] at h
              refine c_Evenings_wouldBe xk_254 hI.2.2.2.2.2.2.2.1 hR hT hL hF hi (by omega) h1 h2 m20 (by omega) (fun D' oD e1 => ⟨_, rfl, ?_⟩)
              obtain ⟨f1, f2⟩ := fin D' oD e1
              have h := h D' f1 f2
              simp only [] at h
              rw [if_pos ⟨h1, h2⟩] at h
              exact h
            · rintro ⟨u, u1, u2, u3, u4⟩
              rw [u2] at c2
              exact c2 (nI_le u4 (by omega))
          · rw [if_pos c] at h
            refine c_Evenings_better xk_254 hI.2.2.2.2.2.2.2.1 hR hT hL hF hi (by omega) m20 (by omega) (fun D' oD e1 => ⟨_, rfl, ?_⟩)
            obtain ⟨f1, f2⟩ := fin D' oD e1
            exact h D' f1 f2
end ASK5
/-! The tape. -/
/-- eight bits of a number -/
def byN (x : Int32) (s : Nat) : Nat := x.toBitVec.toNat / 2 ^ s % 256
theorem byN_lt (x : Int32) (s : Nat) : byN x s < 256 := Nat.mod_lt _ (by omega)
theorem by_s : ∀ s, s < 32 → (((nI s).toUInt32 &&& Int32.toUInt32 31).toBitVec % 32).toNat = s := by decide +kernel
/-- .. as the class takes them -/
theorem byN_is (x : Int32) {s : Nat} (hs : s < 32) : (x.toUInt32 >>> ((nI s).toUInt32 &&& Int32.toUInt32 31)).toInt32 &&& (255 : Int32) = nI (byN x s) := by
  rw [pk_and _ 8 (by decide), pk_ushr x (nI s) s (by_s s hs)]
  rfl
def pushT (t : Nat × (Nat → Nat)) (v : Nat) : Nat × (Nat → Nat) := (t.1 + 1, fun j => if j = t.1 then v else t.2 j)
def wr4 (t : Nat × (Nat → Nat)) (x : Int32) : Nat × (Nat → Nat) := pushT (pushT (pushT (pushT t (byN x 24)) (byN x 16)) (byN x 8)) (byN x 0)
def tpR (D : xD) (t : Nat × (Nat → Nat)) : Prop := rS D 2 t.1 ∧ ∀ j, j < t.1 → D.1 3 j = nI (t.2 j)
def tpB (t : Nat × (Nat → Nat)) : Prop := ∀ j, j < t.1 → t.2 j < 256
theorem tpB_push {t : Nat × (Nat → Nat)} {v : Nat} (h : tpB t) (hv : v < 256) : tpB (pushT t v) := by
  intro j hj
  show (if j = t.1 then v else t.2 j) < 256
  have hj : j < t.1 + 1 := hj
  by_cases q : j = t.1
  · rw [if_pos q]; exact hv
  · rw [if_neg q]; exact h j (by omega)
theorem tpB_wr {t : Nat × (Nat → Nat)} {x : Int32} (h : tpB t) : tpB (wr4 t x) := tpB_push (tpB_push (tpB_push (tpB_push h (byN_lt _ _)) (byN_lt _ _)) (byN_lt _ _)) (byN_lt _ _)
def gFeed (g : gS) (a b c d e : Int32) : gS := if 600 < g.1.1.1 + 20 then g else ((wr4 (wr4 (wr4 (wr4 (wr4 g.1.1 a) b) c) d) e, g.1.2), g.2)
def aFeed (g : gS) : Int32 := if 600 < g.1.1.1 + 20 then -1 else nI (g.1.1.1 + 20)
def gEnd (g : gS) (n : Int32) : gS := match slotOf (g.1.1.1 + 1) n with
  | none => g
  | some k => (((k, g.1.1.2), g.1.2), g.2)
def aEnd (g : gS) (n : Int32) : Int32 := match slotOf (g.1.1.1 + 1) n with
  | none => -1
  | some k => nI k
section TAPE
variable {d : Nat} {D : xD} {g : gS}
theorem c_pushT {P : xD → Prop} {t : Nat × (Nat → Nat)} {v : Nat} (h : tpR D t) (ht : t.1 < 600) (hp : ∀ D', xOut 2 4 D D' → tpR D' (pushT t v) → P D') : xCv (d + 1) m_Row_push [.ref 2, .int (nI v)] D P := by
  have l3 : xl (2 + 1) = 600 := cl_1_0 xk_1
  refine c_push h.1 (by omega) (fun D1 o1 w1 v1 => hp D1 o1 ⟨w1, fun j hj => ?_⟩)
  have hj : j < t.1 + 1 := hj
  show D1.1 (2 + 1) j = nI (if j = t.1 then v else t.2 j)
  rw [v1]
  by_cases q : j = t.1
  · rw [if_pos q, if_pos q]
  · rw [if_neg q, if_neg q]; exact h.2 j (by omega)
theorem c_S_write {P : xD → Prop} {t : Nat × (Nat → Nat)} {x : Int32} (h : tpR D t) (ht : t.1 + 4 ≤ 600) (hp : ∀ D', xOut 2 4 D D' → tpR D' (wr4 t x) → P D') : xCv (d + 2) m_S_write [.ref 0, .int x] D P := by
  refine xCv_of y_S_write (Nat.le_of_ble_eq_true rfl) (s_S_write_0 xk_0 ?_)
  refine s_S_write_3 xk_0 ⟨fun q => absurd q (by decide), fun _ => ?_⟩
  rw [show (24 : Int32) = nI 24 from rfl, byN_is x (by omega)]
  refine c_pushT h (by omega) (fun D1 o1 t1 => ?_)
  rw [show nI 24 + (-8 : Int32) = nI 16 by decide]
  refine s_S_write_3 xk_0 ⟨fun q => absurd q (by decide), fun _ => ?_⟩
  rw [byN_is x (by omega)]
  refine c_pushT t1 (by show t.1 + 1 < 600; omega) (fun D2 o2 t2 => ?_)
  rw [show nI 16 + (-8 : Int32) = nI 8 by decide]
  refine s_S_write_3 xk_0 ⟨fun q => absurd q (by decide), fun _ => ?_⟩
  rw [byN_is x (by omega)]
  refine c_pushT t2 (by show t.1 + 1 + 1 < 600; omega) (fun D3 o3 t3 => ?_)
  rw [show nI 8 + (-8 : Int32) = nI 0 by decide]
  refine s_S_write_3 xk_0 ⟨fun q => absurd q (by decide), fun _ => ?_⟩
  rw [byN_is x (by omega)]
  refine c_pushT t3 (by show t.1 + 1 + 1 + 1 < 600; omega) (fun D4 o4 t4 => ?_)
  exact s_S_write_3 xk_0 ⟨fun _ => ⟨rfl, hp D4 (o1.trans (o2.trans (o3.trans o4))) t4⟩, fun q => absurd (show nI 0 + (-8 : Int32) < 0 by decide) q⟩
/-- another tape -/
theorem cI_tape {D' : xD} {t : Nat × (Nat → Nat)} (hI : cI D g) (o : xOut 2 4 D D') (ht : tpR D' t) (h6 : t.1 ≤ 600) (hb : tpB t) : cI D' ((t, g.1.2), g.2) := by
  obtain ⟨i1, i2, i3, i4, i5, i6⟩ := hI
  obtain ⟨t1, t2, t3, t4, t5, t6, t7, t8⟩ := i1
  refine ⟨⟨t1, ht.1, ht.2, by rw [o.1 _ (by omega)]; exact t4, by rw [o.1 _ (by omega)]; exact t5, t6.out o (by omega), fun s hs => by rw [o.1 _ (by omega)]; exact t7 s hs, fun s hs k hk => (t8 s hs k hk).out o (by omega)⟩, ⟨h6, hb, i2.2.2⟩, fun k hk σ hσ => ⟨(i3 k hk σ hσ).1.out (i3 k hk σ hσ).2 o (by omega), (i3 k hk σ hσ).2⟩, i4.out o (by omega), fun k hk => by rw [o.1 _ (by omega)]; exact i5 k hk, i6.out o (by omega)⟩
theorem c_S_feed {P : Int32 → xD → Prop} {a b c x e : Int32} (hI : cI D g) (h : ∀ D', xOut 0 325 D D' → cI D' (gFeed g a b c x e) → P (aFeed g) D') : xCi (d + 40) m_S_feed [.ref 0, .int a, .int b, .int c, .int x, .int e] D P := by
  have ht : tpR D g.1.1 := ⟨hI.1.2.1, hI.1.2.2.1⟩
  have hn := hI.2.1.1
  have hb : tpB g.1.1 := hI.2.1.2.1
  refine xCi_of y_S_feed (Nat.le_of_ble_eq_true rfl) (s_S_feed_0 xk_0 (c_Row_size ht.1 ?_))
  unfold gFeed aFeed at h
  rw [show (20 : Int32) = nI 20 from rfl, nI_add]
  refine ⟨fun q => ?_, fun q => ⟨_, rfl, ?_⟩⟩
  · have q1 := (nI_leI (b := 600) (by omega) (by omega)).mp q
    rw [if_neg (by omega), if_neg (by omega)] at h
    refine c_S_write ht (by omega) (fun D1 o1 t1 => ?_)
    refine c_S_write t1 (by show g.1.1.1 + 4 + 4 ≤ 600; omega) (fun D2 o2 t2 => ?_)
    refine c_S_write t2 (by show g.1.1.1 + 8 + 4 ≤ 600; omega) (fun D3 o3 t3 => ?_)
    refine c_S_write t3 (by show g.1.1.1 + 12 + 4 ≤ 600; omega) (fun D4 o4 t4 => ?_)
    refine c_S_write t4 (by show g.1.1.1 + 16 + 4 ≤ 600; omega) (fun D5 o5 t5 => c_Row_size t5.1 ⟨_, rfl, ?_⟩)
    have o15 : xOut 2 4 D D5 := o1.trans (o2.trans (o3.trans (o4.trans o5)))
    exact h D5 (o15.mono (by omega) (by omega)) (cI_tape hI o15 t5 (by show g.1.1.1 + 20 ≤ 600; omega) (tpB_wr (tpB_wr (tpB_wr (tpB_wr (tpB_wr hb))))))
  · have q1 : 600 < g.1.1.1 + 20 := Nat.lt_of_not_le (fun z => q (nI_le (b := 600) z (by omega)))
    rw [if_pos q1, if_pos q1] at h
    exact h D xOut.rfl' hI
theorem c_S_end {P : Int32 → xD → Prop} {n : Int32} (hI : cI D g) (h : ∀ D', xOut 0 325 D D' → cI D' (gEnd g n) → P (aEnd g n) D') : xCi (d + 40) m_S_end [.ref 0, .int n] D P := by
  have hn := hI.2.1.1
  refine xCi_of y_S_end (Nat.le_of_ble_eq_true rfl) (s_S_end_0 xk_0 ?_)
  unfold gEnd aEnd at h
  cases hx : slotOf (g.1.1.1 + 1) n with
  | none =>
    rw [hx] at h
    refine ⟨fun _ => ⟨_, rfl, h D xOut.rfl' hI⟩, fun c => c_Row_size hI.1.2.1 ⟨fun c1 => ?_, fun _ => ⟨_, rfl, h D xOut.rfl' hI⟩⟩⟩
    rcases slot_none (by omega) hx with z | ⟨-, z⟩
    · exact absurd z c
    · exact absurd (Int32.le_trans z c1) (nI_ge (by omega) (by omega))
  | some k =>
    obtain ⟨h1, e⟩ := slot_some hx
    simp only [hx] at h
    rw [e]
    refine ⟨fun c => absurd c (nI_pos (by omega)), fun _ => c_Row_size hI.1.2.1 ⟨fun _ => c_Row_cut hI.1.2.1 (by omega) ⟨_, rfl, ?_⟩, fun c => absurd (nI_le (by omega) (by omega)) c⟩⟩
    have l3 : xl (2 + 1) = 600 := cl_1_0 xk_1
    by_cases q : k < g.1.1.1
    · rw [if_pos q]
      have o1 := xOut_rsize D 2 k
      refine h (rsize D 2 k) (o1.mono (by omega) (by omega)) (cI_tape hI o1 ⟨rS_rsize (by show k ≤ xl (2 + 1); omega) hI.1.2.1.2.2, fun j hj => ?_⟩ (by show k ≤ 600; omega) (fun j hj => hI.2.1.2.1 j (Nat.lt_trans hj q)))
      show (xu D.1 2 1 (nI k)) 3 j = _
      rw [xu_ne _ _ _ (by omega)]
      exact hI.1.2.2.1 j (Nat.lt_trans hj q)
    · rw [if_neg q]
      have ek : k = g.1.1.1 := by omega
      subst ek
      exact h D xOut.rfl' hI
end TAPE
