/-! What would be; what is best. -/
/-- what an Evenings at v keeps of itself -/
def eI (D : xD) (v : Nat) : Prop := rS D (v + 7) 364 ∧ rS D (v + 48) 42
theorem eI.out {D D' : xD} {lo hi v : Nat} (h : eI D v) (o : xOut lo hi D D') (q : hi ≤ v + 7 ∨ (v + 7 < lo ∧ hi ≤ v + 48) ∨ v + 48 < lo) : eI D' v := ⟨h.1.out o (by omega), h.2.out o (by omega)⟩
/-- the best value of n from lo on: the first one of which least comes -/
def eBst (f : Nat → Nat) (lo : Nat) : Nat → Option (Nat × Nat)
  | 0 => none
  | n + 1 => match eBst f lo n with
    | none => some (lo + n, f (lo + n))
    | some bm => if f (lo + n) < bm.2 then some (lo + n, f (lo + n)) else some bm
theorem eBst_ex (f : Nat → Nat) (lo n : Nat) : ∃ b, b < n + 1 ∧ eBst f lo (n + 1) = some (lo + b, f (lo + b)) := by
  induction n with
  | zero => exact ⟨0, by omega, rfl⟩
  | succ n ih =>
    obtain ⟨b, h1, h2⟩ := ih
    rw [eBst, h2]
    simp only []
    by_cases q : f (lo + (n + 1)) < f (lo + b)
    · rw [if_pos q]; exact ⟨n + 1, by omega, rfl⟩
    · rw [if_neg q]; exact ⟨b, by omega, rfl⟩
theorem eBst_some {f : Nat → Nat} {lo n : Nat} {bm : Nat × Nat} (h : eBst f lo n = some bm) : eBst f lo (n + 1) = if f (lo + n) < bm.2 then some (lo + n, f (lo + n)) else some bm := by
  rw [eBst, h]
noncomputable def eBy (τ : Nat → Int32) (seed : Int32) (k p w s : Nat) : Nat := eLst (tChange τ p w s) seed (tSeatOf p w s) k
noncomputable def eBest (τ : Nat → Int32) (seed : Int32) (k p w : Nat) : Nat := match eBst (eBy τ seed k p w) (leastV w) (mostV τ w + 1 - leastV w) with
  | none => 0
  | some bm => bm.1
/-- n values are tried: b the best one, c how often then -/
def eSt (τ : Nat → Int32) (seed : Int32) (k p w v n : Nat) (D' : xD) (b c : Int32) : Prop :=
  n = 0 ∧ b = -1 ∨ ∃ b' c', eBst (eBy τ seed k p w) (leastV w) n = some (b', c') ∧ 0 < n ∧ b' < 100 ∧ b = nI b' ∧ c = nI c' ∧ c' ≤ 20 ∧ eR D' v (tChange τ p w (leastV w + n - 1)) seed k
section BETTER
variable {d : Nat} {D : xD} {v t : Nat} {τ : Nat → Int32}
theorem c_Evenings_leastValue {P : Int32 → xD → Prop} {w : Nat} (hw : w ≤ 5) (h : P (nI (leastV w)) D) : xCi (d + 1) m_Evenings_leastValue [.int (nI w)] D P := by
  refine xCi_of y_Evenings_leastValue (Nat.le_of_ble_eq_true rfl) (s_Evenings_leastValue_0 ?_)
  unfold leastV at h
  refine ⟨fun c => ⟨_, rfl, ?_⟩, fun c => ⟨fun c1 => ⟨_, rfl, ?_⟩, fun c1 => ⟨_, rfl, ?_⟩⟩⟩
  · rw [if_pos (by have := (nI_eq (b := 0) (by omega) (by omega)).mp c; omega)] at h; exact h
  · rw [if_neg (fun z => by
      rcases (show w = 0 ∨ w = 1 by omega) with q | q
      · exact c (by rw [q]; rfl)
      · exact c1 (by rw [q]; rfl))] at h; exact h
  · rw [if_pos (by have := (nI_eq (b := 1) (by omega) (by omega)).mp c1; omega)] at h; exact h
theorem c_Evenings_greatestValue {P : Int32 → xD → Prop} {w : Nat} (hR : tR D t τ) (hT : tOK τ) (h0 : 0 < tN τ 5) (hw : w ≤ 5) (h : P (nI (mostV τ w)) D) : xCi (d + 3) m_Evenings_greatestValue [.ref t, .int (nI w)] D P := by
  refine xCi_of y_Evenings_greatestValue (Nat.le_of_ble_eq_true rfl) (s_Evenings_greatestValue_0 hR.1 ?_)
  have inj : ∀ u : Nat, u < 10 → nI w = nI u → w = u := fun u hu q => (nI_eq (by omega) (by omega)).mp q
  unfold mostV at h
  refine ⟨fun c => ⟨_, rfl, ?_⟩, fun c => ⟨_, rfl, ?_⟩, fun c => ?_, fun c => ⟨_, rfl, ?_⟩⟩
  · have q := inj 3 (by omega) c
    rw [if_neg (by omega), if_pos q] at h; exact h
  · have q := inj 4 (by omega) c
    rw [if_neg (by omega), if_neg (by omega), if_pos q] at h; exact h
  · have q := inj 5 (by omega) c
    rw [if_neg (by omega), if_neg (by omega), if_neg (by omega)] at h
    refine c_Table_people hR hT ⟨_, rfl, ?_⟩
    rw [show (1 : Int32) = nI 1 from rfl, pk_sub (by omega)]; exact h
  · rw [nI_toInt (by omega)] at c
    rw [if_pos (by omega)] at h; exact h
theorem c_Evenings_wouldBe {P : Int32 → xD → Prop} {seed x : Int32} {k p w s : Nat} (k0 : xk v = 10) (hI : eI D v) (hR : tR D t τ) (hT : tOK τ) (hL : tLaw τ) (hF : tFit τ) (hp : p < tN τ 5) (hw : w ≤ 5) (h1 : leastV w ≤ s) (h2 : s ≤ mostV τ w) (hk : k ≤ 20) (ht : t + 5 ≤ v ∨ v + 50 ≤ t)
    (h : ∀ D', xOut v (v + 50) D D' → eI D' v → P (if x = 0 then nI (eBy τ seed k p w s) else nI (eFst (tChange τ p w s) seed (some (tSeatOf p w s)) k)) D') :
    xCi (d + 8) m_Evenings_wouldBe [.ref v, .ref t, .int seed, .int (nI k), .int (nI p), .int (nI w), .int (nI s), .int x] D P := by
  have b5 := hT.2.2.2.2.2.2.1
  obtain ⟨cT, cL, cF, c5, c0, c1, c2⟩ := tChange_ok hT hL hF hp hw h1 h2
  have hs5 : w = 5 → s < tN τ 5 := fun q => by
    unfold mostV at h2
    rw [if_neg (by omega), if_neg (by omega), if_neg (by omega)] at h2
    omega
  have hseat : tSeatOf p w s < tN τ 5 := by
    unfold tSeatOf
    split
    · exact hs5 (by assumption)
    · exact hp
  refine xCi_of y_Evenings_wouldBe (Nat.le_of_ble_eq_true rfl) (s_Evenings_wouldBe_0 k0 hR.1 ?_)
  refine c_Evenings_change k0 hR hT hp hw hs5 hI.2 (by omega) (fun D1 o1 hR1 => ?_)
  refine c_Evenings_playRounds k0 hR1 cT cL cF (hI.1.out o1 (by omega)) (Or.inr (Or.inl rfl)) hk (fun D2 o2 hE2 => ?_)
  have hR2 := hR1.out o2 (by omega)
  have fin := h D2 ((o1.mono (by omega) (by omega)).trans (o2.mono (by omega) (by omega))) ⟨hE2.1, hR2.2.2.1⟩
  refine ⟨fun z => ?_, fun z => ?_⟩
  · rw [if_pos z] at fin
    exact c_Evenings_timesLast k0 hR2 cT (by omega) hE2 hk (by omega) ⟨_, rfl, fin⟩
  · rw [if_neg z] at fin
    exact c_Evenings_timesFirst (o := some (tSeatOf p w s)) k0 hE2 (by omega) (fun q hq => by cases hq; omega) ⟨_, rfl, fin⟩
theorem c_Evenings_better {P : Int32 → xD → Prop} {seed : Int32} {k p w : Nat} (k0 : xk v = 10) (hI : eI D v) (hR : tR D t τ) (hT : tOK τ) (hL : tLaw τ) (hF : tFit τ) (hp : p < tN τ 5) (hw : w ≤ 5) (hk : k ≤ 20) (ht : t + 5 ≤ v ∨ v + 50 ≤ t)
    (h : ∀ D', xOut v (v + 50) D D' → eI D' v → P (nI (eBest τ seed k p w)) D') :
    xCi (d + 8) m_Evenings_better [.ref v, .ref t, .int seed, .int (nI k), .int (nI p), .int (nI w)] D P := by
  have b5 := hT.2.2.2.2.2.2.1
  have hml : leastV w ≤ mostV τ w ∧ mostV τ w ≤ 20 := by
    have := hF.1
    unfold leastV mostV
    refine ⟨?_, ?_⟩
    · split <;> split <;> (try split) <;> (try split) <;> omega
    · split <;> (try split) <;> (try split) <;> omega
  refine xCi_of y_Evenings_better (Nat.le_of_ble_eq_true rfl) (s_Evenings_better_0 k0 hR.1 ?_)
  refine c_Evenings_greatestValue hR hT (by omega) hw (c_Evenings_leastValue hw ?_)
  -- behind the ROUNDS of a value
  have key : ∀ m n, n + m = mostV τ w + 1 - leastV w → ∀ D' b c, xOut v (v + 50) D D' → eI D' v → eSt τ seed k p w v n D' b c →
      xPf (d + 8) m_Evenings_better 21 [(0, .ref v), (1, .ref t), (2, .int seed), (3, .int (nI k)), (4, .int (nI p)), (5, .int (nI w)), (6, .int b), (7, .int c), (8, .int (nI (mostV τ w))), (9, .int (nI (leastV w + n)))] [] D' (fun r D' => ∃ x, r = some (.int x) ∧ P x D') := by
    intro m
    induction m with
    | zero =>
      intro n hn D' b c o hI' hst
      refine s_Evenings_better_21 k0 hR.1 ⟨fun _ => ⟨_, rfl, ?_⟩, fun q => absurd (nI_lt (show mostV τ w < leastV w + n by omega) (by omega)) q⟩
      rcases hst with ⟨z, -⟩ | ⟨b', c', e1, -, -, e3, -⟩
      · omega
      · have := h D' o hI'
        unfold eBest at this
        rw [show mostV τ w + 1 - leastV w = n by omega, e1] at this
        rw [e3]; exact this
    | succ m ih =>
      intro n hn D' b c o hI' hst
      have hR' := hR.out o (show t + 5 ≤ v ∨ v + 50 ≤ t + 1 by omega)
      obtain ⟨cT, cL, cF, c5, -⟩ := tChange_ok (v := leastV w + n) hT hL hF hp hw (by omega) (by omega)
      have hs5 : w = 5 → leastV w + n < tN τ 5 := fun q => by
        have : mostV τ w = tN τ 5 - 1 := by unfold mostV; rw [if_neg (by omega), if_neg (by omega), if_neg (by omega)]
        omega
      have hseat : tSeatOf p w (leastV w + n) < tN τ 5 := by
        unfold tSeatOf
        split
        · exact hs5 (by assumption)
        · exact hp
      refine s_Evenings_better_21 k0 hR.1 ⟨fun q => absurd q (nI_nlt (by omega) (by omega)), fun _ => ?_⟩
      refine c_Evenings_change k0 hR' hT hp hw hs5 hI'.2 (by omega) (fun D1 o1 hR1 => ?_)
      have o11 := o.trans (o1.mono (show v ≤ v + 46 by omega) (Nat.le_refl _))
      -- the ROUNDS are there
      have at74 : ∀ D2, xOut v (v + 50) D D2 → tR D2 (v + 45) (tChange τ p w (leastV w + n)) → eR D2 v (tChange τ p w (leastV w + n)) seed k →
          xPf (d + 8) m_Evenings_better 74 [(0, .ref v), (1, .ref t), (2, .int seed), (3, .int (nI k)), (4, .int (nI p)), (5, .int (nI w)), (6, .int b), (7, .int c), (8, .int (nI (mostV τ w))), (9, .int (nI (leastV w + n))), (10, .int (nI (tSeatOf p w (leastV w + n))))] [] D2 (fun r D' => ∃ x, r = some (.int x) ∧ P x D') := by
        intro D2 o2 hR2 hE2
        refine s_Evenings_better_74 k0 hR.1 (c_Evenings_timesLast k0 hR2 cT (by omega) hE2 hk (by omega) ?_)
        have hle : eBy τ seed k p w (leastV w + n) ≤ 20 := by
          have := eCnt_le (eLastOf (tChange τ p w (leastV w + n)) seed) (some (tSeatOf p w (leastV w + n))) k
          unfold eBy eLst
          omega
        show (_ → _) ∧ (_ → _)
        have eby : eLst (tChange τ p w (leastV w + n)) seed (tSeatOf p w (leastV w + n)) k = eBy τ seed k p w (leastV w + n) := rfl
        rw [eby, nI_1 (leastV w + n)]
        have I2 : eI D2 v := ⟨hE2.1, hR2.2.2.1⟩
        have go : ∀ b' c', eBst (eBy τ seed k p w) (leastV w) (n + 1) = some (b', c') → b' < 100 → c' ≤ 20 → xPf (d + 8) m_Evenings_better 21 [(0, .ref v), (1, .ref t), (2, .int seed), (3, .int (nI k)), (4, .int (nI p)), (5, .int (nI w)), (6, .int (nI b')), (7, .int (nI c')), (8, .int (nI (mostV τ w))), (9, .int (nI (leastV w + n + 1)))] [] D2 (fun r D' => ∃ x, r = some (.int x) ∧ P x D') :=
          fun b' c' e hb hc => ih (n + 1) (by omega) D2 (nI b') (nI c') o2 I2 (Or.inr ⟨b', c', e, by omega, hb, rfl, rfl, hc, by rw [show leastV w + (n + 1) - 1 = leastV w + n by omega]; exact hE2⟩)
        rcases hst with ⟨z, zb⟩ | ⟨b', c', e1, e0, eb, e3, e4, ec, e5⟩
        · refine ⟨fun _ => ?_, fun q => absurd zb q⟩
          subst z
          exact go _ _ rfl (by omega) hle
        · have es := eBst_some e1
          refine ⟨fun q => absurd q (fun q => nI_pos (n := b') (by omega) (by rw [← e3, q]; decide)), fun _ => ⟨fun q => ?_, fun q => ?_⟩⟩
          · rw [e4] at q
            have := (nI_leI (by omega) (by omega)).mp q
            rw [if_neg (by show ¬ _ < c'; omega)] at es
            rw [e3, e4]
            exact go _ _ es eb ec
          · rw [e4] at q
            have : eBy τ seed k p w (leastV w + n) < c' := Nat.lt_of_not_le (fun z => q (nI_le z (by omega)))
            rw [if_pos (show _ < c' from this)] at es
            exact go _ _ es (by omega) hle
      have play : ∀ (Q : xD → Prop), (∀ D2, xOut v (v + 50) D D2 → tR D2 (v + 45) (tChange τ p w (leastV w + n)) → eR D2 v (tChange τ p w (leastV w + n)) seed k → Q D2) → xCv (d + 7) m_Evenings_playRounds [.ref v, .ref (v + 45), .int seed, .int (nI k)] D1 Q := fun Q hQ =>
        c_Evenings_playRounds k0 hR1 cT cL cF (hI'.1.out o1 (by omega)) (Or.inr (Or.inl rfl)) hk (fun D2 o2 hE2 => hQ D2 (o11.trans (o2.mono (by omega) (by omega))) (hR1.out o2 (by omega)) hE2)
      refine ⟨fun _ => play _ at74, fun q => ⟨fun _ => play _ at74, fun q0 => ⟨fun _ => play _ at74, fun q4 => ⟨fun q5 => ?_, fun _ => play _ at74⟩⟩⟩⟩
      rcases hst with ⟨z, zb⟩ | ⟨b', c', e1, e0, eb, e3, e4, ec, e5⟩
      · exact absurd zb q
      · refine at74 D1 o11 hR1 ?_
        have w13 : 1 ≤ w ∧ w ≤ 3 := by
          have a0 : w ≠ 0 := fun z => q0 (by rw [z]; rfl)
          have a4 : w ≠ 4 := fun z => q4 (by rw [z]; rfl)
          have a5 : w ≠ 5 := fun z => q5 (by rw [z]; rfl)
          omega
        exact (e5.congr (tChange_same w13)).out o1 (by omega)
  exact key (mostV τ w + 1 - leastV w) 0 (by omega) D (-1) 0 xOut.rfl' hI (Or.inl ⟨rfl, rfl⟩)
end BETTER
