/-! A table as it would be. -/
/-- who sits where, when p sits at s and all others in their order -/
def whoAt (p s i : Nat) : Nat := if i = s then p else if (if i < s then i else i - 1) < p then (if i < s then i else i - 1) else (if i < s then i else i - 1) + 1
theorem whoAt_lt {N p s i : Nat} (hp : p < N) (hs : s < N) (hi : i < N) : whoAt p s i < N := by
  unfold whoAt
  split
  · exact hp
  · split <;> split at * <;> omega
def tChange (τ : Nat → Int32) (p w v : Nat) : Nat → Int32 :=
  if w = 5 then tSeats τ (whoAt p v) (tN τ 5) else if τ (6 + 7 * p + 5) = -1 then tSet (tSet τ (6 + 7 * p + w) (nI v)) (6 + 7 * p + 5) 0 else tSet τ (6 + 7 * p + w) (nI v)
/-- where he sits then -/
def tSeatOf (p w v : Nat) : Nat := if w = 5 then v else p
def leastV (w : Nat) : Nat := if w < 2 then 1 else 0
def mostV (τ : Nat → Int32) (w : Nat) : Nat := if w < 3 then 9 else if w = 3 then 20 else if w = 4 then 3 else tN τ 5 - 1
/-- what tChange keeps and makes -/
theorem tChange_ok {τ : Nat → Int32} {p w v : Nat} (hT : tOK τ) (hL : tLaw τ) (hF : tFit τ) (hp : p < tN τ 5) (hw : w ≤ 5) (h1 : leastV w ≤ v) (h2 : v ≤ mostV τ w) :
    tOK (tChange τ p w v) ∧ tLaw (tChange τ p w v) ∧ tFit (tChange τ p w v) ∧ tN (tChange τ p w v) 5 = tN τ 5 ∧ tN (tChange τ p w v) 0 = tN τ 0 ∧ tN (tChange τ p w v) 1 = tN τ 1 ∧ tN (tChange τ p w v) 2 = tN τ 2 := by
  have b5 := hT.2.2.2.2.2.2.1
  have bK := hT.2.1
  unfold leastV at h1
  unfold mostV at h2
  by_cases q5 : w = 5
  · rw [if_neg (by omega), if_neg (by omega), if_neg (by omega)] at h2
    have e : tChange τ p w v = tSeats τ (whoAt p v) (tN τ 5) := if_pos q5
    rw [e]
    have hall : ∀ i, i < tN τ 5 → whoAt p v i < tN τ 5 := fun i hi => whoAt_lt hp (by omega) hi
    have e5 : tN (tSeats τ (whoAt p v) (tN τ 5)) 5 = tN τ 5 := tSeats_5 _ _ (by omega)
    refine ⟨tOK_seats hT b5 hall, tLaw_seats hL b5 hall, ?_, e5, tSeats_tN _ _ _ (by omega), tSeats_tN _ _ _ (by omega), tSeats_tN _ _ _ (by omega)⟩
    unfold tFit
    rw [e5, tSeats_tN _ _ _ (by omega), tSeats_tN _ _ _ (by omega), tSeats_tN _ _ _ (by omega)]
    exact hF
  · have hc : (nI v).toNatClampNeg = v := by
      refine nI_clamp ?_
      split at h2
      · omega
      · split at h2
        · omega
        · split at h2 <;> omega
    have vb : v ≤ 20 ∧ (w = 0 ∨ w = 1 → 1 ≤ v ∧ v ≤ 9) ∧ (w = 2 → v ≤ 9) ∧ (w = 4 → v ≤ 3) := by
      split at h1 <;> split at h2 <;> (try split at h2) <;> (try split at h2) <;> refine ⟨?_, ?_, ?_, ?_⟩ <;> omega
    obtain ⟨v1, v2, v3, v4⟩ := vb
    have hT1 : tOK (tSet τ (6 + 7 * p + w) (nI v)) := tOK_set hT (by omega) v1 v2 v3 v4 (by omega) (by omega)
    have n1 : ∀ j, j < 6 → tN (tSet τ (6 + 7 * p + w) (nI v)) j = tN τ j := fun j hj => tN_set _ _ hj
    have k1 : tSet τ (6 + 7 * p + w) (nI v) (6 + 7 * p + 5) = τ (6 + 7 * p + 5) := by rw [tSet_p _ _ (by omega) (by omega), if_neg (by omega)]
    by_cases qn : τ (6 + 7 * p + 5) = -1
    · have e : tChange τ p w v = tSet (tSet τ (6 + 7 * p + w) (nI v)) (6 + 7 * p + 5) 0 := by unfold tChange; rw [if_neg q5, if_pos qn]
      rw [e]
      have hT2 : tOK (tSet (tSet τ (6 + 7 * p + w) (nI v)) (6 + 7 * p + 5) 0) := tOK_set (v := 0) hT1 (by omega) (by omega) (by omega) (by omega) (by omega) (by rw [n1 0 (by omega)]; omega) (by omega)
      have n2 : ∀ j, j < 6 → tN (tSet (tSet τ (6 + 7 * p + w) (nI v)) (6 + 7 * p + 5) 0) j = tN τ j := fun j hj => (tN_set _ _ hj).trans (n1 j hj)
      refine ⟨hT2, ?_, ?_, n2 5 (by omega), n2 0 (by omega), n2 1 (by omega), n2 2 (by omega)⟩
      · intro q hq hlaw
        rw [n2 5 (by omega)] at hq
        rw [n2 0 (by omega), tSet_p _ _ (by omega) (by omega)]
        by_cases e1 : q = p
        · rw [if_pos ⟨e1, rfl⟩]; exact ⟨0, by omega, rfl⟩
        · rw [if_neg (fun z => e1 z.1), tSet_p _ _ (by omega) (by omega), if_neg (by omega)]
          rw [tP_set _ _ (by omega) (by omega), if_neg (by omega), tP_set _ _ (by omega) (by omega), if_neg (fun z => e1 z.1)] at hlaw
          exact hL q hq hlaw
      · unfold tFit
        rw [n2 5 (by omega), n2 2 (by omega), n2 0 (by omega), n2 1 (by omega)]; exact hF
    · have e : tChange τ p w v = tSet τ (6 + 7 * p + w) (nI v) := by unfold tChange; rw [if_neg q5, if_neg qn]
      rw [e]
      have hk : ∃ k, k < tN τ 0 ∧ τ (6 + 7 * p + 5) = nI k := by
        rcases (hT.2.2.2.2.2.2.2 p hp).2.2.2.2.2.2.2 with z | z
        · exact absurd z qn
        · exact z
      refine ⟨hT1, tLaw_set hL (by omega) (fun _ _ => hk) (by omega), ?_, n1 5 (by omega), n1 0 (by omega), n1 1 (by omega), n1 2 (by omega)⟩
      unfold tFit
      rw [n1 5 (by omega), n1 2 (by omega), n1 0 (by omega), n1 1 (by omega)]; exact hF
/-- EYES, QUICK, FAR change nobody's cards -/
theorem tChange_same {τ : Nat → Int32} {p w v u : Nat} (hw : 1 ≤ w ∧ w ≤ 3) : tSame (tChange τ p w v) (tChange τ p w u) := by
  have key : ∀ z, ∀ j, j ≠ w → (∀ q, tChange τ p w z (6 + 7 * q + j) = tChange τ p w 0 (6 + 7 * q + j) ∨ 6 < j) := by
    intro z j hj q
    by_cases h6 : 6 < j
    · exact Or.inr h6
    refine Or.inl ?_
    have n5 : w ≠ 5 := by omega
    have nq : ¬ (q = p ∧ j = w) := fun y => hj y.2
    unfold tChange
    rw [if_neg n5, if_neg n5]
    by_cases qn : τ (6 + 7 * p + 5) = -1
    · rw [if_pos qn, if_pos qn, tSet_p _ _ (by omega) (by omega), tSet_p _ _ (by omega) (by omega), tSet_p _ _ (by omega) (by omega), tSet_p _ _ (by omega) (by omega), if_neg nq, if_neg nq]
    · rw [if_neg qn, if_neg qn, tSet_p _ _ (by omega) (by omega), tSet_p _ _ (by omega) (by omega), if_neg nq, if_neg nq]
  have lo : ∀ z j, j < 6 → tN (tChange τ p w z) j = tN τ j := by
    intro z j hj
    unfold tChange
    rw [if_neg (show w ≠ 5 by omega)]
    split
    · rw [tN_set _ _ hj, tN_set _ _ hj]
    · rw [tN_set _ _ hj]
  have at' : ∀ z q j, j ≠ w → j < 7 → tChange τ p w z (6 + 7 * q + j) = tChange τ p w 0 (6 + 7 * q + j) := fun z q j h1 h2 => (key z j h1 q).resolve_right (by omega)
  refine ⟨by rw [lo _ _ (by omega), lo _ _ (by omega)], by rw [lo _ _ (by omega), lo _ _ (by omega)], by rw [lo _ _ (by omega), lo _ _ (by omega)], by rw [lo _ _ (by omega), lo _ _ (by omega)], fun q _ => ⟨?_, ?_, fun _ => ?_⟩⟩
  · unfold tP tN; rw [at' v q 0 (by omega) (by omega), at' u q 0 (by omega) (by omega)]
  · unfold tP tN; rw [at' v q 4 (by omega) (by omega), at' u q 4 (by omega) (by omega)]
  · rw [at' v q 5 (by omega) (by omega), at' u q 5 (by omega) (by omega)]
section CHANGE
variable {d : Nat} {D : xD} {v t : Nat} {τ : Nat → Int32}
theorem c_Evenings_reseat {P : xD → Prop} {p s : Nat} (k0 : xk v = 10) (hR : tR D t τ) (hT : tOK τ) (hp : p < tN τ 5) (hs : s < tN τ 5) (r3 : rS D (v + 48) 42) (ht : t + 5 ≤ v + 45 ∨ v + 50 ≤ t)
    (h : ∀ D', xOut (v + 46) (v + 50) D D' → tR D' (v + 45) (tSeats τ (whoAt p s) (tN τ 5)) → P D') : xCv (d + 4) m_Evenings_reseat [.ref v, .ref t, .int (nI p), .int (nI s)] D P := by
  have b5 := hT.2.2.2.2.2.2.1
  refine xCv_of y_Evenings_reseat (Nat.le_of_ble_eq_true rfl) (s_Evenings_reseat_0 k0 hR.1 ?_)
  refine c_Table_copyEmpty (who := whoAt p s) (ck_10_7 k0) r3 hR (by omega) (fun D1 o1 hR1 => ?_)
  have key : ∀ m i, i + m = tN τ 5 → ∀ D', xOut (v + 46) (v + 50) D D' → tR D' (v + 45) (tSeats τ (whoAt p s) i) →
      xPf (d + 4) m_Evenings_reseat 14 [(0, .ref v), (1, .ref t), (2, .int (nI p)), (3, .int (nI s)), (4, .int (nI (if (if i ≤ s then i else i - 1) ≤ p then (if i ≤ s then i else i - 1) else (if i ≤ s then i else i - 1) + 1))), (5, .int (nI i))] [] D' (fun r D' => r = none ∧ P D') := by
    intro m
    induction m with
    | zero =>
      intro i hi D' o hR'
      have ei : i = tN τ 5 := by omega
      refine s_Evenings_reseat_14 k0 hR.1 (c_Table_people (hR.out o (by omega)) hT ⟨fun _ => ⟨rfl, h D' o (by rw [← ei]; exact hR')⟩, fun q => absurd (nI_le (by omega) (by omega)) q⟩)
    | succ m ih =>
      intro i hi D' o hR'
      have nx := ih (i + 1) (by omega)
      have hRt := hR.out o (show t + 5 ≤ v + 46 ∨ v + 50 ≤ t + 1 by omega)
      have hall : ∀ q, q < i → whoAt p s q < tN τ 5 := fun q hq => whoAt_lt hp hs (by omega)
      have hwi := whoAt_lt hp hs (show i < tN τ 5 by omega)
      have seat := fun (Q : xD → Prop) (hQ : ∀ D2, xOut (v + 46) (v + 50) D D2 → tR D2 (v + 45) (tSeats τ (whoAt p s) (i + 1)) → Q D2) => c_Table_seat (d := d) (P := Q) hR' hRt hT (show i < 6 by omega) hwi hall (show v + 45 + 5 ≤ t ∨ t + 5 ≤ v + 45 by omega) (fun D2 o2 hR2 => hQ D2 (o.trans o2) hR2)
      refine s_Evenings_reseat_14 k0 hR.1 (c_Table_people hRt hT ⟨fun q => absurd q (nI_ge (by omega) (by omega)), fun _ => ⟨fun q => ?_, fun q => ?_⟩⟩)
      · have his : i ≠ s := fun z => q (by rw [z])
        have hj : (if i ≤ s then i else i - 1) = (if i < s then i else i - 1) := by
          by_cases z : i < s
          · rw [if_pos z, if_pos (by omega)]
          · rw [if_neg z, if_neg (by omega)]
        have hw : whoAt p s i = if (if i < s then i else i - 1) < p then (if i < s then i else i - 1) else (if i < s then i else i - 1) + 1 := by unfold whoAt; rw [if_neg his]
        have hj1 : (if i + 1 ≤ s then i + 1 else i + 1 - 1) = (if i < s then i else i - 1) + 1 := by
          by_cases z : i < s
          · rw [if_pos z, if_pos (by omega)]
          · rw [if_neg z, if_neg (by omega)]; omega
        rw [hj1] at nx
        rw [hj]
        have hjb : (if i < s then i else i - 1) < 6 := by split <;> omega
        generalize (if i < s then i else i - 1) = j at hw nx hjb ⊢
        refine ⟨fun c => ?_, fun c => ?_⟩
        · have ho : (if j ≤ p then j else j + 1) = whoAt p s i := by
            rw [hw]
            by_cases z : j < p
            · rw [if_pos z, if_pos (by omega)]
            · rw [if_neg z]
              by_cases y : j ≤ p
              · exfalso
                rw [if_pos y] at c
                exact c (by rw [show j = p by omega])
              · rw [if_neg y]
          rw [ho, Int32.add_zero]
          refine seat _ (fun D2 o2 hR2 => ?_)
          rw [nI_1 (whoAt p s i), nI_1 i]
          have en : (if j + 1 ≤ p then j + 1 else j + 1 + 1) = whoAt p s i + 1 := by
            rw [← ho]
            by_cases y : j ≤ p
            · rw [if_pos y]
              by_cases z : j + 1 ≤ p
              · rw [if_pos z]
              · exfalso
                rw [if_pos y] at c
                exact c (by rw [show j = p by omega])
            · rw [if_neg y, if_neg (by omega)]
          rw [en] at nx
          exact nx D2 o2 hR2
        · have hx : (if j ≤ p then j else j + 1) = p := by
            refine (nI_eq ?_ (by omega)).mp c
            split <;> omega
          have ejp : j = p := by
            by_cases y : j ≤ p
            · rw [if_pos y] at hx; exact hx
            · rw [if_neg y] at hx; omega
          have ho : whoAt p s i = p + 1 := by rw [hw, if_neg (by omega), ejp]
          rw [hx, nI_1 p, ← ho]
          refine seat _ (fun D2 o2 hR2 => ?_)
          rw [nI_1 (whoAt p s i), nI_1 i, ho]
          have en : (if j + 1 ≤ p then j + 1 else j + 1 + 1) = p + 1 + 1 := by rw [if_neg (by omega), ejp]
          rw [en] at nx
          exact nx D2 o2 hR2
      · have his : i = s := (nI_eq (by omega) (by omega)).mp q
        have hw : whoAt p s i = p := if_pos his
        rw [← hw]
        refine seat _ (fun D2 o2 hR2 => ?_)
        rw [nI_1 i, hw]
        rw [show (if i + 1 ≤ s then i + 1 else i + 1 - 1) = i by rw [if_neg (by omega)]; omega] at nx
        rw [show (if i ≤ s then i else i - 1) = i by rw [if_pos (by omega)]]
        exact nx D2 o2 hR2
  exact key (tN τ 5) 0 (by omega) D1 (o1.mono (by omega) (by omega)) hR1
theorem c_Evenings_change {P : Int32 → xD → Prop} {p w s : Nat} (k0 : xk v = 10) (hR : tR D t τ) (hT : tOK τ) (hp : p < tN τ 5) (hw : w ≤ 5) (hs : w = 5 → s < tN τ 5) (r3 : rS D (v + 48) 42) (ht : t + 5 ≤ v + 45 ∨ v + 50 ≤ t)
    (h : ∀ D', xOut (v + 46) (v + 50) D D' → tR D' (v + 45) (tChange τ p w s) → P (nI (tSeatOf p w s)) D') : xCi (d + 5) m_Evenings_change [.ref v, .ref t, .int (nI p), .int (nI w), .int (nI s)] D P := by
  have b5 := hT.2.2.2.2.2.2.1
  refine xCi_of y_Evenings_change (Nat.le_of_ble_eq_true rfl) (s_Evenings_change_0 k0 hR.1 ⟨fun c => ?_, fun c => ?_⟩)
  · have q5 : w ≠ 5 := fun z => c (by rw [z]; rfl)
    have es : tSeatOf p w s = p := if_neg q5
    rw [es] at h
    refine c_Table_copy (ck_10_7 k0) hR b5 (by omega) (fun D1 o1 hR1 => ?_)
    refine c_Table_setOf hR1 (show p < 6 by omega) (show w < 7 by omega) (fun D2 o2 hR2 => ?_)
    have o12 : xOut (v + 46) (v + 50) D D2 := o1.trans (o2.mono (by omega) (by omega))
    have n5 : tN (tSet τ (6 + 7 * p + w) (nI s)) 5 = tN τ 5 := tN_set _ _ (by omega)
    refine c_Table_of (w := 5) hR2 (by rw [n5]; exact b5) (by rw [n5]; exact hp) (by omega) ?_
    rw [tSet_p _ _ (by omega) (by omega), if_neg (by omega)]
    refine ⟨fun c1 => ⟨_, rfl, h D2 o12 ?_⟩, fun c1 => ?_⟩
    · have e : tChange τ p w s = tSet τ (6 + 7 * p + w) (nI s) := by unfold tChange; rw [if_neg q5, if_neg c1]
      rw [e]; exact hR2
    · refine c_Table_setOf (w := 5) hR2 (show p < 6 by omega) (by omega) (fun D3 o3 hR3 => ⟨_, rfl, h D3 (o12.trans (o3.mono (by omega) (by omega))) ?_⟩)
      have e : tChange τ p w s = tSet (tSet τ (6 + 7 * p + w) (nI s)) (6 + 7 * p + 5) 0 := by unfold tChange; rw [if_neg q5, if_pos c1]
      rw [e]; exact hR3
  · have q5 : w = 5 := (nI_eq (by omega) (by omega)).mp c
    refine c_Evenings_reseat k0 hR hT hp (hs q5) r3 ht (fun D1 o1 hR1 => ⟨_, rfl, ?_⟩)
    have e : tChange τ p w s = tSeats τ (whoAt p s) (tN τ 5) := if_pos q5
    have es : tSeatOf p w s = s := if_pos q5
    rw [es] at h
    exact h D1 o1 (by rw [e]; exact hR1)
end CHANGE
