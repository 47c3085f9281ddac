/-! Tables that are changed. -/
def tSet (τ : Nat → Int32) (j : Nat) (v : Int32) : Nat → Int32 := fun i => if i = j then v else τ i
theorem tSet_at (τ : Nat → Int32) {i j : Nat} (v : Int32) : tSet τ j v i = if i = j then v else τ i := rfl
theorem tSet_p (τ : Nat → Int32) {p w q u : Nat} (v : Int32) (hw : w < 7) (hu : u < 7) : tSet τ (6 + 7 * p + w) v (6 + 7 * q + u) = if q = p ∧ u = w then v else τ (6 + 7 * q + u) := by
  unfold tSet
  by_cases e : q = p ∧ u = w
  · rw [if_pos e, if_pos (by rw [e.1, e.2])]
  · rw [if_neg e, if_neg (by omega)]
theorem tP_set (τ : Nat → Int32) {p w q u : Nat} (v : Int32) (hw : w < 7) (hu : u < 7) : tP (tSet τ (6 + 7 * p + w) v) q u = if q = p ∧ u = w then v.toNatClampNeg else tP τ q u := by
  unfold tP tN
  rw [tSet_p τ v hw hu]
  split <;> rfl
theorem tN_set (τ : Nat → Int32) {p w j : Nat} (v : Int32) (hj : j < 6) : tN (tSet τ (6 + 7 * p + w) v) j = tN τ j := by
  unfold tN tSet
  rw [if_neg (by omega)]
theorem tOK_set {τ : Nat → Int32} {p w v : Nat} (hT : tOK τ) (hw : w < 7) (hv : v ≤ 20) (h0 : w = 0 ∨ w = 1 → 1 ≤ v ∧ v ≤ 9) (h2 : w = 2 → v ≤ 9) (h4 : w = 4 → v ≤ 3) (h5 : w = 5 → v < tN τ 0) (h6 : w = 6 → v ≤ 1) : tOK (tSet τ (6 + 7 * p + w) (nI v)) := by
  have hc : (nI v).toNatClampNeg = v := nI_clamp (by omega)
  obtain ⟨a0, a1, a2, a3, a4, a5, a6, a7⟩ := hT
  refine ⟨fun j hj => ?_, by rw [tN_set _ _ (by omega)]; exact a1, by rw [tN_set _ _ (by omega)]; exact a2, by rw [tN_set _ _ (by omega)]; exact a3, by rw [tN_set _ _ (by omega)]; exact a4, by rw [tN_set _ _ (by omega)]; exact a5, by rw [tN_set _ _ (by omega)]; exact a6, fun q hq => ?_⟩
  · rw [tN_set _ _ hj, tSet_at, if_neg (by omega)]; exact a0 j hj
  · rw [tN_set _ _ (by omega)] at hq
    obtain ⟨b0, b1, b2, b3, b4, b5, b6, b7⟩ := a7 q hq
    refine ⟨fun u hu hu5 => ?_, ?_, ?_, ?_, ?_, ?_, ?_, ?_⟩
    · rw [tSet_p _ _ hw hu, tP_set _ _ hw hu]
      by_cases e : q = p ∧ u = w
      · rw [if_pos e, if_pos e, hc]
      · rw [if_neg e, if_neg e]; exact b0 u hu hu5
    · rw [tP_set _ _ hw (by omega)]
      by_cases e : q = p ∧ 0 = w
      · rw [if_pos e, hc]; exact h0 (by omega)
      · rw [if_neg e]; exact b1
    · rw [tP_set _ _ hw (by omega)]
      by_cases e : q = p ∧ 1 = w
      · rw [if_pos e, hc]; exact h0 (by omega)
      · rw [if_neg e]; exact b2
    · rw [tP_set _ _ hw (by omega)]
      by_cases e : q = p ∧ 2 = w
      · rw [if_pos e, hc]; exact h2 (by omega)
      · rw [if_neg e]; exact b3
    · rw [tP_set _ _ hw (by omega)]
      by_cases e : q = p ∧ 3 = w
      · rw [if_pos e, hc]; exact hv
      · rw [if_neg e]; exact b4
    · rw [tP_set _ _ hw (by omega)]
      by_cases e : q = p ∧ 4 = w
      · rw [if_pos e, hc]; exact h4 (by omega)
      · rw [if_neg e]; exact b5
    · rw [tP_set _ _ hw (by omega)]
      by_cases e : q = p ∧ 6 = w
      · rw [if_pos e, hc]; exact h6 (by omega)
      · rw [if_neg e]; exact b6
    · rw [tSet_p _ _ hw (by omega), tN_set _ _ (by omega)]
      by_cases e : q = p ∧ 5 = w
      · rw [if_pos e]; exact Or.inr ⟨v, h5 (by omega), rfl⟩
      · rw [if_neg e]; exact b7
theorem tLaw_set {τ : Nat → Int32} {p w : Nat} {v : Int32} (hL : tLaw τ) (hw : w < 7) (h4 : w = 4 → v.toNatClampNeg = 1 ∨ v.toNatClampNeg = 2 → ∃ k, k < tN τ 0 ∧ τ (6 + 7 * p + 5) = nI k) (h5 : w = 5 → ∃ k, k < tN τ 0 ∧ v = nI k) : tLaw (tSet τ (6 + 7 * p + w) v) := by
  intro q hq hlaw
  rw [tN_set _ _ (by omega)] at hq
  rw [tN_set _ _ (by omega), tSet_p _ _ hw (by omega)]
  rw [tP_set _ _ hw (by omega)] at hlaw
  by_cases e5 : q = p ∧ 5 = w
  · rw [if_pos e5]; exact h5 e5.2.symm
  · rw [if_neg e5]
    by_cases e4 : q = p ∧ 4 = w
    · rw [if_pos e4] at hlaw
      rw [e4.1]; exact h4 e4.2.symm hlaw
    · rw [if_neg e4] at hlaw
      exact hL q hq hlaw
theorem tR_set {D : xD} {t p w : Nat} {τ : Nat → Int32} {v : Int32} (hR : tR D t τ) (hw : w < 7) : tR (xu D.1 (t + 4) (7 * p + w) v, D.2) t (tSet τ (6 + 7 * p + w) v) := by
  obtain ⟨h1, h2, h3, h4, h5⟩ := hR
  have o := xOut_f D (t + 4) (7 * p + w) v
  refine ⟨h1, h2.out o (by omega), h3.out o (by omega), fun j hj => ?_, fun q hq u hu => ?_⟩
  · rw [o.1 _ (by omega), tSet_at, if_neg (by omega)]; exact h4 j hj
  · rw [tN_set _ _ (by omega)] at hq
    rw [tSet_p _ _ hw hu]
    show xu D.1 (t + 4) (7 * p + w) v (t + 4) (7 * q + u) = _
    rw [xu_self]
    unfold upd
    by_cases e : q = p ∧ u = w
    · rw [if_pos e, if_pos (by rw [e.1, e.2])]
    · rw [if_neg e, if_neg (by omega)]; exact h5 q hq u hu
/-- all 48 numbers of a table, of those too who don't sit at it -/
def tQ (D : xD) (t : Nat) (τ : Nat → Int32) : Prop := xk t = 4 ∧ rS D (t + 1) 6 ∧ rS D (t + 3) 42 ∧ (∀ j, j < 6 → D.1 (t + 2) j = τ j) ∧ ∀ j, j < 42 → D.1 (t + 4) j = τ (6 + j)
theorem tQ.tR {D : xD} {t : Nat} {τ : Nat → Int32} (h : tQ D t τ) (h6 : tN τ 5 ≤ 6) : tR D t τ := ⟨h.1, h.2.1, h.2.2.1, h.2.2.2.1, fun p hp w hw => by rw [h.2.2.2.2 _ (by omega)]; congr 1; omega⟩
theorem tQ.out {D D' : xD} {lo hi t : Nat} {τ : Nat → Int32} (h : tQ D t τ) (o : xOut lo hi D D') (q : t + 5 ≤ lo ∨ hi ≤ t + 1) : tQ D' t τ :=
  ⟨h.1, h.2.1.out o (by omega), h.2.2.1.out o (by omega), fun j hj => by rw [o.1 (t + 2) (by omega)]; exact h.2.2.2.1 j hj, fun j hj => by rw [o.1 (t + 4) (by omega)]; exact h.2.2.2.2 j hj⟩
theorem tQ_of {D D' : xD} {t : Nat} {τ σ : Nat → Int32} (h : tQ D t τ) (e1 : D'.1 (t + 1) 1 = D.1 (t + 1) 1) (e3 : D'.1 (t + 3) 1 = D.1 (t + 3) 1) (h2 : ∀ j, j < 6 → D'.1 (t + 2) j = σ j) (h4 : ∀ j, j < 42 → D'.1 (t + 4) j = σ (6 + j)) : tQ D' t σ := ⟨h.1, rS_of h.2.1 e1, rS_of h.2.2.1 e3, h2, h4⟩
/-- the table with n at it, who is who -/
def tSeats (τ : Nat → Int32) (who : Nat → Nat) (n : Nat) : Nat → Int32 := fun i => if i < 5 then τ i else if i = 5 then nI n else τ (6 + 7 * who ((i - 6) / 7) + (i - 6) % 7)
theorem tSeats_lo (τ : Nat → Int32) (who : Nat → Nat) (n : Nat) {j : Nat} (h : j < 5) : tSeats τ who n j = τ j := if_pos h
theorem tSeats_5 (τ : Nat → Int32) (who : Nat → Nat) {n : Nat} (hn : n < 2 ^ 31) : tN (tSeats τ who n) 5 = n := by
  show (nI n).toNatClampNeg = n
  exact nI_clamp hn
theorem tSeats_p (τ : Nat → Int32) (who : Nat → Nat) (n : Nat) {p w : Nat} (hw : w < 7) : tSeats τ who n (6 + 7 * p + w) = τ (6 + 7 * who p + w) := by
  unfold tSeats
  rw [if_neg (by omega), if_neg (by omega), show (6 + 7 * p + w - 6) / 7 = p by omega, show (6 + 7 * p + w - 6) % 7 = w by omega]
theorem tSeats_tP (τ : Nat → Int32) (who : Nat → Nat) (n : Nat) {p w : Nat} (hw : w < 7) : tP (tSeats τ who n) p w = tP τ (who p) w := by
  unfold tP tN
  rw [tSeats_p τ who n hw]
theorem tSeats_tN (τ : Nat → Int32) (who : Nat → Nat) (n : Nat) {j : Nat} (h : j < 5) : tN (tSeats τ who n) j = tN τ j := by
  unfold tN
  rw [tSeats_lo τ who n h]
theorem tOK_seats {τ : Nat → Int32} {who : Nat → Nat} {n : Nat} (hT : tOK τ) (hn : n ≤ 6) (hw : ∀ p, p < n → who p < tN τ 5) : tOK (tSeats τ who n) := by
  obtain ⟨a0, a1, a2, a3, a4, a5, a6, a7⟩ := hT
  have e5 : tN (tSeats τ who n) 5 = n := tSeats_5 τ who (by omega)
  refine ⟨fun j hj => ?_, by rw [tSeats_tN _ _ _ (by omega)]; exact a1, by rw [tSeats_tN _ _ _ (by omega)]; exact a2, by rw [tSeats_tN _ _ _ (by omega)]; exact a3, by rw [tSeats_tN _ _ _ (by omega)]; exact a4, by rw [tSeats_tN _ _ _ (by omega)]; exact a5, by rw [e5]; exact hn, fun q hq => ?_⟩
  · by_cases q : j = 5
    · rw [q, e5]; rfl
    · rw [tSeats_tN _ _ _ (by omega), tSeats_lo _ _ _ (by omega)]; exact a0 j hj
  · rw [e5] at hq
    obtain ⟨b0, b1, b2, b3, b4, b5, b6, b7⟩ := a7 (who q) (hw q hq)
    refine ⟨fun u hu hu5 => by rw [tSeats_p _ _ _ hu, tSeats_tP _ _ _ hu]; exact b0 u hu hu5, by rw [tSeats_tP _ _ _ (by omega)]; exact b1, by rw [tSeats_tP _ _ _ (by omega)]; exact b2, by rw [tSeats_tP _ _ _ (by omega)]; exact b3, by rw [tSeats_tP _ _ _ (by omega)]; exact b4, by rw [tSeats_tP _ _ _ (by omega)]; exact b5, by rw [tSeats_tP _ _ _ (by omega)]; exact b6, by rw [tSeats_p _ _ _ (by omega), tSeats_tN _ _ _ (by omega)]; exact b7⟩
theorem tLaw_seats {τ : Nat → Int32} {who : Nat → Nat} {n : Nat} (hL : tLaw τ) (hn : n ≤ 6) (hw : ∀ p, p < n → who p < tN τ 5) : tLaw (tSeats τ who n) := by
  intro q hq hlaw
  rw [tSeats_5 τ who (by omega)] at hq
  rw [tSeats_tP _ _ _ (by omega)] at hlaw
  rw [tSeats_tN _ _ _ (by omega), tSeats_p _ _ _ (by omega)]
  exact hL _ (hw q hq) hlaw
/-- a TABLE of which nothing is told yet -/
def tNew : Nat → Int32 := fun i => if i < 3 then nI 4 else if i = 3 then nI 1 else if i = 4 then nI 3 else if i < 6 then nI 0 else if (i - 6) % 7 = 5 then -1 else nI 0
section TSET
variable {d : Nat} {D : xD} {t : Nat} {τ : Nat → Int32}
theorem ix7 {p w : Nat} : nI p * (7 : Int32) + nI w = nI (7 * p + w) := by
  rw [show (7 : Int32) = nI 7 from rfl, pk_mul, nI_add, Nat.mul_comm]
theorem c_setOf_raw {P : xD → Prop} {p w : Nat} {v : Int32} (k0 : xk t = 4) (h3 : rS D (t + 3) 42) (hp : p < 6) (hw : w < 7) (h : P (xu D.1 (t + 4) (7 * p + w) v, D.2)) : xCv (d + 2) m_Table_setOf [.ref t, .int (nI p), .int (nI w), .int v] D P := by
  refine xCv_of y_Table_setOf (Nat.le_of_ble_eq_true rfl) (s_Table_setOf_0 k0 ?_)
  rw [ix7]
  refine c_Row_set h3 ⟨rfl, ?_⟩
  rw [rset_in _ _ _ (show 7 * p + w < 42 by omega) (by omega)]
  exact h
theorem c_setNum_raw {P : xD → Prop} {j : Nat} {v : Int32} (k0 : xk t = 4) (h1 : rS D (t + 1) 6) (hj : j < 6) (h : P (xu D.1 (t + 2) j v, D.2)) : xCv (d + 2) m_Table_setNumber [.ref t, .int (nI j), .int v] D P := by
  refine xCv_of y_Table_setNumber (Nat.le_of_ble_eq_true rfl) (s_Table_setNumber_0 k0 ?_)
  refine c_Row_set h1 ⟨rfl, ?_⟩
  rw [rset_in _ _ _ hj (by omega)]
  exact h
theorem c_Table_setOf {P : xD → Prop} {p w : Nat} {v : Int32} (hR : tR D t τ) (hp : p < 6) (hw : w < 7) (h : ∀ D', xOut (t + 4) (t + 5) D D' → tR D' t (tSet τ (6 + 7 * p + w) v) → P D') : xCv (d + 2) m_Table_setOf [.ref t, .int (nI p), .int (nI w), .int v] D P :=
  c_setOf_raw hR.1 hR.2.2.1 hp hw (h _ (xOut_f _ _ _ _) (tR_set hR hw))
theorem tQ_set {p w : Nat} {v : Int32} (hR : tQ D t τ) (hw : w < 7) : tQ (xu D.1 (t + 4) (7 * p + w) v, D.2) t (tSet τ (6 + 7 * p + w) v) := by
  have o := xOut_f D (t + 4) (7 * p + w) v
  refine tQ_of hR (by rw [o.1 _ (by omega)]) (by rw [o.1 _ (by omega)]) (fun j hj => ?_) (fun j hj => ?_)
  · rw [o.1 _ (by omega), tSet_at, if_neg (by omega)]; exact hR.2.2.2.1 j hj
  · show xu D.1 (t + 4) (7 * p + w) v (t + 4) j = _
    rw [xu_self, tSet_at]
    unfold upd
    by_cases e : j = 7 * p + w
    · rw [if_pos e, if_pos (by omega)]
    · rw [if_neg e, if_neg (by omega)]; exact hR.2.2.2.2 j hj
theorem tQ_num {j : Nat} {v : Int32} (hR : tQ D t τ) (hj : j < 6) : tQ (xu D.1 (t + 2) j v, D.2) t (tSet τ j v) := by
  have o := xOut_f D (t + 2) j v
  refine tQ_of hR (by rw [o.1 _ (by omega)]) (by rw [o.1 _ (by omega)]) (fun i hi => ?_) (fun i hi => ?_)
  · show xu D.1 (t + 2) j v (t + 2) i = _
    rw [xu_self, tSet_at]
    unfold upd
    by_cases e : i = j
    · rw [if_pos e, if_pos e]
    · rw [if_neg e, if_neg e]; exact hR.2.2.2.1 i hi
  · rw [o.1 _ (by omega), tSet_at, if_neg (by omega)]; exact hR.2.2.2.2 i hi
theorem c_tQ_setOf {P : xD → Prop} {p w : Nat} {v : Int32} (hR : tQ D t τ) (hp : p < 6) (hw : w < 7) (h : ∀ D', xOut (t + 1) (t + 5) D D' → tQ D' t (tSet τ (6 + 7 * p + w) v) → P D') : xCv (d + 2) m_Table_setOf [.ref t, .int (nI p), .int (nI w), .int v] D P :=
  c_setOf_raw hR.1 hR.2.2.1 hp hw (h _ ((xOut_f _ _ _ _).mono (by omega) (by omega)) (tQ_set hR hw))
theorem c_tQ_setNumber {P : xD → Prop} {j : Nat} {v : Int32} (hR : tQ D t τ) (hj : j < 6) (h : ∀ D', xOut (t + 1) (t + 5) D D' → tQ D' t (tSet τ j v) → P D') : xCv (d + 2) m_Table_setNumber [.ref t, .int (nI j), .int v] D P :=
  c_setNum_raw hR.1 hR.2.1 hj (h _ ((xOut_f _ _ _ _).mono (by omega) (by omega)) (tQ_num hR hj))
theorem c_Table_copyEmpty {P : xD → Prop} {b : Nat} {who : Nat → Nat} (k0 : xk t = 4) (h3 : rS D (t + 3) 42) (hb : tR D b τ) (hq : t + 5 ≤ b ∨ b + 5 ≤ t) (h : ∀ D', xOut (t + 1) (t + 3) D D' → tR D' t (tSeats τ who 0) → P D') : xCv (d + 2) m_Table_copyEmpty [.ref t, .ref b] D P := by
  refine xCv_of y_Table_copyEmpty (Nat.le_of_ble_eq_true rfl) (s_Table_copyEmpty_0 k0 hb.1 ?_)
  have k1 := ck_4_0 k0
  have l1 : xl (t + 1 + 1) = 6 := cl_4_0 k0
  refine c_Row_copy k1 hb.2.1 (by omega) ?_
  have o1 := xOut_rcopy D (t + 1) (b + 1) 6
  have w1 : rS (rcopy D (t + 1) (b + 1) 6) (t + 1) 6 := ⟨rcopy_n _ _ _ _, by omega, k1⟩
  have v1 : ∀ j, j < 6 → (rcopy D (t + 1) (b + 1) 6).1 (t + 2) j = τ j := fun j hj => by
    rw [show t + 2 = t + 1 + 1 by omega, rcopy_f, if_pos hj, show b + 1 + 1 = b + 2 by omega]; exact hb.2.2.2.1 j hj
  generalize rcopy D (t + 1) (b + 1) 6 = D1 at o1 w1 v1 ⊢
  refine c_Row_set (i := nI 5) w1 ⟨rfl, ?_⟩
  rw [rset_in _ _ _ (by omega) (by omega), show t + 1 + 1 = t + 2 by omega]
  have o2 := xOut_f D1 (t + 2) 5 0
  refine h _ ((o1.mono (by omega) (by omega)).trans (o2.mono (by omega) (by omega))) ⟨k0, w1.out o2 (by omega), (h3.out o1 (by omega)).out o2 (by omega), fun j hj => ?_, fun p hp => ?_⟩
  · show xu D1.1 (t + 2) 5 0 (t + 2) j = _
    rw [xu_self]
    unfold upd
    by_cases e : j = 5
    · rw [if_pos e, e]; rfl
    · rw [if_neg e, v1 j hj, tSeats_lo _ _ _ (by omega)]
  · rw [tSeats_5 τ who (by omega)] at hp; omega
theorem c_Table_seat {P : xD → Prop} {b k : Nat} {who : Nat → Nat} (hR : tR D t (tSeats τ who k)) (hb : tR D b τ) (hT : tOK τ) (hk : k < 6) (hw : who k < tN τ 5) (hall : ∀ p, p < k → who p < tN τ 5) (hq : t + 5 ≤ b ∨ b + 5 ≤ t) (h : ∀ D', xOut (t + 1) (t + 5) D D' → tR D' t (tSeats τ who (k + 1)) → P D') : xCv (d + 3) m_Table_seat [.ref t, .ref b, .int (nI (who k))] D P := by
  refine xCv_of y_Table_seat (Nat.le_of_ble_eq_true rfl) (s_Table_seat_0 hR.1 hb.1 ?_)
  have b5 := hT.2.2.2.2.2.2.1
  have hTk : tOK (tSeats τ who k) := tOK_seats hT (by omega) hall
  have ek : tN (tSeats τ who k) 5 = k := tSeats_5 τ who (by omega)
  have key : ∀ m j, j + m = 7 → ∀ D', xOut (t + 4) (t + 5) D D' → tR D' t (tSeats τ who k) → (∀ w, w < j → D'.1 (t + 4) (7 * k + w) = τ (6 + 7 * who k + w)) →
      xPf (d + 3) m_Table_seat 2 [(0, .ref t), (1, .ref b), (2, .int (nI (who k))), (3, .int (nI j))] [] D' (fun r D' => r = none ∧ P D') := by
    intro m
    induction m with
    | zero =>
      intro j hj D' o hR' hv
      have ej : j = 7 := by omega
      subst ej
      refine s_Table_seat_2 hR'.1 hb.1 ⟨fun _ => ?_, fun c => absurd (nI_le (a := 7) (b := 7) (by omega) (by omega)) c⟩
      refine c_Row_add (i := nI 5) hR'.2.1 ⟨rfl, ?_⟩
      rw [radd_in _ _ _ (by omega) (by omega), show t + 1 + 1 = t + 2 by omega, hR'.2.2.2.1 5 (by omega)]
      have o2 := xOut_f D' (t + 2) 5 (tSeats τ who k 5 + 1)
      refine h _ ((o.mono (by omega) (by omega)).trans (o2.mono (by omega) (by omega))) ⟨hR'.1, hR'.2.1.out o2 (by omega), hR'.2.2.1.out o2 (by omega), fun j hj => ?_, fun p hp w hw => ?_⟩
      · show xu D'.1 (t + 2) 5 _ (t + 2) j = _
        rw [xu_self]
        unfold upd
        by_cases e : j = 5
        · rw [if_pos e, e]; exact nI_1 k
        · rw [if_neg e, hR'.2.2.2.1 j hj, tSeats_lo _ _ _ (by omega), tSeats_lo _ _ _ (by omega)]
      · rw [tSeats_5 τ who (by omega)] at hp
        rw [o2.1 _ (by omega), tSeats_p _ _ _ hw]
        by_cases e : p = k
        · rw [e]; exact hv w hw
        · rw [hR'.2.2.2.2 p (by rw [ek]; omega) w hw, tSeats_p _ _ _ hw]
    | succ m ih =>
      intro j hj D' o hR' hv
      have hb' : tR D' b τ := hb.out o (by omega)
      refine s_Table_seat_2 hR'.1 hb.1 ⟨fun c => absurd c (nI_ge (b := 7) (by omega) (by omega)), fun _ => ?_⟩
      refine c_Table_people hR' hTk ?_
      rw [ek]
      refine c_Table_of hb' b5 hw (by omega) ?_
      refine c_setOf_raw hR'.1 hR'.2.2.1 hk (show j < 7 by omega) ?_
      rw [nI_1]
      have o2 := xOut_f D' (t + 4) (7 * k + j) (τ (6 + 7 * who k + j))
      refine ih (j + 1) (by omega) _ (o.trans o2) ⟨hR'.1, hR'.2.1.out o2 (by omega), hR'.2.2.1.out o2 (by omega), fun i hi => by rw [o2.1 _ (by omega)]; exact hR'.2.2.2.1 i hi, fun p hp w hw => ?_⟩ (fun w hw => ?_)
      · rw [ek] at hp
        show xu D'.1 (t + 4) (7 * k + j) _ (t + 4) _ = _
        rw [xu_self]
        unfold upd
        rw [if_neg (by omega)]; exact hR'.2.2.2.2 p (by rw [ek]; exact hp) w hw
      · show xu D'.1 (t + 4) (7 * k + j) _ (t + 4) _ = _
        rw [xu_self]
        unfold upd
        by_cases e : w = j
        · rw [if_pos (by rw [e]), e]
        · rw [if_neg (by omega)]; exact hv w (by omega)
  exact key 7 0 (by omega) D xOut.rfl' hR (fun w hw => absurd hw (by omega))
theorem c_Table_clear {P : xD → Prop} (k0 : xk t = 4) (h : ∀ D', xOut (t + 1) (t + 5) D D' → tQ D' t tNew → P D') : xCv (d + 3) m_Table_clear [.ref t] D P := by
  refine xCv_of y_Table_clear (Nat.le_of_ble_eq_true rfl) (s_Table_clear_0 k0 ?_)
  have l2 : xl (t + 1 + 1) = 6 := cl_4_0 k0
  have l4 : xl (t + 3 + 1) = 42 := cl_4_1 k0
  have k1 := ck_4_0 k0
  have k3 := ck_4_1 k0
  refine c_Row_fill (k := 6) k1 (by omega) ?_
  have o1 : xOut (t + 1) (t + 3) D (fil (rsize D (t + 1) 6) (t + 1 + 1) 4 (xl (t + 1 + 1))) := ((xOut_rsize D (t + 1) 6).mono (by omega) (by omega)).trans ((xOut_fil _ (t + 1 + 1) _ 4).mono (by omega) (by omega))
  have v1 : ∀ j, j < 6 → (fil (rsize D (t + 1) 6) (t + 1 + 1) 4 (xl (t + 1 + 1))).1 (t + 2) j = nI 4 := fun j hj => by
    show (if t + 2 = t + 1 + 1 then fun k => if k < xl (t + 1 + 1) then (4 : Int32) else _ else _ : Nat → Int32) j = _
    rw [if_pos (by omega), if_pos (by omega)]; rfl
  have w1 : rS (fil (rsize D (t + 1) 6) (t + 1 + 1) 4 (xl (t + 1 + 1))) (t + 1) 6 := (rS_rsize (by omega) k1).out (xOut_fil _ (t + 1 + 1) _ 4) (by omega)
  generalize fil (rsize D (t + 1) 6) (t + 1 + 1) 4 (xl (t + 1 + 1)) = D1 at o1 v1 w1 ⊢
  refine c_Row_set (i := nI 3) w1 ?_
  rw [rset_in _ _ _ (by omega) (by omega), show t + 1 + 1 = t + 2 by omega]
  have p2 := xOut_f D1 (t + 2) 3 1
  refine c_Row_set (i := nI 4) (w1.out p2 (by omega)) ?_
  rw [rset_in _ _ _ (by omega) (by omega), show t + 1 + 1 = t + 2 by omega]
  have p3 := xOut_f (xu D1.1 (t + 2) 3 1, D1.2) (t + 2) 4 3
  refine c_Row_set (i := nI 5) ((w1.out p2 (by omega)).out p3 (by omega)) ?_
  rw [rset_in _ _ _ (by omega) (by omega), show t + 1 + 1 = t + 2 by omega]
  have p4 := xOut_f (xu (xu D1.1 (t + 2) 3 1) (t + 2) 4 3, D1.2) (t + 2) 5 0
  have w4 := ((w1.out p2 (by omega)).out p3 (by omega)).out p4 (by omega)
  have o4 : xOut (t + 1) (t + 3) D (xu (xu (xu D1.1 (t + 2) 3 1) (t + 2) 4 3) (t + 2) 5 0, D1.2) := ((o1.trans (p2.mono (by omega) (by omega))).trans (p3.mono (by omega) (by omega))).trans (p4.mono (by omega) (by omega))
  have v4 : ∀ j, j < 6 → (xu (xu (xu D1.1 (t + 2) 3 1) (t + 2) 4 3) (t + 2) 5 0) (t + 2) j = if j = 5 then nI 0 else if j = 4 then nI 3 else if j = 3 then nI 1 else nI 4 := fun j hj => by
    rw [xu_self, xu_self, xu_self]
    unfold upd
    rw [v1 j hj]; rfl
  show xCv (d + 2) m_Row_fill _ (xu (xu (xu D1.1 (t + 2) 3 1) (t + 2) 4 3) (t + 2) 5 0, D1.2) _
  generalize xu (xu (xu D1.1 (t + 2) 3 1) (t + 2) 4 3) (t + 2) 5 0 = G4 at w4 o4 v4 ⊢
  refine c_Row_fill (k := 42) k3 (by omega) ?_
  have o5 : xOut (t + 3) (t + 5) (G4, D1.2) (fil (rsize (G4, D1.2) (t + 3) 42) (t + 3 + 1) 0 (xl (t + 3 + 1))) := ((xOut_rsize (G4, D1.2) (t + 3) 42).mono (by omega) (by omega)).trans ((xOut_fil _ (t + 3 + 1) _ 0).mono (by omega) (by omega))
  have v5 : ∀ j, j < 42 → (fil (rsize (G4, D1.2) (t + 3) 42) (t + 3 + 1) 0 (xl (t + 3 + 1))).1 (t + 4) j = nI 0 := fun j hj => by
    show (if t + 4 = t + 3 + 1 then fun k => if k < xl (t + 3 + 1) then (0 : Int32) else _ else _ : Nat → Int32) j = _
    rw [if_pos (by omega), if_pos (by omega)]; rfl
  have w5 : rS (fil (rsize (G4, D1.2) (t + 3) 42) (t + 3 + 1) 0 (xl (t + 3 + 1))) (t + 3) 42 := (rS_rsize (by omega) k3).out (xOut_fil _ (t + 3 + 1) _ 0) (by omega)
  generalize fil (rsize (G4, D1.2) (t + 3) 42) (t + 3 + 1) 0 (xl (t + 3 + 1)) = D5 at o5 v5 w5 ⊢
  have key : ∀ m p, p + m = 6 → ∀ D', xOut (t + 4) (t + 5) D5 D' → (∀ j, j < 42 → D'.1 (t + 4) j = if j % 7 = 5 ∧ j < 7 * p then -1 else nI 0) →
      xPf (d + 3) m_Table_clear 49 [(0, .ref t), (1, .int (nI p))] [] D' (fun r D' => r = none ∧ P D') := by
    intro m
    induction m with
    | zero =>
      intro p hp D' o hv
      have ep : p = 6 := by omega
      subst ep
      refine s_Table_clear_49 k0 ⟨fun _ => ⟨rfl, h D' ((o4.mono (by omega) (by omega)).trans ((o5.mono (by omega) (by omega)).trans (o.mono (by omega) (by omega)))) ⟨k0, (w4.out o5 (by omega)).out o (by omega), w5.out o (by omega), fun j hj => ?_, fun j hj => ?_⟩⟩, fun c => absurd (nI_le (a := 6) (b := 6) (by omega) (by omega)) c⟩
      · rw [o.1 _ (by omega), o5.1 _ (by omega)]
        show G4 (t + 2) j = _
        rw [v4 j hj]
        rcases (show j = 0 ∨ j = 1 ∨ j = 2 ∨ j = 3 ∨ j = 4 ∨ j = 5 by omega) with rfl | rfl | rfl | rfl | rfl | rfl <;> rfl
      · rw [hv j hj]
        unfold tNew
        rw [if_neg (show ¬ 6 + j < 3 by omega), if_neg (show ¬ 6 + j = 3 by omega), if_neg (show ¬ 6 + j = 4 by omega), if_neg (show ¬ 6 + j < 6 by omega), show 6 + j - 6 = j by omega]
        by_cases e : j % 7 = 5
        · rw [if_pos ⟨e, by omega⟩, if_pos e]
        · rw [if_neg (fun z => e z.1), if_neg e]
    | succ m ih =>
      intro p hp D' o hv
      refine s_Table_clear_49 k0 ⟨fun c => absurd c (nI_ge (b := 6) (by omega) (by omega)), fun _ => ?_⟩
      refine c_setOf_raw (w := 5) k0 (w5.out o (by omega)) (by omega) (by omega) ?_
      rw [nI_1]
      refine ih (p + 1) (by omega) _ (o.trans (xOut_f _ _ _ _)) (fun j hj => ?_)
      show xu D'.1 (t + 4) (7 * p + 5) (-1) (t + 4) j = _
      rw [xu_self]
      unfold upd
      by_cases e : j = 7 * p + 5
      · rw [if_pos e, if_pos ⟨by omega, by omega⟩]
      · rw [if_neg e, hv j hj]
        by_cases e2 : j % 7 = 5 ∧ j < 7 * p
        · rw [if_pos e2, if_pos ⟨e2.1, by omega⟩]
        · rw [if_neg e2, if_neg (by omega)]
  exact key 6 0 (by omega) D5 xOut.rfl' (fun j hj => by rw [v5 j hj, if_neg (by omega)])
end TSET
