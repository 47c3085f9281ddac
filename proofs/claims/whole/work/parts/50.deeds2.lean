/-! Deeds: play, answers. -/
/-- a BOOK's round begins -/
def bInit (τ : Nat → Int32) (n : Nat) (c : Nat → Nat) : bS := (dInit (tN τ 5) (tN τ 2) n c, [], fun _ => 0, 0, 0, none)
theorem bW_init {τ : Nat → Int32} {n : Nat} {c : Nat → Nat} (hT : tOK τ) (h0 : 2 ≤ tN τ 5) (hn : n ≤ 52) (hA : tN τ 2 * tN τ 5 < n) (hc : ∀ j, j < n → c j < tN τ 0) : bW (tN τ 5) (tN τ 0) n (bInit τ n c) :=
  ⟨dW_init (by omega) hT.2.1.2 hn hA hc, fun p hp => (by cases hp), (by show 0 < _; omega), fun _ => (by show 0 + 1 < _; omega), fun p hp => (by cases hp)⟩
/-- the row at b holds the BOOK β of m deeds -/
def kR (D : xD) (b m : Nat) (β : Nat → Int32) : Prop := rS D b (3 * m) ∧ ∀ i, i < 3 * m → D.1 (b + 1) i = β (1 + i)
theorem kR.out {D D' : xD} {lo hi b m : Nat} {β : Nat → Int32} (h : kR D b m β) (o : xOut lo hi D D') (q : b + 2 ≤ lo ∨ hi ≤ b) : kR D' b m β :=
  ⟨h.1.out o (by omega), fun i hi => by rw [o.1 _ (by omega)]; exact h.2 i hi⟩
section DEEDS2
variable {d : Nat} {D : xD} {e t n : Nat} {τ : Nat → Int32}
theorem c_Deeds_play {P : Int32 → xD → Prop} {a b m M : Nat} {c : Nat → Nat} {β : Nat → Int32} (k0 : xk e = 7) (hR : tR D t τ) (hT : tOK τ) (h2 : 2 ≤ tN τ 5) (ha : rS D a n) (hn : n ≤ 52) (hc : ∀ j, j < n → D.1 (a + 1) j = nI (c j) ∧ c j < tN τ 0) (hA : tN τ 2 * tN τ 5 < n)
    (r5 : rS D (e + 6) 364) (hk : kR D b m β) (hβ : bOK β) (hm : β 0 = nI m) (hm40 : m ≤ 40) (hM : M < 2 ^ 31) (ht : t + 5 ≤ e ∨ e + 16 ≤ t) (hae : a + 2 ≤ e ∨ e + 16 ≤ a) (hbe : b + 2 ≤ e ∨ e + 16 ≤ b)
    (h : ∀ D', xOut e (e + 16) D D' → rS D' (e + 6) 364 → (∀ s, bRun (tN τ 5) (tN τ 2) (tN τ 0) β (bInit τ n c) (min m M) = some s → bR D' e (tN τ 5) (tN τ 2) (tN τ 0) s) → P (nI (bMany (tN τ 5) (tN τ 2) (tN τ 0) β (bInit τ n c) (min m M))) D') :
    xCi (d + 6) m_Deeds_play [.ref e, .ref t, .ref a, .ref b, .int (nI M)] D P := by
  have b5 := hT.2.2.2.2.2.2.1
  have bK := hT.2.1.2
  have bA := hT.2.2.2.1.2
  have l15 : xl (e + 14 + 1) = 6 := cl_7_2 k0
  refine xCi_of y_Deeds_play (Nat.le_of_ble_eq_true rfl) (s_Deeds_play_0 k0 hR.1 ha.2.2 hk.1.2.2 ?_)
  refine c_Table_people hR hT (fun D1 e1 => ?_)
  have o1 : xOut e (e + 1) D D1 := by rw [e1]; exact xOut_f D e 3 _
  refine c_Table_alike (hR.out o1 (by omega)) hT (fun D2 e2 => ?_)
  have o2 : xOut e (e + 1) D1 D2 := by rw [e2]; exact xOut_f D1 e 4 _
  have f2 : D2.1 e 3 = nI (tN τ 5) ∧ D2.1 e 4 = nI (tN τ 2) := by
    rw [e2, e1]
    refine ⟨?_, ?_⟩
    · show xu (xu D.1 e 3 _) e 4 _ e 3 = _; simp [xu_self, upd]
    · show xu (xu D.1 e 3 _) e 4 _ e 4 = _; simp [xu_self, upd]
  clear e1 e2
  have o12 := o1.trans o2
  refine c_Deal_start (c := c) (ck_7_0 k0) (r5.out o12 (by omega)) (hR.out o12 (by omega)) hT (by omega) (ha.out o12 (by omega)) hn (fun j hj => ⟨by rw [o12.1 _ (by omega)]; exact (hc j hj).1, by have := (hc j hj).2; omega⟩) hA (by omega) (by omega) (fun D3 o3 hD3 => ?_)
  refine c_Row_clear (ck_7_1 k0) ?_
  have o4 := xOut_rsize D3 (e + 12) 0
  have w4 : rS (rsize D3 (e + 12) 0) (e + 12) 0 := rS_rsize (Nat.zero_le _) (ck_7_1 k0)
  generalize rsize D3 (e + 12) 0 = D4 at o4 w4 ⊢
  have g3 : D4.1 e 3 = nI (tN τ 5) := by rw [o4.1 _ (by omega), o3.1 _ (by omega)]; exact f2.1
  rw [g3]
  refine c_Row_fill (k := tN τ 5) (ck_7_2 k0) (by omega) ?_
  have o5 : xOut (e + 14) (e + 16) D4 (fil (rsize D4 (e + 14) (tN τ 5)) (e + 14 + 1) 0 (xl (e + 14 + 1))) := ((xOut_rsize D4 (e + 14) (tN τ 5)).mono (by omega) (by omega)).trans ((xOut_fil _ (e + 14 + 1) _ 0).mono (by omega) (by omega))
  have v5 : ∀ j, j < tN τ 5 → (fil (rsize D4 (e + 14) (tN τ 5)) (e + 14 + 1) 0 (xl (e + 14 + 1))).1 (e + 15) j = nI 0 := fun j hj => by
    show (if e + 15 = e + 14 + 1 then fun k => if k < xl (e + 14 + 1) then (0 : Int32) else _ else _ : Nat → Int32) j = 0
    rw [if_pos (by omega), if_pos (by omega)]
  have w5 : rS (fil (rsize D4 (e + 14) (tN τ 5)) (e + 14 + 1) 0 (xl (e + 14 + 1))) (e + 14) (tN τ 5) := (rS_rsize (by omega) (ck_7_2 k0)).out (xOut_fil _ (e + 14 + 1) _ 0) (by omega)
  generalize fil (rsize D4 (e + 14) (tN τ 5)) (e + 14 + 1) 0 (xl (e + 14 + 1)) = D5 at o5 v5 w5 ⊢
  intro D6 e6 D7 e7 D8 e8
  have o8 : xOut e (e + 1) D5 D8 := by
    rw [e8, e7, e6]
    exact ⟨fun i q => by show xu (xu (xu D5.1 e 5 0) e 6 0) e 7 (-1) i = _; rw [xu_ne _ _ _ (by omega), xu_ne _ _ _ (by omega), xu_ne _ _ _ (by omega)], rfl⟩
  have f8 : ∀ j, D8.1 e j = if j = 7 then -1 else if j = 6 then 0 else if j = 5 then 0 else D5.1 e j := fun j => by
    rw [e8, e7, e6]
    show xu (xu (xu D5.1 e 5 0) e 6 0) e 7 (-1) e j = _
    rw [xu_self, xu_self, xu_self]; rfl
  clear e6 e7 e8
  have o45 := (o4.mono (show e ≤ e + 12 by omega) (show e + 14 ≤ e + 16 by omega)).trans (o5.mono (by omega) (by omega))
  have hB : bR D8 e (tN τ 5) (tN τ 2) (tN τ 0) (bInit τ n c) := by
    have g : ∀ j, D5.1 e j = D2.1 e j := fun j => by rw [o5.1 _ (by omega), o4.1 _ (by omega), o3.1 _ (by omega)]
    refine ⟨k0, ((hD3.out o4 (by omega)).out o5 (by omega)).out o8 (by omega), (w4.out o5 (by omega)).out o8 (by omega), fun i c hc => by simp [bInit] at hc, w5.out o8 (by omega), fun i hi => by rw [o8.1 _ (by omega)]; exact v5 i hi, ?_, ?_, ?_, ?_, ?_⟩
    · rw [f8]; simp [g, f2.1]
    · rw [f8]; simp [g, f2.2]
    · rw [f8]; rfl
    · rw [f8]; rfl
    · rw [f8]; rfl
  have oE : xOut e (e + 16) D D8 := (o12.mono (by omega) (by omega)).trans ((o3.mono (by omega) (by omega)).trans (o45.trans (o8.mono (by omega) (by omega))))
  have hk8 := hk.out oE hbe
  refine c_Row_size hk8.1 (fun r15 e15 => ?_)
  have er : r15 = nI (min m M) := by
    rw [e15, show (3 : Int32) = nI 3 from rfl, pk_div (by omega) (by omega) (by omega), show 3 * m / 3 = m by omega]
    by_cases q : m < M
    · rw [if_pos (nI_lt q hM), Nat.min_eq_left (by omega)]
    · rw [if_neg (nI_nlt (by omega) (by omega)), Nat.min_eq_right (by omega)]
  rw [er]
  have hW0 := bW_init hT h2 hn hA (fun j hj => (hc j hj).2)
  obtain ⟨m', hm', em', hent⟩ := hβ
  have emm : m' = m := (nI_eq (by omega) (by omega)).mp (em'.symm.trans hm)
  subst emm
  generalize hs0 : bInit τ n c = s0 at *
  generalize hL : min m' M = L at *
  have hLm : L ≤ m' := by omega
  have key : ∀ k j, j + k = L → ∀ D' s, xOut e (e + 16) D D' → bRun (tN τ 5) (tN τ 2) (tN τ 0) β s0 j = some s → bR D' e (tN τ 5) (tN τ 2) (tN τ 0) s →
      xPf (d + 6) m_Deeds_play 75 [(0, .ref e), (1, .ref t), (2, .ref a), (3, .ref b), (4, .int (nI M)), (5, .int (nI L)), (6, .int (nI j))] [] D' (fun r D' => ∃ x, r = some (.int x) ∧ P x D') := by
    intro k
    induction k with
    | zero =>
      intro j hj D' s o hs hB'
      have ej : j = L := by omega
      subst ej
      refine s_Deeds_play_75 k0 hR.1 ha.2.2 hk.1.2.2 ⟨fun _ => ⟨_, rfl, ?_⟩, fun q => absurd (nI_le (by omega) (by omega)) q⟩
      have := h D' o hB'.2.1.1.2.1 (fun s' hs' => by rw [hs] at hs'; cases hs'; exact hB')
      rw [bMany_at (by rw [hs]; exact fun z => by cases z)] at this
      exact this
    | succ k ih =>
      intro j hj D' s o hs hB'
      have hk' := hk.out o hbe
      obtain ⟨q0, q1, q2, q3, q4⟩ := hent j (by omega)
      refine s_Deeds_play_75 k0 hR.1 ha.2.2 hk.1.2.2 ⟨fun q => absurd q (nI_ge (by omega) (by omega)), fun _ => ?_⟩
      have e3 : nI j * (3 : Int32) = nI (3 * j) := by rw [show (3 : Int32) = nI 3 from rfl, pk_mul, Nat.mul_comm]
      rw [e3, show (2 : Int32) = nI 2 from rfl, nI_1, nI_add]
      refine c_Row_get hk'.1 (c_Row_get hk'.1 (c_Row_get hk'.1 ?_))
      rw [rg_in D' _ (show 3 * j < 3 * m' by omega) (by omega), rg_in D' _ (show 3 * j + 1 < 3 * m' by omega) (by omega), rg_in D' _ (show 3 * j + 2 < 3 * m' by omega) (by omega), hk'.2 _ (by omega), hk'.2 _ (by omega), hk'.2 _ (by omega), q0, show 1 + (3 * j + 1) = 1 + 3 * j + 1 by omega, q1, show 1 + (3 * j + 2) = 1 + 3 * j + 2 by omega]
      have hW := bRun_ok (n := n) bK hW0 hs
      have er1 : bRun (tN τ 5) (tN τ 2) (tN τ 0) β s0 (j + 1) = bDo (tN τ 5) (tN τ 2) (tN τ 0) (bEnt β j 0) (bEnt β j 1) (bEnt β j 2) s := by rw [bRun, hs]
      refine c_Deeds_happens hB' b5 bK bA hW q2 (by omega) q4 hW.2.2.2.2 (fun D1 s1 o1 q hB1 => ⟨fun _ => ?_, fun z => absurd z (by decide)⟩) (fun D1 o1 hD1 q => ⟨fun z => absurd rfl z, fun _ => ⟨_, rfl, ?_⟩⟩)
      · rw [nI_1]
        exact ih (j + 1) (by omega) D1 s1 (o.trans o1) (by rw [er1]; exact q) hB1
      · have hno : bRun (tN τ 5) (tN τ 2) (tN τ 0) β s0 (j + 1) = none := by rw [er1]; exact q
        have hstop := bMany_stop (by rw [hs]; exact fun z => by cases z) hno k
        rw [show j + 1 + k = L by omega] at hstop
        have hnone := bRun_none hno k
        rw [show j + 1 + k = L by omega] at hnone
        have := h D1 (o.trans o1) (by rcases hD1 with z | z <;> exact z.1.2.1) (fun s' hs' => by rw [hnone] at hs'; cases hs')
        rw [hstop] at this
        exact this
  exact key L 0 (by omega) D8 s0 oE rfl hB
end DEEDS2
