/-! The reference: a book's round, deed by deed. -/
section MDOES
variable {d : Nat} {D : xD} {N A K n : Nat} {s : bS}
theorem c_M_does {P : Int32 → xD → Prop} {k : Nat} {β : Nat → Int32} (hB : mBs D N A K s) (Bk : mBk D β) (hO : bOK β) (hk : k < tN β 0) (hN : N ≤ 6) (hK : K ≤ 13) (hA : A ≤ 4) (hW : bW N K n s)
    (h1 : ∀ D' s', mF 346 353 47 54 D D' → bDo N A K (bEnt β k 0) (bEnt β k 1) (bEnt β k 2) s = some s' → mBs D' N A K s' → P 1 D') (h0 : ∀ D', mF 346 353 47 54 D D' → bDo N A K (bEnt β k 0) (bEnt β k 1) (bEnt β k 2) s = none → P 0 D') : xCi (d + 3) m_M_does [.ref 325, .int (nI k)] D P := by
  have l21 : xl (325 + 21) = 78 := cl_13_41 xk_M
  have l22 : xl (325 + 22) = 6 := cl_13_42 xk_M
  have hB0 := hB
  have m40 := (bOK_len hO).1
  obtain ⟨m, hm, em, hent⟩ := id hO
  have ekm : m = tN β 0 := by
    have := (bOK_len hO).2.1
    rw [em] at this
    exact (nI_eq (by omega) (by omega)).mp this
  obtain ⟨q0, q1, q2, q3, q4⟩ := hent k (by omega)
  obtain ⟨⟨a1, a2, a3, a4⟩, b, c1, c2, c3, c4, ⟨x, c5, c6, c7⟩, c8, c9⟩ := hB
  generalize ha : bEnt β k 0 = a at *
  generalize hb : bEnt β k 1 = p at *
  generalize hc : bEnt β k 2 = c at *
  have inj : ∀ v : Nat, v < 10 → nI a = nI v → a = v := fun v hv q => (nI_eq (by omega) (by omega)).mp q
  have stay := h0 D mF.rfl'
  refine xCi_of y_M_does (Nat.le_of_ble_eq_true rfl) (s_M_does_0 xk_M ?_)
  refine c_M_deedOf (w := 0) Bk (by omega) (by omega) (c_M_deedOf (w := 1) Bk (by omega) (by omega) (c_M_deedOf (w := 2) Bk (by omega) (by omega) ?_))
  rw [show β (1 + 3 * k + 0) = nI a from q0, q1]
  refine ⟨fun cl => ⟨_, rfl, stay ?_⟩, fun cl => ?_⟩
  · unfold bDo
    rw [if_pos]
    intro z
    exact cl (by rw [c4, z]; rfl)
  · rw [c4] at cl
    have hl := (oI_iff (fun p hp => by have := hW.2.2.2.2 p hp; omega)).mp cl
    have e0 : bDo N A K a p c s = if a = 4 then some (s.1, s.2.1, s.2.2.1, s.2.2.2.1 + p, s.2.2.2.2) else if N ≤ p then none else if a = 0 then (if s.1.2.1 p = A then (if (dTake N p s.1).1 = none then none else some ((dTake N p s.1).2, s.2)) else none) else if a = 1 then (if s.1.2.1 p = A + 1 ∧ 0 < s.1.1 p c then some (dHand p c s.1, s.2) else none) else if a = 2 then bReach N A K p s else some (s.1, s.2.1, s.2.2.1, s.2.2.2.1, s.2.2.2.2.1 + 1, s.2.2.2.2.2) := by
      unfold bDo; rw [if_neg (fun z => z hl)]
    refine ⟨fun z4 => ?_, fun z4 => ?_⟩
    · have ea := inj 4 (by omega) z4
      rw [if_pos ea] at e0
      refine ⟨fun z => ?_, fun z => ?_, fun z => ?_, fun z => ?_, fun _ D7 e7 => ⟨_, rfl, ?_⟩⟩
      · have := inj 0 (by omega) z; omega
      · have := inj 1 (by omega) z; omega
      · have := inj 2 (by omega) z; omega
      · have := inj 3 (by omega) z; omega
      · obtain ⟨o7, f7⟩ := mf e7
        rw [c1, nI_add] at f7
        refine h1 D7 _ (o7.m (by omega) (by omega)) e0 ⟨⟨by rw [o7.2 27 (by omega)]; exact a1, by rw [o7.2 29 (by omega)]; exact a2, by rw [o7.2 30 (by omega)]; exact a3, by rw [o7.2 31 (by omega)]; exact a4⟩, b.fr o7 (by omega), f7, by rw [o7.2 48 (by omega)]; exact c2, by rw [o7.2 49 (by omega)]; exact c3, by rw [o7.2 50 (by omega)]; exact c4, ⟨x, c5, by rw [o7.2 53 (by omega)]; exact c6, c7⟩, fun i c hc => by rw [(o7.1 351 (by omega) (by omega)).1]; exact c8 i c hc, fun i hi => by rw [(o7.1 352 (by omega) (by omega)).1]; exact c9 i hi⟩
    · have na : ¬ a = 4 := fun z => z4 (by rw [z]; rfl)
      rw [if_neg na] at e0
      refine c_M_isOne a3 (by omega) (fun qn => z0' ⟨_, rfl, stay ?_⟩) (fun i qn hi hp => z1' ?_)
      · rw [e0]
        refine if_pos ?_
        apply Nat.le_of_not_lt
        intro w
        rw [slot_nI w (by omega)] at qn
        cases qn
      · have ei : p = i := (nI_eq (by omega) (by omega)).mp hp
        have hpN : p < N := by omega
        rw [if_neg (show ¬ N ≤ p by omega)] at e0
        have i22 : vp_in (nI p) (xl (325 + 22)) := by rw [l22]; exact vp_in_nI (by omega) (by omega)
        have b1 := hW.1.sz hpN
        have hs : D.1 (325 + 22) p = nI (s.1.2.1 p) := b.2.1 p hpN
        rw [nI_clamp (n := p) (by omega), hs, a2]
        refine ⟨fun z => ⟨i22, fun y => ⟨_, rfl, stay ?_⟩, fun y => ?_⟩, fun z => ⟨i22, fun y => ⟨_, rfl, stay ?_⟩, fun y => ?_⟩, fun z => ?_, fun z D7 e7 => ⟨_, rfl, ?_⟩, fun z => ?_⟩
        · rw [e0, if_pos (inj 0 (by omega) z), if_neg (fun w => y (by rw [w]))]
        · rw [if_pos (inj 0 (by omega) z), if_pos ((nI_eq (by omega) (by omega)).mp y)] at e0
          refine c_M_comes b hN hpN (fun D8 o8 hD8 => ?_)
          cases hx : (dTake N p s.1).1 with
          | none =>
            rw [if_pos hx] at e0
            exact ⟨fun _ => ⟨_, rfl, h0 D8 (o8.m (by omega) (by omega)) e0⟩, fun w => absurd rfl w⟩
          | some v =>
            have hv := ((dW_take hW.1 hK hpN).2 v hx).1
            rw [if_neg (by rw [hx]; exact fun w => by cases w)] at e0
            exact ⟨fun w => absurd w (fun w => nI_pos (n := v) (by omega) (by rw [show nI v = -1 from w]; decide)), fun _ => ⟨_, rfl, h1 D8 _ (o8.m (by omega) (by omega)) e0 (mBs_deal hB0 o8 hD8)⟩⟩
        · have ea := inj 1 (by omega) z
          rw [if_neg (by omega), if_pos ea] at e0
          rw [e0, if_neg]
          intro w
          exact y (by rw [w.1, nI_1])
        · have ea := inj 1 (by omega) z
          rw [if_neg (by omega), if_pos ea] at e0
          rw [nI_1] at y
          have ey := (nI_eq (by omega) (by omega)).mp y
          obtain ⟨y1, y2⟩ := q4 ea
          have bh := hW.1.hd hpN y2
          rw [show β (1 + 3 * k + 2) = nI c from y1, ix13', nI_clamp (n := 13 * p + c) (by omega), show D.1 (325 + 21) (13 * p + c) = nI (s.1.1 p c) from b.1 p hpN c y2]
          refine ⟨by rw [l21]; exact vp_in_nI (by omega) (by omega), fun w => ?_, fun w => ⟨_, rfl, stay ?_⟩⟩
          · have e2 : 0 < s.1.1 p c := Nat.pos_of_ne_zero (fun u => w (by rw [u]; rfl))
            obtain ⟨w1, w2, w3, w4⟩ := dW_hand hW.1 hK hpN e2
            rw [if_pos ⟨ey, e2⟩] at e0
            exact c_M_goesOn b a4 hN hpN y2 e2 w2 w3 (fun D8 o8 hD8 => ⟨_, rfl, h1 D8 _ (o8.m (by omega) (by omega)) e0 (mBs_deal hB0 o8 hD8)⟩)
          · rw [e0, if_neg]
            intro u
            exact nI_ne0 u.2 (by omega) w
        · have ea := inj 2 (by omega) z
          rw [if_neg (by omega), if_neg (by omega), if_pos ea] at e0
          exact c_M_reaches hB0 hN hK hA hW hl hpN (fun D8 s8 o8 q8 hB8 => ⟨Or.inr rfl, _, rfl, h1 D8 s8 o8 (by rw [e0]; exact q8) hB8⟩) (fun q8 => ⟨Or.inl rfl, _, rfl, stay (by rw [e0]; exact q8)⟩)
        · have ea := inj 3 (by omega) z
          rw [if_neg (by omega), if_neg (by omega), if_neg (by omega)] at e0
          obtain ⟨o7, f7⟩ := mf e7
          rw [c2, nI_1] at f7
          refine h1 D7 _ (o7.m (by omega) (by omega)) e0 ⟨⟨by rw [o7.2 27 (by omega)]; exact a1, by rw [o7.2 29 (by omega)]; exact a2, by rw [o7.2 30 (by omega)]; exact a3, by rw [o7.2 31 (by omega)]; exact a4⟩, b.fr o7 (by omega), by rw [o7.2 47 (by omega)]; exact c1, f7, by rw [o7.2 49 (by omega)]; exact c3, by rw [o7.2 50 (by omega)]; exact c4, ⟨x, c5, by rw [o7.2 53 (by omega)]; exact c6, c7⟩, fun i c hc => by rw [(o7.1 351 (by omega) (by omega)).1]; exact c8 i c hc, fun i hi => by rw [(o7.1 352 (by omega) (by omega)).1]; exact c9 i hi⟩
        · rw [nI_toInt (by omega)] at z
          omega
end MDOES
section MPLAY
variable {d : Nat} {D : xD} {n : Nat} {τ : Nat → Int32}
theorem c_M_beginBook {P : xD → Prop} {c : Nat → Nat} (hT : tOK τ) (h2 : 2 ≤ tN τ 5) (H : mH D τ) (S : mSit D τ) (pk : mPk D n c) (hn : n ≤ 52) (hc : ∀ j, j < n → c j < tN τ 0) (hA : tN τ 2 * tN τ 5 < n)
    (h : ∀ D', mF 346 353 47 54 D D' → mBs D' (tN τ 5) (tN τ 2) (tN τ 0) (bInit τ n c) → P D') : xCv (d + 3) m_M_beginBook [.ref 325] D P := by
  have l27 : xl (325 + 27) = 6 := cl_13_52 xk_M
  have hK := hT.2.1.2
  have hN := hT.2.2.2.2.2.2.1
  have hA4 := hT.2.2.2.1.2
  have e27 : D.1 325 27 = nI (tN τ 0) := by rw [H.2.1]; exact hT.1 0 (by omega)
  have e29 : D.1 325 29 = nI (tN τ 2) := by rw [H.2.2.2.1]; exact hT.1 2 (by omega)
  have e30 : D.1 325 30 = nI (tN τ 5) := by rw [H.2.2.2.2]; exact hT.1 5 (by omega)
  refine xCv_of y_M_beginBook (Nat.le_of_ble_eq_true rfl) (s_M_beginBook_0 xk_M ?_)
  refine c_M_deal e29 S.1 (by omega) hN hA4 pk hn (fun j hj => by have := hc j hj; omega) hA (fun D1 o1 hD1 => ?_)
  intro D2 e2 D3 e3 D4 e4 D5 e5 D6 e6
  obtain ⟨o2, f2⟩ := mf e2
  obtain ⟨o3, f3⟩ := mf e3
  obtain ⟨o4, f4⟩ := mf e4
  obtain ⟨o5, f5⟩ := mf e5
  obtain ⟨o6, f6⟩ := mf e6
  have o : mF 0 0 47 54 D1 D6 := (o2.m (by omega) (by omega)).trans ((o3.m (by omega) (by omega)).trans ((o4.m (by omega) (by omega)).trans ((o5.m (by omega) (by omega)).trans (o6.m (by omega) (by omega)))))
  have o06 : mF 346 353 47 54 D D6 := (o1.m (by omega) (by omega)).trans (o.m (by omega) (by omega))
  have hD6 := hD1.fr o (by omega)
  have g47 : D6.1 325 47 = 0 := by rw [o6.2 47 (by omega), o5.2 47 (by omega), o4.2 47 (by omega), o3.2 47 (by omega)]; exact f2
  have g48 : D6.1 325 48 = 0 := by rw [o6.2 48 (by omega), o5.2 48 (by omega), o4.2 48 (by omega)]; exact f3
  have g49 : D6.1 325 49 = 0 := by rw [o6.2 49 (by omega), o5.2 49 (by omega)]; exact f4
  have g50 : D6.1 325 50 = -1 := by rw [o6.2 50 (by omega)]; exact f5
  have key : ∀ m j, j + m = 6 → ∀ D', mF 352 353 0 0 D6 D' → (∀ i, i < j → D'.1 352 i = 0) → xPf (d + 3) m_M_beginBook 31 [(0, .ref 325), (1, .int (nI j))] [] D' (fun r D' => r = none ∧ P D') := by
    intro m
    induction m with
    | zero =>
      intro j hj D' o' hz
      refine s_M_beginBook_31 xk_M ⟨fun _ => ⟨rfl, h D' (o06.trans (o'.m (by omega) (by omega))) ?_⟩, fun z => absurd (nI_le (a := 6) (by omega) (by omega)) z⟩
      refine ⟨⟨by rw [o'.2 27 (by omega), o06.2 27 (by omega)]; exact e27, by rw [o'.2 29 (by omega), o06.2 29 (by omega)]; exact e29, by rw [o'.2 30 (by omega), o06.2 30 (by omega)]; exact e30, by rw [o'.2 31 (by omega), o06.2 31 (by omega)]; exact S.1⟩, hD6.fr o' (by omega), by rw [o'.2 47 (by omega)]; exact g47, by rw [o'.2 48 (by omega)]; exact g48, by rw [o'.2 49 (by omega)]; exact g49, by rw [o'.2 50 (by omega)]; exact g50, ⟨0, by omega, by rw [o'.2 53 (by omega)]; exact f6, fun i => by rw [Nat.zero_testBit]; simp [bInit]⟩, fun i c hc => by simp [bInit] at hc, fun i hi => by rw [hz i (by omega)]; rfl⟩
    | succ m ih =>
      intro j hj D' o' hz
      refine s_M_beginBook_31 xk_M ?_
      rw [nI_clamp (n := j) (by omega), nI_1]
      refine ⟨fun z => absurd z (nI_ge (b := 6) (by omega) (by omega)), fun _ => ⟨by rw [l27]; exact vp_in_nI (by omega) (by omega), fun D7 e7 => ?_⟩⟩
      obtain ⟨o7, v7⟩ := ma (by omega) e7
      have v7' : ∀ i, D7.1 352 i = if i = j then 0 else D'.1 352 i := v7
      refine ih (j + 1) (by omega) D7 (o'.trans o7) (fun i hi => ?_)
      rw [v7']
      by_cases z : i = j
      · rw [if_pos z]
      · rw [if_neg z]; exact hz i (by omega)
  exact key 6 0 (by omega) D6 mF.rfl' (fun i hi => absurd hi (Nat.not_lt_zero _))
theorem c_M_play {P : Int32 → xD → Prop} {M : Nat} {c : Nat → Nat} {β : Nat → Int32} (hT : tOK τ) (h2 : 2 ≤ tN τ 5) (H : mH D τ) (S : mSit D τ) (pk : mPk D n c) (hn : n ≤ 52) (hc : ∀ j, j < n → c j < tN τ 0) (hA : tN τ 2 * tN τ 5 < n) (Bk : mBk D β) (hO : bOK β) (hM : M ≤ tN β 0)
    (h : ∀ D', mF 346 353 47 54 D D' → (∀ s, bRun (tN τ 5) (tN τ 2) (tN τ 0) β (bInit τ n c) M = some s → mBs D' (tN τ 5) (tN τ 2) (tN τ 0) s) → P (nI (bMany (tN τ 5) (tN τ 2) (tN τ 0) β (bInit τ n c) M)) D') : xCi (d + 4) m_M_play [.ref 325, .int (nI M)] D P := by
  have hK := hT.2.1.2
  have hN := hT.2.2.2.2.2.2.1
  have hA4 := hT.2.2.2.1.2
  have m40 := (bOK_len hO).1
  have hW0 := bW_init hT h2 hn hA hc
  refine xCi_of y_M_play (Nat.le_of_ble_eq_true rfl) (s_M_play_0 xk_M ?_)
  refine c_M_beginBook hT h2 H S pk hn hc hA (fun D1 o1 B1 => ?_)
  generalize hs0 : bInit τ n c = s0 at *
  have key : ∀ m j, j + m = M → ∀ D' s, mF 346 353 47 54 D D' → bRun (tN τ 5) (tN τ 2) (tN τ 0) β s0 j = some s → mBs D' (tN τ 5) (tN τ 2) (tN τ 0) s →
      xPf (d + 4) m_M_play 6 [(0, .ref 325), (1, .int (nI M)), (2, .int (nI j))] [] D' (fun r D' => ∃ v, r = some (.int v) ∧ P v D') := by
    intro m
    induction m with
    | zero =>
      intro j hj D' s o hs hB'
      have ej : j = M := by omega
      subst ej
      refine s_M_play_6 xk_M ⟨fun _ => ⟨_, rfl, ?_⟩, fun z => absurd (nI_le (by omega) (by omega)) z⟩
      have := h D' o (fun s' hs' => by rw [hs] at hs'; cases hs'; exact hB')
      rw [bMany_at (by rw [hs]; exact fun z => by cases z)] at this
      exact this
    | succ m ih =>
      intro j hj D' s o hs hB'
      have hW := bRun_ok (n := n) hK hW0 hs
      have er1 : bRun (tN τ 5) (tN τ 2) (tN τ 0) β s0 (j + 1) = bDo (tN τ 5) (tN τ 2) (tN τ 0) (bEnt β j 0) (bEnt β j 1) (bEnt β j 2) s := by rw [bRun, hs]
      refine s_M_play_6 xk_M ⟨fun z => absurd z (nI_ge (by omega) (by omega)), fun _ => ?_⟩
      refine c_M_does hB' (Bk.fr o (by omega) (by omega)) hO (by omega) hN hK hA4 hW (fun D2 s2 o2 q hB2 => z1 ?_) (fun D2 o2 q => z0 ⟨_, rfl, ?_⟩)
      · rw [nI_1]
        exact ih (j + 1) (by omega) D2 s2 (o.trans o2) (by rw [er1]; exact q) hB2
      · have hno : bRun (tN τ 5) (tN τ 2) (tN τ 0) β s0 (j + 1) = none := by rw [er1]; exact q
        have hstop := bMany_stop (by rw [hs]; exact fun z => by cases z) hno m
        rw [show j + 1 + m = M by omega] at hstop
        have hnone := bRun_none hno m
        rw [show j + 1 + m = M by omega] at hnone
        have := h D2 (o.trans o2) (fun s' hs' => by rw [hnone] at hs'; cases hs')
        rw [hstop] at this
        exact this
  exact key M 0 (by omega) D1 s0 o1 rfl B1
end MPLAY
