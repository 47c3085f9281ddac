/-! The reference: an evening is played. -/
theorem sm_bnd {f : Nat → Nat} {b : Nat} (h : ∀ c, f c ≤ b) : ∀ n, sm f n ≤ n * b := by
  intro n
  induction n with
  | zero => exact Nat.zero_le _
  | succ n ih =>
    have := h n
    rw [sm, Nat.succ_mul]; omega
theorem sm_zero : ∀ n, sm (fun _ => 0) n = 0 := by
  intro n
  induction n with
  | zero => rfl
  | succ n ih => rw [sm, ih]
theorem mEv.lk {D D' : xD} {τ : Nat → Int32} {s : nS} (V : mEv D τ s) (o : mLk D D') : mEv D' τ s := by
  obtain ⟨H, W, S, vl, vo, v61, v62⟩ := V
  exact ⟨H.lk o, W.lk o, S.lk o, fun q hq => by rw [(o.1 352 (by omega) (by omega) (by omega) (by omega) (by omega) (by omega)).1]; exact vl q hq, fun q hq => by rw [(o.1 355 (by omega) (by omega) (by omega) (by omega) (by omega) (by omega)).1]; exact vo q hq, by rw [o.2 61 (by omega) (by omega) (by omega) (by omega)]; exact v61, by rw [o.2 62 (by omega) (by omega) (by omega) (by omega)]; exact v62⟩
theorem nV_init {τ : Nat → Int32} (hT : tOK τ) (seed : Int32) : nV τ 0 (nInit τ seed) := by
  have b3 := hT.2.2.2.2.1
  refine ⟨fun c hc => List.mem_range.mp hc, ?_, List.nodup_range, fun c _ => ?_, fun c => Nat.zero_le _, sm_zero _, rfl, fun g hg => by cases hg⟩
  · show (List.range (tN τ 5)).length ≤ _
    rw [List.length_range]; exact Nat.le_refl _
  · show 0 < tN τ 3
    omega
theorem range_getD {n j : Nat} (h : j < n) : (List.range n).getD j 0 = j := by
  rw [List.getD_eq_getElem?_getD, List.getElem?_range h]; rfl
section MEVENING
variable {d : Nat} {D : xD} {g : gS} {τ : Nat → Int32}
theorem c_M_playEvening {P : xD → Prop} {seed : Int32} (hT : tOK τ) (hL : tLaw τ) (hF : tFit τ) (H : mH D τ) (S : mSit D τ) (W : mWho D (tN τ 5) (fun p => p)) (e59 : D.1 325 59 = seed)
    (h : ∀ D' i, mEO D D' → mEv D' τ (nEnd τ seed) → nV τ i (nEnd τ seed) → P D') : xCv (d + 6) m_M_playEvening [.ref 325] D P := by
  have l27 : xl (325 + 27) = 6 := cl_13_52 xk_M
  have l30 : xl (325 + 30) = 6 := cl_13_60 xk_M
  have hN := hT.2.2.2.2.2.2.1
  have b3 := hT.2.2.2.2.1
  have p52 := pack_le hT
  refine xCv_of y_M_playEvening (Nat.le_of_ble_eq_true rfl) (s_M_playEvening_0 xk_M (fun D1 e1 D2 e2 => ?_))
  obtain ⟨o1, f1⟩ := mf e1
  obtain ⟨o2, f2⟩ := mf e2
  have o12 : mF 0 0 61 63 D D2 := (o1.m (by omega) (by omega)).trans (o2.m (by omega) (by omega))
  have fin0 : ∀ D' s i, mEO D D' → mEv D' τ s → nV τ i s → s = nEnd τ seed → xPf (d + 6) m_M_playEvening 40 [(0, .ref 325), (1, .int (0 : Int32))] [] D' (fun r D' => r = none ∧ P D') := by
    intro D' s i o V nv es
    rw [es] at V nv
    exact s_M_playEvening_40 xk_M ⟨fun _ => ⟨rfl, h D' i o V nv⟩, fun z => absurd rfl z⟩
  have main : ∀ F i, i + F = 100 → ∀ D' s, mEO D D' → mEv D' τ s → D'.1 325 59 = s.1 → nV τ i s → nRun τ F s = nEnd τ seed → xPf (d + 6) m_M_playEvening 40 [(0, .ref 325), (1, .int (1 : Int32))] [] D' (fun r D' => r = none ∧ P D') := by
    intro F
    induction F with
    | zero =>
      intro i hi D' s o V q59 nv er
      exfalso
      have b := sm_bnd nv.2.2.2.2.1 (tN τ 5)
      rw [nv.2.2.2.2.2.1] at b
      have : tN τ 5 * tN τ 3 ≤ 6 * 9 := Nat.mul_le_mul hN b3.2
      omega
    | succ F ih =>
      intro i hi D' s o V q59 nv er
      obtain ⟨n1, n2, n3, n4, n5, n6, n7, n8⟩ := id nv
      have s31 : D'.1 325 31 = nI s.2.2.2.1.length := by rw [V.2.2.1.1]; exact congrArg nI (tSeats_5 _ _ (by omega))
      refine s_M_playEvening_40 xk_M ⟨fun z => absurd z (by decide), fun _ => ?_⟩
      rw [s31]
      refine ⟨fun z => ⟨rfl, ?_⟩, fun z => ?_⟩
      · have l1 := (nI_leI (b := 1) (by omega) (by omega)).mp z
        rw [nRun_1 l1] at er
        rw [er] at V nv
        exact h D' i o V nv
      · have l2 : 2 ≤ s.2.2.2.1.length := Nat.lt_of_not_le (fun w => z (nI_le (b := 1) w (by omega)))
        obtain ⟨cT, cL, cF, c5, c0, c1, c2⟩ := nTab_ok hT hL hF l2 n2 n1
        rw [nRun_s, if_neg (by omega)] at er
        refine c_M_shuffle hT V.1.2.1 V.1.2.2.1 q59 (fun D3 s3 pk x3 => ?_)
        have V3 := V.lk s3.lk
        have cF2 := cF.2
        rw [c0, c1] at cF2
        have eR : rGo (nTab τ s.2.2.2.1) (tN τ 0 * tN τ 1) (shC τ s.1).1 tTop = nRho τ s := rfl
        have eS : nStep τ s = nNext τ s (nRho τ s).2.2.1 := rfl
        refine c_M_ends cT cL V3.2.2.1 (by rw [c0, V3.1.2.1]; exact hT.1 0 (by omega)) (by rw [c2, V3.1.2.2.2.1]; exact hT.1 2 (by omega)) (by omega) pk p52 (fun j hj => by rw [c0]; exact shC_lt hT _ hj) cF2 (fun e D4 r4 G4 f54 f56 => z0 ?_) (fun f e D4 r4 G4 f54 f55 f56 fs => z1 ?_)
        · rw [eR] at e
          rw [e] at eS
          have e1 : (nStep τ s).2 = false := by rw [eS]; rfl
          have e2 : (nStep τ s).1 = ((shC τ s.1).2, s.2) := by rw [eS]; rfl
          rw [if_neg (by rw [e1]; exact Bool.false_ne_true), e2] at er
          exact fin0 D4 ((shC τ s.1).2, s.2) i (o.trans (s3.eo.trans r4.eo)) (V3.lk r4.lk) nv er
        · rw [eR] at e f56
          rw [e] at eS
          rw [c5] at f56
          have hq := tLast_lt (nTab τ s.2.2.2.1) f (nRho τ s).2.2.2 s.2.2.2.1.length (by omega)
          have e1 : (nStep τ s).2 = true := by rw [eS]; rfl
          have e2 : (nStep τ s).1 = nLet τ (shC τ s.1).2 s (tLast (nTab τ s.2.2.2.1) f (nRho τ s).2.2.2 s.2.2.2.1.length) := by rw [eS]; rfl
          rw [if_pos e1, e2] at er
          have hi20 : i < 2 ^ 20 := by omega
          refine c_M_letter (x := (shC τ s.1).2) hT (V3.lk r4.lk) f56 hq nv hi20 (fun D5 o5 q5 V5 => ?_)
          refine ih (i + 1) (by omega) D5 _ (o.trans (s3.eo.trans (r4.eo.trans o5))) V5 ?_ (nV_let nv hq) er
          rw [q5, r4.2 59 (by omega), x3]
          unfold nLet
          split <;> rfl
  have zero : ∀ m j, j + m = 6 → ∀ D', mEO D D' → mH D' τ → mSit D' τ → mWho D' (tN τ 5) (fun p => p) → D'.1 325 59 = seed → D'.1 325 61 = 0 → D'.1 325 62 = -1 → (∀ i, i < j → D'.1 352 i = 0 ∧ D'.1 355 i = -1) → xPf (d + 6) m_M_playEvening 12 [(0, .ref 325), (1, .int (nI j))] [] D' (fun r D' => r = none ∧ P D') := by
    intro m
    induction m with
    | zero =>
      intro j hj D' o H' S' W' q59 q61 q62 hz
      refine s_M_playEvening_12 xk_M ⟨fun _ => main 100 0 (by omega) D' (nInit τ seed) o ⟨H', ?_, ?_, fun q hq => ?_, fun q hq => ?_, q61, q62⟩ q59 (nV_init hT seed) (by unfold nEnd; rw [tHun_is]), fun z => absurd (nI_le (a := 6) (by omega) (by omega)) z⟩
      · show mWho D' (List.range (tN τ 5)).length (fun i => (List.range (tN τ 5)).getD i 0)
        intro i hi
        rw [List.length_range] at hi
        show D'.1 338 i = nI ((List.range (tN τ 5)).getD i 0)
        rw [range_getD hi]; exact W' i hi
      · have e5 : tN (nTab τ (List.range (tN τ 5))) 5 = tN τ 5 := (tSeats_5 _ _ (by rw [List.length_range]; omega)).trans List.length_range
        show mSit D' (nTab τ (List.range (tN τ 5)))
        refine ⟨by rw [e5]; exact S'.1, fun i hi w hw => ?_⟩
        rw [e5] at hi
        show _ = tSeats τ (fun i => (List.range (tN τ 5)).getD i 0) (List.range (tN τ 5)).length (6 + 7 * i + w)
        rw [tSeats_p _ _ _ (by omega), range_getD hi]; exact S'.2 i hi w hw
      · exact (hz q (by omega)).1
      · exact (hz q (by omega)).2
    | succ m ih =>
      intro j hj D' o H' S' W' q59 q61 q62 hz
      refine s_M_playEvening_12 xk_M ?_
      rw [nI_clamp (n := j) (by omega), nI_1]
      refine ⟨fun z => absurd z (nI_ge (b := 6) (by omega) (by omega)), fun _ => ⟨by rw [l27]; exact vp_in_nI (by omega) (by omega), fun D3 e3 => ⟨by rw [l30]; exact vp_in_nI (by omega) (by omega), fun D4 e4 => ?_⟩⟩⟩
      obtain ⟨o3, v3⟩ := ma (by omega) e3
      obtain ⟨o4, v4⟩ := ma (by omega) e4
      have v3' : ∀ i, D3.1 352 i = if i = j then 0 else D'.1 352 i := v3
      have v4' : ∀ i, D4.1 355 i = if i = j then -1 else D3.1 355 i := v4
      refine ih (j + 1) (by omega) D4 (o.trans ((o3.eo (by omega) (by omega)).trans (o4.eo (by omega) (by omega)))) ((H'.fr o3 (by omega) (by omega)).fr o4 (by omega) (by omega)) ((S'.fr o3 (by omega) (by omega)).fr o4 (by omega) (by omega)) ((W'.fr o3 (by omega)).fr o4 (by omega)) (by rw [o4.2 59 (by omega), o3.2 59 (by omega)]; exact q59) (by rw [o4.2 61 (by omega), o3.2 61 (by omega)]; exact q61) (by rw [o4.2 62 (by omega), o3.2 62 (by omega)]; exact q62) (fun i hi => ?_)
      rw [(o4.1 352 (by omega) (by omega)).1, v3', v4', (o3.1 355 (by omega) (by omega)).1]
      by_cases z : i = j
      · rw [if_pos z, if_pos z]; exact ⟨rfl, rfl⟩
      · rw [if_neg z, if_neg z]; exact hz i (by omega)
  exact zero 6 0 (by omega) D2 (o12.eo (by omega) (by omega)) (H.fr o12 (by omega) (by omega)) (S.fr o12 (by omega) (by omega)) (W.fr o12 (by omega)) (by rw [o12.2 59 (by omega)]; exact e59) (by rw [o2.2 61 (by omega)]; exact f1) f2 (fun i hi => absurd hi (Nat.not_lt_zero _))
theorem c_M_evening {P : Int32 → xD → Prop} {x seed w : Int32} (hI : mI D g) (h : ∀ D', mO D D' → P (aEvening g.1 x seed w) D') : xCi (d + 40) m_M_evening [.ref 325, .int x, .int seed, .int w] D P := by
  have l13 : xl (325 + 13) = 6 := cl_13_32 xk_M
  have l27 : xl (325 + 27) = 6 := cl_13_52 xk_M
  have l30 : xl (325 + 30) = 6 := cl_13_60 xk_M
  refine xCi_of y_M_evening (Nat.le_of_ble_eq_true rfl) (s_M_evening_0 xk_M (fun D1 e1 => ?_))
  obtain ⟨o1, I1⟩ := m_0 hI e1
  unfold aEvening at h
  refine c_M_hand I1 (fun q1 => z0 ⟨_, rfl, ?_⟩) (fun τ q1 hT hL hF D2 o2 I2 H2 S2 W2 => z1 ?_)
  · rw [q1] at h; exact h D1 o1
  simp only [q1] at h
  have o12 := o1.trans (o2.o (by omega))
  have hN := hT.2.2.2.2.2.2.1
  have e30 : D2.1 325 30 = nI (tN τ 5) := by rw [H2.2.2.2.2]; exact hT.1 5 (by omega)
  have play : ∀ {Q : xD → Prop} {D3 : xD}, D3 = (xu D2.1 325 59 seed, D2.2) → (∀ D' i, mO D D' → mEv D' τ (nEnd τ seed) → nV τ i (nEnd τ seed) → Q D') → xCv (d + 39) m_M_playEvening [.ref 325] D3 Q := by
    intro Q D3 e3 hQ
    obtain ⟨o3, f3⟩ := mf e3
    exact c_M_playEvening hT hL hF (H2.fr o3 (by omega) (by omega)) (S2.fr o3 (by omega) (by omega)) (W2.fr o3 (by omega)) f3 (fun D' i o V nv => hQ D' i (o12.trans ((o3.o (by omega)).trans o.o)) V nv)
  have i0 : vp_in (0 : Int32) (xl (325 + 13)) := by rw [l13]; exact vp_in_nI (n := 0) (by omega) (by omega)
  refine c_M_in0 3 (by omega) (by decide) (fun q => z0' ?_) (fun k q hk ew => z1' (fun D6 e6 => play e6 (fun D7 i o7 V nv => ?_)))
  · refine c_M_inR 10 (tN τ 5) (by omega) (by omega) rfl (by rw [e30, show (9 : Int32) = nI 9 from rfl, nI_add, nI_1]; congr 1; omega) (fun p hp ew => z1' (fun D6 e6 => play e6 (fun D7 i o7 V nv => ?_))) (fun n10 => z0' (c_M_inR 20 (tN τ 5) (by omega) (by omega) rfl (by rw [e30, show (19 : Int32) = nI 19 from rfl, nI_add, nI_1]; congr 1; omega) (fun p hp ew => z1' (fun D6 e6 => play e6 (fun D7 i o7 V nv => ?_))) (fun n20 => z0' ⟨_, rfl, ?_⟩)))
    · have := h D7 o7
      rw [ew, per_10 hN hp] at this
      simp only [] at this
      rw [if_neg (show ¬ (20 : Int32) ≤ nI (10 + p) from nI_ge (b := 20) (by omega) (by omega))] at this
      rw [ew, show nI (10 + p) - (10 : Int32) = nI (10 + p - 10) from pk_sub (b := 10) (by omega), Nat.add_sub_cancel_left, nI_clamp (n := p) (by omega), show D7.1 (325 + 27) p = _ from V.2.2.2.1 p hp]
      refine ⟨fun c => ?_, fun c => ?_, fun c => ?_, fun _ => ⟨fun c => absurd c (nI_ge (b := 20) (by omega) (by omega)), fun _ => ⟨by rw [l27]; exact vp_in_nI (by omega) (by omega), _, rfl, this⟩⟩⟩
      · have := (nI_eq (b := 0) (by omega) (by omega)).mp c; omega
      · have := (nI_eq (b := 1) (by omega) (by omega)).mp c; omega
      · have := (nI_eq (b := 2) (by omega) (by omega)).mp c; omega
    · have := h D7 o7
      rw [ew, per_20 hN hp] at this
      simp only [] at this
      rw [if_pos (show (20 : Int32) ≤ nI (20 + p) from nI_le (a := 20) (by omega) (by omega))] at this
      rw [ew, show nI (20 + p) - (20 : Int32) = nI (20 + p - 20) from pk_sub (b := 20) (by omega), Nat.add_sub_cancel_left, nI_clamp (n := p) (by omega), show D7.1 (325 + 30) p = _ from V.2.2.2.2.1 p hp]
      refine ⟨fun c => ?_, fun c => ?_, fun c => ?_, fun _ => ⟨fun _ => ⟨by rw [l30]; exact vp_in_nI (by omega) (by omega), _, rfl, this⟩, fun c => absurd (nI_le (a := 20) (by omega) (by omega)) c⟩⟩
      · have := (nI_eq (b := 0) (by omega) (by omega)).mp c; omega
      · have := (nI_eq (b := 1) (by omega) (by omega)).mp c; omega
      · have := (nI_eq (b := 2) (by omega) (by omega)).mp c; omega
    · rw [per_no hN n10 n20] at h
      simp only [q] at h
      exact h D2 o12
  · have := h D7 o7
    have n10 : ∀ p, p < tN τ 5 → w ≠ nI (10 + p) := fun p hp y => by
      rw [ew] at y
      have := (nI_eq (by omega) (by omega)).mp y
      omega
    have n20 : ∀ p, p < tN τ 5 → w ≠ nI (20 + p) := fun p hp y => by
      rw [ew] at y
      have := (nI_eq (by omega) (by omega)).mp y
      omega
    rw [per_no hN n10 n20] at this
    simp only [q] at this
    have hle := nv.2.1
    have s31 : D7.1 325 31 = nI (nEnd τ seed).2.2.2.1.length := by rw [V.2.2.1.1]; exact congrArg nI (tSeats_5 _ _ (by omega))
    have inj : ∀ u : Nat, u < 10 → nI k = nI u → k = u := fun u hu q => (nI_eq (by omega) (by omega)).mp q
    unfold nAns at this
    rw [ew]
    refine ⟨fun c => ?_, fun c => ⟨_, rfl, ?_⟩, fun c => ⟨_, rfl, ?_⟩, fun c => ?_⟩
    · rw [if_pos (inj 0 (by omega) c)] at this
      unfold nWin at this
      rw [s31]
      refine ⟨fun y => ⟨_, rfl, ?_⟩, fun y => ⟨i0, _, rfl, ?_⟩⟩
      · rw [if_neg (fun z => y (by rw [z]; rfl))] at this; exact this
      · have l1 := (nI_eq (b := 1) (by omega) (by omega)).mp y
        rw [if_pos l1] at this
        rw [show D7.1 (325 + 13) ((0 : Int32)).toNatClampNeg = _ from V.2.1 0 (by omega)]; exact this
    · have e1 := inj 1 (by omega) c
      rw [if_neg (by omega), if_pos e1] at this
      rw [V.2.2.2.2.2.1]; exact this
    · have e2 := inj 2 (by omega) c
      rw [if_neg (by omega), if_neg (by omega)] at this
      rw [V.2.2.2.2.2.2]; exact this
    · rw [nI_toInt (by omega)] at c
      omega
end MEVENING
