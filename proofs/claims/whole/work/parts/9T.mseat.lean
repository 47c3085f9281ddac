/-! The reference: a table as it would be. -/
theorem mSit.setw {D D' : xD} {τ : Nat → Int32} {p w : Nat} {v : Int32} (S : mSit D τ) (hw : w < 6) (o : mF (339 + w) (340 + w) 0 0 D D') (e : ∀ j, D'.1 (339 + w) j = if j = p then v else D.1 (339 + w) j) : mSit D' (tSet τ (6 + 7 * p + w) v) := by
  refine ⟨by rw [tN_set _ _ (by omega), o.2 31 (by omega)]; exact S.1, fun i hi u hu => ?_⟩
  rw [tN_set _ _ (by omega)] at hi
  rw [tSet_p _ _ (by omega) (by omega)]
  by_cases z : u = w
  · subst z
    rw [e]
    by_cases y : i = p
    · rw [if_pos y, if_pos ⟨y, rfl⟩]
    · rw [if_neg y, if_neg (fun x => y x.1)]; exact S.2 i hi u hu
  · rw [if_neg (fun x => z x.2), (o.1 (339 + u) (by omega) (by omega)).1]; exact S.2 i hi u hu
theorem tSet_self (τ : Nat → Int32) (j : Nat) : tSet τ j (τ j) = τ := by
  funext i
  unfold tSet
  by_cases z : i = j
  · rw [if_pos z, z]
  · rw [if_neg z]
theorem whoAt_inj {p s i j : Nat} (h : whoAt p s i = whoAt p s j) : i = j := by
  unfold whoAt at h
  split at h <;> split at h <;> (try split at h) <;> (try split at h) <;> (try split at h) <;> (try split at h) <;> omega
theorem whoAt_s {p s : Nat} : whoAt p s s = p := if_pos rfl
theorem tLast_same {σ ρ : Nat → Int32} {f t : Nat} (h : ∀ p, tSpoon σ p f t = tSpoon ρ p f t) : ∀ n, tLast σ f t n = tLast ρ f t n := by
  intro n
  induction n with
  | zero => rfl
  | succ n ih => rw [tLast, tLast, ih, h, h]
theorem e_same {σ ρ : Nat → Int32} (h : tSame σ ρ) (hp : ∀ p w, 1 ≤ w → w ≤ 3 → tP σ p w = tP ρ p w) (seed : Int32) : (∀ o k, eFst σ seed o k = eFst ρ seed o k) ∧ ∀ q k, eLst σ seed q k = eLst ρ seed q k := by
  have hr := eRho_congr h seed
  refine ⟨fun o k => ?_, fun q k => ?_⟩
  · unfold eFst
    exact eCnt_congr (fun i _ => by rw [hr i])
  · unfold eLst
    refine eCnt_congr (fun i _ => ?_)
    unfold eLastOf
    rw [hr i, h.2.2.2.1]
    cases (eRho ρ seed i).2.2.1 with
    | none => rfl
    | some f =>
      simp only []
      congr 1
      refine tLast_same (fun p => ?_) _
      unfold tSpoon tWait
      rw [hp p 1 (by omega) (by omega), hp p 2 (by omega) (by omega), hp p 3 (by omega) (by omega)]
/-- a KIND of a LAW that asks for none counts for nothing -/
theorem tSet_none {σ : Nat → Int32} {p : Nat} (hL : tLaw σ) (hK : tN σ 0 ≤ 13) (hn : σ (6 + 7 * p + 5) = -1) : tSame σ (tSet σ (6 + 7 * p + 5) 0) ∧ ∀ q w, 1 ≤ w → w ≤ 3 → tP σ q w = tP (tSet σ (6 + 7 * p + 5) 0) q w := by
  refine ⟨⟨(tN_set _ _ (by omega)).symm, (tN_set _ _ (by omega)).symm, (tN_set _ _ (by omega)).symm, (tN_set _ _ (by omega)).symm, fun q hq => ⟨?_, ?_, fun hl => ?_⟩⟩, fun q w h1 h2 => ?_⟩
  · rw [tP_set _ _ (by omega) (by omega), if_neg (by omega)]
  · rw [tP_set _ _ (by omega) (by omega), if_neg (by omega)]
  · rw [tSet_p _ _ (by omega) (by omega)]
    by_cases e : q = p
    · obtain ⟨k, hk, ek⟩ := hL q hq hl
      rw [e, hn] at ek
      exact absurd ek.symm (fun y => nI_pos (n := k) (by omega) (by rw [y]; decide))
    · rw [if_neg (fun y => e y.1)]
  · rw [tP_set _ _ (by omega) (by omega), if_neg (by omega)]
section MSEAT
variable {d : Nat} {D : xD} {g : gS} {τ : Nat → Int32}
theorem c_M_seat {P : xD → Prop} {p s t : Nat} (hT : tOK τ) (T : mTb D t τ) (e30 : D.1 325 30 = nI (tN τ 5)) (hp : p < tN τ 5) (hs : s < tN τ 5) (h : ∀ D', mF 338 345 31 32 D D' → mWho D' (tN τ 5) (whoAt p s) → mSit D' (tSeats τ (whoAt p s) (tN τ 5)) → P D') : xCv (d + 4) m_M_seat [.ref 325, .int (nI p), .int (nI s)] D P := by
  have l13 : xl (325 + 13) = 6 := cl_13_32 xk_M
  have hN := hT.2.2.2.2.2.2.1
  refine xCv_of y_M_seat (Nat.le_of_ble_eq_true rfl) (s_M_seat_0 xk_M ?_)
  have key : ∀ m i, i + m = tN τ 5 → ∀ D', mF 338 339 0 0 D D' → mWho D' i (whoAt p s) → ∀ c, c = (if i ≤ s then i else i - 1) → xPf (d + 4) m_M_seat 5 [(0, .ref 325), (1, .int (nI p)), (2, .int (nI s)), (3, .int (nI (if c ≤ p then c else c + 1))), (4, .int (nI i))] [] D' (fun r D' => r = none ∧ P D') := by
    intro m
    induction m with
    | zero =>
      intro i hi D' o hw c hc
      have ei : i = tN τ 5 := by omega
      subst ei
      refine s_M_seat_5 xk_M ?_
      rw [o.2 30 (by omega), e30]
      refine ⟨fun _ => c_M_sit (T.fr o (by omega) (by omega)) hN hw (fun i hi => by have := whoAt_lt hp hs hi; omega) (fun D2 o2 S2 => ⟨rfl, h D2 ((o.m (by omega) (by omega)).trans (o2.m (by omega) (by omega))) (hw.fr o2 (by omega)) S2⟩), fun z => absurd (nI_le (by omega) (by omega)) z⟩
    | succ m ih =>
      intro i hi D' o hw c hc
      have hcN : c ≤ i := by rw [hc]; split <;> omega
      refine s_M_seat_5 xk_M ?_
      rw [o.2 30 (by omega), e30, nI_clamp (n := i) (by omega), nI_1 i]
      have i13 : vp_in (nI i) (xl (325 + 13)) := by rw [l13]; exact vp_in_nI (by omega) (by omega)
      -- the next one
      have nx : ∀ v c' D2, D2 = (xu D'.1 (325 + 13) i (nI v), D'.2) → v = whoAt p s i → c' = (if i + 1 ≤ s then i + 1 else i + 1 - 1) → xPf (d + 4) m_M_seat 5 [(0, .ref 325), (1, .int (nI p)), (2, .int (nI s)), (3, .int (nI (if c' ≤ p then c' else c' + 1))), (4, .int (nI (i + 1)))] [] D2 (fun r D' => r = none ∧ P D') := by
        intro v c' D2 e2 ev ec
        obtain ⟨o2, v2⟩ := ma (by omega) e2
        have v2' : ∀ j, D2.1 338 j = if j = i then nI v else D'.1 338 j := v2
        refine ih (i + 1) (by omega) D2 (o.trans o2) (fun j hj => ?_) c' ec
        rw [v2']
        by_cases z : j = i
        · rw [if_pos z, z, ev]
        · rw [if_neg z]; exact hw j (by omega)
      refine ⟨fun z => absurd z (nI_ge (by omega) (by omega)), fun _ => ⟨fun y => ⟨fun x => ⟨i13, fun D2 e2 => ?_⟩, fun x => ⟨i13, fun D2 e2 => ?_⟩⟩, fun y => ⟨i13, fun D2 e2 => ?_⟩⟩⟩
      · have ne : i ≠ s := fun z => y (by rw [z])
        have nep : (if c ≤ p then c else c + 1) ≠ p := fun z => x (by rw [z])
        have cp : c ≠ p := fun z => nep (by rw [if_pos (by omega)]; exact z)
        have ez : nI (if c ≤ p then c else c + 1) + (0 : Int32) = nI (if c ≤ p then c else c + 1) := nI_add _ 0
        rw [ez] at e2
        rw [ez, nI_1]
        have ec' : (if c ≤ p then c else c + 1) + 1 = if c + 1 ≤ p then c + 1 else c + 1 + 1 := by
          by_cases w : c ≤ p
          · rw [if_pos w, if_pos (by omega)]
          · rw [if_neg w, if_neg (by omega)]
        rw [ec']
        refine nx _ (c + 1) D2 e2 ?_ ?_
        · unfold whoAt
          rw [if_neg ne]
          have hc' : c = if i < s then i else i - 1 := by
            rw [hc]
            by_cases w : i < s
            · rw [if_pos w, if_pos (by omega)]
            · rw [if_neg w, if_neg (by omega)]
          rw [← hc']
          by_cases w : c < p
          · rw [if_pos w, if_pos (by omega)]
          · rw [if_neg w, if_neg (by omega)]
        · rw [hc]
          by_cases w : i + 1 ≤ s
          · rw [if_pos w, if_pos (by omega)]
          · rw [if_neg w]
            by_cases w2 : i ≤ s
            · omega
            · rw [if_neg w2]; omega
      · have ne : i ≠ s := fun z => y (by rw [z])
        have ecp : c = p := by
          have := (nI_eq (by split <;> omega) (by omega)).mp x
          by_cases w : c ≤ p
          · rw [if_pos w] at this; exact this
          · rw [if_neg w] at this; omega
        have e1 : (if c ≤ p then c else c + 1) = p := by rw [if_pos (by omega)]; exact ecp
        rw [e1, nI_1] at e2
        rw [e1, nI_1, nI_1]
        have ec' : p + 1 + 1 = if c + 1 ≤ p then c + 1 else c + 1 + 1 := by rw [if_neg (by omega), ecp]
        rw [ec']
        refine nx (p + 1) (c + 1) D2 e2 ?_ ?_
        · unfold whoAt
          rw [if_neg ne]
          have hc' : c = if i < s then i else i - 1 := by
            rw [hc]
            by_cases w : i < s
            · rw [if_pos w, if_pos (by omega)]
            · rw [if_neg w, if_neg (by omega)]
          rw [← hc', if_neg (by omega), ecp]
        · rw [hc]
          by_cases w : i + 1 ≤ s
          · rw [if_pos w, if_pos (by omega)]
          · rw [if_neg w]
            by_cases w2 : i ≤ s
            · omega
            · rw [if_neg w2]; omega
      · have es : i = s := (nI_eq (by omega) (by omega)).mp y
        refine nx p c D2 e2 (by rw [es]; exact whoAt_s.symm) ?_
        rw [hc, if_pos (by omega), if_neg (by omega)]; omega
  have := key (tN τ 5) 0 (by omega) D mF.rfl' (fun j hj => absurd hj (Nat.not_lt_zero _)) 0 (by rw [if_pos (Nat.zero_le _)])
  rw [if_pos (Nat.zero_le _)] at this
  exact this
theorem c_M_change {P : xD → Prop} {p w v : Nat} (hT : tOK τ) (hL : tLaw τ) (hF : tFit τ) (H : mH D τ) (hp : p < tN τ 5) (hw : w ≤ 5) (h1 : leastV w ≤ v) (h2 : v ≤ mostV τ w)
    (h : ∀ D' σ f, mF 338 345 31 32 D D' → mSit D' σ → mWho D' (tN τ 5) f → tOK σ → tLaw σ → tFit σ → tN σ 0 = tN τ 0 → tN σ 1 = tN τ 1 → tN σ 2 = tN τ 2 → tN σ 5 = tN τ 5 → (∀ i, i < tN τ 5 → f i < 6) → (∀ i j, i < tN τ 5 → j < tN τ 5 → f i = f j → i = j) → tSeatOf p w v < tN τ 5 → f (tSeatOf p w v) = p → (∀ seed o k, eFst σ seed o k = eFst (tChange τ p w v) seed o k) → (∀ seed q k, eLst σ seed q k = eLst (tChange τ p w v) seed q k) → P D') : xCv (d + 5) m_M_change [.ref 325, .int (nI p), .int (nI w), .int (nI v)] D P := by
  have l13 : xl (325 + 13) = 6 := cl_13_32 xk_M
  have l14 : xl (325 + 14) = 6 := cl_13_33 xk_M
  have l15 : xl (325 + 15) = 6 := cl_13_34 xk_M
  have l16 : xl (325 + 16) = 6 := cl_13_35 xk_M
  have l17 : xl (325 + 17) = 6 := cl_13_36 xk_M
  have l18 : xl (325 + 18) = 6 := cl_13_37 xk_M
  have l19 : xl (325 + 19) = 6 := cl_13_38 xk_M
  have hN := hT.2.2.2.2.2.2.1
  have hK := hT.2.1
  have v20 := mostV_20 hT w
  obtain ⟨cT, cL, cF, c5, c0, c1, c2⟩ := tChange_ok hT hL hF hp hw h1 h2
  obtain ⟨⟨t, T⟩, -, -, -, e30⟩ := H
  have e30 : D.1 325 30 = nI (tN τ 5) := by rw [e30]; exact hT.1 5 (by omega)
  have inj : ∀ u : Nat, u < 10 → nI w = nI u → w = u := fun u hu q => (nI_eq (by omega) (by omega)).mp q
  have idn : ∀ i, i < tN τ 5 → (fun p => p) i < 6 := fun i hi => by show i < 6; omega
  refine xCv_of y_M_change (Nat.le_of_ble_eq_true rfl) (s_M_change_0 xk_M ?_)
  have key : ∀ m i, i + m = tN τ 5 → ∀ D', mF 338 339 0 0 D D' → mWho D' i (fun p => p) → xPf (d + 5) m_M_change 3 [(0, .ref 325), (1, .int (nI p)), (2, .int (nI w)), (3, .int (nI v)), (4, .int (nI i))] [] D' (fun r D' => r = none ∧ P D') := by
    intro m
    induction m with
    | zero =>
      intro i hi D' o hwh
      have ei : i = tN τ 5 := by omega
      subst ei
      have T' := T.fr o (by omega) (by omega)
      refine s_M_change_3 xk_M ?_
      rw [o.2 30 (by omega), e30]
      refine ⟨fun _ => c_M_sit (f := fun p => p) T' hN hwh idn (fun D2 o2 S2 => ?_), fun z => absurd (nI_le (by omega) (by omega)) z⟩
      have S2 := mSit_id hT S2
      have W2 := hwh.fr o2 (by omega)
      have T2 := T'.fr o2 (by omega) (by omega)
      have o02 : mF 338 345 31 32 D D2 := (o.m (by omega) (by omega)).trans (o2.m (by omega) (by omega))
      rw [nI_clamp (n := p) (by omega)]
      -- a number of his is another one
      have num : ∀ u, u < 4 → w = u → ∀ D3, mF (339 + u) (340 + u) 0 0 D2 D3 → (∀ j, D3.1 (339 + u) j = if j = p then nI v else D2.1 (339 + u) j) → P D3 := by
        intro u hu ew D3 o3 v3
        subst ew
        have S3 := S2.setw (by omega) o3 v3
        have n : ∀ j, j < 6 → tN (tSet τ (6 + 7 * p + w) (nI v)) j = tN τ j := fun j hj => tN_set _ _ hj
        have es : tSeatOf p w v = p := if_neg (by omega)
        have hb : v ≤ 20 ∧ (w = 0 ∨ w = 1 → 1 ≤ v ∧ v ≤ 9) ∧ (w = 2 → v ≤ 9) := by
          unfold leastV at h1
          unfold mostV at h2
          refine ⟨?_, fun q => ?_, fun q => ?_⟩
          · rcases Nat.lt_or_ge w 3 with y | y
            · rw [if_pos y] at h2; omega
            · rw [if_neg (by omega), if_pos (by omega)] at h2; omega
          · rw [if_pos (by omega)] at h1; rw [if_pos (by omega)] at h2; omega
          · rw [if_pos (by omega)] at h2; omega
        have hT3 : tOK (tSet τ (6 + 7 * p + w) (nI v)) := tOK_set hT (by omega) hb.1 hb.2.1 hb.2.2 (by omega) (by omega) (by omega)
        have hL3 : tLaw (tSet τ (6 + 7 * p + w) (nI v)) := tLaw_set hL (by omega) (by omega) (by omega)
        have hF3 : tFit (tSet τ (6 + 7 * p + w) (nI v)) := by unfold tFit; rw [n 5 (by omega), n 2 (by omega), n 0 (by omega), n 1 (by omega)]; exact hF
        have e5 : tSet τ (6 + 7 * p + w) (nI v) (6 + 7 * p + 5) = τ (6 + 7 * p + 5) := by rw [tSet_p _ _ (by omega) (by omega), if_neg (by omega)]
        have same : ∀ seed, (∀ o k, eFst (tSet τ (6 + 7 * p + w) (nI v)) seed o k = eFst (tChange τ p w v) seed o k) ∧ ∀ q k, eLst (tSet τ (6 + 7 * p + w) (nI v)) seed q k = eLst (tChange τ p w v) seed q k := by
          intro seed
          unfold tChange
          rw [if_neg (show w ≠ 5 by omega)]
          by_cases q : τ (6 + 7 * p + 5) = -1
          · rw [if_pos q]
            obtain ⟨a, b⟩ := tSet_none (p := p) hL3 (by rw [n 0 (by omega)]; omega) (by rw [e5]; exact q)
            exact e_same a b seed
          · rw [if_neg q]
            exact ⟨fun _ _ => rfl, fun _ _ => rfl⟩
        exact h D3 _ (fun p => p) (o02.trans (o3.m (by omega) (by omega))) S3 (W2.fr o3 (by omega)) hT3 hL3 hF3 (n 0 (by omega)) (n 1 (by omega)) (n 2 (by omega)) (n 5 (by omega)) idn (fun i j _ _ q => q) (by rw [es]; exact hp) es (fun seed => (same seed).1) (fun seed => (same seed).2)
      refine ⟨fun c => ⟨by rw [l14]; exact vp_in_nI (by omega) (by omega), fun D3 e3 => ⟨rfl, ?_⟩⟩, fun c => ⟨by rw [l15]; exact vp_in_nI (by omega) (by omega), fun D3 e3 => ⟨rfl, ?_⟩⟩, fun c => ⟨by rw [l16]; exact vp_in_nI (by omega) (by omega), fun D3 e3 => ⟨rfl, ?_⟩⟩, fun c => ⟨by rw [l17]; exact vp_in_nI (by omega) (by omega), fun D3 e3 => ⟨rfl, ?_⟩⟩, fun c => ⟨by rw [l18]; exact vp_in_nI (by omega) (by omega), fun D3 e3 => ?_⟩, fun c => ?_⟩
      · obtain ⟨o3, v3⟩ := ma (by omega) e3
        exact num 0 (by omega) (inj 0 (by omega) c) D3 o3 v3
      · obtain ⟨o3, v3⟩ := ma (by omega) e3
        exact num 1 (by omega) (inj 1 (by omega) c) D3 o3 v3
      · obtain ⟨o3, v3⟩ := ma (by omega) e3
        exact num 2 (by omega) (inj 2 (by omega) c) D3 o3 v3
      · obtain ⟨o3, v3⟩ := ma (by omega) e3
        exact num 3 (by omega) (inj 3 (by omega) c) D3 o3 v3
      · have e4 := inj 4 (by omega) c
        subst e4
        obtain ⟨o3, v3⟩ := ma (by omega) e3
        have S3 : mSit D3 (tSet τ (6 + 7 * p + 4) (nI v)) := S2.setw (w := 4) (by omega) o3 v3
        have a5 : D3.1 (325 + 19) p = τ (6 + 7 * p + 5) := by
          have := S3.2 p (by rw [tN_set _ _ (by omega)]; exact hp) 5 (by omega)
          rw [tSet_p _ _ (by omega) (by omega), if_neg (by omega)] at this
          exact this
        have es : tSeatOf p 4 v = p := if_neg (by omega)
        have i19 : vp_in (nI p) (xl (325 + 19)) := by rw [l19]; exact vp_in_nI (by omega) (by omega)
        have fin : ∀ D4, mF 344 345 0 0 D3 D4 → mSit D4 (tChange τ p 4 v) → P D4 := fun D4 o4 S4 =>
          h D4 _ (fun p => p) (o02.trans ((o3.m (by omega) (by omega)).trans (o4.m (by omega) (by omega)))) S4 ((W2.fr o3 (by omega)).fr o4 (by omega)) cT cL cF c0 c1 c2 c5 idn (fun i j _ _ q => q) (by rw [es]; exact hp) es (fun _ _ _ => rfl) (fun _ _ _ => rfl)
        rw [a5]
        refine ⟨i19, fun q => ⟨i19, i19, fun D4 e4 => ⟨rfl, ?_⟩⟩, fun q => ⟨i19, fun D4 e4 => ⟨rfl, ?_⟩⟩⟩
        · obtain ⟨o4, v4⟩ := ma (by omega) e4
          refine fin D4 o4 ?_
          have S4 : mSit D4 (tSet (tSet τ (6 + 7 * p + 4) (nI v)) (6 + 7 * p + 5) (τ (6 + 7 * p + 5))) := S3.setw (w := 5) (by omega) o4 v4
          have e5 : τ (6 + 7 * p + 5) = tSet τ (6 + 7 * p + 4) (nI v) (6 + 7 * p + 5) := by rw [tSet_p _ _ (by omega) (by omega), if_neg (by omega)]
          have ee : tSet (tSet τ (6 + 7 * p + 4) (nI v)) (6 + 7 * p + 5) (τ (6 + 7 * p + 5)) = tChange τ p 4 v := by
            rw [e5, tSet_self]
            unfold tChange
            rw [if_neg (by omega), if_neg q]
          rw [← ee]; exact S4
        · obtain ⟨o4, v4⟩ := ma (by omega) e4
          refine fin D4 o4 ?_
          have S4 : mSit D4 (tSet (tSet τ (6 + 7 * p + 4) (nI v)) (6 + 7 * p + 5) 0) := S3.setw (w := 5) (by omega) o4 v4
          have ee : tSet (tSet τ (6 + 7 * p + 4) (nI v)) (6 + 7 * p + 5) 0 = tChange τ p 4 v := by
            unfold tChange
            rw [if_neg (by omega), if_pos q]
          rw [← ee]; exact S4
      · rw [nI_toInt (by omega)] at c
        have e5 : w = 5 := by omega
        subst e5
        have hv : v < tN τ 5 := by
          unfold mostV at h2
          rw [if_neg (by omega), if_neg (by omega), if_neg (by omega)] at h2
          omega
        have es : tSeatOf p 5 v = v := if_pos rfl
        have ee : tChange τ p 5 v = tSeats τ (whoAt p v) (tN τ 5) := if_pos rfl
        refine c_M_seat hT T2 (by rw [o02.2 30 (by omega)]; exact e30) hp hv (fun D3 o3 W3 S3 => ⟨rfl, ?_⟩)
        exact h D3 _ (whoAt p v) (o02.trans o3) (by rw [ee]; exact S3) W3 cT cL cF c0 c1 c2 c5 (fun i hi => by have := whoAt_lt hp hv hi; omega) (fun i j _ _ q => whoAt_inj q) (by rw [es]; exact hv) (by rw [es]; exact whoAt_s) (fun _ _ _ => rfl) (fun _ _ _ => rfl)
    | succ m ih =>
      intro i hi D' o hwh
      refine s_M_change_3 xk_M ?_
      rw [o.2 30 (by omega), e30, nI_clamp (n := i) (by omega), nI_1]
      refine ⟨fun z => absurd z (nI_ge (by omega) (by omega)), fun _ => ⟨by rw [l13]; exact vp_in_nI (by omega) (by omega), fun D2 e2 => ?_⟩⟩
      obtain ⟨o2, v2⟩ := ma (by omega) e2
      have v2' : ∀ j, D2.1 338 j = if j = i then nI i else D'.1 338 j := v2
      refine ih (i + 1) (by omega) D2 (o.trans o2) (fun j hj => ?_)
      rw [v2']
      by_cases z : j = i
      · rw [if_pos z, z]
      · rw [if_neg z]; exact hwh j (by omega)
  exact key (tN τ 5) 0 (by omega) D mF.rfl' (fun j hj => absurd hj (Nat.not_lt_zero _))
end MSEAT
