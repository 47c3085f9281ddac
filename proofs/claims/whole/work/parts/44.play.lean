/-! Leaps; play. -/
theorem rR.outR {D D' : xD} {r N A K : Nat} {δ : dS} {h : Nat → Nat} {lo hi : Nat} (H : rR D r N A K δ h) (o : xOut lo hi D D') (q : hi ≤ r + 1 ∨ r + 14 ≤ lo) : rR D' r N A K δ h :=
  ⟨H.1.out o (by omega), H.2.1.out o (by omega), fun i hi => by rw [o.1 _ (by omega)]; exact H.2.2 i hi⟩
theorem rE.out {D D' : xD} {r L T T' : Nat} {τ : Nat → Int32} {δ0 : dS} {f0 : Option Nat} {lo hi : Nat} (H : rE D r τ δ0 f0 L T) (o : xOut lo hi D D') (q : (hi ≤ r ∨ r + 1 ≤ lo) ∧ (hi ≤ r + 19 ∨ r + 32 ≤ lo)) (hT : T ≤ T') : rE D' r τ δ0 f0 L T' := by
  have e5 : D'.1 r 5 = D.1 r 5 := by rw [o.1 _ (by omega)]
  rcases H with h | ⟨S, h1, h2, h3, h4, h5, h6, h7, h8⟩
  · exact Or.inl (by rw [e5]; exact h)
  · exact Or.inr ⟨S, by rw [e5]; exact h1, h2, by omega, h4, h5, h6.out o (by omega), h7.out o (by omega), fun i hi => by rw [o.1 _ (by omega)]; exact h8 i hi⟩
section PLAY
variable {d : Nat} {D : xD} {r t n : Nat} {τ : Nat → Int32} {δ0 : dS} {f0 : Option Nat}
theorem c_Rounds_leap {P : xD → Prop} {L T U : Nat} (k0 : xk r = 9) (hT : tOK τ) (hLw : tLaw τ) (hδ : dOK τ n δ0)
    (hL : ∀ p, p < tN τ 5 → L % tP τ p 0 = 0) (hTL : T % L = 0) (hT0 : 0 < T) (hTU : T ≤ U) (hU : U < 2 ^ 30)
    (h7 : D.1 r 7 = nI T) (hn : (rRun τ δ0 f0 T).2.2.1 = none) (hR : rR D r (tN τ 5) (tN τ 2) (tN τ 0) (rRun τ δ0 f0 T).1 (rRun τ δ0 f0 T).2.1) (hE : rE D r τ δ0 f0 L T)
    (h : ∀ D' S, xOutR r D D' → T ≤ S → S ≤ U → (rRun τ δ0 f0 S).2.2.1 = none → D'.1 r 7 = nI S → D'.1 r 6 = D.1 r 6 → rR D' r (tN τ 5) (tN τ 2) (tN τ 0) (rRun τ δ0 f0 S).1 (rRun τ δ0 f0 S).2.1 → rE D' r τ δ0 f0 L S → P D') :
    xCv (d + 4) m_Rounds_leap [.ref r, .int (nI U)] D P := by
  have b5 := hT.2.2.2.2.2.2.1
  have bK := hT.2.1.2
  have l31 : xl (r + 30 + 1) = 6 := cl_9_4 k0
  -- what comes behind it
  have save : ∀ D1 S, xOutR r D D1 → T ≤ S → S ≤ U → S % L = 0 → (rRun τ δ0 f0 S).2.2.1 = none → D1.1 r 7 = nI S → D1.1 r 6 = D.1 r 6 → rR D1 r (tN τ 5) (tN τ 2) (tN τ 0) (rRun τ δ0 f0 S).1 (rRun τ δ0 f0 S).2.1 →
      ∀ x2, xPf (d + 4) m_Rounds_leap 128 [(0, .ref r), (1, .int (nI U)), (2, .int x2)] [] D1 (fun r D' => r = none ∧ P D') := by
    intro D1 S o1 q1 q2 q3 q4 q5 q6 hR1 x2
    refine s_Rounds_leap_128 k0 (c_Deal_copy (ck_9_3 k0) hR1.1 b5 (by omega) (fun D2 o2 hD2 => ?_))
    have hR2 := hR1.outR o2 (by omega)
    refine c_Row_copy (ck_9_4 k0) hR2.2.1 (by omega) ?_
    have o3 := xOut_rcopy D2 (r + 30) (r + 12) (tN τ 5)
    have v3 : ∀ i, i < tN τ 5 → (rcopy D2 (r + 30) (r + 12) (tN τ 5)).1 (r + 31) i = nI ((rRun τ δ0 f0 S).2.1 i) := fun i hi => by
      rw [show r + 31 = r + 30 + 1 by omega, rcopy_f, if_pos hi, show r + 12 + 1 = r + 13 by omega]
      exact hR2.2.2 i hi
    have w3 : rS (rcopy D2 (r + 30) (r + 12) (tN τ 5)) (r + 30) (tN τ 5) := ⟨rcopy_n _ _ _ _, by omega, ck_9_4 k0⟩
    generalize rcopy D2 (r + 30) (r + 12) (tN τ 5) = D3 at o3 v3 w3 ⊢
    intro D4 e4
    have e7 : D3.1 r 7 = nI S := by rw [o3.1 _ (by omega), o2.1 _ (by omega)]; exact q5
    have e6 : D3.1 r 6 = D.1 r 6 := by rw [o3.1 _ (by omega), o2.1 _ (by omega)]; exact q6
    rw [e7] at e4
    have o4 : xOut r (r + 1) D3 D4 := by rw [e4]; exact xOut_f D3 r 5 (nI S)
    have f4 : ∀ j, D4.1 r j = if j = 5 then nI S else D3.1 r j := fun j => by rw [e4]; show xu D3.1 r 5 (nI S) r j = _; rw [xu_self]; rfl
    refine ⟨rfl, h D4 S (((o1.trans (o2.toR (by omega))).trans (o3.toR (by omega))).trans (o4.toR (by omega))) q1 q2 q4 (by rw [f4]; simp [e7]) (by rw [f4]; simp [e6]) ((hR2.outR o3 (by omega)).outR o4 (by omega)) (Or.inr ⟨S, by rw [f4]; simp, by omega, Nat.le_refl _, q3, q4, (hD2.out o3 (by omega)).out o4 (by omega), w3.out o4 (by omega), fun i hi => by rw [o4.1 _ (by omega)]; exact v3 i hi⟩)⟩
  have tail : ∀ D1 S, xOutR r D D1 → T ≤ S → S ≤ U → S % L = 0 → (rRun τ δ0 f0 S).2.2.1 = none → D1.1 r 7 = nI S → D1.1 r 6 = D.1 r 6 → rR D1 r (tN τ 5) (tN τ 2) (tN τ 0) (rRun τ δ0 f0 S).1 (rRun τ δ0 f0 S).2.1 → rE D1 r τ δ0 f0 L S →
      ∀ x2, xPf (d + 4) m_Rounds_leap 107 [(0, .ref r), (1, .int (nI U)), (2, .int x2)] [] D1 (fun r D' => r = none ∧ P D') := by
    intro D1 S o1 q1 q2 q3 q4 q5 q6 hR1 hE1 x2
    refine s_Rounds_leap_107 k0 ⟨fun _ => save D1 S o1 q1 q2 q3 q4 q5 q6 hR1 x2, fun _ => ⟨fun _ => ⟨rfl, h D1 S o1 q1 q2 q4 q5 q6 hR1 hE1⟩, fun _ => save D1 S o1 q1 q2 q3 q4 q5 q6 hR1 x2⟩⟩
  refine xCv_of y_Rounds_leap (Nat.le_of_ble_eq_true rfl) (s_Rounds_leap_0 k0 ?_)
  have plain := tail D T xOutR.rfl' (Nat.le_refl _) hTU hTL hn h7 rfl hR hE
  refine ⟨fun _ => plain _, fun c1 => ?_⟩
  rcases hE with hx | ⟨S, s1, s2, s3, s4, s5, s6, s7, s8⟩
  · rw [hx] at c1; exact absurd (by decide) c1
  refine ⟨fun _ => plain _, fun c2 => ?_⟩
  rw [h7, s1, pk_sub s3] at c2
  have hST : S < T := by
    apply Nat.lt_of_le_of_ne s3
    intro e
    subst e
    exact c2 (by rw [Nat.sub_self]; exact nI_le (a := 0) (b := 0) (Nat.le_refl _) (by omega))
  refine c_Deal_liesAs hR.1 s6 (rRun_ok hT hLw hδ T).1 (rRun_ok hT hLw hδ S).1 b5 bK (fun hd => ⟨fun c => absurd c (by decide), fun _ => ?_⟩) (fun _ => ⟨fun _ => plain _, fun c => absurd rfl c⟩)
  rw [h7, s1, pk_sub s3, pk_sub hTU, pk_div (by omega) (by omega) (by omega)]
  refine ⟨nI_ne0 (by omega) (by omega), ?_⟩
  obtain ⟨m, hm⟩ : ∃ m, m = (U - T) / (T - S) := ⟨_, rfl⟩
  rw [← hm]
  have hmle : m * (T - S) ≤ U - T := by rw [hm]; exact Nat.div_mul_le_self _ _
  obtain ⟨y1, y2, y3⟩ := rRun_cycle hL s4 hTL hST hn hd m
  have hSL : (T + m * (T - S)) % L = 0 := by
    obtain ⟨u, hu⟩ := Nat.dvd_of_mod_eq_zero hTL
    obtain ⟨v, hv⟩ := Nat.dvd_of_mod_eq_zero s4
    have : T + m * (T - S) = L * (u + m * (u - v)) := by
      rw [show T - S = L * (u - v) by rw [hu, hv, Nat.mul_sub], Nat.mul_add, ← hu]
      congr 1
      rw [Nat.mul_left_comm]
    rw [this]; exact Nat.mul_mod_right _ _
  have loop : ∀ k j, j + k = tN τ 5 → ∀ D', xOut (r + 13) (r + 14) D D' → (∀ i, i < tN τ 5 → D'.1 (r + 13) i = if i < j then nI ((rRun τ δ0 f0 (T + m * (T - S))).2.1 i) else nI ((rRun τ δ0 f0 T).2.1 i)) →
      xPf (d + 4) m_Rounds_leap 47 [(0, .ref r), (1, .int (nI U)), (2, .int (nI (T - S))), (3, .int (nI m)), (4, .int (nI j))] [] D' (fun r D' => r = none ∧ P D') := by
    intro k
    induction k with
    | zero =>
      intro j hj D' o hv
      refine s_Rounds_leap_47 k0 (c_Row_size (hR.2.1.out o (by omega)) ⟨fun _ D3 e3 => ?_, fun c => absurd (nI_le (by omega) (by omega)) c⟩)
      have e7 : D'.1 r 7 = nI T := by rw [o.1 _ (by omega)]; exact h7
      rw [e7, pk_mul, nI_add] at e3
      have o3 : xOut r (r + 1) D' D3 := by rw [e3]; exact xOut_f D' r 7 _
      have f3 : ∀ j, D3.1 r j = if j = 7 then nI (T + m * (T - S)) else D'.1 r j := fun j => by rw [e3]; show xu D'.1 r 7 _ r j = _; rw [xu_self]; rfl
      refine tail D3 (T + m * (T - S)) ((o.toR (by omega)).trans (o3.toR (by omega))) (by omega) (by omega) hSL y1 (by rw [f3]; simp) (by rw [f3, o.1 _ (by omega)]; simp) ?_ ?_ _
      · rw [y2]
        exact ⟨(hR.1.out o (by omega)).out o3 (by omega), (hR.2.1.out o (by omega)).out o3 (by omega), fun i hi => by rw [o3.1 _ (by omega), hv i hi, if_pos (by omega)]⟩
      · refine Or.inr ⟨S, ?_, s2, by omega, s4, s5, (s6.out o (by omega)).out o3 (by omega), (s7.out o (by omega)).out o3 (by omega), fun i hi => by rw [o3.1 _ (by omega), o.1 _ (by omega)]; exact s8 i hi⟩
        rw [f3, o.1 _ (by omega)]; simp [s1]
    | succ k ih =>
      intro j hj D' o hv
      have hr' := hR.2.1.out o (show r + 12 < r + 13 ∨ r + 14 ≤ r + 12 by omega)
      refine s_Rounds_leap_47 k0 (c_Row_size hr' ⟨fun c => absurd c (nI_ge (by omega) (by omega)), fun _ => ?_⟩)
      refine c_Row_get hr' ?_
      rw [rg_in D' _ (show j < tN τ 5 by omega) (by omega), show r + 12 + 1 = r + 13 by omega, hv j (by omega), if_neg (by omega)]
      refine c_Row_get (s7.out o (by omega)) ?_
      rw [rg_in D' _ (show j < tN τ 5 by omega) (by omega), show r + 30 + 1 = r + 31 by omega, o.1 (r + 31) (by omega), s8 j (by omega)]
      refine c_Row_add hr' ?_
      rw [radd_in _ _ _ (show j < tN τ 5 by omega) (by omega), show r + 12 + 1 = r + 13 by omega, hv j (by omega), if_neg (by omega), nI_leap (y3 j) rfl, nI_1]
      refine ih (j + 1) (by omega) _ (o.trans (xOut_f D' (r + 13) j _)) (fun i hi => ?_)
      show xu D'.1 (r + 13) j _ (r + 13) i = _
      rw [xu_self]
      unfold upd
      by_cases q : i = j
      · rw [if_pos q, if_pos (by omega), q]
      · rw [if_neg q, hv i hi]
        by_cases q2 : i < j
        · rw [if_pos q2, if_pos (by omega)]
        · rw [if_neg q2, if_neg (by omega)]
  exact loop (tN τ 5) 0 (by omega) D xOut.rfl' (fun i hi => by rw [if_neg (by omega)]; exact hR.2.2 i hi)
end PLAY
