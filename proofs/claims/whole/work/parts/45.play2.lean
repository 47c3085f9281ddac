/-! A ROUND is played. -/
theorem dFirst_ex (A K : Nat) (δ : dS) : ∀ N, ∃ r, dFirst A K δ N r := by
  intro N
  induction N with
  | zero => exact ⟨none, fun p hp => absurd hp (by omega)⟩
  | succ N ih =>
    obtain ⟨r, hr⟩ := ih
    cases r with
    | some p => exact ⟨some p, by have := hr.1; omega, hr.2⟩
    | none =>
      by_cases q : dAl A K δ N
      · exact ⟨some N, by omega, q, hr⟩
      · refine ⟨none, fun p hp => ?_⟩
        by_cases e : p = N
        · rw [e]; exact q
        · exact hr p (by omega)
noncomputable def dFst (A K : Nat) (δ : dS) (N : Nat) : Option Nat := Classical.choose (dFirst_ex A K δ N)
theorem dFst_is (A K : Nat) (δ : dS) (N : Nat) : dFirst A K δ N (dFst A K δ N) := Classical.choose_spec (dFirst_ex A K δ N)
theorem dFirst_eq {A K N : Nat} {δ : dS} {r s : Option Nat} (h : dFirst A K δ N r) (g : dFirst A K δ N s) : r = s := by
  cases r with
  | none => cases s with
    | none => rfl
    | some q => exact absurd g.2.1 (h q g.1)
  | some p => cases s with
    | none => exact absurd h.2.1 (g p h.1)
    | some q =>
      rcases Nat.lt_trichotomy p q with l | l | l
      · exact absurd h.2.1 (g.2.2 p l)
      · rw [l]
      · exact absurd g.2.1 (h.2.2 q l)
/-- a ROUND of a HEAP of n cards c, up to tenth U -/
noncomputable def rGo (τ : Nat → Int32) (n : Nat) (c : Nat → Nat) (U : Nat) : dS × (Nat → Nat) × Option Nat × Nat :=
  rRun τ (dInit (tN τ 5) (tN τ 2) n c) (dFst (tN τ 2) (tN τ 0) (dInit (tN τ 5) (tN τ 2) n c) (tN τ 5)) U
section PLAY2
variable {d : Nat} {D : xD} {r t n : Nat} {τ : Nat → Int32}
theorem c_Rounds_play {P : xD → Prop} {a U : Nat} {c : Nat → Nat} (k0 : xk r = 9) (hR : tR D t τ) (hT : tOK τ) (hLw : tLaw τ) (h0 : 0 < tN τ 5) (ha : rS D a n) (hn : n ≤ 52) (hc : ∀ j, j < n → D.1 (a + 1) j = nI (c j) ∧ c j < tN τ 0) (hA : tN τ 2 * tN τ 5 < n)
    (r5 : rS D (r + 6) 364) (ht : t + 5 ≤ r ∨ t = r + 14 ∨ r + 32 ≤ t) (hae : a + 2 ≤ r ∨ r + 32 ≤ a) (hU : U < 2 ^ 30)
    (h : ∀ D', xOutR r D D' → rR D' r (tN τ 5) (tN τ 2) (tN τ 0) (rGo τ n c U).1 (rGo τ n c U).2.1 → D'.1 r 6 = oI (rGo τ n c U).2.2.1 → D'.1 r 7 = nI (rGo τ n c U).2.2.2 → P D') :
    xCv (d + 6) m_Rounds_play [.ref r, .ref t, .ref a, .int (nI U)] D P := by
  have b5 := hT.2.2.2.2.2.2.1
  have bK := hT.2.1.2
  have bA := hT.2.2.2.1.2
  have l13 : xl (r + 12 + 1) = 6 := cl_9_1 k0
  have hδ := dOK_init (n := n) (c := c) hT h0 hn hA (fun j hj => (hc j hj).2)
  refine xCv_of y_Rounds_play (Nat.le_of_ble_eq_true rfl) (s_Rounds_play_0 k0 hR.1 ha.2.2 ?_)
  refine c_Table_people hR hT (c_Rounds_samePacesEach hR hT (fun L L0 L31 hL => ?_))
  refine c_Deal_start (c := c) (ck_9_0 k0) r5 hR hT h0 ha hn (fun j hj => ⟨(hc j hj).1, by have := (hc j hj).2; omega⟩) hA (by omega) (by omega) (fun D1 o1 hD1 => ?_)
  refine c_Row_fill (k := tN τ 5) (ck_9_1 k0) (by omega) ?_
  have o2 : xOut (r + 12) (r + 14) D1 (fil (rsize D1 (r + 12) (tN τ 5)) (r + 12 + 1) 0 (xl (r + 12 + 1))) := ((xOut_rsize D1 (r + 12) (tN τ 5)).mono (by omega) (by omega)).trans ((xOut_fil _ (r + 12 + 1) _ 0).mono (by omega) (by omega))
  have v2 : ∀ j, j < tN τ 5 → (fil (rsize D1 (r + 12) (tN τ 5)) (r + 12 + 1) 0 (xl (r + 12 + 1))).1 (r + 13) j = nI 0 := fun j hj => by
    show (if r + 13 = r + 12 + 1 then fun k => if k < xl (r + 12 + 1) then (0 : Int32) else _ else _ : Nat → Int32) j = 0
    rw [if_pos (by omega), if_pos (by omega)]
  have w2 : rS (fil (rsize D1 (r + 12) (tN τ 5)) (r + 12 + 1) 0 (xl (r + 12 + 1))) (r + 12) (tN τ 5) := (rS_rsize (by omega) (ck_9_1 k0)).out (xOut_fil _ (r + 12 + 1) _ 0) (by omega)
  generalize fil (rsize D1 (r + 12) (tN τ 5)) (r + 12 + 1) 0 (xl (r + 12 + 1)) = D2 at o2 v2 w2 ⊢
  intro D3 e3 D4 e4
  have o4 : xOut r (r + 1) D2 D4 := by
    rw [e4, e3]
    exact ⟨fun i q => by show xu (xu D2.1 r 5 (-1)) r 7 0 i = _; rw [xu_ne _ _ _ (by omega), xu_ne _ _ _ (by omega)], rfl⟩
  have f4 : D4.1 r 5 = -1 ∧ D4.1 r 7 = 0 := by
    rw [e4, e3]
    refine ⟨?_, ?_⟩
    · show xu (xu D2.1 r 5 (-1)) r 7 0 r 5 = _; simp [xu_self, upd]
    · show xu (xu D2.1 r 5 (-1)) r 7 0 r 7 = _; simp [xu_self, upd]
  clear e3 e4
  have hD4 := (hD1.out o2 (by omega)).out o4 (by omega)
  refine c_Deal_firstAlike hD4 hδ.1 b5 bK bA (fun f hf => ?_)
  have ef := dFirst_eq hf (dFst_is _ _ _ _)
  intro D5 e5
  have o5 : xOut r (r + 1) D4 D5 := by rw [e5]; exact xOut_f D4 r 6 _
  have f5 : ∀ j, D5.1 r j = if j = 6 then oI f else D4.1 r j := fun j => by rw [e5]; show xu D4.1 r 6 _ r j = _; rw [xu_self]; rfl
  clear e5
  have hlt : ∀ p, f = some p → p < tN τ 5 := fun p hp => by rw [hp] at hf; exact hf.1
  have eGo : rGo τ n c U = rRun τ (dInit (tN τ 5) (tN τ 2) n c) f U := by unfold rGo; rw [ef]
  rw [eGo] at h
  generalize dInit (tN τ 5) (tN τ 2) n c = δ0 at *
  have hN : ∀ p, p < tN τ 5 → p < 2 ^ 31 := fun p hp => by omega
  have key : ∀ k T, U - T ≤ k → T ≤ U → ∀ D', xOutR r D D' → rR D' r (tN τ 5) (tN τ 2) (tN τ 0) (rRun τ δ0 f T).1 (rRun τ δ0 f T).2.1 → D'.1 r 6 = oI (rRun τ δ0 f T).2.2.1 → D'.1 r 7 = nI T → (rRun τ δ0 f T).2.2.2 = T → rE D' r τ δ0 f L T →
      xPf (d + 6) m_Rounds_play 52 [(0, .ref r), (1, .ref t), (2, .ref a), (3, .int (nI U)), (4, .int (nI (tN τ 5))), (5, .int (nI L))] [] D' (fun r D' => r = none ∧ P D') := by
    intro k
    induction k with
    | zero =>
      intro T hk hTU D' o hRR h6 h7 ht7 hE
      have eT : T = U := by omega
      subst eT
      have fin : P D' := h D' o hRR h6 (by rw [ht7]; exact h7)
      refine s_Rounds_play_52 k0 hR.1 ha.2.2 ⟨fun _ => ⟨rfl, fin⟩, fun _ => ⟨fun _ => ⟨rfl, fin⟩, fun q => ?_⟩⟩
      rw [h7] at q
      exact absurd (nI_le (by omega) (by omega)) q
    | succ k ih =>
      intro T hk hTU D' o hRR h6 h7 ht7 hE
      refine s_Rounds_play_52 k0 hR.1 ha.2.2 ⟨fun q => ⟨rfl, ?_⟩, fun q => ⟨fun q2 => ⟨rfl, ?_⟩, fun q2 => ?_⟩⟩
      · rw [h6] at q
        have hs := rRun_stop (τ := τ) (δ0 := δ0) (f0 := f) (t := T) (fun z => q ((oI_iff (fun p hp => hN p (rRun_lt hlt hp))).mpr z)) (U - T)
        rw [show T + (U - T) = U by omega] at hs
        exact h D' o (by rw [hs]; exact hRR) (by rw [hs]; exact h6) (by rw [hs, ht7]; exact h7)
      · rw [h7] at q2
        have := (nI_leI (by omega) (by omega)).mp q2
        have eT : T = U := by omega
        subst eT
        exact h D' o hRR h6 (by rw [ht7]; exact h7)
      · rw [h7] at q2
        have hlt2 : T < U := by
          apply Nat.lt_of_not_le
          intro z
          exact q2 (nI_le z (by omega))
        rw [h6] at q
        have hno := (oI_iff (fun p hp => hN p (rRun_lt hlt hp))).mp q
        have er : rRun τ δ0 f (T + 1) = ((rTen τ (T + 1) (tN τ 5) (rRun τ δ0 f T).1 (rRun τ δ0 f T).2.1).1, (rTen τ (T + 1) (tN τ 5) (rRun τ δ0 f T).1 (rRun τ δ0 f T).2.1).2.1, (rTen τ (T + 1) (tN τ 5) (rRun τ δ0 f T).1 (rRun τ δ0 f T).2.1).2.2, T + 1) := by
          rw [rRun, if_pos hno]
        have hok := rRun_ok (f0 := f) hT hLw hδ T
        intro D1 e1
        rw [h7, nI_1] at e1
        have o1 : xOut r (r + 1) D' D1 := by rw [e1]; exact xOut_f D' r 7 _
        have f1 : ∀ j, D1.1 r j = if j = 7 then nI (T + 1) else D'.1 r j := fun j => by rw [e1]; show xu D'.1 r 7 _ r j = _; rw [xu_self]; rfl
        clear e1
        -- behind the last one
        have at132 : ∀ D2 x6, xOutR r D D2 → rR D2 r (tN τ 5) (tN τ 2) (tN τ 0) (rTen τ (T + 1) (tN τ 5) (rRun τ δ0 f T).1 (rRun τ δ0 f T).2.1).1 (rTen τ (T + 1) (tN τ 5) (rRun τ δ0 f T).1 (rRun τ δ0 f T).2.1).2.1 → D2.1 r 6 = oI (rTen τ (T + 1) (tN τ 5) (rRun τ δ0 f T).1 (rRun τ δ0 f T).2.1).2.2 → D2.1 r 7 = nI (T + 1) → rE D2 r τ δ0 f L (T + 1) →
            xPf (d + 6) m_Rounds_play 132 [(0, .ref r), (1, .ref t), (2, .ref a), (3, .int (nI U)), (4, .int (nI (tN τ 5))), (5, .int (nI L)), (6, .int x6)] [] D2 (fun r D' => r = none ∧ P D') := by
          intro D2 x6 o2 hR2 g6 g7 hE2
          have next := ih (T + 1) (by omega) (by omega) D2 o2 (by rw [er]; exact hR2) (by rw [er]; exact g6) g7 (by rw [er]) hE2
          refine s_Rounds_play_132 k0 hR.1 ha.2.2 ⟨fun _ => next, fun z => ⟨fun _ => next, fun _ => ⟨nI_ne0 L0 L31, fun _ => next, fun z2 => ?_⟩⟩⟩
          rw [g7, pk_rem (by omega) L0 L31] at z2
          have hTL : (T + 1) % L = 0 := by
            apply Decidable.byContradiction
            intro z3
            exact nI_ne0 (n := (T + 1) % L) (by omega) (by have := Nat.mod_lt (T + 1) L0; omega) z2
          rw [g6] at z
          have hno2 := (oI_iff (fun p hp => hN p (rTen_lt hp))).mp z
          refine c_Rounds_leap (T := T + 1) k0 hT hLw hδ hL hTL (by omega) (by omega) hU g7 (by rw [er]; exact hno2) (by rw [er]; exact hR2) hE2 (fun D3 S o3 s1 s2 s3 s4 s5 s6 s7 => ?_)
          exact ih S (by omega) s2 D3 (o2.trans o3) s6 (by rw [s5, g6, hno2, s3]) s4 (rRun_tenth s3) s7
        have loop : ∀ k p, p + k = tN τ 5 → ∀ D2, xOutR r D D2 → rR D2 r (tN τ 5) (tN τ 2) (tN τ 0) (rTen τ (T + 1) p (rRun τ δ0 f T).1 (rRun τ δ0 f T).2.1).1 (rTen τ (T + 1) p (rRun τ δ0 f T).1 (rRun τ δ0 f T).2.1).2.1 → D2.1 r 6 = oI (rTen τ (T + 1) p (rRun τ δ0 f T).1 (rRun τ δ0 f T).2.1).2.2 → D2.1 r 7 = nI (T + 1) → rE D2 r τ δ0 f L (T + 1) →
            xPf (d + 6) m_Rounds_play 81 [(0, .ref r), (1, .ref t), (2, .ref a), (3, .int (nI U)), (4, .int (nI (tN τ 5))), (5, .int (nI L)), (6, .int (nI p))] [] D2 (fun r D' => r = none ∧ P D') := by
          intro k
          induction k with
          | zero =>
            intro p hp D2 o2 hR2 g6 g7 hE2
            have ep : p = tN τ 5 := by omega
            rw [ep] at hR2 g6
            have := at132 D2 (nI p) o2 hR2 g6 g7 hE2
            exact s_Rounds_play_81 k0 hR.1 ha.2.2 ⟨fun _ => this, fun z => absurd (nI_le (by omega) (by omega)) z⟩
          | succ k ihp =>
            intro p hp D2 o2 hR2 g6 g7 hE2
            refine s_Rounds_play_81 k0 hR.1 ha.2.2 ⟨fun z => absurd z (nI_ge (by omega) (by omega)), fun _ => ⟨fun z => ?_, fun z => ?_⟩⟩
            · rw [g6] at z
              have hs := rTen_stop (fun y => z ((oI_iff (fun q hq => hN q (by have := rTen_lt hq; omega))).mpr y)) (tN τ 5 - p)
              rw [show p + (tN τ 5 - p) = tN τ 5 by omega] at hs
              rw [← hs] at hR2 g6
              exact at132 D2 (nI p) o2 hR2 g6 g7 hE2
            · rw [g6] at z
              have hnp := (oI_iff (fun q hq => hN q (by have := rTen_lt hq; omega))).mp z
              have hR2t := hR.outR o2 ht
              rw [g7]
              refine c_Table_goesInto (w := 0) hR2t hT (by omega) (by omega) (by omega) ?_
              by_cases c1 : (T + 1) % tP τ p 0 = 0
              · rw [if_pos c1]
                refine ⟨fun q => absurd q (by decide), fun _ => ?_⟩
                have okp := rTen_ok (t := T + 1) (h := (rRun τ δ0 f T).2.1) hT hLw hok p (by omega)
                have es : rTen τ (T + 1) (p + 1) (rRun τ δ0 f T).1 (rRun τ δ0 f T).2.1 = ((rTurn τ p (rTen τ (T + 1) p (rRun τ δ0 f T).1 (rRun τ δ0 f T).2.1).1 (rTen τ (T + 1) p (rRun τ δ0 f T).1 (rRun τ δ0 f T).2.1).2.1).1, (rTurn τ p (rTen τ (T + 1) p (rRun τ δ0 f T).1 (rRun τ δ0 f T).2.1).1 (rTen τ (T + 1) p (rRun τ δ0 f T).1 (rRun τ δ0 f T).2.1).2.1).2.1, if (rTurn τ p (rTen τ (T + 1) p (rRun τ δ0 f T).1 (rRun τ δ0 f T).2.1).1 (rTen τ (T + 1) p (rRun τ δ0 f T).1 (rRun τ δ0 f T).2.1).2.1).2.2 = true then some p else none) := by
                  rw [rTen, if_pos ⟨hnp, c1⟩]
                refine c_Rounds_turn k0 hR2t hT hLw hR2.1 okp.1 okp.2 hR2.2.1 hR2.2.2 (by omega) (by omega) (fun D3 o3 hD3 hr3 hv3 => ?_)
                have hE3 := hE2.out (T' := T + 1) o3 (by omega) (Nat.le_refl _)
                have g73 : D3.1 r 7 = nI (T + 1) := by rw [o3.1 _ (by omega)]; exact g7
                have o23 := o2.trans (o3.toR (by omega))
                rw [nI_1]
                by_cases y : (rTurn τ p (rTen τ (T + 1) p (rRun τ δ0 f T).1 (rRun τ δ0 f T).2.1).1 (rTen τ (T + 1) p (rRun τ δ0 f T).1 (rRun τ δ0 f T).2.1).2.1).2.2 = true
                · rw [if_pos y]
                  refine ⟨fun q => absurd q (by decide), fun _ D4 e4 => ?_⟩
                  have o4 : xOut r (r + 1) D3 D4 := by rw [e4]; exact xOut_f D3 r 6 _
                  have g4 : ∀ j, D4.1 r j = if j = 6 then nI p else D3.1 r j := fun j => by rw [e4]; show xu D3.1 r 6 _ r j = _; rw [xu_self]; rfl
                  clear e4
                  refine ihp (p + 1) (by omega) D4 (o23.trans (o4.toR (by omega))) ?_ ?_ (by rw [g4]; simpa using g73) ?_
                  · rw [es]; exact rR.outR ⟨hD3, hr3, hv3⟩ o4 (by omega)
                  · rw [g4, es, if_pos y]; rfl
                  · rcases hE3 with q | ⟨S, s1, s2, s3, s4, s5, s6, s7, s8⟩
                    · exact Or.inl (by rw [g4]; simpa using q)
                    · exact Or.inr ⟨S, by rw [g4]; simpa using s1, s2, s3, s4, s5, s6.out o4 (by omega), s7.out o4 (by omega), fun i hi => by rw [o4.1 _ (by omega)]; exact s8 i hi⟩
                · rw [if_neg y]
                  refine ⟨fun _ => ?_, fun q => absurd rfl q⟩
                  refine ihp (p + 1) (by omega) D3 o23 ?_ ?_ g73 hE3
                  · rw [es]; exact ⟨hD3, hr3, hv3⟩
                  · rw [es, if_neg y, o3.1 _ (by omega), g6, hnp]
              · rw [if_neg c1]
                refine ⟨fun _ => ?_, fun q => absurd rfl q⟩
                rw [nI_1]
                have es : rTen τ (T + 1) (p + 1) (rRun τ δ0 f T).1 (rRun τ δ0 f T).2.1 = rTen τ (T + 1) p (rRun τ δ0 f T).1 (rRun τ δ0 f T).2.1 := by
                  rw [rTen, if_neg (fun q => c1 q.2)]
                refine ihp (p + 1) (by omega) D2 o2 ?_ ?_ g7 hE2
                · rw [es]; exact hR2
                · rw [es]; exact g6
        have hE1 : rE D1 r τ δ0 f L (T + 1) := by
          rcases hE with q | ⟨S, s1, s2, s3, s4, s5, s6, s7, s8⟩
          · exact Or.inl (by rw [f1]; simpa using q)
          · exact Or.inr ⟨S, by rw [f1]; simpa using s1, s2, by omega, s4, s5, s6.out o1 (by omega), s7.out o1 (by omega), fun i hi => by rw [o1.1 _ (by omega)]; exact s8 i hi⟩
        refine loop (tN τ 5) 0 (by omega) D1 (o.trans (o1.toR (by omega))) (hRR.outR o1 (by omega)) ?_ (by rw [f1]; simp) hE1
        rw [f1]
        show (if (6 : Nat) = 7 then _ else D'.1 r 6) = oI none
        rw [if_neg (by omega), h6, hno]
  refine key U 0 (by omega) (by omega) D5 ((((o1.toR (by omega)).trans (o2.toR (by omega))).trans (o4.toR (by omega))).trans (o5.toR (by omega))) ⟨hD4.out o5 (by omega), (w2.out o4 (by omega)).out o5 (by omega), fun i hi => ?_⟩ (by rw [f5]; simp; rfl) (by rw [f5, nI_0]; simpa using f4.2) rfl (Or.inl (by rw [f5]; simpa using f4.1))
  rw [o5.1 _ (by omega), o4.1 _ (by omega)]; exact v2 i hi
end PLAY2
