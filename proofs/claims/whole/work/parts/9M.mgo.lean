/-! The reference: a round, tenth by tenth. -/
section MGO
variable {d : Nat} {D : xD} {n : Nat} {τ : Nat → Int32}
theorem c_M_go {P : xD → Prop} {U : Nat} {c : Nat → Nat} (hT : tOK τ) (hL : tLaw τ) (S : mSit D τ) (e27 : D.1 325 27 = nI (tN τ 0)) (e29 : D.1 325 29 = nI (tN τ 2)) (h0 : 0 < tN τ 5) (pk : mPk D n c) (hn : n ≤ 52) (hc : ∀ j, j < n → c j < tN τ 0) (hA : tN τ 2 * tN τ 5 < n) (hU : U < 2 ^ 30)
    (h : ∀ D', mRd D D' → mGm D' τ (rGo τ n c U).1 (rGo τ n c U).2.1 → D'.1 325 54 = oI (rGo τ n c U).2.2.1 → ((rGo τ n c U).2.2.1 ≠ none → D'.1 325 55 = nI (rGo τ n c U).2.2.2) → P D') : xCv (d + 4) m_M_go [.ref 325, .int (nI U)] D P := by
  have l28 : xl (325 + 28) = 6 := cl_13_57 xk_M
  have l14 : xl (325 + 14) = 6 := cl_13_33 xk_M
  have hK := hT.2.1.2
  have hN := hT.2.2.2.2.2.2.1
  have hA4 := hT.2.2.2.1.2
  have hδ := dOK_init (n := n) (c := c) hT h0 hn hA hc
  refine xCv_of y_M_go (Nat.le_of_ble_eq_true rfl) (s_M_go_0 xk_M ?_)
  refine c_M_deal e29 S.1 h0 hN hA4 pk hn (fun j hj => by have := hc j hj; omega) hA (fun D1 o1 hD1 => ?_)
  have r1 := o1.rd (by omega) (by omega)
  intro D2 e2 D3 e3
  obtain ⟨o2, f2⟩ := mf e2
  obtain ⟨o3, f3⟩ := mf e3
  have r3 : mRd D D3 := r1.trans ((o2.rd (by omega) (by omega)).trans (o3.rd (by omega) (by omega)))
  have f54 : D3.1 325 54 = -1 := by rw [o3.2 54 (by omega)]; exact f2
  have hD3 := (hD1.fr o2 (by omega)).fr o3 (by omega)
  -- tenth by tenth
  have eGo : ∀ f, f = dFst (tN τ 2) (tN τ 0) (dInit (tN τ 5) (tN τ 2) n c) (tN τ 5) → rGo τ n c U = rRun τ (dInit (tN τ 5) (tN τ 2) n c) f U := fun f hf => by unfold rGo; rw [hf]
  have fst := dFst_is (tN τ 2) (tN τ 0) (dInit (tN τ 5) (tN τ 2) n c) (tN τ 5)
  generalize hf : dFst (tN τ 2) (tN τ 0) (dInit (tN τ 5) (tN τ 2) n c) (tN τ 5) = f at fst
  have eG := eGo f hf.symm
  rw [eG] at h
  have hlt : ∀ p, f = some p → p < tN τ 5 := fun p hp => by rw [hp] at fst; exact fst.1
  have hno0 : f = none → ∀ q, q < tN τ 5 → ¬ dAl (tN τ 2) (tN τ 0) (dInit (tN τ 5) (tN τ 2) n c) q := fun z => by rw [z] at fst; exact fst
  clear eGo eG
  have al := rRun_al hT hL hδ hno0
  have oks := rRun_ok (f0 := f) hT hL hδ
  have dfe : ∀ r, dFirst (tN τ 2) (tN τ 0) (dInit (tN τ 5) (tN τ 2) n c) (tN τ 5) r → r = f := fun r hr => dFirst_eq hr fst
  generalize dInit (tN τ 5) (tN τ 2) n c = δ0 at *
  have hN31 : ∀ p, p < tN τ 5 → p < 2 ^ 31 := fun p hp => by omega
  have ten : ∀ k T, T + k = U → ∀ D', mRd D D' → mGm D' τ (rRun τ δ0 f T).1 (rRun τ δ0 f T).2.1 → D'.1 325 54 = oI (rRun τ δ0 f T).2.2.1 → ((rRun τ δ0 f T).2.2.1 ≠ none → D'.1 325 55 = nI (rRun τ δ0 f T).2.2.2) →
      xPf (d + 4) m_M_go 67 [(0, .ref 325), (1, .int (nI U)), (2, .int (nI (T + 1)))] [] D' (fun r D' => r = none ∧ P D') := by
    intro k
    induction k with
    | zero =>
      intro T hT' D' o G g54 g55
      have eT : T = U := by omega
      subst eT
      exact s_M_go_67 xk_M ⟨fun _ => ⟨rfl, h D' o G g54 g55⟩, fun z => absurd (nI_lt (by omega) (by omega)) z⟩
    | succ k ih =>
      intro T hT' D' o G g54 g55
      refine s_M_go_67 xk_M ⟨fun z => absurd z (nI_nlt (by omega) (by omega)), fun _ => ⟨fun z => ⟨rfl, ?_⟩, fun z => ?_⟩⟩
      · rw [g54] at z
        have hs := rRun_stop (τ := τ) (δ0 := δ0) (f0 := f) (t := T) (fun y => z ((oI_iff (fun p hp => hN31 p (rRun_lt hlt hp))).mpr y)) (U - T)
        rw [show T + (U - T) = U by omega] at hs
        rw [← hs] at G g54 g55
        exact h D' o G g54 g55
      · rw [g54] at z
        have hno := (oI_iff (fun p hp => hN31 p (rRun_lt hlt hp))).mp z
        have er : rRun τ δ0 f (T + 1) = ((rTen τ (T + 1) (tN τ 5) (rRun τ δ0 f T).1 (rRun τ δ0 f T).2.1).1, (rTen τ (T + 1) (tN τ 5) (rRun τ δ0 f T).1 (rRun τ δ0 f T).2.1).2.1, (rTen τ (T + 1) (tN τ 5) (rRun τ δ0 f T).1 (rRun τ δ0 f T).2.1).2.2, T + 1) := by
          rw [rRun, if_pos hno]
        have nx := ih (T + 1) (by omega)
        rw [er] at nx
        have hok := oks T
        have hal := al T hno
        have g54' : D'.1 325 54 = -1 := by rw [g54]; exact z
        generalize (rRun τ δ0 f T).1 = δ at hok hal G nx
        generalize (rRun τ δ0 f T).2.1 = hd at G nx
        have turn : ∀ m p, p + m = tN τ 5 → ∀ D2, mRd D D2 → mGm D2 τ (rTen τ (T + 1) p δ hd).1 (rTen τ (T + 1) p δ hd).2.1 → D2.1 325 54 = oI (rTen τ (T + 1) p δ hd).2.2 → ((rTen τ (T + 1) p δ hd).2.2 ≠ none → D2.1 325 55 = nI (T + 1)) →
            xPf (d + 4) m_M_go 82 [(0, .ref 325), (1, .int (nI U)), (2, .int (nI (T + 1))), (3, .int (nI p))] [] D2 (fun r D' => r = none ∧ P D') := by
          intro m
          induction m with
          | zero =>
            intro p hp D2 o2 G2 a54 a55
            have ep : p = tN τ 5 := by omega
            rw [ep] at G2 a54 a55
            refine s_M_go_82 xk_M ?_
            rw [G2.1.1, nI_1]
            exact ⟨fun _ => nx D2 o2 G2 a54 a55, fun y => absurd (nI_le (by omega) (by omega)) y⟩
          | succ m ihp =>
            intro p hp D2 o2 G2 a54 a55
            have hpN : p < tN τ 5 := by omega
            obtain ⟨q1, q2, -⟩ := hT.2.2.2.2.2.2.2 p hpN
            have ep : D2.1 (325 + 14) p = nI (tP τ p 0) := by
              have := G2.1.2 p hpN 0 (by omega)
              rw [q1 0 (by omega) (by omega)] at this
              exact this
            refine s_M_go_82 xk_M ?_
            rw [G2.1.1, nI_1, nI_clamp (n := p) (by omega), ep, pk_rem (by omega) (by omega) (by omega), nI_1]
            refine ⟨fun y => absurd y (nI_ge (by omega) (by omega)), fun _ => ⟨fun y => ?_, fun y => ⟨by rw [l14]; exact vp_in_nI (by omega) (by omega), nI_ne0 (by omega) (by omega), fun x => ?_, fun x => ?_⟩⟩⟩
            · rw [a54] at y
              have hs := rTen_stop (fun x => y ((oI_iff (fun q hq => hN31 q (by have := rTen_lt hq; omega))).mpr x)) (tN τ 5 - p)
              rw [show p + (tN τ 5 - p) = tN τ 5 by omega] at hs
              rw [← hs] at G2 a54 a55
              exact nx D2 o2 G2 a54 a55
            · have hnp : ¬ (T + 1) % tP τ p 0 = 0 := fun w => x (by rw [w]; rfl)
              have es : rTen τ (T + 1) (p + 1) δ hd = rTen τ (T + 1) p δ hd := by rw [rTen, if_neg (fun w => hnp w.2)]
              rw [← es] at G2 a54 a55
              exact ihp (p + 1) (by omega) D2 o2 G2 a54 a55
            · have hm : (T + 1) % tP τ p 0 = 0 := by
                apply Decidable.byContradiction
                intro w
                have := Nat.mod_lt (T + 1) (show 0 < tP τ p 0 by omega)
                exact nI_ne0 (n := (T + 1) % tP τ p 0) (by omega) (by omega) x
              rw [a54] at y
              have hnp := (oI_iff (fun q hq => hN31 q (by have := rTen_lt hq; omega))).mp y
              have okp := rTen_ok (t := T + 1) (h := hd) hT hL hok p (by omega)
              have alp := rTen_al (t := T + 1) (h := hd) hT hL hok hal p (by omega) hnp
              have es : rTen τ (T + 1) (p + 1) δ hd = ((rTurn τ p (rTen τ (T + 1) p δ hd).1 (rTen τ (T + 1) p δ hd).2.1).1, (rTurn τ p (rTen τ (T + 1) p δ hd).1 (rTen τ (T + 1) p δ hd).2.1).2.1, if (rTurn τ p (rTen τ (T + 1) p δ hd).1 (rTen τ (T + 1) p δ hd).2.1).2.2 = true then some p else none) := by
                rw [rTen, if_pos ⟨hnp, hm⟩]
              refine c_M_moves hT hL G2 okp hpN (alp p hpN) (fun D3 o3 G3 y1 y0 => ?_)
              have nxt := ihp (p + 1) (by omega) D3 (o2.trans o3)
              rw [es] at nxt
              refine nxt G3 ?_ ?_
              · by_cases w : (rTurn τ p (rTen τ (T + 1) p δ hd).1 (rTen τ (T + 1) p δ hd).2.1).2.2 = true
                · show D3.1 325 54 = oI (if _ then some p else none)
                  rw [if_pos w]; exact (y1 w).1
                · show D3.1 325 54 = oI (if _ then some p else none)
                  rw [if_neg w, y0 (Bool.eq_false_iff.mpr w), a54, hnp]
              · by_cases w : (rTurn τ p (rTen τ (T + 1) p δ hd).1 (rTen τ (T + 1) p δ hd).2.1).2.2 = true
                · exact fun _ => (y1 w).2
                · intro v
                  exact absurd (if_neg w) v
        exact turn (tN τ 5) 0 (by omega) D' o G g54' (fun w => absurd rfl w)
  -- who has alike ones when all are dealt
  have first : ∀ k p, p + k = tN τ 5 → ∀ D' r, mRd D D' → mSit D' τ → mDl D' (tN τ 5) δ0 → (∀ i, i < p → D'.1 353 i = 0) → D'.1 325 54 = oI r → D'.1 325 55 = 0 → dFirst (tN τ 2) (tN τ 0) δ0 p r → xPf (d + 4) m_M_go 16 [(0, .ref 325), (1, .int (nI U)), (2, .int (nI p))] [] D' (fun r D' => r = none ∧ P D') := by
    intro k
    induction k with
    | zero =>
      intro p hp D' r o S' hD' hz g54 g55 hr
      have ep : p = tN τ 5 := by omega
      rw [ep] at hr hz
      have er := dfe r hr
      refine s_M_go_16 xk_M ?_
      rw [S'.1]
      refine ⟨fun _ => ?_, fun z => absurd (nI_le (by omega) (by omega)) z⟩
      refine ten U 0 (by omega) D' o ⟨S', by rw [o.2 27 (by omega)]; exact e27, by rw [o.2 29 (by omega)]; exact e29, hD', fun i hi => hz i hi⟩ (by rw [g54, er]; rfl) (fun _ => g55)
    | succ k ih =>
      intro p hp D' r o S' hD' hz g54 g55 hr
      have hpN : p < tN τ 5 := by omega
      have rlt : ∀ q, r = some q → q < 2 ^ 31 := fun q hq => by rw [hq] at hr; have := hr.1; omega
      refine s_M_go_16 xk_M ?_
      rw [S'.1, nI_clamp (n := p) (by omega), nI_1]
      refine ⟨fun z => absurd z (nI_ge (by omega) (by omega)), fun _ => ⟨by rw [l28]; exact vp_in_nI (by omega) (by omega), fun D4 e4 => ?_⟩⟩
      obtain ⟨o4, v4⟩ := ma (by omega) e4
      have v4' : ∀ j, D4.1 353 j = if j = p then 0 else D'.1 353 j := v4
      have a54 : D4.1 325 54 = oI r := by rw [o4.2 54 (by omega)]; exact g54
      have hz4 : ∀ i, i < p + 1 → D4.1 353 i = 0 := fun i hi => by
        rw [v4']
        by_cases z : i = p
        · rw [if_pos z]
        · rw [if_neg z]; exact hz i (by omega)
      have hD4 := hD'.fr o4 (by omega)
      have S4 := S'.fr o4 (by omega) (by omega)
      have r4 := o.trans (o4.rd (by omega) (by omega))
      -- the field is written in any case
      have go : ∀ r' D5, mF 0 0 54 55 D4 D5 → D5.1 325 54 = oI r' → dFirst (tN τ 2) (tN τ 0) δ0 (p + 1) r' → xPf (d + 4) m_M_go 16 [(0, .ref 325), (1, .int (nI U)), (2, .int (nI (p + 1)))] [] D5 (fun r D' => r = none ∧ P D') := by
        intro r' D5 o5 f5 hr'
        refine ih (p + 1) (by omega) D5 r' (r4.trans (o5.rd (by omega) (by omega))) (S4.fr o5 (by omega) (by omega)) (hD4.fr o5 (by omega)) (fun i hi => by rw [(o5.1 353 (by omega) (by omega)).1]; exact hz4 i hi) f5 (by rw [o5.2 55 (by omega), o4.2 55 (by omega)]; exact g55) hr'
      refine ⟨fun z D5 e5 => ?_, fun z => ?_⟩
      · obtain ⟨o5, f5⟩ := mf e5
        refine go r D5 o5 (by rw [f5]; exact a54) ?_
        cases r with
        | none => exact absurd a54 z
        | some q => exact ⟨by have := hr.1; omega, hr.2⟩
      · rw [a54] at z
        have hrn := (oI_iff rlt).mp z
        subst hrn
        refine c_M_areAlike hD4 hδ.1 (by rw [r4.2 27 (by omega)]; exact e27) (by rw [r4.2 29 (by omega)]; exact e29) hN hK hA4 hpN (fun q => ⟨fun y => absurd y (by decide), fun _ D5 e5 => ?_⟩) (fun q => ⟨fun _ D5 e5 => ?_, fun y => absurd rfl y⟩)
        · obtain ⟨o5, f5⟩ := mf e5
          exact go (some p) D5 o5 f5 ⟨by omega, q, hr⟩
        · obtain ⟨o5, f5⟩ := mf e5
          refine go none D5 o5 (by rw [f5]; exact a54) (fun i hi => ?_)
          by_cases y : i = p
          · rw [y]; exact q
          · exact hr i (by omega)
  exact first (tN τ 5) 0 (by omega) D3 none r3 (S.rd r3) hD3 (fun i hi => absurd hi (Nat.not_lt_zero _)) f54 f3 (fun q hq => absurd hq (Nat.not_lt_zero _))
end MGO
