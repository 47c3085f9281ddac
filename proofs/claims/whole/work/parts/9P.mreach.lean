/-! The reference: a book's round, who reaches for a spoon. -/
def mBs (D : xD) (N A K : Nat) (s : bS) : Prop :=
  (D.1 325 27 = nI K ∧ D.1 325 29 = nI A ∧ D.1 325 30 = nI N ∧ D.1 325 31 = nI N) ∧ mDl D N s.1 ∧ D.1 325 47 = nI s.2.2.2.1 ∧ D.1 325 48 = nI s.2.2.2.2.1 ∧ D.1 325 49 = nI s.2.1.length ∧ D.1 325 50 = oI s.2.2.2.2.2 ∧
  (∃ b, b < 64 ∧ D.1 325 53 = nI b ∧ ∀ i, b.testBit i = decide (i ∈ s.2.1)) ∧ (∀ i c, s.2.1[i]? = some c → D.1 351 i = nI c) ∧ ∀ i, i < N → D.1 352 i = nI (s.2.2.1 i)
section MREACH
variable {d : Nat} {D : xD} {N A K n : Nat} {s : bS}
theorem mBs.at {s' : bS} (q : s = s') (h : mBs D N A K s) : mBs D N A K s' := q ▸ h
theorem mBs_deal {D' : xD} {δ : dS} (hB : mBs D N A K s) (o : mF 346 351 0 0 D D') (hD : mDl D' N δ) : mBs D' N A K (δ, s.2) := by
  obtain ⟨⟨a1, a2, a3, a4⟩, b, c1, c2, c3, c4, ⟨x, c5, c6, c7⟩, c8, c9⟩ := hB
  refine ⟨⟨by rw [o.2 27 (by omega)]; exact a1, by rw [o.2 29 (by omega)]; exact a2, by rw [o.2 30 (by omega)]; exact a3, by rw [o.2 31 (by omega)]; exact a4⟩, hD, by rw [o.2 47 (by omega)]; exact c1, by rw [o.2 48 (by omega)]; exact c2, by rw [o.2 49 (by omega)]; exact c3, by rw [o.2 50 (by omega)]; exact c4, ⟨x, c5, by rw [o.2 53 (by omega)]; exact c6, c7⟩, fun i c hc => by rw [(o.1 351 (by omega) (by omega)).1]; exact c8 i c hc, fun i hi => by rw [(o.1 352 (by omega) (by omega)).1]; exact c9 i hi⟩
theorem mBs_let {D' : xD} {p : Nat} (hB : mBs D N A K s) (o : mF 352 353 0 0 D D') (v : ∀ j, D'.1 352 j = if j = p then nI (s.2.2.1 p + 1) else D.1 352 j) : mBs D' N A K (s.1, s.2.1, (fun i => if i = p then s.2.2.1 i + 1 else s.2.2.1 i), s.2.2.2) := by
  obtain ⟨⟨a1, a2, a3, a4⟩, b, c1, c2, c3, c4, ⟨x, c5, c6, c7⟩, c8, c9⟩ := hB
  refine ⟨⟨by rw [o.2 27 (by omega)]; exact a1, by rw [o.2 29 (by omega)]; exact a2, by rw [o.2 30 (by omega)]; exact a3, by rw [o.2 31 (by omega)]; exact a4⟩, b.fr o (by omega), by rw [o.2 47 (by omega)]; exact c1, by rw [o.2 48 (by omega)]; exact c2, by rw [o.2 49 (by omega)]; exact c3, by rw [o.2 50 (by omega)]; exact c4, ⟨x, c5, by rw [o.2 53 (by omega)]; exact c6, c7⟩, fun i c hc => by rw [(o.1 351 (by omega) (by omega)).1]; exact c8 i c hc, fun i hi => ?_⟩
  show D'.1 352 i = nI (if i = p then s.2.2.1 i + 1 else s.2.2.1 i)
  rw [v]
  by_cases q : i = p
  · rw [if_pos q, if_pos q, q]
  · rw [if_neg q, if_neg q]; exact c9 i hi
/-- he takes a spoon -/
theorem m_reach {P : Int32 → xD → Prop} {p : Nat} (hB : mBs D N A K s) (hN : N ≤ 6) (hW : bW N K n s) (hl : s.2.2.2.2.2 = none) (hp : p < N) (hne : p ∉ s.2.1) (hno : ¬ (s.2.1 = [] ∧ dAlB A K s.1 p = false))
    (h1 : ∀ D' s', mF 346 353 47 54 D D' → bReach N A K p s = some s' → mBs D' N A K s' → P 1 D') :
    vp_in (D.1 325 49) (xl (325 + 26)) ∧ ∀ D5 : xD, D5 = (xu D.1 (325 + 26) (D.1 325 49).toNatClampNeg (nI p), D.2) → ∀ D6 : xD, D6 = (xu D5.1 325 53 ((D5.1 325 53) ||| ((1 : Int32) <<< (nI p &&& 31))), D5.2) → ∀ D7 : xD, D7 = (xu D6.1 325 49 ((D6.1 325 49) + (1 : Int32)), D6.2) → (¬ (D7.1 325 49) = ((D7.1 325 30) - (1 : Int32)) → ∃ v, some (Value.int (1 : Int32)) = some (.int v) ∧ P v D7) ∧ ((D7.1 325 49) = ((D7.1 325 30) - (1 : Int32)) → ∀ D8 : xD, D8 = (xu D7.1 325 50 (0 : Int32), D7.2) → xPf (d + 2) m_M_reaches 90 [(0, .ref 325), (1, .int (nI p))] [] D8 (fun r D' => ∃ v, r = some (.int v) ∧ P v D')) := by
  have l26 : xl (325 + 26) = 6 := cl_13_51 xk_M
  have l27 : xl (325 + 27) = 6 := cl_13_52 xk_M
  obtain ⟨⟨a1, a2, a3, a4⟩, b, c1, c2, c3, c4, ⟨x, c5, c6, c7⟩, c8, c9⟩ := hB
  obtain ⟨w1, w2, w3, w4, w5⟩ := hW
  have w6 := w4 hl
  have eb : bReach N A K p s = if s.2.1.length + 2 = N then some (s.1, s.2.1 ++ [p], (fun i => if some i = bWo (s.2.1 ++ [p]) N then s.2.2.1 i + 1 else s.2.2.1 i), s.2.2.2.1, s.2.2.2.2.1, bWo (s.2.1 ++ [p]) N) else some (s.1, s.2.1 ++ [p], s.2.2) := by
    unfold bReach; rw [if_neg hne, if_neg hno]
  rw [c3, nI_clamp (n := s.2.1.length) (by omega)]
  refine ⟨by rw [l26]; exact vp_in_nI (by omega) (by omega), fun D5 e5 D6 e6 D7 e7 => ?_⟩
  obtain ⟨o5, v5⟩ := ma (by omega) e5
  obtain ⟨o6, f6⟩ := mf e6
  obtain ⟨o7, f7⟩ := mf e7
  have v5' : ∀ j, D5.1 351 j = if j = s.2.1.length then nI p else D.1 351 j := v5
  have x64 : x ||| 2 ^ p < 64 := Nat.or_lt_two_pow (n := 6) c5 (Nat.pow_lt_pow_right (by omega) (by omega))
  rw [o5.2 53 (by omega), c6, yb_1 (by omega), yb_or] at f6
  rw [o6.2 49 (by omega), o5.2 49 (by omega), c3, nI_1] at f7
  have o57 : mF 346 353 47 54 D D7 := (o5.m (by omega) (by omega)).trans ((o6.m (by omega) (by omega)).trans (o7.m (by omega) (by omega)))
  have hB7 : mBs D7 N A K (s.1, s.2.1 ++ [p], s.2.2) := by
    refine ⟨⟨by rw [o57.2 27 (by omega)]; exact a1, by rw [o57.2 29 (by omega)]; exact a2, by rw [o57.2 30 (by omega)]; exact a3, by rw [o57.2 31 (by omega)]; exact a4⟩, ((b.fr o5 (by omega)).fr o6 (by omega)).fr o7 (by omega), by rw [o7.2 47 (by omega), o6.2 47 (by omega), o5.2 47 (by omega)]; exact c1, by rw [o7.2 48 (by omega), o6.2 48 (by omega), o5.2 48 (by omega)]; exact c2, by rw [f7, List.length_append]; rfl, by rw [o7.2 50 (by omega), o6.2 50 (by omega), o5.2 50 (by omega)]; exact c4, ⟨x ||| 2 ^ p, x64, by rw [o7.2 53 (by omega)]; exact f6, fun i => ?_⟩, fun i c hc => ?_, fun i hi => ?_⟩
    · rw [Nat.testBit_or, c7, Nat.testBit_two_pow]
      by_cases q : p = i
      · subst q; simp
      · have : i ≠ p := fun z => q z.symm
        simp [q, this]
    · rw [(o7.1 351 (by omega) (by omega)).1, (o6.1 351 (by omega) (by omega)).1, v5']
      have hc : (s.2.1 ++ [p])[i]? = some c := hc
      by_cases q : i < s.2.1.length
      · rw [List.getElem?_append_left q] at hc
        rw [if_neg (by omega)]
        exact c8 i c hc
      · have hil : i < (s.2.1 ++ [p]).length := (List.getElem?_eq_some_iff.mp hc).1
        have ei : i = s.2.1.length := by simp at hil; omega
        subst ei
        simp at hc
        subst hc
        exact if_pos rfl
    · rw [(o7.1 352 (by omega) (by omega)).1, (o6.1 352 (by omega) (by omega)).1, (o5.1 352 (by omega) (by omega)).1]; exact c9 i hi
  have g30 : D7.1 325 30 = nI N := by rw [o57.2 30 (by omega)]; exact a3
  rw [f7, g30, show nI N - (1 : Int32) = nI (N - 1) from pk_sub (b := 1) (by omega)]
  refine ⟨fun z => ⟨_, rfl, ?_⟩, fun z D8 e8 => ?_⟩
  · rw [if_neg (fun y => z (by rw [show s.2.1.length + 1 = N - 1 by omega]))] at eb
    exact h1 D7 _ o57 eb hB7
  · have ec : s.2.1.length + 2 = N := by
      have := (nI_eq (by omega) (by omega)).mp z
      omega
    rw [if_pos ec] at eb
    obtain ⟨o8, f8⟩ := mf e8
    have wp : ∀ q, q ∈ s.2.1 ++ [p] → q < N := fun q hq => by
      rcases List.mem_append.mp hq with y | y
      · exact w2 q y
      · rw [List.mem_singleton.mp y]; exact hp
    obtain ⟨q, hq⟩ : ∃ q, bWo (s.2.1 ++ [p]) N = some q := by
      cases hx : bWo (s.2.1 ++ [p]) N with
      | some q => exact ⟨q, rfl⟩
      | none =>
        have := pigeons N _ (bWo_none hx)
        simp at this; omega
    obtain ⟨qN, qn, qa⟩ := bWo_some hq
    rw [hq] at eb
    obtain ⟨-, bd, k47, k48, k49, -, ⟨y, y64, yf, yb⟩, k351, k352⟩ := hB7
    -- the first who has none
    have key : ∀ m j, j + m = q → ∀ D', mF 0 0 50 51 D7 D' → D'.1 325 50 = nI j → xPf (d + 2) m_M_reaches 90 [(0, .ref 325), (1, .int (nI p))] [] D' (fun r D' => ∃ v, r = some (.int v) ∧ P v D') := by
      intro m
      induction m with
      | zero =>
        intro j hj D' o e50
        have ej : j = q := by omega
        subst ej
        have g53 : D'.1 325 53 = nI y := by rw [o.2 53 (by omega)]; exact yf
        have g352 : D'.1 (325 + 27) j = nI (s.2.2.1 j) := by rw [(o.1 (325 + 27) (by omega) (by omega)).1]; exact k352 j qN
        have i27 : vp_in (nI j) (xl (325 + 27)) := by rw [l27]; exact vp_in_nI (by omega) (by omega)
        refine s_M_reaches_90 xk_M ?_
        rw [g53, e50]
        refine c_M_has (by omega) (by omega) (fun z => ?_) (fun z => z0 ?_)
        · rw [yb, decide_eq_true_iff] at z; exact absurd z qn
        · rw [e50, nI_clamp (n := j) (by omega), g352, nI_1]
          refine ⟨i27, i27, fun D9 e9 => ⟨_, rfl, ?_⟩⟩
          obtain ⟨o9, v9⟩ := ma (by omega) e9
          have v9' : ∀ i, D9.1 352 i = if i = j then nI (s.2.2.1 j + 1) else D'.1 352 i := v9
          have hB' : mBs D' N A K (s.1, s.2.1 ++ [p], s.2.2.1, s.2.2.2.1, s.2.2.2.2.1, some j) :=
            ⟨⟨by rw [o.2 27 (by omega), o57.2 27 (by omega)]; exact a1, by rw [o.2 29 (by omega), o57.2 29 (by omega)]; exact a2, by rw [o.2 30 (by omega)]; exact g30, by rw [o.2 31 (by omega), o57.2 31 (by omega)]; exact a4⟩, bd.fr o (by omega), by rw [o.2 47 (by omega)]; exact k47, by rw [o.2 48 (by omega)]; exact k48, by rw [o.2 49 (by omega)]; exact k49, e50, ⟨y, y64, g53, yb⟩, fun i c hc => by rw [(o.1 351 (by omega) (by omega)).1]; exact k351 i c hc, fun i hi => by rw [(o.1 352 (by omega) (by omega)).1]; exact k352 i hi⟩
          refine h1 D9 _ (o57.trans ((o.m (by omega) (by omega)).trans (o9.m (by omega) (by omega)))) eb ?_
          refine mBs.at ?_ (mBs_let (p := j) hB' o9 v9')
          refine Prod.ext rfl (Prod.ext rfl (Prod.ext (funext fun i => ?_) rfl))
          show (if i = j then s.2.2.1 i + 1 else s.2.2.1 i) = if some i = some j then s.2.2.1 i + 1 else s.2.2.1 i
          by_cases z : i = j
          · rw [if_pos z, if_pos (by rw [z])]
          · rw [if_neg z, if_neg (fun y => z (Option.some.inj y))]
      | succ m ih =>
        intro j hj D' o e50
        have g53 : D'.1 325 53 = nI y := by rw [o.2 53 (by omega)]; exact yf
        refine s_M_reaches_90 xk_M ?_
        rw [g53, e50]
        refine c_M_has (by omega) (by omega) (fun z => z1 (fun D9 e9 => ?_)) (fun z => ?_)
        · obtain ⟨o9, f9⟩ := mf e9
          rw [e50, nI_1] at f9
          exact ih (j + 1) (by omega) D9 (o.trans o9) f9
        · rw [yb, decide_eq_false_iff_not] at z
          exact absurd (qa j (by omega)) z
    exact key q 0 (by omega) D8 o8 f8
theorem c_M_reaches {P : Int32 → xD → Prop} {p : Nat} (hB : mBs D N A K s) (hN : N ≤ 6) (hK : K ≤ 13) (hA : A ≤ 4) (hW : bW N K n s) (hl : s.2.2.2.2.2 = none) (hp : p < N)
    (h1 : ∀ D' s', mF 346 353 47 54 D D' → bReach N A K p s = some s' → mBs D' N A K s' → P 1 D') (h0 : bReach N A K p s = none → P 0 D) : xCi (d + 2) m_M_reaches [.ref 325, .int (nI p)] D P := by
  have l27 : xl (325 + 27) = 6 := cl_13_52 xk_M
  have hB0 := hB
  obtain ⟨⟨a1, a2, a3, a4⟩, b, c1, c2, c3, c4, ⟨x, c5, c6, c7⟩, c8, c9⟩ := hB
  refine xCi_of y_M_reaches (Nat.le_of_ble_eq_true rfl) (s_M_reaches_0 xk_M ?_)
  rw [c6]
  refine c_M_has (by omega) (by omega) (fun z => z1 ⟨_, rfl, h0 ?_⟩) (fun z => z0 ?_)
  · rw [c7, decide_eq_true_iff] at z
    unfold bReach
    exact if_pos z
  · rw [c7, decide_eq_false_iff_not] at z
    refine c_M_areAlike b hW.1 a1 a2 hN hK hA hp (fun q => ⟨fun _ => ?_, fun y => absurd y (by decide)⟩) (fun q => ⟨fun y => absurd rfl y, fun _ => ⟨fun y => ?_, fun y => ?_⟩⟩)
    · exact m_reach hB0 hN hW hl hp z (fun w => by rw [dAlB_iff.mpr q] at w; exact absurd w.2 (by decide)) h1
    · refine m_reach hB0 hN hW hl hp z (fun w => y ?_) h1
      rw [c3, w.1]; rfl
    · have hx : s.2.1 = [] := by
        rw [c3] at y
        have := hW.2.2.1
        apply List.eq_nil_of_length_eq_zero
        apply Decidable.byContradiction
        intro w
        exact nI_ne0 (by omega) (by omega) y
      have q2 : dAlB A K s.1 p = false := by
        cases hx2 : dAlB A K s.1 p with
        | false => rfl
        | true => exact absurd (dAlB_iff.mp hx2) q
      have i27 : vp_in (nI p) (xl (325 + 27)) := by rw [l27]; exact vp_in_nI (by omega) (by omega)
      rw [nI_clamp (n := p) (by omega), show D.1 (325 + 27) p = nI (s.2.2.1 p) from c9 p hp, nI_1]
      refine ⟨i27, i27, fun D3 e3 => ⟨_, rfl, ?_⟩⟩
      obtain ⟨o3, v3⟩ := ma (by omega) e3
      refine h1 D3 _ (o3.m (by omega) (by omega)) ?_ (mBs_let (p := p) hB0 o3 v3)
      unfold bReach
      rw [if_neg z, if_pos ⟨hx, q2⟩]
end MREACH
