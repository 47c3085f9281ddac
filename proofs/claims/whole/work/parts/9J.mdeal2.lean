/-! The reference deals. -/
section MDEAL2
variable {d : Nat} {D : xD} {N A K n : Nat} {δ : dS}
theorem c_M_deal {P : xD → Prop} {c : Nat → Nat} (e29 : D.1 325 29 = nI A) (e31 : D.1 325 31 = nI N) (h0 : 0 < N) (hN : N ≤ 6) (hA4 : A ≤ 4) (pk : mPk D n c) (hn : n ≤ 52) (hc : ∀ j, j < n → c j < 13) (hAn : A * N < n)
    (h : ∀ D', mF 346 351 0 0 D D' → mDl D' N (dInit N A n c) → P D') : xCv (d + 2) m_M_deal [.ref 325] D P := by
  have l20 : xl (325 + 20) = 52 := cl_13_39 xk_M
  have l21 : xl (325 + 21) = 78 := cl_13_41 xk_M
  have l22 : xl (325 + 22) = 6 := cl_13_42 xk_M
  have l24 : xl (325 + 24) = 7 := cl_13_44 xk_M
  have l25 : xl (325 + 25) = 7 := cl_13_45 xk_M
  have pc : ∀ D', mF 346 351 0 0 D D' → ∀ j, j < n → D'.1 (325 + 20) j = nI (c j) := fun D' o j hj => by
    rw [(o.1 (325 + 20) (by omega) (by omega)).1]; exact pk.2 j hj
  refine xCv_of y_M_deal (Nat.le_of_ble_eq_true rfl) (s_M_deal_0 xk_M ?_)
  -- the rest waits
  have rest : ∀ k j, j + k = n → A * N ≤ j → ∀ D', mF 346 351 0 0 D D' → mDl D' N (fun p k => if p < N then cntr c (A * p) A k else 0, fun p => if p < N then A else 0, fun p => if p = 0 then (List.range (j - A * N)).map (fun i => c (A * N + i)) else []) → xPf (d + 2) m_M_deal 128 [(0, .ref 325), (1, .int (nI j))] [] D' (fun r D' => r = none ∧ P D') := by
    intro k
    induction k with
    | zero =>
      intro j hj hAj D' o hD'
      refine s_M_deal_128 xk_M ?_
      rw [o.2 40 (by omega), pk.1]
      refine ⟨fun _ => ⟨rfl, h D' o ?_⟩, fun z => absurd (nI_le (by omega) (by omega)) z⟩
      rw [show n = j by omega]
      exact hD'
    | succ k ih =>
      intro j hj hAj D' o hD'
      refine s_M_deal_128 xk_M ?_
      rw [o.2 40 (by omega), pk.1, nI_clamp (n := j) (by omega), pc D' o j (by omega)]
      refine ⟨fun z => absurd z (nI_ge (by omega) (by omega)), fun _ => ⟨by rw [l20]; exact vp_in_nI (by omega) (by omega), ?_⟩⟩
      have q0 : mLn D' 0 ((List.range (j - A * N)).map (fun i => c (A * N + i))) := by
        have := hD'.2.2 0 (by omega)
        rw [mQ_p h0] at this
        exact this
      have hlen : ((List.range (j - A * N)).map (fun i => c (A * N + i))).length < 52 := by simp; omega
      refine c_M_push (q := 0) (by omega) q0 hlen (hc j (by omega)) (fun D2 o2 l1 l2 => ?_)
      have hD2 := mDl_push (p := 0) (c := c j) hN (by omega) hD' o2 (by rw [mQ_p h0]; exact l1) (by rw [mQ_p h0]; exact l2)
      rw [nI_1]
      refine ih (j + 1) (by omega) (by omega) D2 (o.trans (o2.m (by omega) (by omega))) ?_
      refine mDl.at ?_ hD2
      refine Prod.ext rfl (Prod.ext rfl (funext fun i => ?_))
      show (if i = 0 then (if i = 0 then (List.range (j - A * N)).map (fun i => c (A * N + i)) else []) ++ [c j] else if i = 0 then (List.range (j - A * N)).map (fun i => c (A * N + i)) else []) = (if i = 0 then (List.range (j + 1 - A * N)).map (fun i => c (A * N + i)) else [])
      by_cases q : i = 0
      · rw [if_pos q, if_pos q, if_pos q, show j + 1 - A * N = j - A * N + 1 by omega, List.range_succ, List.map_append]
        simp [show A * N + (j - A * N) = j by omega]
      · rw [if_neg q, if_neg q, if_neg q]
  -- hands, one after the other
  have one : ∀ k i, i + k = A → ∀ p, p < N → ∀ D', mF 346 351 0 0 D D' → (∀ q, q < 7 → mLn D' q []) → (∀ q, q ≤ p → D'.1 347 q = nI A) → (∀ q, q < N → ∀ k, k < 13 → D'.1 346 (13 * q + k) = nI (if q < p then cntr c (A * q) A k else if q = p then cntr c (A * p) i k else 0)) →
      (∀ D2, mF 346 351 0 0 D D2 → (∀ q, q < 7 → mLn D2 q []) → (∀ q, q < p + 1 → D2.1 347 q = nI A) → (∀ q, q < N → ∀ k, k < 13 → D2.1 346 (13 * q + k) = nI (if q < p + 1 then cntr c (A * q) A k else 0)) → xPf (d + 2) m_M_deal 51 [(0, .ref 325), (1, .int (nI (p + 1)))] [] D2 (fun r D' => r = none ∧ P D')) →
      xPf (d + 2) m_M_deal 71 [(0, .ref 325), (1, .int (nI p)), (2, .int (nI i))] [] D' (fun r D' => r = none ∧ P D') := by
    intro k
    induction k with
    | zero =>
      intro i hi p hp D' o hl hh hv hk
      refine s_M_deal_71 xk_M ?_
      rw [o.2 29 (by omega), e29, nI_1 p]
      refine ⟨fun _ => hk D' o hl (fun q hq => hh q (by omega)) (fun q hq k hk => ?_), fun z => absurd (nI_le (by omega) (by omega)) z⟩
      rw [hv q hq k hk]
      by_cases q1 : q < p
      · rw [if_pos q1, if_pos (by omega)]
      · rw [if_neg q1]
        by_cases q2 : q = p
        · rw [if_pos q2, if_pos (by omega), q2, show i = A by omega]
        · rw [if_neg q2, if_neg (by omega)]
    | succ k ih =>
      intro i hi p hp D' o hl hh hv hk
      have hApi : A * p + i < n := by
        have : A * (p + 1) ≤ A * N := Nat.mul_le_mul_left A (by omega)
        rw [Nat.mul_succ] at this
        omega
      have hc13 := hc _ hApi
      refine s_M_deal_71 xk_M ?_
      rw [o.2 29 (by omega), e29, pk_mul, nI_add, nI_clamp (n := A * p + i) (by omega), pc D' o _ hApi, ix13', nI_clamp (n := 13 * p + c (A * p + i)) (by omega), nI_1 i]
      have i21 : vp_in (nI (13 * p + c (A * p + i))) (xl (325 + 21)) := by rw [l21]; exact vp_in_nI (by omega) (by omega)
      refine ⟨fun z => absurd z (nI_ge (by omega) (by omega)), fun _ => ⟨by rw [l20]; exact vp_in_nI (by omega) (by omega), i21, i21, fun D2 e2 => ?_⟩⟩
      obtain ⟨o2, v2⟩ := ma (by omega) e2
      have f2 : D'.1 (325 + 21) (13 * p + c (A * p + i)) = nI (cntr c (A * p) i (c (A * p + i))) := by
        have := hv p hp _ hc13
        rw [if_neg (by omega), if_pos rfl] at this
        exact this
      rw [f2, nI_1] at v2
      have v2' : ∀ j, D2.1 346 j = if j = 13 * p + c (A * p + i) then nI (cntr c (A * p) i (c (A * p + i)) + 1) else D'.1 346 j := v2
      refine ih (i + 1) (by omega) p hp D2 (o.trans (o2.m (by omega) (by omega))) (fun q hq => (hl q hq).fr o2 (by omega)) (fun q hq => by rw [(o2.1 347 (by omega) (by omega)).1]; exact hh q hq) (fun q hq x hx => ?_) hk
      rw [v2']
      by_cases q1 : q = p
      · subst q1
        rw [if_neg (show ¬ q < q by omega), if_pos rfl, cntr]
        by_cases q2 : x = c (A * q + i)
        · rw [q2, if_pos rfl, if_pos rfl]
        · rw [if_neg (by omega), if_neg (fun z => q2 z.symm), hv q hq x hx, if_neg (show ¬ q < q by omega), if_pos rfl]; rfl
      · rw [if_neg (by omega), hv q hq x hx, if_neg q1, if_neg q1]
  have all : ∀ k p, p + k = N → ∀ D', mF 346 351 0 0 D D' → (∀ q, q < 7 → mLn D' q []) → (∀ q, q < p → D'.1 347 q = nI A) → (∀ q, q < N → ∀ k, k < 13 → D'.1 346 (13 * q + k) = nI (if q < p then cntr c (A * q) A k else 0)) →
      xPf (d + 2) m_M_deal 51 [(0, .ref 325), (1, .int (nI p))] [] D' (fun r D' => r = none ∧ P D') := by
    intro k
    induction k with
    | zero =>
      intro p hp D' o hl hh hv
      have ep : p = N := by omega
      refine s_M_deal_51 xk_M ?_
      rw [o.2 31 (by omega), e31, o.2 29 (by omega), e29, pk_mul]
      refine ⟨fun _ => rest (n - A * N) (A * N) (by omega) (Nat.le_refl _) D' o ⟨fun q hq k hk => ?_, fun q hq => ?_, fun q hq => ?_⟩, fun z => absurd (nI_le (by omega) (by omega)) z⟩
      · rw [hv q hq k hk, ep]
      · rw [hh q (by omega)]
        show nI A = nI (if q < N then A else 0)
        rw [if_pos hq]
      · show mLn D' _ (if q = 0 then (List.range (A * N - A * N)).map (fun i => c (A * N + i)) else [])
        rw [Nat.sub_self]
        have := hl _ (mQ_lt hN hq)
        split
        · exact this
        · exact this
    | succ k ih =>
      intro p hp D' o hl hh hv
      refine s_M_deal_51 xk_M ?_
      rw [o.2 31 (by omega), e31, o.2 29 (by omega), e29, nI_clamp (n := p) (by omega)]
      refine ⟨fun z => absurd z (nI_ge (by omega) (by omega)), fun _ => ⟨by rw [l22]; exact vp_in_nI (by omega) (by omega), fun D2 e2 => ?_⟩⟩
      obtain ⟨o2, v2⟩ := ma (by omega) e2
      have v2' : ∀ j, D2.1 347 j = if j = p then nI A else D'.1 347 j := v2
      refine one A 0 (by omega) p (by omega) D2 (o.trans (o2.m (by omega) (by omega))) (fun q hq => (hl q hq).fr o2 (by omega)) (fun q hq => ?_) (fun q hq k hk => ?_) (fun D3 o3 l3 h3 v3 => ih (p + 1) (by omega) D3 o3 l3 h3 v3)
      · rw [v2']
        by_cases z : q = p
        · rw [if_pos z]
        · rw [if_neg z]; exact hh q (by omega)
      · rw [(o2.1 346 (by omega) (by omega)).1, hv q hq k hk]
        by_cases q1 : q < p
        · rw [if_pos q1, if_pos q1]
        · rw [if_neg q1, if_neg q1]
          split <;> rfl
  -- nobody holds a card
  have zero : ∀ k j, j + k = 78 → ∀ D', mF 346 351 0 0 D D' → (∀ q, q < 7 → mLn D' q []) → (∀ i, i < j → D'.1 346 i = 0) → xPf (d + 2) m_M_deal 30 [(0, .ref 325), (1, .int (nI j))] [] D' (fun r D' => r = none ∧ P D') := by
    intro k
    induction k with
    | zero =>
      intro j hj D' o hl hz
      refine s_M_deal_30 xk_M ⟨fun _ => all N 0 (by omega) D' o hl (fun q hq => absurd hq (Nat.not_lt_zero _)) (fun q hq k hk => ?_), fun z => absurd (nI_le (a := 78) (by omega) (by omega)) z⟩
      rw [hz _ (by omega), if_neg (Nat.not_lt_zero _)]; rfl
    | succ k ih =>
      intro j hj D' o hl hz
      refine s_M_deal_30 xk_M ?_
      rw [nI_clamp (n := j) (by omega), nI_1]
      refine ⟨fun z => absurd z (nI_ge (b := 78) (by omega) (by omega)), fun _ => ⟨by rw [l21]; exact vp_in_nI (by omega) (by omega), fun D2 e2 => ?_⟩⟩
      obtain ⟨o2, v2⟩ := ma (by omega) e2
      have v2' : ∀ i, D2.1 346 i = if i = j then 0 else D'.1 346 i := v2
      refine ih (j + 1) (by omega) D2 (o.trans (o2.m (by omega) (by omega))) (fun q hq => (hl q hq).fr o2 (by omega)) (fun i hi => ?_)
      rw [v2']
      by_cases z : i = j
      · rw [if_pos z]
      · rw [if_neg z]; exact hz i (by omega)
  have none' : ∀ k j, j + k = 7 → ∀ D', mF 346 351 0 0 D D' → (∀ q, q < j → D'.1 349 q = 0 ∧ D'.1 350 q = 0) → xPf (d + 2) m_M_deal 2 [(0, .ref 325), (1, .int (nI j))] [] D' (fun r D' => r = none ∧ P D') := by
    intro k
    induction k with
    | zero =>
      intro j hj D' o hz
      refine s_M_deal_2 xk_M ⟨fun _ => zero 78 0 (by omega) D' o (fun q hq => ?_) (fun i hi => absurd hi (Nat.not_lt_zero _)), fun z => absurd (nI_lt (a := 6) (by omega) (by omega)) z⟩
      obtain ⟨a, b⟩ := hz q (by omega)
      exact ⟨b, by simp, 0, by omega, a, fun i x hx => by simp at hx⟩
    | succ k ih =>
      intro j hj D' o hz
      refine s_M_deal_2 xk_M ?_
      rw [nI_clamp (n := j) (by omega), nI_1]
      refine ⟨fun z => absurd z (nI_nlt (a := 6) (by omega) (by omega)), fun _ => ⟨by rw [l24]; exact vp_in_nI (by omega) (by omega), fun D2 e2 => ⟨by rw [l25]; exact vp_in_nI (by omega) (by omega), fun D3 e3 => ?_⟩⟩⟩
      obtain ⟨o2, v2⟩ := ma (by omega) e2
      obtain ⟨o3, v3⟩ := ma (by omega) e3
      have v2' : ∀ i, D2.1 349 i = if i = j then 0 else D'.1 349 i := v2
      have v3' : ∀ i, D3.1 350 i = if i = j then 0 else D2.1 350 i := v3
      refine ih (j + 1) (by omega) D3 (o.trans ((o2.m (by omega) (by omega)).trans (o3.m (by omega) (by omega)))) (fun q hq => ?_)
      rw [(o3.1 349 (by omega) (by omega)).1, v2', v3', (o2.1 350 (by omega) (by omega)).1]
      by_cases z : q = j
      · rw [if_pos z, if_pos z]; exact ⟨rfl, rfl⟩
      · rw [if_neg z, if_neg z]; exact hz q (by omega)
  exact none' 7 0 (by omega) D mF.rfl' (fun q hq => absurd hq (Nat.not_lt_zero _))
end MDEAL2
