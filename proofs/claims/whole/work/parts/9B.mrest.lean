/-! The reference: which ways REST. -/
theorem tSpoon_6 {σ : Nat → Int32} {p f t : Nat} (h : tP σ p 1 = 1 ∨ tP σ p 1 = 2 ∨ tP σ p 1 = 3) : tSpoon σ p f (t + 6) = tSpoon σ p f t + 6 := by
  have e : (t + 6) % tP σ p 1 = t % tP σ p 1 := by rcases h with h | h | h <;> rw [h] <;> omega
  unfold tSpoon tWait
  rw [e]
  split <;> omega
theorem tLast_6 {σ : Nat → Int32} {f t : Nat} : ∀ n, (∀ p, p < n → tP σ p 1 = 1 ∨ tP σ p 1 = 2 ∨ tP σ p 1 = 3) → tLast σ f (t + 6) n = tLast σ f t n := by
  intro n
  induction n with
  | zero => intro _; rfl
  | succ n ih =>
    intro h
    have ih := ih (fun p hp => h p (by omega))
    rw [tLast, tLast, ih]
    by_cases z : n = 0
    · rw [if_pos z, if_pos z]
    · have hl := tLast_lt σ f t n (by omega)
      rw [if_neg z, if_neg z, tSpoon_6 (h n (by omega)), tSpoon_6 (h _ (by omega))]
      by_cases c : tSpoon σ n f t < tSpoon σ (tLast σ f t n) f t
      · rw [if_pos c, if_pos (by omega)]
      · rw [if_neg c, if_neg (by omega)]
theorem lkL_6 {σ : Nat → Int32} {p f : Nat} (h : ∀ p, p < tN σ 5 → tP σ p 1 = 1 ∨ tP σ p 1 = 2 ∨ tP σ p 1 = 3) : ∀ n, lkL σ p f (n + 6) = lkL σ p f 6 + lkL σ p f n := by
  intro n
  induction n with
  | zero => rw [Nat.zero_add]; rfl
  | succ n ih =>
    rw [show n + 1 + 6 = n + 6 + 1 by omega, lkL, ih, tLast_6 _ h]
    show _ = lkL σ p f 6 + (lkL σ p f n + if tLast σ f n (tN σ 5) = p then 1 else 0)
    omega
theorem lkL_60 {σ : Nat → Int32} {p f : Nat} (h : ∀ p, p < tN σ 5 → tP σ p 1 = 1 ∨ tP σ p 1 = 2 ∨ tP σ p 1 = 3) : lkL σ p f 60 = 10 * lkL σ p f 6 := by
  have e := lkL_6 (p := p) (f := f) h
  have e0 : lkL σ p f 0 = 0 := rfl
  
  have a : lkL σ p f 60 = lkL σ p f 6 + lkL σ p f 54 := e 54
  have b : lkL σ p f 54 = lkL σ p f 6 + lkL σ p f 48 := e 48
  have c : lkL σ p f 48 = lkL σ p f 6 + lkL σ p f 42 := e 42
  have d : lkL σ p f 42 = lkL σ p f 6 + lkL σ p f 36 := e 36
  have i : lkL σ p f 36 = lkL σ p f 6 + lkL σ p f 30 := e 30
  have j : lkL σ p f 30 = lkL σ p f 6 + lkL σ p f 24 := e 24
  have k : lkL σ p f 24 = lkL σ p f 6 + lkL σ p f 18 := e 18
  have l : lkL σ p f 18 = lkL σ p f 6 + lkL σ p f 12 := e 12
  have m : lkL σ p f 12 = lkL σ p f 6 + lkL σ p f 6 := e 6
  omega
/-- what looking costs, whatever one's EYES are now -/
def mB (D : xD) (τ : Nat → Int32) (N : Nat) : Prop := D.1 325 31 = nI N ∧ D.1 325 30 = nI N ∧ (∀ i, i < N → D.1 341 i = nI (tP τ i 2) ∧ D.1 342 i = nI (tP τ i 3) ∧ tP τ i 2 ≤ 9 ∧ tP τ i 3 ≤ 20) ∧ ∀ i, i < N → D.1 364 i = nI (3 ^ (N - 1 - i))
theorem mB.fr {D D' : xD} {τ : Nat → Int32} {N : Nat} (h : mB D τ N) (o : mF 340 341 0 0 D D') : mB D' τ N :=
  ⟨by rw [o.2 31 (by omega)]; exact h.1, by rw [o.2 30 (by omega)]; exact h.2.1, fun i hi => by rw [(o.1 341 (by omega) (by omega)).1, (o.1 342 (by omega) (by omega)).1]; exact h.2.2.1 i hi, fun i hi => by rw [(o.1 364 (by omega) (by omega)).1]; exact h.2.2.2 i hi⟩
section MREST
variable {d : Nat} {D : xD} {g : gS} {τ : Nat → Int32} {N : Nat}
theorem c_M_lookWays {P : Int32 → xD → Prop} (hN : N ≤ 5) (e30 : D.1 325 30 = nI N) (h : ∀ D', mF 364 365 0 0 D D' → (∀ i, i < N → D'.1 364 i = nI (3 ^ (N - 1 - i))) → P (nI (3 ^ N)) D') : xCi (d + 1) m_M_lookWays [.ref 325] D P := by
  have l39 : xl (325 + 39) = 5 := cl_13_75 xk_M
  refine xCi_of y_M_lookWays (Nat.le_of_ble_eq_true rfl) (s_M_lookWays_0 xk_M ?_)
  rw [e30]
  have key : ∀ j, j ≤ N → ∀ D', mF 364 365 0 0 D D' → (∀ i, j ≤ i → i < N → D'.1 364 i = nI (3 ^ (N - 1 - i))) → xPf (d + 1) m_M_lookWays 9 [(0, .ref 325), (1, .int (nI (3 ^ (N - j)))), (2, .int (nI j - (1 : Int32)))] [] D' (fun r D' => ∃ v, r = some (.int v) ∧ P v D') := by
    intro j
    induction j with
    | zero =>
      intro _ D' o v
      exact s_M_lookWays_9 xk_M ⟨fun _ => ⟨_, rfl, h D' o (fun i hi => v i (by omega) hi)⟩, fun z => absurd (by rw [aI_0]; decide) z⟩
    | succ j ih =>
      intro hj D' o v
      refine s_M_lookWays_9 xk_M ?_
      rw [aI_s, nI_clamp (by omega), l39]
      refine ⟨fun z => absurd z (nI_pos (by omega)), fun _ => ⟨vp_in_nI (by omega) (by omega), fun D1 e1 => ?_⟩⟩
      obtain ⟨o1, v1⟩ := ma (by omega) e1
      have v1' : ∀ u, D1.1 364 u = if u = j then nI (3 ^ (N - (j + 1))) else D'.1 364 u := v1
      rw [show nI (3 ^ (N - (j + 1))) * (3 : Int32) = nI (3 ^ (N - j)) by rw [show (3 : Int32) = nI 3 from rfl, pk_mul, ← Nat.pow_succ]; congr 2; omega, ← Int32.sub_eq_add_neg]
      refine ih (by omega) D1 (o.trans (o1.m (by omega) (by omega))) (fun i hi hi2 => ?_)
      rw [v1']
      by_cases z : i = j
      · rw [if_pos z, z]; congr 2; omega
      · rw [if_neg z]; exact v i (by omega) hi2
  have := key N (Nat.le_refl _) D mF.rfl' (fun i a b => by omega)
  rw [Nat.sub_self] at this
  exact this
theorem c_M_costOf {P : Int32 → xD → Prop} {p w : Nat} (h5 : tN τ 5 = N) (hN : N ≤ 5) (hp : p < N) (hw : w < 3 ^ N) (B : mB D τ N) (h : ∀ D', mF 340 341 0 0 D D' → P (nI (lkC τ N w p)) D') : xCi (d + 4) m_M_costOf [.ref 325, .int (nI p), .int (nI w)] D P := by
  have l15 : xl (325 + 15) = 6 := cl_13_34 xk_M
  have l39 : xl (325 + 39) = 5 := cl_13_75 xk_M
  have h243 := ways_243 hN
  refine xCi_of y_M_costOf (Nat.le_of_ble_eq_true rfl) (s_M_costOf_0 xk_M ?_)
  have t5 : tN (tEy τ N w N) 5 = N := by rw [tEy_N _ _ _ _ (by omega)]; exact h5
  -- all look by the way
  have fin : ∀ D', mF 340 341 0 0 D D' → (∀ u, u < N → D'.1 340 u = nI (dig N w u + 1)) → ∀ m f, f + m = N → xPf (d + 4) m_M_costOf 52 [(0, .ref 325), (1, .int (nI p)), (2, .int (nI w)), (3, .int (nI (20 * N / (dig N w p + 1) + 10 * sm (fun f => lkG (tEy τ N w N) p f 6) f))), (4, .int (nI f))] [] D' (fun r D' => ∃ v, r = some (.int v) ∧ P v D') := by
    intro D' o v
    have B' := B.fr o
    have E : mE D' (tEy τ N w N) := by
      refine ⟨by rw [t5]; exact B'.1, by omega, fun i hi => ?_⟩
      rw [t5] at hi
      have hd := dig_lt N w i
      rw [tEy_p τ hi (by omega) N (Nat.le_refl _), tEy_p τ hi (by omega) N (Nat.le_refl _), tEy_p τ hi (by omega) N (Nat.le_refl _), if_pos ⟨rfl, by omega⟩, if_neg (by omega), if_neg (by omega)]
      obtain ⟨c1, c2, c3, c4⟩ := B'.2.2.1 i hi
      exact ⟨⟨v i hi, c1, c2⟩, ⟨by omega, by omega⟩, c3, c4⟩
    have e123 : ∀ q, q < tN (tEy τ N w N) 5 → tP (tEy τ N w N) q 1 = 1 ∨ tP (tEy τ N w N) q 1 = 2 ∨ tP (tEy τ N w N) q 1 = 3 := by
      intro q hq
      rw [t5] at hq
      have hd := dig_lt N w q
      rw [tEy_p τ hq (by omega) N (Nat.le_refl _), if_pos ⟨rfl, by omega⟩]
      omega
    intro m
    induction m with
    | zero =>
      intro f hf
      have ef : f = N := by omega
      subst ef
      refine s_M_costOf_52 xk_M ?_
      rw [B'.2.1]
      exact ⟨fun _ => ⟨_, rfl, h D' o⟩, fun z => absurd (nI_le (Nat.le_refl f) (by omega)) z⟩
    | succ m ih =>
      intro f hf
      have nx := ih (f + 1) (by omega)
      rw [sm] at nx
      refine s_M_costOf_52 xk_M ?_
      rw [B'.2.1, nI_eq (by omega) (by omega), nI_1 f]
      refine ⟨fun z => absurd z (nI_ge (by omega) (by omega)), fun _ => ⟨fun z => c_M_lastsOf E (by omega) (by omega) (by omega) ?_, fun z => ?_⟩⟩
      · rw [nI_add, lkL_60 e123]
        have eg : lkG (tEy τ N w N) p f 6 = lkL (tEy τ N w N) p f 6 := if_neg z
        rw [eg] at nx
        rw [show 20 * N / (dig N w p + 1) + 10 * sm (fun f => lkG (tEy τ N w N) p f 6) f + 10 * lkL (tEy τ N w N) p f 6 = 20 * N / (dig N w p + 1) + 10 * (sm (fun f => lkG (tEy τ N w N) p f 6) f + lkL (tEy τ N w N) p f 6) by omega]
        exact nx
      · rw [show nI (20 * N / (dig N w p + 1) + 10 * sm (fun f => lkG (tEy τ N w N) p f 6) f) + (0 : Int32) = nI (20 * N / (dig N w p + 1) + 10 * sm (fun f => lkG (tEy τ N w N) p f 6) f + 0) from nI_add _ 0, Nat.add_zero]
        have eg : lkG (tEy τ N w N) p f 6 = 0 := if_pos z
        rw [eg, Nat.add_zero] at nx
        exact nx
  have key : ∀ m i, i + m = N → ∀ D', mF 340 341 0 0 D D' → (∀ u, u < i → D'.1 340 u = nI (dig N w u + 1)) → xPf (d + 4) m_M_costOf 2 [(0, .ref 325), (1, .int (nI p)), (2, .int (nI w)), (3, .int (nI i))] [] D' (fun r D' => ∃ v, r = some (.int v) ∧ P v D') := by
    intro m
    induction m with
    | zero =>
      intro i hi D' o v
      have B' := B.fr o
      have hd := dig_lt N w p
      have vp : D'.1 (325 + 15) p = nI (dig N w p + 1) := v p (by omega)
      refine s_M_costOf_2 xk_M ?_
      rw [B'.2.1, nI_clamp (by omega), vp, l15, show (20 : Int32) * nI N = nI (20 * N) from pk_mul 20 N, pk_div (by omega) (by omega) (by omega)]
      refine ⟨fun _ => ⟨vp_in_nI (by omega) (by omega), nI_ne0 (by omega) (by omega), ?_⟩, fun z => absurd (nI_le (by omega) (by omega)) z⟩
      exact fin D' o (fun u hu => v u (by omega)) N 0 (by omega)
    | succ m ih =>
      intro i hi D' o v
      have B' := B.fr o
      have th : D'.1 (325 + 39) i = nI (3 ^ (N - 1 - i)) := B'.2.2.2 i (by omega)
      have p1 : 0 < 3 ^ (N - 1 - i) := Nat.pow_pos (by omega)
      have p2 : 3 ^ (N - 1 - i) ≤ 3 ^ 5 := Nat.pow_le_pow_right (by omega) (by omega)
      have wl : w / 3 ^ (N - 1 - i) ≤ w := Nat.div_le_self _ _
      refine s_M_costOf_2 xk_M ?_
      rw [B'.2.1, nI_clamp (n := p) (by omega), nI_clamp (n := i) (by omega), th, pk_div (by omega) p1 (by omega), show (3 : Int32) = nI 3 from rfl, pk_rem (by omega) (by omega) (by omega), show (1 : Int32) + nI (w / 3 ^ (N - 1 - i) % 3) = nI (1 + w / 3 ^ (N - 1 - i) % 3) from nI_add 1 _, nI_1 i]
      refine ⟨fun z => absurd z (nI_ge (by omega) (by omega)), fun _ => ⟨by rw [l39]; exact vp_in_nI (by omega) (by omega), nI_ne0 p1 (by omega), by rw [l15]; exact vp_in_nI (by omega) (by omega), fun D1 e1 => ?_⟩⟩
      obtain ⟨o1, v1⟩ := ma (by omega) e1
      have v1' : ∀ u, D1.1 340 u = if u = i then nI (1 + w / 3 ^ (N - 1 - i) % 3) else D'.1 340 u := v1
      refine ih (i + 1) (by omega) D1 (o.trans (o1.m (by omega) (by omega))) (fun u hu => ?_)
      rw [v1']
      by_cases z : u = i
      · rw [if_pos z, z, Nat.add_comm]; rfl
      · rw [if_neg z]; exact v u (by omega)
  exact key N 0 (by omega) D mF.rfl' (fun u hu => absurd hu (Nat.not_lt_zero _))
theorem c_M_isRest {P : Int32 → xD → Prop} {w : Nat} (h5 : tN τ 5 = N) (hN : N ≤ 5) (hw : w < 3 ^ N) (B : mB D τ N) (h1 : ∀ D', mF 340 341 0 0 D D' → lkR τ N w → P 1 D') (h0 : ∀ D', mF 340 341 0 0 D D' → ¬ lkR τ N w → P 0 D') : xCi (d + 5) m_M_isRest [.ref 325, .int (nI w)] D P := by
  have l39 : xl (325 + 39) = 5 := cl_13_75 xk_M
  have h243 := ways_243 hN
  refine xCi_of y_M_isRest (Nat.le_of_ble_eq_true rfl) (s_M_isRest_0 xk_M ?_)
  have key : ∀ m p, p + m = N → (∀ p', p' < p → ∀ o, o < 3 → lkC τ N w p' ≤ lkC τ N (w - dig N w p' * 3 ^ (N - 1 - p') + o * 3 ^ (N - 1 - p')) p') → ∀ D', mF 340 341 0 0 D D' → xPf (d + 5) m_M_isRest 2 [(0, .ref 325), (1, .int (nI w)), (2, .int (nI p))] [] D' (fun r D' => ∃ v, r = some (.int v) ∧ P v D') := by
    intro m
    induction m with
    | zero =>
      intro p hp hall D' o
      have B' := B.fr o
      refine s_M_isRest_2 xk_M ?_
      rw [B'.2.1]
      exact ⟨fun _ => ⟨_, rfl, h1 D' o (fun p' hp' => hall p' (by omega))⟩, fun z => absurd (nI_le (by omega) (by omega)) z⟩
    | succ m ih =>
      intro p hp hall D' o
      have B' := B.fr o
      have p1 : 0 < 3 ^ (N - 1 - p) := Nat.pow_pos (by omega)
      have p2 : 3 ^ (N - 1 - p) ≤ 3 ^ 5 := Nat.pow_le_pow_right (by omega) (by omega)
      have wl : w / 3 ^ (N - 1 - p) ≤ w := Nat.div_le_self _ _
      obtain ⟨wi1, wi2⟩ := ways_in N (by omega) w hw p (by omega)
      have hd := dig_lt N w p
      refine s_M_isRest_2 xk_M ?_
      rw [B'.2.1]
      refine ⟨fun z => absurd z (nI_ge (by omega) (by omega)), fun _ => c_M_costOf h5 hN (by omega) hw B' (fun D1 o1 => ?_)⟩
      have B1 := B'.fr o1
      have th : D1.1 (325 + 39) p = nI (3 ^ (N - 1 - p)) := B1.2.2.2 p (by omega)
      have i39 : vp_in (nI p) (xl (325 + 39)) := by rw [l39]; exact vp_in_nI (by omega) (by omega)
      rw [nI_clamp (by omega), th, pk_div (by omega) p1 (by omega), show (3 : Int32) = nI 3 from rfl, pk_rem (by omega) (by omega) (by omega), pk_mul, pk_sub (show w / 3 ^ (N - 1 - p) % 3 * 3 ^ (N - 1 - p) ≤ w from wi1)]
      refine ⟨i39, nI_ne0 p1 (by omega), i39, ?_⟩
      have inner : ∀ m2 e, e + m2 = 3 → (∀ o, o < e → lkC τ N w p ≤ lkC τ N (w - dig N w p * 3 ^ (N - 1 - p) + o * 3 ^ (N - 1 - p)) p) → ∀ D2, mF 340 341 0 0 D D2 → xPf (d + 5) m_M_isRest 41 [(0, .ref 325), (1, .int (nI w)), (2, .int (nI p)), (3, .int (nI (lkC τ N w p))), (4, .int (nI (w - dig N w p * 3 ^ (N - 1 - p)))), (5, .int (nI e))] [] D2 (fun r D' => ∃ v, r = some (.int v) ∧ P v D') := by
        intro m2
        induction m2 with
        | zero =>
          intro e he hle D2 o2
          refine s_M_isRest_41 xk_M ⟨fun _ => ?_, fun z => absurd (nI_le (a := 3) (by omega) (by omega)) z⟩
          rw [nI_1 p]
          exact ih (p + 1) (by omega) (fun p' hp' => by
            by_cases z : p' = p
            · rw [z]; exact fun o ho => hle o (by omega)
            · exact hall p' (by omega)) D2 o2
        | succ m2 ih2 =>
          intro e he hle D2 o2
          have B2 := B.fr o2
          have th2 : D2.1 (325 + 39) p = nI (3 ^ (N - 1 - p)) := B2.2.2.2 p (by omega)
          refine s_M_isRest_41 xk_M ⟨fun z => absurd z (nI_ge (a := e) (b := 3) (by omega) (by omega)), fun _ => ?_⟩
          rw [nI_clamp (by omega), th2, pk_mul, nI_add]
          refine ⟨i39, c_M_costOf h5 hN (by omega) (wi2 e (by omega)) B2 (fun D3 o3 => ?_)⟩
          have c1 := lkC_le τ (N := N) (w := w) (p := p) hN
          have c2 := lkC_le τ (N := N) (w := w - dig N w p * 3 ^ (N - 1 - p) + e * 3 ^ (N - 1 - p)) (p := p) hN
          rw [nI_leI (by omega) (by omega), nI_1 e]
          refine ⟨fun z => ih2 (e + 1) (by omega) (fun o ho => ?_) D3 (o2.trans o3), fun z => ⟨_, rfl, h0 D3 (o2.trans o3) (fun r => z (r p (by omega) e (by omega)))⟩⟩
          by_cases y : o = e
          · rw [y]; exact z
          · exact hle o (by omega)
      exact inner 3 0 (by omega) (fun o ho => absurd ho (Nat.not_lt_zero _)) D1 (o.trans o1)
  exact key N 0 (by omega) (fun p' hp' => absurd hp' (Nat.not_lt_zero _)) D mF.rfl'
theorem c_M_rests {P : Int32 → xD → Prop} {x p k : Int32} (hI : mI D g) (h : ∀ D', mO D D' → P (aRests g.1 x p k) D') : xCi (d + 40) m_M_rests [.ref 325, .int x, .int p, .int k] D P := by
  refine xCi_of y_M_rests (Nat.le_of_ble_eq_true rfl) (s_M_rests_0 xk_M (fun D1 e1 => ?_))
  obtain ⟨o1, I1⟩ := m_0 hI e1
  unfold aRests at h
  refine c_M_hand I1 (fun q => z0 ⟨_, rfl, ?_⟩) (fun τ q hT hL hF D2 o2 I2 H2 S2 W2 => z1 ?_)
  · rw [q] at h; exact h D1 o1
  · simp only [q] at h
    have o := o1.trans (o2.o (by omega))
    have b5 := hT.2.2.2.2.2.2.1
    have e5 : D2.1 325 30 = nI (tN τ 5) := by rw [H2.2.2.2.2]; exact hT.1 5 (by omega)
    have E := mE_of hT S2
    rw [e5, show (5 : Int32) < nI (tN τ 5) ↔ 5 < tN τ 5 from nI_ltI (a := 5) (by omega) (by omega)]
    refine ⟨fun c => ⟨_, rfl, ?_⟩, fun c => ?_⟩
    · rw [if_pos c] at h; exact h D2 o
    · have h5 : tN τ 5 ≤ 5 := by omega
      have h3 := ways_243 h5
      rw [if_neg c] at h
      have base : ∀ D3, mF 364 365 0 0 D2 D3 → (∀ i, i < tN τ 5 → D3.1 364 i = nI (3 ^ (tN τ 5 - 1 - i))) → mB D3 τ (tN τ 5) := fun D3 o3 v3 =>
        ⟨by rw [o3.2 31 (by omega)]; exact E.1, by rw [o3.2 30 (by omega)]; exact e5, fun i hi => by
          obtain ⟨⟨-, a2, a3⟩, -, b2, b3⟩ := E.2.2 i hi
          rw [(o3.1 341 (by omega) (by omega)).1, (o3.1 342 (by omega) (by omega)).1]
          exact ⟨a2, a3, b2, b3⟩, v3⟩
      refine ⟨fun z => ?_, fun z => c_M_isOne e5 (by omega) (fun q1 => z0' ⟨_, rfl, ?_⟩) (fun i q1 hi hp => z1' (c_M_lookWays h5 e5 (fun D3 o3 v3 => ⟨fun y => absurd y z, fun _ => c_M_in0 (3 ^ tN τ 5) (by omega) rfl (fun q2 => z0 ⟨_, rfl, ?_⟩) (fun w q2 hw hk => z1 ?_)⟩)))⟩
      · rw [if_pos z] at h
        refine c_M_lookWays h5 e5 (fun D3 o3 v3 => ⟨fun _ => ?_, fun y => absurd z y⟩)
        have B3 := base D3 o3 v3
        have oA := o.trans (o3.o (by omega))
        have ans : ∀ r D', mO D D' → lkAns τ (tN τ 5) k r → P r D' := fun r D' o' ha => by rw [lkRes_is h5 ha]; exact h D' o'
        have key : ∀ m n, n + m = 3 ^ tN τ 5 → (∀ w, w < n → lkR τ (tN τ 5) w → nI (lkMany τ (tN τ 5) w) ≠ k) → ∀ D', mF 340 341 0 0 D3 D' → xPf (d + 40) m_M_rests 76 [(0, .ref 325), (1, .int x), (2, .int p), (3, .int k), (4, .int (nI (3 ^ tN τ 5))), (5, .int (nI (lkMany τ (tN τ 5) n))), (6, .int (nI n))] [] D' (fun r D' => ∃ v, r = some (.int v) ∧ P v D') := by
          intro m
          induction m with
          | zero =>
            intro n hn hall D' o'
            have oB := oA.trans (o'.o (by omega))
            have en : n = 3 ^ tN τ 5 := by omega
            refine s_M_rests_76 xk_M ⟨fun _ => ⟨fun y => ⟨_, rfl, ans _ D' oB (Or.inr ⟨fun w hw => hall w (by omega), Or.inr ⟨y, rfl⟩⟩)⟩, fun y => ⟨_, rfl, ans _ D' oB (Or.inr ⟨fun w hw => hall w (by omega), Or.inl ⟨y, by rw [en]⟩⟩)⟩⟩, fun y => absurd (nI_le (by omega) (by omega)) y⟩
          | succ m ih =>
            intro n hn hall D' o'
            refine s_M_rests_76 xk_M ⟨fun y => absurd y (nI_ge (by omega) (by omega)), fun _ => c_M_isRest rfl h5 (by omega) (B3.fr o') (fun D4 o4 r => z1 ?_) (fun D4 o4 r => z0 ?_)⟩
            · have nx := ih (n + 1) (by omega)
              rw [lkMany_s r] at nx
              refine ⟨fun y => ?_, fun y => ⟨_, rfl, ans _ D4 (oA.trans ((o'.trans o4).o (by omega))) (Or.inl ⟨n, by omega, r, y, rfl⟩)⟩⟩
              rw [nI_1, nI_1]
              refine nx (fun w hw hr => ?_) D4 (o'.trans o4)
              by_cases e : w = n
              · rw [e]; exact y
              · exact hall w (by omega) hr
            · have nx := ih (n + 1) (by omega)
              rw [lkMany_n r] at nx
              rw [nI_1]
              refine nx (fun w hw hr => ?_) D4 (o'.trans o4)
              by_cases e : w = n
              · exact absurd (e ▸ hr) r
              · exact hall w (by omega) hr
        exact key (3 ^ tN τ 5) 0 (by omega) (fun w hw => absurd hw (Nat.not_lt_zero _)) D3 mF.rfl'
      · rw [if_neg z, q1] at h; exact h D2 o
      · rw [if_neg z] at h; simp only [q1, q2] at h
        exact h D3 (o.trans (o3.o (by omega)))
      · rw [if_neg z] at h; simp only [q1, q2] at h
        rw [hp, hk]
        exact c_M_costOf rfl h5 hi hw (base D3 o3 v3) (fun D4 o4 => ⟨_, rfl, h D4 (o.trans ((o3.o (by omega)).trans (o4.o (by omega))))⟩)
end MREST
