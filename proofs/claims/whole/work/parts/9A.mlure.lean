/-! The reference: how often one should look; who falls for a FEINT. -/
def ltV (r : Option (Nat × Nat)) : Int32 := match r with
  | none => 1000000
  | some bv => nI bv.2
theorem lur_v (f : Nat → Nat) : ∀ n, (lur f (n + 1)).2 = f (lur f (n + 1)).1 := by
  intro n
  induction n with
  | zero =>
    show (if 0 < f 0 then ((0 : Nat), f 0) else (0, 0)).2 = f (if 0 < f 0 then ((0 : Nat), f 0) else (0, 0)).1
    split
    · rfl
    · show 0 = f 0; omega
  | succ n ih =>
    rw [lur]
    split
    · rfl
    · exact ih
theorem ceil_mul {a e T : Nat} (he : 1 ≤ e) : (∃ i, i ≤ T ∧ (a + i) % e = 0) ↔ (a + e - 1) / e * e ≤ a + T := by
  have h1 := Nat.div_add_mod (a + e - 1) e
  have h2 := Nat.mod_lt (a + e - 1) he
  rw [Nat.mul_comm] at h1
  generalize hc : (a + e - 1) / e * e = c at h1
  have hm : c % e = 0 := by rw [← hc]; exact Nat.mul_mod_left _ _
  constructor
  · rintro ⟨i, hi, hz⟩
    by_cases q : c ≤ a + i
    · omega
    · exfalso
      have d1 : e ∣ c := Nat.dvd_of_mod_eq_zero hm
      have d2 : e ∣ a + i := Nat.dvd_of_mod_eq_zero hz
      have d3 : e ∣ c - (a + i) := Nat.dvd_sub d1 d2
      have := Nat.le_of_dvd (by omega) d3
      omega
  · intro h
    exact ⟨c - a, by omega, by rw [show a + (c - a) = c by omega]; exact hm⟩
section MLURE
variable {d : Nat} {D : xD} {g : gS} {τ : Nat → Int32}
/-- another's EYES -/
theorem mE_eye {D' : xD} {p e : Nat} (E : mE D τ) (hp : p < tN τ 5) (he : 1 ≤ e ∧ e ≤ 9) (o : mF 340 341 0 0 D D') (v : ∀ j, j ≠ p → D'.1 340 j = D.1 340 j) (w : D'.1 340 p = nI e) : mE D' (tSet τ (6 + 7 * p + 1) (nI e)) := by
  have b5 := E.2.1
  have e5 : tN (tSet τ (6 + 7 * p + 1) (nI e)) 5 = tN τ 5 := tN_set _ _ (by omega)
  refine ⟨by rw [o.2 31 (by omega), e5]; exact E.1, by rw [e5]; exact b5, fun i hi => ?_⟩
  rw [e5] at hi
  obtain ⟨⟨a1, a2, a3⟩, b1, b2, b3⟩ := E.2.2 i hi
  have hP : ∀ u, u < 7 → tP (tSet τ (6 + 7 * p + 1) (nI e)) i u = if i = p ∧ u = 1 then (nI e).toNatClampNeg else tP τ i u := fun u hu => tP_set _ _ (by omega) hu
  rw [hP 1 (by omega), hP 2 (by omega), hP 3 (by omega), if_neg (show ¬ (i = p ∧ 2 = 1) by omega), if_neg (show ¬ (i = p ∧ 3 = 1) by omega), (o.1 341 (by omega) (by omega)).1, (o.1 342 (by omega) (by omega)).1]
  by_cases z : i = p
  · rw [if_pos ⟨z, rfl⟩, nI_clamp (by omega)]
    exact ⟨⟨by rw [z]; exact w, a2, a3⟩, he, b2, b3⟩
  · rw [if_neg (fun y => z y.1)]
    exact ⟨⟨by rw [v i z]; exact a1, a2, a3⟩, b1, b2, b3⟩
theorem c_M_lesser {P : Int32 → xD → Prop} {a b : Int32} (h : P (if b ≤ a then b else a) D) : xCi (d + 1) m_M_lesser [.int a, .int b] D P := by
  refine xCi_of y_M_lesser (Nat.le_of_ble_eq_true rfl) (s_M_lesser_0 ⟨fun c => ⟨_, rfl, ?_⟩, fun c => ⟨_, rfl, ?_⟩⟩)
  · rw [if_pos c] at h; exact h
  · rw [if_neg c] at h; exact h
theorem c_M_often {P : Int32 → xD → Prop} {x p f : Int32} (hI : mI D g) (h : ∀ D', mO D D' → P (aOften g.1 x p f) D') : xCi (d + 40) m_M_often [.ref 325, .int x, .int p, .int f] D P := by
  have l15 : xl (325 + 15) = 6 := cl_13_34 xk_M
  refine xCi_of y_M_often (Nat.le_of_ble_eq_true rfl) (s_M_often_0 xk_M (fun D1 e1 => ?_))
  obtain ⟨o1, I1⟩ := m_0 hI e1
  unfold aOften at h
  refine c_M_hand I1 (fun q => z0 ⟨_, rfl, ?_⟩) (fun τ q hT hL hF D2 o2 I2 H2 S2 W2 => z1 ?_)
  · rw [q] at h; exact h D1 o1
  · simp only [q] at h
    have o := o1.trans (o2.o (by omega))
    have b5 := hT.2.2.2.2.2.2.1
    have e5 : D2.1 325 30 = nI (tN τ 5) := by rw [H2.2.2.2.2]; exact hT.1 5 (by omega)
    have E := mE_of hT S2
    have h2 := hF.1
    refine c_M_isOne e5 (by omega) (fun q1 => z0 ⟨_, rfl, ?_⟩) (fun i q1 hi hp => z1 (c_M_isOne e5 (by omega) (fun q3 => z0 ⟨_, rfl, ?_⟩) (fun j q3 hj hf => z1 ?_)))
    · rw [q1] at h; exact h D2 o
    · simp only [q1, q3] at h; exact h D2 o
    · simp only [q1, q3] at h
      rw [hp, hf, nI_eq (by omega) (by omega)]
      refine ⟨fun z => ?_, fun z => ⟨_, rfl, ?_⟩⟩
      · rw [if_neg z] at h
        have key : ∀ m k, k + m = 9 → ∀ D', mF 340 341 0 0 D2 D' → (∀ u, u ≠ i → D'.1 340 u = D2.1 340 u) → xPf (d + 40) m_M_often 47 [(0, .ref 325), (1, .int x), (2, .int (nI i)), (3, .int (nI j)), (4, .int (bkI (ltF (lkE τ i j) k))), (5, .int (ltV (ltF (lkE τ i j) k))), (6, .int (nI (k + 1)))] [] D' (fun r D' => ∃ v, r = some (.int v) ∧ P v D') := by
          intro m
          induction m with
          | zero =>
            intro k hk D' o' v'
            have ek : k = 9 := by omega
            subst ek
            exact s_M_often_47 xk_M ⟨fun _ => ⟨_, rfl, h D' (o.trans (o'.o (by omega)))⟩, fun y => absurd (nI_lt (a := 9) (b := 10) (by omega) (by omega)) y⟩
          | succ m ih =>
            intro k hk D' o' v'
            refine s_M_often_47 xk_M ⟨fun y => absurd y (nI_nlt (a := 9) (b := k + 1) (by omega) (by omega)), fun _ => ⟨by rw [l15]; exact vp_in_nI (by omega) (by omega), fun D3 e3 => ?_⟩⟩
            rw [nI_clamp (by omega)] at e3
            obtain ⟨o3, v3⟩ := ma (by omega) e3
            have v3' : ∀ u, D3.1 340 u = if u = i then nI (k + 1) else D'.1 340 u := v3
            have oA : mF 340 341 0 0 D2 D3 := o'.trans (o3.m (by omega) (by omega))
            have vA : ∀ u, u ≠ i → D3.1 340 u = D2.1 340 u := fun u hu => by rw [v3', if_neg hu]; exact v' u hu
            have E3 : mE D3 (tSet τ (6 + 7 * i + 1) (nI (k + 1))) := mE_eye E hi (by omega) oA vA (by rw [v3', if_pos rfl])
            have e5' : tN (tSet τ (6 + 7 * i + 1) (nI (k + 1))) 5 = tN τ 5 := tN_set _ _ (by omega)
            refine c_M_lastsOf E3 (by rw [e5']; omega) (by omega) (by omega) ?_
            have hle := lkL_le (tSet τ (6 + 7 * i + 1) (nI (k + 1))) i j 60
            have hd : 60 / (k + 1) ≤ 60 := Nat.div_le_self _ _
            have eE : nI (lkL (tSet τ (6 + 7 * i + 1) (nI (k + 1))) i j 60) + (60 : Int32) / nI (k + 1) = nI (lkE τ i j (k + 1)) := by
              rw [show (60 : Int32) = nI 60 from rfl, pk_div (by omega) (by omega) (by omega), nI_add]; rfl
            have lE : lkE τ i j (k + 1) ≤ 120 := by unfold lkE; omega
            rw [eE, nI_1 (k + 1)]
            refine ⟨nI_ne0 (by omega) (by omega), ?_⟩
            have nx := ih (k + 1) (by omega) D3 oA vA
            rw [ltF] at nx
            cases hr : ltF (lkE τ i j) k with
            | none =>
              rw [hr] at nx
              refine ⟨fun y => absurd y ?_, fun _ => c_M_lesser ?_⟩
              · show ¬ ((1000000 : Int32) ≤ nI (lkE τ i j (k + 1)))
                exact nI_ge (b := 1000000) (by omega) (by omega)
              · have el : (if nI (lkE τ i j (k + 1)) ≤ ltV none then nI (lkE τ i j (k + 1)) else ltV none) = nI (lkE τ i j (k + 1)) := if_pos (nI_le (b := 1000000) (by omega) (by omega))
                rw [el]; exact nx
            | some bv =>
              obtain ⟨b, v⟩ := bv
              obtain ⟨hb, hv⟩ := ltF_ok hr
              rw [hr] at nx
              have nx : xPf (d + 40) m_M_often 47 [(0, .ref 325), (1, .int x), (2, .int (nI i)), (3, .int (nI j)), (4, .int (bkI (if lkE τ i j (k + 1) < v then some (k + 1, lkE τ i j (k + 1)) else some (b, v)))), (5, .int (ltV (if lkE τ i j (k + 1) < v then some (k + 1, lkE τ i j (k + 1)) else some (b, v)))), (6, .int (nI (k + 1 + 1)))] [] D3 (fun r D' => ∃ v, r = some (.int v) ∧ P v D') := nx
              have hv' : v ≤ 120 := by
                rw [hv]
                have := lkL_le (tSet τ (6 + 7 * i + 1) (nI b)) i j 60
                have := Nat.div_le_self 60 b
                unfold lkE; omega
              show (nI v ≤ nI (lkE τ i j (k + 1)) → _) ∧ (¬ nI v ≤ nI (lkE τ i j (k + 1)) → _)
              refine ⟨fun y => c_M_lesser ?_, fun y => c_M_lesser ?_⟩
              · have y' := (nI_leI (by omega) (by omega)).mp y
                rw [if_neg (by omega)] at nx
                have el : (if nI (lkE τ i j (k + 1)) ≤ ltV (some (b, v)) then nI (lkE τ i j (k + 1)) else ltV (some (b, v))) = ltV (some (b, v)) := by
                  show (if nI (lkE τ i j (k + 1)) ≤ nI v then nI (lkE τ i j (k + 1)) else nI v) = nI v
                  split
                  · rename_i c
                    have := (nI_leI (by omega) (by omega)).mp c
                    rw [show lkE τ i j (k + 1) = v by omega]
                  · rfl
                rw [el]; exact nx
              · have y' : lkE τ i j (k + 1) < v := Nat.lt_of_not_le (fun c => y (nI_le c (by omega)))
                rw [if_pos y'] at nx
                have el : (if nI (lkE τ i j (k + 1)) ≤ ltV (some (b, v)) then nI (lkE τ i j (k + 1)) else ltV (some (b, v))) = nI (lkE τ i j (k + 1)) := if_pos (nI_le (by omega) (by omega))
                rw [el]; exact nx
        exact key 9 0 (by omega) D2 mF.rfl' (fun _ _ => rfl)
      · rw [if_pos z] at h; exact h D2 o
theorem c_M_lured {P : Int32 → xD → Prop} {p a : Nat} (hT : tOK τ) (E : mE D τ) (H : mH D τ) (hp : p < 2 ^ 31) (ha : a < 2 ^ 20) (h : P (nI (tchS τ p a)) D) : xCi (d + 3) m_M_lured [.ref 325, .int (nI p), .int (nI a)] D P := by
  have l15 : xl (325 + 15) = 6 := cl_13_34 xk_M
  have b5 := hT.2.2.2.2.2.2.1
  have e5 := hT.1 5 (by omega)
  have b4 := hT.2.2.2.2.2.1
  obtain ⟨⟨tt, T⟩, -⟩ := id H
  refine xCi_of y_M_lured (Nat.le_of_ble_eq_true rfl) (s_M_lured_0 xk_M ?_)
  have key : ∀ m k, k + m = tN τ 5 → xPf (d + 3) m_M_lured 5 [(0, .ref 325), (1, .int (nI p)), (2, .int (nI a)), (3, .int (nI (bsN (tchB τ p a) k))), (4, .int (nI k))] [] D (fun r D' => ∃ v, r = some (.int v) ∧ P v D') := by
    intro m
    induction m with
    | zero =>
      intro k hk
      refine s_M_lured_5 xk_M ?_
      rw [H.2.2.2.2, e5]
      refine ⟨fun _ => ⟨_, rfl, ?_⟩, fun z => absurd (nI_le (by omega) (by omega)) z⟩
      rw [show k = tN τ 5 by omega]; exact h
    | succ m ih =>
      intro k hk
      have nx := ih (k + 1) (by omega)
      obtain ⟨⟨a1, -, -⟩, ⟨b1, b1'⟩, -⟩ := E.2.2 k (by omega)
      have a1 : D.1 (325 + 15) k = nI (tP τ k 1) := a1
      have t6 : τ (6 + 7 * k + 6) = nI (tP τ k 6) := (hT.2.2.2.2.2.2.2 k (by omega)).1 6 (by omega) (by omega)
      have i6 : vp_in (nI k) (xl (325 + 15)) := by rw [l15]; exact vp_in_nI (by omega) (by omega)
      have yes : tchB τ p a k = true → xPf (d + 3) m_M_lured 5 [(0, .ref 325), (1, .int (nI p)), (2, .int (nI a)), (3, .int (nI (bsN (tchB τ p a) k) ||| ((1 : Int32) <<< (nI k &&& 31)))), (4, .int (nI (k + 1)))] [] D (fun r D' => ∃ v, r = some (.int v) ∧ P v D') := by
        intro y
        rw [bsN_s (by omega)]
        rw [bsN, y] at nx
        exact nx
      have no : tchB τ p a k = false → xPf (d + 3) m_M_lured 5 [(0, .ref 325), (1, .int (nI p)), (2, .int (nI a)), (3, .int (nI (bsN (tchB τ p a) k) ||| (0 : Int32))), (4, .int (nI (k + 1)))] [] D (fun r D' => ∃ v, r = some (.int v) ∧ P v D') := by
        intro y
        rw [show nI (bsN (tchB τ p a) k) ||| (0 : Int32) = nI (bsN (tchB τ p a) k ||| 0) from yb_or _ 0, Nat.or_zero]
        rw [bsN, y] at nx
        exact nx
      refine s_M_lured_5 xk_M ?_
      rw [H.2.2.2.2, e5, nI_clamp (by omega), a1, nI_1 k]
      refine ⟨fun z => absurd z (nI_ge (by omega) (by omega)), fun _ => ⟨i6, i6, nI_ne0 (by omega) (by omega), i6, fun z => no ?_, fun z => c_M_ofOne (w := 6) T (by omega) (by omega) ?_⟩⟩
      · have := (nI_eq (by omega) hp).mp z
        unfold tchB
        rw [decide_eq_false (fun y => y this)]; rfl
      · have z' : k ≠ p := fun y => z (by rw [y])
        rw [t6, show nI (tP τ k 6) = (1 : Int32) ↔ tP τ k 6 = 1 from nI_eq (b := 1) (by have := (hT.2.2.2.2.2.2.2 k (by omega)).2.2.2.2.2.2.1; omega) (by omega)]
        refine ⟨fun c => no ?_, fun c => c_M_of (j := 4) T (by omega) ?_⟩
        · unfold tchB
          rw [decide_eq_false c, Bool.false_and, Bool.and_false]
        · have hc := ceil_mul (a := a) (T := tN τ 4) b1
          have hle : (a + tP τ k 1 - 1) / tP τ k 1 * tP τ k 1 ≤ a + tP τ k 1 - 1 := Nat.div_mul_le_self _ _
          rw [hT.1 4 (by omega), nI_add, nI_add, show (1 : Int32) = nI 1 from rfl, pk_sub (by omega), pk_div (by omega) (by omega) (by omega), pk_mul, nI_ltI (by omega) (by omega)]
          refine ⟨fun y => no ?_, fun y => yes ?_⟩
          · unfold tchB
            rw [decide_eq_true z', decide_eq_true c, Bool.true_and, Bool.true_and]
            cases hb : lkI τ k a with
            | false => rfl
            | true => have := hc.mp (lkI_t.mp hb); omega
          · unfold tchB
            rw [decide_eq_true z', decide_eq_true c, Bool.true_and, Bool.true_and]
            exact lkI_t.mpr (hc.mpr (by omega))
  exact key (tN τ 5) 0 (by omega)
theorem c_M_ones {P : Int32 → xD → Prop} {n : Nat} (hn : n < 2 ^ 31) (h : P (nI (onesN n)) D) : xCi (d + 2) m_M_ones [.int (nI n)] D P := by
  refine xCi_of y_M_ones (Nat.le_of_ble_eq_true rfl) (s_M_ones_0 ?_)
  have key : ∀ m k, k + m = 6 → xPf (d + 2) m_M_ones 4 [(0, .int (nI n)), (1, .int (nI (cnN (fun k => n.testBit k) k))), (2, .int (nI k))] [] D (fun r D' => ∃ v, r = some (.int v) ∧ P v D') := by
    intro m
    induction m with
    | zero =>
      intro k hk
      have ek : k = 6 := by omega
      subst ek
      exact s_M_ones_4 ⟨fun _ => ⟨_, rfl, h⟩, fun z => absurd (nI_le (a := 6) (b := 6) (by omega) (by omega)) z⟩
    | succ m ih =>
      intro k hk
      have nx := ih (k + 1) (by omega)
      refine s_M_ones_4 ⟨fun z => absurd z (nI_ge (a := k) (b := 6) (by omega) (by omega)), fun _ => c_M_has hn (by omega) (fun b => z1 ?_) (fun b => z0 ?_)⟩
      · rw [nI_1, nI_1]
        rw [cnN, if_pos b] at nx; exact nx
      · rw [nI_1, show nI (cnN (fun k => n.testBit k) k) + (0 : Int32) = nI (cnN (fun k => n.testBit k) k + 0) from nI_add _ 0]
        rw [cnN, if_neg (by rw [b]; exact Bool.false_ne_true)] at nx; exact nx
  exact key 6 0 (by omega)
theorem c_M_feint {P : Int32 → xD → Prop} {x p a : Int32} (hI : mI D g) (h : ∀ D', mO D D' → P (aFeint g.1 x p a) D') : xCi (d + 40) m_M_feint [.ref 325, .int x, .int p, .int a] D P := by
  refine xCi_of y_M_feint (Nat.le_of_ble_eq_true rfl) (s_M_feint_0 xk_M (fun D1 e1 => ?_))
  obtain ⟨o1, I1⟩ := m_0 hI e1
  unfold aFeint at h
  refine c_M_hand I1 (fun q => z0 ⟨_, rfl, ?_⟩) (fun τ q hT hL hF D2 o2 I2 H2 S2 W2 => z1 ?_)
  · rw [q] at h; exact h D1 o1
  · simp only [q] at h
    have o := o1.trans (o2.o (by omega))
    have b5 := hT.2.2.2.2.2.2.1
    have e5 : D2.1 325 30 = nI (tN τ 5) := by rw [H2.2.2.2.2]; exact hT.1 5 (by omega)
    have E := mE_of hT S2
    refine c_M_isOne e5 (by omega) (fun q1 => z0 ⟨_, rfl, ?_⟩) (fun i q1 hi hp => z1 ?_)
    · rw [q1] at h; exact h D2 o
    · simp only [q1] at h
      rw [hp]
      refine in59 (fun c q2 => z0' ⟨_, rfl, ?_⟩) (fun c => z1' ⟨fun _ => ?_, fun z => absurd c z⟩) (fun k q2 hk hx ng => z1' ⟨fun z => absurd (hx.symm.trans z) ng, fun _ => ?_⟩)
      · rw [if_neg c, q2] at h; exact h D2 o
      · rw [if_pos c] at h
        have key : ∀ m k, k + m = 59 → xPf (d + 40) m_M_feint 51 [(0, .ref 325), (1, .int x), (2, .int (nI i)), (3, .int a), (4, .int (nI (lur (fun a => onesN (tchS τ i a)) (k + 1)).1)), (5, .int (nI (k + 1)))] [] D2 (fun r D' => ∃ v, r = some (.int v) ∧ P v D') := by
          intro m
          induction m with
          | zero =>
            intro k hk
            have ek : k = 59 := by omega
            subst ek
            exact s_M_feint_51 xk_M ⟨fun _ => ⟨_, rfl, h D2 o⟩, fun z => absurd (nI_le (a := 60) (b := 60) (by omega) (by omega)) z⟩
          | succ m ih =>
            intro k hk
            have nx := ih (k + 1) (by omega)
            have hb : ∀ a, tchS τ i a < 2 ^ 31 := fun a => by
              have h1 := bsN_lt (tchB τ i a) (tN τ 5)
              have h2 : 2 ^ tN τ 5 ≤ 2 ^ 6 := Nat.pow_le_pow_right (by omega) b5
              unfold tchS; omega
            have ho : ∀ a, onesN (tchS τ i a) ≤ 6 := fun a => cnN_le _ 6
            have hl := (lur_le (f := fun a => onesN (tchS τ i a)) ho (k + 1)).1
            refine s_M_feint_51 xk_M ⟨fun z => absurd z (nI_ge (a := k + 1) (b := 60) (by omega) (by omega)), fun _ => c_M_lured hT E H2 (by omega) (by omega) (c_M_ones (hb _) (c_M_lured hT E H2 (by omega) (by omega) (c_M_ones (hb _) ?_)))⟩
            have h1 := ho (k + 1)
            have h2 := ho (lur (fun a => onesN (tchS τ i a)) (k + 1)).1
            have ev := lur_v (fun a => onesN (tchS τ i a)) k
            rw [lur, ev] at nx
            rw [nI_leI (by omega) (by omega), nI_1 (k + 1)]
            refine ⟨fun z => ?_, fun z => ?_⟩
            · rw [if_neg (by show ¬ onesN (tchS τ i (lur (fun a => onesN (tchS τ i a)) (k + 1)).1) < onesN (tchS τ i (k + 1)); omega)] at nx; exact nx
            · rw [if_pos (by show onesN (tchS τ i (lur (fun a => onesN (tchS τ i a)) (k + 1)).1) < onesN (tchS τ i (k + 1)); omega)] at nx; exact nx
        have s0 : (lur (fun a => onesN (tchS τ i a)) (0 + 1)).1 = 0 := by
          show (if 0 < onesN (tchS τ i 0) then ((0 : Nat), onesN (tchS τ i 0)) else (0, 0)).1 = 0
          split <;> rfl
        have := key 59 0 (by omega)
        rw [s0] at this
        exact this
      · rw [if_neg (by rw [hx]; exact ng)] at h
        simp only [q2] at h
        rw [hx]
        exact c_M_lured hT E H2 (by omega) (by omega) ⟨_, rfl, h D2 o⟩
end MLURE
