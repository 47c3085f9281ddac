/-! The best ways are found. -/
theorem xCi_d {d d' : Nat} {y : xM} {As : List Value} {D : xD} {P : Int32 → xD → Prop} (e : d = d') (h : xCi d' y As D P) : xCi d y As D P := by rw [e]; exact h
section GOOD
variable {d : Nat} {D : xD} {o K A N : Nat} {h u e : Nat → Nat}
theorem c_good {u0 : Nat → Nat} {N0 n0 : Nat} (k0 : xk o = 11) (hK : K ≤ 4) (hA : A ≤ 4) (hn0 : n0 ≤ 6) (hN0 : N0 ≤ 16) : ∀ n, gdS o K A u0 N0 n0 n := by
  intro n
  induction n with
  | zero =>
    intro d D h u e N P H hk hM hV fin
    obtain ⟨g1, g2, g3, g4, g5, g6⟩ := hV
    have hb : ∀ k, k < K → h k < 1000 := fun k hk => by have := sm_le h (n := 4) (show k < 4 by omega); omega
    refine xCi_of y_Odds_goodOrders (Nat.le_of_ble_eq_true rfl) (s_Odds_goodOrders_0 k0 (c_Odds_hasAlike k0 H (by omega) hA hb (fun q => ?_) (fun q => ?_)))
    · have f := fin D xOut.rfl' H hk hM
      rw [gd_has (oHas_t.mpr q)] at f
      exact ⟨fun z => absurd z (by decide), fun _ => c_Odds_orders (n := 0) k0 H.2.2.2.2.2.2.2.2 (by omega) (by omega) ⟨_, rfl, f⟩⟩
    · have f := fin D xOut.rfl' H hk hM
      rw [gd_0 (fun z => q (oHas_t.mp z))] at f
      exact ⟨fun _ => ⟨fun z => absurd z (nI_nlt (a := 0) (b := 0) (by omega) (by omega)), fun _ => ⟨_, rfl, f⟩⟩, fun z => absurd rfl z⟩
  | succ n ih =>
    intro d D h u e N P H hk hM hV fin
    have hV' := hV
    obtain ⟨g1, g2, g3, g4, g5, g6⟩ := hV
    have hb : ∀ k, k < K → h k < 1000 := fun k hk => by have := sm_le h (n := 4) (show k < 4 by omega); omega
    have he4 : ∀ i, i < 4 → e i ≤ 4 := fun i hi => by have := g2 i hi; omega
    have hkl : keyO h e < 7350 := keyO_lt (by omega) (by omega) he4
    have hsm : gd K A (n + 1) h u N < 2 ^ 25 := gd_small g3 g5 (by omega) (by omega)
    rw [show d + 3 * (n + 1) + 3 = d + 3 * n + 6 by omega]
    refine xCi_of y_Odds_goodOrders (Nat.le_of_ble_eq_true rfl) (s_Odds_goodOrders_0 k0 (c_Odds_hasAlike k0 H (by omega) hA hb (fun q => ?_) (fun q => ?_)))
    · have f := fin D xOut.rfl' H hk hM
      rw [gd_has (oHas_t.mpr q)] at f
      exact ⟨fun z => absurd z (by decide), fun _ => c_Odds_orders k0 H.2.2.2.2.2.2.2.2 (by omega) (by omega) ⟨_, rfl, f⟩⟩
    · have hno : ¬ oHas K A h = true := fun z => q (oHas_t.mp z)
      refine ⟨fun _ => ⟨fun _ => ?_, fun z => absurd (nI_lt (a := 0) (b := n + 1) (by omega) (by omega)) z⟩, fun z => absurd rfl z⟩
      refine c_Odds_key k0 H hk (by omega) (by omega) he4 ?_
      refine c_get hM.1 hkl ?_
      rw [show o + 11 + 1 = o + 12 by omega]
      have eg : gd K A (n0 - sm e 4) h (fun k => u0 k - e k) (N0 - sm e 4) = gd K A (n + 1) h u N := by
        rw [show n0 - sm e 4 = n + 1 by omega, show N0 - sm e 4 = N by omega]
        exact gd_congr hK _ _ _ _ _ _ (fun _ _ => rfl) (fun i hi => (g2 i hi).1.symm)
      -- KIND by KIND
      have key : ∀ m k, k + m = 4 → ∀ D', xOut o (o + 13) D D' → oR D' o K A h u e N → oK D' o → oM D' o K A u0 N0 n0 →
          xPf (d + 3 * n + 6) m_Odds_goodOrders 45 [(0, .ref o), (1, .int (nI (n + 1))), (2, .int (nI (keyO h e))), (3, .int (nI (sm (fun k => u k * bsO (fun h' => gd K A n h' (dec u k) (N - 1)) (inc h k) 4) k))), (4, .int (nI k))] [] D' (fun r D' => ∃ x, r = some (.int x) ∧ P x D') := by
        intro m
        induction m with
        | zero =>
          intro k hk4 D' oD H' hk' hM'
          have ek : k = 4 := by omega
          subst ek
          refine s_Odds_goodOrders_45 k0 ⟨fun _ => ?_, fun z => absurd (nI_le (a := 4) (b := 4) (by omega) (by omega)) z⟩
          refine c_set hM'.1 hkl (fun D2 o2 v2 => ⟨_, rfl, ?_⟩)
          rw [← gd_s hno]
          refine fin D2 (oD.trans (o2.mono (by omega) (by omega))) (H'.out o2 (by omega)) (hk'.out o2 (by omega)) ⟨hM'.1.out o2 (by omega), fun h' e' a b c => ?_⟩
          rw [show o + 12 = o + 11 + 1 by omega, v2]
          by_cases z : keyO h' e' = keyO h e
          · obtain ⟨y1, y2⟩ := keyO_inj hA a (by omega) b g1 (by omega) he4 z
            rw [if_pos z]
            refine Or.inr (congrArg nI ?_)
            rw [← gd_s hno, ← eg, sm_congr (f := e') (g := e) y2]
            exact gd_congr hK _ _ _ _ _ _ (fun i hi => (y1 i hi).symm) (fun i hi => by show u0 i - e i = u0 i - e' i; rw [y2 i hi])
          · rw [if_neg z]
            have := hM'.2 h' e' a b c
            rw [show o + 12 = o + 11 + 1 by omega] at this
            exact this
        | succ m ihm =>
          intro k hk4 D' oD H' hk' hM'
          have nx := ihm (k + 1) (by omega)
          rw [sm] at nx
          refine s_Odds_goodOrders_45 k0 ⟨fun z => absurd z (nI_ge (a := k) (b := 4) (by omega) (by omega)), fun _ => c_get H'.2.2.1 (show k < 13 by omega) ?_⟩
          rw [show o + 3 + 1 = o + 4 by omega, H'.2.2.2.1 k (by omega), nI_1 k]
          have hg2 := g2 k (by omega)
          by_cases z : u k = 0
          · refine ⟨fun _ => ?_, fun y => absurd (by rw [z]; exact Int32.le_refl _) y⟩
            have e0 : u k * bsO (fun h' => gd K A n h' (dec u k) (N - 1)) (inc h k) 4 = 0 := by rw [z, Nat.zero_mul]
            rw [e0, Nat.add_zero] at nx
            exact nx D' oD H' hk' hM'
          · have z0 : 0 < u k := by omega
            refine ⟨fun y => absurd y (nI_nle z0 (by omega)), fun _ => ?_⟩
            refine c_draw k0 H' (by omega) z0 (by omega) (fun D2 o2 H2 => ?_)
            rw [show nI (n + 1) - (1 : Int32) = nI n from pk_sub (a := n + 1) (b := 1) (by omega)]
            have hsi := sm_inc (f := h) (show k < 4 by omega)
            have hse := sm_inc (f := e) (show k < 4 by omega)
            have hsu := sm_dec (f := u) (show k < 4 by omega) z0
            refine c_best k0 hA hn0 hN0 ih H2 (hk'.out o2 (by omega)) (hM'.out o2 (by omega)) (fun j hj hj0 => ⟨?_, fun i hi => ?_, by omega, by omega, by omega, by omega⟩) (fun D3 o3 H3 hk3 hM3 => ?_)
            · have := sm_dec (f := inc h k) hj hj0; omega
            · have := g2 i hi
              rw [dec_at, inc_at]
              by_cases y : i = k
              · rw [if_pos y, if_pos y]; rw [← y] at z0; omega
              · rw [if_neg y, if_neg y]; exact this
            · refine c_undraw k0 H3 (by omega) z0 (by omega) (fun D4 o4 H4 => ?_)
              rw [pk_mul, nI_add]
              exact nx D4 (oD.trans ((o2.mono (by omega) (by omega)).trans (o3.trans (o4.mono (by omega) (by omega))))) H4 (hk3.out o4 (by omega)) (hM3.out o4 (by omega))
      rcases hM.2 h e g1 he4 (by omega) with z | z
      · rw [z]
        exact ⟨fun _ => key 4 0 (by omega) D xOut.rfl' H hk hM, fun y => absurd rfl y⟩
      · rw [z, eg]
        exact ⟨fun y => absurd y (fun y => nI_pos (n := gd K A (n + 1) h u N) (by omega) (by rw [y]; decide)), fun _ => ⟨_, rfl, fin D xOut.rfl' H hk hM⟩⟩
theorem c_Odds_forget {P : xD → Prop} {u0 : Nat → Nat} {N0 n0 : Nat} (k0 : xk o = 11) (hA : A ≤ 4) (hn0 : n0 ≤ 6) (fin : ∀ D', xOut (o + 11) (o + 13) D D' → oM D' o K A u0 N0 n0 → P D') : xCv (d + 3) m_Odds_forget [.ref o] D P := by
  have l12 : xl (o + 11 + 1) = 7350 := cl_11_5 k0
  refine xCv_of y_Odds_forget (Nat.le_of_ble_eq_true rfl) (s_Odds_forget_0 k0 ?_)
  refine c_fill (k := 7350) (ck_11_5 k0) (by omega) (fun D1 o1 w1 v1 => ⟨rfl, fin D1 o1 ⟨w1, fun h' e' a b c => Or.inl ?_⟩⟩)
  have := keyO_lt (h := h') (e := e') (by omega) (by omega) b
  rw [show o + 12 = o + 11 + 1 by omega]
  exact v1 _ (by omega)
theorem c_Odds_likely {P : Int64 → xD → Prop} {n : Nat} {x : Int32} (k0 : xk o = 11) (hK : K ≤ 4) (hA : A ≤ 4) (H : oR D o K A h u (fun _ => 0) N) (hk : oK D o) (hh : sm h 4 = A) (hu : ∀ i, i < 4 → u i ≤ 4) (hN : sm u 4 = N) (hn6 : n ≤ 6) (hn : n ≤ N) (hN16 : N ≤ 16)
    (fin : ∀ D', xOut o (o + 13) D D' → oK D' o → P (lN (lst (gd K A n h u N) (fall N n) (x ≠ 0))) D') : xCl (d + 22) m_Odds_likely [.ref o, .int (nI n), .int x] D P := by
  have s0 : sm (fun _ : Nat => 0) 4 = 0 := by rw [sm4]
  have hsm : gd K A n h u N < 2 ^ 25 := gd_small hN hn hN16 hn6
  have hf : fall N n < 2 ^ 25 := by
    have h2 := fall_le N n
    have h3 : N ^ n ≤ 16 ^ 6 := Nat.le_trans (Nat.pow_le_pow_left hN16 n) (Nat.pow_le_pow_right (by omega) hn6)
    have h4 : (16 : Nat) ^ 6 < 2 ^ 25 := by decide
    omega
  refine xCl_of y_Odds_likely (Nat.le_of_ble_eq_true rfl) (s_Odds_likely_0 k0 ?_)
  refine c_Odds_forget (u0 := u) (N0 := N) (n0 := n) (K := K) k0 hA hn6 (fun D1 o1 M1 => ?_)
  have hg := c_good (u0 := u) (N0 := N) (n0 := n) k0 hK hA hn6 hN16 n
  refine xCi_d (show d + 21 = d + 18 - 3 * n + 3 * n + 3 by omega) ?_
  refine hg (d + 18 - 3 * n) D1 h u (fun _ => 0) N _ (H.out o1 (by omega)) (hk.out o1 (by omega)) M1 ⟨hh, fun i hi => ⟨by show u i = u i - 0; omega, Nat.zero_le _, hu i hi⟩, hN, by omega, hn, by omega⟩ (fun D2 o2 H2 hk2 M2 => ?_)
  refine c_Odds_orders k0 H2.2.2.2.2.2.2.2.2 hn (by omega) ?_
  rw [nI_l (by omega), nI_l (by omega)]
  exact c_S_leastTerms (by omega) (by omega) (fall_pos hn) ⟨_, rfl, fin D2 ((o1.mono (by omega) (by omega)).trans o2) hk2⟩
/-- the first of the best of the first m KINDS to hand on, and what it brings -/
def bestK (g : (Nat → Nat) → Nat) (h : Nat → Nat) : Nat → Option (Nat × Nat)
  | 0 => none
  | m + 1 => if 0 < h m then (match bestK g h m with
    | none => some (m, g (dec h m))
    | some (b, v) => if v < g (dec h m) then some (m, g (dec h m)) else some (b, v)) else bestK g h m
def bkI (r : Option (Nat × Nat)) : Int32 := match r with
  | none => -1
  | some (b, _) => nI b
def bkV (r : Option (Nat × Nat)) : Nat := match r with
  | none => 0
  | some (_, v) => v
def oKept (K A : Nat) (h u : Nat → Nat) (N n : Nat) (x : Int32) : Int32 :=
  if x < 0 then -1 else if 13 ≤ x.toNatClampNeg then -1 else if u x.toNatClampNeg = 0 then -1 else if oHas K A h = true then -1 else
  bkI (bestK (fun h' => gd K A (n - 1) h' (dec u x.toNatClampNeg) (N - 1)) (inc h x.toNatClampNeg) 4)
theorem c_Odds_bestHandedOn {P : Int32 → xD → Prop} {n : Nat} {x : Int32} (k0 : xk o = 11) (hK : K ≤ 4) (hA : A ≤ 4) (H : oR D o K A h u (fun _ => 0) N) (hk : oK D o) (hh : sm h 4 = A) (hu : ∀ i, i < 4 → u i ≤ 4) (huK : ∀ i, 4 ≤ i → u i = 0) (hN : sm u 4 = N) (hn6 : n ≤ 6) (hn1 : 1 ≤ n) (hn : n ≤ N) (hN16 : N ≤ 16)
    (fin : ∀ D', xOut o (o + 13) D D' → oK D' o → P (oKept K A h u N n x) D') : xCi (d + 22) m_Odds_bestHandedOn [.ref o, .int (nI n), .int x] D P := by
  have s0 : sm (fun _ : Nat => 0) 4 = 0 := by rw [sm4]
  refine xCi_of y_Odds_bestHandedOn (Nat.le_of_ble_eq_true rfl) (s_Odds_bestHandedOn_0 k0 ?_)
  have f0 := fin D xOut.rfl' hk
  refine c_Row_get H.2.2.1 ?_
  rcases pk_ix x (n := 13) (by omega) with q | q | ⟨c, hc, rfl⟩
  · rw [rg_neg _ _ _ q]
    unfold oKept at f0
    rw [if_pos q] at f0
    exact ⟨fun _ => ⟨_, rfl, f0⟩, fun z => absurd rfl z⟩
  · have hx0 : ¬ x < 0 := fun z => neg_le z (k := 13) (by omega) q
    obtain ⟨j, hj, rfl⟩ := nI_of hx0
    have hj13 : 13 ≤ j := (nI_leI (by omega) hj).mp q
    rw [rg_out _ _ hj13 hj]
    unfold oKept at f0
    rw [if_neg hx0, nI_clamp hj, if_pos hj13] at f0
    exact ⟨fun _ => ⟨_, rfl, f0⟩, fun z => absurd rfl z⟩
  · rw [rg_in _ _ hc (by omega), show o + 3 + 1 = o + 4 by omega, H.2.2.2.1 c hc]
    have eK : oKept K A h u N n (nI c) = if u c = 0 then -1 else if oHas K A h = true then -1 else bkI (bestK (fun h' => gd K A (n - 1) h' (dec u c) (N - 1)) (inc h c) 4) := by
      unfold oKept
      rw [if_neg (nI_pos (by omega)), nI_clamp (by omega), if_neg (by omega)]
    rw [eK] at f0 fin
    have hb : ∀ k, k < K → h k < 1000 := fun k hk => by have := sm_le h (n := 4) (show k < 4 by omega); omega
    by_cases z : u c = 0
    · rw [if_pos z] at f0
      rw [z]
      exact ⟨fun _ => ⟨_, rfl, f0⟩, fun z => absurd rfl z⟩
    · have z0 : 0 < u c := by omega
      have hc4 : c < 4 := Nat.lt_of_not_le (fun y => z (huK c y))
      have huc := hu c hc4
      rw [if_neg z] at f0 fin
      refine ⟨fun y => absurd y (nI_ne0 z0 (by omega)), fun _ => c_Odds_hasAlike k0 H (by omega) hA hb (fun q => ?_) (fun q => ?_)⟩
      · rw [if_pos (oHas_t.mpr q)] at f0
        exact ⟨fun y => absurd y (by decide), fun _ => ⟨_, rfl, f0⟩⟩
      · rw [if_neg (fun y => q (oHas_t.mp y))] at fin
        clear f0
        refine ⟨fun _ => ?_, fun y => absurd rfl y⟩
        refine c_Odds_forget (u0 := u) (N0 := N) (n0 := n) (K := K) k0 hA hn6 (fun D1 o1 M1 => ?_)
        refine c_draw k0 (H.out o1 (by omega)) hc4 z0 (by omega) (fun D2 o2 H2 => ?_)
        have hg := c_good (u0 := u) (N0 := N) (n0 := n) k0 hK hA hn6 hN16 (n - 1)
        have hsi := sm_inc (f := h) hc4
        have hse := sm_inc (f := fun _ : Nat => 0) hc4
        have hsu := sm_dec (f := u) hc4 z0
        have o12 : xOut o (o + 13) D D2 := (o1.mono (by omega) (by omega)).trans (o2.mono (by omega) (by omega))
        have key : ∀ m k, k + m = 4 → ∀ D', xOut o (o + 13) D D' → oR D' o K A (inc h c) (dec u c) (inc (fun _ => 0) c) (N - 1) → oK D' o → oM D' o K A u N n → (∀ b v, bestK (fun h' => gd K A (n - 1) h' (dec u c) (N - 1)) (inc h c) k = some (b, v) → b < 4 ∧ v < 2 ^ 25) →
            xPf (d + 22) m_Odds_bestHandedOn 38 [(0, .ref o), (1, .int (nI n)), (2, .int (nI c)), (3, .int (bkI (bestK (fun h' => gd K A (n - 1) h' (dec u c) (N - 1)) (inc h c) k))), (4, .int (nI (bkV (bestK (fun h' => gd K A (n - 1) h' (dec u c) (N - 1)) (inc h c) k)))), (5, .int (nI k))] [] D' (fun r D' => ∃ x, r = some (.int x) ∧ P x D') := by
          intro m
          induction m with
          | zero =>
            intro k hk4 D' oD H' hk' hM' _
            have ek : k = 4 := by omega
            subst ek
            exact s_Odds_bestHandedOn_38 k0 ⟨fun _ => ⟨_, rfl, fin D' oD hk'⟩, fun y => absurd (nI_le (a := 4) (b := 4) (by omega) (by omega)) y⟩
          | succ m ihm =>
            intro k hk4 D' oD H' hk' hM' hbv
            have nx := ihm (k + 1) (by omega)
            refine s_Odds_bestHandedOn_38 k0 ⟨fun y => absurd y (nI_ge (a := k) (b := 4) (by omega) (by omega)), fun _ => c_get H'.1 (show k < 13 by omega) ?_⟩
            rw [show o + 1 + 1 = o + 2 by omega, H'.2.1 k (by omega), nI_1 k]
            by_cases q0 : 0 < inc h c k
            · have hik : inc h c k ≤ 5 := by have := sm_le (inc h c) (n := 4) (show k < 4 by omega); omega
              refine ⟨fun y => absurd y (nI_nle q0 (by omega)), fun _ => ?_⟩
              rw [show nI n - (1 : Int32) = nI (n - 1) from pk_sub (a := n) (b := 1) (by omega)]
              have hVk : gV A u N n (n - 1) (dec (inc h c) k) (dec u c) (inc (fun _ => 0) c) (N - 1) := by
                have := sm_dec (f := inc h c) (show k < 4 by omega) q0
                refine ⟨by omega, fun i hi => ?_, by omega, by omega, by omega, by omega⟩
                have := hu i hi
                rw [dec_at, inc_at]
                by_cases y : i = c
                · rw [if_pos y, if_pos y]; rw [← y] at z0; omega
                · rw [if_neg y, if_neg y]; omega
              have hgs : gd K A (n - 1) (dec (inc h c) k) (dec u c) (N - 1) < 2 ^ 25 := gd_small hVk.2.2.1 (by omega) (by omega) (by omega)
              refine xCi_d (show d + 21 = d + 17 - 3 * (n - 1) + 3 * (n - 1) + 4 by omega) ?_
              refine c_without k0 hg H' hk' hM' (by omega) q0 hVk (fun D3 o3 H3 hk3 hM3 => ?_)
              rw [bestK, if_pos q0] at nx
              cases hr : bestK (fun h' => gd K A (n - 1) h' (dec u c) (N - 1)) (inc h c) k with
              | none =>
                rw [hr] at nx
                exact ⟨fun _ => nx D3 (oD.trans o3) H3 hk3 hM3 (fun b v y => by cases y; exact ⟨by omega, hgs⟩), fun y => absurd rfl y⟩
              | some bv =>
                obtain ⟨b, v⟩ := bv
                obtain ⟨hb4, hv⟩ := hbv b v hr
                rw [hr] at nx
                refine ⟨fun y => absurd y (fun y => nI_pos (n := b) (by omega) (by rw [show nI b = -1 from y]; decide)), fun _ => ⟨fun y => ?_, fun y => ?_⟩⟩
                · have y2 := (nI_leI (b := v) (by omega) (by omega)).mp y
                  have nx := nx D3 (oD.trans o3) H3 hk3 hM3
                  simp only [] at nx
                  rw [if_neg (by omega)] at nx
                  exact nx (fun b' v' y => by cases y; exact ⟨hb4, hv⟩)
                · have y2 : v < gd K A (n - 1) (dec (inc h c) k) (dec u c) (N - 1) := Nat.lt_of_not_le (fun w => y (nI_le (b := v) w (by omega)))
                  have nx := nx D3 (oD.trans o3) H3 hk3 hM3
                  simp only [] at nx
                  rw [if_pos y2] at nx
                  exact nx (fun b' v' y => by cases y; exact ⟨by omega, hgs⟩)
            · refine ⟨fun _ => ?_, fun y => absurd (by rw [show inc h c k = 0 by omega]; exact Int32.le_refl _) y⟩
              rw [bestK, if_neg q0] at nx
              exact nx D' oD H' hk' hM' hbv
        exact key 4 0 (by omega) D2 o12 H2 ((hk.out o1 (by omega)).out o2 (by omega)) (M1.out o2 (by omega)) (fun b v y => by cases y)
end GOOD
