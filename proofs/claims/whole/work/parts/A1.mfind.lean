/-! The reference finds all ways. -/
def cmO (u : Nat → Nat) (c : Nat) : Prop := c < 625 ∧ ∀ k, k < 4 → dg c k ≤ u k
/-- in how many ways, by what came and what one holds -/
def wV (K A n N : Nat) (u : Nat → Nat) (c m : Nat) : Nat := gd K A (n - sm (dg c) 4) (dg m) (fun k => u k - dg c k) (N - sm (dg c) 4)
def wE (D : xD) (K A n N : Nat) (u : Nat → Nat) (c m : Nat) : Prop := D.2 362 (35 * c + rkM K A m) = lN (wV K A n N u c m)
theorem wE.fr {D D' : xD} {lo hi f g K A n N c m : Nat} {u : Nat → Nat} (h : wE D K A n N u c m) (o : mF lo hi f g D D') (q : 362 < lo ∨ hi ≤ 362) : wE D' K A n N u c m := by
  unfold wE at h ⊢
  rw [(o.1 362 (by omega) q).2]; exact h
theorem bsO_tail {g : (Nat → Nat) → Nat} {h : Nat → Nat} {K : Nat} (h0 : ∀ j, j < 4 → K ≤ j → h j = 0) : ∀ r, K + r ≤ 4 → bsO g h (K + r) = bsO g h K := by
  intro r
  induction r with
  | zero => intro _; rfl
  | succ r ih =>
    intro hr
    rw [show K + (r + 1) = K + r + 1 by omega, bsO, if_neg (by rw [h0 (K + r) (by omega) (by omega)]; omega)]
    exact ih (by omega)
theorem sm_tl {f : Nat → Nat} {K : Nat} (h0 : ∀ j, j < 4 → K ≤ j → f j = 0) : ∀ r, K + r ≤ 4 → sm f (K + r) = sm f K := by
  intro r
  induction r with
  | zero => intro _; rfl
  | succ r ih =>
    intro hr
    rw [show K + (r + 1) = K + r + 1 by omega, sm, h0 (K + r) (by omega) (by omega), Nat.add_zero]
    exact ih (by omega)
theorem sm_dg (n : Nat) : sm (dg n) 4 ≤ 16 := by
  rw [sm4]
  have := dg_lt n 0
  have := dg_lt n 1
  have := dg_lt n 2
  have := dg_lt n 3
  omega
/-- one more came -/
theorem came_next {u : Nat → Nat} {c k : Nat} (hu : ∀ k, k < 4 → u k ≤ 4) (hc : cmO u c) (hk : k < 4) (h : dg c k < u k) : cmO u (c + 5 ^ k) ∧ sm (dg (c + 5 ^ k)) 4 = sm (dg c) 4 + 1 ∧ ∀ j, j < 4 → dg (c + 5 ^ k) j = inc (dg c) k j := by
  have b4 : ∀ j, j < 4 → inc (dg c) k j ≤ 4 := fun j hj => by
    have := hc.2 j hj
    have := hu j hj
    have := dg_lt c j
    rw [inc_at]
    by_cases z : j = k
    · rw [if_pos z]; rw [← z] at h; omega
    · rw [if_neg z]; omega
  have ec : c + 5 ^ k = cdM (inc (dg c) k) := by rw [cdM_inc _ hk, cdM_dg hc.1]
  have ed : ∀ j, j < 4 → dg (c + 5 ^ k) j = inc (dg c) k j := fun j hj => by rw [ec]; exact dg_cdM b4 hj
  refine ⟨⟨by rw [ec]; exact cdM_lt b4, fun j hj => ?_⟩, ?_, ed⟩
  · rw [ed j hj, inc_at]
    by_cases z : j = k
    · rw [if_pos z]; rw [← z] at h; omega
    · rw [if_neg z]; exact hc.2 j hj
  · rw [sm_congr (f := dg (c + 5 ^ k)) (g := inc (dg c) k) ed, sm_inc hk]
section MFIND
variable {d : Nat} {D : xD} {K A N : Nat} {h u : Nat → Nat}
theorem c_M_waysOf {P : Int64 → xD → Prop} {c m n : Nat} (Hs : mHs D K A) (e27 : D.1 325 27 = nI K) (e29 : D.1 325 29 = nI A) (X : mHf D h u N) (hK : K ≤ 4) (hA : 0 < A) (hA4 : A ≤ 4) (hu : ∀ k, k < 4 → u k ≤ 4) (hu0 : ∀ k, K ≤ k → u k = 0) (hN : sm u 4 = N) (hN16 : N ≤ 16) (hn6 : n ≤ 6) (hn : n ≤ N) (hc : cmO u c) (hct : sm (dg c) 4 ≤ n) (hm : m < 625) (hH : isH K A m = true)
    (hW : ∀ c' m', cmO u c' → sm (dg c') 4 = sm (dg c) 4 + 1 → sm (dg c') 4 ≤ n → m' < 625 → isH K A m' = true → wE D K A n N u c' m')
    (fin : ∀ D', mF 0 0 74 75 D D' → P (lN (wV K A n N u c m)) D') : xCl (d + 3) m_M_waysOf [.ref 325, .int (nI c), .int (nI m), .int (nI (n - sm (dg c) 4))] D P := by
  have l34 : xl (325 + 34) = 13 := cl_13_67 xk_M
  have hct16 := sm_dg c
  have su : sm (fun k => u k - dg c k) 4 + sm (dg c) 4 = sm u 4 := sm_sub (fun i hi => hc.2 i hi)
  have c625 := hc.1
  refine xCl_of y_M_waysOf (Nat.le_of_ble_eq_true rfl) (s_M_waysOf_0 xk_M ?_)
  refine c_M_hasAlike (K := K) Hs.1 e29 (by omega) hK hA hA4 hH (fun q => z1 ?_) (fun q => z0 ?_)
  · refine c_M_total Hs.1 (by omega) ?_
    rw [X.2.2, pk_sub (by omega)]
    refine c_M_rows (by omega) (by omega) ⟨_, rfl, ?_⟩
    have := fin D mF.rfl'
    unfold wV at this
    rw [gd_has q] at this
    exact this
  · have hno : ∀ j, j < 4 → dg m j < A := fun j hj => by
      by_cases z : j < K
      · exact Nat.lt_of_not_le (fun y => q (oHas_t.mpr ⟨j, z, y⟩))
      · rw [(isH_iff.mp hH).2 j hj (by omega)]; exact hA
    unfold wV at fin
    generalize ht : sm (dg c) 4 = t at *
    cases hL : n - t with
    | zero =>
      have f := fin D mF.rfl'
      rw [hL, gd_0 q] at f
      refine s_M_waysOf_30 xk_M ⟨fun _ => ⟨_, rfl, f⟩, fun _ => ⟨fun _ => ⟨_, rfl, f⟩, fun z => absurd (by decide) z⟩⟩
    | succ L =>
      rw [hL, gd_s q] at fin
      have key : ∀ r k, k + r = K → ∀ D', mF 0 0 74 75 D D' → xPf (d + 3) m_M_waysOf 30 [(0, .ref 325), (1, .int (nI c)), (2, .int (nI m)), (3, .int (nI (L + 1))), (4, .long (lN (sm (fun k => (u k - dg c k) * bsO (fun h' => gd K A L h' (dec (fun k => u k - dg c k) k) (N - t - 1)) (inc (dg m) k) 4) k))), (6, .int (nI k))] [] D' (fun r D' => ∃ v, r = some (.long v) ∧ P v D') := by
        intro r
        induction r with
        | zero =>
          intro k hk D' o
          have ek : k = K := by omega
          refine s_M_waysOf_30 xk_M ?_
          rw [o.2 27 (by omega), e27]
          refine ⟨fun _ => ⟨_, rfl, ?_⟩, fun z => absurd (nI_le (by omega) (by omega)) z⟩
          have f := fin D' o
          have tl := sm_tl (f := fun k => (u k - dg c k) * bsO (fun h' => gd K A L h' (dec (fun k => u k - dg c k) k) (N - t - 1)) (inc (dg m) k) 4) (K := K) (fun j _ hj => by
            show (u j - dg c j) * _ = 0
            rw [hu0 j hj, Nat.zero_sub, Nat.zero_mul]) (4 - K) (by omega)
          rw [show K + (4 - K) = 4 by omega] at tl
          rw [tl] at f
          rw [ek]; exact f
        | succ r ih =>
          intro k hk D' o
          have nx := fun D2 o2 => ih (k + 1) (by omega) D2 (o.trans o2)
          have hck := hc.2 k (by omega)
          have huk := hu k (by omega)
          have X' := X.fr o (by omega) (by omega)
          have Hs' := Hs.fr o (by omega) (by omega)
          refine s_M_waysOf_30 xk_M ?_
          rw [o.2 27 (by omega), e27]
          refine ⟨fun z => absurd z (nI_ge (by omega) (by omega)), fun _ => ⟨fun z => absurd z (nI_nle (by omega) (by omega)), fun _ => ⟨by rw [l34]; exact vp_in_nI (by omega) (by omega), c_M_part Hs'.1 (by omega) (by omega) ?_⟩⟩⟩
          rw [nI_clamp (n := k) (by omega), show D'.1 (325 + 34) k = nI (u k) from X'.2.1 k (by omega), pk_sub hck, nI_1 k]
          have es : sm (fun k => (u k - dg c k) * bsO (fun h' => gd K A L h' (dec (fun k => u k - dg c k) k) (N - t - 1)) (inc (dg m) k) 4) (k + 1) = sm (fun k => (u k - dg c k) * bsO (fun h' => gd K A L h' (dec (fun k => u k - dg c k) k) (N - t - 1)) (inc (dg m) k) 4) k + (u k - dg c k) * bsO (fun h' => gd K A L h' (dec (fun k => u k - dg c k) k) (N - t - 1)) (inc (dg m) k) 4 := rfl
          refine ⟨fun z => ?_, fun z => ?_⟩
          · have z0 : u k - dg c k = 0 := by
              have := (nI_leI (b := 0) (by omega) (by omega)).mp z; omega
            have := nx D' mF.rfl'
            rw [es, z0, Nat.zero_mul, Nat.add_zero] at this
            rw [show lN (sm (fun k => (u k - dg c k) * bsO (fun h' => gd K A L h' (dec (fun k => u k - dg c k) k) (N - t - 1)) (inc (dg m) k) 4) k) + (0 : Int64) = lN (sm (fun k => (u k - dg c k) * bsO (fun h' => gd K A L h' (dec (fun k => u k - dg c k) k) (N - t - 1)) (inc (dg m) k) 4) k + 0) from lN_add _ 0]
            exact this
          · have zp : dg c k < u k := by
              apply Nat.lt_of_not_le
              intro y
              exact z (by rw [show u k - dg c k = 0 by omega]; decide)
            obtain ⟨n1, n2, n3⟩ := came_next hu hc (by omega) zp
            have sd : sm (dec (fun k => u k - dg c k) k) 4 = N - t - 1 := by
              have := sm_dec (f := fun k => u k - dg c k) (k := k) (n := 4) (by omega) (by show 0 < u k - dg c k; omega)
              omega
            refine c_M_bestBy (g := fun h' => gd K A L h' (dec (fun k => u k - dg c k) k) (N - t - 1)) Hs' (by rw [o.2 27 (by omega)]; exact e27) hK hA4 hm hH hno (by omega) n1.1 (fun f => ?_) (fun j hj hj0 => ?_) (fun D2 o2 _ => ?_)
            · have := gd_small (K := K) (A := A) (h := f) (n := L) sd (by omega) (by omega) (by omega)
              omega
            · obtain ⟨p1, p2, p3, p4⟩ := hand_next hm hA4 hH hno (by omega) hK hj hj0
              have w := (hW (c + 5 ^ k) (m + 5 ^ k - 5 ^ j) n1 (by rw [n2, ht]) (by rw [n2, ht]; omega) p2 p3).fr o (by omega)
              unfold wE at w
              rw [w]
              unfold wV
              rw [n2, ht, show n - (t + 1) = L by omega, show N - (t + 1) = N - t - 1 by omega]
              congr 1
              refine gd_congr hK _ _ _ _ _ _ p4 (fun i hi => ?_)
              show u i - dg (c + 5 ^ k) i = dec (fun k => u k - dg c k) k i
              rw [n3 i hi, inc_at, dec_at]
              by_cases y : i = k
              · rw [if_pos y, if_pos y]; omega
              · rw [if_neg y, if_neg y]
            · have tlb := bsO_tail (g := fun h' => gd K A L h' (dec (fun k => u k - dg c k) k) (N - t - 1)) (h := inc (dg m) k) (K := K) (fun j hj hKj => by rw [inc_at, if_neg (by omega)]; exact (isH_iff.mp hH).2 j hj hKj) (4 - K) (by omega)
              rw [show K + (4 - K) = 4 by omega] at tlb
              rw [← tlb, nI_l (by omega), lN_mul, lN_add, ← es]
              exact nx D2 o2
      exact key K 0 (by omega) D mF.rfl'
theorem c_M_findWays {P : xD → Prop} {n : Nat} (e27 : D.1 325 27 = nI K) (e29 : D.1 325 29 = nI A) (X : mHf D h u N) (hK : K ≤ 4) (hA : 0 < A) (hA4 : A ≤ 4) (hu : ∀ k, k < 4 → u k ≤ 4) (hu0 : ∀ k, K ≤ k → u k = 0) (hN : sm u 4 = N) (hN16 : N ≤ 16) (hn6 : n ≤ 6) (hn : n ≤ N)
    (fin : ∀ D', mF 360 364 73 75 D D' → mHs D' K A → (∀ c m, cmO u c → sm (dg c) 4 ≤ n → m < 625 → isH K A m = true → wE D' K A n N u c m) → P D') : xCv (d + 4) m_M_findWays [.ref 325, .int (nI n)] D P := by
  have l35 : xl (325 + 35) = 35 := cl_13_69 xk_M
  have l37 : xl (325 + 37) = 21875 := cl_13_71 xk_M
  have r35 : rkM K A 625 ≤ 35 := rkM_35' K (by omega) A (by omega)
  refine xCv_of y_M_findWays (Nat.le_of_ble_eq_true rfl) (s_M_findWays_0 xk_M ?_)
  refine c_M_layHands e27 e29 hK hA4 (fun D1 o1 Hs1 => ?_)
  have key : ∀ t', t' ≤ n + 1 → ∀ D', mF 360 364 73 75 D D' → mHs D' K A → (∀ c m, cmO u c → sm (dg c) 4 ≤ n → m < 625 → isH K A m = true → t' ≤ sm (dg c) 4 → wE D' K A n N u c m) →
      xPf (d + 4) m_M_findWays 6 [(0, .ref 325), (1, .int (nI n)), (2, .int (nI t' + (-1 : Int32)))] [] D' (fun r D' => r = none ∧ P D') := by
    intro t'
    induction t' with
    | zero =>
      intro _ D' o Hs hE
      rw [show nI 0 + (-1 : Int32) = -1 by decide]
      exact s_M_findWays_6 xk_M ⟨fun _ => ⟨rfl, fin D' o Hs (fun c m a b e f => hE c m a b e f (Nat.zero_le _))⟩, fun z => absurd (by decide) z⟩
    | succ t iht =>
      intro ht D' o Hs hE
      rw [pk_m1]
      refine s_M_findWays_6 xk_M ⟨fun z => absurd z (nI_pos (by omega)), fun _ => ?_⟩
      -- what came, one after the other
      have came : ∀ r c, c + r = 625 → ∀ D2, mF 360 364 73 75 D D2 → mHs D2 K A → (∀ c' m, cmO u c' → sm (dg c') 4 ≤ n → m < 625 → isH K A m = true → (t < sm (dg c') 4 ∨ (sm (dg c') 4 = t ∧ c' < c)) → wE D2 K A n N u c' m) →
          xPf (d + 4) m_M_findWays 12 [(0, .ref 325), (1, .int (nI n)), (2, .int (nI t)), (3, .int (nI c))] [] D2 (fun r D' => r = none ∧ P D') := by
        intro r
        induction r with
        | zero =>
          intro c hc D2 o2 Hs2 hE2
          refine s_M_findWays_12 xk_M ⟨fun _ => iht (by omega) D2 o2 Hs2 (fun c' m a b e f q => hE2 c' m a b e f ?_), fun z => absurd (nI_le (a := 625) (by omega) (by omega)) z⟩
          have := a.1
          by_cases y : t < sm (dg c') 4
          · exact Or.inl y
          · exact Or.inr ⟨by omega, by omega⟩
        | succ r ihc =>
          intro c hc D2 o2 Hs2 hE2
          refine s_M_findWays_12 xk_M ⟨fun z => absurd z (nI_ge (b := 625) (by omega) (by omega)), fun _ => ?_⟩
          -- hands, one after the other
          have hands : ∀ r i, i + r = rkM K A 625 → ∀ D3, mF 360 364 73 75 D D3 → mHs D3 K A → (∀ c' m, cmO u c' → sm (dg c') 4 ≤ n → m < 625 → isH K A m = true → (t < sm (dg c') 4 ∨ (sm (dg c') 4 = t ∧ (c' < c ∨ (c' = c ∧ rkM K A m < i)))) → wE D3 K A n N u c' m) →
              xPf (d + 4) m_M_findWays 22 [(0, .ref 325), (1, .int (nI n)), (2, .int (nI t)), (3, .int (nI c)), (4, .int (nI i))] [] D3 (fun r D' => r = none ∧ P D') := by
            intro r
            induction r with
            | zero =>
              intro i hi D3 o3 Hs3 hE3
              refine s_M_findWays_22 xk_M ?_
              rw [Hs3.2.2, nI_1]
              refine ⟨fun _ => ihc (c + 1) (by omega) D3 o3 Hs3 (fun c' m a b e f q => hE3 c' m a b e f ?_), fun z => absurd (nI_le (by omega) (by omega)) z⟩
              rcases q with q | ⟨q, q2⟩
              · exact Or.inl q
              · refine Or.inr ⟨q, ?_⟩
                by_cases y : c' = c
                · exact Or.inr ⟨y, by have := rkM_lt e f; omega⟩
                · exact Or.inl (by omega)
            | succ r ihh =>
              intro i hi D3 o3 Hs3 hE3
              have i35 : i < 35 := by omega
              have d16 := sm_dg c
              -- nothing is to be found for it
              have skip : ¬ (cmO u c ∧ sm (dg c) 4 = t) → xPf (d + 4) m_M_findWays 12 [(0, .ref 325), (1, .int (nI n)), (2, .int (nI t)), (3, .int (nI (c + 1)))] [] D3 (fun r D' => r = none ∧ P D') := fun no => by
                refine ihc (c + 1) (by omega) D3 o3 Hs3 (fun c' m a b e f q => hE3 c' m a b e f ?_)
                rcases q with q | ⟨q, q2⟩
                · exact Or.inl q
                · refine Or.inr ⟨q, Or.inl ?_⟩
                  have : c' ≠ c := fun y => no ⟨by rw [← y]; exact a, by rw [← y]; exact q⟩
                  omega
              have X3 : mHf D3 h u N := X.fr o3 (by omega) (by omega)
              have g27 : D3.1 325 27 = nI K := by rw [o3.2 27 (by omega)]; exact e27
              have g29 : D3.1 325 29 = nI A := by rw [o3.2 29 (by omega)]; exact e29
              refine s_M_findWays_22 xk_M ?_
              rw [Hs3.2.2, nI_1 c]
              refine ⟨fun z => absurd z (nI_ge (by omega) (by omega)), fun _ => c_M_total Hs3.1 (by omega) ⟨fun z => skip (fun y => z (by rw [y.2])), fun z => ?_⟩⟩
              have et := (nI_eq (by omega) (by omega)).mp z
              refine c_M_canCome Hs3.1 g27 X3 hK hu hu0 (by omega) (fun q => z1 ?_) (fun q => z0 (skip (fun y => q y.1.2)))
              have hcO : cmO u c := ⟨by omega, q⟩
              obtain ⟨m0, hm0, hH0, hr0⟩ := rkM_ex (K := K) (A := A) (n := 625) (i := i) (by omega)
              have e35 : D3.1 (325 + 35) i = nI m0 := by rw [← hr0]; exact (Hs3.2.1 m0 hm0 hH0).2
              rw [nI_clamp (n := i) (by omega), e35, pk_sub (show t ≤ n by omega), ← et]
              refine ⟨by rw [l35]; exact vp_in_nI i35 (by omega), c_M_waysOf Hs3 g27 g29 X3 hK hA hA4 hu hu0 hN hN16 hn6 hn hcO (by omega) hm0 hH0 (fun c' m' a b e f g => hE3 c' m' a e f g (Or.inl (by omega))) (fun D5 o5 => ?_)⟩
              rw [show (35 : Int32) = nI 35 from rfl, pk_mul, nI_add, nI_clamp (n := 35 * c + i) (by omega), nI_1 i]
              refine ⟨by rw [l37]; exact vp_in_nI (by omega) (by omega), fun D7 e7 => ?_⟩
              obtain ⟨o7, v7⟩ := maL (by omega) e7
              have v7' : ∀ j, D7.2 362 j = if j = 35 * c + i then lN (wV K A n N u c m0) else D5.2 362 j := v7
              rw [et]
              refine ihh (i + 1) (by omega) D7 (o3.trans ((o5.m (by omega) (by omega)).trans (o7.m (by omega) (by omega)))) ((Hs3.fr o5 (by omega) (by omega)).fr o7 (by omega) (by omega)) (fun c' m a b e f qq => ?_)
              have rm := rkM_35 hK hA4 e f
              unfold wE
              rw [v7']
              by_cases y : c' = c ∧ rkM K A m = i
              · rw [if_pos (by rw [y.1, y.2])]
                have em : m = m0 := rkM_inj f hH0 (by rw [y.2, hr0])
                rw [y.1, em]
              · rw [if_neg (by omega), (o5.1 362 (by omega) (by omega)).2]
                have := hE3 c' m a b e f (by omega)
                unfold wE at this
                exact this
          exact hands (rkM K A 625) 0 (by omega) D2 o2 Hs2 (fun c' m a b e f q => hE2 c' m a b e f (by omega))
      exact came 625 0 (by omega) D' o Hs (fun c' m a b e f q => hE c' m a b e f (by omega))
  have := key (n + 1) (Nat.le_refl _) D1 (o1.m (by omega) (by omega)) Hs1 (fun c m a b e f q => absurd q (by omega))
  rw [pk_m1] at this
  exact this
end MFIND
