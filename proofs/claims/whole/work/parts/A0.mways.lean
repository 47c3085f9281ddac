/-! The reference: in how many ways. -/
theorem maL {D D1 : xD} {a k : Nat} {v : Int64} (ha : a ≠ 325) (e : D1 = (D.1, xuL D.2 a k v)) : mF a (a + 1) 0 0 D D1 ∧ ∀ j, D1.2 a j = if j = k then v else D.2 a j := by
  subst e
  refine ⟨⟨fun i _ q => ⟨rfl, xuL_ne _ _ _ (by omega)⟩, fun j q => rfl⟩, fun j => ?_⟩
  show xuL D.2 a k v a j = _; rw [xuL_self]; rfl
theorem bestK_v {g : (Nat → Nat) → Nat} {h : Nat → Nat} : ∀ m, (bestK g h m = none → bsO g h m = 0) ∧ ∀ b v, bestK g h m = some (b, v) → bsO g h m = v ∧ b < m := by
  intro m
  induction m with
  | zero => exact ⟨fun _ => rfl, fun b v q => by cases q⟩
  | succ m ih =>
    by_cases z : 0 < h m
    · have e1 : bsO g h (m + 1) = if bsO g h m < g (dec h m) then g (dec h m) else bsO g h m := by rw [bsO, if_pos z]
      cases hb : bestK g h m with
      | none =>
        have e2 : bestK g h (m + 1) = some (m, g (dec h m)) := by rw [bestK, if_pos z, hb]
        have := ih.1 hb
        rw [e2, e1, this]
        refine ⟨fun q => (by cases q), fun b v q => ?_⟩
        cases q
        refine ⟨?_, Nat.lt_succ_self _⟩
        split <;> omega
      | some bv =>
        obtain ⟨b0, v0⟩ := bv
        have e2 : bestK g h (m + 1) = if v0 < g (dec h m) then some (m, g (dec h m)) else some (b0, v0) := by rw [bestK, if_pos z, hb]
        obtain ⟨q1, q2⟩ := ih.2 b0 v0 hb
        rw [e2, e1, q1]
        refine ⟨fun q => ?_, fun b v q => ?_⟩
        · split at q <;> cases q
        · split at q
          · cases q
            rw [if_pos (by assumption)]; exact ⟨rfl, Nat.lt_succ_self _⟩
          · cases q
            rw [if_neg (by assumption)]; exact ⟨rfl, by omega⟩
    · have e1 : bsO g h (m + 1) = bsO g h m := by rw [bsO, if_neg z]
      have e2 : bestK g h (m + 1) = bestK g h m := by rw [bestK, if_neg z]
      rw [e1, e2]
      exact ⟨ih.1, fun b v q => ⟨(ih.2 b v q).1, by have := (ih.2 b v q).2; omega⟩⟩
theorem bestK_ex {g : (Nat → Nat) → Nat} {h : Nat → Nat} {k : Nat} (h0 : 0 < h k) : ∀ {m}, k < m → bestK g h m ≠ none := by
  intro m
  induction m with
  | zero => intro q; omega
  | succ m ih =>
    intro q
    rw [bestK]
    by_cases z : 0 < h m
    · rw [if_pos z]
      cases bestK g h m with
      | none => exact fun y => by cases y
      | some bv =>
        simp only []
        split <;> exact fun y => by cases y
    · rw [if_neg z]
      refine ih ?_
      have : k ≠ m := fun y => z (by rw [← y]; exact h0)
      omega
def bkL (r : Option (Nat × Nat)) : Int64 := match r with
  | none => -1
  | some (_, v) => lN v
theorem lN_neg1 {w : Nat} (h : w < 2 ^ 63) : ¬ lN w ≤ (-1 : Int64) := by
  intro q
  have := Int64.le_iff_toInt_le.mp q
  rw [pk_lT h] at this
  have e : (-1 : Int64).toInt = -1 := by decide
  omega
section MWAYS
variable {d : Nat} {D : xD} {K A N : Nat} {h u : Nat → Nat}
/-- one card more, one less -/
theorem hand_next {m kind k : Nat} (hm : m < 625) (hA : A ≤ 4) (hH : isH K A m = true) (hno : ∀ j, j < 4 → dg m j < A) (hkd : kind < K) (hK : K ≤ 4) (hk : k < K) (h0 : 0 < inc (dg m) kind k) :
    5 ^ k ≤ m + 5 ^ kind ∧ m + 5 ^ kind - 5 ^ k < 625 ∧ isH K A (m + 5 ^ kind - 5 ^ k) = true ∧ ∀ j, j < 4 → dg (m + 5 ^ kind - 5 ^ k) j = dec (inc (dg m) kind) k j := by
  have e1 := cdM_inc (dg m) (show kind < 4 by omega)
  have e2 := cdM_dec (f := inc (dg m) kind) (show k < 4 by omega) h0
  rw [cdM_dg hm] at e1
  rw [e1] at e2
  have b4 : ∀ j, j < 4 → dec (inc (dg m) kind) k j ≤ 4 := fun j hj => by
    have := hno j hj
    rw [dec_at, inc_at]
    split <;> split <;> omega
  have ec : m + 5 ^ kind - 5 ^ k = cdM (dec (inc (dg m) kind) k) := by omega
  have ed : ∀ j, j < 4 → dg (m + 5 ^ kind - 5 ^ k) j = dec (inc (dg m) kind) k j := fun j hj => by rw [ec]; exact dg_cdM b4 hj
  refine ⟨by omega, by rw [ec]; exact cdM_lt b4, isH_iff.mpr ⟨?_, fun j hj hKj => ?_⟩, ed⟩
  · obtain ⟨hs, -⟩ := isH_iff.mp hH
    have s1 := sm_inc (f := dg m) (show kind < 4 by omega)
    have s2 := sm_dec (f := inc (dg m) kind) (show k < 4 by omega) h0
    rw [sm_congr (f := dg (m + 5 ^ kind - 5 ^ k)) (g := dec (inc (dg m) kind) k) (fun j hj => ed j hj)]
    omega
  · rw [ed j hj, dec_at, if_neg (by omega), inc_at, if_neg (by omega)]
    exact (isH_iff.mp hH).2 j hj hKj
theorem c_M_bestBy {P : Int64 → xD → Prop} {c m kind : Nat} {g : (Nat → Nat) → Nat} (Hs : mHs D K A) (e27 : D.1 325 27 = nI K) (hK : K ≤ 4) (hA : A ≤ 4) (hm : m < 625) (hH : isH K A m = true) (hno : ∀ j, j < 4 → dg m j < A) (hkd : kind < K) (hc : c + 5 ^ kind < 625) (hg : ∀ f, g f < 2 ^ 63)
    (hW : ∀ k, k < K → 0 < inc (dg m) kind k → D.2 362 (35 * (c + 5 ^ kind) + rkM K A (m + 5 ^ kind - 5 ^ k)) = lN (g (dec (inc (dg m) kind) k)))
    (fin : ∀ D', mF 0 0 74 75 D D' → (∀ b v, bestK g (inc (dg m) kind) K = some (b, v) → D'.1 325 74 = nI b) → P (lN (bsO g (inc (dg m) kind) K)) D') : xCl (d + 2) m_M_bestBy [.ref 325, .int (nI c), .int (nI m), .int (nI kind)] D P := by
  have l36 : xl (325 + 36) = 625 := cl_13_70 xk_M
  have l37 : xl (325 + 37) = 21875 := cl_13_71 xk_M
  have l38 : xl (325 + 38) = 4 := cl_13_72 xk_M
  have i38 : ∀ k, k < 4 → vp_in (nI k) (xl (325 + 38)) := fun k hk => by rw [l38]; exact vp_in_nI hk (by omega)
  obtain ⟨pk1, pk2⟩ := pow5 (show kind < 4 by omega)
  refine xCl_of y_M_bestBy (Nat.le_of_ble_eq_true rfl) (s_M_bestBy_0 xk_M ?_)
  have key : ∀ r k, k + r = K → ∀ D', mF 0 0 74 75 D D' → (∀ b v, bestK g (inc (dg m) kind) k = some (b, v) → D'.1 325 74 = nI b) → xPf (d + 2) m_M_bestBy 8 [(0, .ref 325), (1, .int (nI c)), (2, .int (nI m)), (3, .int (nI kind)), (4, .long (bkL (bestK g (inc (dg m) kind) k))), (6, .int (nI k))] [] D' (fun r D' => ∃ v, r = some (.long v) ∧ P v D') := by
    intro r
    induction r with
    | zero =>
      intro k hk D' o hb
      have ek : k = K := by omega
      subst ek
      refine s_M_bestBy_8 xk_M ?_
      rw [o.2 27 (by omega), e27]
      refine ⟨fun _ => ⟨_, rfl, ?_⟩, fun z => absurd (nI_le (by omega) (by omega)) z⟩
      have ne := bestK_ex (g := g) (h := inc (dg m) kind) (k := kind) (by rw [inc_at, if_pos rfl]; omega) hkd
      have f := fin D' o hb
      cases hx : bestK g (inc (dg m) kind) k with
      | none => exact absurd hx ne
      | some bv =>
        obtain ⟨b, v⟩ := bv
        rw [((bestK_v k).2 b v hx).1] at f
        exact f
    | succ r ih =>
      intro k hk D' o hb
      have hkK : k < K := by omega
      have Hs' := Hs.fr o (by omega) (by omega)
      have bd := dg_lt m k
      have nx := ih (k + 1) (by omega)
      -- what he has none of
      have none' : ¬ 0 < inc (dg m) kind k → xPf (d + 2) m_M_bestBy 8 [(0, .ref 325), (1, .int (nI c)), (2, .int (nI m)), (3, .int (nI kind)), (4, .long (bkL (bestK g (inc (dg m) kind) k))), (6, .int (nI k + (1 : Int32)))] [] D' (fun r D' => ∃ v, r = some (.long v) ∧ P v D') := by
        intro z
        have e2 : bestK g (inc (dg m) kind) (k + 1) = bestK g (inc (dg m) kind) k := by rw [bestK, if_neg z]
        rw [nI_1]
        have := nx D' o (by rw [e2]; exact hb)
        rw [e2] at this
        exact this
      obtain ⟨pe1, pe2⟩ := pow5 (show k < 4 by omega)
      have some' : 0 < inc (dg m) kind k → vp_in (nI kind) (xl (325 + 38)) ∧ vp_in (nI kind) (xl (325 + 38)) ∧ vp_in (nI k) (xl (325 + 38)) ∧ vp_in ((nI m + (D'.1 (325 + 38) (nI kind).toNatClampNeg)) - (D'.1 (325 + 38) (nI k).toNatClampNeg)) (xl (325 + 36)) ∧ vp_in (((35 : Int32) * (nI c + (D'.1 (325 + 38) (nI kind).toNatClampNeg))) + (D'.1 (325 + 36) ((nI m + (D'.1 (325 + 38) (nI kind).toNatClampNeg)) - (D'.1 (325 + 38) (nI k).toNatClampNeg) : Int32).toNatClampNeg)) (xl (325 + 37)) ∧
          ((lg_cmp (D'.2 (325 + 37) (((35 : Int32) * (nI c + (D'.1 (325 + 38) (nI kind).toNatClampNeg))) + (D'.1 (325 + 36) ((nI m + (D'.1 (325 + 38) (nI kind).toNatClampNeg)) - (D'.1 (325 + 38) (nI k).toNatClampNeg) : Int32).toNatClampNeg) : Int32).toNatClampNeg) (bkL (bestK g (inc (dg m) kind) k))) ≤ 0 → ∀ D3 : xD, D3 = (xu D'.1 325 74 (D'.1 325 74), D'.2) → ((lg_cmp (D'.2 (325 + 37) (((35 : Int32) * (nI c + (D'.1 (325 + 38) (nI kind).toNatClampNeg))) + (D'.1 (325 + 36) ((nI m + (D'.1 (325 + 38) (nI kind).toNatClampNeg)) - (D'.1 (325 + 38) (nI k).toNatClampNeg) : Int32).toNatClampNeg) : Int32).toNatClampNeg) (bkL (bestK g (inc (dg m) kind) k))) ≤ 0 → xPf (d + 2) m_M_bestBy 8 [(0, .ref 325), (1, .int (nI c)), (2, .int (nI m)), (3, .int (nI kind)), (4, .long (bkL (bestK g (inc (dg m) kind) k))), (6, .int (nI k + (1 : Int32)))] [] D3 (fun r D' => ∃ v, r = some (.long v) ∧ P v D')) ∧ (¬ (lg_cmp (D'.2 (325 + 37) (((35 : Int32) * (nI c + (D'.1 (325 + 38) (nI kind).toNatClampNeg))) + (D'.1 (325 + 36) ((nI m + (D'.1 (325 + 38) (nI kind).toNatClampNeg)) - (D'.1 (325 + 38) (nI k).toNatClampNeg) : Int32).toNatClampNeg) : Int32).toNatClampNeg) (bkL (bestK g (inc (dg m) kind) k))) ≤ 0 → xPf (d + 2) m_M_bestBy 8 [(0, .ref 325), (1, .int (nI c)), (2, .int (nI m)), (3, .int (nI kind)), (4, .long (D'.2 (325 + 37) (((35 : Int32) * (nI c + (D'.1 (325 + 38) (nI kind).toNatClampNeg))) + (D'.1 (325 + 36) ((nI m + (D'.1 (325 + 38) (nI kind).toNatClampNeg)) - (D'.1 (325 + 38) (nI k).toNatClampNeg) : Int32).toNatClampNeg) : Int32).toNatClampNeg)), (6, .int (nI k + (1 : Int32)))] [] D3 (fun r D' => ∃ v, r = some (.long v) ∧ P v D'))) ∧
          (¬ (lg_cmp (D'.2 (325 + 37) (((35 : Int32) * (nI c + (D'.1 (325 + 38) (nI kind).toNatClampNeg))) + (D'.1 (325 + 36) ((nI m + (D'.1 (325 + 38) (nI kind).toNatClampNeg)) - (D'.1 (325 + 38) (nI k).toNatClampNeg) : Int32).toNatClampNeg) : Int32).toNatClampNeg) (bkL (bestK g (inc (dg m) kind) k))) ≤ 0 → ∀ D4 : xD, D4 = (xu D'.1 325 74 (nI k), D'.2) → ((lg_cmp (D'.2 (325 + 37) (((35 : Int32) * (nI c + (D'.1 (325 + 38) (nI kind).toNatClampNeg))) + (D'.1 (325 + 36) ((nI m + (D'.1 (325 + 38) (nI kind).toNatClampNeg)) - (D'.1 (325 + 38) (nI k).toNatClampNeg) : Int32).toNatClampNeg) : Int32).toNatClampNeg) (bkL (bestK g (inc (dg m) kind) k))) ≤ 0 → xPf (d + 2) m_M_bestBy 8 [(0, .ref 325), (1, .int (nI c)), (2, .int (nI m)), (3, .int (nI kind)), (4, .long (bkL (bestK g (inc (dg m) kind) k))), (6, .int (nI k + (1 : Int32)))] [] D4 (fun r D' => ∃ v, r = some (.long v) ∧ P v D')) ∧ (¬ (lg_cmp (D'.2 (325 + 37) (((35 : Int32) * (nI c + (D'.1 (325 + 38) (nI kind).toNatClampNeg))) + (D'.1 (325 + 36) ((nI m + (D'.1 (325 + 38) (nI kind).toNatClampNeg)) - (D'.1 (325 + 38) (nI k).toNatClampNeg) : Int32).toNatClampNeg) : Int32).toNatClampNeg) (bkL (bestK g (inc (dg m) kind) k))) ≤ 0 → xPf (d + 2) m_M_bestBy 8 [(0, .ref 325), (1, .int (nI c)), (2, .int (nI m)), (3, .int (nI kind)), (4, .long (D'.2 (325 + 37) (((35 : Int32) * (nI c + (D'.1 (325 + 38) (nI kind).toNatClampNeg))) + (D'.1 (325 + 36) ((nI m + (D'.1 (325 + 38) (nI kind).toNatClampNeg)) - (D'.1 (325 + 38) (nI k).toNatClampNeg) : Int32).toNatClampNeg) : Int32).toNatClampNeg)), (6, .int (nI k + (1 : Int32)))] [] D4 (fun r D' => ∃ v, r = some (.long v) ∧ P v D'))) := by
        intro z
        obtain ⟨n1, n2, n3, n4⟩ := hand_next hm hA hH hno hkd hK hkK z
        have r35 := rkM_35 hK hA n2 n3
        have w := hW k hkK z
        rw [nI_clamp (n := kind) (by omega), nI_clamp (n := k) (by omega), show D'.1 (325 + 38) kind = nI (5 ^ kind) from Hs'.1 kind (by omega), show D'.1 (325 + 38) k = nI (5 ^ k) from Hs'.1 k (by omega), nI_add, nI_add, pk_sub n1]
        have e36 : D'.1 (325 + 36) (nI (m + 5 ^ kind - 5 ^ k)).toNatClampNeg = nI (rkM K A (m + 5 ^ kind - 5 ^ k)) := by
          rw [nI_clamp (by omega)]; exact (Hs'.2.1 _ n2 n3).1
        have e37 : D'.2 (325 + 37) ((35 : Int32) * nI (c + 5 ^ kind) + nI (rkM K A (m + 5 ^ kind - 5 ^ k))).toNatClampNeg = lN (g (dec (inc (dg m) kind) k)) := by
          rw [show (35 : Int32) = nI 35 from rfl, pk_mul, nI_add, nI_clamp (by omega), (o.1 (325 + 37) (by omega) (by omega)).2]; exact w
        rw [e36, e37, nI_1]
        have gl := hg (dec (inc (dg m) kind) k)
        refine ⟨i38 kind (by omega), i38 kind (by omega), i38 k (by omega), by rw [l36]; exact vp_in_nI n2 (by omega), by rw [show (35 : Int32) = nI 35 from rfl, pk_mul, nI_add, l37]; exact vp_in_nI (by omega) (by omega), fun q D3 e3 => ⟨fun _ => ?_, fun y => absurd q y⟩, fun q D4 e4 => ⟨fun y => absurd y q, fun _ => ?_⟩⟩
        · obtain ⟨o3, f3⟩ := mf e3
          have q' := (lg_cmp_le _ _).mp q
          cases hx : bestK g (inc (dg m) kind) k with
          | none => rw [hx] at q'; exact absurd q' (lN_neg1 gl)
          | some bv =>
            obtain ⟨b, v⟩ := bv
            rw [hx] at q'
            have vl : v < 2 ^ 63 := by
              have := ((bestK_v (g := g) (h := inc (dg m) kind) k).2 b v hx).1
              have := bsO_le (g := g) (h := inc (dg m) kind) (B := 2 ^ 63 - 1) (fun f => by have := hg f; omega) k
              omega
            have le := (pk_lLE gl vl).mp q'
            have e2 : bestK g (inc (dg m) kind) (k + 1) = some (b, v) := by rw [bestK, if_pos z, hx]; simp only []; rw [if_neg (by omega)]
            have := nx D3 (o.trans o3) (fun b' v' y => by
              rw [e2] at y; cases y
              rw [f3]; exact hb b v hx)
            rw [e2] at this
            exact this
        · obtain ⟨o4, f4⟩ := mf e4
          have e2 : bestK g (inc (dg m) kind) (k + 1) = some (k, g (dec (inc (dg m) kind) k)) := by
            rw [bestK, if_pos z]
            cases hx : bestK g (inc (dg m) kind) k with
            | none => rfl
            | some bv =>
              obtain ⟨b, v⟩ := bv
              simp only []
              have vl : v < 2 ^ 63 := by
                have := ((bestK_v (g := g) (h := inc (dg m) kind) k).2 b v hx).1
                have := bsO_le (g := g) (h := inc (dg m) kind) (B := 2 ^ 63 - 1) (fun f => by have := hg f; omega) k
                omega
              rw [hx] at q
              rw [if_pos (Nat.lt_of_not_le (fun y => q ((lg_cmp_le _ _).mpr ((pk_lLE gl vl).mpr y))))]
          have := nx D4 (o.trans o4) (fun b' v' y => by
            rw [e2] at y; cases y
            exact f4)
          rw [e2] at this
          exact this
      refine s_M_bestBy_8 xk_M ?_
      rw [o.2 27 (by omega), e27]
      refine ⟨fun z => absurd z (nI_ge (by omega) (by omega)), fun _ => c_M_part Hs'.1 (by omega) (by omega) ⟨fun y => ?_, fun y => ?_⟩⟩
      · have ne : k ≠ kind := fun x => y (by rw [x])
        have ei : inc (dg m) kind k = dg m k := by rw [inc_at, if_neg ne]
        rw [show nI (dg m k) + (0 : Int32) = nI (dg m k) from nI_add _ 0]
        refine ⟨fun x => none' (fun w => ?_), fun x => some' (Nat.pos_of_ne_zero (fun w => x ?_))⟩
        · rw [ei] at w; exact nI_nle w (by omega) x
        · rw [ei] at w; rw [w]; decide
      · have ek : k = kind := (nI_eq (by omega) (by omega)).mp y
        have ei : inc (dg m) kind k = dg m k + 1 := by rw [inc_at, if_pos ek]
        rw [nI_1]
        exact ⟨fun x => absurd x (nI_nle (by omega) (by omega)), fun x => some' (by omega)⟩
  exact key K 0 (by omega) D mF.rfl' (fun b v q => by cases q)
end MWAYS
