/-! SHUFFLED packs. -/
def rnd (x : Int32) : Int32 := x * 1103515245 + 12345
/-- what is drawn of it -/
def rn (x : Int32) : Nat := x.toBitVec.toNat / 65536
theorem rn_lt (x : Int32) : rn x < 65536 := by
  unfold rn
  have := x.toBitVec.isLt
  omega
theorem rn_is (x : Int32) : (x.toUInt32 >>> ((16 : Int32).toUInt32 &&& Int32.toUInt32 31)).toInt32 = nI (rn x) := by
  have h := pk_ushr x 16 16 (by decide +kernel)
  have h2 := rn_lt x
  apply Int32.toBitVec_inj.mp
  apply BitVec.eq_of_toNat_eq
  rw [h, pk_tn (by omega)]
  rfl
def swp (c : Nat → Nat) (p q : Nat) : Nat → Nat := fun i => if i = q then c p else if i = p then c q else c i
/-- from place i down -/
def shg (g : Int32 → Int32) (r : Int32 → Nat) : Nat → (Nat → Nat) → Int32 → (Nat → Nat) × Int32
  | 0, c, x => (c, x)
  | i + 1, c, x => shg g r i (swp c (i + 1) (r (g x) % (i + 2))) (g x)
def shf (i : Nat) (c : Nat → Nat) (x : Int32) : (Nat → Nat) × Int32 := shg rnd rn i c x
theorem shf_0 (c : Nat → Nat) (x : Int32) : shf 0 c x = (c, x) := by
  unfold shf; rw [shg]
theorem shf_s (i : Nat) (c : Nat → Nat) (x : Int32) : shf (i + 1) c x = shf i (swp c (i + 1) (rn (rnd x) % (i + 2))) (rnd x) := by
  unfold shf; rw [shg]
theorem shf_lt {K n : Nat} : ∀ (i : Nat) (c : Nat → Nat) (x : Int32), i < n → (∀ j, j < n → c j < K) → ∀ j, j < n → (shf i c x).1 j < K := by
  intro i
  induction i with
  | zero => intro c x _ h; rw [shf_0]; exact h
  | succ i ih =>
    intro c x hi h
    rw [shf_s]
    refine ih _ _ (by omega) (fun j hj => ?_)
    have := Nat.mod_lt (rn (rnd x)) (show 0 < i + 2 by omega)
    unfold swp
    split
    · exact h _ hi
    · split
      · exact h _ (by omega)
      · exact h j hj
/-- the PACK of a table, SHUFFLED -/
def shC (τ : Nat → Int32) (x : Int32) : (Nat → Nat) × Int32 := shf (tN τ 0 * tN τ 1 - 1) (fun k => k / tN τ 1) x
theorem shC_lt {τ : Nat → Int32} (hT : tOK τ) (x : Int32) {j : Nat} (h : j < tN τ 0 * tN τ 1) : (shC τ x).1 j < tN τ 0 := by
  have h1 := hT.2.2.1
  refine shf_lt (n := tN τ 0 * tN τ 1) _ _ _ (by omega) (fun j hj => ?_) j h
  exact Nat.div_lt_of_lt_mul (by rw [Nat.mul_comm]; exact hj)
theorem pack_le {τ : Nat → Int32} (hT : tOK τ) : tN τ 0 * tN τ 1 ≤ 52 := Nat.mul_le_mul (show tN τ 0 ≤ 13 from hT.2.1.2) (show tN τ 1 ≤ 4 from hT.2.2.1.2)
theorem pack_ge {τ : Nat → Int32} (hT : tOK τ) : 2 ≤ tN τ 0 * tN τ 1 := Nat.mul_le_mul (show 2 ≤ tN τ 0 from hT.2.1.1) (show 1 ≤ tN τ 1 from hT.2.2.1.1)
/-- nothing but the pack of an Evenings at v and what it draws by has changed -/
def xOutS (v : Nat) (D D' : xD) : Prop := (∀ i, i ≠ v → i ≠ v + 33 → i ≠ v + 34 → D'.1 i = D.1 i) ∧ (∀ k, k ≠ 8 → D'.1 v k = D.1 v k) ∧ D'.2 = D.2
theorem xOutS.rfl' {v : Nat} {D : xD} : xOutS v D D := ⟨fun _ _ _ _ => rfl, fun _ _ => rfl, rfl⟩
theorem xOutS.trans {v : Nat} {D D1 D2 : xD} (h1 : xOutS v D D1) (h2 : xOutS v D1 D2) : xOutS v D D2 := ⟨fun i a b c => (h2.1 i a b c).trans (h1.1 i a b c), fun k q => (h2.2.1 k q).trans (h1.2.1 k q), h2.2.2.trans h1.2.2⟩
theorem xOut.toS {v lo hi : Nat} {D D1 : xD} (h : xOut lo hi D D1) (q : v + 33 ≤ lo ∧ hi ≤ v + 35) : xOutS v D D1 := ⟨fun i a b c => h.1 i (by omega), fun k _ => by rw [h.1 v (by omega)], h.2⟩
theorem tR.outS {D D' : xD} {v t : Nat} {τ : Nat → Int32} (h : tR D t τ) (o : xOutS v D D') (q : t + 5 ≤ v ∨ t = v + 45 ∨ v + 50 ≤ t) : tR D' t τ :=
  ⟨h.1, rS_of h.2.1 (by rw [o.1 _ (by omega) (by omega) (by omega)]), rS_of h.2.2.1 (by rw [o.1 _ (by omega) (by omega) (by omega)]), fun j hj => by rw [o.1 (t + 2) (by omega) (by omega) (by omega)]; exact h.2.2.2.1 j hj, fun p hp w hw => by rw [o.1 (t + 4) (by omega) (by omega) (by omega)]; exact h.2.2.2.2 p hp w hw⟩
theorem rS.outS {D D' : xD} {v a n : Nat} (h : rS D a n) (o : xOutS v D D') (q : a ≠ v ∧ a ≠ v + 33 ∧ a ≠ v + 34) : rS D' a n := rS_of h (by rw [o.1 _ q.1 q.2.1 q.2.2])
section SHUF
variable {d : Nat} {D : xD} {v t : Nat} {τ : Nat → Int32}
theorem c_Evenings_draw {P : Int32 → xD → Prop} {b : Nat} {x : Int32} (k0 : xk v = 10) (hx : D.1 v 8 = x) (hb : 0 < b) (hb2 : b < 2 ^ 31) (h : P (nI (rn (rnd x) % b)) (xu D.1 v 8 (rnd x), D.2)) : xCi (d + 1) m_Evenings_draw [.ref v, .int (nI b)] D P := by
  refine xCi_of y_Evenings_draw (Nat.le_of_ble_eq_true rfl) (s_Evenings_draw_0 k0 (fun D1 e1 => ?_))
  rw [hx] at e1
  have e8 : D1.1 v 8 = rnd x := by rw [e1]; show xu D.1 v 8 _ v 8 = _; rw [xu_self]; simp [upd, rnd]
  have hlt := rn_lt (rnd x)
  refine ⟨fun c => absurd c (nI_nle hb hb2), fun _ => ⟨nI_ne0 hb hb2, _, rfl, ?_⟩⟩
  rw [e8, rn_is, pk_rem (by omega) hb hb2, e1]
  exact h
theorem c_Evenings_shuffle {P : xD → Prop} {x : Int32} (k0 : xk v = 10) (hR : tR D t τ) (hT : tOK τ) (hx : D.1 v 8 = x) (ht : t + 5 ≤ v ∨ t = v + 45 ∨ v + 50 ≤ t)
    (h : ∀ D', xOutS v D D' → rS D' (v + 33) (tN τ 0 * tN τ 1) → (∀ j, j < tN τ 0 * tN τ 1 → D'.1 (v + 34) j = nI ((shC τ x).1 j)) → D'.1 v 8 = (shC τ x).2 → P D') :
    xCv (d + 3) m_Evenings_shuffle [.ref v, .ref t] D P := by
  have bC := hT.2.2.1
  have bK := hT.2.1
  have bn := pack_le hT
  have bn2 := pack_ge hT
  have l34 : xl (v + 33 + 1) = 52 := cl_10_1 k0
  refine xCv_of y_Evenings_shuffle (Nat.le_of_ble_eq_true rfl) (s_Evenings_shuffle_0 k0 hR.1 ?_)
  refine c_Row_clear (ck_10_1 k0) ?_
  have o1 := (xOut_rsize D (v + 33) 0).toS (v := v) (by omega)
  have w1 : rS (rsize D (v + 33) 0) (v + 33) 0 := rS_rsize (Nat.zero_le _) (ck_10_1 k0)
  have x1 : (rsize D (v + 33) 0).1 v 8 = x := by rw [(xOut_rsize D (v + 33) 0).1 v (by omega)]; exact hx
  generalize rsize D (v + 33) 0 = D1 at o1 w1 x1 ⊢
  refine c_Table_number (j := 1) (hR.outS o1 ht) (by omega) ?_
  rw [hT.1 1 (by omega)]
  -- the places from the last one down
  have deal : ∀ i c y, i < tN τ 0 * tN τ 1 → ∀ D', xOutS v D D' → rS D' (v + 33) (tN τ 0 * tN τ 1) → (∀ j, j < tN τ 0 * tN τ 1 → D'.1 (v + 34) j = nI (c j)) → D'.1 v 8 = y → shf i c y = shC τ x → ∀ z,
      xPf (d + 3) m_Evenings_shuffle 62 [(0, .ref v), (1, .ref t), (2, .int z), (3, .int (nI i))] [] D' (fun r D' => r = none ∧ P D') := by
    intro i
    induction i with
    | zero =>
      intro c y hi D' o w hv hy hs z
      refine s_Evenings_shuffle_62 k0 hR.1 ⟨fun _ => ⟨rfl, h D' o w (fun j hj => ?_) ?_⟩, fun q => absurd (nI_lt (a := 0) (b := 1) (by omega) (by omega)) q⟩
      · rw [← hs, shf_0]; exact hv j hj
      · rw [← hs, shf_0]; exact hy
    | succ i ih =>
      intro c y hi D' o w hv hy hs z
      refine s_Evenings_shuffle_62 k0 hR.1 ⟨fun q => absurd q (nI_nlt (a := i + 1) (b := 1) (by omega) (by omega)), fun _ => ?_⟩
      rw [nI_1]
      refine c_Evenings_draw k0 hy (by omega) (by omega) ?_
      have hm := Nat.mod_lt (rn (rnd y)) (show 0 < i + 2 by omega)
      rw [show i + 1 + 1 = i + 2 from rfl]
      rw [shf_s] at hs
      generalize rn (rnd y) % (i + 2) = g at hm hs ⊢
      have o2 := xOut_f D' v 8 (rnd y)
      have w2 := w.out o2 (by omega)
      refine c_Row_swap w2 hi (show g < tN τ 0 * tN τ 1 by omega) ?_
      have c1 : (xu D'.1 v 8 (rnd y), D'.2).1 (v + 34) g = nI (c g) := by
        show xu D'.1 v 8 (rnd y) (v + 34) _ = _
        rw [xu_ne _ _ _ (show v + 34 ≠ v by omega)]; exact hv _ (by omega)
      have c2 : (xu D'.1 v 8 (rnd y), D'.2).1 (v + 34) (i + 1) = nI (c (i + 1)) := by
        show xu D'.1 v 8 (rnd y) (v + 34) _ = _
        rw [xu_ne _ _ _ (show v + 34 ≠ v by omega)]; exact hv _ hi
      rw [show v + 33 + 1 = v + 34 by omega, c1, c2, pk_m1]
      show xPf (d + 3) m_Evenings_shuffle 62 _ [] (xu (xu (xu D'.1 v 8 (rnd y)) (v + 34) (i + 1) (nI (c g))) (v + 34) g (nI (c (i + 1))), D'.2) _
      refine ih (swp c (i + 1) g) (rnd y) (by omega) (xu (xu (xu D'.1 v 8 (rnd y)) (v + 34) (i + 1) (nI (c g))) (v + 34) g (nI (c (i + 1))), D'.2) ⟨fun j a b e => ?_, fun k q => ?_, o.2.2⟩ (rS_of w ?_) (fun j hj => ?_) ?_ hs z
      · show xu (xu (xu D'.1 v 8 (rnd y)) (v + 34) (i + 1) _) (v + 34) _ _ j = _
        rw [xu_ne _ _ _ e, xu_ne _ _ _ e, xu_ne _ _ _ a]; exact o.1 j a b e
      · show xu (xu (xu D'.1 v 8 (rnd y)) (v + 34) (i + 1) _) (v + 34) _ _ v k = _
        rw [xu_ne _ _ _ (by omega), xu_ne _ _ _ (by omega), xu_self]
        unfold upd
        rw [if_neg q]; exact o.2.1 k q
      · show xu (xu (xu D'.1 v 8 (rnd y)) (v + 34) (i + 1) _) (v + 34) _ _ (v + 33) 1 = _
        rw [xu_ne _ _ _ (by omega), xu_ne _ _ _ (by omega), xu_ne _ _ _ (by omega)]
      · show xu (xu (xu D'.1 v 8 (rnd y)) (v + 34) (i + 1) _) (v + 34) _ _ (v + 34) j = _
        rw [xu_self, xu_self, xu_ne _ _ _ (show v + 34 ≠ v by omega)]
        unfold upd swp
        by_cases q1 : j = g
        · rw [if_pos q1, if_pos q1]
        · rw [if_neg q1, if_neg q1]
          by_cases q2 : j = i + 1
          · rw [if_pos q2, if_pos q2]
          · rw [if_neg q2, if_neg q2]; exact hv j hj
      · show xu (xu (xu D'.1 v 8 (rnd y)) (v + 34) (i + 1) _) (v + 34) _ _ v 8 = _
        rw [xu_ne _ _ _ (by omega), xu_ne _ _ _ (by omega), xu_self]
        simp [upd]
  -- KIND by KIND
  have lay : ∀ m κ, κ + m = tN τ 0 → ∀ D', xOutS v D D' → rS D' (v + 33) (κ * tN τ 1) → (∀ j, j < κ * tN τ 1 → D'.1 (v + 34) j = nI (j / tN τ 1)) → D'.1 v 8 = x →
      xPf (d + 3) m_Evenings_shuffle 15 [(0, .ref v), (1, .ref t), (2, .int (nI (tN τ 1))), (3, .int (nI κ))] [] D' (fun r D' => r = none ∧ P D') := by
    intro m
    induction m with
    | zero =>
      intro κ hκ D' o w hv hy
      have eκ : κ = tN τ 0 := by omega
      rw [eκ] at w hv
      refine s_Evenings_shuffle_15 k0 hR.1 (c_Table_kinds (hR.outS o ht) hT ⟨fun _ => ?_, fun q => absurd (nI_le (by omega) (by omega)) q⟩)
      refine c_Row_size w ?_
      rw [show (1 : Int32) = nI 1 from rfl, pk_sub (by omega)]
      exact deal _ (fun k => k / tN τ 1) x (by omega) D' o w hv hy rfl _
    | succ m ih =>
      intro κ hκ D' o w hv hy
      refine s_Evenings_shuffle_15 k0 hR.1 (c_Table_kinds (hR.outS o ht) hT ⟨fun q => absurd q (nI_ge (by omega) (by omega)), fun _ => ?_⟩)
      have hmul : κ * tN τ 1 + tN τ 1 ≤ tN τ 0 * tN τ 1 := by
        have : (κ + 1) * tN τ 1 ≤ tN τ 0 * tN τ 1 := Nat.mul_le_mul_right _ (by omega)
        rw [Nat.succ_mul] at this; exact this
      have inner : ∀ m2 i, i + m2 = tN τ 1 → ∀ D', xOutS v D D' → rS D' (v + 33) (κ * tN τ 1 + i) → (∀ j, j < κ * tN τ 1 + i → D'.1 (v + 34) j = nI (j / tN τ 1)) → D'.1 v 8 = x →
          xPf (d + 3) m_Evenings_shuffle 26 [(0, .ref v), (1, .ref t), (2, .int (nI (tN τ 1))), (3, .int (nI κ)), (4, .int (nI i))] [] D' (fun r D' => r = none ∧ P D') := by
        intro m2
        induction m2 with
        | zero =>
          intro i hi D' o w hv hy
          have ei : i = tN τ 1 := by omega
          rw [ei, ← Nat.succ_mul] at w hv
          refine s_Evenings_shuffle_26 k0 hR.1 ⟨fun _ => ?_, fun q => absurd (nI_le (by omega) (by omega)) q⟩
          rw [nI_1]
          exact ih (κ + 1) (by omega) D' o w hv hy
        | succ m2 ihi =>
          intro i hi D' o w hv hy
          refine s_Evenings_shuffle_26 k0 hR.1 ⟨fun q => absurd q (nI_ge (by omega) (by omega)), fun _ => ?_⟩
          refine c_Row_push w ?_
          have ep : rpush D' (v + 33) (κ * tN τ 1 + i) (nI κ) = (xu (xu D'.1 (v + 34) (κ * tN τ 1 + i) (nI κ)) (v + 33) 1 (nI (κ * tN τ 1 + i + 1)), D'.2) := by
            unfold rpush; rw [if_pos (by omega)]
          rw [ep, nI_1]
          refine ihi (i + 1) (by omega) (xu (xu D'.1 (v + 34) (κ * tN τ 1 + i) (nI κ)) (v + 33) 1 (nI (κ * tN τ 1 + i + 1)), D'.2) ⟨fun j a b e => ?_, fun k q => ?_, o.2.2⟩ ⟨?_, by omega, w.2.2⟩ (fun j hj => ?_) ?_
          · show xu (xu D'.1 (v + 34) _ _) (v + 33) 1 _ j = _
            rw [xu_ne _ _ _ b, xu_ne _ _ _ e]; exact o.1 j a b e
          · show xu (xu D'.1 (v + 34) _ _) (v + 33) 1 _ v k = _
            rw [xu_ne _ _ _ (by omega), xu_ne _ _ _ (by omega)]; exact o.2.1 k q
          · show xu (xu D'.1 (v + 34) _ _) (v + 33) 1 _ (v + 33) 1 = _
            rw [xu_self]; simp [upd]; rfl
          · show xu (xu D'.1 (v + 34) _ _) (v + 33) 1 _ (v + 34) j = _
            rw [xu_ne _ _ _ (by omega), xu_self]
            unfold upd
            by_cases q : j = κ * tN τ 1 + i
            · rw [if_pos q, q]
              congr 1
              rw [Nat.mul_comm, Nat.mul_add_div (by omega), Nat.div_eq_of_lt (by omega), Nat.add_zero]
            · rw [if_neg q]; exact hv j (by omega)
          · show xu (xu D'.1 (v + 34) _ _) (v + 33) 1 _ v 8 = _
            rw [xu_ne _ _ _ (by omega), xu_ne _ _ _ (by omega)]; exact hy
      exact inner (tN τ 1) 0 (by omega) D' o w hv hy
  exact lay (tN τ 0) 0 (by omega) D1 o1 (by rw [Nat.zero_mul]; exact w1) (fun j hj => by rw [Nat.zero_mul] at hj; omega) x1
end SHUF
