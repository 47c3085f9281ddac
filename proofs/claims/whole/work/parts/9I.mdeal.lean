/-! The reference's deal: who holds what, what waits. -/
def mQ (N p : Nat) : Nat := if p = N then 6 else p
theorem mQ_lt {N p : Nat} (hN : N ≤ 6) (hp : p ≤ N) : mQ N p < 7 := by
  unfold mQ; split <;> omega
theorem mQ_p {N p : Nat} (hp : p < N) : mQ N p = p := if_neg (by omega)
theorem mQ_N {N : Nat} : mQ N N = 6 := if_pos rfl
theorem mQ_inj {N p q : Nat} (hN : N ≤ 6) (hp : p ≤ N) (hq : q ≤ N) (e : mQ N p = mQ N q) : p = q := by
  unfold mQ at e
  split at e <;> split at e <;> omega
def mDl (D : xD) (N : Nat) (δ : dS) : Prop :=
  (∀ p, p < N → ∀ k, k < 13 → D.1 346 (13 * p + k) = nI (δ.1 p k)) ∧ (∀ p, p < N → D.1 347 p = nI (δ.2.1 p)) ∧ ∀ p, p ≤ N → mLn D (mQ N p) (δ.2.2 p)
theorem mDl.at {D : xD} {N : Nat} {δ δ' : dS} (q : δ = δ') (h : mDl D N δ) : mDl D N δ' := q ▸ h
theorem mDl.fr {D D' : xD} {lo hi f g N : Nat} {δ : dS} (h : mDl D N δ) (o : mF lo hi f g D D') (r : 350 < lo ∨ hi ≤ 346) : mDl D' N δ :=
  ⟨fun p hp k hk => by rw [(o.1 346 (by omega) (by omega)).1]; exact h.1 p hp k hk, fun p hp => by rw [(o.1 347 (by omega) (by omega)).1]; exact h.2.1 p hp, fun p hp => (h.2.2 p hp).fr o (by omega)⟩
theorem ix13' {p k : Nat} : (13 : Int32) * nI p + nI k = nI (13 * p + k) := by
  rw [show (13 : Int32) = nI 13 from rfl, pk_mul, nI_add]
section MDEAL
variable {d : Nat} {D : xD} {N A K n : Nat} {δ : dS}
theorem mDl_push {D' : xD} {p c : Nat} (hN : N ≤ 6) (hp : p ≤ N) (hD : mDl D N δ) (o : mF 348 351 0 0 D D') (l1 : mLn D' (mQ N p) (δ.2.2 p ++ [c])) (l2 : ∀ q' l', q' < 7 → q' ≠ mQ N p → mLn D q' l' → mLn D' q' l') :
    mDl D' N (δ.1, δ.2.1, fun i => if i = p then δ.2.2 i ++ [c] else δ.2.2 i) := by
  refine ⟨fun p hp k hk => by rw [(o.1 346 (by omega) (by omega)).1]; exact hD.1 p hp k hk, fun p hp => by rw [(o.1 347 (by omega) (by omega)).1]; exact hD.2.1 p hp, fun i hi => ?_⟩
  show mLn D' _ (if i = p then δ.2.2 i ++ [c] else δ.2.2 i)
  by_cases q : i = p
  · rw [if_pos q, q]; exact l1
  · rw [if_neg q]
    exact l2 _ _ (mQ_lt hN hi) (fun z => q (mQ_inj hN hi hp z)) (hD.2.2 i hi)
/-- a card of the queue comes -/
theorem m_take1 {P : Int32 → xD → Prop} {p : Nat} (hD : mDl D N δ) (hN : N ≤ 6) (hp : p < N) (h : ∀ D', mF 346 351 0 0 D D' → mDl D' N (dTake1 p δ).2 → P (oI (dTake1 p δ).1) D') :
    vp_in (nI p) (xl (325 + 25)) ∧ (¬ D.1 (325 + 25) (nI p).toNatClampNeg = 0 → xCi (d + 1) m_M_pop [.ref 325, .int (nI p)] D (fun r2 D1 => vp_in ((13 : Int32) * nI p + r2) (xl (325 + 21)) ∧ vp_in ((13 : Int32) * nI p + r2) (xl (325 + 21)) ∧ ∀ D3 : xD, D3 = (xu D1.1 (325 + 21) ((13 : Int32) * nI p + r2).toNatClampNeg (D1.1 (325 + 21) ((13 : Int32) * nI p + r2).toNatClampNeg + (1 : Int32)), D1.2) → vp_in (nI p) (xl (325 + 22)) ∧ vp_in (nI p) (xl (325 + 22)) ∧ ∀ D4 : xD, D4 = (xu D3.1 (325 + 22) (nI p).toNatClampNeg (D3.1 (325 + 22) (nI p).toNatClampNeg + (1 : Int32)), D3.2) → ∃ v, some (Value.int r2) = some (.int v) ∧ P v D4)) ∧
      (D.1 (325 + 25) (nI p).toNatClampNeg = 0 → ∃ v, some (Value.int (-1 : Int32)) = some (.int v) ∧ P v D) := by
  have l21 : xl (325 + 21) = 78 := cl_13_41 xk_M
  have l22 : xl (325 + 22) = 6 := cl_13_42 xk_M
  have l25 : xl (325 + 25) = 7 := cl_13_45 xk_M
  have hq := hD.2.2 p (by omega)
  rw [mQ_p hp] at hq
  rw [nI_clamp (n := p) (by omega)]
  refine ⟨by rw [l25]; exact vp_in_nI (by omega) (by omega), fun z => ?_, fun z => ⟨_, rfl, ?_⟩⟩
  · cases hl : δ.2.2 p with
    | nil =>
      rw [hl] at hq
      exact absurd hq.1 z
    | cons c l =>
      rw [hl] at hq
      have hc : c < 13 := hq.mem List.mem_cons_self
      have e1 : dTake1 p δ = (some c, dGot p c l δ) := by unfold dTake1; rw [hl]
      rw [e1] at h
      refine c_M_pop (by omega) hq (fun D1 o1 l1 l2 => ?_)
      rw [ix13', nI_clamp (n := 13 * p + c) (by omega)]
      have i21 : vp_in (nI (13 * p + c)) (xl (325 + 21)) := by rw [l21]; exact vp_in_nI (by omega) (by omega)
      have i22 : vp_in (nI p) (xl (325 + 22)) := by rw [l22]; exact vp_in_nI (by omega) (by omega)
      refine ⟨i21, i21, fun D3 e3 => ⟨i22, i22, fun D4 e4 => ⟨_, rfl, ?_⟩⟩⟩
      obtain ⟨o3, v3⟩ := ma (by omega) e3
      obtain ⟨o4, v4⟩ := ma (by omega) e4
      have w1 : D1.1 346 (13 * p + c) = nI (δ.1 p c) := by rw [(o1.1 346 (by omega) (by omega)).1]; exact hD.1 p hp c hc
      have w2 : D3.1 347 p = nI (δ.2.1 p) := by rw [(o3.1 347 (by omega) (by omega)).1, (o1.1 347 (by omega) (by omega)).1]; exact hD.2.1 p hp
      rw [show D1.1 (325 + 21) (13 * p + c) = nI (δ.1 p c) from w1, nI_1] at v3
      rw [show D3.1 (325 + 22) p = nI (δ.2.1 p) from w2, nI_1] at v4
      have v3' : ∀ j, D4.1 346 j = if j = 13 * p + c then nI (δ.1 p c + 1) else D.1 346 j := fun j => by
        rw [(o4.1 346 (by omega) (by omega)).1, ← (o1.1 346 (by omega) (by omega)).1]; exact v3 j
      have v4' : ∀ j, D4.1 347 j = if j = p then nI (δ.2.1 p + 1) else D.1 347 j := fun j => by
        rw [← (o1.1 347 (by omega) (by omega)).1, ← (o3.1 347 (by omega) (by omega)).1]; exact v4 j
      refine h D4 ((o1.m (by omega) (by omega)).trans ((o3.m (by omega) (by omega)).trans (o4.m (by omega) (by omega)))) ⟨fun i hi k hk => ?_, fun i hi => ?_, fun i hi => ?_⟩
      · show D4.1 346 (13 * i + k) = nI (if i = p ∧ k = c then δ.1 i k + 1 else δ.1 i k)
        rw [v3']
        by_cases q : i = p ∧ k = c
        · rw [if_pos q, q.1, q.2, if_pos rfl]
        · rw [if_neg q, if_neg (by omega)]; exact hD.1 i hi k hk
      · show D4.1 347 i = nI (if i = p then δ.2.1 i + 1 else δ.2.1 i)
        rw [v4']
        by_cases q : i = p
        · rw [if_pos q, if_pos q, q]
        · rw [if_neg q, if_neg q]; exact hD.2.1 i hi
      · show mLn D4 (mQ N i) (if i = p then l else δ.2.2 i)
        have : mLn D1 (mQ N i) (if i = p then l else δ.2.2 i) := by
          by_cases q : i = p
          · rw [if_pos q, q, mQ_p hp]; exact l1
          · rw [if_neg q]
            exact l2 _ _ (mQ_lt hN hi) (fun z => q (mQ_inj hN hi (by omega) (z.trans (mQ_p hp).symm))) (hD.2.2 i hi)
        exact (this.fr o3 (by omega)).fr o4 (by omega)
  · cases hl : δ.2.2 p with
    | nil =>
      have e1 : dTake1 p δ = (none, δ) := by unfold dTake1; rw [hl]
      rw [e1] at h
      exact h D mF.rfl' hD
    | cons c l =>
      rw [hl] at hq
      have := hq.2.1
      exact absurd (hq.1.symm.trans z) (nI_ne0 (by simp) (by omega))
theorem c_M_comes {P : Int32 → xD → Prop} {p : Nat} (hD : mDl D N δ) (hN : N ≤ 6) (hp : p < N) (h : ∀ D', mF 346 351 0 0 D D' → mDl D' N (dTake N p δ).2 → P (oI (dTake N p δ).1) D') : xCi (d + 2) m_M_comes [.ref 325, .int (nI p)] D P := by
  have l25 : xl (325 + 25) = 7 := cl_13_45 xk_M
  have i25 : ∀ q, q < 7 → vp_in (nI q) (xl (325 + 25)) := fun q hq => by rw [l25]; exact vp_in_nI hq (by omega)
  refine xCi_of y_M_comes (Nat.le_of_ble_eq_true rfl) (s_M_comes_0 xk_M ⟨fun c => ?_, fun c => ⟨i25 0 (by omega), fun c1 => ?_, fun c1 => ?_⟩⟩)
  · have e1 : dTake N p δ = dTake1 p δ := by
      unfold dTake dSw
      rw [if_neg (fun q => c (by rw [q.1]; rfl))]
    rw [e1] at h
    exact m_take1 hD hN hp h
  · have p0 : p = 0 := by
      apply Decidable.byContradiction
      intro q
      exact nI_ne0 (by omega) (by omega) c
    subst p0
    have q0 := hD.2.2 0 (by omega)
    rw [mQ_p hp] at q0
    have e1 : dTake N 0 δ = dTake1 0 δ := by
      unfold dTake dSw
      rw [if_neg (fun q => c1 (by rw [q.2] at q0; exact q0.1))]
    rw [e1] at h
    exact m_take1 hD hN hp h
  · have p0 : p = 0 := by
      apply Decidable.byContradiction
      intro q
      exact nI_ne0 (by omega) (by omega) c
    subst p0
    have q0 := hD.2.2 0 (by omega)
    rw [mQ_p hp] at q0
    have qN := hD.2.2 N (Nat.le_refl _)
    rw [mQ_N] at qN
    have hnil : δ.2.2 0 = [] := by
      cases hx : δ.2.2 0 with
      | nil => rfl
      | cons a l =>
        rw [hx] at q0
        have := q0.2.1
        exact absurd (q0.1.symm.trans c1) (nI_ne0 (by simp) (by omega))
    have e1 : dTake N 0 δ = dTake1 0 (δ.1, δ.2.1, fun i => if i = 0 then δ.2.2 N else if i = N then [] else δ.2.2 i) := by
      unfold dTake dSw
      rw [if_pos ⟨rfl, hnil⟩]
    rw [e1] at h
    have hl52 := qN.2.1
    have key : ∀ r m D', m ++ r = δ.2.2 N → mF 346 351 0 0 D D' → mDl D' N (δ.1, δ.2.1, fun i => if i = 0 then m else if i = N then r else δ.2.2 i) → xPf (d + 2) m_M_comes 13 [(0, .ref 325), (1, .int (nI 0))] [] D' (fun r D' => ∃ v, r = some (.int v) ∧ P v D') := by
      intro r
      induction r with
      | nil =>
        intro m D' em o hD'
        rw [List.append_nil] at em
        have q6 := hD'.2.2 N (Nat.le_refl _)
        rw [mQ_N] at q6
        have q6' : mLn D' 6 [] := by
          have q6 : mLn D' 6 (if N = 0 then m else if N = N then [] else δ.2.2 N) := q6
          rw [if_neg (by omega), if_pos rfl] at q6; exact q6
        refine s_M_comes_13 xk_M ⟨i25 6 (by omega), fun _ => ?_, fun z => absurd (by rw [show D'.1 (325 + 25) ((6 : Int32)).toNatClampNeg = 0 from q6'.1]; decide) z⟩
        rw [em] at hD'
        exact m_take1 hD' hN hp (fun D2 o2 hD2 => h D2 (o.trans o2) hD2)
      | cons c r ih =>
        intro m D' em o hD'
        have q6 := hD'.2.2 N (Nat.le_refl _)
        rw [mQ_N] at q6
        have q6' : mLn D' 6 (c :: r) := by
          have q6 : mLn D' 6 (if N = 0 then m else if N = N then c :: r else δ.2.2 N) := q6
          rw [if_neg (by omega), if_pos rfl] at q6; exact q6
        have q00 : mLn D' 0 m := by
          have := hD'.2.2 0 (by omega)
          rw [mQ_p hp] at this
          exact this
        have hlr := q6'.2.1
        have hlm : m.length + (r.length + 1) = (δ.2.2 N).length := by rw [← em, List.length_append, List.length_cons]
        refine s_M_comes_13 xk_M ⟨i25 6 (by omega), fun z => ?_, fun z => ?_⟩
        · rw [show D'.1 (325 + 25) ((6 : Int32)).toNatClampNeg = nI (r.length + 1) from q6'.1] at z
          exact absurd z (nI_nle (by omega) (by simp at hlr; omega))
        · refine c_M_pop (q := 6) (by omega) q6' (fun D1 o1 l1 l2 => ?_)
          refine c_M_push (q := 0) (by omega) (l2 0 m (by omega) (by omega) q00) (by omega) (q6'.mem List.mem_cons_self) (fun D2 o2 g1 g2 => ?_)
          refine ih (m ++ [c]) D2 (by rw [← em]; simp) (o.trans ((o1.m (by omega) (by omega)).trans (o2.m (by omega) (by omega)))) ?_
          refine ⟨fun p hp k hk => ?_, fun p hp => ?_, fun i hi => ?_⟩
          · rw [(o2.1 346 (by omega) (by omega)).1, (o1.1 346 (by omega) (by omega)).1]; exact hD'.1 p hp k hk
          · rw [(o2.1 347 (by omega) (by omega)).1, (o1.1 347 (by omega) (by omega)).1]; exact hD'.2.1 p hp
          · show mLn D2 (mQ N i) (if i = 0 then m ++ [c] else if i = N then r else δ.2.2 i)
            by_cases z0 : i = 0
            · rw [if_pos z0, z0, mQ_p hp]; exact g1
            · rw [if_neg z0]
              have ne0 : mQ N i ≠ 0 := fun z => z0 (mQ_inj hN hi (by omega) (z.trans (mQ_p hp).symm))
              refine g2 _ _ (mQ_lt hN hi) ne0 ?_
              by_cases zN : i = N
              · rw [if_pos zN, zN, mQ_N]; exact l1
              · rw [if_neg zN]
                refine l2 _ _ (mQ_lt hN hi) (fun z => zN (mQ_inj hN hi (Nat.le_refl _) (z.trans mQ_N.symm))) ?_
                have := hD'.2.2 i hi
                have this : mLn D' (mQ N i) (if i = 0 then m else if i = N then c :: r else δ.2.2 i) := this
                rw [if_neg z0, if_neg zN] at this; exact this
    refine key (δ.2.2 N) [] D rfl mF.rfl' ?_
    refine mDl.at ?_ hD
    refine Prod.ext rfl (Prod.ext rfl (funext fun i => ?_))
    show δ.2.2 i = if i = 0 then [] else if i = N then δ.2.2 N else δ.2.2 i
    by_cases z0 : i = 0
    · rw [if_pos z0, z0]; exact hnil
    · rw [if_neg z0]
      by_cases zN : i = N
      · rw [if_pos zN, zN]
      · rw [if_neg zN]
theorem c_M_goesOn {P : xD → Prop} {p c : Nat} (hD : mDl D N δ) (e31 : D.1 325 31 = nI N) (hN : N ≤ 6) (hp : p < N) (hc : c < 13) (h1 : 0 < δ.1 p c) (h2 : 0 < δ.2.1 p) (hlen : (δ.2.2 (p + 1)).length < 52)
    (h : ∀ D', mF 346 351 0 0 D D' → mDl D' N (dHand p c δ) → P D') : xCv (d + 2) m_M_goesOn [.ref 325, .int (nI p), .int (nI c)] D P := by
  have l21 : xl (325 + 21) = 78 := cl_13_41 xk_M
  have l22 : xl (325 + 22) = 6 := cl_13_42 xk_M
  have i21 : vp_in (nI (13 * p + c)) (xl (325 + 21)) := by rw [l21]; exact vp_in_nI (by omega) (by omega)
  have i22 : vp_in (nI p) (xl (325 + 22)) := by rw [l22]; exact vp_in_nI (by omega) (by omega)
  refine xCv_of y_M_goesOn (Nat.le_of_ble_eq_true rfl) (s_M_goesOn_0 xk_M ?_)
  rw [ix13', nI_clamp (n := 13 * p + c) (by omega), nI_clamp (n := p) (by omega)]
  refine ⟨i21, i21, fun D1 e1 => ⟨i22, i22, fun D2 e2 => ?_⟩⟩
  obtain ⟨o1, v1⟩ := ma (by omega) e1
  obtain ⟨o2, v2⟩ := ma (by omega) e2
  have w1 : D.1 346 (13 * p + c) = nI (δ.1 p c - 1 + 1) := by rw [hD.1 p hp c hc, Nat.sub_add_cancel h1]
  have w2 : D1.1 347 p = nI (δ.2.1 p - 1 + 1) := by rw [(o1.1 347 (by omega) (by omega)).1, hD.2.1 p hp, Nat.sub_add_cancel h2]
  rw [show D.1 (325 + 21) (13 * p + c) = nI (δ.1 p c - 1 + 1) from w1, nI_pred] at v1
  rw [show D1.1 (325 + 22) p = nI (δ.2.1 p - 1 + 1) from w2, nI_pred] at v2
  have v1' : ∀ j, D2.1 346 j = if j = 13 * p + c then nI (δ.1 p c - 1) else D.1 346 j := fun j => by
    rw [(o2.1 346 (by omega) (by omega)).1]; exact v1 j
  have v2' : ∀ j, D2.1 347 j = if j = p then nI (δ.2.1 p - 1) else D.1 347 j := fun j => by
    rw [← (o1.1 347 (by omega) (by omega)).1]; exact v2 j
  have hD2 : mDl D2 N (fun i k => if i = p ∧ k = c then δ.1 i k - 1 else δ.1 i k, fun i => if i = p then δ.2.1 i - 1 else δ.2.1 i, δ.2.2) := by
    refine ⟨fun i hi k hk => ?_, fun i hi => ?_, fun i hi => ((hD.2.2 i hi).fr o1 (by omega)).fr o2 (by omega)⟩
    · show D2.1 346 (13 * i + k) = nI (if i = p ∧ k = c then δ.1 i k - 1 else δ.1 i k)
      rw [v1']
      by_cases q : i = p ∧ k = c
      · rw [if_pos q, q.1, q.2, if_pos rfl]
      · rw [if_neg q, if_neg (by omega)]; exact hD.1 i hi k hk
    · show D2.1 347 i = nI (if i = p then δ.2.1 i - 1 else δ.2.1 i)
      rw [v2']
      by_cases q : i = p
      · rw [if_pos q, if_pos q, q]
      · rw [if_neg q, if_neg q]; exact hD.2.1 i hi
  have o12 : mF 346 351 0 0 D D2 := (o1.m (by omega) (by omega)).trans (o2.m (by omega) (by omega))
  have e31' : D2.1 325 31 = nI N := by rw [o12.2 31 (by omega)]; exact e31
  rw [e31', show nI N - (1 : Int32) = nI (N - 1) from pk_sub (b := 1) (by omega), nI_1]
  have fin : ∀ D3, mF 348 351 0 0 D2 D3 → mLn D3 (mQ N (p + 1)) (δ.2.2 (p + 1) ++ [c]) → (∀ q' l', q' < 7 → q' ≠ mQ N (p + 1) → mLn D2 q' l' → mLn D3 q' l') → P D3 := by
    intro D3 o3 l1 l2
    exact h D3 (o12.trans (o3.m (by omega) (by omega))) (mDl_push (p := p + 1) hN (by omega) hD2 o3 l1 l2)
  have hq := hD2.2.2 (p + 1) (by omega)
  by_cases z : p + 1 = N
  · refine ⟨fun y => absurd (by rw [show p = N - 1 by omega]) y, fun _ => ?_⟩
    have e6 : mQ N (p + 1) = 6 := if_pos z
    rw [e6] at hq fin
    exact c_M_push (q := 6) (by omega) hq hlen hc (fun D3 o3 l1 l2 => ⟨rfl, fin D3 o3 l1 l2⟩)
  · refine ⟨fun _ => ?_, fun y => absurd ((nI_eq (by omega) (by omega)).mp y) (by omega)⟩
    have e6 : mQ N (p + 1) = p + 1 := if_neg z
    rw [e6] at hq fin
    exact c_M_push (q := p + 1) (by omega) hq hlen hc (fun D3 o3 l1 l2 => ⟨rfl, fin D3 o3 l1 l2⟩)
theorem c_M_areAlike {P : Int32 → xD → Prop} {p : Nat} (hD : mDl D N δ) (hW : dW N K n δ) (e27 : D.1 325 27 = nI K) (e29 : D.1 325 29 = nI A) (hN : N ≤ 6) (hK : K ≤ 13) (hA : A ≤ 4) (hp : p < N) (h1 : dAl A K δ p → P 1 D) (h0 : ¬ dAl A K δ p → P 0 D) : xCi (d + 1) m_M_areAlike [.ref 325, .int (nI p)] D P := by
  have l21 : xl (325 + 21) = 78 := cl_13_41 xk_M
  have l22 : xl (325 + 22) = 6 := cl_13_42 xk_M
  have bs := hW.sz hp
  refine xCi_of y_M_areAlike (Nat.le_of_ble_eq_true rfl) (s_M_areAlike_0 xk_M ?_)
  have key : ∀ m k, k + m = K → ∀ b : Int32, ((b = 0 ∧ ∀ i, i < k → ¬ δ.1 p i = A) ∨ (b = 1 ∧ ∃ i, i < K ∧ δ.1 p i = A)) → xPf (d + 1) m_M_areAlike 4 [(0, .ref 325), (1, .int (nI p)), (2, .int b), (3, .int (nI k))] [] D (fun r D' => ∃ v, r = some (.int v) ∧ P v D') := by
    intro m
    induction m with
    | zero =>
      intro k hk b hb
      refine s_M_areAlike_4 xk_M ?_
      rw [e27, e29, nI_clamp (n := p) (by omega), show D.1 (325 + 22) p = nI (δ.2.1 p) from hD.2.1 p hp]
      refine ⟨fun _ => ⟨fun z => ⟨_, rfl, h0 (fun y => ?_)⟩, fun z => ⟨by rw [l22]; exact vp_in_nI (by omega) (by omega), fun y => ⟨_, rfl, h0 (fun x => y (by rw [x.1]))⟩, fun y => ⟨_, rfl, h1 ?_⟩⟩⟩, fun z => absurd (nI_le (by omega) (by omega)) z⟩
      · rcases hb with ⟨-, c⟩ | ⟨c, -⟩
        · obtain ⟨-, i, hi, e⟩ := y
          exact c i (by omega) e
        · rw [c] at z; exact absurd z (by decide)
      · rcases hb with ⟨c, -⟩ | ⟨-, c⟩
        · exact absurd c z
        · exact ⟨(nI_eq (by omega) (by omega)).mp y, c⟩
    | succ m ih =>
      intro k hk b hb
      refine s_M_areAlike_4 xk_M ?_
      have bh := hW.hd hp (show k < 13 by omega)
      rw [e27, e29, ix13', nI_clamp (n := 13 * p + k) (by omega), show D.1 (325 + 21) (13 * p + k) = nI (δ.1 p k) from hD.1 p hp k (by omega), nI_1]
      refine ⟨fun z => absurd z (nI_ge (by omega) (by omega)), fun _ => ⟨fun z => ih (k + 1) (by omega) 1 (Or.inr ⟨rfl, ?_⟩), fun z => ⟨by rw [l21]; exact vp_in_nI (by omega) (by omega), fun y => ih (k + 1) (by omega) 0 (Or.inl ⟨rfl, ?_⟩), fun y => ih (k + 1) (by omega) 1 (Or.inr ⟨rfl, k, by omega, (nI_eq (by omega) (by omega)).mp y⟩)⟩⟩⟩
      · rcases hb with ⟨c, -⟩ | ⟨-, c⟩
        · exact absurd c z
        · exact c
      · rcases hb with ⟨-, c⟩ | ⟨c, -⟩
        · intro i hi
          by_cases q : i = k
          · rw [q]; exact fun x => y (by rw [x])
          · exact c i (by omega)
        · rw [c] at z; exact absurd z (by decide)
  exact key K 0 (by omega) 0 (Or.inl ⟨rfl, fun i hi => absurd hi (Nat.not_lt_zero _)⟩)
end MDEAL
