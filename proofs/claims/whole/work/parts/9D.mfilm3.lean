/-! The reference's answers of films. -/
theorem short_6 : ∀ N, N ≤ 6 → ∀ x, x < 64 → (N ≤ onesN (x % 2 ^ N) ↔ x % 2 ^ N = 2 ^ N - 1) := by decide +kernel
section MFILM3
variable {d : Nat} {D : xD} {g : gS} {φ τ : Nat → Int32} {N : Nat}
/-- one of N from lo on -/
theorem c_M_inR {P : Int32 → xD → Prop} {x a b : Int32} (lo N : Nat) (hl : lo < 2 ^ 19) (hN : N < 2 ^ 19) (ea : a = nI lo) (eb : b + 1 = nI (lo + N)) (h1 : ∀ p, p < N → x = nI (lo + p) → P 1 D) (h0 : (∀ p, p < N → x ≠ nI (lo + p)) → P 0 D) : xCi (d + 1) m_M_in [.int x, .int a, .int b] D P := by
  subst ea
  have eb' : b = nI (lo + N) - 1 := by rw [← eb, Int32.add_sub_cancel]
  subst eb'
  refine c_M_in (fun c => h0 (fun p hp e => ?_)) (fun c c1 => ?_)
  · subst e
    rcases c with y | y
    · have := (nI_ltI (by omega) (by omega)).mp y; omega
    · have := (sub1_lt (by omega) (nI_pos (by omega))).mp y
      have := (nI_leI (by omega) (by omega)).mp this; omega
  · have c0 : ¬ x < 0 := fun y => c (neg_lt y (by omega))
    obtain ⟨j, hj, rfl⟩ := nI_of c0
    have a1 : lo ≤ j := Nat.le_of_not_lt (fun y => c (nI_lt y (by omega)))
    have a2 : j < lo + N := Nat.lt_of_not_le (fun y => c1 ((sub1_lt (by omega) c0).mpr (nI_le y hj)))
    exact h1 (j - lo) (by omega) (by congr 1; omega)
theorem per_10 {p : Nat} (hN : N ≤ 6) (hp : p < N) : perAsk N (nI (10 + p)) = some p := by
  unfold perAsk
  rw [if_neg (show ¬ nI (10 + p) < (10 : Int32) from nI_nlt (a := 10 + p) (b := 10) (by omega) (by omega)), if_pos (show nI (10 + p) < (20 : Int32) from nI_lt (b := 20) (by omega) (by omega)), show nI (10 + p) - (10 : Int32) = nI (10 + p - 10) from pk_sub (b := 10) (by omega), Nat.add_sub_cancel_left]
  exact slot_nI hp (by omega)
theorem per_20 {p : Nat} (hN : N ≤ 6) (hp : p < N) : perAsk N (nI (20 + p)) = some p := by
  unfold perAsk
  rw [if_neg (show ¬ nI (20 + p) < (10 : Int32) from nI_nlt (a := 20 + p) (b := 10) (by omega) (by omega)), if_neg (show ¬ nI (20 + p) < (20 : Int32) from nI_nlt (a := 20 + p) (b := 20) (by omega) (by omega)), show nI (20 + p) - (20 : Int32) = nI (20 + p - 20) from pk_sub (b := 20) (by omega), Nat.add_sub_cancel_left]
  exact slot_nI hp (by omega)
theorem per_no {x : Int32} (hN : N ≤ 6) (h1 : ∀ p, p < N → x ≠ nI (10 + p)) (h2 : ∀ p, p < N → x ≠ nI (20 + p)) : perAsk N x = none := by
  unfold perAsk
  by_cases c : x < 10
  · rw [if_pos c]
  · rw [if_neg c]
    have c0 : ¬ x < 0 := fun y => c (neg_lt (k := 10) y (by omega))
    obtain ⟨j, hj, rfl⟩ := nI_of c0
    have j10 : 10 ≤ j := Nat.le_of_not_lt (fun y => c (nI_lt (b := 10) y (by omega)))
    by_cases c2 : nI j < 20
    · rw [if_pos c2]
      rw [show nI j - (10 : Int32) = nI (j - 10) from pk_sub (b := 10) j10]
      cases hs : slotOf N (nI (j - 10)) with
      | none => rfl
      | some k =>
        obtain ⟨hk, e⟩ := slot_some hs
        have := (nI_eq (by omega) (by omega)).mp e
        exact absurd (by congr 1; omega) (h1 k hk)
    · rw [if_neg c2]
      have j20 : 20 ≤ j := Nat.le_of_not_lt (fun y => c2 (nI_lt (b := 20) y (by omega)))
      rw [show nI j - (20 : Int32) = nI (j - 20) from pk_sub (b := 20) j20]
      cases hs : slotOf N (nI (j - 20)) with
      | none => rfl
      | some k =>
        obtain ⟨hk, e⟩ := slot_some hs
        have := (nI_eq (by omega) (by omega)).mp e
        exact absurd (by congr 1; omega) (h2 k hk)
theorem c_M_lies {P : Int32 → xD → Prop} (hO : fOK φ) (H : mFm D φ) (h : P (nI (bsN (fLieB φ) (tN φ 0))) D) : xCi (d + 2) m_M_lies [.ref 325] D P := by
  have h10 := hO.2.1
  refine xCi_of y_M_lies (Nat.le_of_ble_eq_true rfl) (s_M_lies_0 xk_M ?_)
  have key : ∀ m k, k + m = tN φ 0 → 1 ≤ k → xPf (d + 2) m_M_lies 4 [(0, .ref 325), (1, .int (nI (bsN (fLieB φ) k))), (2, .int (nI k))] [] D (fun r D' => ∃ v, r = some (.int v) ∧ P v D') := by
    intro m
    induction m with
    | zero =>
      intro k hk _
      refine s_M_lies_4 xk_M (c_M_frames H hO ⟨fun _ => ⟨_, rfl, ?_⟩, fun z => absurd (nI_le (by omega) (by omega)) z⟩)
      rw [show k = tN φ 0 by omega]; exact h
    | succ m ih =>
      intro k hk h1
      have nx := ih (k + 1) (by omega) (by omega)
      rw [bsN] at nx
      obtain ⟨k', rfl⟩ : ∃ k', k = k' + 1 := ⟨k - 1, by omega⟩
      have t3 := (hO.2.2 (k' + 1) (by omega)).2.2.1
      have u3 := (hO.2.2 k' (by omega)).2.2.1
      refine s_M_lies_4 xk_M (c_M_frames H hO ⟨fun z => absurd z (nI_ge (by omega) (by omega)), fun _ => ?_⟩)
      rw [aI_s]
      refine c_M_frameOf (w := 1) H (by omega) (by omega) (c_M_frameOf (w := 1) H (by omega) (by omega) ?_)
      rw [show 1 + 2 * k' + 1 = 2 + 2 * k' by omega, show 1 + 2 * (k' + 1) + 1 = 2 + 2 * (k' + 1) by omega, t3, u3, nI_1 (k' + 1)]
      have lb : fLieB φ (k' + 1) = decide (¬ (nI (fW φ k') &&& (nI (fW φ (k' + 1)) ^^^ (-1 : Int32))) = 0) := by unfold fLieB; rw [decide_eq_true (show 0 < k' + 1 by omega), Bool.true_and]; rfl
      refine ⟨fun z => ?_, fun z => ?_⟩
      · rw [lb, decide_eq_false (not_not_intro z)] at nx
        rw [show nI (bsN (fLieB φ) (k' + 1)) ||| (0 : Int32) = nI (bsN (fLieB φ) (k' + 1) ||| 0) from yb_or _ 0, Nat.or_zero]
        exact nx
      · rw [lb, decide_eq_true z] at nx
        rw [bsN_s (by omega)]; exact nx
  by_cases z : tN φ 0 = 0
  · refine s_M_lies_4 xk_M (c_M_frames H hO ⟨fun _ => ⟨_, rfl, ?_⟩, fun y => absurd (nI_le (b := 1) (by omega) (by omega)) y⟩)
    rw [z] at h; exact h
  · have b1 : bsN (fLieB φ) 1 = 0 := by show 0 + (if fLieB φ 0 = true then 2 ^ 0 else 0) = 0; unfold fLieB; rw [decide_eq_false (Nat.lt_irrefl 0), Bool.false_and]; rfl
    have := key (tN φ 0 - 1) 1 (by omega) (by omega)
    rw [b1] at this
    exact this
theorem seen_has {P : Int32 → xD → Prop} {p : Nat} (hN : N ≤ 6) (hp : p < N) (L : mFl D φ N) (h1 : fFst φ p ≠ none → P 1 D) (h0 : fFst φ p = none → P 0 D) : xCi (d + 1) m_M_has [.int (D.1 325 79), .int (nI p)] D P := by
  have hb := bsN_lt (fS φ) N
  have h6 : 2 ^ N ≤ 2 ^ 6 := Nat.pow_le_pow_right (by omega) hN
  rw [L.1]
  refine c_M_has (by omega) (by omega) (fun b => h1 ?_) (fun b => h0 ?_)
  · rw [bsN_bit, decide_eq_true hp, Bool.true_and] at b
    exact fS_t.mp b
  · rw [bsN_bit, decide_eq_true hp, Bool.true_and] at b
    cases hf : fFst φ p with
    | none => rfl
    | some k =>
      have := fS_t.mpr (show fFst φ p ≠ none by rw [hf]; exact fun y => by cases y)
      rw [b] at this; cases this
theorem c_M_sure {P : Int32 → xD → Prop} (hO : fOK φ) (hN : N ≤ 6) (e30 : D.1 325 30 = nI N) (L : mFl D φ N) (h : P (oI (fsN (fSureB φ N) N)) D) : xCi (d + 2) m_M_sure [.ref 325] D P := by
  have l40 : xl (325 + 40) = 6 := cl_13_77 xk_M
  have l41 : xl (325 + 41) = 6 := cl_13_78 xk_M
  refine xCi_of y_M_sure (Nat.le_of_ble_eq_true rfl) (s_M_sure_0 xk_M ?_)
  have sureT : ∀ p, fFst φ p ≠ none → (fSureB φ N p = true ↔ ∀ q, q < N → q ≠ p → fFst φ q ≠ none → fU φ p < fA φ q) := fun p hp => by
    unfold fSureB
    rw [decide_eq_true hp, Bool.true_and, decide_eq_true_iff]
    exact fLs_gt (by have := fU_le (p := p) hO; omega) N
  have sureF : ∀ p, fFst φ p = none → fSureB φ N p = false := fun p hp => by
    unfold fSureB
    rw [decide_eq_false (not_not_intro hp), Bool.false_and]
  have key : ∀ m p, p + m = N → (∀ j, j < p → fSureB φ N j = false) → xPf (d + 2) m_M_sure 2 [(0, .ref 325), (1, .int (nI p))] [] D (fun r D' => ∃ v, r = some (.int v) ∧ P v D') := by
    intro m
    induction m with
    | zero =>
      intro p hp hall
      refine s_M_sure_2 xk_M ?_
      rw [e30]
      refine ⟨fun _ => ⟨_, rfl, ?_⟩, fun z => absurd (nI_le (by omega) (by omega)) z⟩
      rw [fsN_none.mpr (fun i hi => hall i (by omega))] at h; exact h
    | succ m ih =>
      intro p hp hall
      have nx : fSureB φ N p = false → xPf (d + 2) m_M_sure 2 [(0, .ref 325), (1, .int (nI (p + 1)))] [] D (fun r D' => ∃ v, r = some (.int v) ∧ P v D') := fun z => ih (p + 1) (by omega) (fun j hj => by
        by_cases y : j = p
        · rw [y]; exact z
        · exact hall j (by omega))
      have no : fSureB φ N p = false → ∀ m2 q, q + m2 = N → xPf (d + 2) m_M_sure 21 [(0, .ref 325), (1, .int (nI p)), (2, .int (0 : Int32)), (3, .int (nI q))] [] D (fun r D' => ∃ v, r = some (.int v) ∧ P v D') := by
        intro hz m2
        induction m2 with
        | zero =>
          intro q hq
          refine s_M_sure_21 xk_M ?_
          rw [e30, nI_1 p]
          exact ⟨fun _ => ⟨fun _ => nx hz, fun y => absurd rfl y⟩, fun y => absurd (nI_le (by omega) (by omega)) y⟩
        | succ m2 ih2 =>
          intro q hq
          refine s_M_sure_21 xk_M ?_
          rw [e30, nI_1 q]
          exact ⟨fun y => absurd y (nI_ge (by omega) (by omega)), fun _ => ⟨fun _ => ih2 (q + 1) (by omega), fun y => absurd rfl y⟩⟩
      have yes : fFst φ p ≠ none → ∀ m2 q, q + m2 = N → (∀ j, j < q → j ≠ p → fFst φ j ≠ none → fU φ p < fA φ j) → xPf (d + 2) m_M_sure 21 [(0, .ref 325), (1, .int (nI p)), (2, .int (1 : Int32)), (3, .int (nI q))] [] D (fun r D' => ∃ v, r = some (.int v) ∧ P v D') := by
        intro hf m2
        induction m2 with
        | zero =>
          intro q hq hok
          refine s_M_sure_21 xk_M ?_
          rw [e30]
          refine ⟨fun _ => ⟨fun y => absurd y (by decide), fun _ => ⟨_, rfl, ?_⟩⟩, fun y => absurd (nI_le (by omega) (by omega)) y⟩
          rw [fsN_is (show p < N by omega) ((sureT p hf).mpr (fun j hj => hok j (by omega))) hall] at h; exact h
        | succ m2 ih2 =>
          intro q hq hok
          have more : (q ≠ p → fFst φ q ≠ none → fU φ p < fA φ q) → xPf (d + 2) m_M_sure 21 [(0, .ref 325), (1, .int (nI p)), (2, .int (1 : Int32)), (3, .int (nI (q + 1)))] [] D (fun r D' => ∃ v, r = some (.int v) ∧ P v D') := fun z => ih2 (q + 1) (by omega) (fun j hj => by
            by_cases y : j = q
            · rw [y]; exact z
            · exact hok j (by omega))
          refine s_M_sure_21 xk_M ?_
          rw [e30, nI_1 q, nI_eq (by omega) (by omega)]
          refine ⟨fun y => absurd y (nI_ge (by omega) (by omega)), fun _ => ⟨fun y => absurd y (by decide), fun _ => ⟨fun y => more (fun z => absurd y z), fun y => seen_has hN (by omega) L (fun b => z1 ?_) (fun b => z0 (more (fun _ z => absurd b z)))⟩⟩⟩
          have a1 : D.1 (325 + 40) q = nI (fA φ q) - 1 := (L.2 q (by omega) b).1
          have a2 : D.1 (325 + 41) p = nI (fU φ p) := (L.2 p (by omega) hf).2
          have b1 := fA_le (p := q) hO
          have b2 := fU_le (p := p) hO
          rw [nI_clamp (n := q) (by omega), nI_clamp (n := p) (by omega), a1, a2, ← aI_s (fU φ p), aI_lt (by omega) (by omega)]
          refine ⟨by rw [l40]; exact vp_in_nI (by omega) (by omega), by rw [l41]; exact vp_in_nI (by omega) (by omega), fun z => no ?_ m2 (q + 1) (by omega), fun z => more (fun _ _ => by omega)⟩
          cases hb : fSureB φ N p with
          | false => rfl
          | true => have := (sureT p hf).mp hb q (by omega) y b; omega
      refine s_M_sure_2 xk_M ?_
      rw [e30]
      exact ⟨fun z => absurd z (nI_ge (by omega) (by omega)), fun _ => seen_has hN (by omega) L (fun b => yes b N 0 (by omega) (fun j hj => absurd hj (Nat.not_lt_zero _))) (fun b => no (sureF p b) N 0 (by omega))⟩
  exact key N 0 (by omega) (fun j hj => absurd hj (Nat.not_lt_zero _))
theorem c_M_mayBe {P : Int32 → xD → Prop} (hO : fOK φ) (hN : N ≤ 6) (e30 : D.1 325 30 = nI N) (L : mFl D φ N) (h : P (nI (bsN (fMayB φ N) N)) D) : xCi (d + 2) m_M_mayBe [.ref 325] D P := by
  have l40 : xl (325 + 40) = 6 := cl_13_77 xk_M
  have l41 : xl (325 + 41) = 6 := cl_13_78 xk_M
  refine xCi_of y_M_mayBe (Nat.le_of_ble_eq_true rfl) (s_M_mayBe_0 xk_M ?_)
  have mayT : ∀ p, p < N → fFst φ p ≠ none → (fMayB φ N p = true ↔ ∀ q, q < N → fFst φ q ≠ none → fA φ p ≤ fU φ q) := fun p hpN hp => by
    have hA := fA_le (p := p) hO
    have hAU := fA_U hO hp
    unfold fMayB
    rw [decide_eq_true hp, Bool.true_and, decide_eq_true_iff]
    by_cases z : fA φ p = 0
    · exact ⟨fun _ q _ _ => by omega, fun _ => by omega⟩
    · have e := fLs_gt (φ := φ) (p := p) (B := fA φ p - 1) (g := fU φ) (by omega) N
      constructor
      · intro y q hq hf
        by_cases w : q = p
        · rw [w]; exact hAU.1
        · have := e.mp (by omega) q hq w hf; omega
      · intro y
        have := e.mpr (fun q hq _ hf => by have := y q hq hf; omega)
        omega
  have mayF : ∀ p, fFst φ p = none → fMayB φ N p = false := fun p hp => by
    unfold fMayB
    rw [decide_eq_false (not_not_intro hp), Bool.false_and]
  have key : ∀ m p, p + m = N → xPf (d + 2) m_M_mayBe 4 [(0, .ref 325), (1, .int (nI (bsN (fMayB φ N) p))), (2, .int (nI p))] [] D (fun r D' => ∃ v, r = some (.int v) ∧ P v D') := by
    intro m
    induction m with
    | zero =>
      intro p hp
      refine s_M_mayBe_4 xk_M ?_
      rw [e30]
      refine ⟨fun _ => ⟨_, rfl, ?_⟩, fun z => absurd (nI_le (by omega) (by omega)) z⟩
      rw [show p = N by omega]; exact h
    | succ m ih =>
      intro p hp
      have nx := ih (p + 1) (by omega)
      rw [bsN] at nx
      have no : fMayB φ N p = false → ∀ m2 q, q + m2 = N → xPf (d + 2) m_M_mayBe 24 [(0, .ref 325), (1, .int (nI (bsN (fMayB φ N) p))), (2, .int (nI p)), (3, .int (0 : Int32)), (4, .int (nI q))] [] D (fun r D' => ∃ v, r = some (.int v) ∧ P v D') := by
        intro hz m2
        rw [hz] at nx
        induction m2 with
        | zero =>
          intro q hq
          refine s_M_mayBe_24 xk_M ?_
          rw [e30, nI_1 p, show nI (bsN (fMayB φ N) p) ||| (0 : Int32) = nI (bsN (fMayB φ N) p ||| 0) from yb_or _ 0, Nat.or_zero]
          exact ⟨fun _ => ⟨fun _ => nx, fun y => absurd rfl y⟩, fun y => absurd (nI_le (by omega) (by omega)) y⟩
        | succ m2 ih2 =>
          intro q hq
          refine s_M_mayBe_24 xk_M ?_
          rw [e30, nI_1 q]
          exact ⟨fun y => absurd y (nI_ge (by omega) (by omega)), fun _ => ⟨fun _ => ih2 (q + 1) (by omega), fun y => absurd rfl y⟩⟩
      have yes : fFst φ p ≠ none → ∀ m2 q, q + m2 = N → (∀ j, j < q → fFst φ j ≠ none → fA φ p ≤ fU φ j) → xPf (d + 2) m_M_mayBe 24 [(0, .ref 325), (1, .int (nI (bsN (fMayB φ N) p))), (2, .int (nI p)), (3, .int (1 : Int32)), (4, .int (nI q))] [] D (fun r D' => ∃ v, r = some (.int v) ∧ P v D') := by
        intro hf m2
        induction m2 with
        | zero =>
          intro q hq hok
          have hb : fMayB φ N p = true := (mayT p (by omega) hf).mpr (fun j hj => hok j (by omega))
          rw [hb] at nx
          refine s_M_mayBe_24 xk_M ?_
          rw [e30, nI_1 p, bsN_s (by omega)]
          exact ⟨fun _ => ⟨fun y => absurd y (by decide), fun _ => nx⟩, fun y => absurd (nI_le (by omega) (by omega)) y⟩
        | succ m2 ih2 =>
          intro q hq hok
          have more : (fFst φ q ≠ none → fA φ p ≤ fU φ q) → xPf (d + 2) m_M_mayBe 24 [(0, .ref 325), (1, .int (nI (bsN (fMayB φ N) p))), (2, .int (nI p)), (3, .int (1 : Int32)), (4, .int (nI (q + 1)))] [] D (fun r D' => ∃ v, r = some (.int v) ∧ P v D') := fun z => ih2 (q + 1) (by omega) (fun j hj => by
            by_cases y : j = q
            · rw [y]; exact z
            · exact hok j (by omega))
          refine s_M_mayBe_24 xk_M ?_
          rw [e30, nI_1 q]
          refine ⟨fun y => absurd y (nI_ge (by omega) (by omega)), fun _ => ⟨fun y => absurd y (by decide), fun _ => seen_has hN (by omega) L (fun b => z1 ?_) (fun b => z0 (more (fun z => absurd b z)))⟩⟩
          have a1 : D.1 (325 + 40) p = nI (fA φ p) - 1 := (L.2 p (by omega) hf).1
          have a2 : D.1 (325 + 41) q = nI (fU φ q) := (L.2 q (by omega) b).2
          have b1 := fA_le (p := p) hO
          have b2 := fU_le (p := q) hO
          rw [nI_clamp (n := q) (by omega), nI_clamp (n := p) (by omega), a1, a2, sub1_le (by omega) (by omega)]
          refine ⟨by rw [l41]; exact vp_in_nI (by omega) (by omega), by rw [l40]; exact vp_in_nI (by omega) (by omega), fun z => no ?_ m2 (q + 1) (by omega), fun z => more (fun _ => by omega)⟩
          cases hb : fMayB φ N p with
          | false => rfl
          | true => have := (mayT p (by omega) hf).mp hb q (by omega) b; omega
      refine s_M_mayBe_4 xk_M ?_
      rw [e30]
      exact ⟨fun z => absurd z (nI_ge (by omega) (by omega)), fun _ => seen_has hN (by omega) L (fun b => yes b N 0 (by omega) (fun j hj => absurd hj (Nat.not_lt_zero _))) (fun b => no (mayF p b) N 0 (by omega))⟩
  exact key N 0 (by omega)
theorem c_M_short {P : Int32 → xD → Prop} (hO : fOK φ) (hN : N ≤ 6) (h1 : 1 ≤ N) (H : mFm D φ) (e30 : D.1 325 30 = nI N) (h : P (nI (cnN (fShB φ N) (tN φ 0))) D) : xCi (d + 3) m_M_shortFrames [.ref 325] D P := by
  have h10 := hO.2.1
  refine xCi_of y_M_shortFrames (Nat.le_of_ble_eq_true rfl) (s_M_shortFrames_0 xk_M ?_)
  have key : ∀ m k, k + m = tN φ 0 → xPf (d + 3) m_M_shortFrames 4 [(0, .ref 325), (1, .int (nI (cnN (fShB φ N) k))), (2, .int (nI k))] [] D (fun r D' => ∃ v, r = some (.int v) ∧ P v D') := by
    intro m
    induction m with
    | zero =>
      intro k hk
      refine s_M_shortFrames_4 xk_M (c_M_frames H hO ⟨fun _ => ⟨_, rfl, ?_⟩, fun z => absurd (nI_le (by omega) (by omega)) z⟩)
      rw [show k = tN φ 0 by omega]; exact h
    | succ m ih =>
      intro k hk
      have nx := ih (k + 1) (by omega)
      rw [cnN] at nx
      obtain ⟨t1, t2, t3, t4, t5⟩ := hO.2.2 k (by omega)
      have p1 : 0 < 2 ^ N := Nat.two_pow_pos N
      have p2 : 2 ^ N ≤ 2 ^ 6 := Nat.pow_le_pow_right (by omega) hN
      have hm := Nat.mod_lt (fW φ k) p1
      refine s_M_shortFrames_4 xk_M (c_M_frames H hO ⟨fun z => absurd z (nI_ge (by omega) (by omega)), fun _ => c_M_frameOf (w := 1) H (by omega) (by omega) ?_⟩)
      rw [show 1 + 2 * k + 1 = 2 + 2 * k by omega, t3, e30, yb_1 (by omega), show nI (2 ^ N) - (1 : Int32) = nI (2 ^ N - 1) from pk_sub (b := 1) p1, yb_and, Nat.and_two_pow_sub_one_eq_mod]
      refine c_M_ones (by omega) ?_
      have ho : onesN (fW φ k % 2 ^ N) ≤ 6 := cnN_le _ 6
      have hs := short_6 N hN (fW φ k) t4
      rw [e30, show nI N - (1 : Int32) = nI (N - 1) from pk_sub (b := 1) h1, nI_leI (by omega) (by omega), nI_1 k]
      refine ⟨fun z => ?_, fun z => ?_⟩
      · rw [show nI (cnN (fShB φ N) k) + (0 : Int32) = nI (cnN (fShB φ N) k + 0) from nI_add _ 0]
        have : fShB φ N k = false := by unfold fShB; exact decide_eq_false (fun y => by have := hs.mpr y; omega)
        rw [this] at nx; exact nx
      · rw [nI_1]
        have : fShB φ N k = true := by unfold fShB; exact decide_eq_true (hs.mp (by omega))
        rw [this] at nx; exact nx
  exact key (tN φ 0) 0 (by omega)
theorem c_M_film {P : Int32 → xD → Prop} {x f w : Int32} (hI : mI D g) (h : ∀ D', mO D D' → P (aFilm g.1 x f w) D') : xCi (d + 40) m_M_film [.ref 325, .int x, .int f, .int w] D P := by
  have l40 : xl (325 + 40) = 6 := cl_13_77 xk_M
  have l41 : xl (325 + 41) = 6 := cl_13_78 xk_M
  refine xCi_of y_M_film (Nat.le_of_ble_eq_true rfl) (s_M_film_0 xk_M (fun D1 e1 => ?_))
  obtain ⟨o1, I1⟩ := m_0 hI e1
  unfold aFilm at h
  refine c_M_layFilm I1 (fun D2 o2 q => z0' ⟨_, rfl, ?_⟩) (fun τ φ D2 o2 q1 q2 hT hF hO H2 Hf L => z1' ?_)
  · have h := h D2 (o1.trans o2)
    rcases q with q | q
    · rw [q] at h; exact h
    · cases q1 : txO g.1 0 x with
      | none => rw [q1] at h; exact h
      | some τ => simp only [q1, q] at h; exact h
  · simp only [q1, q2] at h
    have h := h D2 (o1.trans o2)
    have b5 := hT.2.2.2.2.2.2.1
    have n2 := hF.1
    have e30 : D2.1 325 30 = nI (tN τ 5) := by rw [H2.2.2.2.2]; exact hT.1 5 (by omega)
    rw [e30]
    refine c_M_inR 10 (tN τ 5) (by omega) (by omega) rfl (by rw [show (9 : Int32) + nI (tN τ 5) = nI (9 + tN τ 5) from nI_add 9 _, nI_1]; congr 1; omega) (fun p hp ew => z1 ?_) (fun n10 => z0 (c_M_inR 20 (tN τ 5) (by omega) (by omega) rfl ?_ (fun p hp ew => z1 ?_) (fun n20 => z0 ?_)))
    · subst ew
      rw [per_10 b5 hp] at h
      rw [show nI (10 + p) - (10 : Int32) = nI (10 + p - 10) from pk_sub (b := 10) (by omega), Nat.add_sub_cancel_left]
      refine seen_has b5 hp L (fun b => z1 ⟨by rw [l40]; exact vp_in_nI (by omega) (by omega), _, rfl, ?_⟩) (fun b => z0 ⟨_, rfl, ?_⟩)
      · rw [nI_clamp (by omega), show D2.1 (325 + 40) p = nI (fA φ p) - 1 from (L.2 p hp b).1]
        have h : P (if fFst φ p = none then -2 else if nI (10 + p) < 20 then nI (fA φ p) - 1 else nI (fU φ p)) D2 := h
        rw [if_neg b, if_pos (show nI (10 + p) < (20 : Int32) from nI_lt (b := 20) (by omega) (by omega))] at h; exact h
      · have h : P (if fFst φ p = none then -2 else if nI (10 + p) < 20 then nI (fA φ p) - 1 else nI (fU φ p)) D2 := h
        rw [if_pos b] at h; exact h
    · rw [e30, show (19 : Int32) + nI (tN τ 5) = nI (19 + tN τ 5) from nI_add 19 _, nI_1]; congr 1; omega
    · subst ew
      rw [per_20 b5 hp] at h
      rw [show nI (20 + p) - (20 : Int32) = nI (20 + p - 20) from pk_sub (b := 20) (by omega), Nat.add_sub_cancel_left]
      refine seen_has b5 hp L (fun b => z1 ⟨by rw [l41]; exact vp_in_nI (by omega) (by omega), _, rfl, ?_⟩) (fun b => z0 ⟨_, rfl, ?_⟩)
      · rw [nI_clamp (by omega), show D2.1 (325 + 41) p = nI (fU φ p) from (L.2 p hp b).2]
        have h : P (if fFst φ p = none then -2 else if nI (20 + p) < 20 then nI (fA φ p) - 1 else nI (fU φ p)) D2 := h
        rw [if_neg b, if_neg (show ¬ nI (20 + p) < (20 : Int32) from nI_nlt (a := 20 + p) (b := 20) (by omega) (by omega))] at h; exact h
      · have h : P (if fFst φ p = none then -2 else if nI (20 + p) < 20 then nI (fA φ p) - 1 else nI (fU φ p)) D2 := h
        rw [if_pos b] at h; exact h
    · rw [per_no b5 n10 n20] at h
      have h : P (fAns φ (tN τ 5) w) D2 := h
      unfold fAns at h
      refine ⟨fun a => ⟨fun b => ⟨fun c => ⟨fun e => ⟨_, rfl, ?_⟩, fun e => c_M_short hO b5 (by omega) Hf e30 ⟨_, rfl, ?_⟩⟩, fun c => c_M_mayBe hO b5 e30 L ⟨_, rfl, ?_⟩⟩, fun b => c_M_sure hO b5 e30 L ⟨_, rfl, ?_⟩⟩, fun a => c_M_lies hO Hf ⟨_, rfl, ?_⟩⟩
      · rw [if_neg a, if_neg b, if_neg c, if_neg e] at h; exact h
      · rw [if_neg a, if_neg b, if_neg c, if_pos e] at h; exact h
      · rw [if_neg a, if_neg b, if_pos c] at h; exact h
      · rw [if_neg a, if_pos b] at h; exact h
      · rw [if_pos a] at h; exact h
end MFILM3
