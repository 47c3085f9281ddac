/-! The reference: least terms, who pulled first. -/
section MPULL
variable {d : Nat} {D : xD} {g : gS} {φ τ : Nat → Int32} {N : Nat}
theorem c_M_common {P : Int64 → xD → Prop} {a b : Nat} (ha : a < 2 ^ 63) (hb : b < 2 ^ 63) (h : P (lN (Nat.gcd a b)) D) : xCl (d + 1) m_M_common [.long (lN a), .long (lN b)] D P := by
  refine xCl_of y_M_common (Nat.le_of_ble_eq_true rfl) (s_M_common_0 ?_)
  have key : ∀ y x, x < 2 ^ 63 → y < 2 ^ 63 → Nat.gcd x y = Nat.gcd a b → xPf (d + 1) m_M_common 6 [(0, .long (lN a)), (2, .long (lN b)), (4, .long (lN x)), (6, .long (lN y))] [] D (fun r D' => ∃ v, r = some (.long v) ∧ P v D') := by
    intro y
    induction y using Nat.strongRecOn with
    | _ y ih =>
      intro x hx hy e
      have z : lN y = (0 : Int64) ↔ y = 0 := pk_lEQ (b := 0) hy (by omega)
      refine s_M_common_6 ?_
      rw [lg_cmp_eq, z]
      refine ⟨fun c => ⟨_, rfl, ?_⟩, fun c => ⟨c, ?_⟩⟩
      · subst c
        rw [Nat.gcd_zero_right] at e
        rw [e]; exact h
      · have hm := Nat.mod_lt x (show 0 < y by omega)
        rw [pk_lRem hx (by omega) hy]
        refine ih (x % y) hm y hy (by omega) ?_
        rw [Nat.gcd_comm, ← Nat.gcd_rec, Nat.gcd_comm]; exact e
  exact key b a ha hb rfl
theorem c_M_least {P : Int64 → xD → Prop} {a b : Nat} {u : Int32} (ha : a < 2 ^ 63) (hb : b < 2 ^ 63) (hp : 0 < a ∨ 0 < b) (h : P (lN (lst a b (u ≠ 0))) D) : xCl (d + 2) m_M_least [.long (lN a), .long (lN b), .int u] D P := by
  have g0 : 0 < Nat.gcd a b := by
    rcases hp with q | q
    · exact Nat.gcd_pos_of_pos_left _ q
    · exact Nat.gcd_pos_of_pos_right _ q
  have g1 : Nat.gcd a b < 2 ^ 63 := by
    rcases hp with q | q
    · have := Nat.gcd_le_left b q; omega
    · have := Nat.gcd_le_right a q; omega
  have gn : ¬ lN (Nat.gcd a b) = 0 := fun z => by
    have := (pk_lEQ (b := 0) g1 (by omega)).mp z; omega
  unfold lst at h
  refine xCl_of y_M_least (Nat.le_of_ble_eq_true rfl) (s_M_least_0 ⟨fun c => c_M_common ha hb ⟨gn, _, rfl, ?_⟩, fun c => c_M_common ha hb ⟨gn, _, rfl, ?_⟩⟩)
  · rw [if_neg (not_not_intro c)] at h
    rw [pk_lDiv ha g0 g1]; exact h
  · rw [if_pos c] at h
    rw [pk_lDiv hb g0 g1]; exact h
theorem m_span {U A : Nat} (h : A ≤ U) : nI U - (nI A - (1 : Int32)) = nI (U + 1 - A) := by
  cases A with
  | zero => rw [aI_0, Int32.sub_neg]; exact nI_1 U
  | succ a => rw [aI_s, pk_sub (by omega)]; congr 1; omega
theorem m_gr {A t : Nat} (hA : A < 2 ^ 20) (ht : t < 2 ^ 20) : (if nI A - (1 : Int32) ≤ nI t - 1 then nI t - 1 else nI A - 1) = nI (if A < t then t else A) - 1 := by
  have e : nI A - (1 : Int32) ≤ nI t - 1 ↔ A ≤ t := by rw [← Int32.not_lt, aI_lt (by omega) (by omega)]; omega
  by_cases c : A ≤ t
  · rw [if_pos (e.mpr c)]
    by_cases c2 : A < t
    · rw [if_pos c2]
    · rw [if_neg c2, show t = A by omega]
  · rw [if_neg (fun y => c (e.mp y)), if_neg (by omega)]
theorem c_M_pulled {P : Int64 → xD → Prop} {x f p u : Int32} (hI : mI D g) (h : ∀ D', mO D D' → P (aPulled g.1 x f p u) D') : xCl (d + 40) m_M_pulled [.ref 325, .int x, .int f, .int p, .int u] D P := by
  have l40 : xl (325 + 40) = 6 := cl_13_77 xk_M
  have l41 : xl (325 + 41) = 6 := cl_13_78 xk_M
  refine xCl_of y_M_pulled (Nat.le_of_ble_eq_true rfl) (s_M_pulled_0 xk_M (fun D1 e1 => ?_))
  obtain ⟨o1, I1⟩ := m_0 hI e1
  unfold aPulled at h
  refine c_M_layFilm I1 (fun D2 o2 q => z0 ⟨_, rfl, ?_⟩) (fun τ φ D2 o2 q1 q2 hT hF hO H2 Hf L => z1 ?_)
  · have h := h D2 (o1.trans o2)
    rcases q with q | q
    · rw [q] at h; exact h
    · cases q1 : txO g.1 0 x with
      | none => rw [q1] at h; exact h
      | some τ => simp only [q1, q] at h; exact h
  · simp only [q1, q2] at h
    replace h := h D2 (o1.trans o2)
    have b5 := hT.2.2.2.2.2.2.1
    have e30 : D2.1 325 30 = nI (tN τ 5) := by rw [H2.2.2.2.2]; exact hT.1 5 (by omega)
    generalize hN : tN τ 5 = N at *
    refine c_M_isOne e30 (by omega) (fun q3 => z0 ⟨_, rfl, ?_⟩) (fun i q3 hi hp => z1 ?_)
    · rw [q3] at h; exact h
    · simp only [q3] at h
      subst hp
      refine seen_has b5 hi L (fun hf => z1' ?_) (fun hf => z0' ⟨_, rfl, ?_⟩)
      · rw [if_neg hf] at h
        obtain ⟨hAU, hU⟩ := fA_U hO hf
        have i6 : ∀ q, q < N → vp_in (nI q) (xl (325 + 40)) ∧ vp_in (nI q) (xl (325 + 41)) := fun q hq => by rw [l40, l41]; exact ⟨vp_in_nI (by omega) (by omega), vp_in_nI (by omega) (by omega)⟩
        have a365 : ∀ q, q < N → fFst φ q ≠ none → D2.1 (325 + 40) q = nI (fA φ q) - 1 := fun q hq hq2 => (L.2 q hq hq2).1
        have a366 : ∀ q, q < N → fFst φ q ≠ none → D2.1 (325 + 41) q = nI (fU φ q) := fun q hq hq2 => (L.2 q hq hq2).2
        have w6 : ∀ t n, n ≤ N → fWy φ i t n ≤ 100 ^ 6 := fun t n hn => by
          have h1 := fWy_le (p := i) (t := t) hO n
          have h2 : 100 ^ n ≤ 100 ^ 6 := Nat.pow_le_pow_right (by omega) (by omega)
          omega
        have hdn : fDown φ N i < 2 ^ 63 := by
          have h1 := w6 0 N (Nat.le_refl _)
          have h2 : (fU φ i + 1 - fA φ i) * fWy φ i 0 N ≤ 100 * 100 ^ 6 := Nat.mul_le_mul (by omega) h1
          unfold fDown; omega
        have hd0 : 0 < fDown φ N i := Nat.mul_pos (by omega) (fWy_pos hO N)
        -- over the tenths
        have ten : ∀ m k, k + m = fU φ i + 1 - fA φ i → xPf (d + 40) m_M_pulled 127 [(0, .ref 325), (1, .int x), (2, .int f), (3, .int (nI i)), (4, .int u), (5, .long (lN (fUp φ N i k))), (7, .long (lN (fDown φ N i))), (9, .int (nI (fA φ i + k)))] [] D2 (fun r D' => ∃ v, r = some (.long v) ∧ P v D') := by
          intro m
          induction m with
          | zero =>
            intro k hk
            have hup := fUp_le (p := i) hO b5 k
            refine s_M_pulled_127 xk_M ⟨(i6 i hi).2, ?_⟩
            rw [nI_clamp (by omega), a366 i hi hf]
            refine ⟨fun _ => c_M_least (by omega) hdn (Or.inr hd0) ⟨_, rfl, ?_⟩, fun z => absurd (nI_lt (by omega) (by omega)) z⟩
            rw [show k = fU φ i + 1 - fA φ i by omega]; exact h
          | succ m ih =>
            intro k hk
            have nx := ih (k + 1) (by omega)
            refine s_M_pulled_127 xk_M ⟨(i6 i hi).2, ?_⟩
            rw [nI_clamp (by omega), a366 i hi hf]
            refine ⟨fun z => absurd z (nI_nlt (by omega) (by omega)), fun _ => ?_⟩
            have inner : ∀ m2 q, q + m2 = N → xPf (d + 40) m_M_pulled 144 [(0, .ref 325), (1, .int x), (2, .int f), (3, .int (nI i)), (4, .int u), (5, .long (lN (fUp φ N i k))), (7, .long (lN (fDown φ N i))), (9, .int (nI (fA φ i + k))), (10, .long (lN (fWy φ i (fA φ i + k) q))), (12, .int (nI q))] [] D2 (fun r D' => ∃ v, r = some (.long v) ∧ P v D') := by
              intro m2
              induction m2 with
              | zero =>
                intro q hq
                refine s_M_pulled_144 xk_M ?_
                rw [e30, lN_add, nI_1]
                refine ⟨fun _ => ?_, fun z => absurd (nI_le (by omega) (by omega)) z⟩
                rw [fUp] at nx
                rw [show q = N by omega]
                exact nx
              | succ m2 ih2 =>
                intro q hq
                have nx2 := ih2 (q + 1) (by omega)
                rw [fWy] at nx2
                refine s_M_pulled_144 xk_M ?_
                rw [e30, nI_clamp (n := q) (by omega), nI_1 q, nI_eq (by omega) (by omega)]
                have keep : ¬ (q ≠ i ∧ fFst φ q ≠ none) → xPf (d + 40) m_M_pulled 144 [(0, .ref 325), (1, .int x), (2, .int f), (3, .int (nI i)), (4, .int u), (5, .long (lN (fUp φ N i k))), (7, .long (lN (fDown φ N i))), (9, .int (nI (fA φ i + k))), (10, .long (lN (fWy φ i (fA φ i + k) q) * (1 : Int64))), (12, .int (nI (q + 1)))] [] D2 (fun r D' => ∃ v, r = some (.long v) ∧ P v D') := fun z => by
                  rw [if_neg z] at nx2
                  rw [Int64.mul_one]; exact nx2
                refine ⟨fun z => absurd z (nI_ge (by omega) (by omega)), fun _ => ⟨(i6 q (by omega)).2, (i6 q (by omega)).1, c_M_greater ⟨fun z => keep (fun y => y.1 z), fun z => seen_has b5 (by omega) L (fun b => z1' (c_M_greater ?_)) (fun b => z0' (keep (fun y => y.2 b)))⟩⟩⟩
                rw [if_pos ⟨z, b⟩] at nx2
                have hUq := fU_le (p := q) hO
                have hAq := fA_le (p := q) hO
                have hM : (if fA φ q < fA φ i + k then fA φ i + k else fA φ q) < 1000 := by split <;> omega
                rw [a365 q (by omega) b, a366 q (by omega) b, m_gr (by omega) (by omega)]
                have e : (if (0 : Int32) ≤ nI (fU φ q) - (nI (if fA φ q < fA φ i + k then fA φ i + k else fA φ q) - 1) then nI (fU φ q) - (nI (if fA φ q < fA φ i + k then fA φ i + k else fA φ q) - 1) else 0) = nI (fU φ q + 1 - (if fA φ q < fA φ i + k then fA φ i + k else fA φ q)) := by
                  refine aI_span (by omega) (by omega) ?_
                  generalize nI (fU φ q) - (nI (if fA φ q < fA φ i + k then fA φ i + k else fA φ q) - 1) = v
                  by_cases c : (0 : Int32) < v
                  · rw [if_pos c, if_pos (Int32.le_of_lt c)]
                  · rw [if_neg c]
                    by_cases c2 : (0 : Int32) ≤ v
                    · rw [if_pos c2]
                      exact Int32.le_antisymm (Int32.not_lt.mp c) c2
                    · rw [if_neg c2]
                rw [e, nI_l (by omega), lN_mul]
                exact nx2
            exact inner N 0 (by omega)
        have dn : ∀ m q, q + m = N → xPf (d + 40) m_M_pulled 59 [(0, .ref 325), (1, .int x), (2, .int f), (3, .int (nI i)), (4, .int u), (5, .long (0 : Int64)), (7, .long (lN ((fU φ i + 1 - fA φ i) * fWy φ i 0 q))), (9, .int (nI q))] [] D2 (fun r D' => ∃ v, r = some (.long v) ∧ P v D') := by
          intro m
          induction m with
          | zero =>
            intro q hq
            refine s_M_pulled_59 xk_M ?_
            rw [e30, nI_clamp (n := i) (by omega), a365 i hi hf, Int32.sub_add_cancel]
            refine ⟨fun _ => ⟨(i6 i hi).1, ?_⟩, fun z => absurd (nI_le (by omega) (by omega)) z⟩
            rw [show q = N by omega]
            exact ten (fU φ i + 1 - fA φ i) 0 (by omega)
          | succ m ih =>
            intro q hq
            have nx := ih (q + 1) (by omega)
            rw [fWy, if_neg (show ¬ fA φ q < 0 by omega)] at nx
            have keep : ¬ (q ≠ i ∧ fFst φ q ≠ none) → xPf (d + 40) m_M_pulled 59 [(0, .ref 325), (1, .int x), (2, .int f), (3, .int (nI i)), (4, .int u), (5, .long (0 : Int64)), (7, .long (lN ((fU φ i + 1 - fA φ i) * fWy φ i 0 q) * (1 : Int64))), (9, .int (nI (q + 1)))] [] D2 (fun r D' => ∃ v, r = some (.long v) ∧ P v D') := fun z => by
              rw [if_neg z] at nx
              rw [Int64.mul_one]; exact nx
            refine s_M_pulled_59 xk_M ?_
            rw [e30, nI_clamp (n := q) (by omega), nI_1 q, nI_eq (by omega) (by omega)]
            refine ⟨fun z => absurd z (nI_ge (by omega) (by omega)), fun _ => ⟨fun z => keep (fun y => y.1 z), fun z => seen_has b5 (by omega) L (fun b => z1 ⟨(i6 q (by omega)).2, (i6 q (by omega)).1, ?_⟩) (fun b => z0 (keep (fun y => y.2 b)))⟩⟩
            obtain ⟨hAUq, hUq⟩ := fA_U hO b
            rw [if_pos ⟨z, b⟩] at nx
            rw [a365 q (by omega) b, a366 q (by omega) b, m_span hAUq, nI_l (by omega), lN_mul, Nat.mul_assoc]
            exact nx
        have h0 := dn N 0 (by omega)
        rw [show fWy φ i 0 0 = 1 from rfl, Nat.mul_one] at h0
        rw [nI_clamp (by omega), a365 i hi hf, a366 i hi hf, m_span hAU, nI_l (by omega)]
        exact ⟨(i6 i hi).2, (i6 i hi).1, h0⟩
      · rw [if_pos hf] at h; exact h
end MPULL
