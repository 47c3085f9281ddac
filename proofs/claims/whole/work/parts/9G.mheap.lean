/-! The reference lays a heap. -/
theorem rcnt_mono (f : Nat → Int32) (v : Int32) {a : Nat} : ∀ {b : Nat}, a ≤ b → rcnt f v a ≤ rcnt f v b := by
  intro b
  induction b with
  | zero => intro h; rw [show a = 0 by omega]; exact Nat.le_refl _
  | succ b ih =>
    intro h
    by_cases z : a = b + 1
    · rw [z]; exact Nat.le_refl _
    · have i1 := ih (by omega)
      have e : rcnt f v (b + 1) = rcnt f v b + if f b = v then 1 else 0 := rfl
      rw [e]
      exact Nat.le_trans i1 (Nat.le_add_right _ _)
theorem one_sm {v : Int32} {k0 : Nat} (hv : v = nI k0) : ∀ K, K < 2 ^ 31 → k0 < 2 ^ 31 → sm (fun k => if v = nI k then 1 else 0) K = if k0 < K then 1 else 0 := by
  intro K
  induction K with
  | zero => intro _ _; rw [if_neg (Nat.not_lt_zero _)]; rfl
  | succ K ih =>
    intro hK h0
    have ih := ih (by omega) h0
    rw [sm, ih, hv]
    by_cases z : k0 = K
    · rw [z, if_neg (Nat.lt_irrefl K), if_pos rfl, if_pos (by omega)]
    · rw [if_neg (show ¬ nI k0 = nI K from fun y => z ((nI_eq h0 (by omega)).mp y))]
      by_cases y : k0 < K
      · rw [if_pos y, if_pos (by omega)]
      · rw [if_neg y, if_neg (by omega)]
theorem known_plus (h : Nat → Int32) (n : Nat) : ∀ K, known h (n + 1) K = known h n K + sm (fun k => if h n = nI k then 1 else 0) K := by
  intro K
  induction K with
  | zero => rfl
  | succ K ih =>
    have e : known h (n + 1) (K + 1) = known h (n + 1) K + (rcnt h (nI K) n + if h n = nI K then 1 else 0) := rfl
    have e2 : known h n (K + 1) = known h n K + rcnt h (nI K) n := rfl
    rw [e, e2, ih, sm]
    omega
theorem known_all (h : Nat → Int32) {K : Nat} (hK : K < 2 ^ 31) : ∀ n, (∀ j, j < n → ∃ k, k < K ∧ h j = nI k) → known h n K = n := by
  intro n
  induction n with
  | zero => intro _; have := (known_n h hK 0).1; omega
  | succ n ih =>
    intro hall
    obtain ⟨k, hk, e⟩ := hall n (by omega)
    rw [known_plus, ih (fun j hj => hall j (by omega)), one_sm e K hK (by omega), if_pos hk]
/-- the heap FITS, card by card -/
theorem fits_each {τ η : Nat → Int32} (hT : tOK τ) (hO : hpOK η) : fitsH τ η ↔ tN τ 5 * tN τ 2 < tN η 0 ∧ ∀ k, k < tN η 0 → hpC η k < tN τ 0 ∧ rcnt (fun i => η (1 + i)) (η (1 + k)) (k + 1) ≤ tN τ 1 := by
  have hK := hT.2.1
  constructor
  · intro h
    refine ⟨h.2.2, fun k hk => ⟨fits_lt hT hO h k hk, ?_⟩⟩
    have lt := fits_lt hT hO h k hk
    have e : η (1 + k) = nI (hpC η k) := (hO.2.2 k hk).1
    rw [e]
    exact Nat.le_trans (rcnt_mono _ _ (by omega)) (h.1 _ lt)
  · rintro ⟨h1, h2⟩
    refine ⟨fun k hk => ?_, known_all _ (by omega) _ (fun j hj => ⟨hpC η j, (h2 j hj).1, (hO.2.2 j hj).1⟩), h1⟩
    have key : ∀ m, m ≤ tN η 0 → rcnt (fun i => η (1 + i)) (nI k) m ≤ tN τ 1 := by
      intro m
      induction m with
      | zero => intro _; exact Nat.zero_le _
      | succ m ih =>
        intro hm
        by_cases z : η (1 + m) = nI k
        · rw [← z]; exact (h2 m (by omega)).2
        · have e : rcnt (fun i => η (1 + i)) (nI k) (m + 1) = rcnt (fun i => η (1 + i)) (nI k) m + if η (1 + m) = nI k then 1 else 0 := rfl
          rw [e, if_neg z]; exact ih (by omega)
    exact key _ (Nat.le_refl _)
section MHEAP
variable {d : Nat} {D : xD} {g : gS} {τ η : Nat → Int32}
theorem c_M_layHeap {P : Int32 → xD → Prop} {i : Nat} (hT : tOK τ) (hO : hpOK η) (H : mH D τ) (hi : i < 2) (tx : ∀ j, j < 53 → D.1 332 (53 * i + j) = η j) (h1 : fitsH τ η → ∀ D', mF 345 346 40 41 D D' → mPk D' (tN η 0) (hpC η) → P 1 D') (h0 : ¬ fitsH τ η → ∀ D', mF 345 346 40 41 D D' → P 0 D') : xCi (d + 1) m_M_layHeap [.ref 325, .int (nI i)] D P := by
  have l7 : xl (325 + 7) = 424 := cl_13_7 xk_M
  have l20 : xl (325 + 20) = 52 := cl_13_39 xk_M
  obtain ⟨n0, n52, nk⟩ := id hO
  have b5 := hT.2.2.2.2.2.2.1
  have b2 := hT.2.2.2.1
  have hm : tN τ 5 * tN τ 2 ≤ 6 * 4 := Nat.mul_le_mul b5 b2.2
  refine xCi_of y_M_layHeap (Nat.le_of_ble_eq_true rfl) (s_M_layHeap_0 xk_M ?_)
  have e0 : D.1 (325 + 7) (53 * i) = nI (tN η 0) := by rw [← n0]; exact tx 0 (by omega)
  rw [show (53 : Int32) * nI i = nI (53 * i) from pk_mul 53 i, nI_clamp (by omega), e0]
  refine ⟨by rw [l7]; exact vp_in_nI (by omega) (by omega), fun D1 e1 => ?_⟩
  obtain ⟨o1, f1⟩ := mf e1
  have H1 := H.fr o1 (by omega) (by omega)
  rw [f1, H1.2.2.2.2, H1.2.2.2.1, hT.1 5 (by omega), hT.1 2 (by omega), pk_mul]
  -- card by card
  have key : ∀ m k, k + m = tN η 0 → ∀ D', mF 345 346 0 0 D1 D' → (∀ j, j < k → D'.1 345 j = η (1 + j)) → ∀ b : Int32, ((b = 1 ∧ tN τ 5 * tN τ 2 < tN η 0 ∧ ∀ j, j < k → hpC η j < tN τ 0 ∧ rcnt (fun i => η (1 + i)) (η (1 + j)) (j + 1) ≤ tN τ 1) ∨ (b = 0 ∧ ¬ fitsH τ η)) → xPf (d + 1) m_M_layHeap 37 [(0, .ref 325), (1, .int (nI i)), (2, .int b), (3, .int (nI k))] [] D' (fun r D' => ∃ v, r = some (.int v) ∧ P v D') := by
    intro m
    induction m with
    | zero =>
      intro k hk D' o v b hb
      refine s_M_layHeap_37 xk_M ?_
      rw [o.2 40 (by omega), f1]
      have oo : mF 345 346 40 41 D D' := (o1.m (by omega) (by omega)).trans (o.m (by omega) (by omega))
      refine ⟨fun _ => ?_, fun z => absurd (nI_le (by omega) (by omega)) z⟩
      rcases hb with ⟨rfl, c1, c2⟩ | ⟨rfl, c⟩
      · exact ⟨Or.inr rfl, _, rfl, h1 ((fits_each hT hO).mpr ⟨c1, fun j hj => c2 j (by omega)⟩) D' oo ⟨by rw [o.2 40 (by omega)]; exact f1, fun j hj => by rw [v j (by omega)]; exact (nk j hj).1⟩⟩
      · exact ⟨Or.inl rfl, _, rfl, h0 c D' oo⟩
    | succ m ih =>
      intro k hk D' o v b hb
      have H' := H1.fr o (by omega) (by omega)
      refine s_M_layHeap_37 xk_M ?_
      have tk : D'.1 (325 + 7) (53 * i + 1 + k) = η (1 + k) := by
        rw [(o.1 (325 + 7) (by omega) (by omega)).1, (o1.1 (325 + 7) (by omega) (by omega)).1, Nat.add_assoc]
        exact tx (1 + k) (by omega)
      rw [o.2 40 (by omega), f1, show (53 : Int32) * nI i = nI (53 * i) from pk_mul 53 i, nI_1, nI_add, nI_clamp (n := 53 * i + 1 + k) (by omega), nI_clamp (n := k) (by omega), tk]
      refine ⟨fun z => absurd z (nI_ge (by omega) (by omega)), fun _ => ⟨by rw [l7]; exact vp_in_nI (by omega) (by omega), by rw [l20]; exact vp_in_nI (by omega) (by omega), fun D2 e2 => ?_⟩⟩
      obtain ⟨o2, v2⟩ := ma (by omega) e2
      have v2' : ∀ j, D2.1 345 j = if j = k then η (1 + k) else D'.1 345 j := v2
      have o12 : mF 345 346 0 0 D1 D2 := o.trans (o2.m (by omega) (by omega))
      have H2 := H1.fr o12 (by omega) (by omega)
      have pk : ∀ j, j ≤ k → D2.1 (325 + 20) j = η (1 + j) := fun j hj => by
        rw [show D2.1 (325 + 20) j = D2.1 345 j from rfl, v2']
        by_cases z : j = k
        · rw [if_pos z, z]
        · rw [if_neg z]; exact v j (by omega)
      have nx := ih (k + 1) (by omega) D2 o12 (fun j hj => pk j (by omega))
      have ek : η (1 + k) = nI (hpC η k) := (nk k (by omega)).1
      have ck : hpC η k < 13 := (nk k (by omega)).2
      have cl := rcnt_le (fun i => η (1 + i)) (η (1 + k)) (k + 1)
      have inner : ∀ m2 j, j + m2 = k + 1 → xPf (d + 1) m_M_layHeap 70 [(0, .ref 325), (1, .int (nI i)), (2, .int b), (3, .int (nI k)), (4, .int (nI (rcnt (fun i => η (1 + i)) (η (1 + k)) j))), (5, .int (nI j))] [] D2 (fun r D' => ∃ v, r = some (.int v) ∧ P v D') := by
        intro m2
        induction m2 with
        | zero =>
          intro j hj
          have ej : j = k + 1 := by omega
          subst ej
          refine s_M_layHeap_70 xk_M ⟨fun _ => ⟨fun z => ?_, fun z => ?_⟩, fun z => absurd (nI_lt (by omega) (by omega)) z⟩
          · rw [nI_1 k]
            refine nx 0 (Or.inr ⟨rfl, ?_⟩)
            rcases hb with ⟨y, -⟩ | ⟨-, c⟩
            · rw [y] at z; exact absurd z (by decide)
            · exact c
          · have hb1 : tN τ 5 * tN τ 2 < tN η 0 ∧ ∀ j, j < k → hpC η j < tN τ 0 ∧ rcnt (fun i => η (1 + i)) (η (1 + j)) (j + 1) ≤ tN τ 1 := by
              rcases hb with ⟨-, c⟩ | ⟨y, -⟩
              · exact c
              · exact absurd y z
            have b0 := hT.2.1
            have b1 := hT.2.2.1
            rw [H2.2.1, H2.2.2.1, hT.1 0 (by omega), hT.1 1 (by omega), nI_clamp (by omega), pk k (Nat.le_refl _), nI_1 k]
            refine ⟨by rw [l20]; exact vp_in_nI (by omega) (by omega), fun c => nx 0 (Or.inr ⟨rfl, fun f => ?_⟩), fun c => ⟨fun c2 => nx 0 (Or.inr ⟨rfl, fun f => ?_⟩), fun c2 => nx 1 (Or.inl ⟨rfl, hb1.1, fun j hj => ?_⟩)⟩⟩
            · rw [ek] at c
              have := (nI_leI (by omega) (by omega)).mp c
              have := (((fits_each hT hO).mp f).2 k (by omega)).1
              omega
            · have := (nI_ltI (by omega) (by omega)).mp c2
              have := (((fits_each hT hO).mp f).2 k (by omega)).2
              omega
            · by_cases y : j = k
              · rw [y]
                rw [ek] at c
                exact ⟨Nat.lt_of_not_le (fun w => c (nI_le w (by omega))), Nat.le_of_not_lt (fun w => c2 (nI_lt w (by omega)))⟩
              · exact hb1.2 j (by omega)
        | succ m2 ih2 =>
          intro j hj
          have nx2 := ih2 (j + 1) (by omega)
          have e : rcnt (fun i => η (1 + i)) (η (1 + k)) (j + 1) = rcnt (fun i => η (1 + i)) (η (1 + k)) j + if η (1 + j) = η (1 + k) then 1 else 0 := rfl
          rw [e] at nx2
          refine s_M_layHeap_70 xk_M ⟨fun z => absurd z (nI_nlt (by omega) (by omega)), fun _ => ?_⟩
          rw [nI_clamp (n := j) (by omega), nI_clamp (n := k) (by omega), pk j (by omega), pk k (Nat.le_refl _), nI_1 j]
          refine ⟨by rw [l20]; exact vp_in_nI (by omega) (by omega), by rw [l20]; exact vp_in_nI (by omega) (by omega), fun z => ?_, fun z => ?_⟩
          · rw [if_neg z] at nx2
            rw [show nI (rcnt (fun i => η (1 + i)) (η (1 + k)) j) + (0 : Int32) = nI (rcnt (fun i => η (1 + i)) (η (1 + k)) j + 0) from nI_add _ 0]
            exact nx2
          · rw [if_pos z] at nx2
            rw [nI_1]; exact nx2
      exact inner (k + 1) 0 (by omega)
  refine ⟨fun c => key (tN η 0) 0 (by omega) D1 mF.rfl' (fun j hj => absurd hj (Nat.not_lt_zero _)) 0 (Or.inr ⟨rfl, fun f => ?_⟩), fun c => key (tN η 0) 0 (by omega) D1 mF.rfl' (fun j hj => absurd hj (Nat.not_lt_zero _)) 1 (Or.inl ⟨rfl, ?_, fun j hj => absurd hj (Nat.not_lt_zero _)⟩)⟩
  · have := (nI_leI (by omega) (by omega)).mp c
    have := f.2.2
    omega
  · exact Nat.lt_of_not_le (fun w => c (nI_le w (by omega)))
end MHEAP
