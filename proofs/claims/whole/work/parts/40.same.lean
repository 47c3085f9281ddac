/-! Deals that are copied and compared. -/
theorem dS_ext {N K n n2 : Nat} {δ δ2 : dS} (hK : K ≤ 13) (w : dW N K n δ) (w2 : dW N K n2 δ2) (h1 : ∀ p, p < N → ∀ k, k < 13 → δ.1 p k = δ2.1 p k) (h2 : ∀ p, p ≤ N → δ.2.2 p = δ2.2.2 p) : δ = δ2 := by
  obtain ⟨-, a2, -, -, a5, a6, a7⟩ := w
  obtain ⟨-, b2, -, -, b5, b6, b7⟩ := w2
  have e1 : δ.1 = δ2.1 := by
    funext p k
    by_cases hp : p < N
    · by_cases hk : k < 13
      · exact h1 p hp k hk
      · rw [a6 p k (by omega), b6 p k (by omega)]
    · rw [(a5 p (by omega)).1, (b5 p (by omega)).1]
  refine Prod.ext e1 (Prod.ext (funext fun p => ?_) (funext fun p => ?_))
  · by_cases hp : p < N
    · rw [← a2 p hp, ← b2 p hp, e1]
    · rw [(a5 p (by omega)).2, (b5 p (by omega)).2]
  · by_cases hp : p ≤ N
    · exact h2 p hp
    · rw [a7 p (by omega), b7 p (by omega)]
section SAME
variable {d : Nat} {D : xD} {e b N A K n n2 : Nat} {δ δ2 : dS}
theorem c_Deal_liesAs {P : Int32 → xD → Prop} (hR : dR D e N A K δ) (hR2 : dR D b N A K δ2) (hW : dW N K n δ) (hW2 : dW N K n2 δ2) (hN : N ≤ 6) (hK : K ≤ 13) (h1 : δ = δ2 → P 1 D) (h0 : δ ≠ δ2 → P 0 D) : xCi (d + 3) m_Deal_liesAs [.ref e, .ref b] D P := by
  have k0 : xk e = 8 := hR.1.1
  have k1 : xk b = 8 := hR2.1.1
  have f5 : D.1 e 5 = nI N := hR.2.2.2.1
  have len : ∀ p, p ≤ N → (δ.2.2 p).length ≤ 52 := fun p hp => by
    obtain ⟨hl, al, _, _, _, z⟩ := hR.2.2.2.2.2.2.2.2
    exact (z p hp).2.1
  have len2 : ∀ p, p ≤ N → (δ2.2.2 p).length ≤ 52 := fun p hp => by
    obtain ⟨hl, al, _, _, _, z⟩ := hR2.2.2.2.2.2.2.2.2
    exact (z p hp).2.1
  refine xCi_of y_Deal_liesAs (Nat.le_of_ble_eq_true rfl) (s_Deal_liesAs_0 k0 k1 ?_)
  -- third: what waits, card by card
  have l3 : ∀ k p, p + k = N + 1 → (∀ q, q ≤ N → (δ.2.2 q).length = (δ2.2.2 q).length) → (∀ q, q < N → ∀ k, k < 13 → δ.1 q k = δ2.1 q k) → (∀ q, q < p → δ.2.2 q = δ2.2.2 q) →
      xPf (d + 3) m_Deal_liesAs 73 [(0, .ref e), (1, .ref b), (2, .int (nI p))] [] D (fun r D' => ∃ x, r = some (.int x) ∧ P x D') := by
    intro k
    induction k with
    | zero =>
      intro p hp hl hh hq
      refine s_Deal_liesAs_73 k0 k1 ⟨fun _ => ⟨_, rfl, h1 (dS_ext hK hW hW2 hh (fun q hqN => hq q (by omega)))⟩, fun c => ?_⟩
      rw [f5] at c; exact absurd (nI_lt (by omega) (by omega)) c
    | succ k ih =>
      intro p hp hl hh hq
      refine s_Deal_liesAs_73 k0 k1 ⟨fun c => ?_, fun _ => ?_⟩
      · rw [f5] at c; exact absurd c (nI_nlt (by omega) (by omega))
      · have key : ∀ m i, i + m = (δ.2.2 p).length → (∀ j, j < i → (δ.2.2 p)[j]? = (δ2.2.2 p)[j]?) → xPf (d + 3) m_Deal_liesAs 83 [(0, .ref e), (1, .ref b), (2, .int (nI p)), (3, .int (nI i))] [] D (fun r D' => ∃ x, r = some (.int x) ∧ P x D') := by
          have g1 := len p (by omega)
          intro m
          induction m with
          | zero =>
            intro i hi hs
            refine s_Deal_liesAs_83 k0 k1 (c_Deal_waitsFor hR hN (by omega) ⟨fun _ => ?_, fun c => absurd (nI_le (by omega) (by omega)) c⟩)
            rw [nI_1]
            refine ih (p + 1) (by omega) hl hh (fun q hqp => ?_)
            by_cases eq : q = p
            · subst eq
              apply List.ext_getElem?
              intro j
              by_cases hj : j < i
              · exact hs j hj
              · rw [List.getElem?_eq_none (by omega), List.getElem?_eq_none (by rw [← hl q (by omega)]; omega)]
            · exact hq q (by omega)
          | succ m ihm =>
            intro i hi hs
            have e1 : (δ.2.2 p)[i]? = some ((δ.2.2 p)[i]'(by omega)) := List.getElem?_eq_getElem _
            have e2 : (δ2.2.2 p)[i]? = some ((δ2.2.2 p)[i]'(by rw [← hl p (by omega)]; omega)) := List.getElem?_eq_getElem _
            have b1 : (δ.2.2 p)[i]'(by omega) < K := hW.2.2.2.1 p (by omega) _ (List.getElem_mem _)
            have b2 : (δ2.2.2 p)[i]'(by rw [← hl p (by omega)]; omega) < K := hW2.2.2.2.1 p (by omega) _ (List.getElem_mem _)
            refine s_Deal_liesAs_83 k0 k1 (c_Deal_waitsFor hR hN (by omega) ⟨fun c => absurd c (nI_ge (by omega) (by omega)), fun _ => ?_⟩)
            refine c_Deal_waiting hR hN (by omega) e1 (c_Deal_waiting hR2 hN (by omega) e2 ⟨fun c => ?_, fun c => ⟨_, rfl, h0 (fun q => c ?_)⟩⟩)
            · have eq := (nI_eq (by omega) (by omega)).mp c
              rw [nI_1]
              refine ihm (i + 1) (by omega) (fun j hj => ?_)
              by_cases ej : j = i
              · rw [ej, e1, e2, eq]
              · exact hs j (by omega)
            · subst q; rfl
        exact key (δ.2.2 p).length 0 (by omega) (fun j hj => absurd hj (by omega))
  -- second: hands
  have l2 : ∀ k i, i + k = 13 * N → (∀ q, q ≤ N → (δ.2.2 q).length = (δ2.2.2 q).length) → (∀ q, q < N → ∀ k, k < 13 → 13 * q + k < i → δ.1 q k = δ2.1 q k) →
      xPf (d + 3) m_Deal_liesAs 33 [(0, .ref e), (1, .ref b), (2, .int (nI i))] [] D (fun r D' => ∃ x, r = some (.int x) ∧ P x D') := by
    have e13 : nI N * (13 : Int32) = nI (13 * N) := by rw [show (13 : Int32) = nI 13 from rfl, pk_mul, Nat.mul_comm]
    intro k
    induction k with
    | zero =>
      intro i hi hl hs
      refine s_Deal_liesAs_33 k0 k1 ⟨fun _ => l3 (N + 1) 0 (by omega) hl (fun q hq k hk => hs q hq k hk (by omega)) (fun q hq => absurd hq (by omega)), fun c => ?_⟩
      rw [f5, e13] at c; exact absurd (nI_le (by omega) (by omega)) c
    | succ k ih =>
      intro i hi hl hs
      have hp : i / 13 < N := by omega
      have hk : i % 13 < 13 := Nat.mod_lt _ (by omega)
      have ei : 13 * (i / 13) + i % 13 = i := Nat.div_add_mod i 13
      have g1 := hR.2.2.2.2.2.2.1 _ hp _ hk
      have g2 := hR2.2.2.2.2.2.2.1 _ hp _ hk
      rw [ei] at g1 g2
      have b1 := hW.hd hp hk
      have b2 := hW2.hd hp hk
      refine s_Deal_liesAs_33 k0 k1 ⟨fun c => ?_, fun _ => ?_⟩
      · rw [f5, e13] at c; exact absurd c (nI_ge (by omega) (by omega))
      · refine c_Row_get hR.2.1 (c_Row_get hR2.2.1 ?_)
        rw [rg_in D _ (show i < 78 by omega) (by omega), rg_in D _ (show i < 78 by omega) (by omega), show e + 1 + 1 = e + 2 by omega, show b + 1 + 1 = b + 2 by omega, g1, g2]
        refine ⟨fun c => ?_, fun c => ⟨_, rfl, h0 (fun q => c (by rw [q]))⟩⟩
        have eq := (nI_eq (by omega) (by omega)).mp c
        rw [nI_1]
        refine ih (i + 1) (by omega) hl (fun q hq k hk2 hlt => ?_)
        by_cases ej : 13 * q + k = i
        · have z1 : q = i / 13 := by omega
          have z2 : k = i % 13 := by omega
          rw [z1, z2]; exact eq
        · exact hs q hq k hk2 (by omega)
  -- first: how many wait
  have l1 : ∀ k p, p + k = N + 1 → (∀ q, q < p → (δ.2.2 q).length = (δ2.2.2 q).length) → xPf (d + 3) m_Deal_liesAs 2 [(0, .ref e), (1, .ref b), (2, .int (nI p))] [] D (fun r D' => ∃ x, r = some (.int x) ∧ P x D') := by
    intro k
    induction k with
    | zero =>
      intro p hp hs
      refine s_Deal_liesAs_2 k0 k1 ⟨fun _ => l2 (13 * N) 0 (by omega) (fun q hq => hs q (by omega)) (fun q hq k hk hlt => absurd hlt (by omega)), fun c => ?_⟩
      rw [f5] at c; exact absurd (nI_lt (by omega) (by omega)) c
    | succ k ih =>
      intro p hp hs
      have g1 := len p (by omega)
      have g2 := len2 p (by omega)
      refine s_Deal_liesAs_2 k0 k1 ⟨fun c => ?_, fun _ => ?_⟩
      · rw [f5] at c; exact absurd c (nI_nlt (by omega) (by omega))
      · refine c_Deal_waitsFor hR hN (by omega) (c_Deal_waitsFor hR2 hN (by omega) ⟨fun c => ?_, fun c => ⟨_, rfl, h0 (fun q => c (by rw [q]))⟩⟩)
        have eq := (nI_eq (by omega) (by omega)).mp c
        rw [nI_1]
        refine ih (p + 1) (by omega) (fun q hq => ?_)
        by_cases ej : q = p
        · rw [ej]; exact eq
        · exact hs q (by omega)
  exact l1 (N + 1) 0 (by omega) (fun q hq => absurd hq (by omega))
theorem c_Deal_copy {P : xD → Prop} (ke : xk e = 8) (hR : dR D b N A K δ) (hN : N ≤ 6) (hd : e + 11 ≤ b ∨ b + 11 ≤ e) (h : ∀ D', xOut e (e + 11) D D' → dR D' e N A K δ → P D') : xCv (d + 2) m_Deal_copy [.ref e, .ref b] D P := by
  obtain ⟨k1, k2, k3, k4, k5, k6, k7, k8, hl, al, k9, k10, k11, k12⟩ := hR
  have x1 : xl (e + 1 + 1) = 78 := cl_8_0 ke
  have x3 : xl (e + 3 + 1) = 6 := cl_8_1 ke
  have x5 : xl (e + 5 + 1) = 364 := cl_8_2 ke
  have x7 : xl (e + 7 + 1) = 7 := cl_8_3 ke
  have x9 : xl (e + 9 + 1) = 7 := cl_8_4 ke
  refine xCv_of y_Deal_copy (Nat.le_of_ble_eq_true rfl) (s_Deal_copy_0 ke k1.1 ?_)
  refine c_Row_copy (ck_8_0 ke) k2 (by omega) ?_
  have o1 := xOut_rcopy D (e + 1) (b + 1) 78
  have n1 := rcopy_n D (e + 1) (b + 1) 78
  have v1 : ∀ j, j < 78 → (rcopy D (e + 1) (b + 1) 78).1 (e + 2) j = D.1 (b + 2) j := fun j hj => by rw [show e + 2 = e + 1 + 1 by omega, rcopy_f, if_pos hj]
  generalize rcopy D (e + 1) (b + 1) 78 = D1 at o1 n1 v1 ⊢
  refine c_Row_copy (ck_8_1 ke) (k3.out o1 (by omega)) (by omega) ?_
  have o3 := xOut_rcopy D1 (e + 3) (b + 3) N
  have n3 := rcopy_n D1 (e + 3) (b + 3) N
  have v3 : ∀ j, j < N → (rcopy D1 (e + 3) (b + 3) N).1 (e + 4) j = D.1 (b + 4) j := fun j hj => by rw [show e + 4 = e + 3 + 1 by omega, rcopy_f, if_pos hj, show b + 3 + 1 = b + 4 by omega, o1.1 _ (by omega)]
  generalize rcopy D1 (e + 3) (b + 3) N = D2 at o3 n3 v3 ⊢
  refine c_Row_copy (ck_8_2 ke) ((k1.2.1.out o1 (by omega)).out o3 (by omega)) (by omega) ?_
  have o5 := xOut_rcopy D2 (e + 5) (b + 5) 364
  have n5 := rcopy_n D2 (e + 5) (b + 5) 364
  have v5 : ∀ j, j < 364 → (rcopy D2 (e + 5) (b + 5) 364).1 (e + 6) j = D.1 (b + 6) j := fun j hj => by rw [show e + 6 = e + 5 + 1 by omega, rcopy_f, if_pos hj, show b + 5 + 1 = b + 6 by omega, o3.1 _ (by omega), o1.1 _ (by omega)]
  generalize rcopy D2 (e + 5) (b + 5) 364 = D3 at o5 n5 v5 ⊢
  refine c_Row_copy (ck_8_3 ke) (((k1.2.2.1.out o1 (by omega)).out o3 (by omega)).out o5 (by omega)) (by omega) ?_
  have o7 := xOut_rcopy D3 (e + 7) (b + 7) 7
  have n7 := rcopy_n D3 (e + 7) (b + 7) 7
  have v7 : ∀ j, j < 7 → (rcopy D3 (e + 7) (b + 7) 7).1 (e + 8) j = D.1 (b + 8) j := fun j hj => by rw [show e + 8 = e + 7 + 1 by omega, rcopy_f, if_pos hj, show b + 7 + 1 = b + 8 by omega, o5.1 _ (by omega), o3.1 _ (by omega), o1.1 _ (by omega)]
  generalize rcopy D3 (e + 7) (b + 7) 7 = D4 at o7 n7 v7 ⊢
  refine c_Row_copy (ck_8_4 ke) ((((k1.2.2.2.out o1 (by omega)).out o3 (by omega)).out o5 (by omega)).out o7 (by omega)) (by omega) ?_
  have o9 := xOut_rcopy D4 (e + 9) (b + 9) 7
  have n9 := rcopy_n D4 (e + 9) (b + 9) 7
  have v9 : ∀ j, j < 7 → (rcopy D4 (e + 9) (b + 9) 7).1 (e + 10) j = D.1 (b + 10) j := fun j hj => by rw [show e + 10 = e + 9 + 1 by omega, rcopy_f, if_pos hj, show b + 9 + 1 = b + 10 by omega, o7.1 _ (by omega), o5.1 _ (by omega), o3.1 _ (by omega), o1.1 _ (by omega)]
  generalize rcopy D4 (e + 9) (b + 9) 7 = D5 at o9 n9 v9 ⊢
  have hb : ∀ j, D5.1 b j = D.1 b j := fun j => by rw [o9.1 _ (by omega), o7.1 _ (by omega), o5.1 _ (by omega), o3.1 _ (by omega), o1.1 _ (by omega)]
  have he : ∀ j, D5.1 e j = D.1 e j := fun j => by rw [o9.1 _ (by omega), o7.1 _ (by omega), o5.1 _ (by omega), o3.1 _ (by omega), o1.1 _ (by omega)]
  have hne : b ≠ e := by omega
  intro D6 e6 D7 e7 D8 e8 D9 e9 D10 e10
  have fe : ∀ j, D10.1 e j = if j = 9 then D.1 b 9 else if j = 8 then D.1 b 8 else if j = 7 then D.1 b 7 else if j = 6 then D.1 b 6 else if j = 5 then D.1 b 5 else D.1 e j := fun j => by
    have q : ∀ (D' : xD) (k : Nat) (v : Int32) (i : Nat), xu D'.1 e k v b i = D'.1 b i := fun D' k v i => by rw [xu_ne _ _ _ hne]
    rw [e10, e9, e8, e7, e6]
    simp only [xu_self, upd, xu_ne _ _ _ hne, hb, he]
  have fo : xOut e (e + 1) D5 D10 := ⟨fun i hi => by rw [e10, e9, e8, e7, e6]; simp [xu, show i ≠ e by omega], by rw [e10, e9, e8, e7, e6]⟩
  have all : xOut e (e + 11) D D10 := ((((o1.mono (by omega) (by omega)).trans (o3.mono (by omega) (by omega))).trans (o5.mono (by omega) (by omega))).trans ((o7.mono (by omega) (by omega)).trans (o9.mono (by omega) (by omega)))).trans (fo.mono (by omega) (by omega))
  refine ⟨rfl, h D10 all ⟨⟨ke, ⟨?_, by omega, ck_8_2 ke⟩, ⟨?_, by omega, ck_8_3 ke⟩, ⟨?_, by omega, ck_8_4 ke⟩⟩, ⟨?_, by omega, ck_8_0 ke⟩, ⟨?_, by omega, ck_8_1 ke⟩, ?_, ?_, ?_, fun p hp k hk => ?_, fun p hp => ?_, hl, al, k9, ?_, ?_, fun p hp => ?_⟩⟩
  · rw [fo.1 _ (by omega), o9.1 _ (by omega), o7.1 _ (by omega)]; exact n5
  · rw [fo.1 _ (by omega), o9.1 _ (by omega)]; exact n7
  · rw [fo.1 _ (by omega)]; exact n9
  · rw [fo.1 _ (by omega), o9.1 _ (by omega), o7.1 _ (by omega), o5.1 _ (by omega), o3.1 _ (by omega)]; exact n1
  · rw [fo.1 _ (by omega), o9.1 _ (by omega), o7.1 _ (by omega), o5.1 _ (by omega)]; exact n3
  · rw [fe]; simpa using k4
  · rw [fe]; simpa using k5
  · rw [fe]; simpa using k6
  · rw [fo.1 _ (by omega), o9.1 _ (by omega), o7.1 _ (by omega), o5.1 _ (by omega), o3.1 _ (by omega), v1 _ (by omega)]; exact k7 p hp k hk
  · rw [fo.1 _ (by omega), o9.1 _ (by omega), o7.1 _ (by omega), o5.1 _ (by omega), v3 _ hp]; exact k8 p hp
  · rw [fe]; simpa using k10
  · rw [fe]; simpa using k11
  · have hlt := dLane_lt k9 hN hp
    obtain ⟨g1, g2, g, g3, g4, g5⟩ := k12 p hp
    refine ⟨?_, g2, g, g3, ?_, fun i c hc => ⟨(g5 i c hc).1, ?_⟩⟩
    · rw [fo.1 _ (by omega), v9 _ hlt]; exact g1
    · rw [fo.1 _ (by omega), o9.1 _ (by omega), v7 _ hlt]; exact g4
    · rw [fo.1 _ (by omega), o9.1 _ (by omega), o7.1 _ (by omega), v5 _ (by omega)]; exact (g5 i c hc).2
end SAME
