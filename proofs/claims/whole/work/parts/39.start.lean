/-! A deal begins; deals that are copied and compared. -/
def cntr (c : Nat → Nat) (s : Nat) : Nat → Nat → Nat
  | 0, _ => 0
  | m + 1, k => cntr c s m k + (if c (s + m) = k then 1 else 0)
/-- DEALT: ALIKE cards to each of PEOPLE, the rest waits -/
def dInit (N A n : Nat) (c : Nat → Nat) : dS :=
  (fun p k => if p < N then cntr c (A * p) A k else 0, fun p => if p < N then A else 0, fun p => if p = 0 then (List.range (n - A * N)).map (fun i => c (A * N + i)) else [])
section START
variable {d : Nat} {D : xD} {e N A K n : Nat} {δ : dS}
theorem dR_at {δ' : dS} (q : δ = δ') (h : dR D e N A K δ) : dR D e N A K δ' := q ▸ h
theorem dR_h {D3 : xD} {p c v : Nat} (hp : p < N) (hc : c < 13) (hR : dR D3 e N A K δ) : dR (xu D3.1 (e + 2) (13 * p + c) (nI v), D3.2) e N A K (fun i k => if i = p ∧ k = c then v else δ.1 i k, δ.2) := by
  obtain ⟨k1, k2, k3, k4, k5, k6, k7, k8, hl, al, k9, k10, k11, k12⟩ := hR
  have vo : ∀ i, i ≠ e + 2 → (xu D3.1 (e + 2) (13 * p + c) (nI v)) i = D3.1 i := fun i a => xu_ne _ _ _ a
  have o : xOut (e + 2) (e + 3) D3 (xu D3.1 (e + 2) (13 * p + c) (nI v), D3.2) := ⟨fun i hi => vo i (by omega), rfl⟩
  refine ⟨k1.out o (by omega), k2.out o (by omega), k3.out o (by omega), by rw [o.1 _ (by omega)]; exact k4, by rw [o.1 _ (by omega)]; exact k5, by rw [o.1 _ (by omega)]; exact k6, fun i hi k hk => ?_, fun i hi => by rw [o.1 _ (by omega)]; exact k8 i hi, hl, al, k9, by rw [o.1 _ (by omega)]; exact k10, by rw [o.1 _ (by omega)]; exact k11, fun i hi => (k12 i hi).out o (by omega)⟩
  show xu D3.1 (e + 2) (13 * p + c) (nI v) (e + 2) _ = nI (if i = p ∧ k = c then v else δ.1 i k)
  rw [xu_self]
  unfold upd
  by_cases q : i = p ∧ k = c
  · rw [if_pos q, q.1, q.2, if_pos rfl]
  · rw [if_neg q, if_neg (by omega)]; exact k7 i hi k hk
theorem dR_enter {D' : xD} {p c hl al : Nat} (h0 : 0 < N) (hN : N ≤ 6) (hp : p ≤ N) (k1 : lnRows D e) (k2 : rS D (e + 1) 78) (k3 : rS D (e + 3) N) (k4 : D.1 e 5 = nI N) (k5 : D.1 e 6 = nI A) (k6 : D.1 e 7 = nI K)
    (k7 : ∀ p, p < N → ∀ k, k < 13 → D.1 (e + 2) (13 * p + k) = nI (δ.1 p k)) (k8 : ∀ p, p < N → D.1 (e + 4) p = nI (δ.2.1 p)) (k9 : (hl = 0 ∧ al = N) ∨ (hl = N ∧ al = 0)) (k10 : D.1 e 8 = nI hl) (k11 : D.1 e 9 = nI al) (k12 : ∀ p, p ≤ N → lnR D e (dLane N hl al p) (δ.2.2 p))
    (o3 : xOut (e + 6) (e + 11) D D') (r3 : lnRows D' e) (l1 : lnR D' e (dLane N hl al p) (δ.2.2 p ++ [c])) (l2 : ∀ n' l', n' < 7 → n' ≠ dLane N hl al p → lnR D e n' l' → lnR D' e n' l') :
    dR D' e N A K (δ.1, δ.2.1, fun i => if i = p then δ.2.2 i ++ [c] else δ.2.2 i) := by
  refine ⟨r3, k2.out o3 (by omega), k3.out o3 (by omega), by rw [o3.1 _ (by omega)]; exact k4, by rw [o3.1 _ (by omega)]; exact k5, by rw [o3.1 _ (by omega)]; exact k6, fun i hi k hk => by rw [o3.1 _ (by omega)]; exact k7 i hi k hk, fun i hi => by rw [o3.1 _ (by omega)]; exact k8 i hi, hl, al, k9, by rw [o3.1 _ (by omega)]; exact k10, by rw [o3.1 _ (by omega)]; exact k11, fun i hi => ?_⟩
  show lnR D' e _ (if i = p then δ.2.2 i ++ [c] else δ.2.2 i)
  by_cases q : i = p
  · rw [if_pos q, q]; exact l1
  · rw [if_neg q]
    exact l2 _ _ (dLane_lt k9 hN hi) (fun q2 => q (dLane_inj k9 h0 hi hp q2)) (k12 i hi)
theorem c_Deal_start {P : xD → Prop} {t a : Nat} {τ : Nat → Int32} {c : Nat → Nat} (ke : xk e = 8) (r5 : rS D (e + 5) 364) (hR : tR D t τ) (hT : tOK τ) (h0 : 0 < tN τ 5) (ha : rS D a n) (hn : n ≤ 52) (hc : ∀ j, j < n → D.1 (a + 1) j = nI (c j) ∧ c j < 13) (hA : tN τ 2 * tN τ 5 < n)
    (ht : t + 5 ≤ e ∨ e + 11 ≤ t) (hae : a + 2 ≤ e ∨ e + 11 ≤ a)
    (h : ∀ D', xOut e (e + 11) D D' → dR D' e (tN τ 5) (tN τ 2) (tN τ 0) (dInit (tN τ 5) (tN τ 2) n c) → P D') : xCv (d + 3) m_Deal_start [.ref e, .ref t, .ref a] D P := by
  have b5 := hT.2.2.2.2.2.2.1
  have b2 := hT.2.2.2.1
  have b0 := hT.2.1
  generalize eN : tN τ 5 = N at *
  generalize eA : tN τ 2 = A at *
  generalize eK : tN τ 0 = K at *
  refine xCv_of y_Deal_start (Nat.le_of_ble_eq_true rfl) (s_Deal_start_0 ke hR.1 ha.2.2 ?_)
  refine c_Table_people hR hT (fun D3 e3 => ?_)
  have o3 : xOut e (e + 11) D D3 := ⟨fun i hi => by rw [e3]; exact xu_ne _ _ _ (by omega), by rw [e3]⟩
  refine c_Table_alike (hR.out o3 (by omega)) hT (fun D6 e6 => ?_)
  have o6 : xOut e (e + 11) D D6 := o3.trans ⟨fun i hi => by rw [e6]; exact xu_ne _ _ _ (by omega), by rw [e6]⟩
  refine c_Table_kinds (hR.out o6 (by omega)) hT (fun D9 e9 D10 e10 D11 e11 => ?_)
  rw [eN] at e3; rw [eA] at e6; rw [eK] at e9
  have f5 : D10.1 e 5 = nI N := by rw [e10, e9, e6, e3]; simp [xu_self, upd]
  rw [f5] at e11
  have f11 : ∀ j, D11.1 e j = if j = 9 then nI N else if j = 8 then 0 else if j = 7 then nI K else if j = 6 then nI A else if j = 5 then nI N else D.1 e j := fun j => by
    rw [e11, e10, e9, e6, e3]; simp [xu_self, upd]
  have o11 : xOut e (e + 1) D D11 := ⟨fun i hi => by rw [e11, e10, e9, e6, e3]; simp [xu, show i ≠ e by omega], by rw [e11, e10, e9, e6, e3]⟩
  clear e3 o3 e6 o6 e9 e10 e11 f5
  have x1 : xl (e + 1 + 1) = 78 := cl_8_0 ke
  have x3 : xl (e + 3 + 1) = 6 := cl_8_1 ke
  have x7 : xl (e + 7 + 1) = 7 := cl_8_3 ke
  have x9 : xl (e + 9 + 1) = 7 := cl_8_4 ke
  refine c_Row_fill (k := 78) (ck_8_0 ke) (by omega) ?_
  have p1 : xOut (e + 1) (e + 3) D11 (fil (rsize D11 (e + 1) 78) (e + 1 + 1) 0 (xl (e + 1 + 1))) := ((xOut_rsize D11 (e + 1) 78).mono (by omega) (by omega)).trans ((xOut_fil _ (e + 1 + 1) _ 0).mono (by omega) (by omega))
  have v1 : ∀ j, j < 78 → (fil (rsize D11 (e + 1) 78) (e + 1 + 1) 0 (xl (e + 1 + 1))).1 (e + 2) j = 0 := fun j hj => by
    show (if e + 2 = e + 1 + 1 then fun k => if k < xl (e + 1 + 1) then (0 : Int32) else _ else _ : Nat → Int32) j = 0
    rw [if_pos (by omega), if_pos (by omega)]
  have w1 : rS (fil (rsize D11 (e + 1) 78) (e + 1 + 1) 0 (xl (e + 1 + 1))) (e + 1) 78 := (rS_rsize (by omega) (ck_8_0 ke)).out (xOut_fil _ (e + 1 + 1) _ 0) (by omega)
  generalize fil (rsize D11 (e + 1) 78) (e + 1 + 1) 0 (xl (e + 1 + 1)) = D12 at p1 v1 w1 ⊢
  have g5 : D12.1 e 5 = nI N := by rw [p1.1 e (by omega), f11]; simp
  have g6 : D12.1 e 6 = nI A := by rw [p1.1 e (by omega), f11]; simp
  rw [g5, g6]
  refine c_Row_fill (k := N) (ck_8_1 ke) (by omega) ?_
  have p3 : xOut (e + 3) (e + 5) D12 (fil (rsize D12 (e + 3) N) (e + 3 + 1) (nI A) (xl (e + 3 + 1))) := ((xOut_rsize D12 (e + 3) N).mono (by omega) (by omega)).trans ((xOut_fil _ (e + 3 + 1) _ _).mono (by omega) (by omega))
  have v3 : ∀ j, j < N → (fil (rsize D12 (e + 3) N) (e + 3 + 1) (nI A) (xl (e + 3 + 1))).1 (e + 4) j = nI A := fun j hj => by
    show (if e + 4 = e + 3 + 1 then fun k => if k < xl (e + 3 + 1) then nI A else _ else _ : Nat → Int32) j = _
    rw [if_pos (by omega), if_pos (by omega)]
  have w3 : rS (fil (rsize D12 (e + 3) N) (e + 3 + 1) (nI A) (xl (e + 3 + 1))) (e + 3) N := (rS_rsize (by omega) (ck_8_1 ke)).out (xOut_fil _ (e + 3 + 1) _ _) (by omega)
  generalize fil (rsize D12 (e + 3) N) (e + 3 + 1) (nI A) (xl (e + 3 + 1)) = D13 at p3 v3 w3 ⊢
  refine c_Row_fill (k := 7) (ck_8_3 ke) (by omega) ?_
  have p7 : xOut (e + 7) (e + 9) D13 (fil (rsize D13 (e + 7) 7) (e + 7 + 1) 0 (xl (e + 7 + 1))) := ((xOut_rsize D13 (e + 7) 7).mono (by omega) (by omega)).trans ((xOut_fil _ (e + 7 + 1) _ _).mono (by omega) (by omega))
  have v7 : ∀ j, j < 7 → (fil (rsize D13 (e + 7) 7) (e + 7 + 1) 0 (xl (e + 7 + 1))).1 (e + 8) j = 0 := fun j hj => by
    show (if e + 8 = e + 7 + 1 then fun k => if k < xl (e + 7 + 1) then (0 : Int32) else _ else _ : Nat → Int32) j = _
    rw [if_pos (by omega), if_pos (by omega)]
  have w7 : rS (fil (rsize D13 (e + 7) 7) (e + 7 + 1) 0 (xl (e + 7 + 1))) (e + 7) 7 := (rS_rsize (by omega) (ck_8_3 ke)).out (xOut_fil _ (e + 7 + 1) _ _) (by omega)
  generalize fil (rsize D13 (e + 7) 7) (e + 7 + 1) 0 (xl (e + 7 + 1)) = D14 at p7 v7 w7 ⊢
  refine c_Row_fill (k := 7) (ck_8_4 ke) (by omega) ?_
  have p9 : xOut (e + 9) (e + 11) D14 (fil (rsize D14 (e + 9) 7) (e + 9 + 1) 0 (xl (e + 9 + 1))) := ((xOut_rsize D14 (e + 9) 7).mono (by omega) (by omega)).trans ((xOut_fil _ (e + 9 + 1) _ _).mono (by omega) (by omega))
  have v9 : ∀ j, j < 7 → (fil (rsize D14 (e + 9) 7) (e + 9 + 1) 0 (xl (e + 9 + 1))).1 (e + 10) j = 0 := fun j hj => by
    show (if e + 10 = e + 9 + 1 then fun k => if k < xl (e + 9 + 1) then (0 : Int32) else _ else _ : Nat → Int32) j = _
    rw [if_pos (by omega), if_pos (by omega)]
  have w9 : rS (fil (rsize D14 (e + 9) 7) (e + 9 + 1) 0 (xl (e + 9 + 1))) (e + 9) 7 := (rS_rsize (by omega) (ck_8_4 ke)).out (xOut_fil _ (e + 9 + 1) _ _) (by omega)
  generalize fil (rsize D14 (e + 9) 7) (e + 9 + 1) 0 (xl (e + 9 + 1)) = D15 at p9 v9 w9 ⊢
  have oE : xOut e (e + 11) D D15 := (((o11.mono (by omega) (by omega)).trans (p1.mono (by omega) (by omega))).trans (p3.mono (by omega) (by omega))).trans ((p7.mono (by omega) (by omega)).trans (p9.mono (by omega) (by omega)))
  have hE : ∀ j, D15.1 e j = D11.1 e j := fun j => by rw [p9.1 e (by omega), p7.1 e (by omega), p3.1 e (by omega), p1.1 e (by omega)]
  have hD : dR D15 e N A K (fun _ _ => 0, fun p => if p < N then A else 0, fun _ => []) := by
    refine ⟨⟨ke, rS_of r5 ?_, w7.out p9 (by omega), w9⟩, ((w1.out p3 (by omega)).out p7 (by omega)).out p9 (by omega), (w3.out p7 (by omega)).out p9 (by omega), by rw [hE, f11]; simp, by rw [hE, f11]; simp, by rw [hE, f11]; simp, fun i hi k hk => ?_, fun i hi => ?_, 0, N, Or.inl ⟨rfl, rfl⟩, by rw [hE, f11]; rfl, by rw [hE, f11]; simp, fun i hi => ?_⟩
    · rw [p9.1 _ (by omega), p7.1 _ (by omega), p3.1 _ (by omega), p1.1 _ (by omega), o11.1 _ (by omega)]
    · rw [p9.1 _ (by omega), p7.1 _ (by omega), p3.1 _ (by omega)]
      exact v1 _ (by omega)
    · rw [p9.1 _ (by omega), p7.1 _ (by omega), v3 i hi]
      show nI A = nI (if i < N then A else 0)
      rw [if_pos hi]
    · have hlt := dLane_lt (Or.inl ⟨rfl, rfl⟩ : (0 = 0 ∧ N = N) ∨ (0 = N ∧ N = 0)) b5 hi
      exact ⟨v9 _ hlt, by simp, 0, by omega, by rw [p9.1 _ (by omega)]; exact v7 _ hlt, fun j x hx => by simp at hx⟩
  clear p1 v1 w1 p3 v3 w3 p7 v7 w7 p9 v9 w9 hE o11 f11 g5 g6
  have hcD : ∀ D', xOut e (e + 11) D D' → ∀ j, j < n → rg D' a n (nI j) = nI (c j) := fun D' o j hj => by
    rw [rg_in _ _ hj (by omega), o.1 (a + 1) (by omega)]; exact (hc j hj).1
  -- the rest waits
  have rest : ∀ k j, j + k = n → A * N ≤ j → ∀ D', xOut e (e + 11) D D' → dR D' e N A K (fun p k => if p < N then cntr c (A * p) A k else 0, fun p => if p < N then A else 0, fun p => if p = 0 then (List.range (j - A * N)).map (fun i => c (A * N + i)) else []) →
      xPf (d + 3) m_Deal_start 142 [(0, .ref e), (1, .ref t), (2, .ref a), (3, .int (nI j)), (4, .int (nI N))] [] D' (fun r D' => r = none ∧ P D') := by
    intro k
    induction k with
    | zero =>
      intro j hj hAj D' o hR'
      refine s_Deal_start_142 ke hR.1 ha.2.2 (c_Row_size (ha.out o (by omega)) ⟨fun _ => ⟨rfl, h D' o ?_⟩, fun q => absurd (nI_le (by omega) (by omega)) q⟩)
      rw [show n = j by omega]
      exact hR'
    | succ k ih =>
      intro j hj hAj D' o hR'
      refine s_Deal_start_142 ke hR.1 ha.2.2 (c_Row_size (ha.out o (by omega)) ⟨fun q => absurd q (nI_ge (by omega) (by omega)), fun _ => ?_⟩)
      refine c_Row_get (ha.out o (by omega)) ?_
      rw [hcD D' o j (by omega)]
      obtain ⟨k1, k2, k3, k4, k5, k6, k7, k8, hl, al, k9, k10, k11, k12⟩ := hR'
      rw [k10]
      have el : dLane N hl al 0 = hl := by unfold dLane; rw [if_neg (by omega), if_pos rfl]
      have q0 := k12 0 (by omega)
      rw [el] at q0
      have hlen : ((List.range (j - A * N)).map (fun i => c (A * N + i))).length < 52 := by simp; omega
      refine c_Deal_enter k1 q0 (by omega) hlen (hc j (by omega)).2 (fun D2 o2 r2 l1 l2 => ?_)
      have hD2 := dR_enter (p := 0) (by omega) b5 (by omega) k1 k2 k3 k4 k5 k6 k7 k8 k9 k10 k11 k12 o2 r2 (by rw [el]; exact l1) (by rw [el]; exact l2)
      rw [nI_1]
      refine ih (j + 1) (by omega) (by omega) D2 (o.trans (o2.mono (by omega) (Nat.le_refl _))) ?_
      refine dR_at ?_ hD2
      refine Prod.ext rfl (Prod.ext rfl (funext fun i => ?_))
      show (if i = 0 then (if i = 0 then (List.range (j - A * N)).map (fun i => c (A * N + i)) else []) ++ [c j] else if i = 0 then (List.range (j - A * N)).map (fun i => c (A * N + i)) else []) = (if i = 0 then (List.range (j + 1 - A * N)).map (fun i => c (A * N + i)) else [])
      by_cases q : i = 0
      · rw [if_pos q, if_pos q, if_pos q, show j + 1 - A * N = j - A * N + 1 by omega, List.range_succ, List.map_append]
        simp [show A * N + (j - A * N) = j by omega]
      · rw [if_neg q, if_neg q, if_neg q]
  -- hands, one after the other
  have one : ∀ k i, i + k = A → ∀ p, p < N → ∀ D', xOut e (e + 11) D D' → dR D' e N A K (fun q k => if q < p then cntr c (A * q) A k else if q = p then cntr c (A * p) i k else 0, fun p => if p < N then A else 0, fun _ => []) →
      (∀ D2, xOut e (e + 11) D D2 → dR D2 e N A K (fun q k => if q < p + 1 then cntr c (A * q) A k else 0, fun p => if p < N then A else 0, fun _ => []) → xPf (d + 3) m_Deal_start 87 [(0, .ref e), (1, .ref t), (2, .ref a), (3, .int (nI (A * (p + 1)))), (4, .int (nI (p + 1)))] [] D2 (fun r D' => r = none ∧ P D')) →
      xPf (d + 3) m_Deal_start 99 [(0, .ref e), (1, .ref t), (2, .ref a), (3, .int (nI (A * p + i))), (4, .int (nI p)), (5, .int (nI i))] [] D' (fun r D' => r = none ∧ P D') := by
    intro k
    induction k with
    | zero =>
      intro i hi p hp D' o hR' hk
      have f6 := hR'.2.2.2.2.1
      refine s_Deal_start_99 ke hR.1 ha.2.2 ⟨fun _ => ?_, fun q => ?_⟩
      · have := hk D' o (by
          refine dR_at ?_ hR'
          refine Prod.ext (funext fun q => funext fun k => ?_) rfl
          show (if q < p then cntr c (A * q) A k else if q = p then cntr c (A * p) i k else 0) = (if q < p + 1 then cntr c (A * q) A k else 0)
          by_cases q1 : q < p
          · rw [if_pos q1, if_pos (by omega)]
          · rw [if_neg q1]
            by_cases q2 : q = p
            · rw [if_pos q2, if_pos (by omega), q2, show i = A by omega]
            · rw [if_neg q2, if_neg (by omega)])
        rw [nI_1, show A * p + i = A * (p + 1) by rw [Nat.mul_succ]; omega]
        exact this
      · rw [f6] at q; exact absurd (nI_le (by omega) (by omega)) q
    | succ k ih =>
      intro i hi p hp D' o hR' hk
      have f6 := hR'.2.2.2.2.1
      have hApi : A * p + i < n := by
        have : A * (p + 1) ≤ A * N := Nat.mul_le_mul_left A (by omega)
        rw [Nat.mul_succ] at this
        omega
      refine s_Deal_start_99 ke hR.1 ha.2.2 ⟨fun q => ?_, fun _ => ?_⟩
      · rw [f6] at q; exact absurd q (nI_ge (by omega) (by omega))
      · refine c_Row_get (ha.out o (by omega)) ?_
        rw [hcD D' o _ hApi, ix13]
        have hc13 := (hc _ hApi).2
        refine c_Row_add hR'.2.1 ?_
        rw [radd_in _ _ _ (show 13 * p + c (A * p + i) < 78 by omega) (by omega), show e + 1 + 1 = e + 2 by omega]
        have f2 : D'.1 (e + 2) (13 * p + c (A * p + i)) = nI (cntr c (A * p) i (c (A * p + i))) := by
          have := hR'.2.2.2.2.2.2.1 p hp _ hc13
          rw [this]
          show nI (if p < p then _ else if p = p then cntr c (A * p) i (c (A * p + i)) else 0) = _
          rw [if_neg (by omega), if_pos rfl]
        rw [f2, nI_1, nI_1, nI_1]
        have hD2 := dR_h (v := cntr c (A * p) i (c (A * p + i)) + 1) hp hc13 hR'
        refine ih (i + 1) (by omega) p hp _ (o.trans ⟨fun i hi => xu_ne _ _ _ (by omega), rfl⟩) ?_ hk
        refine dR_at ?_ hD2
        refine Prod.ext (funext fun q => funext fun x => ?_) rfl
        show (if q = p ∧ x = c (A * p + i) then cntr c (A * p) i (c (A * p + i)) + 1 else if q < p then cntr c (A * q) A x else if q = p then cntr c (A * p) i x else 0) = (if q < p then cntr c (A * q) A x else if q = p then cntr c (A * p) (i + 1) x else 0)
        by_cases q1 : q = p
        · subst q1
          rw [if_neg (show ¬ q < q by omega), if_pos rfl, if_neg (show ¬ q < q by omega), if_pos rfl, cntr]
          by_cases q2 : x = c (A * q + i)
          · rw [if_pos ⟨rfl, q2⟩, q2, if_pos rfl]
          · rw [if_neg (fun z => q2 z.2), if_neg (fun z => q2 z.symm)]; rfl
        · rw [if_neg (fun z => q1 z.1)]
          by_cases q3 : q < p
          · rw [if_pos q3, if_pos q3]
          · rw [if_neg q3, if_neg q3, if_neg q1, if_neg q1]
  have all : ∀ k p, p + k = N → ∀ D', xOut e (e + 11) D D' → dR D' e N A K (fun q k => if q < p then cntr c (A * q) A k else 0, fun p => if p < N then A else 0, fun _ => []) →
      xPf (d + 3) m_Deal_start 87 [(0, .ref e), (1, .ref t), (2, .ref a), (3, .int (nI (A * p))), (4, .int (nI p))] [] D' (fun r D' => r = none ∧ P D') := by
    intro k
    induction k with
    | zero =>
      intro p hp D' o hR'
      have f5 := hR'.2.2.2.1
      refine s_Deal_start_87 ke hR.1 ha.2.2 ⟨fun _ => ?_, fun q => ?_⟩
      · have ep : p = N := by omega
        subst ep
        refine rest (n - A * p) (A * p) (by omega) (Nat.le_refl _) D' o ?_
        refine dR_at ?_ hR'
        refine Prod.ext rfl (Prod.ext rfl (funext fun i => ?_))
        show [] = (if i = 0 then (List.range (A * p - A * p)).map (fun i => c (A * p + i)) else [])
        rw [Nat.sub_self]
        split <;> rfl
      · rw [f5] at q; exact absurd (nI_le (by omega) (by omega)) q
    | succ k ih =>
      intro p hp D' o hR'
      have f5 := hR'.2.2.2.1
      refine s_Deal_start_87 ke hR.1 ha.2.2 ⟨fun q => ?_, fun _ => ?_⟩
      · rw [f5] at q; exact absurd q (nI_ge (by omega) (by omega))
      · refine one A 0 (by omega) p (by omega) D' o ?_ (fun D2 o2 hD2 => ih (p + 1) (by omega) D2 o2 hD2)
        refine dR_at ?_ hR'
        refine Prod.ext (funext fun q => funext fun k => ?_) rfl
        show (if q < p then cntr c (A * q) A k else 0) = (if q < p then cntr c (A * q) A k else if q = p then cntr c (A * p) 0 k else 0)
        by_cases q1 : q < p
        · rw [if_pos q1, if_pos q1]
        · rw [if_neg q1, if_neg q1]
          split <;> rfl
  refine all N 0 (by omega) D15 oE ?_
  refine dR_at ?_ hD
  refine Prod.ext (funext fun q => funext fun k => ?_) rfl
  show 0 = (if q < 0 then cntr c (A * q) A k else 0)
  rw [if_neg (by omega)]
end START
