/-! Rows once more: what is left of them, by their numbers. -/
section ROW3
variable {d : Nat} {D : xD} {a n : Nat}
theorem c_push {P : xD → Prop} {v : Int32} (hr : rS D a n) (hn : n < xl (a + 1)) (h : ∀ D', xOut a (a + 2) D D' → rS D' a (n + 1) → (∀ j, D'.1 (a + 1) j = if j = n then v else D.1 (a + 1) j) → P D') : xCv (d + 1) m_Row_push [.ref a, .int v] D P := by
  refine c_Row_push hr ?_
  have ep : rpush D a n v = (xu (xu D.1 (a + 1) n v) a 1 (nI (n + 1)), D.2) := by unfold rpush; rw [if_pos hn]
  rw [ep]
  refine h _ ⟨fun i q => by show xu _ _ _ _ i = _; rw [xu_ne _ _ _ (by omega), xu_ne _ _ _ (by omega)], rfl⟩ ⟨?_, by omega, hr.2.2⟩ (fun j => ?_)
  · show xu _ _ _ _ a 1 = _; rw [xu_self]; simp [upd]
  · show xu _ _ _ _ (a + 1) j = _; rw [xu_ne _ _ _ (by omega), xu_self]; rfl
theorem c_pushFull {P : xD → Prop} {v : Int32} (hr : rS D a n) (hn : ¬ n < xl (a + 1)) (h : P D) : xCv (d + 1) m_Row_push [.ref a, .int v] D P := by
  refine c_Row_push hr ?_
  have ep : rpush D a n v = D := by unfold rpush; rw [if_neg hn]
  rw [ep]; exact h
theorem c_set {P : xD → Prop} {i : Nat} {v : Int32} (hr : rS D a n) (hi : i < n) (h : ∀ D', xOut (a + 1) (a + 2) D D' → (∀ j, D'.1 (a + 1) j = if j = i then v else D.1 (a + 1) j) → P D') : xCv (d + 1) m_Row_set [.ref a, .int (nI i), .int v] D P := by
  have hl := hr.le
  refine c_Row_set hr ?_
  rw [rset_in _ _ _ hi (by omega)]
  exact h _ (xOut_f _ _ _ _) (fun j => by show xu _ _ _ _ (a + 1) j = _; rw [xu_self]; rfl)
theorem c_add {P : xD → Prop} {i : Nat} {v : Int32} (hr : rS D a n) (hi : i < n) (h : ∀ D', xOut (a + 1) (a + 2) D D' → (∀ j, D'.1 (a + 1) j = if j = i then D.1 (a + 1) i + v else D.1 (a + 1) j) → P D') : xCv (d + 1) m_Row_add [.ref a, .int (nI i), .int v] D P := by
  have hl := hr.le
  refine c_Row_add hr ?_
  rw [radd_in _ _ _ hi (by omega)]
  exact h _ (xOut_f _ _ _ _) (fun j => by show xu _ _ _ _ (a + 1) j = _; rw [xu_self]; rfl)
theorem c_fill {P : xD → Prop} {k : Nat} {v : Int32} (k0 : xk a = 2) (hk : k ≤ xl (a + 1)) (h : ∀ D', xOut a (a + 2) D D' → rS D' a k → (∀ j, j < xl (a + 1) → D'.1 (a + 1) j = v) → P D') : xCv (d + 2) m_Row_fill [.ref a, .int (nI k), .int v] D P := by
  refine c_Row_fill k0 hk ?_
  refine h _ ((xOut_rsize D a k).trans ((xOut_fil _ (a + 1) _ v).mono (by omega) (by omega))) ((rS_rsize hk k0).out (xOut_fil _ (a + 1) _ v) (by omega)) (fun j hj => ?_)
  show (if a + 1 = a + 1 then fun k => if k < xl (a + 1) then v else _ else _ : Nat → Int32) j = _
  rw [if_pos rfl, if_pos hj]
theorem c_clear {P : xD → Prop} (k0 : xk a = 2) (h : ∀ D', xOut a (a + 1) D D' → rS D' a 0 → P D') : xCv (d + 1) m_Row_clear [.ref a] D P :=
  c_Row_clear k0 (h _ ⟨fun i q => xu_ne _ _ _ (by omega), rfl⟩ (rS_rsize (Nat.zero_le _) k0))
theorem c_rcopy {P : xD → Prop} {b k : Nat} (ha : xk a = 2) (hb : rS D b k) (hk : k ≤ xl (a + 1)) (h : ∀ D', xOut a (a + 2) D D' → rS D' a k → (∀ j, j < k → D'.1 (a + 1) j = D.1 (b + 1) j) → P D') : xCv (d + 1) m_Row_copy [.ref a, .ref b] D P := by
  refine c_Row_copy ha hb hk (h _ (xOut_rcopy D a b k) ⟨rcopy_n _ _ _ _, hk, ha⟩ (fun j hj => ?_))
  rw [rcopy_f, if_pos hj]
theorem c_get {P : Int32 → xD → Prop} {i : Nat} (hr : rS D a n) (hi : i < n) (h : P (D.1 (a + 1) i) D) : xCi (d + 1) m_Row_get [.ref a, .int (nI i)] D P := by
  have hl := hr.le
  refine c_Row_get hr ?_
  rw [rg_in D _ hi (by omega)]; exact h
theorem c_getOut {P : Int32 → xD → Prop} {i : Nat} (hr : rS D a n) (hi : n ≤ i) (h3 : i < 2 ^ 31) (h : P 0 D) : xCi (d + 1) m_Row_get [.ref a, .int (nI i)] D P := by
  refine c_Row_get hr ?_
  rw [rg_out D _ hi h3]; exact h
end ROW3
theorem xOutS.out {v : Nat} {D D' : xD} (o : xOutS v D D') : xOut v (v + 35) D D' := ⟨fun i q => o.1 i (by omega) (by omega) (by omega), o.2.2⟩
/-! Several ROUNDS one behind the other. -/
def itr (f : Int32 → Int32) (x : Int32) : Nat → Int32
  | 0 => x
  | i + 1 => f (itr f x i)
/-- what is drawn by ahead of round i -/
def eX (τ : Nat → Int32) (seed : Int32) (i : Nat) : Int32 := itr (fun x => (shC τ x).2) seed i
theorem eX_s (τ : Nat → Int32) (seed : Int32) (i : Nat) : eX τ seed (i + 1) = (shC τ (eX τ seed i)).2 := rfl
/-- round i -/
noncomputable def eRho (τ : Nat → Int32) (seed : Int32) (i : Nat) : dS × (Nat → Nat) × Option Nat × Nat := rGo τ (tN τ 0 * tN τ 1) (shC τ (eX τ seed i)).1 tTop
theorem eRho_is (τ : Nat → Int32) (seed : Int32) (i : Nat) : eRho τ seed i = rGo τ (tN τ 0 * tN τ 1) (shC τ (eX τ seed i)).1 tTop := by unfold eRho; exact Eq.refl _
def eCnt (f : Nat → Option Nat) (o : Option Nat) : Nat → Nat
  | 0 => 0
  | k + 1 => eCnt f o k + (if f k = o then 1 else 0)
theorem eCnt_le (f : Nat → Option Nat) (o : Option Nat) : ∀ k, eCnt f o k ≤ k := by
  intro k
  induction k with
  | zero => exact Nat.le_refl _
  | succ k ih => rw [eCnt]; split <;> omega
theorem eCnt_congr {f g : Nat → Option Nat} {o : Option Nat} : ∀ {k : Nat}, (∀ i, i < k → f i = g i) → eCnt f o k = eCnt g o k := by
  intro k
  induction k with
  | zero => intro _; rfl
  | succ k ih => intro h; rw [eCnt, eCnt, ih (fun i hi => h i (by omega)), h k (by omega)]
theorem oI_inj {a b : Option Nat} (ha : ∀ p, a = some p → p < 2 ^ 31) (hb : ∀ p, b = some p → p < 2 ^ 31) : oI a = oI b ↔ a = b := by
  cases b with
  | none => exact oI_iff ha
  | some q =>
    cases a with
    | none => exact ⟨fun z => absurd ((oI_iff hb).mp z.symm) (fun y => by cases y), fun z => (by cases z)⟩
    | some p => exact ⟨fun z => (by rw [(nI_eq (ha p rfl) (hb q rfl)).mp z]), fun z => (by rw [z])⟩
theorem rcnt_o {f : Nat → Int32} {g : Nat → Option Nat} {o : Option Nat} (ho : ∀ p, o = some p → p < 2 ^ 31) : ∀ {k : Nat}, (∀ i, i < k → f i = oI (g i) ∧ ∀ p, g i = some p → p < 2 ^ 31) → rcnt f (oI o) k = eCnt g o k := by
  intro k
  induction k with
  | zero => intro _; rfl
  | succ k ih =>
    intro h
    rw [rcnt, eCnt, ih (fun i hi => h i (by omega)), (h k (by omega)).1]
    congr 1
    by_cases q : g k = o
    · rw [if_pos q, if_pos (by rw [q])]
    · rw [if_neg q, if_neg (fun z => q ((oI_inj (h k (by omega)).2 ho).mp z))]
/-- the PACK is more than all hold -/
def tFit (τ : Nat → Int32) : Prop := 2 ≤ tN τ 5 ∧ tN τ 2 * tN τ 5 < tN τ 0 * tN τ 1
/-- an Evenings at v has k ROUNDS -/
def eR (D : xD) (v : Nat) (τ : Nat → Int32) (seed : Int32) (k : Nat) : Prop :=
  rS D (v + 7) 364 ∧ rS D (v + 35) k ∧ rS D (v + 37) k ∧ (∀ i, i < k → D.1 (v + 36) i = oI (eRho τ seed i).2.2.1) ∧ ∀ i, i < k → D.1 (v + 38) i = nI (eRho τ seed i).2.2.2
section ROUNDS
variable {d : Nat} {D : xD} {v t : Nat} {τ : Nat → Int32}
theorem eR.out {D' : xD} {lo hi k : Nat} {seed : Int32} (h : eR D v τ seed k) (o : xOut lo hi D D') (q : v + 39 ≤ lo ∨ hi ≤ v + 7) : eR D' v τ seed k :=
  ⟨h.1.out o (by omega), h.2.1.out o (by omega), h.2.2.1.out o (by omega), fun i hi => by rw [o.1 _ (by omega)]; exact h.2.2.2.1 i hi, fun i hi => by rw [o.1 _ (by omega)]; exact h.2.2.2.2 i hi⟩
theorem c_Evenings_playRounds {P : xD → Prop} {k : Nat} {seed : Int32} (k0 : xk v = 10) (hR : tR D t τ) (hT : tOK τ) (hL : tLaw τ) (hF : tFit τ) (r7 : rS D (v + 7) 364) (ht : t + 5 ≤ v ∨ t = v + 45 ∨ v + 50 ≤ t) (hk : k ≤ 20)
    (h : ∀ D', xOut v (v + 39) D D' → eR D' v τ seed k → P D') : xCv (d + 7) m_Evenings_playRounds [.ref v, .ref t, .int seed, .int (nI k)] D P := by
  have bn := pack_le hT
  have l36 : xl (v + 35 + 1) = 20 := cl_10_2 k0
  have l38 : xl (v + 37 + 1) = 20 := cl_10_3 k0
  refine xCv_of y_Evenings_playRounds (Nat.le_of_ble_eq_true rfl) (s_Evenings_playRounds_0 k0 hR.1 (fun D1 e1 => ?_))
  have o1 : xOut v (v + 1) D D1 := by rw [e1]; exact xOut_f D v 8 _
  have x1 : D1.1 v 8 = seed := by rw [e1]; show xu D.1 v 8 _ v 8 = _; rw [xu_self]; simp [upd]
  clear e1
  refine c_clear (ck_10_2 k0) (fun D2 o2 w2 => c_clear (ck_10_3 k0) (fun D3 o3 w3 => ?_))
  have key : ∀ m i, i + m = k → ∀ D', xOut v (v + 39) D D' → D'.1 v 8 = eX τ seed i → eR D' v τ seed i →
      xPf (d + 7) m_Evenings_playRounds 22 [(0, .ref v), (1, .ref t), (2, .int seed), (3, .int (nI k)), (4, .int (nI i))] [] D' (fun r D' => r = none ∧ P D') := by
    intro m
    induction m with
    | zero =>
      intro i hi D' o hx hE
      have ei : i = k := by omega
      subst ei
      exact s_Evenings_playRounds_22 k0 hR.1 ⟨fun _ => ⟨rfl, h D' o hE⟩, fun q => absurd (nI_le (by omega) (by omega)) q⟩
    | succ m ih =>
      intro i hi D' o hx hE
      have hR' := hR.out o (by omega)
      refine s_Evenings_playRounds_22 k0 hR.1 ⟨fun q => absurd q (nI_ge (by omega) (by omega)), fun _ => ?_⟩
      refine c_Evenings_shuffle k0 hR' hT hx ht (fun D4 o4 w4 v4 x4 => ?_)
      have hE4 : eR D4 v τ seed i := ⟨hE.1.outS o4 (by omega), hE.2.1.outS o4 (by omega), hE.2.2.1.outS o4 (by omega), fun j hj => by rw [o4.1 _ (by omega) (by omega) (by omega)]; exact hE.2.2.2.1 j hj, fun j hj => by rw [o4.1 _ (by omega) (by omega) (by omega)]; exact hE.2.2.2.2 j hj⟩
      rw [tTop_i]
      refine c_Rounds_play (r := v + 1) (a := v + 33) (U := tTop) (ck_10_0 k0) (hR'.outS o4 ht) hT hL (by have := hF.1; omega) w4 bn (fun j hj => ⟨v4 j hj, shC_lt hT _ hj⟩) hF.2 hE4.1 (by omega) (by omega) (by rw [tTop_is]; omega) (fun D5 o5 hR5 g6 g7 => ?_)
      have f5 := o5.out
      refine c_push (hE4.2.1.out f5 (by omega)) (by omega) (fun D6 o6 w6 v6 => ?_)
      have f7 : D6.1 (v + 1) 7 = D5.1 (v + 1) 7 := by rw [o6.1 _ (by omega)]
      refine c_push ((hE4.2.2.1.out f5 (by omega)).out o6 (by omega)) (by omega) (fun D7 o7 w7 v7 => ?_)
      rw [nI_1]
      refine ih (i + 1) (by omega) D7 (o.trans ((o4.out.mono (by omega) (by omega)).trans ((f5.mono (by omega) (by omega)).trans ((o6.mono (by omega) (by omega)).trans (o7.mono (by omega) (by omega)))))) ?_ ⟨?_, w6.out o7 (by omega), w7, fun j hj => ?_, fun j hj => ?_⟩
      · rw [o7.1 _ (by omega), o6.1 _ (by omega), f5.1 _ (by omega), x4, eX_s]
      · exact (hR5.1.1.2.1.out o6 (by omega)).out o7 (by omega)
      · rw [o7.1 _ (by omega), show v + 36 = v + 35 + 1 by omega, v6]
        by_cases q : j = i
        · rw [if_pos q, g6, q, eRho_is]
        · rw [if_neg q, show v + 35 + 1 = v + 36 by omega, f5.1 _ (by omega)]; exact hE4.2.2.2.1 j (by omega)
      · rw [show v + 38 = v + 37 + 1 by omega, v7]
        by_cases q : j = i
        · rw [if_pos q, f7, g7, q, eRho_is]
        · rw [if_neg q, show v + 37 + 1 = v + 38 by omega, o6.1 _ (by omega), f5.1 _ (by omega)]; exact hE4.2.2.2.2 j (by omega)
  exact key k 0 (by omega) D3 ((o1.mono (by omega) (by omega)).trans ((o2.mono (by omega) (by omega)).trans (o3.mono (by omega) (by omega)))) (by rw [o3.1 _ (by omega), o2.1 _ (by omega), x1]; rfl) ⟨((r7.out o1 (by omega)).out o2 (by omega)).out o3 (by omega), w2.out o3 (by omega), w3, fun i hi => absurd hi (by omega), fun i hi => absurd hi (by omega)⟩
end ROUNDS
