/-! The Reader reads a text. -/
/-- the token that was stepped to from p on is the present one -/
def tkR (D : xD) (a : Nat) (t : Nat × (Nat → Nat)) (p : Nat) : Prop := p ≤ t.1 ∧ D.1 a 4 = nI (tK t p) ∧ D.1 a 5 = nI (tS t p) ∧ D.1 a 6 = nI (tE t p)
/-- it is broken off -/
def brR (D : xD) (a b : Nat) : Prop := D.1 a 8 = 1 ∧ D.1 a 9 = 1 ∧ D.1 a 10 = nI b
/-- nothing but fields and the rows of numbers has changed -/
def rdF (D D' : xD) (a : Nat) : Prop := (∀ i, i ≠ a → (i < a + 22 ∨ a + 26 ≤ i) → D'.1 i = D.1 i) ∧ D'.2 = D.2
theorem rdF.rfl' {D : xD} {a : Nat} : rdF D D a := ⟨fun _ _ _ => rfl, rfl⟩
theorem rdF.trans {D D1 D2 : xD} {a : Nat} (h1 : rdF D D1 a) (h2 : rdF D1 D2 a) : rdF D D2 a := ⟨fun i x y => (h2.1 i x y).trans (h1.1 i x y), h2.2.trans h1.2⟩
theorem rdF.fld {D D1 : xD} {a : Nat} (o : xOut a (a + 1) D D1) : rdF D D1 a := ⟨fun i x _ => o.1 i (by omega), o.2⟩
theorem rdF.row {D D1 : xD} {a lo hi : Nat} (o : xOut lo hi D D1) (q : a + 22 ≤ lo ∧ hi ≤ a + 26) : rdF D D1 a := ⟨fun i _ y => o.1 i (by omega), o.2⟩
theorem rdF.out {D D1 : xD} {a : Nat} (h : rdF D D1 a) : xOut a (a + 26) D D1 := ⟨fun i q => h.1 i (by omega) (by omega), h.2⟩
theorem rdF.two {D D1 : xD} {a : Nat} (h : rdF D D1 a) : ∃ D2, xOut a (a + 1) D D2 ∧ xOut (a + 22) (a + 26) D2 D1 := by
  refine ⟨(fun i => if i = a then D1.1 a else D.1 i, D.2), ⟨fun i q => if_neg (by omega), rfl⟩, ⟨fun i q => ?_, h.2⟩⟩
  show D1.1 i = if i = a then D1.1 a else D.1 i
  by_cases e : i = a
  · rw [if_pos e, e]
  · rw [if_neg e]; exact h.1 i e q
theorem rdT.fr {D D1 : xD} {a : Nat} {t : Nat × (Nat → Nat)} (h : rdT D a t) (o : rdF D D1 a) : rdT D1 a t := by
  obtain ⟨D2, o1, o2⟩ := o.two
  exact (h.out o1 (by omega)).out o2 (by omega)
theorem clR.fr {D D1 : xD} {a s : Nat} {ξ : Nat → Int32} (h : clR D (a + 3) s ξ) (o : rdF D D1 a) : clR D1 (a + 3) s ξ := by
  obtain ⟨D2, o1, o2⟩ := o.two
  exact (h.out o1 (by omega)).out o2 (by omega)
theorem rdQ.fr {D D1 : xD} {a s : Nat} {q : qS} (h : rdQ D a s q) (o : rdF D D1 a) (f : ∀ j, 7 < j → D1.1 a j = D.1 a j) : rdQ D1 a s q := by
  obtain ⟨r1, r2, r3, r4, r5, r6, r7, r8⟩ := h
  exact ⟨r1, by rw [f 8 (by omega)]; exact r2, by rw [f 9 (by omega)]; exact r3, by rw [f 10 (by omega)]; exact r4, by rw [f 11 (by omega)]; exact r5, by rw [f 12 (by omega)]; exact r6, r7.fr o, r8⟩
theorem rdO_tk {D D1 : xD} {a p : Nat} {t : Nat × (Nat → Nat)} (h : tkR D a t p) (o : rdO D D1 a) : tkR D1 a t p := ⟨h.1, by rw [o.2.1 4 (by omega)]; exact h.2.1, by rw [o.2.1 5 (by omega)]; exact h.2.2.1, by rw [o.2.1 6 (by omega)]; exact h.2.2.2⟩
theorem rdO_T {D D1 : xD} {a : Nat} {t : Nat × (Nat → Nat)} (h : rdT D a t) (o : rdO D D1 a) : rdT D1 a t :=
  ⟨h.1, rS_of h.2.1 (by rw [o.1 (a + 1) (by omega)]), h.2.2.1, fun j hj => by rw [o.1 (a + 2) (by omega)]; exact h.2.2.2 j hj⟩
section READ
variable {d : Nat} {D : xD} {a s p : Nat} {t : Nat × (Nat → Nat)} {q : qS}
theorem c_stepK {P : xD → Prop} (hR : rdT D a t) (hk : tkR D a t p) (h : ∀ D', xOut a (a + 1) D D' → tkR D' a t (tE t p) → (∀ j, 6 < j → D'.1 a j = D.1 a j) → P D') : xCv (d + 4) m_Reader_step [.ref a] D P :=
  c_step hR hk.2.2.2 (tE_le hk.1) (fun D' o a1 a2 a3 a4 => h D' o ⟨tE_le hk.1, a1, a2, a3⟩ a4)
theorem c_breakOff {P : xD → Prop} (k0 : xk a = 6) (hk : tkR D a t p) (h : ∀ D', xOut a (a + 1) D D' → brR D' a (tS t p) → P D') : xCv (d + 1) m_Reader_breakOff [.ref a] D P := by
  refine xCv_of y_Reader_breakOff (Nat.le_of_ble_eq_true rfl) (s_Reader_breakOff_0 k0 (fun D1 e1 D2 e2 D3 e3 => ?_))
  obtain ⟨o1, f1⟩ := fld e1
  obtain ⟨o2, f2⟩ := fld e2
  obtain ⟨o3, f3⟩ := fld e3
  refine ⟨rfl, h D3 (o1.trans (o2.trans o3)) ⟨?_, ?_, ?_⟩⟩
  · rw [f3, if_neg (by omega), f2, if_neg (by omega), f1, if_pos rfl]
  · rw [f3, if_neg (by omega), f2, if_pos rfl]
  · rw [f3, if_pos rfl, f2, if_neg (by omega), f1, if_neg (by omega)]; exact hk.2.2.1
theorem c_readNumbers {Q : xD → Prop} {le mo k : Nat} {V P : Nat → Nat} (hR : rdT D a t) (hk : tkR D a t p) (hN : nuR D a k V P) (hmo : k + mo ≤ 600) (hle : le ≤ 600)
    (h1 : ∀ D', rdF D D' a → (∀ j, 6 < j → D'.1 a j = D.1 a j) → tkR D' a t (nx t p (cN t mo p)) → nuR D' a (k + cN t mo p) (fun i => if i < k then V i else tV t (nx t p (i - k))) (fun i => if i < k then P i else tS t (nx t p (i - k))) → le ≤ cN t mo p → Q D')
    (h0 : ∀ D', rdF D D' a → brR D' a (tS t (nx t p (cN t mo p))) → cN t mo p < le → Q D') : xCv (d + 5) m_Reader_readNumbers [.ref a, .int (nI le), .int (nI mo)] D Q := by
  have l23 : xl (a + 22 + 1) = 600 := cl_6_2 hR.1
  have l25 : xl (a + 24 + 1) = 600 := cl_6_3 hR.1
  have hn := hR.2.2.1
  have hcm := cN_le t mo p
  refine xCv_of y_Reader_readNumbers (Nat.le_of_ble_eq_true rfl) (s_Reader_readNumbers_0 hR.1 ?_)
  have fin : ∀ i, i = cN t mo p → ∀ D', rdF D D' a → (∀ j, 6 < j → D'.1 a j = D.1 a j) → tkR D' a t (nx t p i) → nuR D' a (k + i) (fun i => if i < k then V i else tV t (nx t p (i - k))) (fun i => if i < k then P i else tS t (nx t p (i - k))) → (nI le ≤ nI i → (none : Option Value) = none ∧ Q D') ∧ (¬ nI le ≤ nI i → xCv (d + 4) m_Reader_breakOff [.ref a] D' (fun D1 => (none : Option Value) = none ∧ Q D1)) := by
    intro i ei D' oD f7 hk' hN'
    subst ei
    refine ⟨fun c => ⟨rfl, h1 D' oD f7 hk' hN' ((nI_leI (by omega) (by omega)).mp c)⟩, fun c => c_breakOff hR.1 hk' (fun D1 o1 b1 => ⟨rfl, h0 D1 (oD.trans (rdF.fld o1)) b1 (Nat.lt_of_not_le (fun z => c (nI_le z (by omega))))⟩)⟩
  have key : ∀ m i, i + m = mo → cN t mo p = i + cN t m (nx t p i) → ∀ D', rdF D D' a → (∀ j, 6 < j → D'.1 a j = D.1 a j) → tkR D' a t (nx t p i) → nuR D' a (k + i) (fun i => if i < k then V i else tV t (nx t p (i - k))) (fun i => if i < k then P i else tS t (nx t p (i - k))) →
      xPf (d + 5) m_Reader_readNumbers 2 [(0, .ref a), (1, .int (nI le)), (2, .int (nI mo)), (3, .int (nI i))] [] D' (fun r D' => r = none ∧ Q D') := by
    intro m
    induction m with
    | zero =>
      intro i hi hc D' oD f7 hk' hN'
      exact s_Reader_readNumbers_2 hR.1 ⟨fun _ => fin i (by rw [hc]; rfl) D' oD f7 hk' hN', fun z => absurd (nI_le (by omega) (by omega)) z⟩
    | succ m ih =>
      intro i hi hc D' oD f7 hk' hN'
      rw [cN] at hc
      have hK4 := tK_lt t (nx t p i)
      refine s_Reader_readNumbers_2 hR.1 ⟨fun z => absurd z (nI_ge (by omega) (by omega)), fun _ => ?_⟩
      rw [hk'.2.1]
      have e1 : nI (tK t (nx t p i)) = (1 : Int32) ↔ tK t (nx t p i) = 1 := nI_eq (b := 1) (by omega) (by omega)
      rw [e1]
      refine ⟨fun c => fin i (by rw [if_neg c] at hc; omega) D' oD f7 hk' hN', fun c => ?_⟩
      rw [if_pos c] at hc
      have hR' := hR.fr oD
      have hpi := nx_le hk.1 i
      have hSi := tS_le hpi
      refine c_numberHere hR' hpi c hk'.2.2.1 hk'.2.2.2 ?_
      refine c_push hN'.1 (by omega) (fun D5 o5 w5 v5 => ?_)
      rw [o5.1 a (by omega), hk'.2.2.1]
      refine c_push (hN'.2.1.out o5 (by omega)) (by omega) (fun D6 o6 w6 v6 => ?_)
      have oD6 : rdF D D6 a := oD.trans ((rdF.row o5 (by omega)).trans (rdF.row o6 (by omega)))
      have fa : D6.1 a = D'.1 a := by rw [o6.1 _ (by omega), o5.1 _ (by omega)]
      have hk6 : tkR D6 a t (nx t p i) := ⟨hk'.1, by rw [fa]; exact hk'.2.1, by rw [fa]; exact hk'.2.2.1, by rw [fa]; exact hk'.2.2.2⟩
      refine c_stepK (hR.fr oD6) hk6 (fun D7 o7 k7 f6 => ?_)
      rw [nI_1 i]
      refine ih (i + 1) (by omega) (by rw [hc]; show i + (cN t m (tE t (nx t p i)) + 1) = i + 1 + cN t m (tE t (nx t p i)); omega) D7 (oD6.trans (rdF.fld o7)) (fun j hj => by rw [f6 j hj, fa]; exact f7 j hj) k7 ⟨?_, ?_, fun j hj => ?_⟩
      · exact (w5.out o6 (by omega)).out o7 (by omega)
      · exact w6.out o7 (by omega)
      · rw [o7.1 _ (by omega), o7.1 _ (by omega), o6.1 (a + 23) (by omega), show a + 23 = a + 22 + 1 by omega, v5, show a + 25 = a + 24 + 1 by omega, v6]
        by_cases z : j = k + i
        · have e : j - k = i := by omega
          have nk : ¬ j < k := by omega
          rw [if_pos z, if_pos z]
          simp only [if_neg nk, e]
          exact ⟨trivial, trivial, tV_lt c, by omega⟩
        · rw [if_neg z, if_neg z, o5.1 (a + 24 + 1) (by omega)]
          exact hN'.2.2 j (by omega)
  exact key mo 0 (by omega) (by rw [Nat.zero_add]; rfl) D rdF.rfl' (fun _ _ => rfl) hk ⟨hN.1, hN.2.1, fun j hj => by
    have hj' : j < k := hj
    simp only [if_pos hj']; exact hN.2.2 j hj'⟩
theorem c_least {P : Int32 → xD → Prop} {f : Nat} (hf : f < 30) (h : P (nI (lsN f)) D) : xCi (d + 1) m_Reader_leastNumbers [.int (nI f)] D P := by
  refine xCi_of y_Reader_leastNumbers (Nat.le_of_ble_eq_true rfl) (s_Reader_leastNumbers_0 ?_)
  have e : ∀ u : Nat, u < 30 → (nI f = nI u ↔ f = u) := fun u hu => nI_eq (by omega) (by omega)
  have e5 : nI f = (5 : Int32) ↔ f = 5 := e 5 (by omega)
  have e21 : nI f = (21 : Int32) ↔ f = 21 := e 21 (by omega)
  unfold lsN at h
  rw [e5, e21]
  refine ⟨fun c => ⟨fun c1 => ⟨_, rfl, ?_⟩, fun c1 => ⟨_, rfl, ?_⟩⟩, fun c => ⟨_, rfl, ?_⟩⟩
  · rw [if_neg c, if_neg c1] at h; exact h
  · rw [if_neg c, if_pos c1] at h; exact h
  · rw [if_pos c] at h; exact h
theorem c_most {P : Int32 → xD → Prop} {f : Nat} (hf : f < 30) (h : P (nI (msN f)) D) : xCi (d + 2) m_Reader_mostNumbers [.int (nI f)] D P := by
  refine xCi_of y_Reader_mostNumbers (Nat.le_of_ble_eq_true rfl) (s_Reader_mostNumbers_0 ?_)
  have e : ∀ u : Nat, u < 30 → (nI f = nI u → f = u) := fun u hu => (nI_eq (by omega) (by omega)).mp
  unfold msN at h
  rw [tSix_i]
  refine ⟨fun c => ⟨_, rfl, ?_⟩, fun c => ⟨_, rfl, ?_⟩, fun c => ⟨_, rfl, ?_⟩, fun c => ⟨_, rfl, ?_⟩, fun c => c_least hf ⟨_, rfl, ?_⟩⟩
  · rw [if_pos (by have := e 8 (by omega) c; omega)] at h; exact h
  · rw [if_pos (by have := e 9 (by omega) c; omega)] at h; exact h
  · rw [if_pos (by have := e 10 (by omega) c; omega)] at h; exact h
  · rw [if_pos (by have := e 11 (by omega) c; omega)] at h; exact h
  · rw [nI_toInt (by omega)] at c
    rw [if_neg (by omega)] at h; exact h
/-- one word after the other -/
theorem says1 {P : Int32 → xD → Prop} {k f : Nat} {l : List (Nat × Nat)} (hR : rdT D a t) (hk : tkR D a t p) (hk21 : k < 21) (h1 : firstW t p ((k, f) :: l) = some f → P 1 D) (h0 : firstW t p ((k, f) :: l) = firstW t p l → P 0 D) : xCi (d + 6) m_Reader_says [.ref a, .ref (100000 + k)] D P :=
  c_says hR hk21 hk.1 hk.2.2.1 hk.2.2.2 (fun w => h1 (firstW_t w)) (fun w => h0 (firstW_f w))
theorem c_tableForm {P : Int32 → xD → Prop} (hR : rdT D a t) (hk : tkR D a t p) (h : P (oI (firstW t p (lnF 0))) D) : xCi (d + 7) m_Reader_tableForm [.ref a] D P := by
  have e0 : lnF 0 = [(0, 0), (1, 1), (2, 2), (3, 3), (4, 4), (5, 5), (6, 6), (7, 7)] := rfl
  rw [e0] at h
  refine xCi_of y_Reader_tableForm (Nat.le_of_ble_eq_true rfl) (s_Reader_tableForm_0 hR.1 ?_)
  refine says1 (k := 0) (f := 0) (l := [(1, 1), (2, 2), (3, 3), (4, 4), (5, 5), (6, 6), (7, 7)]) hR hk (by omega) (fun w => z1 ⟨_, rfl, by rw [w] at h; exact h⟩) (fun w => z0 ?_)
  rw [w] at h
  refine says1 (k := 1) (f := 1) (l := [(2, 2), (3, 3), (4, 4), (5, 5), (6, 6), (7, 7)]) hR hk (by omega) (fun w => z1 ⟨_, rfl, by rw [w] at h; exact h⟩) (fun w => z0 ?_)
  rw [w] at h
  refine says1 (k := 2) (f := 2) (l := [(3, 3), (4, 4), (5, 5), (6, 6), (7, 7)]) hR hk (by omega) (fun w => z1 ⟨_, rfl, by rw [w] at h; exact h⟩) (fun w => z0 ?_)
  rw [w] at h
  refine says1 (k := 3) (f := 3) (l := [(4, 4), (5, 5), (6, 6), (7, 7)]) hR hk (by omega) (fun w => z1 ⟨_, rfl, by rw [w] at h; exact h⟩) (fun w => z0 ?_)
  rw [w] at h
  refine says1 (k := 4) (f := 4) (l := [(5, 5), (6, 6), (7, 7)]) hR hk (by omega) (fun w => z1 ⟨_, rfl, by rw [w] at h; exact h⟩) (fun w => z0 ?_)
  rw [w] at h
  refine says1 (k := 5) (f := 5) (l := [(6, 6), (7, 7)]) hR hk (by omega) (fun w => z1 ⟨_, rfl, by rw [w] at h; exact h⟩) (fun w => z0 ?_)
  rw [w] at h
  refine says1 (k := 6) (f := 6) (l := [(7, 7)]) hR hk (by omega) (fun w => z1 ⟨_, rfl, by rw [w] at h; exact h⟩) (fun w => z0 ?_)
  rw [w] at h
  refine says1 (k := 7) (f := 7) (l := []) hR hk (by omega) (fun w => z1 ⟨_, rfl, by rw [w] at h; exact h⟩) (fun w => z0 ⟨_, rfl, ?_⟩)
  rw [w] at h
  exact h
theorem c_deedForm {P : Int32 → xD → Prop} (hR : rdT D a t) (hk : tkR D a t p) (h : P (oI (firstW t p (lnF 2))) D) : xCi (d + 7) m_Reader_deedForm [.ref a] D P := by
  have e0 : lnF 2 = [(9, 20), (10, 21), (11, 22), (12, 23), (13, 24)] := rfl
  rw [e0] at h
  refine xCi_of y_Reader_deedForm (Nat.le_of_ble_eq_true rfl) (s_Reader_deedForm_0 hR.1 ?_)
  refine says1 (k := 9) (f := 20) (l := [(10, 21), (11, 22), (12, 23), (13, 24)]) hR hk (by omega) (fun w => z1 ⟨_, rfl, by rw [w] at h; exact h⟩) (fun w => z0 ?_)
  rw [w] at h
  refine says1 (k := 10) (f := 21) (l := [(11, 22), (12, 23), (13, 24)]) hR hk (by omega) (fun w => z1 ⟨_, rfl, by rw [w] at h; exact h⟩) (fun w => z0 ?_)
  rw [w] at h
  refine says1 (k := 11) (f := 22) (l := [(12, 23), (13, 24)]) hR hk (by omega) (fun w => z1 ⟨_, rfl, by rw [w] at h; exact h⟩) (fun w => z0 ?_)
  rw [w] at h
  refine says1 (k := 12) (f := 23) (l := [(13, 24)]) hR hk (by omega) (fun w => z1 ⟨_, rfl, by rw [w] at h; exact h⟩) (fun w => z0 ?_)
  rw [w] at h
  refine says1 (k := 13) (f := 24) (l := []) hR hk (by omega) (fun w => z1 ⟨_, rfl, by rw [w] at h; exact h⟩) (fun w => z0 ⟨_, rfl, ?_⟩)
  rw [w] at h
  exact h
theorem c_lawHere {P : Int32 → xD → Prop} (hR : rdT D a t) (hk : tkR D a t p) (h : P (oI (firstW t p lawF)) D) : xCi (d + 7) m_Reader_lawHere [.ref a] D P := by
  have e0 : lawF = [(17, 0), (18, 1), (19, 2), (20, 3)] := rfl
  rw [e0] at h
  refine xCi_of y_Reader_lawHere (Nat.le_of_ble_eq_true rfl) (s_Reader_lawHere_0 hR.1 ?_)
  refine says1 (k := 17) (f := 0) (l := [(18, 1), (19, 2), (20, 3)]) hR hk (by omega) (fun w => z1 ⟨_, rfl, by rw [w] at h; exact h⟩) (fun w => z0 ?_)
  rw [w] at h
  refine says1 (k := 18) (f := 1) (l := [(19, 2), (20, 3)]) hR hk (by omega) (fun w => z1 ⟨_, rfl, by rw [w] at h; exact h⟩) (fun w => z0 ?_)
  rw [w] at h
  refine says1 (k := 19) (f := 2) (l := [(20, 3)]) hR hk (by omega) (fun w => z1 ⟨_, rfl, by rw [w] at h; exact h⟩) (fun w => z0 ?_)
  rw [w] at h
  refine says1 (k := 20) (f := 3) (l := []) hR hk (by omega) (fun w => z1 ⟨_, rfl, by rw [w] at h; exact h⟩) (fun w => z0 ⟨_, rfl, ?_⟩)
  rw [w] at h
  exact h
theorem c_formOf {P : Int32 → xD → Prop} (hs : s < 5) (hR : rdT D a t) (hk : tkR D a t p) (h : P (oI (firstW t p (lnF s))) D) : xCi (d + 8) m_Reader_formOf [.ref a, .int (nI s)] D P := by
  have inj : ∀ u : Nat, u < 10 → nI s = nI u → s = u := fun u hu q => (nI_eq (by omega) (by omega)).mp q
  refine xCi_of y_Reader_formOf (Nat.le_of_ble_eq_true rfl) (s_Reader_formOf_0 hR.1 ⟨fun c => ?_, fun c => ?_, fun c => ?_, fun c => ?_, fun c => ?_, fun c => ?_⟩)
  · have e := inj 0 (by omega) c; subst e
    exact c_tableForm hR hk ⟨_, rfl, h⟩
  · have e := inj 1 (by omega) c; subst e
    have e0 : lnF 1 = [(8, 8)] := rfl
    rw [e0] at h
    refine says1 (k := 8) (f := 8) (l := []) hR hk (by omega) (fun w => z1 ⟨_, rfl, by rw [w] at h; exact h⟩) (fun w => z0 ⟨_, rfl, by rw [w] at h; exact h⟩)
  · have e := inj 2 (by omega) c; subst e
    exact c_deedForm hR hk ⟨_, rfl, h⟩
  · have e := inj 3 (by omega) c; subst e
    have e0 : lnF 3 = [(14, 9), (15, 10)] := rfl
    rw [e0] at h
    refine says1 (k := 14) (f := 9) (l := [(15, 10)]) hR hk (by omega) (fun w => z1 ⟨_, rfl, by rw [w] at h; exact h⟩) (fun w => z0 ?_)
    rw [w] at h
    refine says1 (k := 15) (f := 10) (l := []) hR hk (by omega) (fun w => z1 ⟨_, rfl, by rw [w] at h; exact h⟩) (fun w => z0 ⟨_, rfl, by rw [w] at h; exact h⟩)
  · have e := inj 4 (by omega) c; subst e
    have e0 : lnF 4 = [(16, 11)] := rfl
    rw [e0] at h
    refine says1 (k := 16) (f := 11) (l := []) hR hk (by omega) (fun w => z1 ⟨_, rfl, by rw [w] at h; exact h⟩) (fun w => z0 ⟨_, rfl, by rw [w] at h; exact h⟩)
  · rw [nI_toInt (by omega)] at c; omega
/-- a line tells -/
theorem c_tell {Q : xD → Prop} {f first k : Nat} {V P : Nat → Nat} (hf : (s = 0 ∧ f ≤ 7) ∨ (s = 1 ∧ f = 8) ∨ (s = 2 ∧ 20 ≤ f ∧ f ≤ 24) ∨ (s = 3 ∧ (f = 9 ∨ f = 10)) ∨ (s = 4 ∧ f = 11)) (h7 : f ≠ 7) (hR : rdQ D a s q) (hv : vOK s q) (hN : nuR D a k V P) (hk : lsN f ≤ k) (hk6 : k ≤ 600) (h : ∀ D', rdO D D' a → rdQ D' a s (tl q f first V P k) → Q D') : xCv (d + 6) m_Reader_tell [.ref a, .int (nI f), .int (nI first)] D Q := by
  have hf30 : f < 30 := by omega
  have inj : ∀ u : Nat, u < 30 → nI f = nI u → f = u := fun u hu q => (nI_eq (by omega) (by omega)).mp q
  have k1 : 1 ≤ k := by unfold lsN at hk; split at hk <;> (try split at hk) <;> omega
  unfold tl at h
  refine xCv_of y_Reader_tell (Nat.le_of_ble_eq_true rfl) (s_Reader_tell_0 hR.1 ⟨fun c => ?_, fun c => ?_, fun c => ?_, fun c => ?_, fun c => ?_, fun c => ?_, fun c => ?_, fun c => ?_⟩)
  · have e := inj 5 (by omega) c; subst e
    rw [show s = 0 by omega] at hR h
    rw [if_neg (by omega), if_pos rfl] at h
    exact c_tellPerson hR hN (by unfold lsN at hk; rw [if_pos rfl] at hk; exact hk) (fun D' o R => ⟨rfl, h D' o R⟩)
  · have e := inj 6 (by omega) c; subst e
    rw [show s = 0 by omega] at hR h
    rw [if_neg (by omega), if_neg (by omega), if_pos rfl] at h
    exact c_tellJumpy hR hN k1 (by have := hv.2.1; omega) (fun D' o R => ⟨rfl, h D' o R⟩)
  · exact absurd (inj 7 (by omega) c) h7
  · have e := inj 8 (by omega) c; subst e
    rw [show s = 1 by omega] at hR h
    rw [if_neg (by omega), if_neg (by omega), if_neg (by omega), if_pos rfl] at h
    exact c_tellKinds (Or.inl ⟨rfl, rfl, rfl, rfl, rfl⟩) hR hN hk6 (fun D' o R => ⟨rfl, h D' o R⟩)
  · have e := inj 9 (by omega) c; subst e
    rw [show s = 3 by omega] at hR h
    rw [if_neg (by omega), if_neg (by omega), if_neg (by omega), if_neg (by omega), if_pos rfl] at h
    exact c_tellKinds (Or.inr (Or.inl ⟨rfl, rfl, rfl, rfl, rfl⟩)) hR hN hk6 (fun D' o R => ⟨rfl, h D' o R⟩)
  · have e := inj 10 (by omega) c; subst e
    rw [show s = 3 by omega] at hR h
    rw [if_neg (by omega), if_neg (by omega), if_neg (by omega), if_neg (by omega), if_neg (by omega), if_pos rfl] at h
    exact c_tellKinds (Or.inr (Or.inr ⟨rfl, rfl, rfl, rfl, rfl⟩)) hR hN hk6 (fun D' o R => ⟨rfl, h D' o R⟩)
  · have e := inj 11 (by omega) c; subst e
    rw [show s = 4 by omega] at hR h
    rw [if_neg (by omega), if_neg (by omega), if_neg (by omega), if_neg (by omega), if_neg (by omega), if_neg (by omega), if_pos rfl] at h
    exact c_tellFrame hR hN k1 hk6 (fun D' o R => ⟨rfl, h D' o R⟩)
  · rw [nI_toInt (by omega)] at c
    have e20 : (20 : Int32) = nI 20 := rfl
    rw [e20]
    refine ⟨fun c1 => ?_, fun c1 => ?_⟩
    · have := (nI_ltI (by omega) (by omega)).mp c1
      rw [show s = 0 by omega] at hR h
      rw [if_pos (by omega)] at h
      exact c_tellNumber hR hN k1 (by omega) (fun D' o R => ⟨rfl, h D' o R⟩)
    · have h20 : 20 ≤ f := Nat.le_of_not_lt (fun z => c1 (nI_lt z (by omega)))
      rw [show s = 2 by omega] at hR h
      rw [if_neg (by omega), if_neg (by omega), if_neg (by omega), if_neg (by omega), if_neg (by omega), if_neg (by omega), if_neg (by omega)] at h
      rw [pk_sub h20]
      refine c_tellDeed hR hN k1 (fun z => ?_) (by omega) (fun D' o R => ⟨rfl, h D' o R⟩)
      have e21 : f = 21 := by omega
      subst e21
      unfold lsN at hk; rw [if_neg (by omega), if_pos rfl] at hk; exact hk
end READ
