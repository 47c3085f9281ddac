/-! What stays; tables that are copied, seated, cleared; which HEAP fits. -/
/-- nothing outside the cells from lo up to hi has changed -/
def xOut (lo hi : Nat) (D D' : xD) : Prop := (∀ i, (i < lo ∨ hi ≤ i) → D'.1 i = D.1 i) ∧ D'.2 = D.2
theorem xOut.rfl' {lo hi : Nat} {D : xD} : xOut lo hi D D := ⟨fun _ _ => rfl, rfl⟩
theorem xOut.trans {lo hi : Nat} {D D1 D2 : xD} (h1 : xOut lo hi D D1) (h2 : xOut lo hi D1 D2) : xOut lo hi D D2 := ⟨fun i hi => (h2.1 i hi).trans (h1.1 i hi), h2.2.trans h1.2⟩
theorem xOut.mono {lo hi lo' hi' : Nat} {D D1 : xD} (h : xOut lo hi D D1) (h1 : lo' ≤ lo) (h2 : hi ≤ hi') : xOut lo' hi' D D1 := ⟨fun i q => h.1 i (by omega), h.2⟩
theorem xOut_rsize (D : xD) (a n : Nat) : xOut a (a + 2) D (rsize D a n) := ⟨fun i q => xu_ne _ _ _ (by omega), rfl⟩
theorem xOut_rset (D : xD) (a n : Nat) (i v : Int32) : xOut a (a + 2) D (rset D a n i v) := by
  unfold rset
  split
  · exact xOut.rfl'
  · split
    · exact xOut.rfl'
    · exact ⟨fun i q => xu_ne _ _ _ (by omega), rfl⟩
theorem xOut_radd (D : xD) (a n : Nat) (i v : Int32) : xOut a (a + 2) D (radd D a n i v) := by
  unfold radd
  split
  · exact xOut.rfl'
  · split
    · exact xOut.rfl'
    · exact ⟨fun i q => xu_ne _ _ _ (by omega), rfl⟩
theorem xOut_rpush (D : xD) (a n : Nat) (v : Int32) : xOut a (a + 2) D (rpush D a n v) := by
  unfold rpush
  split
  · exact ⟨fun i q => by show xu (xu D.1 (a + 1) n v) a 1 _ i = _; rw [xu_ne _ _ _ (by omega), xu_ne _ _ _ (by omega)], rfl⟩
  · exact xOut.rfl'
theorem xOut_fil (D : xD) (b n : Nat) (v : Int32) : xOut b (b + 1) D (fil D b v n) := ⟨fun i q => by show (if i = b then _ else D.1 i) = _; rw [if_neg (by omega)], rfl⟩
theorem xOut_rcopy (D : xD) (a b n : Nat) : xOut a (a + 2) D (rcopy D a b n) := ⟨fun i q => by show (if i = a + 1 then _ else (rsize D a n).1 i) = _; rw [if_neg (by omega)]; exact (xOut_rsize D a n).1 i q, rfl⟩
theorem xOut_rdel (D : xD) (a n p : Nat) : xOut a (a + 2) D (rdel D a n p) := ⟨fun i q => by show (if i = a + 1 then _ else (rsize D a (n - 1)).1 i) = _; rw [if_neg (by omega)]; exact (xOut_rsize D a _).1 i q, rfl⟩
theorem rS.out {D D' : xD} {lo hi a n : Nat} (h : rS D a n) (o : xOut lo hi D D') (q : a < lo ∨ hi ≤ a) : rS D' a n := rS_of h (by rw [o.1 a q])
theorem rS_rsize {D : xD} {a n : Nat} (h : n ≤ xl (a + 1)) (k : xk a = 2) : rS (rsize D a n) a n := ⟨by show xu D.1 a 1 (nI n) a 1 = _; rw [xu_self]; simp [upd], h, k⟩
theorem rcopy_n (D : xD) (a b n : Nat) : (rcopy D a b n).1 a 1 = nI n := by
  show (if a = a + 1 then _ else (rsize D a n).1 a : Nat → Int32) 1 = _
  rw [if_neg (by omega)]
  show xu D.1 a 1 (nI n) a 1 = _
  rw [xu_self]; simp [upd]
theorem rcopy_f (D : xD) (a b n k : Nat) : (rcopy D a b n).1 (a + 1) k = if k < n then D.1 (b + 1) k else D.1 (a + 1) k := by
  show (if a + 1 = a + 1 then _ else _ : Nat → Int32) k = _
  rw [if_pos rfl]
theorem tR.out {D D' : xD} {lo hi t : Nat} {τ : Nat → Int32} (h : tR D t τ) (o : xOut lo hi D D') (q : t + 5 ≤ lo ∨ hi ≤ t + 1) : tR D' t τ :=
  ⟨h.1, h.2.1.out o (by omega), h.2.2.1.out o (by omega), fun j hj => by rw [o.1 (t + 2) (by omega)]; exact h.2.2.2.1 j hj, fun p hp w hw => by rw [o.1 (t + 4) (by omega)]; exact h.2.2.2.2 p hp w hw⟩
def known (h : Nat → Int32) (n : Nat) : Nat → Nat
  | 0 => 0
  | k + 1 => known h n k + rcnt h (nI k) n
theorem known_le (h : Nat → Int32) (n : Nat) : ∀ k, known h n k ≤ k * n := by
  intro k
  induction k with
  | zero => simp [known]
  | succ k ih =>
    have := rcnt_le h (nI k) n
    rw [known, Nat.succ_mul]
    omega
/-- a HEAP of n cards h FITS the table -/
def fitsS (τ : Nat → Int32) (h : Nat → Int32) (n : Nat) : Prop := (∀ k, k < tN τ 0 → rcnt h (nI k) n ≤ tN τ 1) ∧ known h n (tN τ 0) = n ∧ tN τ 5 * tN τ 2 < n
theorem fits_if (τ : Nat → Int32) (h : Nat → Int32) (n : Nat) : ∃ b : Int32, (fitsS τ h n → b = 1) ∧ (¬ fitsS τ h n → b = 0) := by
  by_cases q : fitsS τ h n
  · exact ⟨1, fun _ => rfl, fun c => absurd q c⟩
  · exact ⟨0, fun c => absurd c q, fun _ => rfl⟩
section TABLE2
variable {d : Nat} {D : xD} {t : Nat} {τ : Nat → Int32}
theorem c_Table_suits {P : Int32 → xD → Prop} {a n : Nat} (hR : tR D t τ) (hT : tOK τ) (ha : rS D a n) (hn : n ≤ 600) (h1 : fitsS τ (D.1 (a + 1)) n → P 1 D) (h0 : ¬ fitsS τ (D.1 (a + 1)) n → P 0 D) : xCi (d + 4) m_Table_suits [.ref t, .ref a] D P := by
  refine xCi_of y_Table_suits (Nat.le_of_ble_eq_true rfl) (s_Table_suits_0 hR.1 ha.2.2 ?_)
  have b0 := hT.2.1
  have b1 := hT.2.2.1
  have b2 := hT.2.2.2.1
  have b5 := hT.2.2.2.2.2.2.1
  have key : ∀ k j, j + k = tN τ 0 → (∀ i, i < j → rcnt (D.1 (a + 1)) (nI i) n ≤ tN τ 1) → xPf (d + 4) m_Table_suits 4 [(0, .ref t), (1, .ref a), (2, .int (nI (known (D.1 (a + 1)) n j))), (3, .int (nI j))] [] D (fun r D' => ∃ x, r = some (.int x) ∧ P x D') := by
    intro k
    induction k with
    | zero =>
      intro j hj hall
      have hkl := known_le (D.1 (a + 1)) n j
      have hm : j * n ≤ 13 * 600 := Nat.mul_le_mul (by omega) hn
      have ej : j = tN τ 0 := by omega
      refine s_Table_suits_4 hR.1 ha.2.2 (c_Table_kinds hR hT ⟨fun _ => ?_, fun c => absurd (nI_le (by omega) (by omega)) c⟩)
      refine c_Row_size ha ⟨fun c => ⟨_, rfl, h0 (fun q => c ?_)⟩, fun c => ?_⟩
      · rw [ej, q.2.1]
      · have e1 := (nI_eq (by omega) (by omega)).mp c
        have hNA : tN τ 5 * tN τ 2 ≤ 6 * 4 := Nat.mul_le_mul b5 b2.2
        refine c_Table_allHold hR hT ⟨fun c1 => ⟨_, rfl, h0 (fun q => ?_)⟩, fun c1 => ⟨_, rfl, h1 ⟨?_, ?_, ?_⟩⟩⟩
        · have := (nI_leI (by omega) (by omega)).mp c1
          have := q.2.2
          omega
        · rw [← ej]; exact hall
        · rw [← ej]; exact e1
        · apply Nat.lt_of_not_le
          intro q
          exact c1 (by rw [e1]; exact nI_le q (by omega))
    | succ k ih =>
      intro j hj hall
      have hc := rcnt_le (D.1 (a + 1)) (nI j) n
      refine s_Table_suits_4 hR.1 ha.2.2 (c_Table_kinds hR hT ⟨fun c => absurd c (nI_ge (by omega) (by omega)), fun _ => ?_⟩)
      refine c_Row_countOf ha (c_Row_get (i := nI 1) hR.2.1 ?_)
      rw [rg_in D _ (by omega) (by omega), show t + 1 + 1 = t + 2 by omega, hR.2.2.2.1 1 (by omega), hT.1 1 (by omega)]
      refine ⟨fun c => ?_, fun c => ⟨_, rfl, h0 (fun q => c (nI_le (q.1 j (by omega)) (by omega)))⟩⟩
      have hle := (nI_leI (by omega) (by omega)).mp c
      have := ih (j + 1) (by omega) (fun i hi => by
        by_cases e : i = j
        · subst e; exact hle
        · exact hall i (by omega))
      rw [nI_1, nI_add]
      exact this
  exact key (tN τ 0) 0 (by omega) (fun i hi => absurd hi (by omega))
theorem c_Table_copy {P : xD → Prop} {b : Nat} (k0 : xk t = 4) (hb : tR D b τ) (h6 : tN τ 5 ≤ 6) (hq : t + 5 ≤ b ∨ b + 5 ≤ t) (h : ∀ D', xOut (t + 1) (t + 5) D D' → tR D' t τ → P D') : xCv (d + 2) m_Table_copy [.ref t, .ref b] D P := by
  refine xCv_of y_Table_copy (Nat.le_of_ble_eq_true rfl) (s_Table_copy_0 k0 hb.1 ?_)
  have k1 := ck_4_0 k0
  have k3 := ck_4_1 k0
  have l1 : xl (t + 1 + 1) = 6 := cl_4_0 k0
  have l3 : xl (t + 3 + 1) = 42 := cl_4_1 k0
  refine c_Row_copy k1 hb.2.1 (by omega) ?_
  have o1 := xOut_rcopy D (t + 1) (b + 1) 6
  refine c_Row_copy k3 (hb.2.2.1.out o1 (by omega)) (by omega) ⟨rfl, ?_⟩
  have o2 := xOut_rcopy (rcopy D (t + 1) (b + 1) 6) (t + 3) (b + 3) 42
  have hN : tN τ 5 ≤ 6 := h6
  refine h _ ((o1.mono (by omega) (by omega)).trans (o2.mono (by omega) (by omega))) ⟨k0, ⟨?_, by omega, k1⟩, ⟨rcopy_n _ _ _ _, by omega, k3⟩, fun j hj => ?_, fun p hp w hw => ?_⟩
  · rw [o2.1 (t + 1) (by omega)]; exact rcopy_n _ _ _ _
  · rw [o2.1 (t + 2) (by omega), show t + 2 = t + 1 + 1 by omega, rcopy_f, if_pos hj, show b + 1 + 1 = b + 2 by omega]
    exact hb.2.2.2.1 j hj
  · rw [show t + 4 = t + 3 + 1 by omega, rcopy_f, if_pos (by omega), show b + 3 + 1 = b + 4 by omega, o1.1 (b + 4) (by omega)]
    exact hb.2.2.2.2 p hp w hw
end TABLE2
