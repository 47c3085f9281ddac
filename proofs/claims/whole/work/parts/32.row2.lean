/-! Rows: copies, counts, swaps, what goes. -/
def rcnt (f : Nat → Int32) (v : Int32) : Nat → Nat
  | 0 => 0
  | n + 1 => rcnt f v n + (if f n = v then 1 else 0)
theorem rcnt_le (f : Nat → Int32) (v : Int32) : ∀ n, rcnt f v n ≤ n := by
  intro n
  induction n with
  | zero => exact Nat.le_refl _
  | succ n ih => unfold rcnt; split <;> omega
theorem rS_rset {D : xD} {a n : Nat} (h : rS D a n) (i v : Int32) : rS (rset D a n i v) a n := by
  refine ⟨?_, h.2⟩
  unfold rset
  split
  · exact h.1
  · split
    · exact h.1
    · show xu D.1 (a + 1) _ v a 1 = _
      rw [xu_ne _ _ _ (by omega)]; exact h.1
theorem rS_radd {D : xD} {a n : Nat} (h : rS D a n) (i v : Int32) : rS (radd D a n i v) a n := by
  refine ⟨?_, h.2⟩
  unfold radd
  split
  · exact h.1
  · split
    · exact h.1
    · show xu D.1 (a + 1) _ _ a 1 = _
      rw [xu_ne _ _ _ (by omega)]; exact h.1
theorem rset_in (D : xD) (a : Nat) {n j : Nat} (v : Int32) (h : j < n) (hn : n < 2 ^ 31) : rset D a n (nI j) v = (xu D.1 (a + 1) j v, D.2) := by
  unfold rset
  rw [if_neg (nI_pos (by omega)), if_neg (nI_ge h hn), nI_clamp (by omega)]
theorem rset_out (D : xD) (a : Nat) {n j : Nat} (v : Int32) (h : n ≤ j) (hj : j < 2 ^ 31) : rset D a n (nI j) v = D := by
  unfold rset
  rw [if_neg (nI_pos hj), if_pos (nI_le h hj)]
theorem radd_in (D : xD) (a : Nat) {n j : Nat} (v : Int32) (h : j < n) (hn : n < 2 ^ 31) : radd D a n (nI j) v = (xu D.1 (a + 1) j (D.1 (a + 1) j + v), D.2) := by
  unfold radd
  rw [if_neg (nI_pos (by omega)), if_neg (nI_ge h hn), nI_clamp (by omega)]
theorem rS_of {D D' : xD} {a n : Nat} (h : rS D a n) (e : D'.1 a 1 = D.1 a 1) : rS D' a n := ⟨by rw [e]; exact h.1, h.2⟩
section ROW2
variable {d : Nat} {D : xD} {a b n k : Nat}
theorem c_Row_copy {P : xD → Prop} (ha : xk a = 2) (hb : rS D b k) (hk : k ≤ xl (a + 1)) (h : P (rcopy D a b k)) : xCv (d + 1) m_Row_copy [.ref a, .ref b] D P := by
  refine xCv_of y_Row_copy (Nat.le_of_ble_eq_true rfl) ?_
  have hc := xl_le (a + 1)
  have hc2 := xl_le (b + 1)
  have hb2 := hb.2.1
  have hab : b + 1 ≠ a := fun e => by
    have h1 := ck_arr hb.2.2
    rw [e, ha] at h1
    cases h1
  refine s_Row_copy_0 ha hb.2.2 (fun r1 e1 r2 e2 r3 e3 D4 e4 => ?_)
  have f1 : ∃ m, k ≤ m ∧ m ≤ 21875 ∧ r1 = nI m := by
    by_cases q : Int32.ofNat (xl (a + 1)) < Int32.ofNat (xl (b + 1))
    · rw [if_pos q] at e1; exact ⟨_, hk, hc, e1⟩
    · rw [if_neg q] at e1; exact ⟨_, hb2, hc2, e1⟩
  obtain ⟨m, m1, m2, f1⟩ := f1
  have f2 : r2 = nI k := by
    rw [hb.1, f1] at e2
    by_cases q : nI m < nI k
    · exact absurd q (nI_nlt m1 (by omega))
    · rw [if_neg q] at e2; exact e2
  have f3 : r3 = nI k := by
    rw [f2] at e3
    by_cases q : k = 0
    · rw [e3]; subst q; simp [nI]
    · have h0 : (0 : Int32) < nI k := nI_lt (a := 0) (b := k) (by omega) (by omega)
      rw [if_pos h0] at e3; exact e3
  have e5 : D4 = rsize D a k := by rw [e4, f3]; rfl
  have e6 : D4.1 a 1 = nI k := by rw [e5]; show xu D.1 a 1 (nI k) a 1 = _; rw [xu_self]; simp [upd]
  rw [e6]
  have z : ((0 : Int32) : Int32).toNatClampNeg = 0 := rfl
  rw [z, nI_clamp (by omega)]
  refine ⟨nI_pos (by omega), by omega, by omega, fun D5 e7 => ⟨rfl, ?_⟩⟩
  have e8 : D5 = rcopy D a b k := by
    rw [e7, e5]
    refine Prod.ext (funext fun i => ?_) rfl
    show (if i = a + 1 then va_cpy ((rsize D a k).1 (b + 1)) ((rsize D a k).1 (a + 1)) 0 0 k else (rsize D a k).1 i) = (if i = a + 1 then fun j => if j < k then D.1 (b + 1) j else D.1 (a + 1) j else (rsize D a k).1 i)
    by_cases q : i = a + 1
    · rw [if_pos q, if_pos q]
      funext j
      have g1 : (rsize D a k).1 (b + 1) = D.1 (b + 1) := xu_ne _ _ _ hab
      have g2 : (rsize D a k).1 (a + 1) = D.1 (a + 1) := xu_ne _ _ _ (by omega)
      rw [g1, g2]
      simp [va_cpy]
    · rw [if_neg q, if_neg q]
  rw [e8]; exact h
theorem c_Row_swap {P : xD → Prop} {p q : Nat} (ha : rS D a n) (hp : p < n) (hq : q < n) (h : P (xu (xu D.1 (a + 1) p (D.1 (a + 1) q)) (a + 1) q (D.1 (a + 1) p), D.2)) : xCv (d + 2) m_Row_swap [.ref a, .int (nI p), .int (nI q)] D P := by
  have hn := ha.le
  refine xCv_of y_Row_swap (Nat.le_of_ble_eq_true rfl) (s_Row_swap_0 ha.2.2 ?_)
  refine c_Row_get ha (c_Row_get ha (c_Row_set ha (c_Row_set (rS_rset ha _ _) ⟨rfl, ?_⟩)))
  rw [rg_in D a hp (by omega), rg_in D a hq (by omega), rset_in _ _ _ hp (by omega), rset_in _ _ _ hq (by omega)]
  exact h
theorem c_Row_countOf {P : Int32 → xD → Prop} {v : Int32} (ha : rS D a n) (h : P (nI (rcnt (D.1 (a + 1)) v n)) D) : xCi (d + 2) m_Row_countOf [.ref a, .int v] D P := by
  have hn := ha.le
  refine xCi_of y_Row_countOf (Nat.le_of_ble_eq_true rfl) (s_Row_countOf_0 ha.2.2 ?_)
  have key : ∀ k j, j + k = n → xPf (d + 2) m_Row_countOf 4 [(0, .ref a), (1, .int v), (2, .int (nI (rcnt (D.1 (a + 1)) v j))), (3, .int (nI j))] [] D (fun r D' => ∃ x, r = some (.int x) ∧ P x D') := by
    intro k
    induction k with
    | zero =>
      intro j hj
      refine s_Row_countOf_4 ha.2.2 ⟨fun c => ⟨_, rfl, by rw [show j = n by omega]; exact h⟩, fun c => ?_⟩
      rw [ha.1] at c
      exact absurd (nI_le (by omega) (by omega)) c
    | succ k ih =>
      intro j hj
      have := ih (j + 1) (by omega)
      rw [rcnt] at this
      refine s_Row_countOf_4 ha.2.2 ⟨fun c => ?_, fun c => c_Row_get ha ⟨fun c1 => ?_, fun c1 => ?_⟩⟩
      · rw [ha.1] at c
        exact absurd c (nI_ge (by omega) (by omega))
      · rw [rg_in D a (by omega) (by omega)] at c1
        rw [if_neg c1] at this
        rw [nI_1, show nI (rcnt (D.1 (a + 1)) v j) + (0 : Int32) = nI (rcnt (D.1 (a + 1)) v j + 0) from nI_add _ 0]
        exact this
      · rw [rg_in D a (by omega) (by omega)] at c1
        rw [if_pos c1] at this
        rw [nI_1, nI_1]
        exact this
  exact key n 0 (by omega)
/-- the row a without its number p -/
def rdel (D : xD) (a n p : Nat) : xD := (fun i => if i = a + 1 then fun k => if p ≤ k ∧ k + 1 < n then D.1 (a + 1) (k + 1) else D.1 (a + 1) k else (rsize D a (n - 1)).1 i, D.2)
/-- those from p up to j have moved -/
def rmv (D : xD) (a p j : Nat) : xD := (fun i => if i = a + 1 then fun k => if p ≤ k ∧ k < j then D.1 (a + 1) (k + 1) else D.1 (a + 1) k else D.1 i, D.2)
theorem rmv_0 (D : xD) (a p : Nat) : rmv D a p p = D := by
  refine Prod.ext (funext fun i => ?_) rfl
  show (if i = a + 1 then fun k => if p ≤ k ∧ k < p then D.1 (a + 1) (k + 1) else D.1 (a + 1) k else D.1 i) = D.1 i
  by_cases q : i = a + 1
  · rw [q, if_pos rfl]
    funext m
    rw [if_neg (by omega)]
  · rw [if_neg q]
theorem rmv_n (D : xD) (a p j : Nat) : (rmv D a p j).1 a = D.1 a := by
  show (if a = a + 1 then _ else D.1 a) = _
  rw [if_neg (by omega)]
theorem rmv_f (D : xD) (a p j k : Nat) : (rmv D a p j).1 (a + 1) k = if p ≤ k ∧ k < j then D.1 (a + 1) (k + 1) else D.1 (a + 1) k := by
  show (if a + 1 = a + 1 then _ else _ : Nat → Int32) k = _
  rw [if_pos rfl]
theorem rmv_step (D : xD) (a p j : Nat) (h : p ≤ j) : (xu (rmv D a p j).1 (a + 1) j ((rmv D a p j).1 (a + 1) (j + 1)), (rmv D a p j).2) = rmv D a p (j + 1) := by
  refine Prod.ext (funext fun i => ?_) rfl
  by_cases q : i = a + 1
  · subst q
    show xu (rmv D a p j).1 (a + 1) j _ (a + 1) = _
    rw [xu_self, rmv_f, if_neg (by omega)]
    funext m
    rw [rmv_f]
    by_cases qm : m = j
    · subst qm
      simp [upd, h]
    · simp only [upd, if_neg qm]
      rw [rmv_f]
      by_cases q3 : p ≤ m ∧ m < j
      · rw [if_pos q3, if_pos (by omega)]
      · rw [if_neg q3, if_neg (by omega)]
  · show xu (rmv D a p j).1 (a + 1) j _ i = _
    rw [xu_ne _ _ _ q]
    show (if i = a + 1 then _ else D.1 i) = (if i = a + 1 then _ else D.1 i)
    rw [if_neg q, if_neg q]
theorem rmv_end (D : xD) {a n p : Nat} (h : 0 < n) : (xu (rmv D a p (n - 1)).1 a 1 (nI (n - 1)), (rmv D a p (n - 1)).2) = rdel D a n p := by
  refine Prod.ext (funext fun i => ?_) rfl
  show xu (rmv D a p (n - 1)).1 a 1 (nI (n - 1)) i = (if i = a + 1 then fun k => if p ≤ k ∧ k + 1 < n then D.1 (a + 1) (k + 1) else D.1 (a + 1) k else xu D.1 a 1 (nI (n - 1)) i)
  by_cases q : i = a + 1
  · subst q
    rw [xu_ne _ _ _ (by omega), if_pos rfl]
    funext m
    rw [rmv_f]
    by_cases q3 : p ≤ m ∧ m < n - 1
    · rw [if_pos q3, if_pos (by omega)]
    · rw [if_neg q3, if_neg (by omega)]
  · rw [if_neg q]
    by_cases q2 : i = a
    · subst q2
      rw [xu_self, xu_self, rmv_n]
    · rw [xu_ne _ _ _ q2, xu_ne _ _ _ q2]
      show (if i = a + 1 then _ else D.1 i) = _
      rw [if_neg q]
theorem xPf_at {d : Nat} {m : xM} {pc : Nat} {L : List (Nat × Value)} {st : List Value} {D D' : xD} {Q : Option Value → xD → Prop} (e : D' = D) (h : xPf d m pc L st D Q) : xPf d m pc L st D' Q := by rw [e]; exact h
theorem c_Row_remove {P : xD → Prop} {p : Nat} (ha : rS D a n) (hp : p < n) (h : P (rdel D a n p)) : xCv (d + 2) m_Row_remove [.ref a, .int (nI p)] D P := by
  have hn := ha.le
  refine xCv_of y_Row_remove (Nat.le_of_ble_eq_true rfl) (s_Row_remove_0 ha.2.2 ⟨fun c => absurd c (nI_pos (by omega)), fun c => ⟨fun c1 => ?_, fun c1 => ?_⟩⟩)
  · have key : ∀ k j, j + k + 1 = n → p ≤ j → xPf (d + 2) m_Row_remove 15 [(0, .ref a), (1, .int (nI p)), (2, .int (nI j))] [] (rmv D a p j) (fun r D' => r = none ∧ P D') := by
      intro k
      induction k with
      | zero =>
        intro j hj hpj
        have e1 : (rmv D a p j).1 a 1 = nI n := by rw [rmv_n]; exact ha.1
        refine s_Row_remove_15 ha.2.2 ⟨fun c D1 e2 => ⟨rfl, ?_⟩, fun c => ?_⟩
        · rw [e1, show nI n - 1 = nI (n - 1) from pk_sub (a := n) (b := 1) (by omega), show j = n - 1 by omega, rmv_end D (by omega)] at e2
          rw [e2]; exact h
        · rw [e1, nI_1] at c
          exact absurd (nI_le (by omega) (by omega)) c
      | succ k ih =>
        intro j hj hpj
        have e1 : (rmv D a p j).1 a 1 = nI n := by rw [rmv_n]; exact ha.1
        have hR : rS (rmv D a p j) a n := ⟨e1, ha.2⟩
        refine s_Row_remove_15 ha.2.2 ⟨fun c => ?_, fun c => ?_⟩
        · rw [e1, nI_1] at c
          exact absurd c (nI_ge (by omega) (by omega))
        · rw [nI_1]
          refine c_Row_get hR (c_Row_set hR ?_)
          rw [rg_in _ a (show j + 1 < n by omega) (by omega), rset_in _ _ _ (show j < n by omega) (by omega)]
          exact xPf_at (rmv_step D a p j hpj) (ih (j + 1) (by omega) (by omega))
    exact xPf_at (rmv_0 D a p).symm (key (n - 1 - p) p (by omega) (Nat.le_refl _))
  · rw [ha.1] at c1
    exact absurd (nI_lt hp (by omega)) c1
end ROW2
