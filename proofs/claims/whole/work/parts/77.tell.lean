/-! What a line tells. Telling goes by: the FAULT noted first, the numbers of the text, the greatest of PEOPLE and KIND that laws name, one more each. -/
abbrev qS : Type := Option (Nat × Nat) × (Nat → Int32) × Nat × Nat
def nt (F : Option (Nat × Nat)) (k at' : Nat) : Option (Nat × Nat) := match F with
  | none => some (k, at')
  | some f => some f
def chk (F : Option (Nat × Nat)) (n lo hi at' : Nat) : Option (Nat × Nat) := if n < lo ∨ hi < n then nt F 2 at' else F
def lo5 (f : Nat) : Nat := if f = 0 then 2 else if f = 1 then 1 else if f = 2 then 2 else if f = 3 then 1 else 0
def hi5 (f : Nat) : Nat := if f = 0 then 13 else if f = 1 then 4 else if f = 2 then 4 else 9
def tlNum (q : qS) (f n pl : Nat) : qS := (chk q.1 n (lo5 f) (hi5 f) pl, tSet q.2.1 f (nI n), q.2.2)
def tlPer (q : qS) (first : Nat) (V P : Nat → Nat) : qS :=
  (chk (chk (chk (chk (if tN q.2.1 5 < 6 then q.1 else nt q.1 3 first) (V 0) 1 9 (P 0)) (V 1) 1 9 (P 1)) (V 2) 0 9 (P 2)) (V 3) 0 20 (P 3),
   if tN q.2.1 5 < 6 then tSet (tSet (tSet (tSet (tSet q.2.1 (6 + 7 * tN q.2.1 5 + 0) (nI (V 0))) (6 + 7 * tN q.2.1 5 + 1) (nI (V 1))) (6 + 7 * tN q.2.1 5 + 2) (nI (V 2))) (6 + 7 * tN q.2.1 5 + 3) (nI (V 3))) 5 (nI (tN q.2.1 5 + 1)) else q.2.1, q.2.2)
/-- one number of one of PEOPLE, if there can be such a one -/
def tSetP (ξ : Nat → Int32) (p w : Nat) (v : Int32) : Nat → Int32 := if p < 6 then tSet ξ (6 + 7 * p + w) v else ξ
def tlJum (q : qS) (n pl : Nat) : qS := (chk q.1 n 0 5 pl, tSetP q.2.1 n 6 1, (if q.2.2.1 < n + 1 then n + 1 else q.2.2.1), q.2.2.2)
def tlLaw (q : qS) (w n pl n1 pl1 : Nat) : qS :=
  if w = 1 ∨ w = 2 then (chk (chk q.1 n 0 5 pl) n1 0 12 pl1, tSetP (tSetP (tSetP q.2.1 n 4 (nI w)) n 5 (-1)) n 5 (nI n1), (if q.2.2.1 < n + 1 then n + 1 else q.2.2.1), if q.2.2.2 < n1 + 1 then n1 + 1 else q.2.2.2)
  else (chk q.1 n 0 5 pl, tSetP (tSetP q.2.1 n 4 (nI w)) n 5 (-1), (if q.2.2.1 < n + 1 then n + 1 else q.2.2.1), q.2.2.2)
/-- a KIND comes to a list: where its length is, where it begins, how long it may be -/
def tlK1 (q : qS) (c from' most v pl : Nat) : qS :=
  if tN q.2.1 c < most then (chk q.1 v 0 12 pl, tSet (tSet q.2.1 (from' + tN q.2.1 c) (nI v)) c (nI (tN q.2.1 c + 1)), q.2.2) else (nt (chk q.1 v 0 12 pl) 3 pl, q.2)
def tlKs (q : qS) (c from' most : Nat) (V P : Nat → Nat) : Nat → qS
  | 0 => q
  | i + 1 => tlK1 (tlKs q c from' most V P i) c from' most (V i) (P i)
def tlDeed (q : qS) (deed first : Nat) (V P : Nat → Nat) : qS :=
  ((if deed = 1 then chk (chk (if tN q.2.1 0 < 40 then q.1 else nt q.1 3 first) (V 0) 0 5 (P 0)) (V 1) 0 12 (P 1) else if deed = 4 then chk (if tN q.2.1 0 < 40 then q.1 else nt q.1 3 first) (V 0) 1 9 (P 0) else chk (if tN q.2.1 0 < 40 then q.1 else nt q.1 3 first) (V 0) 0 5 (P 0)),
   if tN q.2.1 0 < 40 then tSet (tSet (tSet (tSet q.2.1 (1 + 3 * tN q.2.1 0) (nI deed)) (1 + 3 * tN q.2.1 0 + 1) (nI (V 0))) (1 + 3 * tN q.2.1 0 + 2) (if deed = 1 then nI (V 1) else -1)) 0 (nI (tN q.2.1 0 + 1)) else q.2.1, q.2.2)
/-- the tenth that a FRAME is to be above, less one -/
def frA (ξ : Nat → Int32) : Nat := if tN ξ 0 = 0 then 0 else fT ξ (tN ξ 0 - 1) + 1
/-- who is in a FRAME: the FAULT and the set behind i of those that are told -/
def frW (F : Option (Nat × Nat)) (V P : Nat → Nat) : Nat → Option (Nat × Nat) × Nat
  | 0 => (F, 0)
  | i + 1 => (if (frW F V P i).2.testBit (min (V (i + 1)) 6) = true then nt (chk (frW F V P i).1 (V (i + 1)) 0 5 (P (i + 1))) 2 (P (i + 1)) else chk (frW F V P i).1 (V (i + 1)) 0 5 (P (i + 1)), (frW F V P i).2 ||| 2 ^ min (V (i + 1)) 6)
def tlFra (q : qS) (first : Nat) (V P : Nat → Nat) (c : Nat) : qS :=
  ((frW (chk (if tN q.2.1 0 < 10 then q.1 else nt q.1 3 first) (V 0) (frA q.2.1) 99 (P 0)) V P (c - 1)).1,
   if tN q.2.1 0 < 10 then tSet (tSet (tSet q.2.1 (1 + 2 * tN q.2.1 0) (nI (V 0))) (2 + 2 * tN q.2.1 0) (nI (frW (chk (if tN q.2.1 0 < 10 then q.1 else nt q.1 3 first) (V 0) (frA q.2.1) 99 (P 0)) V P (c - 1)).2)) 0 (nI (tN q.2.1 0 + 1)) else q.2.1, q.2.2)
def fI (F : Option (Nat × Nat)) : Int32 := match F with
  | none => 0
  | some f => nI f.1
def fP (F : Option (Nat × Nat)) : Int32 := match F with
  | none => -1
  | some f => nI f.2
/-- how long lists are, as they may be; FRAMES' tenths -/
def lenOK (s : Nat) (ξ : Nat → Int32) : Prop := (s = 0 → ξ 5 = nI (tN ξ 5) ∧ tN ξ 5 ≤ 6) ∧ (s = 1 → ξ 0 = nI (tN ξ 0) ∧ tN ξ 0 ≤ 52) ∧ (s = 2 → ξ 0 = nI (tN ξ 0) ∧ tN ξ 0 ≤ 40) ∧ (s = 3 → ξ 0 = nI (tN ξ 0) ∧ tN ξ 0 ≤ 4 ∧ ξ 1 = nI (tN ξ 1) ∧ tN ξ 1 ≤ 48) ∧
  (s = 4 → ξ 0 = nI (tN ξ 0) ∧ tN ξ 0 ≤ 10 ∧ ∀ k, k < tN ξ 0 → ξ (1 + 2 * k) = nI (fT ξ k) ∧ fT ξ k < 100)
/-- the sheet at b holds what is told so far -/
def clR (D : xD) (b s : Nat) (ξ : Nat → Int32) : Prop := (s = 0 → tQ D (b + 1) ξ) ∧ (s ≠ 0 → shR D b s ξ) ∧ lenOK s ξ
def fOKk (F : Option (Nat × Nat)) : Prop := ∀ k p, F = some (k, p) → 0 < k ∧ k < 10
theorem nt_k {F : Option (Nat × Nat)} {k p : Nat} (h : fOKk F) (hk : 0 < k ∧ k < 10) : fOKk (nt F k p) := by
  intro k' p' e
  cases F with
  | none => cases e; exact hk
  | some f => exact h k' p' e
theorem chk_k {F : Option (Nat × Nat)} {n lo hi p : Nat} (h : fOKk F) : fOKk (chk F n lo hi p) := by
  unfold chk
  split
  · exact nt_k h (by omega)
  · exact h
/-- the Reader at a tells the text q -/
def rdQ (D : xD) (a s : Nat) (q : qS) : Prop := xk a = 6 ∧ D.1 a 8 = 0 ∧ D.1 a 9 = fI q.1 ∧ D.1 a 10 = fP q.1 ∧ D.1 a 11 = nI q.2.2.1 - 1 ∧ D.1 a 12 = nI q.2.2.2 - 1 ∧ clR D (a + 3) s q.2.1 ∧ fOKk q.1
/-- nothing else has changed -/
def rdO (D D' : xD) (a : Nat) : Prop := (∀ i, (i < a ∨ i = a + 1 ∨ i = a + 2 ∨ a + 22 ≤ i) → D'.1 i = D.1 i) ∧ (∀ j, j ≤ 8 → D'.1 a j = D.1 a j) ∧ D'.2 = D.2
theorem rdO.rfl' {D : xD} {a : Nat} : rdO D D a := ⟨fun _ _ => rfl, fun _ _ => rfl, rfl⟩
theorem rdO.trans {D D1 D2 : xD} {a : Nat} (h1 : rdO D D1 a) (h2 : rdO D1 D2 a) : rdO D D2 a := ⟨fun i hi => (h2.1 i hi).trans (h1.1 i hi), fun j hj => (h2.2.1 j hj).trans (h1.2.1 j hj), h2.2.2.trans h1.2.2⟩
theorem rdO.of {D D1 : xD} {a lo hi : Nat} (o : xOut lo hi D D1) (q : a + 3 ≤ lo ∧ hi ≤ a + 22) : rdO D D1 a := ⟨fun i hi => o.1 i (by omega), fun j _ => by rw [o.1 a (by omega)], o.2⟩
theorem rdO.fld {D D1 : xD} {a : Nat} (o : xOut a (a + 1) D D1) (f : ∀ j, j ≤ 8 → D1.1 a j = D.1 a j) : rdO D D1 a := ⟨fun i hi => o.1 i (by omega), f, o.2⟩
theorem rdO.out {D D1 : xD} {a : Nat} (h : rdO D D1 a) : xOut a (a + 22) D D1 := ⟨fun i hi => h.1 i (by omega), h.2.2⟩
/-- the numbers of the line -/
def nuR (D : xD) (a k : Nat) (V P : Nat → Nat) : Prop := rS D (a + 22) k ∧ rS D (a + 24) k ∧ ∀ i, i < k → D.1 (a + 23) i = nI (V i) ∧ D.1 (a + 25) i = nI (P i) ∧ V i < 100 ∧ P i ≤ 600
theorem nuR.out {D D' : xD} {lo hi a k : Nat} {V P : Nat → Nat} (h : nuR D a k V P) (o : xOut lo hi D D') (q : hi ≤ a + 22 ∨ a + 26 ≤ lo) : nuR D' a k V P :=
  ⟨h.1.out o (by omega), h.2.1.out o (by omega), fun i hi => by rw [o.1 _ (by omega), o.1 _ (by omega)]; exact h.2.2 i hi⟩
theorem clR.out {D D' : xD} {lo hi b s : Nat} {ξ : Nat → Int32} (h : clR D b s ξ) (o : xOut lo hi D D') (q : b + 19 ≤ lo ∨ hi ≤ b + 1) : clR D' b s ξ :=
  ⟨fun e => (h.1 e).out o (by omega), fun e => (h.2.1 e).out o q, h.2.2⟩
section TELL
variable {d : Nat} {D : xD} {a s k : Nat} {q : qS} {V P : Nat → Nat}
theorem c_note {Q : xD → Prop} {kk p : Nat} (hR : rdQ D a s q) (hk : 0 < kk ∧ kk < 10) (h : ∀ D', rdO D D' a → rdQ D' a s (nt q.1 kk p, q.2) → Q D') : xCv (d + 1) m_Reader_note [.ref a, .int (nI kk), .int (nI p)] D Q := by
  obtain ⟨r1, r2, r3, r4, r5, r6, r7, r8⟩ := hR
  refine xCv_of y_Reader_note (Nat.le_of_ble_eq_true rfl) (s_Reader_note_0 r1 ?_)
  rw [r3]
  cases hF : q.1 with
  | none =>
    rw [hF] at h
    refine ⟨fun z => absurd rfl z, fun _ D1 e1 D2 e2 => ⟨rfl, ?_⟩⟩
    obtain ⟨o1, f1⟩ := fld e1
    obtain ⟨o2, f2⟩ := fld e2
    have o12 := o1.trans o2
    have f12 : ∀ j, D2.1 a j = if j = 10 then nI p else if j = 9 then nI kk else D.1 a j := fun j => by rw [f2, f1]
    refine h D2 (rdO.fld o12 (fun j hj => by rw [f12, if_neg (by omega), if_neg (by omega)])) ⟨r1, ?_, ?_, ?_, ?_, ?_, r7.out o12 (by omega), fun k' p' e => by cases e; exact hk⟩
    · rw [f12, if_neg (by omega), if_neg (by omega)]; exact r2
    · rw [f12, if_neg (by omega), if_pos rfl]; rfl
    · rw [f12, if_pos rfl]; rfl
    · rw [f12, if_neg (by omega), if_neg (by omega)]; exact r5
    · rw [f12, if_neg (by omega), if_neg (by omega)]; exact r6
  | some f =>
    rw [hF] at h
    have hk1 := r8 f.1 f.2 hF
    refine ⟨fun _ => ⟨rfl, h D rdO.rfl' ⟨r1, r2, by rw [r3, hF]; rfl, by rw [r4, hF]; rfl, r5, r6, r7, fun k' p' e => r8 k' p' (by rw [hF]; exact e)⟩⟩, fun z => absurd z (nI_ne0 hk1.1 (by omega))⟩
theorem nu_v {Q : Int32 → xD → Prop} {i : Nat} (hN : nuR D a k V P) (hi : i < k) (h : Q (nI (V i)) D) : xCi (d + 1) m_Row_get [.ref (a + 22), .int (nI i)] D Q := by
  refine c_get hN.1 hi ?_
  rw [show a + 22 + 1 = a + 23 by omega, (hN.2.2 i hi).1]; exact h
theorem nu_p {Q : Int32 → xD → Prop} {i : Nat} (hN : nuR D a k V P) (hi : i < k) (h : Q (nI (P i)) D) : xCi (d + 1) m_Row_get [.ref (a + 24), .int (nI i)] D Q := by
  refine c_get hN.2.1 hi ?_
  rw [show a + 24 + 1 = a + 25 by omega, (hN.2.2 i hi).2.1]; exact h
theorem c_check {Q : xD → Prop} {i lo hi : Nat} (hR : rdQ D a s q) (hN : nuR D a k V P) (hi' : i < k) (hlo : lo < 2 ^ 30) (hhi : hi < 2 ^ 30) (h : ∀ D', rdO D D' a → rdQ D' a s (chk q.1 (V i) lo hi (P i), q.2) → Q D') : xCv (d + 2) m_Reader_check [.ref a, .int (nI i), .int (nI lo), .int (nI hi)] D Q := by
  have hv := (hN.2.2 i hi').2.2.1
  refine xCv_of y_Reader_check (Nat.le_of_ble_eq_true rfl) (s_Reader_check_0 hR.1 (nu_v hN hi' ?_))
  unfold chk at h
  refine ⟨fun c => nu_p hN hi' (c_note (kk := 2) hR (by omega) (fun D' o R => ⟨rfl, h D' o ?_⟩)), fun c => nu_v hN hi' ⟨fun c1 => ⟨rfl, h D rdO.rfl' ?_⟩, fun c1 => nu_p hN hi' (c_note (kk := 2) hR (by omega) (fun D' o R => ⟨rfl, h D' o ?_⟩))⟩⟩
  · rw [if_pos (Or.inl ((nI_ltI (by omega) (by omega)).mp c))]; exact R
  · rw [if_neg]
    · exact hR
    · rintro (z | z)
      · exact c (nI_lt z (by omega))
      · have := (nI_leI (by omega) (by omega)).mp c1; omega
  · rw [if_pos (Or.inr (Nat.lt_of_not_le (fun z => c1 (nI_le z (by omega)))))]; exact R
theorem c_peopleRaw {Q : Int32 → xD → Prop} {t : Nat} (k0 : xk t = 4) (r1 : rS D (t + 1) 6) (h : Q (D.1 (t + 2) 5) D) : xCi (d + 2) m_Table_people [.ref t] D Q := by
  refine xCi_of y_Table_people (Nat.le_of_ble_eq_true rfl) (s_Table_people_0 k0 ?_)
  exact c_get (i := 5) r1 (by omega) ⟨_, rfl, h⟩
theorem c_tQ_setP {Q : xD → Prop} {t p w : Nat} {ξ : Nat → Int32} {v : Int32} (hR : tQ D t ξ) (hp : p < 100) (hw : w < 7) (h : ∀ D', xOut (t + 1) (t + 5) D D' → tQ D' t (tSetP ξ p w v) → Q D') : xCv (d + 2) m_Table_setOf [.ref t, .int (nI p), .int (nI w), .int v] D Q := by
  unfold tSetP at h
  by_cases c : p < 6
  · rw [if_pos c] at h
    exact c_tQ_setOf hR c hw h
  · rw [if_neg c] at h
    refine xCv_of y_Table_setOf (Nat.le_of_ble_eq_true rfl) (s_Table_setOf_0 hR.1 ?_)
    rw [ix7]
    refine c_Row_set hR.2.2.1 ⟨rfl, ?_⟩
    rw [rset_out _ _ _ (show 42 ≤ 7 * p + w by omega) (by omega)]
    exact h D xOut.rfl' hR
theorem rdQ_sheet {D' : xD} {ξ : Nat → Int32} (hR : rdQ D a s q) (o : xOut (a + 4) (a + 22) D D') (c : clR D' (a + 3) s ξ) : rdQ D' a s (q.1, ξ, q.2.2) := by
  obtain ⟨r1, r2, r3, r4, r5, r6, r7, r8⟩ := hR
  have e : D'.1 a = D.1 a := o.1 a (by omega)
  exact ⟨r1, by rw [e]; exact r2, by rw [e]; exact r3, by rw [e]; exact r4, by rw [e]; exact r5, by rw [e]; exact r6, c, r8⟩
theorem tSet_N (ξ : Nat → Int32) {i j : Nat} (v : Int32) : tN (tSet ξ j v) i = if i = j then v.toNatClampNeg else tN ξ i := by
  unfold tN
  rw [tSet_at]
  split <;> rfl
theorem lenOK_tab {ξ : Nat → Int32} (h1 : ξ 5 = nI (tN ξ 5)) (h2 : tN ξ 5 ≤ 6) : lenOK 0 ξ := ⟨fun _ => ⟨h1, h2⟩, fun e => by omega, fun e => by omega, fun e => by omega, fun e => by omega⟩
theorem clR_tab {t : Nat} {ξ : Nat → Int32} (h : tQ D (t + 1) ξ) (h1 : ξ 5 = nI (tN ξ 5)) (h2 : tN ξ 5 ≤ 6) : clR D t 0 ξ := ⟨fun _ => h, fun e => absurd rfl e, lenOK_tab h1 h2⟩
theorem c_tellNumber {Q : xD → Prop} {f : Nat} (hR : rdQ D a 0 q) (hN : nuR D a k V P) (hk : 1 ≤ k) (hf : f < 5) (h : ∀ D', rdO D D' a → rdQ D' a 0 (tlNum q f (V 0) (P 0)) → Q D') : xCv (d + 5) m_Reader_tellNumber [.ref a, .int (nI f)] D Q := by
  have hv := (hN.2.2 0 hk).2.2.1
  have rest : ∀ D1, rdO D D1 a → rdQ D1 a 0 (chk q.1 (V 0) (lo5 f) (hi5 f) (P 0), q.2) → xCi (d + 4) m_Row_get [.ref (a + 22), .int (nI 0)] D1 (fun r3 D2 => xCv (d + 4) m_Table_setNumber [.ref ((a + 3) + 1), .int (nI f), .int r3] D2 (fun D4 => (none : Option Value) = none ∧ Q D4)) := by
    intro D1 o1 R1
    refine nu_v (hN.out o1.out (by omega)) hk ?_
    have cl := R1.2.2.2.2.2.2.1
    refine c_tQ_setNumber (cl.1 rfl) (by omega) (fun D2 o2 w2 => ⟨rfl, h D2 (o1.trans (rdO.of o2 (by omega))) ?_⟩)
    have l := cl.2.2.1 rfl
    have e5 : tN (tSet q.2.1 f (nI (V 0))) 5 = tN q.2.1 5 := by rw [tSet_N, if_neg (by omega)]
    exact rdQ_sheet R1 (o2.mono (by omega) (by omega)) (clR_tab w2 (by rw [e5, tSet_at, if_neg (by omega)]; exact l.1) (by rw [e5]; exact l.2))
  have inj : ∀ u : Nat, u < 10 → nI f = nI u → f = u := fun u hu q => (nI_eq (by omega) (by omega)).mp q
  refine xCv_of y_Reader_tellNumber (Nat.le_of_ble_eq_true rfl) (s_Reader_tellNumber_0 hR.1 ⟨fun c => ?_, fun c => ?_, fun c => ?_, fun c => ?_, fun c => ?_⟩)
  · have e := inj 0 (by omega) c; subst e
    exact c_check (i := 0) (lo := 2) (hi := 13) hR hN hk (by omega) (by omega) (fun D1 o1 R1 => rest D1 o1 R1)
  · have e := inj 1 (by omega) c; subst e
    exact c_check (i := 0) (lo := 1) (hi := 4) hR hN hk (by omega) (by omega) (fun D1 o1 R1 => rest D1 o1 R1)
  · have e := inj 2 (by omega) c; subst e
    exact c_check (i := 0) (lo := 2) (hi := 4) hR hN hk (by omega) (by omega) (fun D1 o1 R1 => rest D1 o1 R1)
  · have e := inj 3 (by omega) c; subst e
    exact c_check (i := 0) (lo := 1) (hi := 9) hR hN hk (by omega) (by omega) (fun D1 o1 R1 => rest D1 o1 R1)
  · rw [nI_toInt (by omega)] at c
    have e : f = 4 := by omega
    subst e
    exact c_check (i := 0) (lo := 0) (hi := 9) hR hN hk (by omega) (by omega) (fun D1 o1 R1 => rest D1 o1 R1)
theorem c_tellPerson {Q : xD → Prop} {first : Nat} (hR : rdQ D a 0 q) (hN : nuR D a k V P) (hk : 4 ≤ k) (h : ∀ D', rdO D D' a → rdQ D' a 0 (tlPer q first V P) → Q D') : xCv (d + 5) m_Reader_tellPerson [.ref a, .int (nI first)] D Q := by
  have cl := hR.2.2.2.2.2.2.1
  have tq := cl.1 rfl
  obtain ⟨l5, l6⟩ := cl.2.2.1 rfl
  have k4 : xk (a + 3 + 1) = 4 := tq.1
  have v5 : ∀ {D'} {F : Option (Nat × Nat)}, rdQ D' a 0 (F, q.2) → D'.1 (a + 3 + 1 + 2) 5 = nI (tN q.2.1 5) := fun {D'} {F} R => by
    rw [(R.2.2.2.2.2.2.1.1 rfl).2.2.2.1 5 (by omega)]; exact l5
  have tail : ∀ F, F = (if tN q.2.1 5 < 6 then q.1 else nt q.1 3 first) → ∀ D1, rdO D D1 a → rdQ D1 a 0 (F, q.2) → xCv (d + 4) m_Reader_check [.ref a, .int (0 : Int32), .int (1 : Int32), .int (9 : Int32)] D1 (fun D3 => xCv (d + 4) m_Reader_check [.ref a, .int (1 : Int32), .int (1 : Int32), .int (9 : Int32)] D3 (fun D4 => xCv (d + 4) m_Reader_check [.ref a, .int (2 : Int32), .int (0 : Int32), .int (9 : Int32)] D4 (fun D5 => xCv (d + 4) m_Reader_check [.ref a, .int (3 : Int32), .int (0 : Int32), .int (20 : Int32)] D5 (fun D6 => xCi (d + 4) m_Table_people [.ref ((a + 3) + 1)] D6 (fun r8 D7 => ((6 : Int32) ≤ r8 → (none : Option Value) = none ∧ Q D7) ∧ (¬ (6 : Int32) ≤ r8 → xPf (d + 4 + 1) m_Reader_tellPerson 66 [(0, .ref a), (1, .int (nI first)), (2, .ref ((a + 3) + 1)), (3, .int (0 : Int32))] [] D7 (fun r D' => r = none ∧ Q D'))))))) := by
    intro F eF D1 o1 R1
    refine c_check (i := 0) (lo := 1) (hi := 9) R1 (hN.out o1.out (by omega)) (by omega) (by omega) (by omega) (fun D2 o2 R2 => ?_)
    have o12 := o1.trans o2
    refine c_check (i := 1) (lo := 1) (hi := 9) R2 (hN.out o12.out (by omega)) (by omega) (by omega) (by omega) (fun D3 o3 R3 => ?_)
    have o13 := o12.trans o3
    refine c_check (i := 2) (lo := 0) (hi := 9) R3 (hN.out o13.out (by omega)) (by omega) (by omega) (by omega) (fun D4 o4 R4 => ?_)
    have o14 := o13.trans o4
    refine c_check (i := 3) (lo := 0) (hi := 20) R4 (hN.out o14.out (by omega)) (by omega) (by omega) (by omega) (fun D5 o5 R5 => ?_)
    have o15 := o14.trans o5
    have T5 := R5.2.2.2.2.2.2.1.1 rfl
    refine c_peopleRaw k4 T5.2.1 ?_
    rw [v5 R5]
    rw [eF] at R5
    refine ⟨fun c => ⟨rfl, h D5 o15 ?_⟩, fun c => ?_⟩
    · have c1 : ¬ tN q.2.1 5 < 6 := by have := (nI_leI (a := 6) (by omega) (by omega)).mp c; omega
      unfold tlPer
      rw [if_neg c1, if_neg c1]
      rw [if_neg c1] at R5
      exact R5
    · have c1 : tN q.2.1 5 < 6 := Nat.lt_of_not_le (fun z => c (nI_le (a := 6) z (by omega)))
      have hN5 := hN.out o15.out (show a + 22 ≤ a + 22 ∨ a + 26 ≤ a by omega)
      -- number by number
      have one : ∀ w, w < 4 → ∀ D' ξ, xOut (a + 4) (a + 22) D5 D' → tQ D' (a + 3 + 1) ξ → ξ 5 = nI (tN q.2.1 5) → (∀ D'', xOut (a + 4) (a + 22) D5 D'' → tQ D'' (a + 3 + 1) (tSet ξ (6 + 7 * tN q.2.1 5 + w) (nI (V w))) → xPf (d + 5) m_Reader_tellPerson 66 [(0, .ref a), (1, .int (nI first)), (2, .ref ((a + 3) + 1)), (3, .int (nI (w + 1)))] [] D'' (fun r D' => r = none ∧ Q D')) →
          xPf (d + 5) m_Reader_tellPerson 66 [(0, .ref a), (1, .int (nI first)), (2, .ref ((a + 3) + 1)), (3, .int (nI w))] [] D' (fun r D' => r = none ∧ Q D') := by
        intro w hw D' ξ o' tq' e5 nx
        refine s_Reader_tellPerson_66 hR.1 k4 ⟨fun z => absurd z (nI_nlt (a := 3) (b := w) (by omega) (by omega)), fun _ => c_peopleRaw k4 tq'.2.1 ?_⟩
        rw [tq'.2.2.2.1 5 (by omega), e5]
        refine nu_v (hN5.out o' (by omega)) (by omega) ?_
        refine c_tQ_setOf tq' c1 (by omega) (fun D'' o'' w'' => ?_)
        rw [nI_1 w]
        exact nx D'' (o'.trans (o''.mono (by omega) (by omega))) w''
      have s5 : ∀ (ξ : Nat → Int32) w v, tSet ξ (6 + 7 * tN q.2.1 5 + w) v 5 = ξ 5 := fun ξ w v => by rw [tSet_at, if_neg (by omega)]
      refine one 0 (by omega) D5 q.2.1 xOut.rfl' T5 l5 (fun D6 o6 w6 => ?_)
      refine one 1 (by omega) D6 _ o6 w6 (by rw [s5]; exact l5) (fun D7 o7 w7 => ?_)
      refine one 2 (by omega) D7 _ o7 w7 (by rw [s5, s5]; exact l5) (fun D8 o8 w8 => ?_)
      refine one 3 (by omega) D8 _ o8 w8 (by rw [s5, s5, s5]; exact l5) (fun D9 o9 w9 => ?_)
      refine s_Reader_tellPerson_66 hR.1 k4 ⟨fun _ => c_peopleRaw k4 w9.2.1 ?_, fun z => absurd (nI_lt (a := 3) (b := 4) (by omega) (by omega)) z⟩
      rw [w9.2.2.2.1 5 (by omega), s5, s5, s5, s5, l5, nI_1]
      refine c_tQ_setNumber (j := 5) w9 (by omega) (fun D10 o10 w10 => ⟨rfl, h D10 (o15.trans ((rdO.of o9 (by omega)).trans (rdO.of o10 (by omega)))) ?_⟩)
      unfold tlPer
      rw [if_pos c1, if_pos c1]
      rw [if_pos c1] at R5
      refine rdQ_sheet R5 (o9.trans (o10.mono (by omega) (by omega))) (clR_tab w10 ?_ ?_)
      · rw [tSet_N, if_pos rfl, tSet_at, if_pos rfl, nI_clamp (by omega)]
      · rw [tSet_N, if_pos rfl, nI_clamp (by omega)]; omega
  refine xCv_of y_Reader_tellPerson (Nat.le_of_ble_eq_true rfl) (s_Reader_tellPerson_0 hR.1 (c_peopleRaw k4 tq.2.1 ?_))
  rw [v5 hR]
  refine ⟨fun c => ?_, fun c => ?_⟩
  · exact tail q.1 (by rw [if_pos ((nI_ltI (b := 6) (by omega) (by omega)).mp c)]) D rdO.rfl' hR
  · exact c_note (kk := 3) hR (by omega) (fun D1 o1 R1 => tail _ (by rw [if_neg (fun z => c (nI_lt (b := 6) z (by omega)))]) D1 o1 R1)
theorem mxm {g n : Nat} {r : Int32} (hg : g < 2 ^ 30) (hn : n < 2 ^ 20) (e : r = if nI g - (1 : Int32) < nI n then nI n else nI g - 1) : r = nI (if g < n + 1 then n + 1 else g) - 1 := by
  have c : nI g - (1 : Int32) < nI n ↔ g < n + 1 := by
    rw [← aI_s n]
    exact aI_lt hg (by omega)
  rw [e]
  by_cases z : g < n + 1
  · rw [if_pos (c.mpr z), if_pos z, aI_s]
  · rw [if_neg (fun y => z (c.mp y)), if_neg z]
theorem tSetP_5 (ξ : Nat → Int32) {p w : Nat} (v : Int32) : tSetP ξ p w v 5 = ξ 5 := by
  unfold tSetP
  split
  · rw [tSet_at, if_neg (by omega)]
  · rfl
theorem tSetP_N5 (ξ : Nat → Int32) {p w : Nat} (v : Int32) : tN (tSetP ξ p w v) 5 = tN ξ 5 := by unfold tN; rw [tSetP_5]
theorem rdQ_gt {D' : xD} {v : Nat} (hR : rdQ D a s q) (o : xOut a (a + 1) D D') (f : ∀ j, D'.1 a j = if j = 11 then nI v - 1 else D.1 a j) : rdQ D' a s (q.1, q.2.1, v, q.2.2.2) := by
  obtain ⟨r1, r2, r3, r4, r5, r6, r7, r8⟩ := hR
  exact ⟨r1, by rw [f, if_neg (by omega)]; exact r2, by rw [f, if_neg (by omega)]; exact r3, by rw [f, if_neg (by omega)]; exact r4, by rw [f, if_pos rfl], by rw [f, if_neg (by omega)]; exact r6, r7.out o (by omega), r8⟩
theorem rdQ_gk {D' : xD} {v : Nat} (hR : rdQ D a s q) (o : xOut a (a + 1) D D') (f : ∀ j, D'.1 a j = if j = 12 then nI v - 1 else D.1 a j) : rdQ D' a s (q.1, q.2.1, q.2.2.1, v) := by
  obtain ⟨r1, r2, r3, r4, r5, r6, r7, r8⟩ := hR
  exact ⟨r1, by rw [f, if_neg (by omega)]; exact r2, by rw [f, if_neg (by omega)]; exact r3, by rw [f, if_neg (by omega)]; exact r4, by rw [f, if_neg (by omega)]; exact r5, by rw [f, if_pos rfl], r7.out o (by omega), r8⟩
theorem c_tellJumpy {Q : xD → Prop} (hR : rdQ D a 0 q) (hN : nuR D a k V P) (hk : 1 ≤ k) (hg : q.2.2.1 < 2 ^ 30) (h : ∀ D', rdO D D' a → rdQ D' a 0 (tlJum q (V 0) (P 0)) → Q D') : xCv (d + 5) m_Reader_tellJumpy [.ref a] D Q := by
  have hv := (hN.2.2 0 hk).2.2.1
  refine xCv_of y_Reader_tellJumpy (Nat.le_of_ble_eq_true rfl) (s_Reader_tellJumpy_0 hR.1 ?_)
  refine c_check (i := 0) (lo := 0) (hi := 5) hR hN hk (by omega) (by omega) (fun D1 o1 R1 => nu_v (i := 0) (hN.out o1.out (by omega)) hk (fun r4 e4 D5 e5 => ?_))
  rw [R1.2.2.2.2.1] at e4
  obtain ⟨o5, f5⟩ := fld e5
  rw [mxm hg (by omega) e4] at f5
  have R5 := rdQ_gt R1 o5 f5
  have o15 := o1.trans (rdO.fld o5 (fun j hj => by rw [f5, if_neg (by omega)]))
  refine nu_v (i := 0) (hN.out o15.out (by omega)) hk ?_
  have cl := R5.2.2.2.2.2.2.1
  obtain ⟨l5, l6⟩ := cl.2.2.1 rfl
  refine c_tQ_setP (w := 6) (cl.1 rfl) hv (by omega) (fun D6 o6 w6 => ⟨rfl, h D6 (o15.trans (rdO.of o6 (by omega))) ?_⟩)
  exact rdQ_sheet R5 (o6.mono (by omega) (by omega)) (clR_tab w6 (by rw [tSetP_N5, tSetP_5]; exact l5) (by rw [tSetP_N5]; exact l6))
theorem c_tellLaw {Q : xD → Prop} {w : Nat} (hR : rdQ D a 0 q) (hN : nuR D a k V P) (hk : 1 ≤ k) (hw : w < 4) (h7 : D.1 a 7 = nI w) (hk2 : w = 1 ∨ w = 2 → 2 ≤ k) (hg : q.2.2.1 < 2 ^ 30) (hg2 : q.2.2.2 < 2 ^ 30) (h : ∀ D', rdO D D' a → rdQ D' a 0 (tlLaw q w (V 0) (P 0) (V 1) (P 1)) → Q D') : xCv (d + 5) m_Reader_tellLaw [.ref a] D Q := by
  have hv := (hN.2.2 0 hk).2.2.1
  refine xCv_of y_Reader_tellLaw (Nat.le_of_ble_eq_true rfl) (s_Reader_tellLaw_0 hR.1 (nu_v (i := 0) hN hk ?_))
  refine c_check (i := 0) (lo := 0) (hi := 5) hR hN hk (by omega) (by omega) (fun D1 o1 R1 r4 e4 D5 e5 => ?_)
  rw [R1.2.2.2.2.1] at e4
  obtain ⟨o5, f5⟩ := fld e5
  rw [mxm hg (by omega) e4] at f5
  have R5 := rdQ_gt R1 o5 f5
  have o15 := o1.trans (rdO.fld o5 (fun j hj => by rw [f5, if_neg (by omega)]))
  rw [o15.2.1 7 (by omega), h7]
  have cl := R5.2.2.2.2.2.2.1
  obtain ⟨l5, l6⟩ := cl.2.2.1 rfl
  refine c_tQ_setP (w := 4) (cl.1 rfl) hv (by omega) (fun D6 o6 w6 => c_tQ_setP (w := 5) w6 hv (by omega) (fun D7 o7 w7 => ?_))
  have R7 := rdQ_sheet R5 ((o6.mono (show a + 4 ≤ a + 3 + 1 + 1 by omega) (show a + 3 + 1 + 5 ≤ a + 22 by omega)).trans (o7.mono (by omega) (by omega))) (clR_tab w7 (by rw [tSetP_N5, tSetP_5, tSetP_N5, tSetP_5]; exact l5) (by rw [tSetP_N5, tSetP_N5]; exact l6))
  have o17 : rdO D D7 a := o15.trans ((rdO.of o6 (by omega)).trans (rdO.of o7 (by omega)))
  rw [o17.2.1 7 (by omega), h7]
  unfold tlLaw at h
  have more : (w = 1 ∨ w = 2) → xCv (d + 4) m_Reader_check [.ref a, .int (1 : Int32), .int (0 : Int32), .int (12 : Int32)] D7 (fun D8 => xCi (d + 4) m_Row_get [.ref (a + 22), .int (1 : Int32)] D8 (fun r10 D9 => ∀ r11 : Int32, r11 = (if (D8.1 a 12) < r10 then r10 else (D8.1 a 12)) → ∀ D12 : xD, D12 = (xu D9.1 a 12 r11, D9.2) → xCi (d + 4) m_Row_get [.ref (a + 22), .int (1 : Int32)] D12 (fun r14 D13 => xCv (d + 4) m_Table_setOf [.ref ((a + 3) + 1), .int (nI (V 0)), .int (5 : Int32), .int r14] D13 (fun D15 => (none : Option Value) = none ∧ Q D15)))) := by
    intro hw2
    have hk2 := hk2 hw2
    have hv1 := (hN.2.2 1 (by omega)).2.2.1
    rw [if_pos hw2] at h
    refine c_check (i := 1) (lo := 0) (hi := 12) R7 (hN.out o17.out (by omega)) (by omega) (by omega) (by omega) (fun D8 o8 R8 => ?_)
    have o18 := o17.trans o8
    refine nu_v (i := 1) (hN.out o18.out (by omega)) (by omega) (fun r11 e11 D12 e12 => ?_)
    rw [R8.2.2.2.2.2.1] at e11
    obtain ⟨o12, f12⟩ := fld e12
    rw [mxm hg2 (by omega) e11] at f12
    have R12 := rdQ_gk R8 o12 f12
    have o1c := o18.trans (rdO.fld o12 (fun j hj => by rw [f12, if_neg (by omega)]))
    refine nu_v (i := 1) (hN.out o1c.out (by omega)) (by omega) ?_
    have cl := R12.2.2.2.2.2.2.1
    obtain ⟨l5, l6⟩ := cl.2.2.1 rfl
    refine c_tQ_setP (w := 5) (cl.1 rfl) hv (by omega) (fun D13 o13 w13 => ⟨rfl, h D13 (o1c.trans (rdO.of o13 (by omega))) ?_⟩)
    exact rdQ_sheet R12 (o13.mono (by omega) (by omega)) (clR_tab w13 (by rw [tSetP_N5, tSetP_5]; exact l5) (by rw [tSetP_N5]; exact l6))
  have inj : ∀ u : Nat, u < 10 → nI w = nI u → w = u := fun u hu q => (nI_eq (by omega) (by omega)).mp q
  refine ⟨fun c => more (Or.inl (inj 1 (by omega) c)), fun c => ⟨fun c1 => ⟨rfl, ?_⟩, fun c1 => more (Or.inr (inj 2 (by omega) c1))⟩⟩
  rw [if_neg (by
    rintro (z | z)
    · exact c (by rw [z]; rfl)
    · exact c1 (by rw [z]; rfl))] at h
  exact h D7 o17 R7
end TELL
