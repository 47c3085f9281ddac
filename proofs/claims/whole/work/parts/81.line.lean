/-! The Reader reads lines. -/
def mw (w : Nat) : Nat := if w = 1 ∨ w = 2 then 1 else 0
theorem mw_le (w : Nat) : mw w ≤ 1 := by unfold mw; split <;> omega
theorem lnLaw_e (t : Nat × (Nat → Nat)) (q : qS) (p1 p w : Nat) : lnLaw t q p1 p w = if cN t (mw w) (tE t p) < mw w then .inl (tS t (nx t (tE t p) (cN t (mw w) (tE t p)))) else if tK t (nx t (tE t p) (cN t (mw w) (tE t p))) ≠ 2 then .inl (tS t (nx t (tE t p) (cN t (mw w) (tE t p)))) else .inr (tlLaw q w (tV t p1) (tS t p1) (tV t (tE t p)) (tS t (tE t p)), tE t (nx t (tE t p) (cN t (mw w) (tE t p)))) := rfl
theorem lnS_0 {t : Nat × (Nat → Nat)} {s p : Nat} {q : qS} (h : (if tK t p = 0 then firstW t p (lnF s) else none) = none) : lnS t s q p = .inl (tS t p) := by unfold lnS; rw [h]
theorem lnS_1 {t : Nat × (Nat → Nat)} {s p f : Nat} {q : qS} (h : (if tK t p = 0 then firstW t p (lnF s) else none) = some f) : lnS t s q p = lnRest t q p (tE t p) f := by unfold lnS; rw [h]
theorem lnRest_s {t : Nat × (Nat → Nat)} {q : qS} {p p1 f : Nat} (h : cN t (msN f) p1 < lsN f) : lnRest t q p p1 f = .inl (tS t (nx t p1 (cN t (msN f) p1))) := by unfold lnRest; exact if_pos h
theorem lnRest_n {t : Nat × (Nat → Nat)} {q : qS} {p p1 f : Nat} (h : ¬ cN t (msN f) p1 < lsN f) (h7 : f ≠ 7) : lnRest t q p p1 f = if tK t (nx t p1 (cN t (msN f) p1)) ≠ 2 then .inl (tS t (nx t p1 (cN t (msN f) p1))) else .inr (tl q f (tS t p) (fun i => tV t (nx t p1 i)) (fun i => tS t (nx t p1 i)) (cN t (msN f) p1), tE t (nx t p1 (cN t (msN f) p1))) := by
  unfold lnRest
  rw [if_neg h, if_neg h7]
theorem lnRest_70 {t : Nat × (Nat → Nat)} {q : qS} {p p1 : Nat} (h : ¬ cN t (msN 7) p1 < lsN 7) (hw : (if tK t (nx t p1 (cN t (msN 7) p1)) = 0 then firstW t (nx t p1 (cN t (msN 7) p1)) lawF else none) = none) : lnRest t q p p1 7 = .inl (tS t (nx t p1 (cN t (msN 7) p1))) := by
  unfold lnRest
  rw [if_neg h, if_pos rfl, hw]
theorem lnRest_71 {t : Nat × (Nat → Nat)} {q : qS} {p p1 w : Nat} (h : ¬ cN t (msN 7) p1 < lsN 7) (hw : (if tK t (nx t p1 (cN t (msN 7) p1)) = 0 then firstW t (nx t p1 (cN t (msN 7) p1)) lawF else none) = some w) : lnRest t q p p1 7 = lnLaw t q p1 (nx t p1 (cN t (msN 7) p1)) w := by
  unfold lnRest
  rw [if_neg h, if_pos rfl, hw]
theorem ifs_some {c : Prop} [Decidable c] {o : Option Nat} {w : Nat} (h : (if c then o else none) = some w) : c ∧ o = some w := by
  by_cases z : c
  · rw [if_pos z] at h; exact ⟨z, h⟩
  · rw [if_neg z] at h; cases h
theorem nuR_e {D : xD} {a k k' : Nat} {V P V' P' : Nat → Nat} (h : nuR D a k V P) (e : k = k') (f : ∀ i, i < k' → V i = V' i ∧ P i = P' i) : nuR D a k' V' P' := by
  subst e
  exact ⟨h.1, h.2.1, fun i hi => by rw [← (f i hi).1, ← (f i hi).2]; exact h.2.2 i hi⟩
theorem tkR_e {D D' : xD} {a p : Nat} {t : Nat × (Nat → Nat)} (h : tkR D a t p) (e : ∀ j, 3 < j → j < 7 → D'.1 a j = D.1 a j) : tkR D' a t p := ⟨h.1, by rw [e 4 (by omega) (by omega)]; exact h.2.1, by rw [e 5 (by omega) (by omega)]; exact h.2.2.1, by rw [e 6 (by omega) (by omega)]; exact h.2.2.2⟩
section LINE
variable {d : Nat} {D : xD} {a s p : Nat} {t : Nat × (Nat → Nat)} {q : qS}
theorem c_readLaw {Q : xD → Prop} {V P : Nat → Nat} (hR : rdT D a t) (hk : tkR D a t p) (hN : nuR D a 1 V P)
    (h0 : ∀ D', rdF D D' a → brR D' a (tS t p) → (if tK t p = 0 then firstW t p lawF else none) = none → Q D')
    (h1 : ∀ w D', rdF D D' a → (if tK t p = 0 then firstW t p lawF else none) = some w → cN t (mw w) (tE t p) < mw w → brR D' a (tS t (nx t (tE t p) (cN t (mw w) (tE t p)))) → Q D')
    (h2 : ∀ w D', rdF D D' a → (if tK t p = 0 then firstW t p lawF else none) = some w → mw w ≤ cN t (mw w) (tE t p) → D'.1 a 7 = nI w → (∀ j, 7 < j → D'.1 a j = D.1 a j) → tkR D' a t (nx t (tE t p) (cN t (mw w) (tE t p))) →
      nuR D' a (1 + cN t (mw w) (tE t p)) (fun i => if i < 1 then V i else tV t (nx t (tE t p) (i - 1))) (fun i => if i < 1 then P i else tS t (nx t (tE t p) (i - 1))) → Q D') : xCv (d + 8) m_Reader_readLaw [.ref a] D Q := by
  have hK4 := tK_lt t p
  have eK : D.1 a 4 = 0 ↔ tK t p = 0 := by rw [hk.2.1]; exact nI_eq (b := 0) (by omega) (by omega)
  have brk : ∀ D1, rdF D D1 a → tkR D1 a t p → (if tK t p = 0 then firstW t p lawF else none) = none → xCv (d + 7) m_Reader_breakOff [.ref a] D1 (fun D6 => (none : Option Value) = none ∧ Q D6) :=
    fun D1 o1 k1 e => c_breakOff hR.1 k1 (fun D2 o2 b2 => ⟨rfl, h0 D2 (o1.trans (rdF.fld o2)) b2 e⟩)
  refine xCv_of y_Reader_readLaw (Nat.le_of_ble_eq_true rfl) (s_Reader_readLaw_0 hR.1 ?_)
  rw [eK]
  refine ⟨fun c D1 e1 => ?_, fun c => c_lawHere hR hk (fun D1 e1 => ?_)⟩
  · obtain ⟨o1, f1⟩ := fld e1
    have k1 : tkR D1 a t p := tkR_e hk (fun j _ h7 => by rw [f1, if_neg (by omega)])
    exact ⟨fun z => absurd (by rw [f1, if_pos rfl]) z, fun _ => brk D1 (rdF.fld o1) k1 (if_neg c)⟩
  · obtain ⟨o1, f1⟩ := fld e1
    have k1 : tkR D1 a t p := tkR_e hk (fun j _ h7 => by rw [f1, if_neg (by omega)])
    have R1 := hR.fr (rdF.fld o1)
    cases hw : firstW t p lawF with
    | none =>
      rw [hw] at f1
      exact ⟨fun z => absurd (by rw [f1, if_pos rfl]; rfl) z, fun _ => brk D1 (rdF.fld o1) k1 (by rw [if_pos c]; exact hw)⟩
    | some w =>
      rw [hw] at f1
      have w4 := law_ok hw
      have ew : (if tK t p = 0 then firstW t p lawF else none) = some w := by rw [if_pos c]; exact hw
      refine ⟨fun _ => c_stepK R1 k1 (fun D2 o2 k2 f2 => ?_), fun z => absurd ((oI_iff (r := some w) (fun p' e => by cases e; omega)).mp (by rw [← z, f1, if_pos rfl])) (fun y => by cases y)⟩
      have e7 : D2.1 a 7 = nI w := by rw [f2 7 (by omega), f1, if_pos rfl]; rfl
      rw [e7]
      have oD2 : rdF D D2 a := (rdF.fld o1).trans (rdF.fld o2)
      have N2 : nuR D2 a 1 V P := (hN.out o1 (by omega)).out o2 (by omega)
      have fin : ∀ m, m = mw w → xCv (d + 7) m_Reader_readNumbers [.ref a, .int (nI m), .int (nI m)] D2 (fun D3 => (none : Option Value) = none ∧ Q D3) := by
        intro m e
        subst e
        have m1 := mw_le w
        refine c_readNumbers (k := 1) (hR.fr oD2) k2 N2 (by omega) (by omega) (fun D3 o3 f3 k3 N3 l3 => ⟨rfl, h2 w D3 (oD2.trans o3) ew l3 ?_ (fun j hj => ?_) k3 N3⟩) (fun D3 o3 b3 l3 => ⟨rfl, h1 w D3 (oD2.trans o3) ew l3 b3⟩)
        · rw [f3 7 (by omega)]; exact e7
        · rw [f3 j (by omega), f2 j (by omega), f1, if_neg (by omega)]
      have e1 : nI w = (1 : Int32) ↔ w = 1 := nI_eq (b := 1) (by omega) (by omega)
      have e2 : nI w = (2 : Int32) ↔ w = 2 := nI_eq (b := 2) (by omega) (by omega)
      rw [e1, e2]
      exact ⟨fun c1 => fin 1 (by unfold mw; rw [if_pos (Or.inl c1)]), fun c1 => ⟨fun c2 => fin 0 (by unfold mw; rw [if_neg (by omega)]), fun c2 => fin 1 (by unfold mw; rw [if_pos (Or.inr c2)])⟩⟩
theorem c_tell7 {Q : xD → Prop} {first w k : Nat} {V P : Nat → Nat} (hR : rdQ D a 0 q) (hv : vOK 0 q) (hN : nuR D a k V P) (hk : 1 ≤ k) (hw : w < 4) (h7 : D.1 a 7 = nI w) (hk2 : w = 1 ∨ w = 2 → 2 ≤ k) (h : ∀ D', rdO D D' a → rdQ D' a 0 (tlLaw q w (V 0) (P 0) (V 1) (P 1)) → Q D') : xCv (d + 6) m_Reader_tell [.ref a, .int (nI 7), .int (nI first)] D Q := by
  have inj : ∀ u : Nat, u < 30 → nI 7 = nI u → 7 = u := fun u hu q => (nI_eq (by omega) (by omega)).mp q
  have hg := hv.2
  refine xCv_of y_Reader_tell (Nat.le_of_ble_eq_true rfl) (s_Reader_tell_0 hR.1 ⟨fun c => ?_, fun c => ?_, fun c => ?_, fun c => ?_, fun c => ?_, fun c => ?_, fun c => ?_, fun c => ?_⟩)
  · exact absurd (inj 5 (by omega) c) (by omega)
  · exact absurd (inj 6 (by omega) c) (by omega)
  · exact c_tellLaw hR hN hk hw h7 hk2 (by omega) (by omega) (fun D' o R => ⟨rfl, h D' o R⟩)
  · exact absurd (inj 8 (by omega) c) (by omega)
  · exact absurd (inj 9 (by omega) c) (by omega)
  · exact absurd (inj 10 (by omega) c) (by omega)
  · exact absurd (inj 11 (by omega) c) (by omega)
  · rw [nI_toInt (by omega)] at c; omega
theorem c_readLine {Q : xD → Prop} (hs : s < 5) (hR : rdT D a t) (hq : rdQ D a s q) (hv : vOK s q) (hk : tkR D a t p)
    (hb : ∀ b D', xOut a (a + 26) D D' → rdT D' a t → lnS t s q p = .inl b → brR D' a b → Q D')
    (hg : ∀ q' p' D', xOut a (a + 26) D D' → rdT D' a t → lnS t s q p = .inr (q', p') → rdQ D' a s q' → vOK s q' → tkR D' a t p' → Q D') : xCv (d + 9) m_Reader_readLine [.ref a, .int (nI s)] D Q := by
  have hK4 := tK_lt t p
  have eK : D.1 a 4 = 0 ↔ tK t p = 0 := by rw [hk.2.1]; exact nI_eq (b := 0) (by omega) (by omega)
  have k22 : xk (a + 22) = 2 := ck_6_2 hR.1
  have k24 : xk (a + 24) = 2 := ck_6_3 hR.1
  have brk : (if tK t p = 0 then firstW t p (lnF s) else none) = none → xCv (d + 8) m_Reader_breakOff [.ref a] D (fun D6 => (none : Option Value) = none ∧ Q D6) :=
    fun e => c_breakOff hR.1 hk (fun D2 o2 b2 => ⟨rfl, hb _ D2 (rdF.fld o2).out (hR.fr (rdF.fld o2)) (lnS_0 e) b2⟩)
  refine xCv_of y_Reader_readLine (Nat.le_of_ble_eq_true rfl) (s_Reader_readLine_0 hR.1 ?_)
  rw [eK, hk.2.2.1]
  refine ⟨fun c => ⟨fun z => absurd rfl z, fun _ => brk (if_neg c)⟩, fun c => c_formOf hs hR hk ?_⟩
  cases hf : firstW t p (lnF s) with
  | none => exact ⟨fun z => absurd rfl z, fun _ => brk (by rw [if_pos c]; exact hf)⟩
  | some f =>
    have fo := form_ok hs hf
    have f30 : f < 30 := by omega
    have hL : lnS t s q p = lnRest t q p (tE t p) f := lnS_1 (by rw [if_pos c]; exact hf)
    rw [hL] at hb hg
    refine ⟨fun _ => c_stepK hR hk (fun D1 o1 k1 f1 => c_clear k22 (fun D2 o2 w2 => c_clear k24 (fun D3 o3 w3 => c_least f30 (c_most f30 ?_)))), fun z => absurd ((oI_iff (r := some f) (fun p' e => by cases e; omega)).mp z) (fun y => by cases y)⟩
    have oD3 : rdF D D3 a := (rdF.fld o1).trans ((rdF.row o2 (by omega)).trans (rdF.row o3 (by omega)))
    have R3 := hR.fr oD3
    have a3 : D3.1 a = D1.1 a := by rw [o3.1 a (by omega), o2.1 a (by omega)]
    have k3 : tkR D3 a t (tE t p) := tkR_e k1 (fun j _ _ => by rw [a3])
    have q3 : rdQ D3 a s q := hq.fr oD3 (fun j hj => by rw [a3]; exact f1 j (by omega))
    have N3 : nuR D3 a 0 (fun _ => 0) (fun _ => 0) := ⟨w2.out o3 (by omega), w3, fun i hi => absurd hi (Nat.not_lt_zero _)⟩
    have ls : 1 ≤ lsN f ∧ lsN f ≤ 4 := by unfold lsN; split <;> (try split) <;> omega
    have ms : msN f ≤ 600 := by
      have := tSix_is
      unfold msN
      split
      · omega
      · omega
    have cm := cN_le t (msN f) (tE t p)
    have done : ∀ D4 b, rdF D D4 a → lnRest t q p (tE t p) f = .inl b → brR D4 a b → xPf (d + 9) m_Reader_readLine 79 [(0, .ref a), (1, .int (nI s)), (2, .int (nI (tS t p))), (3, .int (nI f))] [] D4 (fun r D' => r = none ∧ Q D') := by
      intro D4 b o4 e b4
      have nz : ¬ (D4.1 a 8) = 0 := by rw [b4.1]; decide
      exact s_Reader_readLine_79 hR.1 ⟨fun _ => ⟨fun _ => ⟨rfl, hb b D4 o4.out (hR.fr o4) e b4⟩, fun z => absurd z nz⟩, fun z => absurd z nz⟩
    have semi : ∀ D4 pp, rdF D D4 a → tkR D4 a t pp → D4.1 a 8 = 0 → (tK t pp ≠ 2 → lnRest t q p (tE t p) f = .inl (tS t pp)) → (tK t pp = 2 → ∀ D5, xOut a (a + 1) D4 D5 → tkR D5 a t (tE t pp) → (∀ j, 6 < j → D5.1 a j = D4.1 a j) → xCv (d + 8) m_Reader_tell [.ref a, .int (nI f), .int (nI (tS t p))] D5 (fun D6 => (none : Option Value) = none ∧ Q D6)) →
        xPf (d + 9) m_Reader_readLine 79 [(0, .ref a), (1, .int (nI s)), (2, .int (nI (tS t p))), (3, .int (nI f))] [] D4 (fun r D' => r = none ∧ Q D') := by
      intro D4 pp o4 k4 z8 e1 e2
      have R4 := hR.fr o4
      have e2' : D4.1 a 4 = (2 : Int32) ↔ tK t pp = 2 := by rw [k4.2.1]; exact nI_eq (b := 2) (by have := tK_lt t pp; omega) (by omega)
      refine s_Reader_readLine_79 hR.1 ⟨fun z => absurd z8 z, fun _ => ?_⟩
      rw [e2']
      refine ⟨fun c2 => ⟨fun z => absurd z8 z, fun _ => c_stepK R4 k4 (fun D5 o5 k5 f5 => e2 c2 D5 o5 k5 f5)⟩, fun c2 => c_breakOff hR.1 k4 (fun D5 o5 b5 => ⟨fun _ => ⟨rfl, hb _ D5 (o4.trans (rdF.fld o5)).out (hR.fr (o4.trans (rdF.fld o5))) (e1 c2) b5⟩, fun z => absurd z (by rw [b5.1]; decide)⟩)⟩
    refine c_readNumbers (k := 0) R3 k3 N3 (by omega) (by omega) (fun D4 o4 f4 k4 N4 l4 => ?_) (fun D4 o4 b4 l4 => ?_)
    · have oD4 := oD3.trans o4
      have N4' : nuR D4 a (cN t (msN f) (tE t p)) (fun i => tV t (nx t (tE t p) i)) (fun i => tS t (nx t (tE t p) i)) := nuR_e N4 (Nat.zero_add _) (fun i hi => ⟨if_neg (Nat.not_lt_zero i), if_neg (Nat.not_lt_zero i)⟩)
      have q4 : rdQ D4 a s q := q3.fr o4 (fun j hj => f4 j (by omega))
      have z8 : D4.1 a 8 = 0 := q4.2.1
      refine ⟨fun c7 => ?_, fun c7 => ⟨fun z => absurd z8 z, fun _ => ?_⟩⟩
      · have f7 : f ≠ 7 := fun e => c7 (by rw [e]; rfl)
        have eR := lnRest_n (q := q) (p := p) (show ¬ cN t (msN f) (tE t p) < lsN f by omega) f7
        refine semi D4 _ oD4 k4 z8 (fun z => by rw [eR, if_pos z]) (fun z D5 o5 k5 f5 => ?_)
        have oD5 := oD4.trans (rdF.fld o5)
        have N5 := N4'.out o5 (by omega)
        refine c_tell fo f7 (q4.fr (rdF.fld o5) (fun j hj => f5 j (by omega))) hv N5 l4 (by omega) (fun D6 o6 q6 => ⟨rfl, hg _ _ D6 (oD5.out.trans (o6.out.mono (by omega) (by omega))) (rdO_T (hR.fr oD5) o6) (eR.trans (if_neg (not_not_intro z))) q6 (vOK_tl fo f7 (N5.2.2 0 (by omega)).2.2.1 hv) (rdO_tk k5 o6)⟩)
      · have f7 : f = 7 := (nI_eq (b := 7) (by omega) (by omega)).mp c7
        have s0 : s = 0 := by omega
        subst f7
        subst s0
        have l7 : lsN 7 = 1 := rfl
        have m7 : msN 7 = 1 := by unfold msN; rw [if_neg (by omega)]; rfl
        have nl : ¬ cN t (msN 7) (tE t p) < lsN 7 := by omega
        have c1 : cN t (msN 7) (tE t p) = 1 := by omega
        refine c_readLaw (hR.fr oD4) k4 (nuR_e N4' c1 (fun i _ => ⟨rfl, rfl⟩)) (fun D5 o5 b5 e5 => done D5 _ (oD4.trans o5) (lnRest_70 nl e5) b5) (fun w D5 o5 e5 l5 b5 => done D5 _ (oD4.trans o5) ?_ b5) (fun w D5 o5 e5 l5 h7 f5 k5 N5 => ?_)
        · rw [lnRest_71 nl e5, lnLaw_e, if_pos l5]
        · have w4 : w < 4 := law_ok (ifs_some e5).2
          have eL := lnRest_71 (q := q) (p := p) nl e5
          rw [lnLaw_e, if_neg (Nat.not_lt.mpr l5)] at eL
          have N5' : nuR D5 a (1 + cN t (mw w) (tE t (nx t (tE t p) (cN t (msN 7) (tE t p))))) (fun i => if i = 0 then tV t (tE t p) else tV t (nx t (tE t (nx t (tE t p) (cN t (msN 7) (tE t p)))) (i - 1))) (fun i => if i = 0 then tS t (tE t p) else tS t (nx t (tE t (nx t (tE t p) (cN t (msN 7) (tE t p)))) (i - 1))) := nuR_e N5 rfl (fun i _ => by
            by_cases z : i = 0
            · subst z; exact ⟨rfl, rfl⟩
            · have n1 : ¬ i < 1 := by omega
              simp only [if_neg z, if_neg n1]
              exact ⟨trivial, trivial⟩)
          refine semi D5 _ (oD4.trans o5) k5 (by rw [f5 8 (by omega)]; exact z8) (fun z => by rw [eL, if_pos z]) (fun z D6 o6 k6 f6 => ?_)
          have o56 := o5.trans (rdF.fld o6)
          have N6 := N5'.out o6 (by omega)
          have oD6 := oD4.trans o56
          have m1 : w = 1 ∨ w = 2 → mw w = 1 := fun y => if_pos y
          refine c_tell7 (w := w) (q4.fr o56 (fun j hj => by rw [f6 j (by omega), f5 j (by omega)])) hv N6 (by omega) w4 (by rw [f6 7 (by omega)]; exact h7) (fun y => by have := m1 y; omega) (fun D7 o7 q7 => ⟨rfl, hg _ _ D7 (oD6.out.trans (o7.out.mono (by omega) (by omega))) (rdO_T (hR.fr oD6) o7) (eL.trans (if_neg (not_not_intro z))) q7 (vOK_law w4 (N6.2.2 0 (by omega)).2.2.1 (fun y => (N6.2.2 1 (by have := m1 y; omega)).2.2.1) hv) (rdO_tk k6 o7)⟩)
    · have oD4 := oD3.trans o4
      have eR := lnRest_s (q := q) (p := p) l4
      have nz : ¬ (D4.1 a 8) = 0 := by rw [b4.1]; decide
      exact ⟨fun _ => done D4 _ oD4 eR b4, fun _ => ⟨fun _ => done D4 _ oD4 eR b4, fun z => absurd z nz⟩⟩
end LINE
