/-! The reference is told a text. -/
/-- but the FAULT, its place and what reading needs, nothing has changed -/
def rT (D D' : xD) : Prop := (∀ i, i ≠ 325 → i ≠ 328 → i ≠ 329 → (i < 336 ∨ 338 ≤ i) → D'.1 i = D.1 i ∧ D'.2 i = D.2 i) ∧ ∀ j, 0 < j → D'.1 328 j = D.1 328 j ∧ D'.1 329 j = D.1 329 j
theorem rT_of {D D1 D' : xD} (o : mF 336 338 11 26 D D1) (o' : mF 328 330 0 0 D1 D') (h : ∀ j, 0 < j → D'.1 328 j = D1.1 328 j ∧ D'.1 329 j = D1.1 329 j) : rT D D' :=
  ⟨fun i a b c e => ⟨((o'.1 i a (by omega)).1).trans (o.1 i a (by omega)).1, ((o'.1 i a (by omega)).2).trans (o.1 i a (by omega)).2⟩, fun j hj => ⟨(h j hj).1.trans (by rw [(o.1 328 (by omega) (by omega)).1]), (h j hj).2.trans (by rw [(o.1 329 (by omega) (by omega)).1])⟩⟩
section MTEXT
variable {d : Nat} {D : xD} {t : Nat × (Nat → Nat)} {s : Nat} {q : qS} {g : gS}
theorem mFlt_I {F : Option (Nat × Nat)} (h : mFlt D F) : D.1 325 18 = fI F := by
  cases F with
  | none => exact h
  | some f => exact h.1
/-- fine or not, it is written down -/
theorem rt_end {P : Int32 → xD → Prop} {D1 : xD} {F : Option (Nat × Nat)} {x1 : Int32} (o : mF 336 338 11 26 D D1) (m : mFlt D1 F)
    (h : ∀ D', rT D D' → mF 328 330 0 0 D1 D' → D'.1 328 0 = fI F → D'.1 329 0 = fP F → P (if F = none then 1 else 0) D') :
    xPf (d + 9) m_M_readText 114 [(0, .ref 325), (1, .int x1), (2, .int (1 : Int32))] [] D1 (fun r D' => ∃ v, r = some (.int v) ∧ P v D') := by
  have l3 : xl (325 + 3) = 4 := cl_13_3 xk_M
  have l4 : xl (325 + 4) = 4 := cl_13_4 xk_M
  have i3 : vp_in (0 : Int32) (xl (325 + 3)) := by rw [l3]; exact vp_in_nI (n := 0) (by omega) (by omega)
  have i4 : vp_in (0 : Int32) (xl (325 + 4)) := by rw [l4]; exact vp_in_nI (n := 0) (by omega) (by omega)
  refine s_M_readText_114 xk_M ⟨fun z => absurd z (by decide), fun _ => ⟨i3, fun D5 e5 => ⟨fun _ => ?_, fun z => absurd z (by decide)⟩⟩⟩
  rw [k00] at e5 ⊢
  obtain ⟨o5, v5⟩ := ma (by omega) e5
  have v5' : ∀ j, D5.1 328 j = if j = 0 then D1.1 325 18 else D1.1 328 j := v5
  have g18 : D5.1 325 18 = fI F := by rw [o5.2 18 (by omega)]; exact mFlt_I m
  have done : ∀ D6 : xD, ∀ w : Int32, w = fP F → D6 = (xu D5.1 (325 + 4) 0 w, D5.2) → vp_in (0 : Int32) (xl (325 + 3)) ∧ (¬ (D6.1 (325 + 3) 0) = 0 → ∃ v, some (Value.int (0 : Int32)) = some (.int v) ∧ P v D6) ∧ ((D6.1 (325 + 3) 0) = 0 → ∃ v, some (Value.int (1 : Int32)) = some (.int v) ∧ P v D6) := by
    intro D6 w ew e6
    obtain ⟨o6, v6⟩ := ma (by omega) e6
    have v6' : ∀ j, D6.1 329 j = if j = 0 then w else D5.1 329 j := v6
    have s6 : D6.1 328 = D5.1 328 := (o6.1 328 (by omega) (by omega)).1
    have s5 : D5.1 329 = D1.1 329 := (o5.1 329 (by omega) (by omega)).1
    have f0 : D6.1 328 0 = fI F := by rw [s6, v5', if_pos rfl]; exact mFlt_I m
    have f0' : D6.1 (325 + 3) 0 = fI F := f0
    have o16 : mF 328 330 0 0 D1 D6 := (o5.m (by omega) (by omega)).trans (o6.m (by omega) (by omega))
    have fin := h D6 (rT_of o o16 (fun j hj => ⟨by rw [s6, v5', if_neg (by omega)], by rw [v6', if_neg (by omega), s5]⟩)) o16 f0 (by rw [v6', if_pos rfl]; exact ew)
    rw [f0']
    cases F with
    | none =>
      rw [if_pos rfl] at fin
      exact ⟨i3, fun z => absurd rfl z, fun _ => ⟨_, rfl, fin⟩⟩
    | some f =>
      rw [if_neg (fun y => by cases y)] at fin
      exact ⟨i3, fun _ => ⟨_, rfl, fin⟩, fun z => absurd z (nI_ne0 m.2.2.1 (by have := m.2.2.2.1; omega))⟩
  rw [g18]
  cases F with
  | none => exact ⟨fun _ => ⟨i4, fun D6 e6 => done D6 (-1) rfl e6⟩, fun z => absurd (by decide) z⟩
  | some f =>
    obtain ⟨m1, m2, m3, m4, m5⟩ := m
    refine ⟨fun z => absurd z (nI_nle m3 (by omega)), fun _ => ⟨i4, fun D6 e6 => done D6 (D5.1 325 19) (by rw [o5.2 19 (by omega)]; exact m2) e6⟩⟩
theorem rt_bad {P : Int32 → xD → Prop} {D1 : xD} {b : Nat} {x1 : Int32} (o : mF 336 338 11 26 D D1) (e17 : D1.1 325 17 = nI b)
    (h : ∀ D', rT D D' → D'.1 328 0 = 1 → D'.1 329 0 = nI b → P 0 D') :
    xPf (d + 9) m_M_readText 114 [(0, .ref 325), (1, .int x1), (2, .int (0 : Int32))] [] D1 (fun r D' => ∃ v, r = some (.int v) ∧ P v D') := by
  have l3 : xl (325 + 3) = 4 := cl_13_3 xk_M
  have l4 : xl (325 + 4) = 4 := cl_13_4 xk_M
  have i3 : vp_in (0 : Int32) (xl (325 + 3)) := by rw [l3]; exact vp_in_nI (n := 0) (by omega) (by omega)
  have i4 : vp_in (0 : Int32) (xl (325 + 4)) := by rw [l4]; exact vp_in_nI (n := 0) (by omega) (by omega)
  refine s_M_readText_114 xk_M ⟨fun _ => ⟨i3, fun D5 e5 => ⟨fun z => absurd rfl z, fun _ => ⟨i4, fun D6 e6 => ⟨i3, ?_⟩⟩⟩⟩, fun z => absurd rfl z⟩
  rw [k00] at e5 e6 ⊢
  obtain ⟨o5, v5⟩ := ma (by omega) e5
  obtain ⟨o6, v6⟩ := ma (by omega) e6
  have v5' : ∀ j, D5.1 328 j = if j = 0 then 1 else D1.1 328 j := v5
  have v6' : ∀ j, D6.1 329 j = if j = 0 then D5.1 325 17 else D5.1 329 j := v6
  have s6 : D6.1 328 = D5.1 328 := (o6.1 328 (by omega) (by omega)).1
  have s5 : D5.1 329 = D1.1 329 := (o5.1 329 (by omega) (by omega)).1
  have f0 : D6.1 328 0 = 1 := by rw [s6, v5', if_pos rfl]
  have f0' : D6.1 (325 + 3) 0 = 1 := f0
  rw [f0']
  exact ⟨fun _ => ⟨_, rfl, h D6 (rT_of o ((o5.m (by omega) (by omega)).trans (o6.m (by omega) (by omega))) (fun j hj => ⟨by rw [s6, v5', if_neg (by omega)], by rw [v6', if_neg (by omega), s5]⟩)) f0 (by rw [v6', if_pos rfl, o5.2 17 (by omega)]; exact e17)⟩, fun z => absurd z (by decide)⟩
theorem c_M_readText {P : Int32 → xD → Prop} (hs : s < 5) (hT : mtp D t) (h : ∀ D', rT D D' → D'.1 328 0 = fI (rd t s).1 → D'.1 329 0 = fP (rd t s).1 → ((rd t s).1 = none → (∀ i, i < wS s → D'.1 336 i = (rd t s).2 i) ∧ txOK s (rd t s).2) → P (if (rd t s).1 = none then 1 else 0) D') : xCi (d + 9) m_M_readText [.ref 325, .int (nI s)] D P := by
  have l11 : xl (325 + 11) = 121 := cl_13_20 xk_M
  have e6 := tSix_is
  have n6 := hT.2.1
  have zs : nI s = (0 : Int32) ↔ s = 0 := nI_eq (b := 0) (by omega) (by omega)
  refine xCi_of y_M_readText (Nat.le_of_ble_eq_true rfl) (s_M_readText_0 xk_M (c_M_begin hs (fun D1 o1 v1 g22 g23 g24 D2 e2 D3 e3 => ?_)))
  obtain ⟨o2, f2⟩ := mf e2
  obtain ⟨o3, f3⟩ := mf e3
  have T3 : mtp D3 t := ((hT.fr o1 (by omega) (by omega)).fr o2 (by omega) (by omega)).fr o3 (by omega) (by omega)
  refine c_M_token T3 (p := 0) (by rw [o3.2 11 (by omega)]; exact f2) (Nat.zero_le _) (fun D4 o4 T4 k4 => ?_)
  have o14 : mF 0 0 11 20 D1 D4 := (o2.m (by omega) (by omega)).trans ((o3.m (by omega) (by omega)).trans (o4.m (by omega) (by omega)))
  have oD : mF 336 338 11 26 D D4 := (o1.m (by omega) (by omega)).trans (o14.m (by omega) (by omega))
  have s4 : D4.1 336 = D1.1 336 := (o14.1 336 (by omega) (by omega)).1
  have w2 : 1 < wS s := by unfold wS; split <;> (try split) <;> (try split) <;> (try split) <;> omega
  have R4 : mrd D4 t s (q0 s) := by
    refine ⟨T4, ?_, fun _ i hi => by rw [s4]; exact v1 i hi, ⟨fun e => ?_, fun e => by rw [s4]; exact v1 0 (by omega), fun e => by rw [s4]; exact v1 1 (by omega)⟩, ⟨fun e => ?_, fun e => ?_, fun e => ?_, fun e => ?_, fun e => ?_⟩, ?_, ?_, fun e _ => ?_⟩
    · show D4.1 325 18 = 0
      rw [o4.2 18 (by omega)]; exact f3
    · subst e; rw [s4]; exact v1 5 (by show 5 < 48; omega)
    · subst e; exact ⟨rfl, Nat.zero_le _⟩
    · subst e; exact ⟨rfl, Nat.zero_le _⟩
    · subst e; exact ⟨rfl, Nat.zero_le _⟩
    · subst e; exact ⟨rfl, Nat.zero_le _, rfl, Nat.zero_le _⟩
    · subst e; exact ⟨rfl, Nat.zero_le _⟩
    · rw [o14.2 22 (by omega), g22]; rfl
    · rw [o14.2 23 (by omega), g23]; rfl
    · subst e; rw [o14.2 24 (by omega), g24]; rfl
  refine c_M_lines (F := tSix) hs (by omega) R4 (vOK_0 hs) k4 (fun f e => by cases e) (fun b D5 o5 eb f17 => z0 (rt_bad (oD.trans o5) f17 (fun D' r a1 a2 => ?_))) (fun q' pE D5 o5 eq R5 v5 k5 kE b5 => z1 ?_)
  · rw [rd_l eb] at h
    exact h D' r a1 a2 (fun y => by cases y)
  · have er := rd_r eq
    have oD5 := oD.trans o5
    have told : ∀ D', rT D D' → mF 328 330 0 0 D5 D' → q'.1 = none → ∀ i, i < wS s → D'.1 336 i = q'.2.1 i := fun D' _ o e i hi => by rw [(o.1 336 (by omega) (by omega)).1]; exact R5.2.2.1 e i hi
    have plain : (rdEnd t s q').1 = q'.1 → xPf (d + 9) m_M_readText 114 [(0, .ref 325), (1, .int (nI s)), (2, .int (1 : Int32))] [] D5 (fun r D' => ∃ v, r = some (.int v) ∧ P v D') := by
      intro e
      refine rt_end oD5 R5.2.1 (fun D' r o a1 a2 => ?_)
      rw [er, e] at h
      exact h D' r a1 a2 (fun y => ⟨told D' r o y, txOK_of v5.1 (e.trans y)⟩)
    refine ⟨fun z => plain (by unfold rdEnd; rw [if_neg (fun y => z (zs.mpr y))]), fun z => ?_⟩
    have s0 := zs.mp z
    subst s0
    have e18 := mFlt_I R5.2.1
    rw [e18]
    cases hF : q'.1 with
    | some f =>
      have m := R5.2.1
      rw [hF] at m
      refine ⟨fun _ => plain ?_, fun y => absurd y (nI_ne0 m.2.2.1 (by have := m.2.2.2.1; omega))⟩
      show (if 0 = 0 then cif (stands q') q'.1 (nt q'.1 4 t.1) else q'.1) = q'.1
      rw [if_pos rfl, hF]
      by_cases st : stands q'
      · exact cif_t st
      · exact cif_f st
    | none =>
      refine ⟨fun y => absurd rfl y, fun _ => ?_⟩
      obtain ⟨a1, a2, a3, a4, a5, a6, a7, -⟩ := (v5.1 hF).1 rfl
      have hg := v5.2
      have T : ∀ j, j < 6 → D5.1 (325 + 11) j = nI (tN q'.2.1 j) := fun j hj => by
        rw [← a1 j hj]; exact R5.2.2.1 hF j (by show j < 48; omega)
      have k5' : ((5 : Int32) : Int32).toNatClampNeg = 5 := by decide
      have k1' : ((1 : Int32) : Int32).toNatClampNeg = 1 := by decide
      have k2' : ((2 : Int32) : Int32).toNatClampNeg = 2 := by decide
      have i11 : ∀ j : Nat, j < 6 → vp_in (nI j) (xl (325 + 11)) := fun j hj => by rw [l11]; exact vp_in_nI (by omega) (by omega)
      have b13 : D5.1 325 13 = nI t.1 := by
        rw [k5.2.1]
        have h1 := tS_le k5.1
        have h2 := tK_3.mp kE
        congr 1; omega
      have bad : ¬ stands q' → xCv (d + 8) m_M_later [.ref 325, .int (4 : Int32), .int (D5.1 325 13)] D5 (fun D7 => xPf (d + 9) m_M_readText 114 [(0, .ref 325), (1, .int (nI 0)), (2, .int (1 : Int32))] [] D7 (fun r D' => ∃ v, r = some (.int v) ∧ P v D')) := by
        intro ns
        rw [b13]
        refine c_M_later (k := 4) R5.2.1 (by omega) n6 (fun D7 o7 m7 _ => ?_)
        have eE : (rdEnd t 0 q').1 = lt' q'.1 4 t.1 := by
          show (if 0 = 0 then cif (stands q') q'.1 (nt q'.1 4 t.1) else q'.1) = _
          rw [if_pos rfl, cif_f ns, hF]; rfl
        refine rt_end (oD5.trans (o7.m (by omega) (by omega))) m7 (fun D' r o a1 a2 => ?_)
        rw [er, eE] at h
        refine h D' r a1 a2 (fun y => ?_)
        rw [hF] at y; cases y
      have good : stands q' → xPf (d + 9) m_M_readText 114 [(0, .ref 325), (1, .int (nI 0)), (2, .int (1 : Int32))] [] D5 (fun r D' => ∃ v, r = some (.int v) ∧ P v D') := by
        intro st
        refine plain ?_
        show (if 0 = 0 then cif (stands q') q'.1 (nt q'.1 4 t.1) else q'.1) = q'.1
        rw [if_pos rfl]; exact cif_t st
      have m1 : tN q'.2.1 0 * tN q'.2.1 1 ≤ 13 * 4 ∧ tN q'.2.1 5 * tN q'.2.1 2 ≤ 6 * 4 := ⟨Nat.mul_le_mul a2.2 a3.2, Nat.mul_le_mul a7 a4.2⟩
      rw [k5', k00, k1', k2', T 5 (by omega), T 0 (by omega), T 1 (by omega), T 2 (by omega), R5.2.2.2.2.2.1, R5.2.2.2.2.2.2.1, sub1_le (by omega) (by omega), sub1_le (by omega) (by omega), show nI (tN q'.2.1 5) < (2 : Int32) ↔ tN q'.2.1 5 < 2 from nI_ltI (b := 2) (by omega) (by omega), pk_mul, pk_mul, nI_ltI (by omega) (by omega)]
      refine ⟨i11 5 (by omega), fun c => bad (fun st => by have := st.2.1; omega), fun c => ⟨i11 0 (by omega), fun c1 => bad (fun st => by have := st.2.2.1; omega), fun c1 => ⟨i11 5 (by omega), fun c2 => bad (fun st => by have := st.1; omega), fun c2 => ⟨i11 0 (by omega), i11 1 (by omega), i11 5 (by omega), i11 2 (by omega), fun c3 => good ⟨by omega, by omega, by omega, c3⟩, fun c3 => bad (fun st => c3 st.2.2.2)⟩⟩⟩⟩
theorem c_M_store {P : xD → Prop} {a w k : Nat} (ka : xk a = 100) (ha : a ≠ 325 ∧ a ≠ 336) (hw : w ≤ 121) (hk : k < 2) (hl : xl a = w * 8) (h : ∀ D', mF a (a + 1) 0 0 D D' → (∀ j, D'.1 a j = if w * k ≤ j ∧ j < w * k + w then D.1 336 (j - w * k) else D.1 a j) → P D') : xCv (d + 1) m_M_store [.ref 325, .ref a, .int (nI w), .int (nI k)] D P := by
  have l11 : xl (325 + 11) = 121 := cl_13_20 xk_M
  have b : w * k + w ≤ w * 8 := by rw [show w * k + w = w * (k + 1) from rfl]; exact Nat.mul_le_mul_left w (by omega)
  refine xCv_of y_M_store (Nat.le_of_ble_eq_true rfl) (s_M_store_0 xk_M ka ?_)
  generalize hW : w * k = W at b h
  have key : ∀ m i, i + m = w → ∀ D', mF a (a + 1) 0 0 D D' → (∀ j, D'.1 a j = if W ≤ j ∧ j < W + i then D.1 336 (j - W) else D.1 a j) → xPf (d + 1) m_M_store 3 [(0, .ref 325), (1, .ref a), (2, .int (nI w)), (3, .int (nI k)), (4, .int (nI i))] [] D' (fun r D' => r = none ∧ P D') := by
    intro m
    induction m with
    | zero =>
      intro i hi D' o v
      refine s_M_store_3 xk_M ka ⟨fun _ => ⟨rfl, h D' o (fun j => by rw [v j, show i = w by omega])⟩, fun z => absurd (nI_le (by omega) (by omega)) z⟩
    | succ m ih =>
      intro i hi D' o v
      refine s_M_store_3 xk_M ka ⟨fun z => absurd z (nI_ge (by omega) (by omega)), fun _ => ?_⟩
      have s1 : D'.1 (325 + 11) = D.1 336 := (o.1 336 (by omega) (by omega)).1
      rw [pk_mul, hW, nI_add, l11, hl, nI_clamp (by omega), nI_clamp (by omega), nI_1 i, s1]
      refine ⟨vp_in_nI (by omega) (by omega), vp_in_nI (by omega) (by omega), fun D1 e1 => ?_⟩
      obtain ⟨o1, v1⟩ := ma ha.1 e1
      refine ih (i + 1) (by omega) D1 (o.trans o1) (fun j => ?_)
      rw [v1]
      by_cases z : j = W + i
      · rw [if_pos z, if_pos (by omega), show j - W = i by omega]
      · rw [if_neg z, v]
        by_cases y : W ≤ j ∧ j < W + i
        · rw [if_pos y, if_pos (by omega)]
        · rw [if_neg y, if_neg (by omega)]
  exact key w 0 (by omega) D mF.rfl' (fun j => by rw [if_neg (by omega)])
theorem c_M_storeAll {P : xD → Prop} {k : Nat} (hs : s < 5) (hk : k < 2) (h : ∀ D', mF (331 + s) (332 + s) 0 0 D D' → (∀ j, D'.1 (331 + s) j = if wS s * k ≤ j ∧ j < wS s * k + wS s then D.1 336 (j - wS s * k) else D.1 (331 + s) j) → P D') : xCv (d + 2) m_M_storeAll [.ref 325, .int (nI s), .int (nI k)] D P := by
  have inj : ∀ u : Nat, u < 5 → nI s = nI u → s = u := fun u hu e => (nI_eq (by omega) (by omega)).mp e
  refine xCv_of y_M_storeAll (Nat.le_of_ble_eq_true rfl) (s_M_storeAll_0 xk_M ⟨fun c => ?_, fun c => ?_, fun c => ?_, fun c => ?_, fun c => ?_⟩)
  · have e := inj 0 (by omega) c; subst e
    exact c_M_store (w := 48) (ck_13_6 xk_M) (by omega) (by omega) hk (cl_13_6 xk_M) (fun D' o v => ⟨rfl, h D' o v⟩)
  · have e := inj 1 (by omega) c; subst e
    exact c_M_store (w := 53) (ck_13_7 xk_M) (by omega) (by omega) hk (cl_13_7 xk_M) (fun D' o v => ⟨rfl, h D' o v⟩)
  · have e := inj 2 (by omega) c; subst e
    exact c_M_store (w := 121) (ck_13_8 xk_M) (by omega) (by omega) hk (cl_13_8 xk_M) (fun D' o v => ⟨rfl, h D' o v⟩)
  · have e := inj 3 (by omega) c; subst e
    exact c_M_store (w := 54) (ck_13_9 xk_M) (by omega) (by omega) hk (cl_13_9 xk_M) (fun D' o v => ⟨rfl, h D' o v⟩)
  · rw [nI_toInt (by omega)] at c
    have e : s = 4 := by omega
    subst e
    exact c_M_store (w := 21) (ck_13_10 xk_M) (by omega) (by omega) hk (cl_13_10 xk_M) (fun D' o v => ⟨rfl, h D' o v⟩)
end MTEXT
