/-! The reference reads lines to the end. -/
theorem tE_ge' (t : Nat × (Nat → Nat)) (p : Nat) : p ≤ tE t p := by
  have h1 := tE_ge t p
  have h2 := tS_ge t p
  omega
theorem lnLaw_gt {t : Nat × (Nat → Nat)} {q q' : qS} {p1 p w p' : Nat} (h : lnLaw t q p1 p w = .inr (q', p')) : p ≤ p' := by
  rw [lnLaw_e] at h
  split at h
  · cases h
  · split at h
    · cases h
    · cases h
      have h1 := nx_ge t (tE t p) (cN t (mw w) (tE t p))
      have h2 := tE_ge' t p
      have h3 := tE_ge' t (nx t (tE t p) (cN t (mw w) (tE t p)))
      omega
theorem lnRest_gt {t : Nat × (Nat → Nat)} {q q' : qS} {p p1 f p' : Nat} (h : lnRest t q p p1 f = .inr (q', p')) : p1 ≤ p' := by
  have h1 := nx_ge t p1 (cN t (msN f) p1)
  by_cases c : cN t (msN f) p1 < lsN f
  · rw [lnRest_s c] at h; cases h
  · by_cases f7 : f = 7
    · subst f7
      cases hw : (if tK t (nx t p1 (cN t (msN 7) p1)) = 0 then firstW t (nx t p1 (cN t (msN 7) p1)) lawF else none) with
      | none => rw [lnRest_70 c hw] at h; cases h
      | some w =>
        rw [lnRest_71 c hw] at h
        have := lnLaw_gt h
        omega
    · rw [lnRest_n c f7] at h
      split at h
      · cases h
      · cases h
        have := tE_ge' t (nx t p1 (cN t (msN f) p1))
        omega
theorem lnS_gt {t : Nat × (Nat → Nat)} {q q' : qS} {s p p' : Nat} (h : lnS t s q p = .inr (q', p')) : p < p' := by
  cases hf : (if tK t p = 0 then firstW t p (lnF s) else none) with
  | none => rw [lnS_0 hf] at h; cases h
  | some f =>
    rw [lnS_1 hf] at h
    have h1 := lnRest_gt h
    have h2 := tE_gt (t := t) (p := p) (by have := (ifs_some hf).1; omega)
    have h3 := tS_ge t p
    omega
section MREAD
variable {d : Nat} {D : xD} {t : Nat × (Nat → Nat)} {p s : Nat} {q : qS}
theorem c_M_lineOf {P : Int32 → xD → Prop} (hs : s < 5) (R : mrd D t s q) (hv : vOK s q) (hk : mtk D t p) (hB : fB q.1 (tS t p)) (hgd : D.1 325 25 = 1)
    (h0 : ∀ b D', mF 336 338 11 26 D D' → lnS t s q p = .inl b → D'.1 325 17 = nI b → P 0 D')
    (h1 : ∀ q' pp D', mF 336 338 11 26 D D' → (tK t pp ≠ 2 → lnS t s q p = .inl (tS t pp)) → (tK t pp = 2 → lnS t s q p = .inr (q', tE t pp)) → mrd D' t s q' → vOK s q' → mtk D' t pp → fB q'.1 (tS t pp) → P 1 D') : xCi (d + 7) m_M_lineOf [.ref 325, .int (nI s), .long (wd0 t p), .int (nI (tS t p))] D P := by
  have inj : ∀ u : Nat, u < 5 → nI s = nI u → s = u := fun u hu e => (nI_eq (by omega) (by omega)).mp e
  have h0' : ∀ b D', mF 336 338 11 26 D D' → lnS t s q p = .inl b → D'.1 325 17 = nI b → ((0 : Int32) = 0 ∨ (0 : Int32) = 1) ∧ ∃ v, some (Value.int (0 : Int32)) = some (.int v) ∧ P v D' := fun b D' o e f => ⟨Or.inl rfl, _, rfl, h0 b D' o e f⟩
  have h1' : ∀ q' pp D', mF 336 338 11 26 D D' → (tK t pp ≠ 2 → lnS t s q p = .inl (tS t pp)) → (tK t pp = 2 → lnS t s q p = .inr (q', tE t pp)) → mrd D' t s q' → vOK s q' → mtk D' t pp → fB q'.1 (tS t pp) → ((1 : Int32) = 0 ∨ (1 : Int32) = 1) ∧ ∃ v, some (Value.int (1 : Int32)) = some (.int v) ∧ P v D' := fun q' pp D' o e1 e2 R' v' k' b' => ⟨Or.inr rfl, _, rfl, h1 q' pp D' o e1 e2 R' v' k' b'⟩
  refine xCi_of y_M_lineOf (Nat.le_of_ble_eq_true rfl) (s_M_lineOf_0 xk_M ⟨fun c => ?_, fun c => ?_, fun c => ?_, fun c => ?_, fun c => ?_⟩)
  · have e := inj 0 (by omega) c; subst e
    exact c_M_tableLine R hv hk hB hgd h0' h1'
  · have e := inj 1 (by omega) c; subst e
    exact c_M_heapLine R hv hk hB h0' h1'
  · have e := inj 2 (by omega) c; subst e
    exact c_M_bookLine R hv hk hB h0' h1'
  · have e := inj 3 (by omega) c; subst e
    exact c_M_handLine R hv hk hB h0' h1'
  · rw [nI_toInt (by omega)] at c
    have e : s = 4 := by omega
    subst e
    exact c_M_filmLine R hv hk hB h0' h1'
theorem mrd_fr {D' : xD} {lo hi f g : Nat} (R : mrd D t s q) (o : mF lo hi f g D D') (a : 336 < lo ∨ hi ≤ 326) (b : (24 < f ∨ g ≤ 11)) : mrd D' t s q := by
  obtain ⟨r1, r2, r3, r4, r5, r6, r7, r8⟩ := R
  have s1 : D'.1 336 = D.1 336 := (o.1 336 (by omega) (by omega)).1
  exact ⟨r1.fr o (by omega) (by omega), r2.fr o (by omega), fun e i hi => by rw [s1]; exact r3 e i hi, ⟨fun e => by rw [s1]; exact r4.1 e, fun e => by rw [s1]; exact r4.2.1 e, fun e => by rw [s1]; exact r4.2.2 e⟩, r5, by rw [o.2 22 (by omega)]; exact r6, by rw [o.2 23 (by omega)]; exact r7, fun e1 e2 => by rw [o.2 24 (by omega)]; exact r8 e1 e2⟩
theorem mrd_tok {D' : xD} (R : mrd D t s q) (o : mF 0 0 11 17 D D') (T : mtp D' t) : mrd D' t s q := by
  obtain ⟨r1, r2, r3, r4, r5, r6, r7, r8⟩ := R
  have s1 : D'.1 336 = D.1 336 := (o.1 336 (by omega) (by omega)).1
  exact ⟨T, r2.fr o (by omega), fun e i hi => by rw [s1]; exact r3 e i hi, ⟨fun e => by rw [s1]; exact r4.1 e, fun e => by rw [s1]; exact r4.2.1 e, fun e => by rw [s1]; exact r4.2.2 e⟩, r5, by rw [o.2 22 (by omega)]; exact r6, by rw [o.2 23 (by omega)]; exact r7, fun e1 e2 => by rw [o.2 24 (by omega)]; exact r8 e1 e2⟩
theorem c_M_lines {P : Int32 → xD → Prop} {F : Nat} (hs : s < 5) (hF : t.1 - p ≤ F) (R : mrd D t s q) (hv : vOK s q) (hk : mtk D t p) (hB : fB q.1 (tS t p))
    (h0 : ∀ b D', mF 336 338 11 26 D D' → rdS t s F q p = .inl b → D'.1 325 17 = nI b → P 0 D')
    (h1 : ∀ q' pE D', mF 336 338 11 26 D D' → rdS t s F q p = .inr q' → mrd D' t s q' → vOK s q' → mtk D' t pE → tK t pE = 3 → fB q'.1 (tS t pE) → P 1 D') : xCi (d + 8) m_M_lines [.ref 325, .int (nI s)] D P := by
  refine xCi_of y_M_lines (Nat.le_of_ble_eq_true rfl) (s_M_lines_0 xk_M ?_)
  have stop : ∀ b D', mF 336 338 11 26 D D' → rdS t s F q p = .inl b → D'.1 325 17 = nI b → xPf (d + 8) m_M_lines 2 [(0, .ref 325), (1, .int (nI s)), (2, .int (0 : Int32))] [] D' (fun r D' => ∃ v, r = some (.int v) ∧ P v D') :=
    fun b D' o e f => s_M_lines_2 xk_M ⟨fun _ => ⟨Or.inl rfl, _, rfl, h0 b D' o e f⟩, fun z => absurd rfl z⟩
  have key : ∀ G q' p' D', t.1 - p' ≤ G → rdS t s F q p = rdS t s G q' p' → mF 336 338 11 26 D D' → mrd D' t s q' → vOK s q' → mtk D' t p' → fB q'.1 (tS t p') → xPf (d + 8) m_M_lines 2 [(0, .ref 325), (1, .int (nI s)), (2, .int (1 : Int32))] [] D' (fun r D' => ∃ v, r = some (.int v) ∧ P v D') := by
    intro G
    induction G with
    | zero =>
      intro q' p' D' hG e o R' v' k' b'
      have kE : tK t p' = 3 := tK_3.mpr (by have := tS_ge t p'; omega)
      refine s_M_lines_2 xk_M ⟨fun z => absurd z (by decide), fun _ => ?_⟩
      rw [mtk_E k']
      exact ⟨fun _ => ⟨Or.inr rfl, _, rfl, h1 q' p' D' o e R' v' k' kE b'⟩, fun z => absurd kE z⟩
    | succ G ih =>
      intro q' p' D' hG e o R' v' k' b'
      refine s_M_lines_2 xk_M ⟨fun z => absurd z (by decide), fun _ => ?_⟩
      rw [mtk_E k']
      refine ⟨fun kE => ⟨Or.inr rfl, _, rfl, h1 q' p' D' o (by rw [e, rdS_3 kE]) R' v' k' kE b'⟩, fun nE D1 e1 => ?_⟩
      obtain ⟨o1, g1⟩ := mf e1
      have R1 : mrd D1 t s q' := mrd_fr R' o1 (by omega) (by omega)
      have k1 : mtk D1 t p' := mtk_fr k' o1 (by omega) (by rw [e1])
      have o01 : mF 336 338 11 26 D D1 := o.trans (o1.m (by omega) (by omega))
      have b13 : D'.1 325 13 = nI (tS t p') := k'.2.1
      rw [b13]
      have line : xCi (d + 7) m_M_lineOf [.ref 325, .int (nI s), .long (wd0 t p'), .int (nI (tS t p'))] D1 (fun r3 D2 => (r3 = 0 → (r3 = 0 → xPf (d + 8) m_M_lines 2 [(0, .ref 325), (1, .int (nI s)), (2, .int r3)] [] D2 (fun r D' => ∃ v, r = some (.int v) ∧ P v D')) ∧ (¬ r3 = 0 → xCv (d + 7) m_M_token [.ref 325] D2 (fun D4 => xPf (d + 8) m_M_lines 2 [(0, .ref 325), (1, .int (nI s)), (2, .int r3)] [] D4 (fun r D' => ∃ v, r = some (.int v) ∧ P v D')))) ∧ (¬ r3 = 0 → ((D2.1 325 14) = (4 : Int32) → (r3 = 0 → xPf (d + 8) m_M_lines 2 [(0, .ref 325), (1, .int (nI s)), (2, .int r3)] [] D2 (fun r D' => ∃ v, r = some (.int v) ∧ P v D')) ∧ (¬ r3 = 0 → xCv (d + 7) m_M_token [.ref 325] D2 (fun D5 => xPf (d + 8) m_M_lines 2 [(0, .ref 325), (1, .int (nI s)), (2, .int r3)] [] D5 (fun r D' => ∃ v, r = some (.int v) ∧ P v D')))) ∧ (¬ (D2.1 325 14) = (4 : Int32) → xCi (d + 7) m_M_fails [.ref 325] D2 (fun r7 D6 => (r7 = 0 → xPf (d + 8) m_M_lines 2 [(0, .ref 325), (1, .int (nI s)), (2, .int r7)] [] D6 (fun r D' => ∃ v, r = some (.int v) ∧ P v D')) ∧ (¬ r7 = 0 → xCv (d + 7) m_M_token [.ref 325] D6 (fun D8 => xPf (d + 8) m_M_lines 2 [(0, .ref 325), (1, .int (nI s)), (2, .int r7)] [] D8 (fun r D' => ∃ v, r = some (.int v) ∧ P v D'))))))) := by
        refine c_M_lineOf hs R1 v' k1 b' g1 (fun b D2 o2 eb f17 => z0 ⟨fun _ => stop b D2 (o01.trans o2) (by rw [e, rdS_l nE eb]) f17, fun z => absurd rfl z⟩) (fun q2 pp D2 o2 e2 e3 R2 v2 k2 b2 => z1 ?_)
        rw [mtk_S k2]
        refine ⟨fun c => ⟨fun z => absurd z (by decide), fun _ => c_M_token R2.1 (p := tE t pp) k2.2.2.1 (tE_le k2.1) (fun D5 o5 T5 k5 => ?_)⟩, fun c => c_M_fails k2 (fun D6 o6 f6 => z0 (stop _ D6 (o01.trans (o2.trans (o6.m (by omega) (by omega)))) (by rw [e, rdS_l nE (e2 c)]) f6))⟩
        have gt := lnS_gt (e3 c)
        have mono : tS t pp ≤ tS t (tE t pp) := Nat.le_trans (tE_ge t pp) (tS_ge t (tE t pp))
        exact ih q2 (tE t pp) D5 (by omega) (by rw [e, rdS_r nE (e3 c)]) (o01.trans (o2.trans (o5.m (by omega) (by omega)))) (mrd_tok R2 o5 T5) v2 k5 (b2.mono mono)
      rw [mtk_W k1]
      refine ⟨fun z => ?_, fun z => ?_⟩
      · have ew : (0 : Int64) = wd0 t p' := by unfold wd0; rw [if_neg z]
        rw [ew]; exact line
      · have ew : D1.2 325 16 = wd0 t p' := by unfold wd0; rw [if_pos z]; exact k1.2.2.2.2.2 z
        rw [ew]; exact line
  exact key F q p D hF rfl mF.rfl' R hv hk hB
theorem c_M_begin {P : xD → Prop} (hs : s < 5) (h : ∀ D', mF 336 337 22 25 D D' → (∀ i, i < wS s → D'.1 336 i = (q0 s).2.1 i) → D'.1 325 22 = -1 → D'.1 325 23 = -1 → D'.1 325 24 = -1 → P D') : xCv (d + 1) m_M_begin [.ref 325, .int (nI s)] D P := by
  have l11 : xl (325 + 11) = 121 := cl_13_20 xk_M
  have k03 : ((3 : Int32) : Int32).toNatClampNeg = 3 := by decide
  have k04 : ((4 : Int32) : Int32).toNatClampNeg = 4 := by decide
  have zs : nI s = (0 : Int32) ↔ s = 0 := nI_eq (b := 0) (by omega) (by omega)
  have i3 : vp_in (3 : Int32) (xl (325 + 11)) := by rw [l11]; exact vp_in_nI (n := 3) (by omega) (by omega)
  have i4 : vp_in (4 : Int32) (xl (325 + 11)) := by rw [l11]; exact vp_in_nI (n := 4) (by omega) (by omega)
  refine xCv_of y_M_begin (Nat.le_of_ble_eq_true rfl) (s_M_begin_0 xk_M ?_)
  -- the last three fields
  have fin : ∀ D1, mF 336 337 0 0 D D1 → (∀ i, i < wS s → D1.1 336 i = (q0 s).2.1 i) → ∀ D2 : xD, D2 = (xu D1.1 325 22 (-1 : Int32), D1.2) → ∀ D3 : xD, D3 = (xu D2.1 325 23 (-1 : Int32), D2.2) → ∀ D4 : xD, D4 = (xu D3.1 325 24 (-1 : Int32), D3.2) → (none : Option Value) = none ∧ P D4 := by
    intro D1 o1 v1 D2 e2 D3 e3 D4 e4
    obtain ⟨o2, f2⟩ := mf e2
    obtain ⟨o3, f3⟩ := mf e3
    obtain ⟨o4, f4⟩ := mf e4
    have o : mF 0 0 22 25 D1 D4 := (o2.m (by omega) (by omega)).trans ((o3.m (by omega) (by omega)).trans (o4.m (by omega) (by omega)))
    exact ⟨rfl, h D4 ((o1.m (by omega) (by omega)).trans (o.m (by omega) (by omega))) (fun i hi => by rw [(o.1 336 (by omega) (by omega)).1]; exact v1 i hi) (by rw [o4.2 22 (by omega), o3.2 22 (by omega)]; exact f2) (by rw [o4.2 23 (by omega)]; exact f3) f4⟩
  have tail : ∀ D1, mF 336 337 0 0 D D1 → (s = 0 → ∀ i, i < 48 → i ≠ 3 → i ≠ 4 → D1.1 336 i = tNew i) → (s ≠ 0 → ∀ i, i < 121 → D1.1 336 i = 0) →
      (s ≠ 0 ∨ True) → ∀ x2 : Int32, (x2 = nI 6 ∨ s ≠ 0) → xPf (d + 1) m_M_begin 47 [(0, .ref 325), (1, .int (nI s)), (2, .int x2)] [] D1 (fun r D' => r = none ∧ P D') := by
    intro D1 o1 v0 v1 _ x2 hx
    by_cases c : s = 0
    · subst c
      have e0 := hx.resolve_right (fun z => z rfl)
      subst e0
      refine s_M_begin_47 xk_M ⟨fun _ => ⟨fun z => absurd rfl z, fun _ => ⟨i3, fun D2 e2 => ⟨fun z => absurd rfl z, fun _ => ⟨i4, fun D3 e3 => ?_⟩⟩⟩⟩, fun z => absurd (nI_le (a := 6) (b := 6) (by omega) (by omega)) z⟩
      rw [k03] at e2
      rw [k04] at e3
      obtain ⟨o2, w2⟩ := ma (by omega) e2
      obtain ⟨o3, w3⟩ := ma (by omega) e3
      have w2' : ∀ j, D2.1 336 j = if j = 3 then 1 else D1.1 336 j := w2
      have w3' : ∀ j, D3.1 336 j = if j = 4 then 3 else D2.1 336 j := w3
      refine fin D3 (o1.trans ((o2.m (by omega) (by omega)).trans (o3.m (by omega) (by omega)))) (fun i hi => ?_)
      rw [w3', w2']
      by_cases z4 : i = 4
      · rw [if_pos z4, z4]; rfl
      · by_cases z3 : i = 3
        · rw [if_neg z4, if_pos z3, z3]; rfl
        · rw [if_neg z4, if_neg z3]; exact v0 rfl i hi z3 z4
    · have nz : ¬ nI s = 0 := fun z => c (zs.mp z)
      have e0 : (q0 s).2.1 = fun _ => 0 := if_neg c
      have both : ∀ D2 : xD, D2 = (xu D1.1 (325 + 11) ((3 : Int32) : Int32).toNatClampNeg (0 : Int32), D1.2) → (¬ nI s = 0 → vp_in (4 : Int32) (xl (325 + 11)) ∧ ∀ D3 : xD, D3 = (xu D2.1 (325 + 11) ((4 : Int32) : Int32).toNatClampNeg (0 : Int32), D2.2) → ∀ D4 : xD, D4 = (xu D3.1 325 22 (-1 : Int32), D3.2) → ∀ D5 : xD, D5 = (xu D4.1 325 23 (-1 : Int32), D4.2) → ∀ D6 : xD, D6 = (xu D5.1 325 24 (-1 : Int32), D5.2) → (none : Option Value) = none ∧ P D6) := by
        intro D2 e2 _
        refine ⟨i4, fun D3 e3 => ?_⟩
        rw [k03] at e2
        rw [k04] at e3
        obtain ⟨o2, w2⟩ := ma (by omega) e2
        obtain ⟨o3, w3⟩ := ma (by omega) e3
        have w2' : ∀ j, D2.1 336 j = if j = 3 then 0 else D1.1 336 j := w2
        have w3' : ∀ j, D3.1 336 j = if j = 4 then 0 else D2.1 336 j := w3
        refine fin D3 (o1.trans ((o2.m (by omega) (by omega)).trans (o3.m (by omega) (by omega)))) (fun i hi => ?_)
        have w121 : wS s ≤ 121 := by unfold wS; split <;> (try split) <;> (try split) <;> (try split) <;> omega
        rw [w3', w2', e0]
        split
        · rfl
        · split
          · rfl
          · exact v1 c i (by omega)
      exact s_M_begin_47 xk_M ⟨fun _ => ⟨fun _ => ⟨i3, fun D2 e2 => ⟨both D2 e2, fun z => absurd z nz⟩⟩, fun z => absurd z nz⟩, fun _ => ⟨fun _ => ⟨fun _ => ⟨i3, fun D2 e2 => ⟨both D2 e2, fun z => absurd z nz⟩⟩, fun z => absurd z nz⟩, fun z => absurd z nz⟩⟩
  -- minus ones
  have l47 : s = 0 → ∀ m i, i + m = 6 → ∀ D1, mF 336 337 0 0 D D1 → (∀ j, j < 48 → j ≠ 3 → j ≠ 4 → D1.1 336 j = if 6 ≤ j ∧ (j - 6) % 7 = 5 ∧ i ≤ (j - 6) / 7 then 0 else tNew j) → xPf (d + 1) m_M_begin 47 [(0, .ref 325), (1, .int (nI s)), (2, .int (nI i))] [] D1 (fun r D' => r = none ∧ P D') := by
    intro s0 m
    induction m with
    | zero =>
      intro i hi D1 o1 v1
      exact tail D1 o1 (fun _ j hj a b => by rw [v1 j hj a b, if_neg (by omega)]) (fun z => absurd s0 z) (Or.inr trivial) (nI i) (Or.inl (by rw [show i = 6 by omega]))
    | succ m ih =>
      intro i hi D1 o1 v1
      refine s_M_begin_47 xk_M ⟨fun z => absurd z (nI_ge (a := i) (b := 6) (by omega) (by omega)), fun _ => ⟨fun z => absurd (zs.mpr s0) z, fun _ => ?_⟩⟩
      rw [show (7 : Int32) * nI i = nI (7 * i) from pk_mul 7 _, show (6 : Int32) + nI (7 * i) = nI (6 + 7 * i) from nI_add 6 _, show nI (6 + 7 * i) + (5 : Int32) = nI (6 + 7 * i + 5) from nI_add _ 5, nI_clamp (by omega), nI_1 i, l11]
      refine ⟨vp_in_nI (by omega) (by omega), fun D2 e2 => ?_⟩
      obtain ⟨o2, w2⟩ := ma (by omega) e2
      have w2' : ∀ j, D2.1 336 j = if j = 6 + 7 * i + 5 then -1 else D1.1 336 j := w2
      refine ih (i + 1) (by omega) D2 (o1.trans (o2.m (by omega) (by omega))) (fun j hj a b => ?_)
      rw [w2']
      by_cases z : j = 6 + 7 * i + 5
      · rw [if_pos z, if_neg (by omega)]
        unfold tNew
        rw [if_neg (by omega), if_neg (by omega), if_neg (by omega), if_neg (by omega), if_pos (by omega)]
      · rw [if_neg z, v1 j hj a b]
        by_cases y : 6 ≤ j ∧ (j - 6) % 7 = 5 ∧ i + 1 ≤ (j - 6) / 7
        · rw [if_pos y, if_pos (by omega)]
        · rw [if_neg y, if_neg (by omega)]
  -- fours
  have l23 : s = 0 → ∀ m i, i + m = 3 → ∀ D1, mF 336 337 0 0 D D1 → (∀ j, j < 121 → D1.1 336 j = if j < i then 4 else 0) → xPf (d + 1) m_M_begin 23 [(0, .ref 325), (1, .int (nI s)), (2, .int (nI i))] [] D1 (fun r D' => r = none ∧ P D') := by
    intro s0 m
    induction m with
    | zero =>
      intro i hi D1 o1 v1
      refine s_M_begin_23 xk_M ⟨fun _ => l47 s0 6 0 (by omega) D1 o1 (fun j hj a b => ?_), fun z => absurd (nI_le (a := 3) (by omega) (by omega)) z⟩
      rw [v1 j (by omega)]
      unfold tNew
      by_cases c : j < 3
      · rw [if_pos (show j < i by omega), if_neg (by omega), if_pos c]; rfl
      · rw [if_neg (show ¬ j < i by omega), if_neg c, if_neg a, if_neg b]
        by_cases c6 : j < 6
        · rw [if_neg (by omega), if_pos c6]; rfl
        · rw [if_neg c6]
          by_cases c5 : (j - 6) % 7 = 5
          · rw [if_pos (by omega)]
          · rw [if_neg (by omega), if_neg c5]; rfl
    | succ m ih =>
      intro i hi D1 o1 v1
      refine s_M_begin_23 xk_M ⟨fun z => absurd z (nI_ge (a := i) (b := 3) (by omega) (by omega)), fun _ => ⟨fun z => absurd (zs.mpr s0) z, fun _ => ?_⟩⟩
      rw [nI_clamp (by omega), nI_1 i, l11]
      refine ⟨vp_in_nI (by omega) (by omega), fun D2 e2 => ?_⟩
      obtain ⟨o2, w2⟩ := ma (by omega) e2
      have w2' : ∀ j, D2.1 336 j = if j = i then 4 else D1.1 336 j := w2
      refine ih (i + 1) (by omega) D2 (o1.trans (o2.m (by omega) (by omega))) (fun j hj => ?_)
      rw [w2']
      by_cases z : j = i
      · rw [if_pos z, if_pos (by omega)]
      · rw [if_neg z, v1 j hj]
        by_cases y : j < i
        · rw [if_pos y, if_pos (by omega)]
        · rw [if_neg y, if_neg (by omega)]
  have l2 : ∀ m i, i + m = 121 → ∀ D1, mF 336 337 0 0 D D1 → (∀ j, j < i → D1.1 336 j = 0) → xPf (d + 1) m_M_begin 2 [(0, .ref 325), (1, .int (nI s)), (2, .int (nI i))] [] D1 (fun r D' => r = none ∧ P D') := by
    intro m
    induction m with
    | zero =>
      intro i hi D1 o1 v1
      refine s_M_begin_2 xk_M ⟨fun _ => ?_, fun z => absurd (nI_le (a := 121) (by omega) (by omega)) z⟩
      by_cases c : s = 0
      · exact l23 c 3 0 (by omega) D1 o1 (fun j hj => by rw [if_neg (by omega)]; exact v1 j (by omega))
      · have nz : ¬ nI s = 0 := fun z => c (zs.mp z)
        refine s_M_begin_23 xk_M ⟨fun z => absurd z (nI_ge (a := 0) (b := 3) (by omega) (by omega)), fun _ => ⟨fun _ => ?_, fun z => absurd z nz⟩⟩
        exact tail D1 o1 (fun z => absurd z c) (fun _ j hj => v1 j (by omega)) (Or.inr trivial) (0 : Int32) (Or.inr c)
    | succ m ih =>
      intro i hi D1 o1 v1
      refine s_M_begin_2 xk_M ⟨fun z => absurd z (nI_ge (a := i) (b := 121) (by omega) (by omega)), fun _ => ?_⟩
      rw [nI_clamp (by omega), nI_1 i, l11]
      refine ⟨vp_in_nI (by omega) (by omega), fun D2 e2 => ?_⟩
      obtain ⟨o2, w2⟩ := ma (by omega) e2
      have w2' : ∀ j, D2.1 336 j = if j = i then 0 else D1.1 336 j := w2
      refine ih (i + 1) (by omega) D2 (o1.trans (o2.m (by omega) (by omega))) (fun j hj => ?_)
      rw [w2']
      by_cases z : j = i
      · rw [if_pos z]
      · rw [if_neg z]; exact v1 j (by omega)
  exact l2 121 0 (by omega) D mF.rfl' (fun j hj => absurd hj (Nat.not_lt_zero _))
end MREAD
