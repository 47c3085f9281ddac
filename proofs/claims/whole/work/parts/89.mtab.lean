/-! The reference reads a line of a table. -/
def cOK (s : Nat) (ξ : Nat → Int32) : Prop := (s = 0 → ξ 5 = nI (tN ξ 5) ∧ tN ξ 5 ≤ 6) ∧ (s = 1 → ξ 0 = nI (tN ξ 0) ∧ tN ξ 0 ≤ 52) ∧ (s = 2 → ξ 0 = nI (tN ξ 0) ∧ tN ξ 0 ≤ 40) ∧ (s = 3 → ξ 0 = nI (tN ξ 0) ∧ tN ξ 0 ≤ 4 ∧ ξ 1 = nI (tN ξ 1) ∧ tN ξ 1 ≤ 48) ∧ (s = 4 → ξ 0 = nI (tN ξ 0) ∧ tN ξ 0 ≤ 10)
def mCn (D : xD) (s : Nat) (ξ : Nat → Int32) : Prop := (s = 0 → D.1 336 5 = ξ 5) ∧ (s ≠ 0 → D.1 336 0 = ξ 0) ∧ (s = 3 → D.1 336 1 = ξ 1)
def mrd (D : xD) (t : Nat × (Nat → Nat)) (s : Nat) (q : qS) : Prop := mtp D t ∧ mFlt D q.1 ∧ (q.1 = none → ∀ i, i < wS s → D.1 336 i = q.2.1 i) ∧ mCn D s q.2.1 ∧ cOK s q.2.1 ∧ D.1 325 22 = nI q.2.2.1 - 1 ∧ D.1 325 23 = nI q.2.2.2 - 1 ∧ (s = 4 → q.1 = none → D.1 325 24 = nI (frA q.2.1) - 1)
/-- between the tokens of a line: the FAULT noted may be another, nothing that is told -/
def mwl (D D' : xD) (t : Nat × (Nat → Nat)) (F : Option (Nat × Nat)) (p : Nat) : Prop := mF 337 338 11 26 D D' ∧ (∀ j, 20 ≤ j → j < 25 → D'.1 325 j = D.1 325 j) ∧ mtp D' t ∧ mFlt D' F ∧ mtk D' t p ∧ fB F (tS t p)
theorem cOK_0 {ξ : Nat → Int32} (h5 : ξ 5 = nI (tN ξ 5)) (h6 : tN ξ 5 ≤ 6) : cOK 0 ξ := ⟨fun _ => ⟨h5, h6⟩, fun e => by omega, fun e => by omega, fun e => by omega, fun e => by omega⟩
theorem mCn_0 {D : xD} {ξ : Nat → Int32} (h : D.1 336 5 = ξ 5) : mCn D 0 ξ := ⟨fun _ => h, fun e => absurd rfl e, fun e => by omega⟩
theorem nx_s (t : Nat × (Nat → Nat)) (p : Nat) : ∀ i, nx t p (i + 1) = nx t (tE t p) i := by
  intro i
  induction i with
  | zero => rfl
  | succ i ih => show tE t (nx t p (i + 1)) = tE t (nx t (tE t p) i); rw [ih]
theorem cN_stop {t : Nat × (Nat → Nat)} : ∀ {m k p : Nat}, (∀ i, i < k → tK t (nx t p i) = 1) → tK t (nx t p k) ≠ 1 → k < m → cN t m p = k := by
  intro m
  induction m with
  | zero => intro k p _ _ h; omega
  | succ m ih =>
    intro k p h1 h2 h3
    rw [cN]
    cases k with
    | zero => exact if_neg h2
    | succ k =>
      rw [if_pos (show tK t p = 1 from h1 0 (by omega)), ih (k := k) (fun i hi => by rw [← nx_s]; exact h1 (i + 1) (by omega)) (by rw [← nx_s]; exact h2) (by omega)]
theorem cN_full {t : Nat × (Nat → Nat)} : ∀ {m p : Nat}, (∀ i, i < m → tK t (nx t p i) = 1) → cN t m p = m := by
  intro m
  induction m with
  | zero => intro p _; rfl
  | succ m ih =>
    intro p h
    rw [cN, if_pos (show tK t p = 1 from h 0 (by omega)), ih (fun i hi => by rw [← nx_s]; exact h (i + 1) (by omega))]
theorem tS_lt {t : Nat × (Nat → Nat)} {p : Nat} (h : tK t p ≠ 3) : tS t p < tS t (tE t p) := by
  have h1 := tE_gt h
  have h2 := tS_ge t (tE t p)
  omega
section MTAB
variable {d : Nat} {D D0 : xD} {t : Nat × (Nat → Nat)} {p p1 : Nat} {q : qS} {F : Option (Nat × Nat)}
/-- a NUMBER of a line is taken -/
theorem wl_take {P : Int32 → xD → Prop} {k lo hi : Nat} (W : mwl D0 D t F p) (hk4 : k < 4) (hlo : lo < 2 ^ 20) (hhi : hi < 2 ^ 20)
    (h0 : tK t p ≠ 1 → ∀ D', mF 337 338 11 26 D0 D' → D'.1 325 17 = nI (tS t p) → P 0 D')
    (h1 : tK t p = 1 → tV t p < 100 → tS t p ≤ 600 → ∀ D', mwl D0 D' t (chk F (tV t p) lo hi (tS t p)) (tE t p) → (∀ j, D'.1 337 j = if j = k then nI (tV t p) else D.1 337 j) → D'.1 325 25 = (if lo ≤ tV t p ∧ tV t p ≤ hi then D.1 325 25 else 0) → P 1 D') : xCi (d + 4) m_M_take [.ref 325, .int (nI k), .int (nI lo), .int (nI hi)] D P := by
  obtain ⟨w1, w2, w3, w4, w5, w6⟩ := W
  refine c_M_take w3 w5 w4 hk4 hlo hhi (fun c D' o f => h0 c D' (w1.trans (o.m (by omega) (by omega))) f) (fun c hv hS D' o g T' k' m' v' g' => h1 c hv hS D' ⟨w1.trans o, fun j a b => by rw [g j a b]; exact w2 j a b, T', ?_, k', ?_⟩ v' g')
  · rw [chkL_chk w6] at m'; exact m'
  · have := tS_lt (t := t) (p := p) (by omega)
    exact chk_fB (w6.mono (by omega)) this
theorem lnRest_1 {f : Nat} (hm : msN f = 1) (hl : lsN f = 1) (h7 : f ≠ 7) (c : tK t p1 = 1) : lnRest t q p p1 f = if tK t (tE t p1) ≠ 2 then .inl (tS t (tE t p1)) else .inr (tl q f (tS t p) (fun i => tV t (nx t p1 i)) (fun i => tS t (nx t p1 i)) 1, tE t (tE t p1)) := by
  have e : cN t (msN f) p1 = 1 := by rw [hm]; show (if tK t p1 = 1 then 0 + 1 else 0) = 1; rw [if_pos c]
  rw [lnRest_n (by omega) h7, e]; rfl
theorem lnRest_0 {f : Nat} (hl : 1 ≤ lsN f) (c : tK t p1 ≠ 1) : lnRest t q p p1 f = .inl (tS t p1) := by
  have e : cN t (msN f) p1 = 0 := by
    cases msN f with
    | zero => rfl
    | succ m => rw [cN]; exact if_neg c
  rw [lnRest_s (by omega), e]; rfl
/-- a number of the table -/
theorem ml_plain {P : Int32 → xD → Prop} {f : Nat} (hf : f < 5) (R : mrd D0 t 0 q) (hv : vOK 0 q) (W : mwl D0 D t q.1 p1) (hL : lnS t 0 q p = lnRest t q p p1 f)
    (h0 : ∀ b D', mF 336 338 11 26 D0 D' → lnS t 0 q p = .inl b → D'.1 325 17 = nI b → P 0 D')
    (h1 : ∀ q' pp D', mF 336 338 11 26 D0 D' → (tK t pp ≠ 2 → lnS t 0 q p = .inl (tS t pp)) → (tK t pp = 2 → lnS t 0 q p = .inr (q', tE t pp)) → mrd D' t 0 q' → vOK 0 q' → mtk D' t pp → fB q'.1 (tS t pp) → P 1 D') :
    xCi (d + 4) m_M_take [.ref 325, .int (nI 0), .int (nI (lo5 f)), .int (nI (hi5 f))] D (fun r3 D2 => (¬ r3 = 0 → vp_in (0 : Int32) (xl (325 + 12)) ∧ vp_in (nI f) (xl (325 + 11)) ∧ ∀ D4 : xD, D4 = (xu D2.1 (325 + 11) (nI f).toNatClampNeg (D2.1 (325 + 12) ((0 : Int32) : Int32).toNatClampNeg), D2.2) → ∃ v, some (Value.int (1 : Int32)) = some (.int v) ∧ P v D4) ∧ (r3 = 0 → ∃ v, some (Value.int (0 : Int32)) = some (.int v) ∧ P v D2)) := by
  have l11 : xl (325 + 11) = 121 := cl_13_20 xk_M
  have l12 : xl (325 + 12) = 4 := cl_13_21 xk_M
  have hl : lsN f = 1 := by unfold lsN; rw [if_neg (by omega), if_neg (by omega)]
  have hm : msN f = 1 := by unfold msN; rw [if_neg (by omega), hl]
  have b1 : lo5 f ≤ 2 := by unfold lo5; repeat (first | omega | split)
  have b2 : hi5 f ≤ 13 := by unfold hi5; repeat (first | omega | split)
  refine wl_take (k := 0) W (by omega) (by omega) (by omega) (fun c D' o f17 => z0' ⟨_, rfl, h0 _ D' (o.m (by omega) (by omega)) (hL.trans (lnRest_0 (by omega) c)) f17⟩) (fun c hv1 hS D' W' v' g' => z1' ⟨by rw [l12]; exact vp_in_nI (n := 0) (by omega) (by omega), by rw [l11]; exact vp_in_nI (by omega) (by omega), fun D4 e4 => ⟨_, rfl, ?_⟩⟩)
  obtain ⟨o4, v4⟩ := ma (by omega) e4
  obtain ⟨w1, w2, w3, w4, w5, w6⟩ := W'
  have eR := hL.trans (lnRest_1 (q := q) (p := p) hm hl (by omega) c)
  have et : tl q f (tS t p) (fun i => tV t (nx t p1 i)) (fun i => tS t (nx t p1 i)) 1 = tlNum q f (tV t p1) (tS t p1) := by unfold tl; rw [if_pos hf]; rfl
  rw [et] at eR
  have v4' : ∀ j, D4.1 336 j = if j = f then nI (tV t p1) else D0.1 336 j := fun j => by
    have := v4 j
    rw [nI_clamp (by omega), k00, show D'.1 (325 + 12) 0 = nI (tV t p1) by rw [show D'.1 (325 + 12) 0 = D'.1 337 0 from rfl, v', if_pos rfl], show D4.1 (325 + 11) j = D4.1 336 j from rfl, show D'.1 (325 + 11) j = D'.1 336 j from rfl, (w1.1 336 (by omega) (by omega)).1] at this
    exact this
  obtain ⟨r1, r2, r3, r4, r5, r6, r7, r8⟩ := R
  have hc5 := r5.1 rfl
  have e5 : tN (tSet q.2.1 f (nI (tV t p1))) 5 = tN q.2.1 5 := by rw [tSet_N, if_neg (by omega)]
  have f5 : tSet q.2.1 f (nI (tV t p1)) 5 = q.2.1 5 := by rw [tSet_at, if_neg (by omega)]
  refine h1 _ _ D4 ((w1.m (by omega) (by omega)).trans (o4.m (by omega) (by omega))) (fun z => by rw [eR, if_pos z]) (fun z => by rw [eR, if_neg (not_not_intro z)]) ⟨w3.fr o4 (by omega) (by omega), w4.fr o4 (by omega), fun hn i hi => ?_, mCn_0 ?_, cOK_0 ?_ ?_, ?_, ?_, fun e => by omega⟩ ?_ ?_ w6
  · have hq := (chk_none (show chk q.1 (tV t p1) (lo5 f) (hi5 f) (tS t p1) = none from hn)).1
    rw [v4', r3 hq i hi]; rfl
  · rw [v4', if_neg (by omega), r4.1 rfl]; exact f5.symm
  · exact f5.trans (by rw [show (tlNum q f (tV t p1) (tS t p1)).2.1 = tSet q.2.1 f (nI (tV t p1)) from rfl, e5]; exact hc5.1)
  · rw [show (tlNum q f (tV t p1) (tS t p1)).2.1 = tSet q.2.1 f (nI (tV t p1)) from rfl, e5]; exact hc5.2
  · rw [o4.2 22 (by omega), w2 22 (by omega) (by omega)]; exact r6
  · rw [o4.2 23 (by omega), w2 23 (by omega) (by omega)]; exact r7
  · have := vOK_tl (q := q) (s := 0) (f := f) (first := tS t p) (c := 1) (V := fun i => tV t (nx t p1 i)) (P := fun i => tS t (nx t p1 i)) (Or.inl ⟨rfl, by omega⟩) (by omega) hv1 hv
    rw [et] at this; exact this
  · exact ⟨w5.1, by rw [o4.2 13 (by omega)]; exact w5.2.1, by rw [o4.2 11 (by omega)]; exact w5.2.2.1, by rw [o4.2 14 (by omega)]; exact w5.2.2.2.1, fun y => by rw [o4.2 15 (by omega)]; exact w5.2.2.2.2.1 y, fun y => by rw [e4]; exact w5.2.2.2.2.2 y⟩
/-- JUMPY -/
theorem ml_jumpy {P : Int32 → xD → Prop} (R : mrd D0 t 0 q) (hv : vOK 0 q) (W : mwl D0 D t q.1 p1) (hgd : D.1 325 25 = 1) (hL : lnS t 0 q p = lnRest t q p p1 6)
    (h0 : ∀ b D', mF 336 338 11 26 D0 D' → lnS t 0 q p = .inl b → D'.1 325 17 = nI b → P 0 D')
    (h1 : ∀ q' pp D', mF 336 338 11 26 D0 D' → (tK t pp ≠ 2 → lnS t 0 q p = .inl (tS t pp)) → (tK t pp = 2 → lnS t 0 q p = .inr (q', tE t pp)) → mrd D' t 0 q' → vOK 0 q' → mtk D' t pp → fB q'.1 (tS t pp) → P 1 D') :
    xCi (d + 4) m_M_take [.ref 325, .int (0 : Int32), .int (0 : Int32), .int (5 : Int32)] D (fun r39 D38 => (¬ r39 = 0 → vp_in (0 : Int32) (xl (325 + 12)) ∧ xCi (d + 4) m_M_greater [.int (D38.1 325 22), .int (D38.1 (325 + 12) ((0 : Int32) : Int32).toNatClampNeg)] D38 (fun r41 D40 => ∀ D42 : xD, D42 = (xu D40.1 325 22 r41, D40.2) → ((D42.1 325 25) = 0 → ∃ v, some (Value.int (1 : Int32)) = some (.int v) ∧ P v D42) ∧ (¬ (D42.1 325 25) = 0 → vp_in (0 : Int32) (xl (325 + 12)) ∧ vp_in (((6 : Int32) + ((7 : Int32) * (D42.1 (325 + 12) ((0 : Int32) : Int32).toNatClampNeg))) + (6 : Int32)) (xl (325 + 11)) ∧ ∀ D43 : xD, D43 = (xu D42.1 (325 + 11) (((6 : Int32) + ((7 : Int32) * (D42.1 (325 + 12) ((0 : Int32) : Int32).toNatClampNeg))) + (6 : Int32) : Int32).toNatClampNeg (1 : Int32), D42.2) → ∃ v, some (Value.int (1 : Int32)) = some (.int v) ∧ P v D43))) ∧ (r39 = 0 → ∃ v, some (Value.int (0 : Int32)) = some (.int v) ∧ P v D38)) := by
  have l11 : xl (325 + 11) = 121 := cl_13_20 xk_M
  have l12 : xl (325 + 12) = 4 := cl_13_21 xk_M
  have i12 : vp_in (0 : Int32) (xl (325 + 12)) := by rw [l12]; exact vp_in_nI (n := 0) (by omega) (by omega)
  have hm : msN 6 = 1 := by unfold msN; rw [if_neg (by omega)]; rfl
  refine wl_take (k := 0) (lo := 0) (hi := 5) W (by omega) (by omega) (by omega) (fun c D' o f17 => z0' ⟨_, rfl, h0 _ D' (o.m (by omega) (by omega)) (hL.trans (lnRest_0 (by decide) c)) f17⟩) (fun c hv1 hS D' W' v' g' => z1' ⟨i12, c_M_greater (fun D42 e42 => ?_)⟩)
  obtain ⟨w1, w2, w3, w4, w5, w6⟩ := W'
  obtain ⟨r1, r2, r3, r4, r5, r6, r7, r8⟩ := R
  have hg := hv.2.1
  have e0 : D'.1 (325 + 12) 0 = nI (tV t p1) := by rw [show D'.1 (325 + 12) 0 = D'.1 337 0 from rfl, v', if_pos rfl]
  obtain ⟨o42, f42⟩ := mf e42
  rw [k00, e0, w2 22 (by omega) (by omega), r6, grt (by omega) (by omega)] at f42
  have eR := hL.trans (lnRest_1 (q := q) (p := p) hm rfl (by omega) c)
  have et : tl q 6 (tS t p) (fun i => tV t (nx t p1 i)) (fun i => tS t (nx t p1 i)) 1 = tlJum q (tV t p1) (tS t p1) := rfl
  rw [et] at eR
  have hc5 := r5.1 rfl
  have vq : vOK 0 (tlJum q (tV t p1) (tS t p1)) := by
    have := vOK_tl (q := q) (s := 0) (f := 6) (first := tS t p) (c := 1) (V := fun i => tV t (nx t p1 i)) (P := fun i => tS t (nx t p1 i)) (Or.inl ⟨rfl, by omega⟩) (by omega) hv1 hv
    rw [et] at this; exact this
  have fin : ∀ D', mF 336 338 11 26 D0 D' → mtp D' t → mFlt D' (chk q.1 (tV t p1) 0 5 (tS t p1)) → mtk D' t (tE t p1) → D'.1 325 22 = nI (if q.2.2.1 < tV t p1 + 1 then tV t p1 + 1 else q.2.2.1) - 1 → D'.1 325 23 = nI q.2.2.2 - 1 → (q.1 = none → tV t p1 ≤ 5 → ∀ j, D'.1 336 j = if j = 6 + 7 * tV t p1 + 6 then 1 else D0.1 336 j) → D'.1 336 5 = D0.1 336 5 → P 1 D' := by
    intro D' o T' m' k' g1 g2 tol t5
    refine h1 (tlJum q (tV t p1) (tS t p1)) (tE t p1) D' o (fun z => by rw [eR, if_pos z]) (fun z => by rw [eR, if_neg (not_not_intro z)]) ⟨T', m', fun hn i hi => ?_, mCn_0 ?_, cOK_0 ?_ ?_, g1, g2, fun e => by omega⟩ vq k' w6
    · obtain ⟨hq, -, h5⟩ := chk_none (show chk q.1 (tV t p1) 0 5 (tS t p1) = none from hn)
      show D'.1 336 i = tSetP q.2.1 (tV t p1) 6 1 i
      unfold tSetP
      rw [if_pos (show tV t p1 < 6 by omega), tol hq h5, tSet_at]
      by_cases z : i = 6 + 7 * tV t p1 + 6
      · rw [if_pos z, if_pos z]
      · rw [if_neg z, if_neg z]; exact r3 hq i hi
    · show D'.1 336 5 = tSetP q.2.1 (tV t p1) 6 1 5
      rw [tSetP_5, t5]; exact r4.1 rfl
    · show tSetP q.2.1 (tV t p1) 6 1 5 = nI (tN (tSetP q.2.1 (tV t p1) 6 1) 5)
      rw [tSetP_5, tSetP_N5]; exact hc5.1
    · show tN (tSetP q.2.1 (tV t p1) 6 1) 5 ≤ 6
      rw [tSetP_N5]; exact hc5.2
  have k42 : mtk D42 t (tE t p1) := ⟨w5.1, by rw [o42.2 13 (by omega)]; exact w5.2.1, by rw [o42.2 11 (by omega)]; exact w5.2.2.1, by rw [o42.2 14 (by omega)]; exact w5.2.2.2.1, fun y => by rw [o42.2 15 (by omega)]; exact w5.2.2.2.2.1 y, fun y => by rw [e42]; exact w5.2.2.2.2.2 y⟩
  have g42 : D42.1 325 25 = if 0 ≤ tV t p1 ∧ tV t p1 ≤ 5 then 1 else 0 := by rw [o42.2 25 (by omega), g', hgd]
  have t42 : D42.1 (325 + 12) 0 = nI (tV t p1) := by rw [(o42.1 (325 + 12) (by omega) (by omega)).1]; exact e0
  have s42 : ∀ j, D42.1 336 j = D0.1 336 j := fun j => by rw [(o42.1 336 (by omega) (by omega)).1, (w1.1 336 (by omega) (by omega)).1]
  have p42 : mF 336 338 11 26 D0 D42 := (w1.m (by omega) (by omega)).trans (o42.m (by omega) (by omega))
  have t23 : D42.1 325 23 = nI q.2.2.2 - 1 := by rw [o42.2 23 (by omega), w2 23 (by omega) (by omega)]; exact r7
  rw [g42, k00, t42]
  by_cases h5 : tV t p1 ≤ 5
  · rw [if_pos ⟨Nat.zero_le _, h5⟩]
    refine z1 ⟨i12, ?_⟩
    rw [show (7 : Int32) * nI (tV t p1) = nI (7 * tV t p1) from pk_mul 7 _, show (6 : Int32) + nI (7 * tV t p1) = nI (6 + 7 * tV t p1) from nI_add 6 _, show nI (6 + 7 * tV t p1) + (6 : Int32) = nI (6 + 7 * tV t p1 + 6) from nI_add _ 6, l11, nI_clamp (by omega)]
    refine ⟨vp_in_nI (by omega) (by omega), fun D43 e43 => ⟨_, rfl, ?_⟩⟩
    obtain ⟨o43, v43⟩ := ma (by omega) e43
    have v43' : ∀ j, D43.1 336 j = if j = 6 + 7 * tV t p1 + 6 then 1 else D42.1 336 j := v43
    refine fin D43 (p42.trans (o43.m (by omega) (by omega))) ((w3.fr o42 (by omega) (by omega)).fr o43 (by omega) (by omega)) ((w4.fr o42 (by omega)).fr o43 (by omega)) ⟨k42.1, by rw [o43.2 13 (by omega)]; exact k42.2.1, by rw [o43.2 11 (by omega)]; exact k42.2.2.1, by rw [o43.2 14 (by omega)]; exact k42.2.2.2.1, fun y => by rw [o43.2 15 (by omega)]; exact k42.2.2.2.2.1 y, fun y => by rw [e43]; exact k42.2.2.2.2.2 y⟩ (by rw [o43.2 22 (by omega)]; exact f42) (by rw [o43.2 23 (by omega)]; exact t23) (fun _ _ j => by rw [v43', s42]) (by rw [v43', if_neg (by omega), s42])
  · rw [if_neg (fun y => h5 y.2)]
    exact z0 ⟨_, rfl, fin D42 p42 (w3.fr o42 (by omega) (by omega)) (w4.fr o42 (by omega)) k42 f42 t23 (fun _ y => absurd y h5) (s42 5)⟩
end MTAB
