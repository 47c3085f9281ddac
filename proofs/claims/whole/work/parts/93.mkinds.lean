/-! The reference reads lines of KINDS: a heap's, a hand's. -/
theorem srt_lt (k : Nat) : srt k < 5 := by unfold srt; split <;> (try split) <;> (try split) <;> (try split) <;> omega
theorem srt_i {D : xD} {t : Nat × (Nat → Nat)} {p n : Nat} {b : Int32} (hk : mtk D t p) (hb : b = nI n) (hn : n < 5) : D.1 325 14 = b ↔ srt (tK t p) = n := by
  subst hb
  rw [hk.2.2.2.1]
  have := srt_lt (tK t p)
  exact nI_eq (by omega) (by omega)
theorem mtk_N {D : xD} {t : Nat × (Nat → Nat)} {p : Nat} (hk : mtk D t p) : D.1 325 14 = (3 : Int32) ↔ tK t p = 1 := by
  rw [srt_i (n := 3) (b := 3) hk rfl (by omega)]
  unfold srt
  split <;> (try split) <;> (try split) <;> (try split) <;> omega
theorem mtk_W {D : xD} {t : Nat × (Nat → Nat)} {p : Nat} (hk : mtk D t p) : D.1 325 14 = (2 : Int32) ↔ tK t p = 0 := by
  rw [srt_i (n := 2) (b := 2) hk rfl (by omega)]
  unfold srt
  split <;> (try split) <;> (try split) <;> (try split) <;> omega
theorem mtk_S {D : xD} {t : Nat × (Nat → Nat)} {p : Nat} (hk : mtk D t p) : D.1 325 14 = (4 : Int32) ↔ tK t p = 2 := by
  rw [srt_i (n := 4) (b := 4) hk rfl (by omega)]
  unfold srt
  split <;> (try split) <;> (try split) <;> (try split) <;> omega
theorem mtk_E {D : xD} {t : Nat × (Nat → Nat)} {p : Nat} (hk : mtk D t p) : D.1 325 14 = (0 : Int32) ↔ tK t p = 3 := by
  have := tK_lt t p
  rw [srt_i (n := 0) (b := 0) hk rfl (by omega)]
  unfold srt
  split <;> (try split) <;> (try split) <;> (try split) <;> omega
theorem nx_more {t : Nat × (Nat → Nat)} {p : Nat} : ∀ {i : Nat}, (∀ j, j < i → tK t (nx t p j) = 1) → p + i ≤ nx t p i := by
  intro i
  induction i with
  | zero => intro _; exact Nat.le_refl _
  | succ i ih =>
    intro h
    have h1 := ih (fun j hj => h j (by omega))
    have h2 := tE_gt (t := t) (p := nx t p i) (by have := h i (by omega); omega)
    have h3 := tS_ge t (nx t p i)
    show p + (i + 1) ≤ tE t (nx t p i)
    omega
/-- one more KIND, whether there is room or not -/
theorem k1_F {F : Option (Nat × Nat)} {v pl : Nat} {c : Prop} [Decidable c] (h : fB F pl) : chkL (if c then F else lt' F 3 pl) v 0 12 pl = if c then chk F v 0 12 pl else nt (chk F v 0 12 pl) 3 pl := by
  by_cases z : c
  · rw [if_pos z, if_pos z, chkL_chk h]
  · rw [if_neg z, if_neg z, lt'_nt h]
    unfold chkL chk
    cases F with
    | none =>
      split
      · show lt' (some (3, pl)) 2 pl = some (2, pl)
        show (if pl < pl ∨ (pl = pl ∧ 2 < 3) then some (2, pl) else some (3, pl)) = some (2, pl)
        rw [if_pos (by omega)]
      · rfl
    | some f =>
      have := h f rfl
      split
      · show lt' (some f) 2 pl = some f
        show (if pl < f.2 ∨ (pl = f.2 ∧ 2 < f.1) then some (2, pl) else some f) = some f
        rw [if_neg (by omega)]
      · rfl
section MKINDS
variable {d : Nat} {D D0 : xD} {t : Nat × (Nat → Nat)} {p p1 s : Nat} {q : qS} {F : Option (Nat × Nat)}
theorem ml_kinds {P : Int32 → xD → Prop} {f off c from' most : Nat} (kl : klR s off c from' most) (hfo : (s = 1 ∧ f = 8) ∨ (s = 3 ∧ (f = 9 ∨ f = 10))) (htl : ∀ V Q n, tl q f (tS t p) V Q n = tlKs q c from' most V Q n) (hp1 : 1 ≤ p1)
    (R : mrd D0 t s q) (hv : vOK s q) (W : mwl D0 D t q.1 p1) (hL : lnS t s q p = lnRest t q p p1 f)
    (h0 : ∀ b D', mF 336 338 11 26 D0 D' → lnS t s q p = .inl b → D'.1 325 17 = nI b → P 0 D')
    (h1 : ∀ q' pp D', mF 336 338 11 26 D0 D' → (tK t pp ≠ 2 → lnS t s q p = .inl (tS t pp)) → (tK t pp = 2 → lnS t s q p = .inr (q', tE t pp)) → mrd D' t s q' → vOK s q' → mtk D' t pp → fB q'.1 (tS t pp) → P 1 D') :
    xCi (d + 5) m_M_kindsLine [.ref 325, .int (nI c), .int (nI from'), .int (nI most)] D P := by
  have l11 : xl (325 + 11) = 121 := cl_13_20 xk_M
  have l12 : xl (325 + 12) = 4 := cl_13_21 xk_M
  have bnd : c < 6 ∧ from' + most ≤ 100 ∧ most ≤ 100 ∧ c < from' := by rcases kl with ⟨-, -, rfl, rfl, rfl⟩ | ⟨-, -, rfl, rfl, rfl⟩ | ⟨-, -, rfl, rfl, rfl⟩ <;> omega
  obtain ⟨hc6, hfm, hm100, hcf⟩ := bnd
  have f30 : f = 8 ∨ f = 9 ∨ f = 10 := by omega
  have hl : lsN f = 1 := by rcases f30 with rfl | rfl | rfl <;> rfl
  have hm : msN f = tSix := by unfold msN; rw [if_pos (by omega)]
  have e6 := tSix_is
  have s4 : s ≠ 4 := by omega
  refine xCi_of y_M_kindsLine (Nat.le_of_ble_eq_true rfl) ?_
  have key : ∀ m i, m = t.1 - nx t p1 i → (i = 0 ∨ tK t (nx t p1 i) = 1) → (∀ j, j < i → tK t (nx t p1 j) = 1) → ∀ D', mF 336 338 11 26 D0 D' → mrd D' t s (tlKs q c from' most (fun i => tV t (nx t p1 i)) (fun i => tS t (nx t p1 i)) i) → mtk D' t (nx t p1 i) → fB (tlKs q c from' most (fun i => tV t (nx t p1 i)) (fun i => tS t (nx t p1 i)) i).1 (tS t (nx t p1 i)) →
      xPf (d + 5) m_M_kindsLine 0 [(0, .ref 325), (1, .int (nI c)), (2, .int (nI from')), (3, .int (nI most))] [] D' (fun r D' => ∃ v, r = some (.int v) ∧ P v D') := by
    intro m
    induction m using Nat.strongRecOn with
    | _ m ih =>
      intro i hm' hi hall D' o R' k' fb
      generalize hq' : tlKs q c from' most (fun i => tV t (nx t p1 i)) (fun i => tS t (nx t p1 i)) i = q' at R' fb
      have qg : q'.2.2 = q.2.2 := by rw [← hq', tlKs_g]
      obtain ⟨r1, r2, r3, r4, r5, r6, r7, r8⟩ := R'
      obtain ⟨cn, cm, cx⟩ := kl_cn kl r4 r5
      have hS := tS_le k'.1
      have n6 := r1.2.1
      refine s_M_kindsLine_0 xk_M ?_
      rw [k'.2.1]
      refine c_M_full r2 hc6 cn cm hm100 (by omega) (fun D1 o1 m1 d1 => ?_)
      have k1 : mtk D1 t (nx t p1 i) := mtk_fr k' o1 (by omega) (by rw [d1])
      refine c_M_take (k := 0) (lo := 0) (hi := 12) (r1.fr o1 (by omega) (by omega)) k1 m1 (by omega) (by omega) (by omega) (fun cc D2 o2 f2 => z0' ⟨_, rfl, ?_⟩) (fun cc hvn hSn D2 o2 g2 T2 k2 m2 v2 _ => z1' ⟨by rw [l11]; exact vp_in_nI (by omega) (by omega), ?_⟩)
      · have i0 : i = 0 := by
          rcases hi with y | y
          · exact y
          · exact absurd y cc
        subst i0
        exact h0 _ D2 (o.trans ((o1.m (by omega) (by omega)).trans (o2.m (by omega) (by omega)))) (hL.trans (lnRest_0 (by omega) cc)) f2
      · have hall' : ∀ j, j < i + 1 → tK t (nx t p1 j) = 1 := fun j hj => by
          by_cases y : j = i
          · rw [y]; exact cc
          · exact hall j (by omega)
        have more := nx_more (t := t) (p := p1) (i := i + 1) hall'
        have pp1 : nx t p1 (i + 1) = tE t (nx t p1 i) := rfl
        have hle : tE t (nx t p1 i) ≤ t.1 := tE_le k'.1
        have hgt := tE_gt (t := t) (p := nx t p1 i) (by omega)
        have hge := tS_ge t (nx t p1 i)
        rw [k1_F fb] at m2
        have eq1 : tlKs q c from' most (fun i => tV t (nx t p1 i)) (fun i => tS t (nx t p1 i)) (i + 1) = tlK1 q' c from' most (tV t (nx t p1 i)) (tS t (nx t p1 i)) := by rw [tlKs, hq']
        have o02 : mF 336 338 11 26 D0 D2 := o.trans ((o1.m (by omega) (by omega)).trans (o2.m (by omega) (by omega)))
        have s2 : D2.1 336 = D'.1 336 := by rw [(o2.1 336 (by omega) (by omega)).1, (o1.1 336 (by omega) (by omega)).1]
        have hlt := tS_lt (t := t) (p := nx t p1 i) (by omega)
        -- behind it
        have fin : ∀ D3, mF 336 337 0 0 D2 D3 → D3.2 325 16 = D2.2 325 16 → mrd D3 t s (tlK1 q' c from' most (tV t (nx t p1 i)) (tS t (nx t p1 i))) →
            ((D3.1 325 14) = (3 : Int32) → xPf (d + 5) m_M_kindsLine 0 [(0, .ref 325), (1, .int (nI c)), (2, .int (nI from')), (3, .int (nI most))] [] D3 (fun r D' => ∃ v, r = some (.int v) ∧ P v D')) ∧ (¬ (D3.1 325 14) = (3 : Int32) → ∃ v, some (Value.int (1 : Int32)) = some (.int v) ∧ P v D3) := by
          intro D3 o3 e16 R3
          have k3 : mtk D3 t (nx t p1 (i + 1)) := mtk_fr k2 o3 (by omega) e16
          have fb3 : fB (tlK1 q' c from' most (tV t (nx t p1 i)) (tS t (nx t p1 i))).1 (tS t (nx t p1 (i + 1))) := by
            unfold tlK1
            split
            · exact chk_fB (fb.mono (Nat.le_of_lt hlt)) hlt
            · exact nt_fB (chk_fB (fb.mono (Nat.le_of_lt hlt)) hlt) hlt
          rw [mtk_N k3]
          refine ⟨fun y => ih (t.1 - nx t p1 (i + 1)) (by rw [pp1]; omega) (i + 1) rfl (Or.inr y) hall' D3 (o02.trans (o3.m (by omega) (by omega))) (by rw [eq1]; exact R3) k3 (by rw [eq1]; exact fb3), fun y => ⟨_, rfl, ?_⟩⟩
          have ec : cN t (msN f) p1 = i + 1 := by rw [hm]; exact cN_stop hall' y (by omega)
          have eR := hL.trans (lnRest_n (q := q) (p := p) (show ¬ cN t (msN f) p1 < lsN f by omega) (by omega))
          rw [ec, htl, eq1] at eR
          refine h1 _ _ D3 (o02.trans (o3.m (by omega) (by omega))) (fun z => by rw [eR]; exact if_pos z) (fun z => by rw [eR]; exact if_neg (not_not_intro z)) R3 ?_ k3 fb3
          have := vOK_tl (q := q) (s := s) (f := f) (first := tS t p) (c := i + 1) (V := fun i => tV t (nx t p1 i)) (P := fun i => tS t (nx t p1 i)) (by omega) (by omega) (tV_lt (hall' 0 (by omega))) hv
          rw [htl, eq1] at this
          exact this
        have cn2 : D2.1 (325 + 11) c = nI (tN q'.2.1 c) := by rw [show D2.1 (325 + 11) c = D2.1 336 c from rfl, s2]; exact cn
        have r22 : D2.1 325 22 = nI q'.2.2.1 - 1 := by rw [g2 22 (by omega) (by omega), o1.2 22 (by omega)]; exact r6
        have r23 : D2.1 325 23 = nI q'.2.2.2 - 1 := by rw [g2 23 (by omega) (by omega), o1.2 23 (by omega)]; exact r7
        rw [nI_clamp (by omega), cn2]
        refine ⟨fun y => ?_, fun y => ?_⟩
        · have nlt : ¬ tN q'.2.1 c < most := Nat.not_lt.mpr ((nI_leI (by omega) (by omega)).mp y)
          rw [if_neg nlt] at m2
          have e1 : tlK1 q' c from' most (tV t (nx t p1 i)) (tS t (nx t p1 i)) = (nt (chk q'.1 (tV t (nx t p1 i)) 0 12 (tS t (nx t p1 i))) 3 (tS t (nx t p1 i)), q'.2) := by unfold tlK1; rw [if_neg nlt]
          refine fin D2 mF.rfl' rfl ?_
          rw [e1]
          exact ⟨T2, m2, fun hn => absurd hn (nt_some _ _ _), ⟨fun e => by rw [s2]; exact r4.1 e, fun e => by rw [s2]; exact r4.2.1 e, fun e => by rw [s2]; exact r4.2.2 e⟩, r5, r22, r23, fun e => absurd e s4⟩
        · have nlt : tN q'.2.1 c < most := Nat.lt_of_not_le (fun z => y (nI_le z (by omega)))
          rw [if_pos nlt] at m2
          have e1 : tlK1 q' c from' most (tV t (nx t p1 i)) (tS t (nx t p1 i)) = (chk q'.1 (tV t (nx t p1 i)) 0 12 (tS t (nx t p1 i)), tSet (tSet q'.2.1 (from' + tN q'.2.1 c) (nI (tV t (nx t p1 i)))) c (nI (tN q'.2.1 c + 1)), q'.2.2) := by unfold tlK1; rw [if_pos nlt]
          have e20 : D2.1 (325 + 12) 0 = nI (tV t (nx t p1 i)) := by rw [show D2.1 (325 + 12) 0 = D2.1 337 0 from rfl, v2, if_pos rfl]
          rw [nI_add, k00, e20, l11, l12, nI_clamp (by omega)]
          refine ⟨vp_in_nI (by omega) (by omega), vp_in_nI (n := 0) (by omega) (by omega), vp_in_nI (by omega) (by omega), fun D4 e4 => ?_⟩
          obtain ⟨o4, v4⟩ := ma (by omega) e4
          have v4' : ∀ j, D4.1 336 j = if j = from' + tN q'.2.1 c then nI (tV t (nx t p1 i)) else D2.1 336 j := v4
          have cn4 : D4.1 (325 + 11) c = nI (tN q'.2.1 c) := by rw [show D4.1 (325 + 11) c = D4.1 336 c from rfl, v4', if_neg (by omega)]; exact cn2
          rw [cn4, nI_1]
          refine ⟨vp_in_nI (by omega) (by omega), vp_in_nI (by omega) (by omega), fun D5 e5 => ?_⟩
          obtain ⟨o5, v5⟩ := ma (by omega) e5
          have v5' : ∀ j, D5.1 336 j = if j = c then nI (tN q'.2.1 c + 1) else if j = from' + tN q'.2.1 c then nI (tV t (nx t p1 i)) else D'.1 336 j := fun j => by
            have := v5 j
            rw [show D5.1 (325 + 11) j = D5.1 336 j from rfl, show D4.1 (325 + 11) j = D4.1 336 j from rfl, v4', s2] at this
            exact this
          have o25 : mF 336 337 0 0 D2 D5 := (o4.m (by omega) (by omega)).trans (o5.m (by omega) (by omega))
          obtain ⟨cn5, ck5⟩ := kl_push' (v := tV t (nx t p1 i)) kl r4 r5 nlt v5'
          refine fin D5 o25 (by rw [e5, e4]) ?_
          rw [e1]
          refine ⟨T2.fr o25 (by omega) (by omega), m2.fr o25 (by omega), fun hn j hj => ?_, cn5, ck5, by rw [o25.2 22 (by omega)]; exact r22, by rw [o25.2 23 (by omega)]; exact r23, fun e => absurd e s4⟩
          have hq0 := (chk_none (show chk q'.1 (tV t (nx t p1 i)) 0 12 (tS t (nx t p1 i)) = none from hn)).1
          rw [v5', r3 hq0 j hj]; rfl
  obtain ⟨w1, w2, w3, w4, w5, w6⟩ := W
  obtain ⟨r1, r2, r3, r4, r5, r6, r7, r8⟩ := R
  have s1 : D.1 336 = D0.1 336 := (w1.1 336 (by omega) (by omega)).1
  exact key (t.1 - p1) 0 rfl (Or.inl rfl) (fun j hj => absurd hj (Nat.not_lt_zero _)) D (w1.m (by omega) (by omega)) ⟨w3, w4, fun hn j hj => by rw [s1]; exact r3 hn j hj, ⟨fun e => by rw [s1]; exact r4.1 e, fun e => by rw [s1]; exact r4.2.1 e, fun e => by rw [s1]; exact r4.2.2 e⟩, r5, by rw [w2 22 (by omega) (by omega)]; exact r6, by rw [w2 23 (by omega) (by omega)]; exact r7, fun e => absurd e s4⟩ w5 w6
theorem c_M_heapLine {P : Int32 → xD → Prop} (R : mrd D t 1 q) (hv : vOK 1 q) (hk : mtk D t p) (hB : fB q.1 (tS t p))
    (h0 : ∀ b D', mF 336 338 11 26 D D' → lnS t 1 q p = .inl b → D'.1 325 17 = nI b → P 0 D')
    (h1 : ∀ q' pp D', mF 336 338 11 26 D D' → (tK t pp ≠ 2 → lnS t 1 q p = .inl (tS t pp)) → (tK t pp = 2 → lnS t 1 q p = .inr (q', tE t pp)) → mrd D' t 1 q' → vOK 1 q' → mtk D' t pp → fB q'.1 (tS t pp) → P 1 D') : xCi (d + 6) m_M_heapLine [.ref 325, .long (wd0 t p)] D P := by
  have W := mwl_0 R hk hB
  have e1 : lnF 1 = [(8, 8)] := rfl
  refine xCi_of y_M_heapLine (Nat.le_of_ble_eq_true rfl) (s_M_heapLine_0 xk_M ?_)
  rw [cc_8, wIx_cmp (k := 8) (by omega)]
  refine ⟨fun c => wl_token W (fun D1 W1 _ _ _ => ?_), fun c => wl_fails W (fun D' o f => ⟨Or.inl rfl, _, rfl, h0 _ D' (o.m (by omega) (by omega)) (lnS_none (by omega) ?_) f⟩)⟩
  · have kk := wIx_some.mp c
    have hp := tE_gt (t := t) (p := p) (by omega)
    refine ml_kinds (f := 8) (Or.inl ⟨rfl, rfl, rfl, rfl, rfl⟩) (Or.inl ⟨rfl, rfl⟩) (fun V Q n => rfl) (by omega) R hv W1 (lnS_look (by omega) (by rw [c, e1]; rfl)) (fun b D' o e f => ⟨Or.inl rfl, _, rfl, h0 b D' o e f⟩) (fun q' pp D' o e1 e2 R' v' k' b' => ⟨Or.inr rfl, _, rfl, h1 q' pp D' o e1 e2 R' v' k' b'⟩)
  · rw [e1]
    cases hw : wIx t p with
    | none => rfl
    | some k => rw [look, if_neg (fun y => c (by rw [hw, y]))]; rfl
theorem c_M_handLine {P : Int32 → xD → Prop} (R : mrd D t 3 q) (hv : vOK 3 q) (hk : mtk D t p) (hB : fB q.1 (tS t p))
    (h0 : ∀ b D', mF 336 338 11 26 D D' → lnS t 3 q p = .inl b → D'.1 325 17 = nI b → P 0 D')
    (h1 : ∀ q' pp D', mF 336 338 11 26 D D' → (tK t pp ≠ 2 → lnS t 3 q p = .inl (tS t pp)) → (tK t pp = 2 → lnS t 3 q p = .inr (q', tE t pp)) → mrd D' t 3 q' → vOK 3 q' → mtk D' t pp → fB q'.1 (tS t pp) → P 1 D') : xCi (d + 6) m_M_handLine [.ref 325, .long (wd0 t p)] D P := by
  have W := mwl_0 R hk hB
  have e1 : lnF 3 = [(14, 9), (15, 10)] := rfl
  refine xCi_of y_M_handLine (Nat.le_of_ble_eq_true rfl) (s_M_handLine_0 xk_M ?_)
  rw [cc_14, cc_15, wIx_cmp (k := 14) (by omega), wIx_cmp (k := 15) (by omega)]
  refine ⟨fun c => wl_token W (fun D1 W1 _ _ _ => ⟨fun z => absurd c z, fun _ => ?_⟩), fun c => ⟨fun c2 => wl_token W (fun D1 W1 _ _ _ => ⟨fun _ => ?_, fun z => absurd z c⟩), fun c2 => wl_fails W (fun D' o f => ⟨Or.inl rfl, _, rfl, h0 _ D' (o.m (by omega) (by omega)) (lnS_none (by omega) ?_) f⟩)⟩⟩
  · have kk := wIx_some.mp c
    have hp := tE_gt (t := t) (p := p) (by omega)
    refine ml_kinds (f := 9) (Or.inr (Or.inl ⟨rfl, rfl, rfl, rfl, rfl⟩)) (Or.inr ⟨rfl, Or.inl rfl⟩) (fun V Q n => rfl) (by omega) R hv W1 (lnS_look (by omega) (by rw [c, e1]; rfl)) (fun b D' o e f => ⟨Or.inl rfl, _, rfl, h0 b D' o e f⟩) (fun q' pp D' o e1 e2 R' v' k' b' => ⟨Or.inr rfl, _, rfl, h1 q' pp D' o e1 e2 R' v' k' b'⟩)
  · have kk := wIx_some.mp c2
    have hp := tE_gt (t := t) (p := p) (by omega)
    refine ml_kinds (f := 10) (Or.inr (Or.inr ⟨rfl, rfl, rfl, rfl, rfl⟩)) (Or.inr ⟨rfl, Or.inr rfl⟩) (fun V Q n => rfl) (by omega) R hv W1 (lnS_look (by omega) (by rw [c2, e1]; rfl)) (fun b D' o e f => ⟨Or.inl rfl, _, rfl, h0 b D' o e f⟩) (fun q' pp D' o e1 e2 R' v' k' b' => ⟨Or.inr rfl, _, rfl, h1 q' pp D' o e1 e2 R' v' k' b'⟩)
  · rw [e1]
    cases hw : wIx t p with
    | none => rfl
    | some k => rw [look, if_neg (fun y => c (by rw [hw, y])), look, if_neg (fun y => c2 (by rw [hw, y]))]; rfl
end MKINDS
