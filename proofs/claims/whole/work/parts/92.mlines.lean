/-! The reference reads a line of a table, a line of KINDS. -/
theorem lk5 : ∀ k, k < 5 → look (some k) [(0, 0), (1, 1), (2, 2), (3, 3), (4, 4)] = some k := by decide
theorem lk5' : ∀ k, k < 21 → 5 ≤ k → look (some k) [(0, 0), (1, 1), (2, 2), (3, 3), (4, 4)] = none := by decide
theorem lk0 : ∀ k, k < 8 → look (some k) (lnF 0) = some k := by decide
theorem lk0' : ∀ k, k < 21 → 8 ≤ k → look (some k) (lnF 0) = none := by decide
section MLINES
variable {d : Nat} {D D0 : xD} {t : Nat × (Nat → Nat)} {p p1 s : Nat} {q : qS} {F : Option (Nat × Nat)}
theorem mwl_0 (R : mrd D t s q) (hk : mtk D t p) (hB : fB q.1 (tS t p)) : mwl D D t q.1 p := ⟨mF.rfl', fun _ _ _ => rfl, R.1, R.2.1, hk, hB⟩
/-- the next token -/
theorem wl_token {P : xD → Prop} (W : mwl D0 D t F p) (h : ∀ D', mwl D0 D' t F (tE t p) → D'.1 336 = D.1 336 → D'.1 337 = D.1 337 → D'.1 325 25 = D.1 325 25 → P D') : xCv (d + 3) m_M_token [.ref 325] D P := by
  obtain ⟨w1, w2, w3, w4, w5, w6⟩ := W
  refine c_M_token w3 w5.2.2.1 (tE_le w5.1) (fun D' o T k => h D' ⟨w1.trans (o.m (by omega) (by omega)), fun j a b => by rw [o.2 j (by omega)]; exact w2 j a b, T, w4.fr o (by omega), k, w6.mono ?_⟩ (o.1 336 (by omega) (by omega)).1 (o.1 337 (by omega) (by omega)).1 (o.2 25 (by omega)))
  have h1 := tE_ge t p
  have h2 := tS_ge t (tE t p)
  omega
theorem wl_fails {P : Int32 → xD → Prop} (W : mwl D0 D t F p) (h : ∀ D', mF 337 338 11 26 D0 D' → D'.1 325 17 = nI (tS t p) → P 0 D') : xCi (d + 1) m_M_fails [.ref 325] D P :=
  c_M_fails W.2.2.2.2.1 (fun D' o f => h D' (W.1.trans (o.m (by omega) (by omega))) f)
theorem wl_full {P : xD → Prop} {c most n : Nat} (W : mwl D0 D t F p) (hc : c < 6) (e : D.1 336 c = nI n) (hn : n ≤ most) (hm : most ≤ 100) (h : ∀ D', mF 0 0 18 20 D D' → mFlt D' (if n < most then F else lt' F 3 (tS t p)) → D'.2 = D.2 → P D') : xCv (d + 2) m_M_full [.ref 325, .int (nI c), .int (nI most), .int (nI (tS t p))] D P :=
  c_M_full W.2.2.2.1 hc e hn hm (by have := tS_le W.2.2.2.2.1.1; have := W.2.2.1.2.1; omega) h
theorem lnS_look {k : Nat} (hs : s < 5) (e : look (wIx t p) (lnF s) = some k) : lnS t s q p = lnRest t q p (tE t p) k := lnS_1 (by rw [look_is (lnF_21 s hs)]; exact e)
theorem lnS_none (hs : s < 5) (e : look (wIx t p) (lnF s) = none) : lnS t s q p = .inl (tS t p) := lnS_0 (by rw [look_is (lnF_21 s hs)]; exact e)
theorem c_M_tableLine {P : Int32 → xD → Prop} (R : mrd D t 0 q) (hv : vOK 0 q) (hk : mtk D t p) (hB : fB q.1 (tS t p)) (hgd : D.1 325 25 = 1)
    (h0 : ∀ b D', mF 336 338 11 26 D D' → lnS t 0 q p = .inl b → D'.1 325 17 = nI b → P 0 D')
    (h1 : ∀ q' pp D', mF 336 338 11 26 D D' → (tK t pp ≠ 2 → lnS t 0 q p = .inl (tS t pp)) → (tK t pp = 2 → lnS t 0 q p = .inr (q', tE t pp)) → mrd D' t 0 q' → vOK 0 q' → mtk D' t pp → fB q'.1 (tS t pp) → P 1 D') : xCi (d + 6) m_M_tableLine [.ref 325, .long (wd0 t p), .int (nI (tS t p))] D P := by
  have W := mwl_0 R hk hB
  have hc5 := R.2.2.2.2.1.1 rfl
  have t5 : D.1 336 5 = nI (tN q.2.1 5) := by rw [R.2.2.2.1.1 rfl]; exact hc5.1
  refine xCi_of y_M_tableLine (Nat.le_of_ble_eq_true rfl) (s_M_tableLine_0 xk_M (c_M_plainOf ?_))
  rw [cc_5, cc_6, cc_7, wIx_cmp (k := 5) (by omega), wIx_cmp (k := 6) (by omega), wIx_cmp (k := 7) (by omega)]
  have fail : look (wIx t p) (lnF 0) = none → xCi (d + 5) m_M_fails [.ref 325] D (fun r8 D7 => (r8 = 0 ∨ r8 = 1) ∧ ∃ v, some (Value.int r8) = some (.int v) ∧ P v D7) := fun e => wl_fails W (fun D' o f => ⟨Or.inl rfl, _, rfl, h0 _ D' (o.m (by omega) (by omega)) (lnS_none (by omega) e) f⟩)
  cases hW : wIx t p with
  | none =>
    rw [hW] at fail
    exact ⟨fun z => absurd rfl z, fun _ => ⟨fun z => (by cases z), fun _ => ⟨fun z => (by cases z), fun _ => ⟨fun z => (by cases z), fun _ => fail rfl⟩⟩⟩⟩
  | some k =>
    have k21 := (wIx_some.mp hW).1
    have nk : ∀ j, k ≠ j → ¬ some k = some j := fun j y z => y (by cases z; rfl)
    rw [hW] at fail
    by_cases k5 : k < 5
    · rw [lk5 k k5]
      have hL : lnS t 0 q p = lnRest t q p (tE t p) k := lnS_look (by omega) (by rw [hW]; exact lk0 k (by omega))
      have ok : oI (some k) = nI k := rfl
      rw [ok]
      refine ⟨fun _ => ⟨fun _ => ?_, fun z => absurd z (nk 5 (by omega))⟩, fun z => absurd ((oI_iff (r := some k) (fun p' e => by cases e; omega)).mp z) (fun y => by cases y)⟩
      refine s_M_tableLine_57 xk_M ?_
      rw [cc_5, cc_6, cc_7, wIx_cmp (k := 5) (by omega), wIx_cmp (k := 6) (by omega), wIx_cmp (k := 7) (by omega), hW]
      refine wl_token W (fun D1 W1 _ _ _ => ⟨fun _ => ⟨fun _ => ⟨fun _ => ?_, fun z => absurd z (nk 6 (by omega))⟩, fun z => absurd z (nk 7 (by omega))⟩, fun z => absurd z (nk 5 (by omega))⟩)
      rcases (show k = 0 ∨ k = 1 ∨ k = 2 ∨ k = 3 ∨ k = 4 by omega) with rfl | rfl | rfl | rfl | rfl
      · exact ⟨fun _ => ⟨fun z => absurd rfl z, fun _ => ml_plain (f := 0) (by omega) R hv W1 hL h0 h1⟩, fun z => absurd rfl z⟩
      · exact ⟨fun z => absurd z (by decide), fun _ => ⟨fun _ => ⟨fun _ => ⟨fun _ => ⟨fun z => absurd z (by decide), fun _ => ml_plain (f := 1) (by omega) R hv W1 hL h0 h1⟩, fun z => absurd z (by decide)⟩, fun z => absurd z (by decide)⟩, fun z => absurd z (by decide)⟩⟩
      · exact ⟨fun z => absurd z (by decide), fun _ => ⟨fun z => absurd rfl z, fun _ => ⟨fun _ => ⟨fun z => absurd z (by decide), fun _ => ml_plain (f := 2) (by omega) R hv W1 hL h0 h1⟩, fun z => absurd z (by decide)⟩⟩⟩
      · exact ⟨fun z => absurd z (by decide), fun _ => ⟨fun _ => ⟨fun _ => ⟨fun _ => ⟨fun _ => ml_plain (f := 3) (by omega) R hv W1 hL h0 h1, fun z => absurd (by decide) z⟩, fun z => absurd z (by decide)⟩, fun z => absurd z (by decide)⟩, fun z => absurd z (by decide)⟩⟩
      · exact ⟨fun z => absurd z (by decide), fun _ => ⟨fun _ => ⟨fun z => absurd rfl z, fun _ => ⟨fun _ => ⟨fun _ => ml_plain (f := 4) (by omega) R hv W1 hL h0 h1, fun z => absurd (by decide) z⟩, fun z => absurd z (by decide)⟩⟩, fun z => absurd z (by decide)⟩⟩
    · rw [lk5' k k21 (by omega)]
      refine ⟨fun z => absurd rfl z, fun _ => ?_⟩
      by_cases e6 : k = 6
      · subst e6
        have hL : lnS t 0 q p = lnRest t q p (tE t p) 6 := lnS_look (by omega) (by rw [hW]; exact lk0 6 (by omega))
        refine ⟨fun _ => ⟨fun _ => ?_, fun z => absurd z (nk 5 (by omega))⟩, fun z => absurd rfl z⟩
        refine s_M_tableLine_57 xk_M ?_
        rw [cc_5, cc_6, cc_7, wIx_cmp (k := 5) (by omega), wIx_cmp (k := 6) (by omega), wIx_cmp (k := 7) (by omega), hW]
        refine wl_token W (fun D1 W1 _ _ g1 => ⟨fun _ => ⟨fun _ => ⟨fun z => absurd rfl z, fun _ => ?_⟩, fun z => absurd z (nk 7 (by omega))⟩, fun z => absurd z (nk 5 (by omega))⟩)
        exact ml_jumpy R hv W1 (by rw [g1]; exact hgd) hL h0 h1
      · refine ⟨fun z => absurd z (nk 6 e6), fun _ => ?_⟩
        by_cases e5 : k = 5
        · subst e5
          have hL : lnS t 0 q p = lnRest t q p (tE t p) 5 := lnS_look (by omega) (by rw [hW]; exact lk0 5 (by omega))
          refine ⟨fun _ => ⟨fun z => absurd rfl z, fun _ => ?_⟩, fun z => absurd rfl z⟩
          refine wl_full (c := 5) (most := 6) W (by omega) t5 hc5.2 (by omega) (fun D2 o2 m2 _ => ?_)
          rw [lt'_nt hB] at m2
          refine s_M_tableLine_57 xk_M ?_
          rw [cc_5, cc_6, cc_7, wIx_cmp (k := 5) (by omega), wIx_cmp (k := 6) (by omega), wIx_cmp (k := 7) (by omega), hW]
          have hlt : tS t p < tS t (tE t p) := tS_lt (by have := (wIx_some.mp hW).2.1; omega)
          refine c_M_token (R.1.fr o2 (by omega) (by omega)) (p := tE t p) (by rw [o2.2 11 (by omega)]; exact hk.2.2.1) (tE_le hk.1) (fun D1 o1 T1 k1 => ?_)
          have W1 : mwl D D1 t (if tN q.2.1 5 < 6 then q.1 else nt q.1 3 (tS t p)) (tE t p) := by
            refine ⟨(o2.m (by omega) (by omega)).trans (o1.m (by omega) (by omega)), fun j a b => by rw [o1.2 j (by omega), o2.2 j (by omega)], T1, m2.fr o1 (by omega), k1, ?_⟩
            split
            · exact hB.mono (by omega)
            · exact nt_fB (hB.mono (by omega)) hlt
          exact ⟨fun z => absurd rfl z, fun _ => ml_person R hv W1 hL (fun b D' o e f => ⟨Or.inl rfl, _, rfl, h0 b D' o e f⟩) (fun q' pp D' o e1 e2 R' v' k' b' => ⟨Or.inr rfl, _, rfl, h1 q' pp D' o e1 e2 R' v' k' b'⟩)⟩
        · refine ⟨fun z => absurd z (nk 5 e5), fun _ => ?_⟩
          by_cases e7 : k = 7
          · subst e7
            have hL : lnS t 0 q p = lnRest t q p (tE t p) 7 := lnS_look (by omega) (by rw [hW]; exact lk0 7 (by omega))
            refine ⟨fun _ => ⟨fun _ => ?_, fun z => absurd z (nk 5 (by omega))⟩, fun z => absurd rfl z⟩
            refine s_M_tableLine_57 xk_M ?_
            rw [cc_5, cc_6, cc_7, wIx_cmp (k := 5) (by omega), wIx_cmp (k := 6) (by omega), wIx_cmp (k := 7) (by omega), hW]
            refine wl_token W (fun D1 W1 _ _ g1 => ⟨fun _ => ⟨fun z => absurd rfl z, fun _ => ?_⟩, fun z => absurd z (nk 5 (by omega))⟩)
            exact c_M_lawLine R hv W1 (by rw [g1]; exact hgd) hL (fun b D' o e f => ⟨Or.inl rfl, _, rfl, h0 b D' o e f⟩) (fun q' pp D' o e1 e2 R' v' k' b' => ⟨Or.inr rfl, _, rfl, h1 q' pp D' o e1 e2 R' v' k' b'⟩)
          · exact ⟨fun z => absurd z (nk 7 e7), fun _ => fail (lk0' k k21 (by omega))⟩
/-- a list of KINDS, on the reference's sheet -/
theorem kl_cn {D : xD} {ξ : Nat → Int32} {off c from' most : Nat} (kl : klR s off c from' most) (h : mCn D s ξ) (hc : cOK s ξ) : D.1 336 c = nI (tN ξ c) ∧ tN ξ c ≤ most ∧ ξ c = nI (tN ξ c) := by
  rcases kl with ⟨rfl, -, rfl, -, rfl⟩ | ⟨rfl, -, rfl, -, rfl⟩ | ⟨rfl, -, rfl, -, rfl⟩
  · have := hc.2.1 rfl
    exact ⟨by rw [h.2.1 (by omega)]; exact this.1, this.2, this.1⟩
  · have := hc.2.2.2.1 rfl
    exact ⟨by rw [h.2.1 (by omega)]; exact this.1, this.2.1, this.1⟩
  · have := hc.2.2.2.1 rfl
    exact ⟨by rw [h.2.2 rfl]; exact this.2.2.1, this.2.2.2, this.2.2.1⟩
theorem kl_push' {D D' : xD} {ξ : Nat → Int32} {off c from' most v : Nat} (kl : klR s off c from' most) (h : mCn D s ξ) (hc : cOK s ξ) (hlt : tN ξ c < most) (e : ∀ j, D'.1 336 j = if j = c then nI (tN ξ c + 1) else if j = from' + tN ξ c then nI v else D.1 336 j) : mCn D' s (tSet (tSet ξ (from' + tN ξ c) (nI v)) c (nI (tN ξ c + 1))) ∧ cOK s (tSet (tSet ξ (from' + tN ξ c) (nI v)) c (nI (tN ξ c + 1))) := by
  rcases kl with ⟨rfl, -, rfl, rfl, rfl⟩ | ⟨rfl, -, rfl, rfl, rfl⟩ | ⟨rfl, -, rfl, rfl, rfl⟩
  · have n0 : tN (tSet (tSet ξ (1 + tN ξ 0) (nI v)) 0 (nI (tN ξ 0 + 1))) 0 = tN ξ 0 + 1 := by rw [tSet_N, if_pos rfl, nI_clamp (by omega)]
    refine ⟨⟨fun e => by omega, fun _ => by rw [e, if_pos rfl, tSet_at, if_pos rfl], fun e => by omega⟩, fun e => by omega, fun _ => ⟨by rw [n0, tSet_at, if_pos rfl], by rw [n0]; omega⟩, fun e => by omega, fun e => by omega, fun e => by omega⟩
  · have b := hc.2.2.2.1 rfl
    have n0 : tN (tSet (tSet ξ (2 + tN ξ 0) (nI v)) 0 (nI (tN ξ 0 + 1))) 0 = tN ξ 0 + 1 := by rw [tSet_N, if_pos rfl, nI_clamp (by omega)]
    have x1 : tSet (tSet ξ (2 + tN ξ 0) (nI v)) 0 (nI (tN ξ 0 + 1)) 1 = ξ 1 := by rw [tSet_at, if_neg (by omega), tSet_at, if_neg (by omega)]
    have n1 : tN (tSet (tSet ξ (2 + tN ξ 0) (nI v)) 0 (nI (tN ξ 0 + 1))) 1 = tN ξ 1 := by unfold tN at x1 ⊢; rw [x1]
    refine ⟨⟨fun e => by omega, fun _ => by rw [e, if_pos rfl, tSet_at, if_pos rfl], fun _ => by rw [e, if_neg (by omega), if_neg (by omega), x1]; exact h.2.2 rfl⟩, fun e => by omega, fun e => by omega, fun e => by omega, fun _ => ⟨by rw [n0, tSet_at, if_pos rfl], by rw [n0]; omega, by rw [n1, x1]; exact b.2.2.1, by rw [n1]; exact b.2.2.2⟩, fun e => by omega⟩
  · have b := hc.2.2.2.1 rfl
    have n1 : tN (tSet (tSet ξ (6 + tN ξ 1) (nI v)) 1 (nI (tN ξ 1 + 1))) 1 = tN ξ 1 + 1 := by rw [tSet_N, if_pos rfl, nI_clamp (by omega)]
    have x0 : tSet (tSet ξ (6 + tN ξ 1) (nI v)) 1 (nI (tN ξ 1 + 1)) 0 = ξ 0 := by rw [tSet_at, if_neg (by omega), tSet_at, if_neg (by omega)]
    have n0 : tN (tSet (tSet ξ (6 + tN ξ 1) (nI v)) 1 (nI (tN ξ 1 + 1))) 0 = tN ξ 0 := by unfold tN at x0 ⊢; rw [x0]
    refine ⟨⟨fun e => by omega, fun _ => by rw [e, if_neg (by omega), if_neg (by omega), x0]; exact h.2.1 (by omega), fun _ => by rw [e, if_pos rfl, tSet_at, if_pos rfl]⟩, fun e => by omega, fun e => by omega, fun e => by omega, fun _ => ⟨by rw [n0, x0]; exact b.1, by rw [n0]; exact b.2.1, by rw [n1, tSet_at, if_pos rfl], by rw [n1]; omega⟩, fun e => by omega⟩
end MLINES
