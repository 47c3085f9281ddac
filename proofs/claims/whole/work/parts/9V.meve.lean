/-! The reference: an evening. -/
theorem nodup_getD {l : List Nat} (h : l.Nodup) {i j : Nat} (hi : i < l.length) (hj : j < l.length) (e : l.getD i 0 = l.getD j 0) : i = j :=
  (List.getElem?_inj hi h).mp (by rw [getD_at hi, getD_at hj, e])
theorem getD_erase {l : List Nat} {q j : Nat} : (l.eraseIdx q).getD j 0 = if j < q then l.getD j 0 else l.getD (j + 1) 0 := by
  rw [List.getD_eq_getElem?_getD, List.getElem?_eraseIdx]
  split
  · rw [List.getD_eq_getElem?_getD]
  · rw [List.getD_eq_getElem?_getD]
theorem mem_erase_ne {l : List Nat} {q c : Nat} (h : l.Nodup) (hq : q < l.length) (hc : c ∈ l.eraseIdx q) : c ≠ l.getD q 0 := by
  obtain ⟨i, hi, e⟩ := List.mem_eraseIdx_iff_getElem?.mp hc
  intro z
  have il : i < l.length := (List.getElem?_eq_some_iff.mp e).1
  exact hi (nodup_getD h il hq (by rw [List.getD_eq_getElem?_getD, e]; exact z))
/-- what an evening changes -/
def mEO (D D' : xD) : Prop := (∀ i, i ≠ 325 → (i < 338 ∨ 357 < i) → D'.1 i = D.1 i ∧ D'.2 i = D.2 i) ∧ ∀ j, (j < 31 ∨ 65 < j) → D'.1 325 j = D.1 325 j
theorem mEO.rfl' {D : xD} : mEO D D := ⟨fun _ _ _ => ⟨rfl, rfl⟩, fun _ _ => rfl⟩
theorem mEO.trans {D D1 D2 : xD} (h1 : mEO D D1) (h2 : mEO D1 D2) : mEO D D2 :=
  ⟨fun i a b => ⟨((h2.1 i a b).1).trans (h1.1 i a b).1, ((h2.1 i a b).2).trans (h1.1 i a b).2⟩, fun j a => (h2.2 j a).trans (h1.2 j a)⟩
theorem mEO.o {D D' : xD} (h : mEO D D') : mO D D' := fun i a b => h.1 i a (by omega)
theorem mF.eo {lo hi f g : Nat} {D D1 : xD} (h : mF lo hi f g D D1) (q1 : ∀ i, i < 338 ∨ 357 < i → i < lo ∨ hi ≤ i) (q2 : ∀ j, j < 31 ∨ 65 < j → j < f ∨ g ≤ j) : mEO D D1 := ⟨fun i a b => h.1 i a (q1 i b), fun j a => h.2 j (q2 j a)⟩
theorem mSh.eo {D D' : xD} (h : mSh D D') : mEO D D' := ⟨fun i a b => h.1 i a (by omega), fun j a => h.2 j (by omega) (by omega)⟩
theorem mRd.eo {D D' : xD} (h : mRd D D') : mEO D D' := ⟨fun i a b => h.1 i a (by omega) (by omega) (by omega), fun j a => h.2 j (by omega)⟩
/-- an evening on its way -/
def mEv (D : xD) (τ : Nat → Int32) (s : nS) : Prop :=
  mH D τ ∧ mWho D s.2.2.2.1.length (fun i => s.2.2.2.1.getD i 0) ∧ mSit D (nTab τ s.2.2.2.1) ∧ (∀ q, q < tN τ 5 → D.1 352 q = nI (s.2.1 q)) ∧ (∀ q, q < tN τ 5 → D.1 355 q = oI (s.2.2.1 q)) ∧ D.1 325 61 = nI s.2.2.2.2.1 ∧ D.1 325 62 = oI s.2.2.2.2.2
/-- what holds of one -/
def nV (τ : Nat → Int32) (i : Nat) (s : nS) : Prop :=
  (∀ c, c ∈ s.2.2.2.1 → c < tN τ 5) ∧ s.2.2.2.1.length ≤ tN τ 5 ∧ s.2.2.2.1.Nodup ∧ (∀ c, c ∈ s.2.2.2.1 → s.2.1 c < tN τ 3) ∧ (∀ c, s.2.1 c ≤ tN τ 3) ∧ sm s.2.1 (tN τ 5) = i ∧ s.2.2.2.2.1 = i ∧ ∀ g, s.2.2.2.2.2 = some g → g < tN τ 5
theorem nV_let {τ : Nat → Int32} {i q : Nat} {x : Int32} {s : nS} (h : nV τ i s) (hq : q < s.2.2.2.1.length) : nV τ (i + 1) (nLet τ x s q) := by
  obtain ⟨h1, h2, h3, h4, h5, h6, h7, h8⟩ := h
  have hm := getD_mem hq
  have hN := h1 _ hm
  have hL := h4 _ hm
  have hs : sm (fun i => if i = s.2.2.2.1.getD q 0 then s.2.1 i + 1 else s.2.1 i) (tN τ 5) = i + 1 := by
    have a := sm_at s.2.1 (j := s.2.2.2.1.getD q 0) (n := tN τ 5) (v := s.2.1 (s.2.2.2.1.getD q 0) + 1) hN
    have e : sm (fun i => if i = s.2.2.2.1.getD q 0 then s.2.1 i + 1 else s.2.1 i) (tN τ 5) = sm (fun i => if i = s.2.2.2.1.getD q 0 then s.2.1 (s.2.2.2.1.getD q 0) + 1 else s.2.1 i) (tN τ 5) := sm_congr (fun i _ => by
      by_cases z : i = s.2.2.2.1.getD q 0
      · rw [if_pos z, if_pos z, z]
      · rw [if_neg z, if_neg z])
    rw [e]; omega
  have hb : ∀ c, (if c = s.2.2.2.1.getD q 0 then s.2.1 c + 1 else s.2.1 c) ≤ tN τ 3 := fun c => by
    by_cases z : c = s.2.2.2.1.getD q 0
    · rw [if_pos z, z]; omega
    · rw [if_neg z]; exact h5 c
  unfold nLet
  by_cases y : s.2.1 (s.2.2.2.1.getD q 0) + 1 < tN τ 3
  · rw [if_pos y]
    refine ⟨h1, h2, h3, fun c hc => ?_, hb, hs, by show s.2.2.2.2.1 + 1 = _; rw [h7], h8⟩
    show (if c = s.2.2.2.1.getD q 0 then s.2.1 c + 1 else s.2.1 c) < tN τ 3
    by_cases z : c = s.2.2.2.1.getD q 0
    · rw [if_pos z, z]; exact y
    · rw [if_neg z]; exact h4 c hc
  · rw [if_neg y]
    refine ⟨fun c hc => h1 c (List.mem_of_mem_eraseIdx hc), ?_, List.Nodup.eraseIdx q h3, fun c hc => ?_, hb, hs, by show s.2.2.2.2.1 + 1 = _; rw [h7], fun g hg => ?_⟩
    · show (s.2.2.2.1.eraseIdx q).length ≤ _
      rw [List.length_eraseIdx, if_pos hq]; omega
    · show (if c = s.2.2.2.1.getD q 0 then s.2.1 c + 1 else s.2.1 c) < tN τ 3
      rw [if_neg (mem_erase_ne h3 hq hc)]
      exact h4 c (List.mem_of_mem_eraseIdx hc)
    · have hg : (if s.2.2.2.2.2 = none then some (s.2.2.2.1.getD q 0) else s.2.2.2.2.2) = some g := hg
      split at hg
      · cases hg; exact hN
      · exact h8 g hg
section MEVE
variable {d : Nat} {D : xD} {g : gS} {τ : Nat → Int32} {s : nS}
theorem c_M_letter {P : xD → Prop} {i q : Nat} {x : Int32} (hT : tOK τ) (V : mEv D τ s) (e56 : D.1 325 56 = nI q) (hq : q < s.2.2.2.1.length) (hV : nV τ i s) (hi : i < 2 ^ 20)
    (h : ∀ D', mEO D D' → D'.1 325 59 = D.1 325 59 → mEv D' τ (nLet τ x s q) → P D') : xCv (d + 4) m_M_letter [.ref 325] D P := by
  have l13 : xl (325 + 13) = 6 := cl_13_32 xk_M
  have l27 : xl (325 + 27) = 6 := cl_13_52 xk_M
  have l30 : xl (325 + 30) = 6 := cl_13_60 xk_M
  have hN := hT.2.2.2.2.2.2.1
  obtain ⟨h1, h2, h3, h4, h5, h6, h7, h8⟩ := hV
  obtain ⟨H, W, S, vl, vo, v61, v62⟩ := V
  have b3 := hT.2.2.2.2.1
  have hm := getD_mem hq
  generalize ec : s.2.2.2.1.getD q 0 = c at hm
  have hcN := h1 _ hm
  have hcL := h4 _ hm
  have w13 : ∀ j, j < s.2.2.2.1.length → D.1 (325 + 13) j = nI (s.2.2.2.1.getD j 0) := fun j hj => W j hj
  refine xCv_of y_M_letter (Nat.le_of_ble_eq_true rfl) (s_M_letter_0 xk_M ?_)
  rw [e56, nI_clamp (n := q) (by omega), w13 q hq, ec, nI_clamp (n := c) (by omega), show D.1 (325 + 27) c = nI (s.2.1 c) from vl c hcN, nI_1]
  have i27 : vp_in (nI c) (xl (325 + 27)) := by rw [l27]; exact vp_in_nI (by omega) (by omega)
  refine ⟨by rw [l13]; exact vp_in_nI (by omega) (by omega), i27, i27, fun D1 e1 D2 e2 => ⟨i27, ?_⟩⟩
  obtain ⟨o1, v1⟩ := ma (by omega) e1
  obtain ⟨o2, f2⟩ := mf e2
  have v1' : ∀ j, D2.1 352 j = if j = c then nI (s.2.1 c + 1) else D.1 352 j := fun j => by rw [(o2.1 352 (by omega) (by omega)).1]; exact v1 j
  have o12 : mF 352 353 61 62 D D2 := (o1.m (by omega) (by omega)).trans (o2.m (by omega) (by omega))
  rw [o1.2 61 (by omega), v61, nI_1] at f2
  have H2 := H.fr o12 (by omega) (by omega)
  have W2 := W.fr o12 (by omega)
  have S2 := S.fr o12 (by omega) (by omega)
  have f62 : D2.1 325 62 = oI s.2.2.2.2.2 := by rw [o12.2 62 (by omega)]; exact v62
  have e59 : D2.1 325 59 = D.1 325 59 := o12.2 59 (by omega)
  have vl2 : ∀ p, p < tN τ 5 → D2.1 352 p = nI (if p = c then s.2.1 p + 1 else s.2.1 p) := fun p hp => by
    rw [v1']
    by_cases z : p = c
    · rw [if_pos z, if_pos z, z]
    · rw [if_neg z, if_neg z]; exact vl p hp
  obtain ⟨⟨t, T⟩, -⟩ := id H2
  refine c_M_of (j := 3) T (by omega) ?_
  rw [show D2.1 (325 + 27) c = nI (s.2.1 c + 1) from by rw [show (325 + 27 : Nat) = 352 from rfl, v1', if_pos rfl], hT.1 3 (by omega)]
  refine ⟨fun z => ⟨rfl, ?_⟩, fun z => ?_⟩
  · have ne : s.2.1 c + 1 ≠ tN τ 3 := fun y => z (by rw [y])
    refine h D2 (o12.eo (by omega) (by omega)) e59 ?_
    unfold nLet
    rw [ec, if_pos (show s.2.1 c + 1 < tN τ 3 by omega)]
    exact ⟨H2, W2, S2, vl2, fun p hp => by rw [(o12.1 355 (by omega) (by omega)).1]; exact vo p hp, f2, f62⟩
  · have eL : s.2.1 c + 1 = tN τ 3 := (nI_eq (by omega) (by omega)).mp z
    rw [f2, nI_pred]
    refine ⟨by rw [l30]; exact vp_in_nI (by omega) (by omega), fun D5 e5 => ?_⟩
    obtain ⟨o5, v5⟩ := ma (by omega) e5
    have v5' : ∀ j, D5.1 355 j = if j = c then nI s.2.2.2.2.1 else D2.1 355 j := v5
    -- who is left
    have left : ∀ D6, mF 0 0 62 63 D5 D6 → D6.1 325 62 = oI (if s.2.2.2.2.2 = none then some c else s.2.2.2.2.2) → xPf (d + 4) m_M_letter 80 [(0, .ref 325), (1, .int (nI c)), (2, .int (0 : Int32)), (3, .int (0 : Int32))] [] D6 (fun r D' => r = none ∧ P D') := by
      intro D6 o6 f6
      have o26 : mF 355 356 62 63 D2 D6 := (o5.m (by omega) (by omega)).trans (o6.m (by omega) (by omega))
      have H6 := H2.fr o26 (by omega) (by omega)
      have W6 := W2.fr o26 (by omega)
      have S6 := S2.fr o26 (by omega) (by omega)
      have s31 : D6.1 325 31 = nI s.2.2.2.1.length := by rw [S6.1]; exact congrArg nI (tSeats_5 _ _ (by omega))
      have key : ∀ m k, k + m = s.2.2.2.1.length → ∀ n, n = (if k ≤ q then k else k - 1) → ∀ D', mF 338 339 0 0 D6 D' → (∀ j, j < n → D'.1 338 j = nI ((s.2.2.2.1.eraseIdx q).getD j 0)) → (∀ j, k ≤ j → j < s.2.2.2.1.length → D'.1 338 j = nI (s.2.2.2.1.getD j 0)) →
          xPf (d + 4) m_M_letter 80 [(0, .ref 325), (1, .int (nI c)), (2, .int (nI n)), (3, .int (nI k))] [] D' (fun r D' => r = none ∧ P D') := by
        intro m
        induction m with
        | zero =>
          intro k hk n hn D' o hv hr
          have en : n = (s.2.2.2.1.eraseIdx q).length := by rw [List.length_eraseIdx, if_pos hq, hn, if_neg (by omega)]; omega
          have H' := H6.fr o (by omega) (by omega)
          have n6 : n ≤ 6 := by
            have := List.length_eraseIdx_le s.2.2.2.1 q
            omega
          obtain ⟨⟨t', T'⟩, -⟩ := id H'
          have wm : mWho D' n (fun j => (s.2.2.2.1.eraseIdx q).getD j 0) := hv
          refine s_M_letter_80 xk_M ?_
          rw [o.2 31 (by omega), s31]
          have lt6 : ∀ j, j < n → (s.2.2.2.1.eraseIdx q).getD j 0 < 6 := fun j hj => by
            have := h1 _ (List.mem_of_mem_eraseIdx (getD_mem (l := s.2.2.2.1.eraseIdx q) (i := j) (by omega)))
            omega
          refine ⟨fun _ => c_M_sit T' n6 wm lt6 (fun D7 o7 S7 => ⟨rfl, ?_⟩), fun y => absurd (nI_le (by omega) (by omega)) y⟩
          have all : mF 338 356 31 63 D2 D7 := (o26.m (by omega) (by omega)).trans ((o.m (by omega) (by omega)).trans (o7.m (by omega) (by omega)))
          refine h D7 ((o12.eo (by omega) (by omega)).trans (all.eo (by omega) (by omega))) (by rw [o7.2 59 (by omega), o.2 59 (by omega), o26.2 59 (by omega)]; exact e59) ?_
          unfold nLet
          rw [ec, if_neg (show ¬ s.2.1 c + 1 < tN τ 3 by omega)]
          refine ⟨H'.fr o7 (by omega) (by omega), ?_, ?_, fun p hp => ?_, fun p hp => ?_, ?_, ?_⟩
          · show mWho D7 (s.2.2.2.1.eraseIdx q).length _
            rw [← en]; exact wm.fr o7 (by omega)
          · show mSit D7 (tSeats τ (fun i => (s.2.2.2.1.eraseIdx q).getD i 0) (s.2.2.2.1.eraseIdx q).length)
            rw [← en]; exact S7
          · rw [(o7.1 352 (by omega) (by omega)).1, (o.1 352 (by omega) (by omega)).1, (o26.1 352 (by omega) (by omega)).1]; exact vl2 p hp
          · show D7.1 355 p = oI (if p = c then some s.2.2.2.2.1 else s.2.2.1 p)
            rw [(o7.1 355 (by omega) (by omega)).1, (o.1 355 (by omega) (by omega)).1, (o6.1 355 (by omega) (by omega)).1, v5']
            by_cases y : p = c
            · rw [if_pos y, if_pos y]; rfl
            · rw [if_neg y, if_neg y, (o12.1 355 (by omega) (by omega)).1]; exact vo p hp
          · rw [o7.2 61 (by omega), o.2 61 (by omega), o26.2 61 (by omega)]; exact f2
          · rw [o7.2 62 (by omega), o.2 62 (by omega)]; exact f6
        | succ m ih =>
          intro k hk n hn D' o hv hr
          have hkl : k < s.2.2.2.1.length := by omega
          have hck := h1 _ (getD_mem hkl)
          have nk : n ≤ k := by rw [hn]; split <;> omega
          have wk : D'.1 (325 + 13) k = nI (s.2.2.2.1.getD k 0) := hr k (Nat.le_refl _) hkl
          refine s_M_letter_80 xk_M ?_
          rw [o.2 31 (by omega), s31, nI_clamp (n := k) (by omega), nI_clamp (n := n) (by omega), wk, nI_1, nI_1]
          have i13 : ∀ j, j < 6 → vp_in (nI j) (xl (325 + 13)) := fun j hj => by rw [l13]; exact vp_in_nI hj (by omega)
          refine ⟨fun y => absurd y (nI_ge (by omega) (by omega)), fun _ => ⟨i13 k (by omega), fun y => ?_, fun y => ⟨i13 k (by omega), i13 n (by omega), fun D7 e7 => ?_⟩⟩⟩
          · have e := (nI_eq (by omega) (by omega)).mp y
            have ekq : k = q := nodup_getD h3 hkl hq (by rw [e, ec])
            refine ih (k + 1) (by omega) n (by rw [hn, if_pos (by omega), if_neg (by omega)]; omega) D' o hv (fun j hj hjl => hr j (by omega) hjl)
          · have nkq : k ≠ q := fun w => y (by rw [w, ec])
            obtain ⟨o7, v7⟩ := ma (by omega) e7
            have v7' : ∀ j, D7.1 338 j = if j = n then nI (s.2.2.2.1.getD k 0) else D'.1 338 j := v7
            refine ih (k + 1) (by omega) (n + 1) ?_ D7 (o.trans o7) (fun j hj => ?_) (fun j hj hjl => ?_)
            · rw [hn]
              by_cases w : k ≤ q
              · rw [if_pos w, if_pos (by omega)]
              · rw [if_neg w, if_neg (by omega)]; omega
            · rw [v7']
              by_cases w : j = n
              · rw [if_pos w, w, getD_erase, hn]
                by_cases u : k ≤ q
                · rw [if_pos u, if_pos (by omega)]
                · rw [if_neg u, if_neg (by omega), show k - 1 + 1 = k by omega]
              · rw [if_neg w]; exact hv j (by omega)
            · rw [v7', if_neg (by omega)]; exact hr j (by omega) hjl
      exact key s.2.2.2.1.length 0 (by omega) 0 (by rw [if_pos (Nat.zero_le _)]) D6 mF.rfl' (fun j hj => absurd hj (Nat.not_lt_zero _)) (fun j _ hj => W6 j hj)
    have a62 : D5.1 325 62 = oI s.2.2.2.2.2 := by rw [o5.2 62 (by omega)]; exact f62
    have oin : oI s.2.2.2.2.2 = -1 ↔ s.2.2.2.2.2 = none := oI_iff (fun p hp => by have := h8 p hp; omega)
    refine ⟨fun y D6 e6 => ?_, fun y D6 e6 => ?_⟩
    · obtain ⟨o6, f6⟩ := mf e6
      refine left D6 o6 ?_
      rw [f6, a62, if_neg]
      exact fun w => y (by rw [a62]; exact oin.mpr w)
    · obtain ⟨o6, f6⟩ := mf e6
      refine left D6 o6 ?_
      rw [a62] at y
      rw [f6, if_pos (oin.mp y)]; rfl
end MEVE
