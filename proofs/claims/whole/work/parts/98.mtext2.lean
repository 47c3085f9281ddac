/-! The reference is told a text: what it keeps. -/
section MTEXT2
variable {d : Nat} {D : xD} {s : Nat} {g : gS}
theorem mI_rT {D' : xD} {f p : Int32} (hI : mI D g) (r : rT D D') (h3 : D'.1 328 0 = f) (h4 : D'.1 329 0 = p) : mI D' ((g.1.1, (f, p), g.1.2.2), g.2) := by
  obtain ⟨⟨a1, a2, a3, a4, a5, a6⟩, i2, i3, i4⟩ := hI
  obtain ⟨r1, r2⟩ := r
  refine ⟨⟨by rw [(r1 327 (by omega) (by omega) (by omega) (by omega)).1]; exact a1, fun j hj => by rw [(r1 326 (by omega) (by omega) (by omega) (by omega)).1]; exact a2 j hj, h3, h4, fun s hs => by rw [(r1 330 (by omega) (by omega) (by omega) (by omega)).1]; exact a5 s hs, fun s hs j hj i hi => ?_⟩, i2, fun k hk σ hσ => ⟨?_, (i3 k hk σ hσ).2⟩, fun k hk => by rw [(r1 367 (by omega) (by omega) (by omega) (by omega)).1]; exact i4 k hk⟩
  · rw [(r1 (331 + s) (by omega) (by omega) (by omega) (by omega)).1]; exact a6 s hs j hj i hi
  · obtain ⟨b1, b2, b3, b4, b5, b6⟩ := (i3 k hk σ hσ).1
    refine ⟨by rw [(r1 327 (by omega) (by omega) (by omega) (by omega)).1]; exact b1, fun j hj => by rw [(r1 326 (by omega) (by omega) (by omega) (by omega)).1]; exact b2 j hj, by rw [(r2 (k + 1) (by omega)).1]; exact b3, by rw [(r2 (k + 1) (by omega)).2]; exact b4, fun s hs => by rw [(r1 330 (by omega) (by omega) (by omega) (by omega)).1]; exact b5 s hs, fun s hs j hj i hi => ?_⟩
    rw [(r1 (331 + s) (by omega) (by omega) (by omega) (by omega)).1]; exact b6 s hs j hj i hi
theorem rT.k {D' : xD} (r : rT D D') : mK D D' := fun i a => r.1 i (by omega) (by omega) (by omega) (by omega)
/-- a text is kept -/
theorem mI_put {P : xD → Prop} {D1 : xD} {k : Nat} (hs : s < 5) (hk : k < 2) (hkc : k ≤ g.1.2.2.1 s) (hI : mI D (gTx0 g)) (hF : (rd g.1.1 s).1 = none) (tx : txOK s (rd g.1.1 s).2) (told : ∀ i, i < wS s → D.1 336 i = (rd g.1.1 s).2 i) (o1 : mF 330 331 0 0 D D1) (v1 : ∀ j, D1.1 330 j = if j = s then nI (max (g.1.2.2.1 s) (k + 1)) else D.1 330 j)
    (h : ∀ D', mK D D' → mI D' (gTxt g s k) → P D') : xCv (d + 2) m_M_storeAll [.ref 325, .int (nI s), .int (nI k)] D1 P := by
  have eg : gTxt g s k = (((0, g.1.1.2), (0, -1), (fun i => if i = s then max (g.1.2.2.1 s) (k + 1) else g.1.2.2.1 i), fun i j => if i = s ∧ j = k then (rd g.1.1 s).2 else g.1.2.2.2 i j), g.2) := by unfold gTxt; rw [hF]
  rw [eg] at h
  refine c_M_storeAll hs hk (fun D2 o2 v2 => h D2 ?_ ?_)
  · exact (o1.k (by omega)).trans (o2.k (by omega))
  · obtain ⟨⟨a1, a2, a3, a4, a5, a6⟩, i2, i3, i4⟩ := hI
    have c2 := (i2.2.2 s hs).1
    have c2 : g.1.2.2.1 s ≤ 2 := c2
    have s336 : D1.1 336 = D.1 336 := (o1.1 336 (by omega) (by omega)).1
    have v2' : ∀ j, D2.1 (331 + s) j = if wS s * k ≤ j ∧ j < wS s * k + wS s then (rd g.1.1 s).2 (j - wS s * k) else D.1 (331 + s) j := fun j => by
      rw [v2 j, s336, (o1.1 (331 + s) (by omega) (by omega)).1]
      by_cases z : wS s * k ≤ j ∧ j < wS s * k + wS s
      · rw [if_pos z, if_pos z]; exact told _ (by omega)
      · rw [if_neg z, if_neg z]
    have low : ∀ c, c < 330 → c ≠ 325 → D2.1 c = D.1 c := fun c hc hne => by rw [(o2.1 c hne (by omega)).1, (o1.1 c hne (by omega)).1]
    have oth : ∀ s', s' < 5 → s' ≠ s → D2.1 (331 + s') = D.1 (331 + s') := fun s' h' hne => by rw [(o2.1 (331 + s') (by omega) (by omega)).1, (o1.1 (331 + s') (by omega) (by omega)).1]
    have many : ∀ j, D2.1 330 j = if j = s then nI (max (g.1.2.2.1 s) (k + 1)) else D.1 330 j := fun j => by rw [(o2.1 330 (by omega) (by omega)).1]; exact v1 j
    have s367 : D2.1 367 = D.1 367 := by rw [(o2.1 367 (by omega) (by omega)).1, (o1.1 367 (by omega) (by omega)).1]
    have bk : wS s * k + wS s ≤ wS s * 2 := by rw [show wS s * k + wS s = wS s * (k + 1) from rfl]; exact Nat.mul_le_mul_left _ (by omega)
    refine ⟨⟨by rw [low 327 (by omega) (by omega)]; exact a1, fun j hj => absurd hj (Nat.not_lt_zero _), by rw [low 328 (by omega) (by omega)]; exact a3, by rw [low 329 (by omega) (by omega)]; exact a4, fun s' hs' => ?_, fun s' hs' j hj i hi => ?_⟩, ⟨Nat.zero_le _, fun j hj => absurd hj (Nat.not_lt_zero _), fun s' hs' => ?_⟩, fun k' hk' σ hσ => ⟨?_, (i3 k' hk' σ hσ).2⟩, fun k' hk' => by rw [s367]; exact i4 k' hk'⟩
    · rw [many]
      show (if 5 * 0 + s' = s then _ else _) = nI (if s' = s then max (g.1.2.2.1 s) (k + 1) else g.1.2.2.1 s')
      by_cases e : s' = s
      · rw [if_pos (by omega), if_pos e]
      · rw [if_neg (by omega), if_neg e]; exact a5 s' hs'
    · have hj : j < (if s' = s then max (g.1.2.2.1 s) (k + 1) else g.1.2.2.1 s') := hj
      show D2.1 (331 + s') (wS s' * (2 * 0 + j) + i) = (if s' = s ∧ j = k then (rd g.1.1 s).2 else g.1.2.2.2 s' j) i
      by_cases e : s' = s
      · subst e
        rw [if_pos rfl] at hj
        rw [v2', show 2 * 0 + j = j by omega]
        by_cases y : j = k
        · subst y
          rw [if_pos (by omega), if_pos ⟨rfl, rfl⟩, Nat.add_sub_cancel_left]
        · have ap : wS s' * j + wS s' ≤ wS s' * k ∨ wS s' * k + wS s' ≤ wS s' * j := by
            rcases (show j + 1 ≤ k ∨ k + 1 ≤ j by omega) with z | z
            · left; rw [show wS s' * j + wS s' = wS s' * (j + 1) from rfl]; exact Nat.mul_le_mul_left _ z
            · right; rw [show wS s' * k + wS s' = wS s' * (k + 1) from rfl]; exact Nat.mul_le_mul_left _ z
          rw [if_neg (by omega), if_neg (fun z => y z.2)]
          have := a6 s' hs' j (by show j < g.1.2.2.1 s'; omega) i hi
          rw [show 2 * 0 + j = j by omega] at this
          exact this
      · rw [if_neg e] at hj
        rw [oth s' hs' e, if_neg (fun z => e z.1)]
        exact a6 s' hs' j hj i hi
    · have b := i2.2.2 s' hs'
      have b1 : g.1.2.2.1 s' ≤ 2 := b.1
      show (if s' = s then max (g.1.2.2.1 s) (k + 1) else g.1.2.2.1 s') ≤ 2 ∧ ∀ j, j < (if s' = s then max (g.1.2.2.1 s) (k + 1) else g.1.2.2.1 s') → txOK s' (if s' = s ∧ j = k then (rd g.1.1 s).2 else g.1.2.2.2 s' j)
      by_cases e : s' = s
      · subst e
        rw [if_pos rfl]
        refine ⟨by omega, fun j hj => ?_⟩
        by_cases y : j = k
        · rw [if_pos ⟨rfl, y⟩]; exact tx
        · rw [if_neg (fun z => y z.2)]; exact b.2 j (by show j < g.1.2.2.1 s'; omega)
      · rw [if_neg e]
        refine ⟨b1, fun j hj => ?_⟩
        rw [if_neg (fun z => e z.1)]; exact b.2 j hj
    · obtain ⟨b1, b2, b3, b4, b5, b6⟩ := (i3 k' hk' σ hσ).1
      refine ⟨by rw [low 327 (by omega) (by omega)]; exact b1, fun j hj => by rw [low 326 (by omega) (by omega)]; exact b2 j hj, by rw [low 328 (by omega) (by omega)]; exact b3, by rw [low 329 (by omega) (by omega)]; exact b4, fun s' hs' => by rw [many, if_neg (by omega)]; exact b5 s' hs', fun s' hs' j hj i hi => ?_⟩
      by_cases e : s' = s
      · subst e
        have ge : wS s' * 2 ≤ wS s' * (2 * (k' + 1) + j) := Nat.mul_le_mul_left _ (by omega)
        rw [v2', if_neg (by omega)]; exact b6 s' hs' j hj i hi
      · rw [oth s' hs' e]; exact b6 s' hs' j hj i hi
theorem txO_none {σ : sT} {s : Nat} {x : Int32} (h : txO σ s x = none) : slotOf (σ.2.2.1 s) x = none := by
  unfold txO at h
  cases hs : slotOf (σ.2.2.1 s) x with
  | none => rfl
  | some k => rw [hs] at h; cases h
theorem c_M_text {P : Int32 → xD → Prop} {x y : Int32} (hI : mI D g) (h : ∀ D', mK D D' → mI D' (gText g x y) → P (aText g x y) D') : xCi (d + 40) m_M_text [.ref 325, .int x, .int y] D P := by
  have l2 : xl (325 + 2) = 4 := cl_13_2 xk_M
  have l3 : xl (325 + 3) = 4 := cl_13_3 xk_M
  have l4 : xl (325 + 4) = 4 := cl_13_4 xk_M
  have l5 : xl (325 + 5) = 20 := cl_13_5 xk_M
  have z4 : ∀ {n : Nat}, xl n = 4 → vp_in (0 : Int32) (xl n) := fun e => by rw [e]; exact vp_in_nI (n := 0) (by omega) (by omega)
  refine xCi_of y_M_text (Nat.le_of_ble_eq_true rfl) (s_M_text_0 xk_M (fun D1 e1 => ⟨z4 l2, fun D2 e2 => ⟨z4 l2, fun D3 e3 => ⟨z4 l3, fun D4 e4 => ⟨z4 l4, fun D5 e5 => ?_⟩⟩⟩⟩))
  rw [k00] at e2 e3 e4 e5
  obtain ⟨o1, I1⟩ := m_0 hI e1
  obtain ⟨o2, f2⟩ := mf e2
  obtain ⟨o3, v3⟩ := ma (by omega) e3
  obtain ⟨o4, v4⟩ := ma (by omega) e4
  obtain ⟨o5, v5⟩ := ma (by omega) e5
  have v3' : ∀ j, D3.1 327 j = if j = 0 then 0 else D2.1 327 j := v3
  have v4' : ∀ j, D4.1 328 j = if j = 0 then 0 else D3.1 328 j := v4
  have v5' : ∀ j, D5.1 329 j = if j = 0 then -1 else D4.1 329 j := v5
  have o25 : mF 327 330 12 13 D1 D5 := (o2.m (by omega) (by omega)).trans ((o3.m (by omega) (by omega)).trans ((o4.m (by omega) (by omega)).trans (o5.m (by omega) (by omega))))
  have K5 : mK D D5 := o1.k.trans (o25.k (by omega))
  have n6 := I1.2.1.1
  have nb := I1.2.1.2.1
  have s327 : ∀ j, D5.1 327 j = if j = 0 then 0 else D1.1 327 j := fun j => by rw [(o5.1 327 (by omega) (by omega)).1, (o4.1 327 (by omega) (by omega)).1, v3' j, (o2.1 327 (by omega) (by omega)).1]
  have s328 : ∀ j, D5.1 328 j = if j = 0 then 0 else D1.1 328 j := fun j => by rw [(o5.1 328 (by omega) (by omega)).1, v4' j, (o3.1 328 (by omega) (by omega)).1, (o2.1 328 (by omega) (by omega)).1]
  have s329 : ∀ j, D5.1 329 j = if j = 0 then -1 else D1.1 329 j := fun j => by rw [v5' j, (o4.1 329 (by omega) (by omega)).1, (o3.1 329 (by omega) (by omega)).1, (o2.1 329 (by omega) (by omega)).1]
  have I5 : mI D5 (gTx0 g) := by
    obtain ⟨⟨a1, a2, a3, a4, a5, a6⟩, i2, i3, i4⟩ := I1
    refine ⟨⟨by rw [s327, if_pos rfl]; rfl, fun j hj => absurd hj (Nat.not_lt_zero _), by rw [s328, if_pos rfl]; rfl, by rw [s329, if_pos rfl]; rfl, fun s hs => by rw [(o25.1 330 (by omega) (by omega)).1]; exact a5 s hs, fun s hs j hj i hi => ?_⟩, ⟨Nat.zero_le _, fun j hj => absurd hj (Nat.not_lt_zero _), i2.2.2⟩, fun k hk σ hσ => ⟨?_, (i3 k hk σ hσ).2⟩, fun k hk => by rw [(o25.1 367 (by omega) (by omega)).1]; exact i4 k hk⟩
    · rw [(o25.1 (331 + s) (by omega) (by omega)).1]; exact a6 s hs j hj i hi
    · obtain ⟨b1, b2, b3, b4, b5, b6⟩ := (i3 k hk σ hσ).1
      refine ⟨by rw [s327, if_neg (by omega)]; exact b1, fun j hj => by rw [(o25.1 326 (by omega) (by omega)).1]; exact b2 j hj, by rw [s328, if_neg (by omega)]; exact b3, by rw [s329, if_neg (by omega)]; exact b4, fun s hs => by rw [(o25.1 330 (by omega) (by omega)).1]; exact b5 s hs, fun s hs j hj i hi => ?_⟩
      rw [(o25.1 (331 + s) (by omega) (by omega)).1]; exact b6 s hs j hj i hi
  have T5 : mtp D5 g.1.1 := by
    refine ⟨?_, n6, fun j hj => ⟨?_, nb j hj⟩⟩
    · rw [o5.2 12 (by omega), o4.2 12 (by omega), o3.2 12 (by omega), f2]; exact I1.1.1
    · rw [(o25.1 326 (by omega) (by omega)).1]
      have := I1.1.2.1 j hj
      rw [show 600 * 0 + j = j by omega] at this
      exact this
  have K : ∀ {D'}, mK D5 D' → mK D D' := fun k => K5.trans k
  unfold gText aText at h
  refine c_M_in0 5 (by omega) (by decide) (fun q1 => z0 ⟨_, rfl, ?_⟩) (fun s q1 hs hx => z1 ?_)
  · rw [q1] at h; exact h D5 K5 I5
  · subst hx
    simp only [q1] at h
    have c2 : g.1.2.2.1 s ≤ 2 := (I1.2.1.2.2 s hs).1
    -- behind the reading
    have rdn : ∀ k, k < 2 → k ≤ g.1.2.2.1 s → (∀ D', mK D D' → mI D' (gTxt g s k) → P (aTxt g s k) D') → ∀ Q : Int32 → xD → Prop, (∀ D10, mI D10 (gTx0 g) → mK D D10 → (rd g.1.1 s).1 = none → txOK s (rd g.1.1 s).2 → (∀ i, i < wS s → D10.1 336 i = (rd g.1.1 s).2 i) → (∀ D', mK D D' → mI D' (gTxt g s k) → P (nI k) D') → Q 1 D10) → (∀ D10, P (-1) D10 → Q 0 D10) → xCi (d + 39) m_M_readText [.ref 325, .int (nI s)] D5 Q := by
      intro k hk hkc hh Q hq1 hq0
      refine c_M_readText hs T5 (fun D10 r a1 a2 a3 => ?_)
      have I10 := mI_rT I5 r a1 a2
      cases hF : (rd g.1.1 s).1 with
      | none =>
        rw [if_pos rfl]
        rw [hF] at I10
        have ea : aTxt g s k = nI k := by unfold aTxt; rw [hF]
        rw [ea] at hh
        exact hq1 D10 I10 (K r.k) hF (a3 hF).2 (a3 hF).1 hh
      | some f =>
        rw [if_neg (fun y => by cases y)]
        rw [hF] at I10
        have eg : gTxt g s k = (((0, g.1.1.2), (nI f.1, nI f.2), g.1.2.2), g.2) := by unfold gTxt; rw [hF]
        have ea : aTxt g s k = -1 := by unfold aTxt; rw [hF]
        rw [eg, ea] at hh
        exact hq0 D10 (hh D10 (K r.k) I10)
    have i5 : vp_in (nI s) (xl (325 + 5)) := by rw [l5]; exact vp_in_nI (by omega) (by omega)
    have cm : ∀ D', mI D' (gTx0 g) → D'.1 (325 + 5) s = nI (g.1.2.2.1 s) := fun D' I => by
      have := I.1.2.2.2.2.1 s hs
      rw [show 5 * 0 + s = s by omega] at this
      exact this
    rw [nI_clamp (by omega)]
    refine ⟨fun c => ?_, fun c => ⟨i5, ?_⟩⟩
    · have et : txSlot (g.1.2.2.1 s) y = slotOf (g.1.2.2.1 s) y := if_neg c
      rw [et] at h
      refine c_M_is I5 hs (fun q2 => z0' ⟨_, rfl, ?_⟩) (fun k hk hk2 hy q2 => z1' ?_)
      · have q3 : slotOf (g.1.2.2.1 s) y = none := txO_none q2
        rw [q3] at h; exact h D5 K5 I5
      · have hk : k < g.1.2.2.1 s := hk
        subst hy
        rw [slot_nI hk (by omega)] at h
        refine rdn k hk2 (by omega) h _ (fun D10 I10 K10 hF tx told hh => z1' ⟨fun _ => ⟨i5, fun _ => ⟨i5, fun D12 e12 => ?_⟩, fun z => absurd z c⟩, fun z => absurd z c⟩) (fun D10 hp => z0' ⟨_, rfl, hp⟩)
        obtain ⟨o12, v12⟩ := ma (by omega) e12
        refine mI_put hs hk2 (by omega) I10 hF tx told (o12.m (by omega) (by omega)) (fun j => ?_) (fun D' kk I' => ⟨_, rfl, hh D' (K10.trans kk) I'⟩)
        have := v12 j
        rw [cm D10 I10, show nI (g.1.2.2.1 s) + (0 : Int32) = nI (g.1.2.2.1 s + 0) from nI_add _ 0, Nat.add_zero] at this
        rw [show max (g.1.2.2.1 s) (k + 1) = g.1.2.2.1 s by omega]
        exact this
    · have et : txSlot (g.1.2.2.1 s) y = if g.1.2.2.1 s < 2 then some (g.1.2.2.1 s) else none := if_pos c
      rw [et] at h
      rw [cm D5 I5, show nI (g.1.2.2.1 s) = (2 : Int32) ↔ g.1.2.2.1 s = 2 from nI_eq (b := 2) (by omega) (by omega)]
      refine ⟨fun c3 => ?_, fun c3 => ⟨_, rfl, ?_⟩⟩
      · have lt2 : g.1.2.2.1 s < 2 := by omega
        rw [if_pos lt2] at h
        refine rdn (g.1.2.2.1 s) lt2 (Nat.le_refl _) h _ (fun D10 I10 K10 hF tx told hh => z1' ⟨fun z => absurd c z, fun _ => ⟨i5, i5, fun z => absurd c z, fun _ => ⟨i5, fun D12 e12 => ?_⟩⟩⟩) (fun D10 hp => z0' ⟨_, rfl, hp⟩)
        obtain ⟨o12, v12⟩ := ma (by omega) e12
        rw [cm D10 I10]
        refine mI_put hs lt2 (Nat.le_refl _) I10 hF tx told (o12.m (by omega) (by omega)) (fun j => ?_) (fun D' kk I' => ⟨_, rfl, hh D' (K10.trans kk) I'⟩)
        have := v12 j
        rw [cm D10 I10, nI_1] at this
        rw [show max (g.1.2.2.1 s) (g.1.2.2.1 s + 1) = g.1.2.2.1 s + 1 by omega]
        exact this
      · rw [if_neg (by omega)] at h; exact h D5 K5 I5
end MTEXT2
