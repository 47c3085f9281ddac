/-! A text is told to the object. -/
def txSlot (c : Nat) (x : Int32) : Option Nat := if x = -1 then (if c < 2 then some c else none) else slotOf c x
def gTx0 (g : gS) : gS := (((0, g.1.1.2), (0, -1), g.1.2.2), g.2)
noncomputable def gTxt (g : gS) (s k : Nat) : gS := match (rd g.1.1 s).1 with
  | none => (((0, g.1.1.2), (0, -1), (fun i => if i = s then max (g.1.2.2.1 s) (k + 1) else g.1.2.2.1 i), fun i j => if i = s ∧ j = k then (rd g.1.1 s).2 else g.1.2.2.2 i j), g.2)
  | some f => (((0, g.1.1.2), (nI f.1, nI f.2), g.1.2.2), g.2)
noncomputable def aTxt (g : gS) (s k : Nat) : Int32 := match (rd g.1.1 s).1 with
  | none => nI k
  | some _ => -1
noncomputable def gText (g : gS) (x y : Int32) : gS := match slotOf 5 x with
  | none => gTx0 g
  | some s => match txSlot (g.1.2.2.1 s) y with
    | none => gTx0 g
    | some k => gTxt g s k
noncomputable def aText (g : gS) (x y : Int32) : Int32 := match slotOf 5 x with
  | none => -2
  | some s => match txSlot (g.1.2.2.1 s) y with
    | none => -2
    | some k => aTxt g s k
section TEXT
variable {d : Nat} {D : xD} {g : gS}
theorem cI_f {D' : xD} {f p : Int32} {n : Nat} (hI : cI D g) (o : xOut 1 3 D D') (h3 : D'.1 1 3 = f) (h4 : D'.1 1 4 = p) (hr : rS D' 2 n) (hn : n ≤ g.1.1.1) : cI D' (((n, g.1.1.2), (f, p), g.1.2.2), g.2) := by
  obtain ⟨i1, i2, i3, i4, i5, i6⟩ := hI
  obtain ⟨t1, t2, t3, t4, t5, t6, t7, t8⟩ := i1
  have n6 := i2.1
  refine ⟨⟨t1, hr, fun j hj => ?_, h3, h4, t6.out o (by omega), fun s hs => by rw [o.1 _ (by omega)]; exact t7 s hs, fun s hs k hk => (t8 s hs k hk).out o (by omega)⟩, ⟨by show n ≤ 600; omega, fun j hj => ?_, i2.2.2⟩, fun k hk σ hσ => ⟨(i3 k hk σ hσ).1.out (i3 k hk σ hσ).2 o (by omega), (i3 k hk σ hσ).2⟩, i4.out o (by omega), fun k hk => by rw [o.1 _ (by omega)]; exact i5 k hk, i6.out o (by omega)⟩
  · have hj : j < n := hj
    rw [o.1 _ (by omega)]; exact t3 j (by omega)
  · have hj : j < n := hj
    exact i2.2.1 j (by omega)
theorem cI_k {D' : xD} {σ : sT} (hI : cI D g) (o : xOut 2 45 D D') (ht : dT D' 1 σ) (hs : sOK σ) : cI D' (σ, g.2) := by
  obtain ⟨i1, i2, i3, i4, i5, i6⟩ := hI
  exact ⟨ht, hs, fun k hk σ hσ => ⟨(i3 k hk σ hσ).1.out (i3 k hk σ hσ).2 o (by omega), (i3 k hk σ hσ).2⟩, i4.out o (by omega), fun k hk => by rw [o.1 _ (by omega)]; exact i5 k hk, i6.out o (by omega)⟩
theorem tx_exit {P : Int32 → xD → Prop} {D4 : xD} (o : xOut 1 2 D D4) (hI : cI D4 ((g.1.1, (0, -1), g.1.2.2), g.2)) (h : ∀ D', xOut 0 325 D D' → cI D' (gTx0 g) → P (-2) D') : xCv (d + 39) m_Row_clear [.ref 2] D4 (fun D5 => ∃ v, some (Value.int (-2 : Int32)) = some (.int v) ∧ P v D5) := by
  refine c_clear (ck_1_0 xk_1) (fun D5 o5 w5 => ⟨_, rfl, h D5 ((o.mono (by omega) (by omega)).trans (o5.mono (by omega) (by omega))) ?_⟩)
  have f3 : D5.1 1 3 = 0 := by rw [o5.1 1 (by omega)]; exact hI.1.2.2.2.1
  have f4 : D5.1 1 4 = -1 := by rw [o5.1 1 (by omega)]; exact hI.1.2.2.2.2.1
  exact cI_f (g := ((g.1.1, (0, -1), g.1.2.2), g.2)) (n := 0) hI (o5.mono (by omega) (by omega)) f3 f4 w5 (Nat.zero_le _)
theorem tx_read {P : Int32 → xD → Prop} {D4 : xD} {s k : Nat} (hs : s < 5) (hk : k < 2) (hkc : k ≤ g.1.2.2.1 s) (o : xOut 1 2 D D4) (hI : cI D4 ((g.1.1, (0, -1), g.1.2.2), g.2)) (h : ∀ D', xOut 0 325 D D' → cI D' (gTxt g s k) → P (aTxt g s k) D') :
    xCv (d + 39) m_Reader_read [.ref 180, .ref 2, .int (nI s)] D4 (fun D8 => xCv (d + 39) m_Row_clear [.ref 2] D8 (fun D9 => ∀ D10 : xD, D10 = (xu D9.1 1 3 (D9.1 180 9), D9.2) → ∀ D11 : xD, D11 = (xu D10.1 1 4 (D10.1 180 10), D10.2) →
      ((D11.1 1 3) = 0 → xCv (d + 39) m_Told_keep [.ref 1, .int (nI s), .int (nI k), .ref 183] D11 (fun D12 => ∃ v, some (Value.int (nI k)) = some (.int v) ∧ P v D12)) ∧ (¬ (D11.1 1 3) = 0 → ∃ v, some (Value.int (-1 : Int32)) = some (.int v) ∧ P v D11))) := by
  obtain ⟨i1, i2, i3, i4, i5, i6⟩ := id hI
  obtain ⟨t1, t2, t3, t4, t5, t6, t7, t8⟩ := id i1
  obtain ⟨n6, nb, ntx⟩ := id i2
  refine c_read (n := g.1.1.1) (v := g.1.1.2) xk_180 hs t2 n6 (fun j hj => ⟨t3 j hj, nb j hj⟩) (fun D8 o8 r8 => c_clear (ck_1_0 xk_1) (fun D9 o9 w9 D10 e10 D11 e11 => ?_))
  obtain ⟨r1, r2, r3, r4⟩ := r8
  have I8 : cI D8 ((g.1.1, (0, -1), g.1.2.2), g.2) := hI.work o8 (by omega) (i6.out o8 (by omega))
  obtain ⟨oA, fA⟩ := fld e10
  obtain ⟨oB, fB⟩ := fld e11
  have e9 : D9.1 180 = D8.1 180 := o9.1 _ (by omega)
  have e10' : D10.1 180 = D8.1 180 := by rw [oA.1 _ (by omega)]; exact e9
  rw [e9, r1] at fA
  rw [e10', r2] at fB
  have v3 : D11.1 1 3 = fI (rd g.1.1 s).1 := by rw [fB, if_neg (by omega), fA, if_pos rfl]
  have v4 : D11.1 1 4 = fP (rd g.1.1 s).1 := by rw [fB, if_pos rfl]
  have o811 : xOut 1 3 D8 D11 := (o9.mono (by omega) (by omega)).trans ((oA.mono (by omega) (by omega)).trans (oB.mono (by omega) (by omega)))
  have o11 : xOut 0 325 D D11 := (o.mono (by omega) (by omega)).trans ((o8.mono (by omega) (by omega)).trans (o811.mono (by omega) (by omega)))
  have I11 : cI D11 (((0, g.1.1.2), (fI (rd g.1.1 s).1, fP (rd g.1.1 s).1), g.1.2.2), g.2) := cI_f (g := ((g.1.1, (0, -1), g.1.2.2), g.2)) (n := 0) I8 o811 v3 v4 ((w9.out oA (by omega)).out oB (by omega)) (Nat.zero_le _)
  rw [v3]
  cases hF : (rd g.1.1 s).1 with
  | none =>
    have s183 : shR D11 183 s (rd g.1.1 s).2 := (r3 hF).1.out o811 (by omega)
    have tx : txOK s (rd g.1.1 s).2 := (r3 hF).2
    have eg : gTxt g s k = (((0, g.1.1.2), (0, -1), (fun i => if i = s then max (g.1.2.2.1 s) (k + 1) else g.1.2.2.1 i), fun i j => if i = s ∧ j = k then (rd g.1.1 s).2 else g.1.2.2.2 i j), g.2) := by unfold gTxt; rw [hF]
    have ea : aTxt g s k = nI k := by unfold aTxt; rw [hF]
    rw [eg, ea] at h
    rw [hF] at I11
    refine ⟨fun _ => c_Told_keep I11.1 I11.2.1 (ck_6_1 xk_180) hs hk hkc s183 tx (by omega) (fun D12 o12 d12 => ⟨_, rfl, h D12 (o11.trans (o12.mono (by omega) (by omega))) (cI_k (g := (((0, g.1.1.2), (fI none, fP none), g.1.2.2), g.2)) I11 o12 d12 ?_)⟩), fun z => absurd rfl z⟩
    refine ⟨Nat.zero_le _, fun j hj => absurd hj (Nat.not_lt_zero _), fun i hi => ?_⟩
    have b := ntx i hi
    have b1 : g.1.2.2.1 i ≤ 2 := b.1
    by_cases e : i = s
    · subst e
      show (if i = i then max (g.1.2.2.1 i) (k + 1) else g.1.2.2.1 i) ≤ 2 ∧ ∀ j, j < (if i = i then max (g.1.2.2.1 i) (k + 1) else g.1.2.2.1 i) → txOK i (if i = i ∧ j = k then (rd g.1.1 i).2 else g.1.2.2.2 i j)
      rw [if_pos rfl]
      refine ⟨by omega, fun j hj => ?_⟩
      by_cases z : j = k
      · rw [if_pos ⟨rfl, z⟩]; exact tx
      · rw [if_neg (fun y => z y.2)]; exact b.2 j (by show j < g.1.2.2.1 i; omega)
    · show (if i = s then max (g.1.2.2.1 s) (k + 1) else g.1.2.2.1 i) ≤ 2 ∧ ∀ j, j < (if i = s then max (g.1.2.2.1 s) (k + 1) else g.1.2.2.1 i) → txOK i (if i = s ∧ j = k then (rd g.1.1 s).2 else g.1.2.2.2 i j)
      rw [if_neg e]
      refine ⟨b1, fun j hj => ?_⟩
      rw [if_neg (fun y => e y.1)]; exact b.2 j hj
  | some f =>
    have eg : gTxt g s k = (((0, g.1.1.2), (nI f.1, nI f.2), g.1.2.2), g.2) := by unfold gTxt; rw [hF]
    have ea : aTxt g s k = -1 := by unfold aTxt; rw [hF]
    rw [eg, ea] at h
    rw [hF] at I11
    have f10 := r4 f.1 f.2 hF
    exact ⟨fun z => absurd z (nI_ne0 f10.1 (by omega)), fun _ => ⟨_, rfl, h D11 o11 I11⟩⟩
theorem c_S_text {P : Int32 → xD → Prop} {x y : Int32} (hI : cI D g) (h : ∀ D', xOut 0 325 D D' → cI D' (gText g x y) → P (aText g x y) D') : xCi (d + 40) m_S_text [.ref 0, .int x, .int y] D P := by
  have hO := hI.2.1
  have fw : ∀ D3 D4 : xD, D3 = (xu D.1 1 3 (0 : Int32), D.2) → D4 = (xu D3.1 1 4 (-1 : Int32), D3.2) → xOut 1 2 D D4 ∧ cI D4 ((g.1.1, (0, -1), g.1.2.2), g.2) := by
    intro D3 D4 e3 e4
    obtain ⟨o3, f3⟩ := fld e3
    obtain ⟨o4, f4⟩ := fld e4
    have o := o3.trans o4
    exact ⟨o, cI_f (n := g.1.1.1) hI (o.mono (by omega) (by omega)) (by rw [f4, if_neg (by omega), f3, if_pos rfl]) (by rw [f4, if_pos rfl]) (hI.1.2.1.out o (by omega)) (Nat.le_refl _)⟩
  refine xCi_of y_S_text (Nat.le_of_ble_eq_true rfl) (s_S_text_0 xk_0 (c_Told_howMany hI.1 ?_))
  cases hx : slotOf 5 x with
  | none =>
    have eh : howI g.1 x = -2 := by unfold howI; rw [hx]
    have eg : gText g x y = gTx0 g := by unfold gText; rw [hx]
    have ea : aText g x y = -2 := by unfold aText; rw [hx]
    rw [eg, ea] at h
    rw [eh]
    refine ⟨fun c D3 e3 D4 e4 => ⟨fun _ => ?_, fun z => absurd rfl z⟩, fun c D3 e3 D4 e4 => ⟨fun _ => ?_, fun z => absurd rfl z⟩⟩
    · obtain ⟨o, I⟩ := fw D3 D4 e3 e4
      exact tx_exit o I h
    · obtain ⟨o, I⟩ := fw D3 D4 e3 e4
      exact tx_exit o I h
  | some s =>
    obtain ⟨hs, rfl⟩ := slot_some hx
    have c2 := (hO.2.2 s hs).1
    have eh : howI g.1 (nI s) = nI (g.1.2.2.1 s) := by unfold howI; rw [hx]
    have nm : ¬ nI (g.1.2.2.1 s) = -2 := fun z => by
      have := nI_pos (n := g.1.2.2.1 s) (by omega)
      rw [z] at this
      exact this (by decide)
    rw [eh]
    have eg : gText g (nI s) y = match txSlot (g.1.2.2.1 s) y with | none => gTx0 g | some k => gTxt g s k := by unfold gText; rw [hx]
    have ea : aText g (nI s) y = match txSlot (g.1.2.2.1 s) y with | none => -2 | some k => aTxt g s k := by unfold aText; rw [hx]
    rw [eg, ea] at h
    refine ⟨fun c D3 e3 D4 e4 => ⟨fun z => absurd z nm, fun _ => ?_⟩, fun c D3 e3 D4 e4 => ⟨fun z => absurd z nm, fun _ => ?_⟩⟩
    · obtain ⟨o, I⟩ := fw D3 D4 e3 e4
      have et : txSlot (g.1.2.2.1 s) y = slotOf (g.1.2.2.1 s) y := if_neg c
      rw [et] at h
      cases hy : slotOf (g.1.2.2.1 s) y with
      | none =>
        rw [hy] at h
        refine ⟨fun _ => tx_exit o I h, fun z => ⟨fun _ => tx_exit o I h, fun _ => ⟨fun w => ?_, fun _ => tx_exit o I h⟩⟩⟩
        rcases slot_none (by omega) hy with q | ⟨-, q⟩
        · exact absurd q z
        · exact absurd w (Int32.not_lt.mpr q)
      | some k =>
        rw [hy] at h
        obtain ⟨hk, rfl⟩ := slot_some hy
        refine ⟨fun z => absurd z (nI_pos (by omega)), fun _ => ⟨fun z => absurd z (nI_ge (a := k) (b := 2) (by omega) (by omega)), fun _ => ⟨fun _ => tx_read hs (by omega) (by omega) o I h, fun z => absurd (nI_lt hk (by omega)) z⟩⟩⟩
    · obtain ⟨o, I⟩ := fw D3 D4 e3 e4
      have et : txSlot (g.1.2.2.1 s) y = if g.1.2.2.1 s < 2 then some (g.1.2.2.1 s) else none := if_pos c
      rw [et] at h
      refine ⟨fun z => absurd z (nI_pos (by omega)), fun _ => ⟨fun z => ?_, fun z => ?_⟩⟩
      · have := (nI_leI (a := 2) (by omega) (by omega)).mp z
        rw [if_neg (by omega)] at h
        exact tx_exit o I h
      · have : g.1.2.2.1 s < 2 := Nat.lt_of_not_le (fun w => z (nI_le (a := 2) w (by omega)))
        rw [if_pos this] at h
        refine ⟨fun _ => tx_read hs this (Nat.le_refl _) o I h, fun w => absurd ?_ w⟩
        rw [c]; exact neg_lt (by decide) (by omega)
end TEXT
