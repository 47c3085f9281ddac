/-! All that is told is copied; the state of the whole object; images. -/
noncomputable def cif {α : Type} (p : Prop) (a b : α) : α := @ite α p (Classical.propDecidable p) a b
theorem cif_t {α : Type} {p : Prop} {a b : α} (h : p) : cif p a b = a := by unfold cif; exact if_pos h
theorem cif_f {α : Type} {p : Prop} {a b : α} (h : ¬ p) : cif p a b = b := by unfold cif; exact if_neg h
section TCOPY
variable {d : Nat} {D : xD} {a b : Nat} {σ : sT}
theorem c_keepRaw {P : xD → Prop} {s k c e : Nat} {ξ : Nat → Int32} (k0 : xk a = 1) (r3 : rS D (a + 3) 5) (v4 : D.1 (a + 4) s = nI c) (hkc : k < c) (hc : c ≤ 2) (ke : xk e = 3) (hs : s < 5) (hR : shR D e s ξ) (hx : txOK s ξ) (hd : a + 44 ≤ e ∨ e + 19 ≤ a)
    (h : ∀ D', xOut (a + 6 + k * 19 + 1) (a + 6 + k * 19 + 19) D D' → shR D' (a + 6 + k * 19) s ξ → (∀ s' ξ', s' < 5 → s' ≠ s → shR D (a + 6 + k * 19) s' ξ' → shR D' (a + 6 + k * 19) s' ξ') → P D') : xCv (d + 4) m_Told_keep [.ref a, .int (nI s), .int (nI k), .ref e] D P := by
  refine xCv_of y_Told_keep (Nat.le_of_ble_eq_true rfl) (s_Told_keep_0 k0 ke (c_Told_slotAt k0 ?_))
  rw [slot_nI (show k < 2 by omega) (by omega)]
  refine ⟨fun q => (by cases q), fun b' q => ?_⟩
  cases q
  refine ⟨told_sheet k0 (by omega), c_Sheet_copy (told_sheet k0 (by omega)) ke hs hR hx (by omega) (fun D1 o1 w1 g1 => ?_)⟩
  refine c_howRaw k0 (r3.out o1 (by omega)) hs ?_
  rw [o1.1 _ (by omega), v4]
  exact ⟨fun _ => ⟨rfl, h D1 o1 w1 g1⟩, fun q => absurd (nI_lt hkc (by omega)) q⟩
theorem c_keepNull {P : xD → Prop} {s : Int32} {k : Nat} (k0 : xk a = 1) (hk : k < 2) (h : P D) : xCv (d + 4) m_Told_keep [.ref a, .int s, .int (nI k), .null] D P := by
  refine xCv_of y_Told_keep (Nat.le_of_ble_eq_true rfl) (sn_Told_keep_0 k0 (c_Told_slotAt k0 ?_))
  rw [slot_nI hk (by omega)]
  refine ⟨fun q => (by cases q), fun b' q => ?_⟩
  cases q
  exact ⟨told_sheet k0 hk, rfl, h⟩
theorem c_Told_copy {P : xD → Prop} (ka : xk a = 1) (hT : dT D b σ) (hO : sOK σ) (hd : a + 44 ≤ b ∨ b + 44 ≤ a) (h : ∀ D', xOut a (a + 44) D D' → dT D' a σ → P D') : xCv (d + 5) m_Told_copy [.ref a, .ref b] D P := by
  have l2 : xl (a + 1 + 1) = 600 := cl_1_0 ka
  have l4 : xl (a + 3 + 1) = 5 := cl_1_1 ka
  obtain ⟨n600, nb, ntx⟩ := hO
  obtain ⟨t1, t2, t3, t4, t5, t6, t7, t8⟩ := hT
  refine xCv_of y_Told_copy (Nat.le_of_ble_eq_true rfl) (s_Told_copy_0 ka t1 ?_)
  refine c_rcopy (ck_1_0 ka) t2 (by omega) (fun D1 o1 w1 v1 => ?_)
  intro D2 e2 D3 e3
  have o3 : xOut a (a + 1) D1 D3 := by
    rw [e3, e2]
    exact ⟨fun i q => by show xu (xu D1.1 a 3 _) a 4 _ i = _; rw [xu_ne _ _ _ (by omega), xu_ne _ _ _ (by omega)], rfl⟩
  have eb : D1.1 b = D.1 b := o1.1 _ (by omega)
  have f3 : D3.1 a 3 = σ.2.1.1 ∧ D3.1 a 4 = σ.2.1.2 := by
    rw [e3, e2]
    refine ⟨?_, ?_⟩
    · show xu (xu D1.1 a 3 (D1.1 b 3)) a 4 _ a 3 = _
      rw [xu_self]
      simp only [upd]
      rw [if_neg (by omega), xu_self]
      simp only [upd]
      rw [if_pos trivial, eb]; exact t4
    · show xu (xu D1.1 a 3 (D1.1 b 3)) a 4 (xu D1.1 a 3 (D1.1 b 3) b 4) a 4 = _
      rw [xu_self, xu_ne _ _ _ (show b ≠ a by omega)]
      simp only [upd]
      rw [if_pos trivial, eb]; exact t5
  clear e2 e3
  refine c_rcopy (ck_1_1 ka) ((t6.out o1 (by omega)).out o3 (by omega)) (by omega) (fun D4 o4 w4 v4 => ?_)
  have o14 : xOut a (a + 44) D D4 := (o1.mono (by omega) (by omega)).trans ((o3.mono (by omega) (by omega)).trans (o4.mono (by omega) (by omega)))
  have v4' : ∀ s, s < 5 → D4.1 (a + 4) s = nI (σ.2.2.1 s) := fun s hs => by
    rw [show a + 4 = a + 3 + 1 by omega, v4 s hs, o3.1 _ (by omega), o1.1 _ (by omega), show b + 3 + 1 = b + 4 by omega]
    exact t7 s hs
  -- what stays while the sheets are copied
  have keep : ∀ D', xOut (a + 6) (a + 44) D4 D' → rS D' (a + 3) 5 ∧ (∀ s, s < 5 → D'.1 (a + 4) s = nI (σ.2.2.1 s)) ∧ dT D' b σ := fun D' o => by
    have oA := o14.trans (o.mono (show a ≤ a + 6 by omega) (show a + 44 ≤ a + 44 by omega))
    exact ⟨w4.out o (by omega), fun s hs => by rw [o.1 _ (by omega)]; exact v4' s hs, dT.out ⟨t1, t2, t3, t4, t5, t6, t7, t8⟩ ⟨n600, nb, ntx⟩ oA (by omega)⟩
  have row : ∀ D' k, k < 2 → xOut (a + 6) (a + 44) D4 D' → (∀ i, i < 5 → ∀ j, j < k → j < σ.2.2.1 i → shR D' (a + 6 + j * 19) i (σ.2.2.2 i j)) → (∀ D'', xOut (a + 6) (a + 44) D4 D'' → (∀ i, i < 5 → ∀ j, j < k + 1 → j < σ.2.2.1 i → shR D'' (a + 6 + j * 19) i (σ.2.2.2 i j)) → xPf (d + 5) m_Told_copy 40 [(0, .ref a), (1, .ref b), (2, .int (nI (k + 1)))] [] D'' (fun r D' => r = none ∧ P D')) →
      ∀ m s, s + m = 5 → (∀ i, i < s → k < σ.2.2.1 i → shR D' (a + 6 + k * 19) i (σ.2.2.2 i k)) → xPf (d + 5) m_Told_copy 47 [(0, .ref a), (1, .ref b), (2, .int (nI k)), (3, .int (nI s))] [] D' (fun r D' => r = none ∧ P D') := by
    intro D' k hk oD hall fin m
    induction m generalizing D' with
    | zero =>
      intro s hs hin
      have es : s = 5 := by omega
      subst es
      refine s_Told_copy_47 ka t1 ⟨fun _ => ?_, fun q => absurd (nI_le (a := 5) (b := 5) (by omega) (by omega)) q⟩
      rw [nI_1 k]
      refine fin D' oD (fun i hi j hj hjc => ?_)
      by_cases e : j = k
      · rw [e] at hjc ⊢
        exact hin i hi hjc
      · exact hall i hi j (by omega) hjc
    | succ m ih =>
      intro s hs hin
      obtain ⟨k3, kv, kb⟩ := keep D' oD
      refine s_Told_copy_47 ka t1 ⟨fun q => absurd q (nI_ge (a := s) (b := 5) (by omega) (by omega)), fun _ => c_Told_sheetAt kb ⟨n600, nb, ntx⟩ (by omega) ?_⟩
      have hc2 := (ntx s (by omega)).1
      by_cases hkc : k < σ.2.2.1 s
      · rw [slot_nI hkc (by omega)]
        refine ⟨fun q => (by cases q), fun b3 q => ?_⟩
        cases q
        refine ⟨told_sheet t1 (by omega), c_keepRaw ka k3 (kv s (by omega)) hkc hc2 (told_sheet t1 (by omega)) (by omega) (kb.2.2.2.2.2.2.2 s (by omega) k hkc) ((ntx s (by omega)).2 k hkc) (by omega) (fun D5 o5 w5 g5 => ?_)⟩
        have oD5 : xOut (a + 6) (a + 44) D4 D5 := oD.trans (o5.mono (by omega) (by omega))
        rw [nI_1 s]
        refine ih D5 oD5 (fun i hi j hj hjc => ?_) (s + 1) (by omega) (fun i hi hic => ?_)
        · exact (hall i hi j hj hjc).out o5 (by omega)
        · by_cases e : i = s
          · rw [e]; exact w5
          · exact g5 i _ (by omega) e (hin i (by omega) hic)
      · have hn : slotOf (σ.2.2.1 s) (nI k) = none := slot_ge (by omega) (nI_le (by omega) (by omega))
        rw [hn]
        refine ⟨fun _ => ?_, fun b3 q => by cases q⟩
        refine c_keepNull ka hk ?_
        rw [nI_1 s]
        exact ih D' oD hall (s + 1) (by omega) (fun i hi hic => by
          by_cases e : i = s
          · rw [e] at hic; exact absurd hic hkc
          · exact hin i (by omega) hic)
  have fin : ∀ D', xOut (a + 6) (a + 44) D4 D' → (∀ i, i < 5 → ∀ j, j < 2 → j < σ.2.2.1 i → shR D' (a + 6 + j * 19) i (σ.2.2.2 i j)) → P D' := by
    intro D' oD hall
    obtain ⟨k3, kv, kb⟩ := keep D' oD
    have oA := o14.trans (oD.mono (show a ≤ a + 6 by omega) (show a + 44 ≤ a + 44 by omega))
    refine h D' oA ⟨ka, ?_, fun j hj => ?_, ?_, ?_, k3, kv, fun i hi j hj => hall i hi j (by have := (ntx i hi).1; omega) hj⟩
    · exact ((w1.out o3 (by omega)).out o4 (by omega)).out oD (by omega)
    · rw [oD.1 _ (by omega), o4.1 _ (by omega), o3.1 _ (by omega), show a + 2 = a + 1 + 1 by omega, v1 j hj, show b + 1 + 1 = b + 2 by omega]; exact t3 j hj
    · rw [oD.1 _ (by omega), o4.1 _ (by omega)]; exact f3.1
    · rw [oD.1 _ (by omega), o4.1 _ (by omega)]; exact f3.2
  have r1 := fun D' oD hall => row D' 1 (by omega) oD hall (fun D'' o2 h2 => s_Told_copy_40 ka t1 ⟨fun _ => ⟨rfl, fin D'' o2 h2⟩, fun q => absurd (show (2 : Int32) ≤ nI (1 + 1) by decide) q⟩) 5 0 (by omega) (fun i hi => absurd hi (by omega))
  have r0 := row D4 0 (by omega) xOut.rfl' (fun i hi j hj => absurd hj (by omega)) (fun D'' o2 h2 => s_Told_copy_40 ka t1 ⟨fun q => absurd q (show ¬ (2 : Int32) ≤ nI (0 + 1) by decide), fun _ => r1 D'' o2 h2⟩) 5 0 (by omega) (fun i hi => absurd hi (by omega))
  exact s_Told_copy_40 ka t1 ⟨fun q => absurd q (by decide), fun _ => r0⟩
end TCOPY
/-- what is told now; the images -/
abbrev gS : Type := sT × (Nat → Option sT)
/-- what the workers of the object keep from call to call -/
def wI (D : xD) : Prop := rS D 212 364 ∧ rS D 228 364 ∧ eI D 254 ∧ oK D 304 ∧ rS D 323 1215
def cI (D : xD) (g : gS) : Prop := dT D 1 g.1 ∧ sOK g.1 ∧ (∀ k, k < 3 → ∀ σ, g.2 k = some σ → dT D (46 + k * 44) σ ∧ sOK σ) ∧ rS D 178 3 ∧ (∀ k, k < 3 → D.1 179 k = if g.2 k = none then 0 else 1) ∧ wI D
theorem xk_0 : xk 0 = 0 := by decide +kernel
theorem xk_1 : xk 1 = 1 := by decide +kernel
theorem xk_178 : xk 178 = 2 := by decide +kernel
theorem xk_180 : xk 180 = 6 := by decide +kernel
theorem xk_206 : xk 206 = 7 := by decide +kernel
theorem xk_222 : xk 222 = 9 := by decide +kernel
theorem xk_254 : xk 254 = 10 := by decide +kernel
theorem xk_304 : xk 304 = 11 := by decide +kernel
theorem xk_317 : xk 317 = 12 := by decide +kernel
theorem xk_img : ∀ k, k < 3 → xk (46 + k * 44) = 1 := by decide +kernel
theorem wI.out {D D' : xD} {lo hi : Nat} (h : wI D) (o : xOut lo hi D D') (q : hi ≤ 212) : wI D' := ⟨h.1.out o (by omega), h.2.1.out o (by omega), h.2.2.1.out o (by omega), h.2.2.2.1.out o (by omega), h.2.2.2.2.out o (by omega)⟩
theorem cI.work {D D' : xD} {lo hi : Nat} {g : gS} (h : cI D g) (o : xOut lo hi D D') (q : 180 ≤ lo) (w : wI D') : cI D' g := by
  obtain ⟨h1, h2, h3, h4, h5, -⟩ := h
  exact ⟨h1.out h2 o (by omega), h2, fun k hk σ hσ => ⟨(h3 k hk σ hσ).1.out (h3 k hk σ hσ).2 o (by omega), (h3 k hk σ hσ).2⟩, h4.out o (by omega), fun k hk => by rw [o.1 _ (by omega)]; exact h5 k hk, w⟩
section IMAGE
variable {d : Nat} {D : xD} {g : gS}
theorem c_S_imageAt {P : Option Nat → xD → Prop} {x : Int32} (h : P (match slotOf 3 x with | none => none | some k => some (46 + k * 44)) D) : xCq (d + 1) m_S_imageAt [.ref 0, .int x] D P := by
  have l5 : xl (0 + 45) = 3 := cl_0_1 xk_0
  refine xCq_of y_S_imageAt (Nat.le_of_ble_eq_true rfl) (s_S_imageAt_0 xk_0 ?_)
  rw [l5]
  cases hx : slotOf 3 x with
  | none =>
    rw [hx] at h
    rcases slot_none (by omega) hx with q | ⟨q, z⟩
    · exact ⟨fun _ => ⟨none, rfl, h⟩, fun c => absurd q c⟩
    · exact ⟨fun c => absurd c q, fun _ => ⟨fun _ => ⟨none, rfl, h⟩, fun c => absurd z c⟩⟩
  | some k =>
    obtain ⟨h1, rfl⟩ := slot_some hx
    rw [hx] at h
    rw [nI_clamp (by omega)]
    have e : 0 + 45 + 1 + k * xw 4 = 46 + k * 44 := by rw [show xw 4 = 44 from rfl]
    rw [e]
    exact ⟨fun c => absurd c (nI_pos (by omega)), fun _ => ⟨fun c => absurd c (nI_ge (a := k) (b := 3) h1 (by omega)), fun _ => ⟨vp_in_nI h1 (by omega), xk_img k h1, some _, rfl, h⟩⟩⟩
/-- behind image(x) -/
def gImage (g : gS) (x : Int32) : gS := match slotOf 3 x with
  | none => g
  | some k => (g.1, fun j => if j = k then some g.1 else g.2 j)
def aImage (x : Int32) : Int32 := match slotOf 3 x with
  | none => 0
  | some _ => 1
theorem c_S_image {P : Int32 → xD → Prop} {x : Int32} (hI : cI D g) (h : ∀ D', xOut 0 325 D D' → cI D' (gImage g x) → P (aImage x) D') : xCi (d + 40) m_S_image [.ref 0, .int x] D P := by
  refine xCi_of y_S_image (Nat.le_of_ble_eq_true rfl) (s_S_image_0 xk_0 (c_S_imageAt ?_))
  unfold gImage aImage at h
  cases hx : slotOf 3 x with
  | none =>
    rw [hx] at h
    exact ⟨fun _ => ⟨_, rfl, h D xOut.rfl' hI⟩, fun b q => by cases q⟩
  | some k =>
    obtain ⟨h1, rfl⟩ := slot_some hx
    rw [hx] at h
    obtain ⟨i1, i2, i3, i4, i5, i6⟩ := hI
    refine ⟨fun q => (by cases q), fun b q => ?_⟩
    cases q
    refine ⟨xk_img k h1, c_Told_copy (xk_img k h1) i1 i2 (by omega) (fun D1 o1 w1 => ?_)⟩
    refine c_set (i4.out o1 (by omega)) h1 (fun D2 o2 v2 => ⟨_, rfl, h D2 ((o1.mono (by omega) (by omega)).trans (o2.mono (by omega) (by omega))) ?_⟩)
    refine ⟨(i1.out i2 o1 (by omega)).out i2 o2 (by omega), i2, fun j hj σ hσ => ?_, (i4.out o1 (by omega)).out o2 (by omega), fun j hj => ?_, (i6.out o1 (by omega)).out o2 (by omega)⟩
    · have hσ : (if j = k then some g.1 else g.2 j) = some σ := hσ
      by_cases e : j = k
      · rw [if_pos e] at hσ
        cases hσ
        rw [e]
        exact ⟨w1.out i2 o2 (by omega), i2⟩
      · rw [if_neg e] at hσ
        obtain ⟨j1, j2⟩ := i3 j hj σ hσ
        exact ⟨(j1.out j2 o1 (by omega)).out j2 o2 (by omega), j2⟩
    · show D2.1 (178 + 1) j = if (if j = k then some g.1 else g.2 j) = none then 0 else 1
      rw [v2, o1.1 _ (by omega)]
      by_cases e : j = k
      · rw [if_pos e, if_pos e, if_neg (fun q => by cases q)]
      · rw [if_neg e, if_neg e]; exact i5 j hj
/-- behind again(x) -/
def gAgain (g : gS) (x : Int32) : gS := match slotOf 3 x with
  | none => g
  | some k => match g.2 k with
    | none => g
    | some σ => (σ, g.2)
def aAgain (g : gS) (x : Int32) : Int32 := match slotOf 3 x with
  | none => 0
  | some k => match g.2 k with
    | none => 0
    | some _ => 1
theorem c_S_again {P : Int32 → xD → Prop} {x : Int32} (hI : cI D g) (h : ∀ D', xOut 0 325 D D' → cI D' (gAgain g x) → P (aAgain g x) D') : xCi (d + 40) m_S_again [.ref 0, .int x] D P := by
  refine xCi_of y_S_again (Nat.le_of_ble_eq_true rfl) (s_S_again_0 xk_0 (c_S_imageAt ?_))
  unfold gAgain aAgain at h
  cases hx : slotOf 3 x with
  | none =>
    rw [hx] at h
    exact ⟨fun _ => ⟨_, rfl, h D xOut.rfl' hI⟩, fun b q => by cases q⟩
  | some k =>
    obtain ⟨h1, rfl⟩ := slot_some hx
    rw [hx] at h
    obtain ⟨i1, i2, i3, i4, i5, i6⟩ := hI
    refine ⟨fun q => (by cases q), fun b q => ?_⟩
    cases q
    refine ⟨xk_img k h1, c_get i4 h1 ?_⟩
    rw [show D.1 (178 + 1) k = if g.2 k = none then 0 else 1 from i5 k h1]
    cases hg : g.2 k with
    | none =>
      simp only [hg] at h
      exact ⟨fun q => absurd rfl q, fun _ => ⟨_, rfl, h D xOut.rfl' ⟨i1, i2, i3, i4, i5, i6⟩⟩⟩
    | some σ =>
      simp only [hg] at h
      obtain ⟨j1, j2⟩ := i3 k h1 σ hg
      refine ⟨fun _ => c_Told_copy xk_1 j1 j2 (by omega) (fun D1 o1 w1 => ⟨_, rfl, h D1 (o1.mono (by omega) (by omega)) ⟨w1, j2, fun j hj σ' hσ' => ?_, i4.out o1 (by omega), fun j hj => by rw [o1.1 _ (by omega)]; exact i5 j hj, i6.out o1 (by omega)⟩⟩), fun q => absurd (show (1 : Int32) = 0 from q) (by decide)⟩
      obtain ⟨y1, y2⟩ := i3 j hj σ' hσ'
      exact ⟨y1.out y2 o1 (by omega), y2⟩
end IMAGE
