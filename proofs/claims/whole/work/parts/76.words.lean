/-! Words and numbers. -/
def wchs : List (List Nat) := [[107, 105, 110, 100, 115], [99, 111, 112, 105, 101, 115], [97, 108, 105, 107, 101], [108, 101, 116, 116, 101, 114, 115], [111, 117, 116], [112, 101, 114, 115, 111, 110], [106, 117, 109, 112, 121], [108, 97, 119], [99, 97, 114, 100, 115], [116, 97, 107, 101], [104, 97, 110, 100], [114, 101, 97, 99, 104], [102, 101, 105, 110, 116], [112, 97, 115, 115], [104, 111, 108, 100], [103, 111, 110, 101], [102, 114, 97, 109, 101], [109, 111, 115, 116], [97, 105, 109], [107, 101, 101, 112], [110, 101, 118, 101, 114]]
/-- the letters of word k -/
def wch (k : Nat) : List Nat := wchs.getD k []
/-- the token that is stepped to from p on is word k -/
def isW (t : Nat × (Nat → Nat)) (p k : Nat) : Prop := tE t p - tS t p = (wch k).length ∧ ∀ i, i < (wch k).length → t.2 (tS t p + i) = (wch k).getD i 0
theorem wch_len : ∀ k, k < 21 → (wch k).length ≤ 7 ∧ 3 ≤ (wch k).length ∧ xslens.getD k 0 = (wch k).length ∧ Int32.ofNat (xslens.getD k 0) >>> ((0 : Int32) &&& 31) = nI (wch k).length := by decide +kernel
theorem wch_ch : ∀ k, k < 21 → ∀ i, i < (wch k).length → (((xsbyts.getD k []).getD i 0 &&& (255 : Int32)).toUInt32 % 65536).toInt32 = nI ((wch k).getD i 0) ∧ (wch k).getD i 0 < 256 := by decide +kernel
def vN (t : Nat × (Nat → Nat)) (s : Nat) : Nat → Nat
  | 0 => 0
  | m + 1 => vN t s m * 10 + (t.2 (s + m) - 48)
/-- the NUMBER that is stepped to from p on -/
def tV (t : Nat × (Nat → Nat)) (p : Nat) : Nat := vN t (tS t p) (tE t p - tS t p)
theorem tK_1 {t : Nat × (Nat → Nat)} {p : Nat} (h : tK t p = 1) : tE t p - tS t p ≤ 2 ∧ 1 ≤ tE t p - tS t p ∧ ∀ i, i < tE t p - tS t p → 48 ≤ t.2 (tS t p + i) ∧ t.2 (tS t p + i) ≤ 57 := by
  have h0 := tE_gt (t := t) (p := p) (by omega)
  unfold tK at h
  split at h
  · cases h
  · rename_i h1
    split at h
    · cases h
    · rename_i h2
      split at h
      · rename_i h3
        have e : tE t p = runT t isDg (tS t p) := by unfold tE; rw [if_neg h1, if_neg h2, if_pos h3]
        split at h
        · rename_i h4
          rw [e]
          rw [e] at h0
          refine ⟨h4, by omega, fun i hi => ?_⟩
          exact isDg_t.mp (inT_lt (runT_all (t := t) (p := isDg) (i := tS t p) (j := tS t p + i) (by omega) (by omega))).2
        · cases h
      · split at h <;> cases h
theorem tV_lt {t : Nat × (Nat → Nat)} {p : Nat} (h : tK t p = 1) : tV t p < 100 := by
  obtain ⟨h1, h2, h3⟩ := tK_1 h
  unfold tV
  rcases (show tE t p - tS t p = 1 ∨ tE t p - tS t p = 2 by omega) with e | e
  · rw [e]
    have := h3 0 (by omega)
    show 0 * 10 + (t.2 (tS t p + 0) - 48) < 100
    omega
  · rw [e]
    have a := h3 0 (by omega)
    have b := h3 1 (by omega)
    show (0 * 10 + (t.2 (tS t p + 0) - 48)) * 10 + (t.2 (tS t p + 1) - 48) < 100
    omega
section WORDS
variable {d : Nat} {D : xD} {a : Nat} {t : Nat × (Nat → Nat)}
theorem c_Slength {P : Int32 → xD → Prop} {k : Nat} (hk : k < 21) (h : P (nI (wch k).length) D) : xCi (d + 2) m_String_length [.ref (100000 + k)] D P := by
  refine xCi_of y_String_length (Nat.le_of_ble_eq_true rfl) (s_String_length_0 hk ?_)
  refine xCi_of y_String_coder (Nat.le_of_ble_eq_true rfl) (s_String_coder_0 hk ⟨fun q => absurd q (by decide), fun _ => ⟨rfl, _, rfl, _, rfl, ?_⟩⟩)
  rw [(wch_len k hk).2.2.2]; exact h
theorem c_ScharAt {P : Int32 → xD → Prop} {k i : Nat} (hk : k < 21) (hi : i < (wch k).length) (h : P (nI ((wch k).getD i 0)) D) : xCi (d + 5) m_String_charAt [.ref (100000 + k), .int (nI i)] D P := by
  obtain ⟨l7, -, ll, -⟩ := wch_len k hk
  obtain ⟨c1, c2⟩ := wch_ch k hk i hi
  have nar : narrow .char (.int (nI ((wch k).getD i 0))) = .int (nI ((wch k).getD i 0)) := (pk_charN (by omega)).1
  refine xCi_of y_String_charAt (Nat.le_of_ble_eq_true rfl) (s_String_charAt_0 hk ?_)
  refine xCi_of y_String_isLatin1 (Nat.le_of_ble_eq_true rfl) (s_String_isLatin1_0 hk ⟨fun q => absurd q (by decide), fun _ => ⟨fun q => absurd rfl q, fun _ => ⟨_, rfl, z1 ?_⟩⟩⟩)
  refine xCi_of y_Latin_charAt (Nat.le_of_ble_eq_true rfl) (s_Latin_charAt_0 hk ?_)
  refine xCv_of y_String_checkIndex (Nat.le_of_ble_eq_true rfl) (s_String_checkIndex_0 ?_ ?_)
  · refine xCi_of y_Pre_checkIndex (Nat.le_of_ble_eq_true rfl) (s_Pre_checkIndex_0 ⟨fun q => absurd q (nI_pos (by omega)), fun _ => ⟨fun _ => ⟨_, rfl, rfl, ?_⟩, fun q => absurd (by rw [ll]; exact nI_lt hi (by omega)) q⟩⟩)
    rw [ll, nI_clamp (by omega), c1]
    exact ⟨vp_in_nI hi (by omega), nar, _, rfl, nar, _, rfl, h⟩
  · refine xCi_of y_Pre_checkIndex (Nat.le_of_ble_eq_true rfl) (s_Pre_checkIndexN_0 ⟨fun q => absurd q (nI_pos (by omega)), fun _ => ⟨fun _ => ⟨_, rfl, rfl, ?_⟩, fun q => absurd (by rw [ll]; exact nI_lt hi (by omega)) q⟩⟩)
    rw [ll, nI_clamp (by omega), c1]
    exact ⟨vp_in_nI hi (by omega), nar, _, rfl, nar, _, rfl, h⟩
theorem c_says {P : Int32 → xD → Prop} {p k : Nat} (hR : rdT D a t) (hk : k < 21) (hp : p ≤ t.1) (h5 : D.1 a 5 = nI (tS t p)) (h6 : D.1 a 6 = nI (tE t p)) (h1 : isW t p k → P 1 D) (h0 : ¬ isW t p k → P 0 D) : xCi (d + 6) m_Reader_says [.ref a, .ref (100000 + k)] D P := by
  have hn := hR.2.2.1
  have hle := tE_le hp
  have hge := tE_ge t p
  obtain ⟨l7, l3, ll, -⟩ := wch_len k hk
  refine xCi_of y_Reader_says (Nat.le_of_ble_eq_true rfl) (s_Reader_says_0 hR.1 hk (c_Slength hk ?_))
  rw [h5, h6, pk_sub hge, nI_eq (by omega) (by omega)]
  refine ⟨fun q => ?_, fun q => ⟨_, rfl, h0 (fun z => q z.1)⟩⟩
  have key : ∀ m i, i + m = (wch k).length → (∀ j, j < i → t.2 (tS t p + j) = (wch k).getD j 0) → xPf (d + 6) m_Reader_says 20 [(0, .ref a), (1, .ref (100000 + k)), (2, .int (nI i))] [] D (fun r D' => ∃ x, r = some (.int x) ∧ P x D') := by
    intro m
    induction m with
    | zero =>
      intro i hi hall
      exact s_Reader_says_20 hR.1 hk (c_Slength hk ⟨fun _ => ⟨_, rfl, h1 ⟨q, fun j hj => hall j (by omega)⟩⟩, fun z => absurd (nI_le (by omega) (by omega)) z⟩)
    | succ m ih =>
      intro i hi hall
      refine s_Reader_says_20 hR.1 hk (c_Slength hk ⟨fun z => absurd z (nI_ge (by omega) (by omega)), fun _ => ?_⟩)
      rw [h5, nI_add]
      have hb := hR.2.2.2 (tS t p + i) (by omega)
      have hc := (wch_ch k hk i (by omega)).2
      refine rd_get hR (by omega) (c_ScharAt hk (by omega) ?_)
      rw [nI_eq (by omega) (by omega), nI_1 i]
      refine ⟨fun z => ih (i + 1) (by omega) (fun j hj => ?_), fun z => ⟨_, rfl, h0 (fun w => z (w.2 i (by omega)))⟩⟩
      by_cases e : j = i
      · rw [e]; exact z
      · exact hall j (by omega)
  exact key (wch k).length 0 (by omega) (fun j hj => absurd hj (by omega))
theorem c_numberHere {P : Int32 → xD → Prop} {p : Nat} (hR : rdT D a t) (hp : p ≤ t.1) (hK : tK t p = 1) (h5 : D.1 a 5 = nI (tS t p)) (h6 : D.1 a 6 = nI (tE t p)) (h : P (nI (tV t p)) D) : xCi (d + 2) m_Reader_numberHere [.ref a] D P := by
  have hn := hR.2.2.1
  have hle := tE_le hp
  have hge := tE_ge t p
  obtain ⟨k1, k2, k3⟩ := tK_1 hK
  refine xCi_of y_Reader_numberHere (Nat.le_of_ble_eq_true rfl) (s_Reader_numberHere_0 hR.1 ?_)
  rw [h5]
  have key : ∀ m i, i + m = tE t p - tS t p → xPf (d + 2) m_Reader_numberHere 7 [(0, .ref a), (1, .int (nI (vN t (tS t p) i))), (2, .int (nI (tS t p + i)))] [] D (fun r D' => ∃ x, r = some (.int x) ∧ P x D') := by
    intro m
    induction m with
    | zero =>
      intro i hi
      refine s_Reader_numberHere_7 hR.1 ?_
      rw [h6]
      refine ⟨fun _ => ⟨_, rfl, ?_⟩, fun q => absurd (nI_le (by omega) (by omega)) q⟩
      rw [show i = tE t p - tS t p by omega]; exact h
    | succ m ih =>
      intro i hi
      refine s_Reader_numberHere_7 hR.1 ?_
      rw [h6]
      refine ⟨fun q => absurd q (nI_ge (by omega) (by omega)), fun _ => rd_get hR (by omega) ?_⟩
      have hk := k3 i (by omega)
      have e : nI (vN t (tS t p) i) * (10 : Int32) + nI (t.2 (tS t p + i)) - (48 : Int32) = nI (vN t (tS t p) (i + 1)) := by
        rw [show (10 : Int32) = nI 10 from rfl, show (48 : Int32) = nI 48 from rfl, pk_mul, nI_add, pk_sub (by omega), vN]
        congr 1; omega
      rw [e, nI_1 (tS t p + i)]
      exact ih (i + 1) (by omega)
  exact key (tE t p - tS t p) 0 (by omega)
end WORDS
