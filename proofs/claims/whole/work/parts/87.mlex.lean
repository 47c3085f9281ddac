/-! The reference's tokens. -/
def wv (f : Nat → Nat) : Nat → Nat
  | 0 => 0
  | m + 1 => wv f m * 256 + f m
theorem wv_lt {f : Nat → Nat} : ∀ {n : Nat}, (∀ i, i < n → f i < 256) → wv f n < 256 ^ n := by
  intro n
  induction n with
  | zero => intro _; exact Nat.one_pos
  | succ n ih =>
    intro h
    have h1 := ih (fun i hi => h i (by omega))
    have h2 := h n (by omega)
    rw [wv, Nat.pow_succ]
    omega
theorem wv_inj {f g : Nat → Nat} : ∀ {n m : Nat}, (∀ i, i < n → 0 < f i ∧ f i < 256) → (∀ i, i < m → 0 < g i ∧ g i < 256) → wv f n = wv g m → n = m ∧ ∀ i, i < n → f i = g i := by
  intro n
  induction n with
  | zero =>
    intro m _ hg e
    cases m with
    | zero => exact ⟨rfl, fun i hi => absurd hi (Nat.not_lt_zero _)⟩
    | succ m =>
      have := (hg m (by omega)).1
      rw [wv, wv] at e; omega
  | succ n ih =>
    intro m hf hg e
    cases m with
    | zero =>
      have := (hf n (by omega)).1
      rw [wv, wv] at e; omega
    | succ m =>
      have a := hf n (by omega)
      have b := hg m (by omega)
      rw [wv, wv] at e
      obtain ⟨e1, e2⟩ := ih (m := m) (fun i hi => hf i (by omega)) (fun i hi => hg i (by omega)) (by omega)
      refine ⟨by omega, fun i hi => ?_⟩
      by_cases z : i = n
      · rw [z]; rw [e1] at a e ⊢; omega
      · exact e2 i (by omega)
theorem wv_congr {f g : Nat → Nat} : ∀ {n : Nat}, (∀ i, i < n → f i = g i) → wv f n = wv g n := by
  intro n
  induction n with
  | zero => intro _; rfl
  | succ n ih => intro h; rw [wv, wv, ih (fun i hi => h i (by omega)), h n (by omega)]
/-- the word that is stepped to from p on, as the reference has it -/
def wdv (t : Nat × (Nat → Nat)) (p : Nat) : Int64 := if tE t p - tS t p ≤ 8 then lN (wv (fun i => t.2 (tS t p + i)) (tE t p - tS t p)) else 0
def wn (k : Nat) : Nat := wv (fun i => (wch k).getD i 0) (wch k).length
theorem wch_lt : ∀ k, k < 21 → ∀ i, i < (wch k).length → 97 ≤ (wch k).getD i 0 ∧ (wch k).getD i 0 ≤ 122 := by decide +kernel
theorem tK_0 {t : Nat × (Nat → Nat)} {p : Nat} (h : tK t p = 0) : tS t p < tE t p ∧ ∀ i, i < tE t p - tS t p → 97 ≤ t.2 (tS t p + i) ∧ t.2 (tS t p + i) ≤ 122 := by
  have h0 := tE_gt (t := t) (p := p) (by omega)
  refine ⟨h0, fun i hi => ?_⟩
  unfold tK at h
  split at h
  · cases h
  · rename_i h1
    split at h
    · rename_i h2
      have e : tE t p = runT t isLt (tS t p) := by unfold tE; rw [if_neg h1, if_pos h2]
      rw [e] at hi
      exact isLt_t.mp (inT_lt (runT_all (t := t) (p := isLt) (i := tS t p) (j := tS t p + i) (by omega) (by omega))).2
    · split at h
      · split at h <;> cases h
      · split at h <;> cases h
theorem pow8 {n : Nat} (h : n ≤ 8) : 256 ^ n ≤ 256 ^ 8 := Nat.pow_le_pow_right (by omega) h
/-- letters are of seven bits -/
theorem wv_63 {f : Nat → Nat} {n : Nat} (hn : n ≤ 8) (h : ∀ i, i < n → f i ≤ 122) : wv f n < 2 ^ 63 := by
  cases n with
  | zero => show 0 < 2 ^ 63; omega
  | succ m =>
    have key : ∀ m, m ≤ 7 → (∀ i, i < m + 1 → f i ≤ 122) → wv f (m + 1) < 128 * 256 ^ m := by
      intro m
      induction m with
      | zero => intro _ h; have := h 0 (by omega); show 0 * 256 + f 0 < 128 * 1; omega
      | succ m ih =>
        intro hm h
        have h1 := ih (by omega) (fun i hi => h i (by omega))
        have h2 := h (m + 1) (by omega)
        rw [wv, Nat.pow_succ]
        omega
    have h1 := key m (by omega) h
    have h2 : 256 ^ m ≤ 256 ^ 7 := Nat.pow_le_pow_right (by omega) (by omega)
    have h3 : (256 : Nat) ^ 7 = 2 ^ 56 := by decide
    omega
theorem wdv_is {t : Nat × (Nat → Nat)} {p k : Nat} (hK : tK t p = 0) (hk : k < 21) : wdv t p = lN (wn k) ↔ isW t p k := by
  obtain ⟨h0, h1⟩ := tK_0 hK
  obtain ⟨l7, l3, -, -⟩ := wch_len k hk
  have w1 : wn k < 2 ^ 63 := wv_63 (by omega) (fun i hi => (wch_lt k hk i hi).2)
  have w0 : 0 < wn k := by
    have : wn k = wv (fun i => (wch k).getD i 0) ((wch k).length - 1 + 1) := by unfold wn; congr 1; omega
    rw [this, wv]
    have := (wch_lt k hk ((wch k).length - 1) (by omega)).1
    omega
  unfold wdv
  constructor
  · intro e
    by_cases c : tE t p - tS t p ≤ 8
    · rw [if_pos c, pk_lEQ (wv_63 c (fun i hi => (h1 i hi).2)) w1] at e
      obtain ⟨e1, e2⟩ := wv_inj (fun i hi => by have := h1 i hi; omega) (fun i hi => by have := wch_lt k hk i hi; omega) e
      exact ⟨e1, fun i hi => e2 i (by omega)⟩
    · rw [if_neg c] at e
      have := (pk_lEQ (a := 0) (b := wn k) (by omega) w1).mp e
      omega
  · rintro ⟨e1, e2⟩
    rw [if_pos (by omega), e1]
    unfold wn
    rw [wv_congr (n := (wch k).length) (f := fun i => t.2 (tS t p + i)) (g := fun i => (wch k).getD i 0) e2]
theorem cc_0 : (461330343027 : Int64) = lN (wn 0) := by decide +kernel
theorem cc_1 : (109330278475123 : Int64) = lN (wn 1) := by decide +kernel
theorem cc_2 : (418430675813 : Int64) = lN (wn 2) := by decide +kernel
theorem cc_3 : (30510848328168051 : Int64) = lN (wn 3) := by decide +kernel
theorem cc_4 : (7304564 : Int64) = lN (wn 4) := by decide +kernel
theorem cc_5 : (123581014175598 : Int64) = lN (wn 5) := by decide +kernel
theorem cc_6 : (457236639865 : Int64) = lN (wn 6) := by decide +kernel
theorem cc_7 : (7102839 : Int64) = lN (wn 7) := by decide +kernel
theorem cc_8 : (426836649075 : Int64) = lN (wn 8) := by decide +kernel
theorem cc_9 : (1952541541 : Int64) = lN (wn 9) := by decide +kernel
theorem cc_10 : (1751215716 : Int64) = lN (wn 10) := by decide +kernel
theorem cc_11 : (491327153000 : Int64) = lN (wn 11) := by decide +kernel
theorem cc_12 : (439788072564 : Int64) = lN (wn 12) := by decide +kernel
theorem cc_13 : (1885434739 : Int64) = lN (wn 13) := by decide +kernel
theorem cc_14 : (1752132708 : Int64) = lN (wn 14) := by decide +kernel
theorem cc_15 : (1735356005 : Int64) = lN (wn 15) := by decide +kernel
theorem cc_16 : (440005651813 : Int64) = lN (wn 16) := by decide +kernel
theorem cc_17 : (1836020596 : Int64) = lN (wn 17) := by decide +kernel
theorem cc_18 : (6383981 : Int64) = lN (wn 18) := by decide +kernel
theorem cc_19 : (1801807216 : Int64) = lN (wn 19) := by decide +kernel
theorem cc_20 : (474148660594 : Int64) = lN (wn 20) := by decide +kernel
/-- the word here, none if it is no word -/
def wd0 (t : Nat × (Nat → Nat)) (p : Nat) : Int64 := if tK t p = 0 then wdv t p else 0
theorem wn_pos : ∀ k, k < 21 → 0 < wn k ∧ wn k < 2 ^ 63 := by decide +kernel
theorem wd0_is {t : Nat × (Nat → Nat)} {p k : Nat} (hk : k < 21) : lg_cmp (wd0 t p) (lN (wn k)) = 0 ↔ tK t p = 0 ∧ isW t p k := by
  rw [lg_cmp_eq]
  unfold wd0
  by_cases c : tK t p = 0
  · rw [if_pos c, wdv_is c hk]; exact ⟨fun h => ⟨c, h⟩, fun h => h.2⟩
  · rw [if_neg c]
    obtain ⟨w0, w1⟩ := wn_pos k hk
    refine ⟨fun h => ?_, fun h => absurd h.1 c⟩
    have := (pk_lEQ (a := 0) (b := wn k) (by omega) w1).mp h
    omega
theorem bv_shl (a c : Nat) (ha : a < 2 ^ 56) (hc : c < 256) : BitVec.ofNat 64 a <<< 8 ||| BitVec.ofNat 64 c = BitVec.ofNat 64 (a * 256 + c) := by
  apply BitVec.eq_of_toNat_eq
  rw [BitVec.toNat_or, BitVec.toNat_shiftLeft, BitVec.toNat_ofNat, BitVec.toNat_ofNat, BitVec.toNat_ofNat, Nat.mod_eq_of_lt (show a < 2 ^ 64 by omega), Nat.mod_eq_of_lt (show c < 2 ^ 64 by omega), Nat.shiftLeft_eq, Nat.mod_eq_of_lt (show a * 2 ^ 8 < 2 ^ 64 by omega), Nat.mod_eq_of_lt (show a * 256 + c < 2 ^ 64 by omega)]
  rw [← Nat.shiftLeft_eq, ← Nat.shiftLeft_add_eq_or_of_lt (show c < 2 ^ 8 by omega), Nat.shiftLeft_eq]
theorem shl8 (a c : Nat) (ha : a < 2 ^ 56) (hc : c < 256) : (lN a <<< ((8 : Int32).toInt64 &&& 63)) ||| (nI c).toInt64 = lN (a * 256 + c) := by
  rw [nI_l (by omega)]
  exact Int64.toBitVec_inj.mp (by
    rw [Int64.toBitVec_or, Int64.toBitVec_shiftLeft, show ((8 : Int32).toInt64 &&& 63).toBitVec.smod 64 = 8#64 by decide]
    exact bv_shl a c ha hc)
/-- the tape as it is read -/
def mtp (D : xD) (t : Nat × (Nat → Nat)) : Prop := D.1 325 12 = nI t.1 ∧ t.1 ≤ 600 ∧ ∀ j, j < t.1 → D.1 326 j &&& (255 : Int32) = nI (t.2 j) ∧ t.2 j < 256
theorem mtp.fr {D D' : xD} {lo hi f g : Nat} {t : Nat × (Nat → Nat)} (h : mtp D t) (o : mF lo hi f g D D') (q : 326 < lo ∨ hi ≤ 326) (r : 12 < f ∨ g ≤ 12) : mtp D' t :=
  ⟨by rw [o.2 12 r]; exact h.1, h.2.1, fun j hj => by rw [(o.1 326 (by omega) q).1]; exact h.2.2 j hj⟩
def srt (k : Nat) : Nat := if k = 0 then 2 else if k = 1 then 3 else if k = 2 then 4 else if k = 3 then 0 else 1
def mtk (D : xD) (t : Nat × (Nat → Nat)) (p : Nat) : Prop := p ≤ t.1 ∧ D.1 325 13 = nI (tS t p) ∧ D.1 325 11 = nI (tE t p) ∧ D.1 325 14 = nI (srt (tK t p)) ∧ (tK t p = 1 → D.1 325 15 = nI (tV t p)) ∧ (tK t p = 0 → D.2 325 16 = wdv t p)
theorem tKE {t : Nat × (Nat → Nat)} {i p : Nat} (e : tS t i = tS t p) : tK t i = tK t p ∧ tE t i = tE t p ∧ tV t i = tV t p ∧ wdv t i = wdv t p := by
  have h1 : tK t i = tK t p := by unfold tK; rw [e]
  have h2 : tE t i = tE t p := by unfold tE; rw [e]
  exact ⟨h1, h2, by unfold tV; rw [e, h2], by unfold wdv; rw [e, h2]⟩
theorem mtk_e {D : xD} {t : Nat × (Nat → Nat)} {i p : Nat} (e : tS t i = tS t p) (hp : p ≤ t.1) (h : mtk D t i) : mtk D t p := by
  obtain ⟨a1, a2, a3, a4⟩ := tKE e
  obtain ⟨-, h1, h2, h3, h4, h5⟩ := h
  rw [e] at h1
  rw [a2] at h2
  rw [a1] at h3 h4 h5
  rw [a3] at h4
  rw [a4] at h5
  exact ⟨hp, h1, h2, h3, h4, h5⟩
theorem mfl {D D1 : xD} {v : Int64} (e : D1 = (D.1, xuL D.2 325 16 v)) : mF 0 0 16 17 D D1 ∧ D1.1 = D.1 ∧ D1.2 325 16 = v := by
  subst e
  refine ⟨⟨fun i a _ => ⟨rfl, ?_⟩, fun j _ => rfl⟩, rfl, ?_⟩
  · show (if i = 325 then _ else D.2 i) = D.2 i
    exact if_neg a
  · show (if 325 = 325 then vp_updL (D.2 325) 16 v else D.2 325) 16 = v
    rw [if_pos rfl]; exact pk_uLs
section MLEX
variable {d : Nat} {D : xD} {t : Nat × (Nat → Nat)}
theorem c_M_see {P : Int32 → xD → Prop} {p : Nat} (hT : mtp D t) (h11 : D.1 325 11 = nI p) (hp : p ≤ t.1) (h1 : p < t.1 → P (nI (t.2 p)) D) (h0 : p = t.1 → P (-1) D) : xCi (d + 1) m_M_see [.ref 325] D P := by
  have l1 : xl (325 + 1) = 2400 := cl_13_1 xk_M
  have n6 := hT.2.1
  refine xCi_of y_M_see (Nat.le_of_ble_eq_true rfl) (s_M_see_0 xk_M ?_)
  rw [hT.1, h11, nI_clamp (by omega)]
  refine ⟨fun c => ⟨_, rfl, h0 ?_⟩, fun c => ⟨by rw [l1]; exact vp_in_nI (by omega) (by omega), _, rfl, ?_⟩⟩
  · have := (nI_leI (by omega) (by omega)).mp c; omega
  · have hlt : p < t.1 := Nat.lt_of_not_le (fun z => c (nI_le z (by omega)))
    have := h1 hlt
    rw [← (hT.2.2 p hlt).1] at this
    exact this
theorem see_lt {P : Int32 → xD → Prop} {q : Nat} (hT : mtp D t) (h11 : D.1 325 11 = nI q) (hq : q ≤ t.1) (h1 : inT t isLt q = true → P 1 D) (h0 : inT t isLt q = false → P 0 D) : xCi (d + 2) m_M_see [.ref 325] D (fun r D1 => xCi (d + 2) m_M_in [.int r, .int (97 : Int32), .int (122 : Int32)] D1 P) := by
  refine c_M_see hT h11 hq (fun hlt => ?_) (fun e => c_M_in (fun _ => h0 (inT_f (Or.inl (by omega)))) (fun z => absurd (by decide) z))
  have c256 := (hT.2.2 q hlt).2
  refine c_M_in (fun z => h0 (inT_f (Or.inr ?_))) (fun z1 z2 => h1 (inT_t hlt (isLt_t.mpr ⟨?_, ?_⟩)))
  · cases hb : isLt (t.2 q) with
    | false => rfl
    | true =>
      have b := isLt_t.mp hb
      rcases z with z | z
      · have := (nI_ltI (b := 97) (by omega) (by omega)).mp z; omega
      · have := (nI_ltI (a := 122) (by omega) (by omega)).mp z; omega
  · exact Nat.le_of_not_lt (fun y => z1 (nI_lt (b := 97) y (by omega)))
  · exact Nat.le_of_not_lt (fun y => z2 (nI_lt (a := 122) y (by omega)))
theorem see_dg {P : Int32 → xD → Prop} {q : Nat} (hT : mtp D t) (h11 : D.1 325 11 = nI q) (hq : q ≤ t.1) (h1 : inT t isDg q = true → P 1 D) (h0 : inT t isDg q = false → P 0 D) : xCi (d + 2) m_M_see [.ref 325] D (fun r D1 => xCi (d + 2) m_M_in [.int r, .int (48 : Int32), .int (57 : Int32)] D1 P) := by
  refine c_M_see hT h11 hq (fun hlt => ?_) (fun e => c_M_in (fun _ => h0 (inT_f (Or.inl (by omega)))) (fun z => absurd (by decide) z))
  have c256 := (hT.2.2 q hlt).2
  refine c_M_in (fun z => h0 (inT_f (Or.inr ?_))) (fun z1 z2 => h1 (inT_t hlt (isDg_t.mpr ⟨?_, ?_⟩)))
  · cases hb : isDg (t.2 q) with
    | false => rfl
    | true =>
      have b := isDg_t.mp hb
      rcases z with z | z
      · have := (nI_ltI (b := 48) (by omega) (by omega)).mp z; omega
      · have := (nI_ltI (a := 57) (by omega) (by omega)).mp z; omega
  · exact Nat.le_of_not_lt (fun y => z1 (nI_lt (b := 48) y (by omega)))
  · exact Nat.le_of_not_lt (fun y => z2 (nI_lt (a := 57) y (by omega)))
/-- a word's letters from s on -/
theorem tok_w {P : xD → Prop} {s : Nat} {x1 : Int32} (hT : mtp D t) (hs : s < t.1) (hb : inT t isBl s = false) (hl : isLt (t.2 s) = true) (h13 : D.1 325 13 = nI s) (h11 : D.1 325 11 = nI s) (h16 : D.2 325 16 = 0) (h : ∀ D', mF 0 0 11 17 D D' → mtp D' t → mtk D' t s → P D') :
    xPf (d + 3) m_M_token 74 [(0, .ref 325), (1, .int x1), (2, .int (0 : Int32))] [] D (fun r D' => r = none ∧ P D') := by
  have n6 := hT.2.1
  have eS : tS t s = s := runT_f hb
  have eE : tE t s = runT t isLt s := by unfold tE; rw [eS, if_neg (show ¬ t.1 ≤ s by omega), if_pos hl]
  have eK : tK t s = 0 := by unfold tK; rw [eS, if_neg (show ¬ t.1 ≤ s by omega), if_pos hl]
  have key : ∀ m n, s + n + m = t.1 → runT t isLt (s + n) = runT t isLt s → (∀ i, i < n → t.2 (s + i) ≤ 122) → ∀ D', mF 0 0 11 17 D D' → mtp D' t → D'.1 325 13 = nI s → D'.1 325 11 = nI (s + n) → (n ≤ 8 → D'.2 325 16 = lN (wv (fun i => t.2 (s + i)) n)) →
      xPf (d + 3) m_M_token 74 [(0, .ref 325), (1, .int x1), (2, .int (nI n))] [] D' (fun r D' => r = none ∧ P D') := by
    intro m
    induction m with
    | zero =>
      intro n hn e hc D' o T' e13 e11 e16
      refine s_M_token_74 xk_M (see_lt T' e11 (by omega) (fun z => absurd (inT_lt z).1 (by omega)) (fun z => z0 ⟨fun c D5 e5 D6 e6 => ⟨rfl, ?_⟩, fun c D7 e7 D8 e8 => ⟨rfl, ?_⟩⟩))
      · obtain ⟨o5, s5, v5⟩ := mfl e5
        obtain ⟨o6, f6⟩ := mf e6
        have o' : mF 0 0 11 17 D' D6 := (o5.m (by omega) (by omega)).trans (o6.m (by omega) (by omega))
        have n8 := (nI_leI (b := 8) (by omega) (by omega)).mp c
        have er : runT t isLt s = s + n := by rw [← e]; exact runT_f z
        refine h D6 (o.trans o') ((T'.fr o5 (by omega) (by omega)).fr o6 (by omega) (by omega)) ⟨by omega, ?_, ?_, ?_, fun y => absurd (eK.symm.trans y) (by omega), fun _ => ?_⟩
        · rw [o6.2 13 (by omega), s5, eS]; exact e13
        · rw [o6.2 11 (by omega), s5, eE, er]; exact e11
        · rw [f6, eK]; rfl
        · rw [e6]
          show D5.2 325 16 = _
          rw [v5, e16 n8]
          unfold wdv
          rw [eS, eE, er, Nat.add_sub_cancel_left, if_pos n8]
      · obtain ⟨o7, s7, v7⟩ := mfl e7
        obtain ⟨o8, f8⟩ := mf e8
        have o' : mF 0 0 11 17 D' D8 := (o7.m (by omega) (by omega)).trans (o8.m (by omega) (by omega))
        have n8 : ¬ n ≤ 8 := fun y => c (nI_le (b := 8) y (by omega))
        have er : runT t isLt s = s + n := by rw [← e]; exact runT_f z
        refine h D8 (o.trans o') ((T'.fr o7 (by omega) (by omega)).fr o8 (by omega) (by omega)) ⟨by omega, ?_, ?_, ?_, fun y => absurd (eK.symm.trans y) (by omega), fun _ => ?_⟩
        · rw [o8.2 13 (by omega), s7, eS]; exact e13
        · rw [o8.2 11 (by omega), s7, eE, er]; exact e11
        · rw [f8, eK]; rfl
        · rw [e8]
          show D7.2 325 16 = _
          rw [v7]
          unfold wdv
          rw [eS, eE, er, Nat.add_sub_cancel_left, if_neg n8]
    | succ m ih =>
      intro n hn e hc D' o T' e13 e11 e16
      refine s_M_token_74 xk_M (see_lt T' e11 (by omega) (fun z => z1 (c_M_see T' e11 (by omega) (fun hlt D11 eA D12 eB => ?_) (fun y => by omega))) (fun z => z0 ⟨fun c D5 e5 D6 e6 => ⟨rfl, ?_⟩, fun c D7 e7 D8 e8 => ⟨rfl, ?_⟩⟩))
      · obtain ⟨oA, sA, vA⟩ := mfl eA
        obtain ⟨oB, fB⟩ := mf eB
        have o' : mF 0 0 11 17 D' D12 := (oA.m (by omega) (by omega)).trans (oB.m (by omega) (by omega))
        have lt := isLt_t.mp (inT_lt z).2
        have s12 : D12.2 325 16 = D11.2 325 16 := by rw [eB]
        rw [nI_1 n]
        refine ih (n + 1) (by omega) (by rw [← e, runT_s z]; rfl) (fun i hi => ?_) D12 (o.trans o') ((T'.fr oA (by omega) (by omega)).fr oB (by omega) (by omega)) ?_ ?_ (fun n8 => ?_)
        · by_cases y : i = n
          · rw [y]; exact lt.2
          · exact hc i (by omega)
        · rw [oB.2 13 (by omega), sA]; exact e13
        · rw [fB, sA, e11, nI_1]; rfl
        · rw [s12, vA, e16 (by omega)]
          have hw : wv (fun i => t.2 (s + i)) n < 256 ^ n := wv_lt (fun i hi => by have := hc i hi; show t.2 (s + i) < 256; omega)
          have hp : (256 : Nat) ^ n ≤ 256 ^ 7 := Nat.pow_le_pow_right (by omega) (by omega)
          have h3 : (256 : Nat) ^ 7 = 2 ^ 56 := by decide
          rw [shl8 _ _ (by omega) (by omega)]
          rfl
      · obtain ⟨o5, s5, v5⟩ := mfl e5
        obtain ⟨o6, f6⟩ := mf e6
        have o' : mF 0 0 11 17 D' D6 := (o5.m (by omega) (by omega)).trans (o6.m (by omega) (by omega))
        have n8 := (nI_leI (b := 8) (by omega) (by omega)).mp c
        have er : runT t isLt s = s + n := by rw [← e]; exact runT_f z
        refine h D6 (o.trans o') ((T'.fr o5 (by omega) (by omega)).fr o6 (by omega) (by omega)) ⟨by omega, ?_, ?_, ?_, fun y => absurd (eK.symm.trans y) (by omega), fun _ => ?_⟩
        · rw [o6.2 13 (by omega), s5, eS]; exact e13
        · rw [o6.2 11 (by omega), s5, eE, er]; exact e11
        · rw [f6, eK]; rfl
        · rw [e6]
          show D5.2 325 16 = _
          rw [v5, e16 n8]
          unfold wdv
          rw [eS, eE, er, Nat.add_sub_cancel_left, if_pos n8]
      · obtain ⟨o7, s7, v7⟩ := mfl e7
        obtain ⟨o8, f8⟩ := mf e8
        have o' : mF 0 0 11 17 D' D8 := (o7.m (by omega) (by omega)).trans (o8.m (by omega) (by omega))
        have n8 : ¬ n ≤ 8 := fun y => c (nI_le (b := 8) y (by omega))
        have er : runT t isLt s = s + n := by rw [← e]; exact runT_f z
        refine h D8 (o.trans o') ((T'.fr o7 (by omega) (by omega)).fr o8 (by omega) (by omega)) ⟨by omega, ?_, ?_, ?_, fun y => absurd (eK.symm.trans y) (by omega), fun _ => ?_⟩
        · rw [o8.2 13 (by omega), s7, eS]; exact e13
        · rw [o8.2 11 (by omega), s7, eE, er]; exact e11
        · rw [f8, eK]; rfl
        · rw [e8]
          show D7.2 325 16 = _
          rw [v7]
          unfold wdv
          rw [eS, eE, er, Nat.add_sub_cancel_left, if_neg n8]
  exact key (t.1 - s) 0 (by omega) rfl (fun i hi => absurd hi (Nat.not_lt_zero _)) D mF.rfl' hT h13 h11 (fun _ => h16)
/-- a number's digits -/
theorem tok_d {P : xD → Prop} {s : Nat} {x1 : Int32} (hT : mtp D t) (hs : s < t.1) (hb : inT t isBl s = false) (hl : ¬ isLt (t.2 s) = true) (hd : isDg (t.2 s) = true) (h13 : D.1 325 13 = nI s) (h11 : D.1 325 11 = nI s) (h15 : D.1 325 15 = 0) (h : ∀ D', mF 0 0 11 17 D D' → mtp D' t → mtk D' t s → P D') :
    xPf (d + 3) m_M_token 163 [(0, .ref 325), (1, .int x1), (2, .int (0 : Int32))] [] D (fun r D' => r = none ∧ P D') := by
  have n6 := hT.2.1
  have eS : tS t s = s := runT_f hb
  have eE : tE t s = runT t isDg s := by unfold tE; rw [eS, if_neg (show ¬ t.1 ≤ s by omega), if_neg hl, if_pos hd]
  have eK : tK t s = if runT t isDg s - s ≤ 2 then 1 else 4 := by unfold tK; rw [eS, if_neg (show ¬ t.1 ≤ s by omega), if_neg hl, if_pos hd]
  have fin : ∀ n, runT t isDg s = s + n → n ≤ 600 → ∀ D', mF 0 0 11 17 D D' → mtp D' t → D'.1 325 13 = nI s → D'.1 325 11 = nI (s + n) → D'.1 325 15 = nI (vN t s (min n 2)) →
      (nI n ≤ (2 : Int32) → ∀ D5 : xD, D5 = (xu D'.1 325 14 (3 : Int32), D'.2) → (none : Option Value) = none ∧ P D5) ∧ (¬ nI n ≤ (2 : Int32) → ∀ D6 : xD, D6 = (xu D'.1 325 14 (1 : Int32), D'.2) → (none : Option Value) = none ∧ P D6) := by
    intro n er hn D' o T' e13 e11 e15
    rw [er, Nat.add_sub_cancel_left] at eK
    refine ⟨fun c D5 e5 => ⟨rfl, ?_⟩, fun c D6 e6 => ⟨rfl, ?_⟩⟩
    · have n2 := (nI_leI (b := 2) (by omega) (by omega)).mp c
      rw [if_pos n2] at eK
      obtain ⟨o5, f5⟩ := mf e5
      refine h D5 (o.trans (o5.m (by omega) (by omega))) (T'.fr o5 (by omega) (by omega)) ⟨by omega, ?_, ?_, ?_, fun _ => ?_, fun y => absurd (eK.symm.trans y) (by omega)⟩
      · rw [o5.2 13 (by omega), eS]; exact e13
      · rw [o5.2 11 (by omega), eE, er]; exact e11
      · rw [f5, eK]; rfl
      · rw [o5.2 15 (by omega), e15]
        unfold tV
        rw [eS, eE, er, Nat.add_sub_cancel_left, Nat.min_eq_left n2]
    · have n2 : ¬ n ≤ 2 := fun y => c (nI_le (b := 2) y (by omega))
      rw [if_neg n2] at eK
      obtain ⟨o5, f5⟩ := mf e6
      refine h D6 (o.trans (o5.m (by omega) (by omega))) (T'.fr o5 (by omega) (by omega)) ⟨by omega, ?_, ?_, ?_, fun y => absurd (eK.symm.trans y) (by omega), fun y => absurd (eK.symm.trans y) (by omega)⟩
      · rw [o5.2 13 (by omega), eS]; exact e13
      · rw [o5.2 11 (by omega), eE, er]; exact e11
      · rw [f5, eK]; rfl
  have key : ∀ m n, s + n + m = t.1 → runT t isDg (s + n) = runT t isDg s → ∀ D', mF 0 0 11 17 D D' → mtp D' t → D'.1 325 13 = nI s → D'.1 325 11 = nI (s + n) → D'.1 325 15 = nI (vN t s (min n 2)) →
      xPf (d + 3) m_M_token 163 [(0, .ref 325), (1, .int x1), (2, .int (nI n))] [] D' (fun r D' => r = none ∧ P D') := by
    intro m
    induction m with
    | zero =>
      intro n hn e D' o T' e13 e11 e15
      exact s_M_token_163 xk_M (see_dg T' e11 (by omega) (fun z => absurd (inT_lt z).1 (by omega)) (fun z => z0 (fin n (by rw [← e]; exact runT_f z) (by omega) D' o T' e13 e11 e15)))
    | succ m ih =>
      intro n hn e D' o T' e13 e11 e15
      refine s_M_token_163 xk_M (see_dg T' e11 (by omega) (fun z => z1 ⟨fun c D7 e7 D8 e8 => ?_, fun c => c_M_see T' e11 (by omega) (fun hlt D11 eA D12 eB => ?_) (fun y => by omega)⟩) (fun z => z0 (fin n (by rw [← e]; exact runT_f z) (by omega) D' o T' e13 e11 e15)))
      · have n2 := (nI_leI (a := 2) (by omega) (by omega)).mp c
        obtain ⟨o7, f7⟩ := mf e7
        obtain ⟨o8, f8⟩ := mf e8
        rw [nI_1 n]
        refine ih (n + 1) (by omega) (by rw [← e, runT_s z]; rfl) D8 (o.trans ((o7.m (by omega) (by omega)).trans (o8.m (by omega) (by omega)))) ((T'.fr o7 (by omega) (by omega)).fr o8 (by omega) (by omega)) ?_ ?_ ?_
        · rw [o8.2 13 (by omega), o7.2 13 (by omega)]; exact e13
        · rw [f8, o7.2 11 (by omega), e11, nI_1]; rfl
        · rw [o8.2 15 (by omega), f7, e15, Nat.min_eq_right n2, Nat.min_eq_right (show 2 ≤ n + 1 by omega)]
      · have n2 : n < 2 := Nat.lt_of_not_le (fun y => c (nI_le (a := 2) y (by omega)))
        have dg := isDg_t.mp (inT_lt z).2
        obtain ⟨oA, fA⟩ := mf eA
        obtain ⟨oB, fB⟩ := mf eB
        rw [nI_1 n]
        refine ih (n + 1) (by omega) (by rw [← e, runT_s z]; rfl) D12 (o.trans ((oA.m (by omega) (by omega)).trans (oB.m (by omega) (by omega)))) ((T'.fr oA (by omega) (by omega)).fr oB (by omega) (by omega)) ?_ ?_ ?_
        · rw [oB.2 13 (by omega), oA.2 13 (by omega)]; exact e13
        · rw [fB, oA.2 11 (by omega), e11, nI_1]; rfl
        · rw [oB.2 15 (by omega), fA, e15, Nat.min_eq_left (show n ≤ 2 by omega), Nat.min_eq_left (show n + 1 ≤ 2 by omega), show (10 : Int32) = nI 10 from rfl, show (48 : Int32) = nI 48 from rfl, pk_mul, nI_add, pk_sub (by omega), vN]
          congr 1; omega
  exact key (t.1 - s) 0 (by omega) rfl D mF.rfl' hT h13 h11 h15
theorem c_M_token {P : xD → Prop} {p : Nat} (hT : mtp D t) (h11 : D.1 325 11 = nI p) (hp : p ≤ t.1) (h : ∀ D', mF 0 0 11 17 D D' → mtp D' t → mtk D' t p → P D') : xCv (d + 3) m_M_token [.ref 325] D P := by
  have n6 := hT.2.1
  refine xCv_of y_M_token (Nat.le_of_ble_eq_true rfl) ?_
  have key : ∀ m i, i + m = t.1 → tS t i = tS t p → ∀ D', mF 0 0 11 17 D D' → mtp D' t → D'.1 325 11 = nI i → xPf (d + 3) m_M_token 0 [(0, .ref 325)] [] D' (fun r D' => r = none ∧ P D') := by
    intro m
    induction m with
    | zero =>
      intro i hi e D' o T' e11
      have hb : inT t isBl i = false := inT_f (Or.inl (by omega))
      have eS : tS t i = i := runT_f hb
      refine s_M_token_0 xk_M (c_M_see T' e11 (by omega) (fun y => by omega) (fun _ => ⟨fun y => absurd y (by decide), fun _ => c_M_see T' e11 (by omega) (fun y => by omega) (fun _ => ⟨fun _ D6 e6 => ?_, fun y => absurd y (by decide)⟩)⟩))
      obtain ⟨o6, f6⟩ := mf e6
      have T6 := T'.fr o6 (by omega) (by omega)
      refine c_M_see T6 (by rw [o6.2 11 (by omega)]; exact e11) (by omega) (fun y => by omega) (fun _ D9 e9 => ⟨fun y => absurd y (by decide), fun _ D18 e18 => ⟨rfl, ?_⟩⟩)
      obtain ⟨o9, s9, v9⟩ := mfl e9
      obtain ⟨o18, f18⟩ := mf e18
      have o' : mF 0 0 11 17 D' D18 := (o6.m (by omega) (by omega)).trans ((o9.m (by omega) (by omega)).trans (o18.m (by omega) (by omega)))
      have eK : tK t i = 3 := tK_3.mpr (by rw [eS]; omega)
      have eE : tE t i = i := by unfold tE; rw [eS, if_pos (by omega)]
      refine h D18 (o.trans o') ((T6.fr o9 (by omega) (by omega)).fr o18 (by omega) (by omega)) (mtk_e e hp ⟨by omega, ?_, ?_, ?_, fun y => absurd (eK.symm.trans y) (by omega), fun y => absurd (eK.symm.trans y) (by omega)⟩)
      · rw [o18.2 13 (by omega), s9, f6, eS]; exact e11
      · rw [o18.2 11 (by omega), s9, o6.2 11 (by omega), eE]; exact e11
      · rw [f18, eK]; rfl
    | succ m ih =>
      intro i hi e D' o T' e11
      have hlt : i < t.1 := by omega
      have c256 := (T'.2.2 i hlt).2
      have e10 : nI (t.2 i) = (10 : Int32) ↔ t.2 i = 10 := nI_eq (b := 10) (by omega) (by omega)
      have e32 : nI (t.2 i) = (32 : Int32) ↔ t.2 i = 32 := nI_eq (b := 32) (by omega) (by omega)
      have more : (t.2 i = 10 ∨ t.2 i = 32) → ∀ D3 : xD, D3 = (xu D'.1 325 11 (D'.1 325 11 + (1 : Int32)), D'.2) → xPf (d + 3) m_M_token 0 [(0, .ref 325)] [] D3 (fun r D' => r = none ∧ P D') := by
        intro y D3 e3
        obtain ⟨o3, f3⟩ := mf e3
        have hb : inT t isBl i = true := inT_t hlt (isBl_t.mpr y)
        refine ih (i + 1) (by omega) (by rw [← e]; exact (runT_s hb).symm) D3 (o.trans (o3.m (by omega) (by omega))) (T'.fr o3 (by omega) (by omega)) ?_
        rw [f3, e11, nI_1]
      refine s_M_token_0 xk_M (c_M_see T' e11 (by omega) (fun _ => ?_) (fun y => by omega))
      rw [e10]
      refine ⟨fun c => more (Or.inl c), fun c => c_M_see T' e11 (by omega) (fun _ => ?_) (fun y => by omega)⟩
      rw [e32]
      refine ⟨fun c1 D6 e6 => ?_, fun c1 => more (Or.inr c1)⟩
      have hb : inT t isBl i = false := inT_f (Or.inr (by
        cases hbl : isBl (t.2 i) with
        | false => rfl
        | true =>
          rcases isBl_t.mp hbl with y | y
          · exact absurd y c
          · exact absurd y c1))
      have eS : tS t i = i := runT_f hb
      have nle : ¬ t.1 ≤ i := by omega
      obtain ⟨o6, f6⟩ := mf e6
      have T6 := T'.fr o6 (by omega) (by omega)
      have e611 : D6.1 325 11 = nI i := by rw [o6.2 11 (by omega)]; exact e11
      refine c_M_see T6 e611 (by omega) (fun _ D9 e9 => ?_) (fun y => by omega)
      obtain ⟨o9, s9, v9⟩ := mfl e9
      have T9 := T6.fr o9 (by omega) (by omega)
      have o' : mF 0 0 11 17 D' D9 := (o6.m (by omega) (by omega)).trans (o9.m (by omega) (by omega))
      have e913 : D9.1 325 13 = nI i := by rw [s9, f6]; exact e11
      have e911 : D9.1 325 11 = nI i := by rw [s9]; exact e611
      refine ⟨fun _ => ?_, fun y => absurd (nI_pos' (by omega)) y⟩
      have isl : isLt (t.2 i) = true ↔ ¬ (nI (t.2 i) < (97 : Int32)) ∧ ¬ ((122 : Int32) < nI (t.2 i)) := by
        rw [isLt_t, show (nI (t.2 i) < (97 : Int32)) ↔ t.2 i < 97 from nI_ltI (b := 97) (by omega) (by omega), show ((122 : Int32) < nI (t.2 i)) ↔ 122 < t.2 i from nI_ltI (a := 122) (by omega) (by omega)]
        omega
      have isd : isDg (t.2 i) = true ↔ ¬ (nI (t.2 i) < (48 : Int32)) ∧ ¬ ((57 : Int32) < nI (t.2 i)) := by
        rw [isDg_t, show (nI (t.2 i) < (48 : Int32)) ↔ t.2 i < 48 from nI_ltI (b := 48) (by omega) (by omega), show ((57 : Int32) < nI (t.2 i)) ↔ 57 < t.2 i from nI_ltI (a := 57) (by omega) (by omega)]
        omega
      refine c_M_in (fun z => z0 ?_) (fun z2 z3 => z1 (tok_w T9 hlt hb (isl.mpr ⟨z2, z3⟩) e913 e911 v9 (fun D2 o2 T2 k2 => h D2 (o.trans (o'.trans o2)) T2 (mtk_e e hp k2))))
      have nl : ¬ isLt (t.2 i) = true := fun y => by
        have := isl.mp y
        rcases z with q | q
        · exact this.1 q
        · exact this.2 q
      refine c_M_in (fun z' => z0 (fun D14 e14 => ?_)) (fun z2 z3 => z1 (fun D17 e17 => ?_))
      · have nd : ¬ isDg (t.2 i) = true := fun y => by
          have := isd.mp y
          rcases z' with q | q
          · exact this.1 q
          · exact this.2 q
        have eE : tE t i = i + 1 := by unfold tE; rw [eS, if_neg nle, if_neg nl, if_neg nd]
        have eK : tK t i = if t.2 i = 59 then 2 else 4 := by unfold tK; rw [eS, if_neg nle, if_neg nl, if_neg nd]
        obtain ⟨o14, f14⟩ := mf e14
        have e59 : nI (t.2 i) = (59 : Int32) ↔ t.2 i = 59 := nI_eq (b := 59) (by omega) (by omega)
        rw [e59]
        refine ⟨fun y D15 e15 => ⟨rfl, ?_⟩, fun y D16 e16 => ⟨rfl, ?_⟩⟩
        · rw [if_neg y] at eK
          obtain ⟨o15, f15⟩ := mf e15
          refine h D15 (o.trans (o'.trans ((o14.m (by omega) (by omega)).trans (o15.m (by omega) (by omega))))) ((T9.fr o14 (by omega) (by omega)).fr o15 (by omega) (by omega)) (mtk_e e hp ⟨by omega, ?_, ?_, ?_, fun y => absurd (eK.symm.trans y) (by omega), fun y => absurd (eK.symm.trans y) (by omega)⟩)
          · rw [o15.2 13 (by omega), o14.2 13 (by omega), eS]; exact e913
          · rw [o15.2 11 (by omega), f14, eE, e911, nI_1]
          · rw [f15, eK]; rfl
        · rw [if_pos y] at eK
          obtain ⟨o15, f15⟩ := mf e16
          refine h D16 (o.trans (o'.trans ((o14.m (by omega) (by omega)).trans (o15.m (by omega) (by omega))))) ((T9.fr o14 (by omega) (by omega)).fr o15 (by omega) (by omega)) (mtk_e e hp ⟨by omega, ?_, ?_, ?_, fun y => absurd (eK.symm.trans y) (by omega), fun y => absurd (eK.symm.trans y) (by omega)⟩)
          · rw [o15.2 13 (by omega), o14.2 13 (by omega), eS]; exact e913
          · rw [o15.2 11 (by omega), f14, eE, e911, nI_1]
          · rw [f15, eK]; rfl
      · obtain ⟨o17, f17⟩ := mf e17
        exact tok_d (T9.fr o17 (by omega) (by omega)) hlt hb nl (isd.mpr ⟨z2, z3⟩) (by rw [o17.2 13 (by omega)]; exact e913) (by rw [o17.2 11 (by omega)]; exact e911) f17 (fun D2 o2 T2 k2 => h D2 (o.trans (o'.trans ((o17.m (by omega) (by omega)).trans o2))) T2 (mtk_e e hp k2))
  exact key (t.1 - p) p (by omega) rfl D mF.rfl' hT h11
end MLEX
