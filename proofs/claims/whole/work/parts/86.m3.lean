/-! The reference's tape and images. -/
theorem b255 : ∀ i, i < 32 → (255#32).getLsbD i = decide (i < 8) := by decide
theorem bv_8 (y : BitVec 32) : (y.signExtend 8).signExtend 32 &&& 255#32 = y &&& 255#32 := by
  apply BitVec.eq_of_getLsbD_eq
  intro i hi
  rw [BitVec.getLsbD_and, BitVec.getLsbD_and, b255 i hi]
  by_cases h : i < 8
  · rw [BitVec.getLsbD_signExtend, if_pos h, BitVec.getLsbD_signExtend, if_pos hi, decide_eq_true h, decide_eq_true hi, Bool.true_and, Bool.true_and]
  · rw [decide_eq_false h, Bool.and_false, Bool.and_false]
theorem bv_sh (x : BitVec 32) {s : Nat} (hs : s ≤ 24) : x.sshiftRight s &&& 255#32 = BitVec.ofNat 32 (x.toNat / 2 ^ s % 256) := by
  apply BitVec.eq_of_getLsbD_eq
  intro i hi
  rw [BitVec.getLsbD_and, b255 i hi, BitVec.getLsbD_ofNat, decide_eq_true hi, Bool.true_and, show (256 : Nat) = 2 ^ 8 from rfl, Nat.testBit_mod_two_pow, Nat.testBit_div_two_pow]
  by_cases h : i < 8
  · rw [BitVec.getLsbD_sshiftRight, decide_eq_true h, Bool.true_and, Bool.and_true, if_pos (by omega), decide_eq_false (show ¬ 32 ≤ i by omega), Bool.not_false, Bool.true_and, Nat.add_comm i s]
    rfl
  · rw [decide_eq_false h, Bool.and_false, Bool.false_and]
theorem i8_255 (v : Int32) : v.toInt8.toInt32 &&& (255 : Int32) = v &&& (255 : Int32) := Int32.toBitVec_inj.mp (by
  rw [Int32.toBitVec_and, Int32.toBitVec_and, Int8.toBitVec_toInt32, Int32.toBitVec_toInt8, show (255 : Int32).toBitVec = 255#32 from rfl]
  exact bv_8 v.toBitVec)
theorem sh_s : ∀ s, s = 0 ∨ s = 8 ∨ s = 16 ∨ s = 24 → ((nI s &&& (31 : Int32)).toBitVec.smod 32).toNat = s := by
  rintro s (rfl | rfl | rfl | rfl) <;> decide
theorem sh_255 (x : Int32) {s : Nat} (hs : s = 0 ∨ s = 8 ∨ s = 16 ∨ s = 24) : (x >>> (nI s &&& (31 : Int32))) &&& (255 : Int32) = nI (byN x s) := Int32.toBitVec_inj.mp (by
  rw [Int32.toBitVec_and, Int32.toBitVec_shiftRight, BitVec.sshiftRight', sh_s s hs]
  exact bv_sh x.toBitVec (by omega))
/-- what one row holds of it when a place is another's copy -/
def cpR (n f t : Nat) (r r' : Nat → Int32) : Prop := ∀ i, r' i = if n * t ≤ i ∧ i < n * t + n then r (n * f + (i - n * t)) else r i
section M3
variable {d : Nat} {D : xD} {g : gS}
theorem c_M_copyRow {P : xD → Prop} {a n f t : Nat} (k0 : xk a = 100) (ha : a ≠ 325) (hl : xl a = n * 4) (hn : n < 1000) (hf : f < 4) (ht : t < 4) (hft : f ≠ t) (h : ∀ D', mF a (a + 1) 0 0 D D' → cpR n f t (D.1 a) (D'.1 a) → P D') : xCv (d + 1) m_M_copyRow [.ref a, .int (nI n), .int (nI f), .int (nI t)] D P := by
  have bf : n * f + n ≤ n * 4 := by rw [show n * f + n = n * (f + 1) from rfl]; exact Nat.mul_le_mul_left n (by omega)
  have bt : n * t + n ≤ n * 4 := by rw [show n * t + n = n * (t + 1) from rfl]; exact Nat.mul_le_mul_left n (by omega)
  have apart : n * f + n ≤ n * t ∨ n * t + n ≤ n * f := by
    rcases (show f + 1 ≤ t ∨ t + 1 ≤ f by omega) with q | q
    · left; rw [show n * f + n = n * (f + 1) from rfl]; exact Nat.mul_le_mul_left n q
    · right; rw [show n * t + n = n * (t + 1) from rfl]; exact Nat.mul_le_mul_left n q
  generalize hF : n * f = F at bf apart
  generalize hT : n * t = T at bt apart
  refine xCv_of y_M_copyRow (Nat.le_of_ble_eq_true rfl) (s_M_copyRow_0 k0 ?_)
  have key : ∀ m i, i + m = n → ∀ D', mF a (a + 1) 0 0 D D' → (∀ j, D'.1 a j = if T ≤ j ∧ j < T + i then D.1 a (F + (j - T)) else D.1 a j) → xPf (d + 1) m_M_copyRow 3 [(0, .ref a), (1, .int (nI n)), (2, .int (nI f)), (3, .int (nI t)), (4, .int (nI i))] [] D' (fun r D' => r = none ∧ P D') := by
    intro m
    induction m with
    | zero =>
      intro i hi D' o v
      refine s_M_copyRow_3 k0 ⟨fun _ => ⟨rfl, h D' o (fun j => ?_)⟩, fun z => absurd (nI_le (by omega) (by omega)) z⟩
      rw [hT, hF, v j, show i = n by omega]
    | succ m ih =>
      intro i hi D' o v
      refine s_M_copyRow_3 k0 ⟨fun z => absurd z (nI_ge (by omega) (by omega)), fun _ => ?_⟩
      rw [pk_mul, pk_mul, nI_add, nI_add, hF, hT, nI_clamp (by omega), nI_clamp (by omega), nI_1 i]
      refine ⟨by rw [hl]; exact vp_in_nI (by omega) (by omega), by rw [hl]; exact vp_in_nI (by omega) (by omega), fun D1 e1 => ?_⟩
      obtain ⟨o1, v1⟩ := ma ha e1
      refine ih (i + 1) (by omega) D1 (o.trans o1) (fun j => ?_)
      rw [v1]
      by_cases z : j = T + i
      · rw [if_pos z, if_pos (by omega), v, if_neg (by omega), show j - T = i by omega]
      · rw [if_neg z, v]
        by_cases y : T ≤ j ∧ j < T + i
        · rw [if_pos y, if_pos (by omega)]
        · rw [if_neg y, if_neg (by omega)]
  exact key n 0 (by omega) D mF.rfl' (fun j => by rw [if_neg (by omega)])
/-- all that is told at a place is another place's copy -/
def cpA (f t : Nat) (D D' : xD) : Prop := cpR 600 f t (fun i => D.1 326 i &&& (255 : Int32)) (fun i => D'.1 326 i &&& (255 : Int32)) ∧ cpR 1 f t (D.1 327) (D'.1 327) ∧ cpR 1 f t (D.1 328) (D'.1 328) ∧ cpR 1 f t (D.1 329) (D'.1 329) ∧ cpR 5 f t (D.1 330) (D'.1 330) ∧ ∀ s, s < 5 → cpR (2 * wS s) f t (D.1 (331 + s)) (D'.1 (331 + s))
theorem c_M_copyAll {P : xD → Prop} {f t : Nat} (hf : f < 4) (ht : t < 4) (hft : f ≠ t) (h : ∀ D', mF 326 336 0 0 D D' → cpA f t D D' → P D') : xCv (d + 2) m_M_copyAll [.ref 325, .int (nI f), .int (nI t)] D P := by
  have l1 : xl (325 + 1) = 2400 := cl_13_1 xk_M
  refine xCv_of y_M_copyAll (Nat.le_of_ble_eq_true rfl) (s_M_copyAll_0 xk_M ?_)
  have fin : ∀ D', mF 326 327 0 0 D D' → cpR 600 f t (fun i => D.1 326 i &&& (255 : Int32)) (fun i => D'.1 326 i &&& (255 : Int32)) → xPf (d + 2) m_M_copyAll 2 [(0, .ref 325), (1, .int (nI f)), (2, .int (nI t)), (3, .int (nI tSix))] [] D' (fun r D' => r = none ∧ P D') := by
    intro D' o v
    have e6 := tSix_is
    refine s_M_copyAll_2 xk_M ⟨fun _ => ?_, fun z => absurd (by rw [tSix_i]; exact nI_le (by omega) (by omega)) z⟩
    refine c_M_copyRow (n := 1) (ck_13_2 xk_M) (by omega) (cl_13_2 xk_M) (by omega) hf ht hft (fun D1 o1 v1 => ?_)
    refine c_M_copyRow (n := 1) (ck_13_3 xk_M) (by omega) (cl_13_3 xk_M) (by omega) hf ht hft (fun D2 o2 v2 => ?_)
    refine c_M_copyRow (n := 1) (ck_13_4 xk_M) (by omega) (cl_13_4 xk_M) (by omega) hf ht hft (fun D3 o3 v3 => ?_)
    refine c_M_copyRow (n := 5) (ck_13_5 xk_M) (by omega) (cl_13_5 xk_M) (by omega) hf ht hft (fun D4 o4 v4 => ?_)
    refine c_M_copyRow (n := 96) (ck_13_6 xk_M) (by omega) (cl_13_6 xk_M) (by omega) hf ht hft (fun D5 o5 v5 => ?_)
    refine c_M_copyRow (n := 106) (ck_13_7 xk_M) (by omega) (cl_13_7 xk_M) (by omega) hf ht hft (fun D6 o6 v6 => ?_)
    refine c_M_copyRow (n := 242) (ck_13_8 xk_M) (by omega) (cl_13_8 xk_M) (by omega) hf ht hft (fun D7 o7 v7 => ?_)
    refine c_M_copyRow (n := 108) (ck_13_9 xk_M) (by omega) (cl_13_9 xk_M) (by omega) hf ht hft (fun D8 o8 v8 => ?_)
    refine c_M_copyRow (n := 42) (ck_13_10 xk_M) (by omega) (cl_13_10 xk_M) (by omega) hf ht hft (fun D9 o9 v9 => ⟨rfl, ?_⟩)
    have oA : mF 326 328 0 0 D D1 := (o.m (by omega) (by omega)).trans (o1.m (by omega) (by omega))
    have oB : mF 326 329 0 0 D D2 := (oA.m (by omega) (by omega)).trans (o2.m (by omega) (by omega))
    have oC : mF 326 330 0 0 D D3 := (oB.m (by omega) (by omega)).trans (o3.m (by omega) (by omega))
    have oD : mF 326 331 0 0 D D4 := (oC.m (by omega) (by omega)).trans (o4.m (by omega) (by omega))
    have oE : mF 326 332 0 0 D D5 := (oD.m (by omega) (by omega)).trans (o5.m (by omega) (by omega))
    have oF : mF 326 333 0 0 D D6 := (oE.m (by omega) (by omega)).trans (o6.m (by omega) (by omega))
    have oG : mF 326 334 0 0 D D7 := (oF.m (by omega) (by omega)).trans (o7.m (by omega) (by omega))
    have oH : mF 326 335 0 0 D D8 := (oG.m (by omega) (by omega)).trans (o8.m (by omega) (by omega))
    have oI : mF 326 336 0 0 D D9 := (oH.m (by omega) (by omega)).trans (o9.m (by omega) (by omega))
    have p8 : mF 335 336 0 0 D8 D9 := o9.m (by omega) (by omega)
    have p7 : mF 334 336 0 0 D7 D9 := (o8.m (by omega) (by omega)).trans (p8.m (by omega) (by omega))
    have p6 : mF 333 336 0 0 D6 D9 := (o7.m (by omega) (by omega)).trans (p7.m (by omega) (by omega))
    have p5 : mF 332 336 0 0 D5 D9 := (o6.m (by omega) (by omega)).trans (p6.m (by omega) (by omega))
    have p4 : mF 331 336 0 0 D4 D9 := (o5.m (by omega) (by omega)).trans (p5.m (by omega) (by omega))
    have p3 : mF 330 336 0 0 D3 D9 := (o4.m (by omega) (by omega)).trans (p4.m (by omega) (by omega))
    have p2 : mF 329 336 0 0 D2 D9 := (o3.m (by omega) (by omega)).trans (p3.m (by omega) (by omega))
    have p1 : mF 328 336 0 0 D1 D9 := (o2.m (by omega) (by omega)).trans (p2.m (by omega) (by omega))
    have p0 : mF 327 336 0 0 D' D9 := (o1.m (by omega) (by omega)).trans (p1.m (by omega) (by omega))
    refine h D9 oI ⟨?_, ?_, ?_, ?_, ?_, fun s hs => ?_⟩
    · rw [(p0.1 326 (by omega) (by omega)).1]; exact v
    · rw [(p1.1 327 (by omega) (by omega)).1, ← (o.1 327 (by omega) (by omega)).1]; exact v1
    · rw [(p2.1 328 (by omega) (by omega)).1, ← (oA.1 328 (by omega) (by omega)).1]; exact v2
    · rw [(p3.1 329 (by omega) (by omega)).1, ← (oB.1 329 (by omega) (by omega)).1]; exact v3
    · rw [(p4.1 330 (by omega) (by omega)).1, ← (oC.1 330 (by omega) (by omega)).1]; exact v4
    · rcases (show s = 0 ∨ s = 1 ∨ s = 2 ∨ s = 3 ∨ s = 4 by omega) with rfl | rfl | rfl | rfl | rfl
      · rw [(p5.1 (331 + 0) (by omega) (by omega)).1, ← (oD.1 (331 + 0) (by omega) (by omega)).1]; exact v5
      · rw [(p6.1 (331 + 1) (by omega) (by omega)).1, ← (oE.1 (331 + 1) (by omega) (by omega)).1]; exact v6
      · rw [(p7.1 (331 + 2) (by omega) (by omega)).1, ← (oF.1 (331 + 2) (by omega) (by omega)).1]; exact v7
      · rw [(p8.1 (331 + 3) (by omega) (by omega)).1, ← (oG.1 (331 + 3) (by omega) (by omega)).1]; exact v8
      · rw [← (oH.1 (331 + 4) (by omega) (by omega)).1]; exact v9
  have key : ∀ m i, i + m = tSix → ∀ D', mF 326 327 0 0 D D' → (∀ j, D'.1 326 j &&& (255 : Int32) = if 600 * t ≤ j ∧ j < 600 * t + i then D.1 326 (600 * f + (j - 600 * t)) &&& (255 : Int32) else D.1 326 j &&& (255 : Int32)) → xPf (d + 2) m_M_copyAll 2 [(0, .ref 325), (1, .int (nI f)), (2, .int (nI t)), (3, .int (nI i))] [] D' (fun r D' => r = none ∧ P D') := by
    have e6 := tSix_is
    intro m
    induction m with
    | zero =>
      intro i hi D' o v
      rw [show i = tSix by omega]
      refine fin D' o (fun j => ?_)
      show D'.1 326 j &&& (255 : Int32) = if 600 * t ≤ j ∧ j < 600 * t + 600 then D.1 326 (600 * f + (j - 600 * t)) &&& (255 : Int32) else D.1 326 j &&& (255 : Int32)
      rw [v j, show i = 600 by omega]
    | succ m ih =>
      intro i hi D' o v
      refine s_M_copyAll_2 xk_M ⟨fun z => absurd z (by rw [tSix_i]; exact nI_ge (by omega) (by omega)), fun _ => ?_⟩
      rw [show (600 : Int32) * nI f = nI (600 * f) from pk_mul 600 f, show (600 : Int32) * nI t = nI (600 * t) from pk_mul 600 t, nI_add, nI_add, nI_clamp (by omega), nI_clamp (by omega), nI_1 i, l1]
      refine ⟨vp_in_nI (by omega) (by omega), vp_in_nI (by omega) (by omega), fun D1 e1 => ?_⟩
      obtain ⟨o1, v1⟩ := ma (by omega) e1
      refine ih (i + 1) (by omega) D1 (o.trans o1) (fun j => ?_)
      have v1j : D1.1 326 j = if j = 600 * t + i then vp_nar .byte (D'.1 326 (600 * f + i)) else D'.1 326 j := v1 j
      rw [v1j]
      by_cases z : j = 600 * t + i
      · rw [if_pos z, vp_nar_byte, i8_255, if_pos (by omega), v, if_neg (by omega), show j - 600 * t = i by omega]
      · rw [if_neg z, v]
        by_cases y : 600 * t ≤ j ∧ j < 600 * t + i
        · rw [if_pos y, if_pos (by omega)]
        · rw [if_neg y, if_neg (by omega)]
  exact key tSix 0 (by omega) D mF.rfl' (fun j => by rw [if_neg (by omega)])
theorem cpR_in {n f t i : Nat} {r r' : Nat → Int32} (h : cpR n f t r r') (hi : i < n) : r' (n * t + i) = r (n * f + i) := by
  rw [h, if_pos (by omega)]; congr 1; omega
theorem cpR_out {n f t k i : Nat} {r r' : Nat → Int32} (h : cpR n f t r r') (hi : i < n) (hk : k ≠ t) : r' (n * k + i) = r (n * k + i) := by
  have : n * k + n ≤ n * t ∨ n * t + n ≤ n * k := by
    rcases (show k + 1 ≤ t ∨ t + 1 ≤ k by omega) with q | q
    · left; rw [show n * k + n = n * (k + 1) from rfl]; exact Nat.mul_le_mul_left n q
    · right; rw [show n * t + n = n * (t + 1) from rfl]; exact Nat.mul_le_mul_left n q
  rw [h, if_neg (by omega)]
theorem wS_ix (s k j i : Nat) : wS s * (2 * k + j) + i = 2 * wS s * k + (wS s * j + i) := by
  rw [Nat.mul_add, ← Nat.mul_assoc, Nat.mul_comm (wS s) 2, Nat.add_assoc]
theorem mT_cp {D' : xD} {f t : Nat} {σ : sT} (c : cpA f t D D') (h : mT D f σ) (hO : sOK σ) : mT D' t σ := by
  obtain ⟨h1, h2, h3, h4, h5, h6⟩ := h
  obtain ⟨c1, c2, c3, c4, c5, c6⟩ := c
  have n6 := hO.1
  have one : ∀ {r r' : Nat → Int32}, cpR 1 f t r r' → r' t = r f := fun c => by have := cpR_in (i := 0) c (by omega); rw [Nat.one_mul, Nat.one_mul] at this; exact this
  refine ⟨by rw [one c2]; exact h1, fun j hj => ?_, by rw [one c3]; exact h3, by rw [one c4]; exact h4, fun s hs => by rw [cpR_in c5 hs]; exact h5 s hs, fun s hs j hj i hi => ?_⟩
  · have := cpR_in (i := j) c1 (by omega)
    rw [← h2 j hj]; exact this
  · have c2 := (hO.2.2 s hs).1
    have b : wS s * j + i < 2 * wS s := by
      have : wS s * j ≤ wS s * 1 := Nat.mul_le_mul_left _ (by omega)
      omega
    rw [wS_ix, cpR_in (c6 s hs) b, ← wS_ix]; exact h6 s hs j hj i hi
theorem mT_cp' {D' : xD} {f t k : Nat} {σ : sT} (c : cpA f t D D') (hk : k ≠ t) (h : mT D k σ) (hO : sOK σ) : mT D' k σ := by
  obtain ⟨h1, h2, h3, h4, h5, h6⟩ := h
  obtain ⟨c1, c2, c3, c4, c5, c6⟩ := c
  have n6 := hO.1
  have one : ∀ {r r' : Nat → Int32}, cpR 1 f t r r' → r' k = r k := fun c => by have := cpR_out (i := 0) c (by omega) hk; rw [Nat.one_mul, Nat.add_zero] at this; exact this
  refine ⟨by rw [one c2]; exact h1, fun j hj => ?_, by rw [one c3]; exact h3, by rw [one c4]; exact h4, fun s hs => by rw [cpR_out c5 hs hk]; exact h5 s hs, fun s hs j hj i hi => ?_⟩
  · have := cpR_out (i := j) c1 (by omega) hk
    rw [← h2 j hj]; exact this
  · have c2 := (hO.2.2 s hs).1
    have b : wS s * j + i < 2 * wS s := by
      have : wS s * j ≤ wS s * 1 := Nat.mul_le_mul_left _ (by omega)
      omega
    rw [wS_ix, cpR_out (c6 s hs) b hk, ← wS_ix]; exact h6 s hs j hj i hi
/-- only the reference's have changed -/
def mK (D D' : xD) : Prop := ∀ i, i < 325 → D'.1 i = D.1 i ∧ D'.2 i = D.2 i
theorem mF.k {lo hi f g : Nat} {D D1 : xD} (h : mF lo hi f g D D1) (q : ∀ i, i < 325 → i < lo ∨ hi ≤ i) : mK D D1 := fun i a => h.1 i (by omega) (q i a)
theorem mO.k {D D1 : xD} (h : mO D D1) : mK D D1 := fun i a => h i (by omega) (by omega)
theorem mK.trans {D D1 D2 : xD} (h1 : mK D D1) (h2 : mK D1 D2) : mK D D2 := fun i a => ⟨((h2 i a).1).trans (h1 i a).1, ((h2 i a).2).trans (h1 i a).2⟩
theorem c_M_image {P : Int32 → xD → Prop} {x : Int32} (hI : mI D g) (h : ∀ D', mK D D' → mI D' (gImage g x) → P (aImage x) D') : xCi (d + 40) m_M_image [.ref 325, .int x] D P := by
  have l42 : xl (325 + 42) = 3 := cl_13_80 xk_M
  refine xCi_of y_M_image (Nat.le_of_ble_eq_true rfl) (s_M_image_0 xk_M (fun D1 e1 => ?_))
  obtain ⟨o1, I1⟩ := m_0 hI e1
  unfold gImage aImage at h
  refine c_M_in0 3 (by omega) (by decide) (fun q => z0' ⟨_, rfl, ?_⟩) (fun k q hk hx => z1' ?_)
  · rw [q] at h; exact h D1 o1.k I1
  · simp only [q] at h
    rw [hx, nI_1, nI_clamp (by omega)]
    refine c_M_copyAll (f := 0) (by omega) (by omega) (by omega) (fun D2 o2 c2 => ⟨by rw [l42]; exact vp_in_nI (by omega) (by omega), fun D3 e3 => ⟨_, rfl, ?_⟩⟩)
    obtain ⟨o3, v3⟩ := ma (by omega) e3
    have o3' : mF 367 368 0 0 D2 D3 := o3.m (by omega) (by omega)
    have w : ∀ k σ, mT D2 k σ → mT D3 k σ := fun k σ hT => by
      obtain ⟨h1, h2, h3, h4, h5, h6⟩ := hT
      refine ⟨by rw [(o3'.1 327 (by omega) (by omega)).1]; exact h1, fun j hj => by rw [(o3'.1 326 (by omega) (by omega)).1]; exact h2 j hj, by rw [(o3'.1 328 (by omega) (by omega)).1]; exact h3, by rw [(o3'.1 329 (by omega) (by omega)).1]; exact h4, fun s hs => by rw [(o3'.1 330 (by omega) (by omega)).1]; exact h5 s hs, fun s hs j hj i hi => ?_⟩
      rw [(o3'.1 (331 + s) (by omega) (by omega)).1]; exact h6 s hs j hj i hi
    refine h D3 (o1.k.trans ((o2.k (by omega)).trans (o3'.k (by omega)))) ⟨w _ _ (mT_cp' c2 (by omega) I1.1 I1.2.1), I1.2.1, fun j hj σ hσ => ?_, fun j hj => ?_⟩
    · have hσ : (if j = k then some g.1 else g.2 j) = some σ := hσ
      by_cases z : j = k
      · rw [if_pos z] at hσ
        cases hσ
        rw [z]
        exact ⟨w _ _ (mT_cp c2 I1.1 I1.2.1), I1.2.1⟩
      · rw [if_neg z] at hσ
        obtain ⟨a1, a2⟩ := I1.2.2.1 j hj σ hσ
        exact ⟨w _ _ (mT_cp' c2 (by omega) a1 a2), a2⟩
    · have v3j : D3.1 367 j = if j = k then vp_nar .boolean (1 : Int32) else D2.1 367 j := v3 j
      rw [v3j]
      show _ = if (if j = k then some g.1 else g.2 j) = none then 0 else 1
      by_cases z : j = k
      · rw [if_pos z, if_pos z, if_neg (fun y => by cases y)]; rfl
      · rw [if_neg z, if_neg z, (o2.1 367 (by omega) (by omega)).1]; exact I1.2.2.2 j hj
theorem c_M_again {P : Int32 → xD → Prop} {x : Int32} (hI : mI D g) (h : ∀ D', mK D D' → mI D' (gAgain g x) → P (aAgain g x) D') : xCi (d + 40) m_M_again [.ref 325, .int x] D P := by
  have l42 : xl (325 + 42) = 3 := cl_13_80 xk_M
  refine xCi_of y_M_again (Nat.le_of_ble_eq_true rfl) (s_M_again_0 xk_M (fun D1 e1 => ?_))
  obtain ⟨o1, I1⟩ := m_0 hI e1
  unfold gAgain aAgain at h
  refine c_M_in0 3 (by omega) (by decide) (fun q => z0 ⟨_, rfl, ?_⟩) (fun k q hk hx => z1 ?_)
  · rw [q] at h; exact h D1 o1.k I1
  · simp only [q] at h
    rw [hx, nI_1, nI_clamp (by omega)]
    have ek : D1.1 (325 + 42) k = if g.2 k = none then 0 else 1 := I1.2.2.2 k hk
    rw [ek]
    refine ⟨by rw [l42]; exact vp_in_nI (by omega) (by omega), ?_⟩
    cases hg : g.2 k with
    | none =>
      rw [hg] at h
      rw [if_pos rfl]
      exact z0' ⟨_, rfl, h D1 o1.k I1⟩
    | some σ =>
      rw [hg] at h
      rw [if_neg (fun y => by cases y)]
      refine z1' (c_M_copyAll (t := 0) (by omega) (by omega) (by omega) (fun D2 o2 c2 => ⟨_, rfl, ?_⟩))
      obtain ⟨a1, a2⟩ := I1.2.2.1 k hk σ hg
      refine h D2 (o1.k.trans (o2.k (by omega))) ⟨mT_cp c2 a1 a2, a2, fun j hj σ' hσ' => ?_, fun j hj => ?_⟩
      · obtain ⟨b1, b2⟩ := I1.2.2.1 j hj σ' hσ'
        exact ⟨mT_cp' c2 (by omega) b1 b2, b2⟩
      · rw [(o2.1 367 (by omega) (by omega)).1]; exact I1.2.2.2 j hj
/-- the tape, at its end -/
def mtR (D : xD) (t : Nat × (Nat → Nat)) : Prop := D.1 327 0 = nI t.1 ∧ ∀ j, j < t.1 → D.1 326 j &&& (255 : Int32) = nI (t.2 j)
theorem mT_tape {D' : xD} {t : Nat × (Nat → Nat)} {lo hi f u : Nat} (hI : mI D g) (o : mF 326 328 0 0 D D') (hr : mtR D' t) (h6 : t.1 ≤ 600) (hb : tpB t) (out : ∀ i, (600 ≤ i → D'.1 326 i = D.1 326 i) ∧ (0 < i → D'.1 327 i = D.1 327 i)) : mI D' ((t, g.1.2), g.2) := by
  obtain ⟨⟨h1, h2, h3, h4, h5, h6'⟩, i2, i3, i4⟩ := hI
  refine ⟨⟨hr.1, fun j hj => by rw [show 600 * 0 + j = j by omega]; exact hr.2 j hj, by rw [(o.1 328 (by omega) (by omega)).1]; exact h3, by rw [(o.1 329 (by omega) (by omega)).1]; exact h4, fun s hs => by rw [(o.1 330 (by omega) (by omega)).1]; exact h5 s hs, fun s hs j hj i hi => ?_⟩, ⟨h6, hb, i2.2.2⟩, fun k hk σ hσ => ⟨?_, (i3 k hk σ hσ).2⟩, fun k hk => by rw [(o.1 367 (by omega) (by omega)).1]; exact i4 k hk⟩
  · rw [(o.1 (331 + s) (by omega) (by omega)).1]; exact h6' s hs j hj i hi
  · obtain ⟨⟨g1, g2, g3, g4, g5, g6⟩, -⟩ := i3 k hk σ hσ
    refine ⟨by rw [(out _).2 (by omega)]; exact g1, fun j hj => by rw [(out _).1 (by omega)]; exact g2 j hj, by rw [(o.1 328 (by omega) (by omega)).1]; exact g3, by rw [(o.1 329 (by omega) (by omega)).1]; exact g4, fun s hs => by rw [(o.1 330 (by omega) (by omega)).1]; exact g5 s hs, fun s hs j hj i hi => ?_⟩
    rw [(o.1 (331 + s) (by omega) (by omega)).1]; exact g6 s hs j hj i hi
theorem c_M_four {P : xD → Prop} {t : Nat × (Nat → Nat)} {x : Int32} (hr : mtR D t) (ht : t.1 + 4 ≤ 600) (h : ∀ D', mF 326 328 0 0 D D' → mtR D' (wr4 t x) → (∀ i, (600 ≤ i → D'.1 326 i = D.1 326 i) ∧ (0 < i → D'.1 327 i = D.1 327 i)) → P D') : xCv (d + 1) m_M_four [.ref 325, .int x] D P := by
  have l1 : xl (325 + 1) = 2400 := cl_13_1 xk_M
  have l2 : xl (325 + 2) = 4 := cl_13_2 xk_M
  refine xCv_of y_M_four (Nat.le_of_ble_eq_true rfl) (s_M_four_0 xk_M ?_)
  have one : ∀ D' (u : Nat × (Nat → Nat)) (s : Nat) (k : Int32), (s = 0 ∨ s = 8 ∨ s = 16 ∨ s = 24) → k = nI s → u.1 < 600 → mtR D' u → (∀ D'', mF 326 328 0 0 D' D'' → mtR D'' (pushT u (byN x s)) → (∀ i, (600 ≤ i → D''.1 326 i = D'.1 326 i) ∧ (0 < i → D''.1 327 i = D'.1 327 i)) → xPf (d + 1) m_M_four 3 [(0, .ref 325), (1, .int x), (2, .int (k + (-8 : Int32)))] [] D'' (fun r D' => r = none ∧ P D')) →
      xPf (d + 1) m_M_four 3 [(0, .ref 325), (1, .int x), (2, .int k)] [] D' (fun r D' => r = none ∧ P D') := by
    intro D' u s k hs ek hu hr' nxt
    refine s_M_four_3 xk_M ⟨fun z => absurd z (by rw [ek]; exact nI_pos (by omega)), fun _ => ?_⟩
    have e0 : D'.1 (325 + 2) 0 = nI u.1 := hr'.1
    rw [k00, e0, nI_clamp (by omega), l1, l2]
    refine ⟨vp_in_nI (n := 0) (by omega) (by omega), vp_in_nI (by omega) (by omega), fun D1 e1 => ⟨vp_in_nI (n := 0) (by omega) (by omega), vp_in_nI (n := 0) (by omega) (by omega), fun D2 e2 => ?_⟩⟩
    obtain ⟨o1, v1⟩ := ma (by omega) e1
    obtain ⟨o2, v2⟩ := ma (by omega) e2
    have v1' : ∀ j, D1.1 326 j = if j = u.1 then vp_nar .byte ((x >>> (k &&& 31)).toInt8.toInt32) else D'.1 326 j := v1
    have v2' : ∀ j, D2.1 327 j = if j = 0 then D1.1 327 0 + 1 else D1.1 327 j := v2
    have s1 : D1.1 327 = D'.1 327 := (o1.1 327 (by omega) (by omega)).1
    have s2 : D2.1 326 = D1.1 326 := (o2.1 326 (by omega) (by omega)).1
    refine nxt D2 ((o1.m (by omega) (by omega)).trans (o2.m (by omega) (by omega))) ⟨?_, fun j hj => ?_⟩ (fun i => ⟨fun hi => ?_, fun hi => ?_⟩)
    · rw [v2', if_pos rfl, s1, hr'.1, nI_1]; rfl
    · have hj : j < u.1 + 1 := hj
      rw [s2, v1']
      show _ = nI (if j = u.1 then byN x s else u.2 j)
      by_cases z : j = u.1
      · rw [if_pos z, if_pos z, vp_nar_byte, i8_255, i8_255, ek]; exact sh_255 x hs
      · rw [if_neg z, if_neg z]; exact hr'.2 j (by omega)
    · rw [s2, v1', if_neg (by omega)]
    · rw [v2', if_neg (by omega), s1]
  refine one D t 24 24 (by omega) rfl (by omega) hr (fun D1 o1 r1 u1 => ?_)
  refine one D1 _ 16 _ (by omega) (by decide) (by show t.1 + 1 < 600; omega) r1 (fun D2 o2 r2 u2 => ?_)
  refine one D2 _ 8 _ (by omega) (by decide) (by show t.1 + 1 + 1 < 600; omega) r2 (fun D3 o3 r3 u3 => ?_)
  refine one D3 _ 0 _ (by omega) (by decide) (by show t.1 + 1 + 1 + 1 < 600; omega) r3 (fun D4 o4 r4 u4 => ?_)
  refine s_M_four_3 xk_M ⟨fun _ => ⟨rfl, h D4 (o1.trans (o2.trans (o3.trans o4))) r4 (fun i => ⟨fun hi => ?_, fun hi => ?_⟩)⟩, fun z => absurd (by decide) z⟩
  · rw [(u4 i).1 hi, (u3 i).1 hi, (u2 i).1 hi, (u1 i).1 hi]
  · rw [(u4 i).2 hi, (u3 i).2 hi, (u2 i).2 hi, (u1 i).2 hi]
theorem c_M_feed {P : Int32 → xD → Prop} {a b c x e : Int32} (hI : mI D g) (h : ∀ D', mK D D' → mI D' (gFeed g a b c x e) → P (aFeed g) D') : xCi (d + 40) m_M_feed [.ref 325, .int a, .int b, .int c, .int x, .int e] D P := by
  have l2 : xl (325 + 2) = 4 := cl_13_2 xk_M
  refine xCi_of y_M_feed (Nat.le_of_ble_eq_true rfl) (s_M_feed_0 xk_M (fun D1 e1 => ?_))
  obtain ⟨o1, I1⟩ := m_0 hI e1
  have n6 := I1.2.1.1
  have r1 : mtR D1 g.1.1 := ⟨I1.1.1, fun j hj => by have := I1.1.2.1 j hj; rw [show 600 * 0 + j = j by omega] at this; exact this⟩
  have e0 : D1.1 (325 + 2) 0 = nI g.1.1.1 := r1.1
  unfold gFeed aFeed at h
  rw [k00, l2, e0, show (20 : Int32) = nI 20 from rfl, nI_add]
  refine ⟨vp_in_nI (n := 0) (by omega) (by omega), fun q => ?_, fun q => ⟨_, rfl, ?_⟩⟩
  · have q1 := (nI_leI (b := 600) (by omega) (by omega)).mp q
    rw [if_neg (by omega), if_neg (by omega)] at h
    refine c_M_four r1 (by omega) (fun D2 o2 r2 u2 => ?_)
    refine c_M_four r2 (by show g.1.1.1 + 4 + 4 ≤ 600; omega) (fun D3 o3 r3 u3 => ?_)
    refine c_M_four r3 (by show g.1.1.1 + 8 + 4 ≤ 600; omega) (fun D4 o4 r4 u4 => ?_)
    refine c_M_four r4 (by show g.1.1.1 + 12 + 4 ≤ 600; omega) (fun D5 o5 r5 u5 => ?_)
    refine c_M_four r5 (by show g.1.1.1 + 16 + 4 ≤ 600; omega) (fun D6 o6 r6 u6 => ⟨vp_in_nI (n := 0) (by omega) (by omega), _, rfl, ?_⟩)
    have o26 : mF 326 328 0 0 D1 D6 := o2.trans (o3.trans (o4.trans (o5.trans o6)))
    have e6 : D6.1 (325 + 2) 0 = nI (g.1.1.1 + 20) := r6.1
    rw [e6]
    refine h D6 (o1.k.trans (o26.k (by omega))) (mT_tape (lo := 0) (hi := 0) (f := 0) (u := 0) I1 o26 r6 (by show g.1.1.1 + 20 ≤ 600; omega) (tpB_wr (tpB_wr (tpB_wr (tpB_wr (tpB_wr I1.2.1.2.1))))) (fun i => ⟨fun hi => ?_, fun hi => ?_⟩))
    · rw [(u6 i).1 hi, (u5 i).1 hi, (u4 i).1 hi, (u3 i).1 hi, (u2 i).1 hi]
    · rw [(u6 i).2 hi, (u5 i).2 hi, (u4 i).2 hi, (u3 i).2 hi, (u2 i).2 hi]
  · have q1 : 600 < g.1.1.1 + 20 := Nat.lt_of_not_le (fun z => q (nI_le (b := 600) z (by omega)))
    rw [if_pos q1, if_pos q1] at h
    exact h D1 o1.k I1
theorem c_M_end {P : Int32 → xD → Prop} {n : Int32} (hI : mI D g) (h : ∀ D', mK D D' → mI D' (gEnd g n) → P (aEnd g n) D') : xCi (d + 40) m_M_end [.ref 325, .int n] D P := by
  have l2 : xl (325 + 2) = 4 := cl_13_2 xk_M
  refine xCi_of y_M_end (Nat.le_of_ble_eq_true rfl) (s_M_end_0 xk_M (fun D1 e1 => ?_))
  obtain ⟨o1, I1⟩ := m_0 hI e1
  have n6 := I1.2.1.1
  have r1 : mtR D1 g.1.1 := ⟨I1.1.1, fun j hj => by have := I1.1.2.1 j hj; rw [show 600 * 0 + j = j by omega] at this; exact this⟩
  have e0 : D1.1 (325 + 2) 0 = nI g.1.1.1 := r1.1
  unfold gEnd aEnd at h
  rw [k00, l2, e0]
  refine ⟨vp_in_nI (n := 0) (by omega) (by omega), c_M_in0 (g.1.1.1 + 1) (by omega) (aI_s _).symm (fun q => z0' ⟨_, rfl, ?_⟩) (fun k q hk hx => z1' ⟨vp_in_nI (n := 0) (by omega) (by omega), fun D2 e2 => ⟨_, rfl, ?_⟩⟩)⟩
  · rw [q] at h; exact h D1 o1.k I1
  · simp only [q] at h
    obtain ⟨o2, v2⟩ := ma (by omega) e2
    have v2' : ∀ j, D2.1 327 j = if j = 0 then n else D1.1 327 j := v2
    have o2' : mF 326 328 0 0 D1 D2 := o2.m (by omega) (by omega)
    have s2 : D2.1 326 = D1.1 326 := (o2.1 326 (by omega) (by omega)).1
    rw [hx]
    refine h D2 (o1.k.trans (o2'.k (by omega))) (mT_tape (t := (k, g.1.1.2)) (lo := 0) (hi := 0) (f := 0) (u := 0) I1 o2' ⟨by rw [v2', if_pos rfl, hx], fun j hj => by rw [s2]; exact r1.2 j (by have : j < k := hj; omega)⟩ (by show k ≤ 600; omega) (fun j hj => I1.2.1.2.1 j (by have : j < k := hj; omega)) (fun i => ⟨fun hi => by rw [s2], fun hi => by rw [v2', if_neg (by omega)]⟩))
end M3
