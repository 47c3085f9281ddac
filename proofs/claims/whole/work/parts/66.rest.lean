/-! A game of looks: what each way costs whom, which ways REST. -/
/-- the figure of p in a way of N -/
def dig (N w p : Nat) : Nat := w / 3 ^ (N - 1 - p) % 3
theorem dig_lt (N w p : Nat) : dig N w p < 3 := Nat.mod_lt _ (by omega)
/-- the table by a way: the last m of N have their EYES by it -/
def tEy (τ : Nat → Int32) (N w : Nat) : Nat → Nat → Int32
  | 0 => τ
  | m + 1 => tSet (tEy τ N w m) (6 + 7 * (N - 1 - m) + 1) (nI (dig N w (N - 1 - m) + 1))
theorem tEy_N (τ : Nat → Int32) (N w m : Nat) {j : Nat} (hj : j < 6) : tN (tEy τ N w m) j = tN τ j := by
  induction m with
  | zero => rfl
  | succ m ih => rw [tEy, tN_set _ _ hj, ih]
theorem tEy_OK {τ : Nat → Int32} (hT : tOK τ) (N w m : Nat) : tOK (tEy τ N w m) := by
  induction m with
  | zero => exact hT
  | succ m ih =>
    have := dig_lt N w (N - 1 - m)
    rw [tEy]
    exact tOK_eyes ih (by omega) (by omega)
theorem tEy_p (τ : Nat → Int32) {N w p u : Nat} (hp : p < N) (hu : u < 7) : ∀ m, m ≤ N → tP (tEy τ N w m) p u = if u = 1 ∧ N ≤ p + m then dig N w p + 1 else tP τ p u := by
  intro m
  induction m with
  | zero => intro _; rw [tEy, if_neg (by omega)]
  | succ m ih =>
    intro hm
    have hd := dig_lt N w (N - 1 - m)
    rw [tEy, tP_set _ _ (by omega) hu, ih (by omega), nI_clamp (by omega)]
    by_cases q : p = N - 1 - m ∧ u = 1
    · rw [if_pos q, if_pos (by omega), q.1]
    · rw [if_neg q]
      by_cases z : u = 1 ∧ N ≤ p + m
      · rw [if_pos z, if_pos (by omega)]
      · rw [if_neg z, if_neg (by omega)]
/-- what p pays while f is FIRST, at the first n tenths of six -/
def lkG (σ : Nat → Int32) (p f n : Nat) : Nat := if f = p then 0 else lkL σ p f n
def lkC (τ : Nat → Int32) (N w p : Nat) : Nat := 20 * N / (dig N w p + 1) + 10 * sm (fun f => lkG (tEy τ N w N) p f 6) N
def lkQ (τ : Nat → Int32) (N w f n p : Nat) : Nat := 20 * N / (dig N w p + 1) + 10 * (sm (fun f => lkG (tEy τ N w N) p f 6) f + lkG (tEy τ N w N) p f n)
theorem lkQ_6 (τ : Nat → Int32) (N w f p : Nat) : lkQ τ N w f 6 p = lkQ τ N w (f + 1) 0 p := by
  unfold lkQ
  rw [sm]
  have : lkG (tEy τ N w N) p (f + 1) 0 = 0 := by unfold lkG; split <;> rfl
  rw [this]; omega
theorem lkQ_N (τ : Nat → Int32) (N w p : Nat) : lkQ τ N w N 0 p = lkC τ N w p := by
  unfold lkQ lkC
  have : lkG (tEy τ N w N) p N 0 = 0 := by unfold lkG; split <;> rfl
  rw [this]; omega
theorem lkG_le (σ : Nat → Int32) (p f n : Nat) : lkG σ p f n ≤ n := by
  unfold lkG
  split
  · omega
  · exact lkL_le _ _ _ _
theorem lkC_le (τ : Nat → Int32) {N w p : Nat} (hN : N ≤ 5) : lkC τ N w p ≤ 400 := by
  have h1 := sm_le_mul (f := fun f => lkG (tEy τ N w N) p f 6) (B := 6) (fun f => lkG_le _ _ _ _) N
  have h2 : 20 * N / (dig N w p + 1) ≤ 20 * N := Nat.div_le_self _ _
  unfold lkC
  omega
/-- a way REST s -/
def lkR (τ : Nat → Int32) (N w : Nat) : Prop := ∀ p, p < N → ∀ o, o < 3 → lkC τ N w p ≤ lkC τ N (w - dig N w p * 3 ^ (N - 1 - p) + o * 3 ^ (N - 1 - p)) p
set_option maxRecDepth 20000 in
theorem ways_in : ∀ N, N < 6 → ∀ w, w < 3 ^ N → ∀ p, p < N → dig N w p * 3 ^ (N - 1 - p) ≤ w ∧ ∀ o, o < 3 → w - dig N w p * 3 ^ (N - 1 - p) + o * 3 ^ (N - 1 - p) < 3 ^ N := by decide +kernel
theorem ways_243 {N : Nat} (h : N ≤ 5) : 3 ^ N ≤ 243 := Nat.pow_le_pow_right (n := 3) (by omega) h
theorem nI_alt {w f o t : Nat} (h : f * t ≤ w) : nI w + (nI o - nI f) * nI t = nI (w - f * t + o * t) := by
  obtain ⟨v, hv⟩ : ∃ v, w = v + f * t := ⟨w - f * t, by omega⟩
  rw [Int32.sub_mul, pk_mul, pk_mul, hv, Nat.add_sub_cancel, ← nI_add, ← nI_add, Int32.add_assoc, Int32.sub_eq_add_neg, Int32.add_comm (nI (o * t)), ← Int32.add_assoc (nI (f * t)), Int32.add_right_neg, Int32.zero_add]
/-- the k-th that RESTs, of those below n; how many -/
noncomputable def lkMany (τ : Nat → Int32) (N : Nat) : Nat → Nat
  | 0 => 0
  | n + 1 => lkMany τ N n + (have := Classical.propDecidable (lkR τ N n); if lkR τ N n then 1 else 0)
theorem lkMany_s {τ : Nat → Int32} {N n : Nat} (h : lkR τ N n) : lkMany τ N (n + 1) = lkMany τ N n + 1 := by
  rw [lkMany]
  simp only [h, if_true]
theorem lkMany_n {τ : Nat → Int32} {N n : Nat} (h : ¬ lkR τ N n) : lkMany τ N (n + 1) = lkMany τ N n := by
  rw [lkMany]
  simp only [h, if_false]; rfl
theorem lkMany_le (τ : Nat → Int32) (N : Nat) : ∀ n, lkMany τ N n ≤ n := by
  intro n
  induction n with
  | zero => exact Nat.le_refl _
  | succ n ih =>
    by_cases h : lkR τ N n
    · rw [lkMany_s h]; omega
    · rw [lkMany_n h]; omega
/-- which way is answered -/
def lkAns (τ : Nat → Int32) (N : Nat) (x r : Int32) : Prop := (∃ w, w < 3 ^ N ∧ lkR τ N w ∧ nI (lkMany τ N w) = x ∧ r = nI w) ∨ ((∀ w, w < 3 ^ N → lkR τ N w → nI (lkMany τ N w) ≠ x) ∧ ((x = -1 ∧ r = nI (lkMany τ N (3 ^ N))) ∨ (x ≠ -1 ∧ r = -1)))
theorem lkMany_mono (τ : Nat → Int32) (N : Nat) {a b : Nat} (h : a ≤ b) : lkMany τ N a ≤ lkMany τ N b := by
  induction b with
  | zero => rw [show a = 0 by omega]; exact Nat.le_refl _
  | succ b ih =>
    by_cases q : a = b + 1
    · rw [q]; exact Nat.le_refl _
    · have := ih (by omega)
      by_cases z : lkR τ N b
      · rw [lkMany_s z]; omega
      · rw [lkMany_n z]; exact this
/-- it is one answer -/
theorem lkAns_one {τ : Nat → Int32} {N : Nat} (hN : N ≤ 5) {x r s : Int32} (h : lkAns τ N x r) (g : lkAns τ N x s) : r = s := by
  have h3 := ways_243 hN
  rcases h with ⟨w, w1, w2, w3, rfl⟩ | ⟨h1, h2⟩
  · rcases g with ⟨v, v1, v2, v3, rfl⟩ | ⟨g1, g2⟩
    · have lw := lkMany_le τ N w
      have lv := lkMany_le τ N v
      have e := (nI_eq (by omega) (by omega)).mp (w3.trans v3.symm)
      rcases Nat.lt_trichotomy w v with q | q | q
      · have := lkMany_mono τ N (show w + 1 ≤ v by omega)
        rw [lkMany_s w2] at this; omega
      · rw [q]
      · have := lkMany_mono τ N (show v + 1 ≤ w by omega)
        rw [lkMany_s v2] at this; omega
    · exact absurd w3 (g1 w w1 w2)
  · rcases g with ⟨v, v1, v2, v3, rfl⟩ | ⟨g1, g2⟩
    · exact absurd v3 (h1 v v1 v2)
    · rcases h2 with ⟨a, rfl⟩ | ⟨a, rfl⟩ <;> rcases g2 with ⟨b, rfl⟩ | ⟨b, rfl⟩
      · rfl
      · exact absurd a b
      · exact absurd b a
      · rfl
section REST
variable {d : Nat} {D : xD} {t l : Nat} {τ : Nat → Int32}
theorem c_Looks_waysOf {P : Int32 → xD → Prop} {n : Nat} (hn : n ≤ 6) (fin : P (nI (3 ^ min n 5)) D) : xCi (d + 1) m_Looks_waysOf [.int (nI n)] D P := by
  refine xCi_of y_Looks_waysOf (Nat.le_of_ble_eq_true rfl) (s_Looks_waysOf_0 ?_)
  have key : ∀ m i, i + m = min n 5 → xPf (d + 1) m_Looks_waysOf 4 [(0, .int (nI n)), (1, .int (nI (3 ^ i))), (2, .int (nI i))] [] D (fun r D' => ∃ x, r = some (.int x) ∧ P x D') := by
    intro m
    induction m with
    | zero =>
      intro i hi
      have ei : i = min n 5 := by omega
      rw [← ei] at fin
      refine s_Looks_waysOf_4 ⟨fun _ => ⟨_, rfl, fin⟩, fun q => ⟨fun _ => ⟨_, rfl, fin⟩, fun z => ?_⟩⟩
      have h1 : i < n := Nat.lt_of_not_le (fun y => q (nI_le y (by omega)))
      have h2 : i < 5 := Nat.lt_of_not_le (fun y => z (nI_le (a := 5) y (by omega)))
      omega
    | succ m ih =>
      intro i hi
      refine s_Looks_waysOf_4 ⟨fun q => absurd q (nI_ge (by omega) (by omega)), fun q => ⟨fun z => absurd z (nI_ge (a := i) (b := 5) (by omega) (by omega)), fun z => ?_⟩⟩
      rw [show (3 : Int32) = nI 3 from rfl, pk_mul, ← Nat.pow_succ, nI_1 i]
      exact ih (i + 1) (by omega)
  exact key (min n 5) 0 (by omega)
theorem c_Looks_weigh {P : xD → Prop} {w N : Nat} (k0 : xk l = 12) (hR : tR D t τ) (hT : tOK τ) (hN : tN τ 5 = N) (h0 : 0 < N) (h5 : N ≤ 5) (hw : w < 3 ^ N) (r6 : rS D (l + 6) 1215) (hd : t + 5 ≤ l + 1 ∨ l + 6 ≤ t)
    (fin : ∀ D', xOut (l + 2) (l + 8) D D' → rS D' (l + 6) 1215 → (∀ j, D'.1 (l + 7) j = if 5 * w ≤ j ∧ j < 5 * w + N then nI (lkC τ N w (j - 5 * w)) else D.1 (l + 7) j) → P D') : xCv (d + 7) m_Looks_weigh [.ref l, .ref t, .int (nI w)] D P := by
  have h243 := ways_243 h5
  refine xCv_of y_Looks_weigh (Nat.le_of_ble_eq_true rfl) (s_Looks_weigh_0 k0 hR.1 (c_Table_people hR hT ?_))
  refine c_Table_copy (ck_12_0 k0) hR (by omega) (by omega) (fun D1 o1 hR1 => ?_)
  rw [hN]
  have nN : ∀ m, tN (tEy τ N w m) 5 = N := fun m => by rw [tEy_N _ _ _ _ (by omega), hN]
  -- who is LAST pays
  have last : ∀ m f, f + m = N → ∀ D', xOut (l + 2) (l + 8) D D' → tR D' (l + 1) (tEy τ N w N) → rS D' (l + 6) 1215 → (∀ j, D'.1 (l + 7) j = if 5 * w ≤ j ∧ j < 5 * w + N then nI (lkQ τ N w f 0 (j - 5 * w)) else D.1 (l + 7) j) → ∀ y : Int32,
      xPf (d + 7) m_Looks_weigh 94 [(0, .ref l), (1, .ref t), (2, .int (nI w)), (3, .int (nI N)), (4, .int (nI (5 * w))), (5, .int y), (6, .int (nI f))] [] D' (fun r D' => r = none ∧ P D') := by
    intro m
    induction m with
    | zero =>
      intro f hf D' oD hR' r' hv y
      have ef : f = N := by omega
      subst ef
      refine s_Looks_weigh_94 k0 hR.1 ⟨fun _ => ⟨rfl, fin D' oD r' (fun j => ?_)⟩, fun q => absurd (nI_le (by omega) (by omega)) q⟩
      rw [hv j]
      by_cases q : 5 * w ≤ j ∧ j < 5 * w + f
      · rw [if_pos q, if_pos q, lkQ_N]
      · rw [if_neg q, if_neg q]
    | succ m ih =>
      intro f hf D' oD hR' r' hv y
      refine s_Looks_weigh_94 k0 hR.1 ⟨fun q => absurd q (nI_ge (by omega) (by omega)), fun _ => ?_⟩
      have ten : ∀ m2 i, i + m2 = 6 → ∀ D', xOut (l + 2) (l + 8) D D' → tR D' (l + 1) (tEy τ N w N) → rS D' (l + 6) 1215 → (∀ j, D'.1 (l + 7) j = if 5 * w ≤ j ∧ j < 5 * w + N then nI (lkQ τ N w f i (j - 5 * w)) else D.1 (l + 7) j) →
          xPf (d + 7) m_Looks_weigh 103 [(0, .ref l), (1, .ref t), (2, .int (nI w)), (3, .int (nI N)), (4, .int (nI (5 * w))), (5, .int y), (6, .int (nI f)), (7, .int (nI i))] [] D' (fun r D' => r = none ∧ P D') := by
        intro m2
        induction m2 with
        | zero =>
          intro i hi D' oD hR' r' hv
          have ei : i = 6 := by omega
          subst ei
          refine s_Looks_weigh_103 k0 hR.1 ⟨fun _ => ?_, fun q => absurd (nI_le (a := 6) (b := 6) (by omega) (by omega)) q⟩
          rw [nI_1 f]
          refine ih (f + 1) (by omega) D' oD hR' r' (fun j => ?_) y
          rw [hv j, lkQ_6]
        | succ m2 ih2 =>
          intro i hi D' oD hR' r' hv
          have hl := tLast_lt (tEy τ N w N) f i N h0
          have hll : ∀ p, lkL (tEy τ N w N) p f (i + 1) = lkL (tEy τ N w N) p f i + if tLast (tEy τ N w N) f i N = p then 1 else 0 := fun p => by rw [lkL, nN]
          refine s_Looks_weigh_103 k0 hR.1 ⟨fun q => absurd q (nI_ge (a := i) (b := 6) (by omega) (by omega)), fun _ => ?_⟩
          refine c_Table_lastOf hR' (tEy_OK hT N w N) (by omega) (by omega) (by rw [nN]; exact h0) ?_
          rw [nN, nI_add, nI_1 i]
          generalize tLast (tEy τ N w N) f i N = z at hl hll ⊢
          refine ⟨fun q => ?_, fun q => ?_⟩
          · have q1 : z ≠ f := fun y => q (by rw [y])
            refine c_add r' (show 5 * w + z < 1215 by omega) (fun D2 o2 v2 => ?_)
            refine ih2 (i + 1) (by omega) D2 (oD.trans (o2.mono (by omega) (by omega))) (hR'.out o2 (by omega)) (r'.out o2 (by omega)) (fun j => ?_)
            rw [show l + 7 = l + 6 + 1 by omega, v2, show l + 6 + 1 = l + 7 by omega, hv j, hv (5 * w + z)]
            by_cases qj : j = 5 * w + z
            · rw [if_pos qj, if_pos (by omega), if_pos (by omega), show (10 : Int32) = nI 10 from rfl, nI_add, show 5 * w + z - 5 * w = z by omega, show j - 5 * w = z by omega]
              congr 1
              unfold lkQ lkG
              rw [if_neg (fun y => q1 y.symm), if_neg (fun y => q1 y.symm), hll z, if_pos rfl]
              omega
            · rw [if_neg qj]
              by_cases qr : 5 * w ≤ j ∧ j < 5 * w + N
              · rw [if_pos qr, if_pos qr]
                congr 1
                unfold lkQ lkG
                rw [hll (j - 5 * w), if_neg (show ¬ z = j - 5 * w by omega)]
                rfl
              · rw [if_neg qr, if_neg qr]
          · have q1 : z = f := (nI_eq (by omega) (by omega)).mp q
            refine c_add r' (show 5 * w + z < 1215 by omega) (fun D2 o2 v2 => ?_)
            refine ih2 (i + 1) (by omega) D2 (oD.trans (o2.mono (by omega) (by omega))) (hR'.out o2 (by omega)) (r'.out o2 (by omega)) (fun j => ?_)
            have vv : D2.1 (l + 7) j = D'.1 (l + 7) j := by
              rw [show l + 7 = l + 6 + 1 by omega, v2]
              by_cases qj : j = 5 * w + z
              · rw [if_pos qj, qj, Int32.add_zero]
              · rw [if_neg qj]
            rw [vv, hv j]
            by_cases qr : 5 * w ≤ j ∧ j < 5 * w + N
            · rw [if_pos qr, if_pos qr]
              congr 1
              unfold lkQ lkG
              by_cases qf : f = j - 5 * w
              · rw [if_pos qf, if_pos qf]
              · rw [if_neg qf, if_neg qf, hll (j - 5 * w), if_neg (by omega)]
                rfl
            · rw [if_neg qr, if_neg qr]
      exact ten 6 0 (by omega) D' oD hR' r' hv
  -- each has his EYES, and pays for them
  have eyes : ∀ k, k ≤ N → ∀ D', xOut (l + 2) (l + 8) D D' → tR D' (l + 1) (tEy τ N w (N - k)) → rS D' (l + 6) 1215 → (∀ j, D'.1 (l + 7) j = if 5 * w + k ≤ j ∧ j < 5 * w + N then nI (20 * N / (dig N w (j - 5 * w) + 1)) else D.1 (l + 7) j) →
      xPf (d + 7) m_Looks_weigh 26 [(0, .ref l), (1, .ref t), (2, .int (nI w)), (3, .int (nI N)), (4, .int (nI (5 * w))), (5, .int (nI (w / 3 ^ (N - k)))), (6, .int (nI k - 1))] [] D' (fun r D' => r = none ∧ P D') := by
    intro k
    induction k with
    | zero =>
      intro _ D' oD hR' r' hv
      refine s_Looks_weigh_26 k0 hR.1 ⟨fun _ => ?_, fun q => absurd (show nI 0 - (1 : Int32) < 0 by decide) q⟩
      refine last N 0 (by omega) D' oD hR' r' (fun j => ?_) _
      rw [hv j]
      by_cases q : 5 * w ≤ j ∧ j < 5 * w + N
      · rw [if_pos q, if_pos (by omega)]
        congr 1
        unfold lkQ
        rw [sm, show lkG (tEy τ N w N) (j - 5 * w) 0 0 = 0 by unfold lkG; split <;> rfl]
        rfl
      · rw [if_neg q, if_neg (by omega)]
    | succ k ih =>
      intro hk D' oD hR' r' hv
      have hdl : w / 3 ^ (N - (k + 1)) % 3 = dig N w k := by unfold dig; rw [show N - 1 - k = N - (k + 1) by omega]
      have hd3 := dig_lt N w k
      have hwd : w / 3 ^ (N - (k + 1)) ≤ w := Nat.div_le_self _ _
      rw [show nI (k + 1) - (1 : Int32) = nI k from pk_sub (a := k + 1) (b := 1) (by omega)]
      refine s_Looks_weigh_26 k0 hR.1 ⟨fun q => absurd q (nI_pos (by omega)), fun _ => ?_⟩
      rw [show (3 : Int32) = nI 3 from rfl, pk_rem (by omega) (by omega) (by omega), hdl, nI_1, pk_div (by omega) (by omega) (by omega), Nat.div_div_eq_div_mul, ← Nat.pow_succ, show (N - (k + 1)).succ = N - k by omega]
      refine c_Table_setOf (w := 1) hR' (by omega) (by omega) (fun D2 o2 hR2 => ?_)
      have eσ : tSet (tEy τ N w (N - (k + 1))) (6 + 7 * k + 1) (nI (dig N w k + 1)) = tEy τ N w (N - k) := by
        rw [show N - k = N - (k + 1) + 1 by omega, tEy, show N - 1 - (N - (k + 1)) = k by omega]
      rw [eσ] at hR2
      refine ⟨fun q => absurd q (nI_nle (by omega) (by omega)), fun _ => ⟨nI_ne0 (by omega) (by omega), ?_⟩⟩
      rw [show (20 : Int32) = nI 20 from rfl, pk_mul, pk_div (by omega) (by omega) (by omega), nI_add]
      refine c_set (r'.out o2 (by omega)) (show 5 * w + k < 1215 by omega) (fun D3 o3 v3 => ?_)
      rw [← Int32.sub_eq_add_neg]
      refine ih (by omega) D3 (oD.trans ((o2.mono (by omega) (by omega)).trans (o3.mono (by omega) (by omega)))) (hR2.out o3 (by omega)) ((r'.out o2 (by omega)).out o3 (by omega)) (fun j => ?_)
      rw [show l + 7 = l + 6 + 1 by omega, v3, o2.1 _ (by omega), show l + 6 + 1 = l + 7 by omega, hv j]
      by_cases q : j = 5 * w + k
      · rw [if_pos q, if_pos (by omega), q, show 5 * w + k - 5 * w = k by omega]
      · rw [if_neg q]
        by_cases z : 5 * w + (k + 1) ≤ j ∧ j < 5 * w + N
        · rw [if_pos z, if_pos (by omega)]
        · rw [if_neg z, if_neg (by omega)]
  have e5 : nI w * (5 : Int32) = nI (5 * w) := by rw [show (5 : Int32) = nI 5 from rfl, pk_mul, Nat.mul_comm]
  rw [e5]
  have := eyes N (Nat.le_refl _) D1 (o1.mono (by omega) (by omega)) (by rw [Nat.sub_self]; exact hR1) (r6.out o1 (by omega)) (fun j => by rw [if_neg (by omega), o1.1 _ (by omega)])
  rw [Nat.sub_self, Nat.pow_zero, Nat.div_one] at this
  exact this
theorem c_Looks_costOf {P : Int32 → xD → Prop} {w p N : Nat} (k0 : xk l = 12) (hR : tR D t τ) (hT : tOK τ) (hN : tN τ 5 = N) (h5 : N ≤ 5) (hw : w < 3 ^ N) (hp : p < N) (r6 : rS D (l + 6) 1215) (hd : t + 5 ≤ l + 1 ∨ l + 6 ≤ t)
    (fin : ∀ D', xOut (l + 2) (l + 8) D D' → rS D' (l + 6) 1215 → P (nI (lkC τ N w p)) D') : xCi (d + 8) m_Looks_costOf [.ref l, .ref t, .int (nI p), .int (nI w)] D P := by
  have h243 := ways_243 h5
  refine xCi_of y_Looks_costOf (Nat.le_of_ble_eq_true rfl) (s_Looks_costOf_0 k0 hR.1 ?_)
  refine c_Looks_weigh k0 hR hT hN (by omega) h5 hw r6 hd (fun D' oD r' hv => ?_)
  have e5 : nI w * (5 : Int32) + nI p = nI (5 * w + p) := by rw [show (5 : Int32) = nI 5 from rfl, pk_mul, nI_add, Nat.mul_comm]
  rw [e5]
  refine c_get r' (show 5 * w + p < 1215 by omega) ⟨_, rfl, ?_⟩
  rw [show l + 6 + 1 = l + 7 by omega, hv, if_pos (by omega), show 5 * w + p - 5 * w = p by omega]
  exact fin D' oD r'
theorem c_Looks_isRest {P : Int32 → xD → Prop} {w N : Nat} (k0 : xk l = 12) (h5 : N ≤ 5) (hw : w < 3 ^ N) (r6 : rS D (l + 6) 1215) (hv : ∀ u p, u < 3 ^ N → p < N → D.1 (l + 7) (5 * u + p) = nI (lkC τ N u p)) (h1 : lkR τ N w → P 1 D) (h0 : ¬ lkR τ N w → P 0 D) : xCi (d + 2) m_Looks_isRest [.ref l, .int (nI N), .int (nI w)] D P := by
  have h243 := ways_243 h5
  refine xCi_of y_Looks_isRest (Nat.le_of_ble_eq_true rfl) (s_Looks_isRest_0 k0 ?_)
  have e5 : ∀ u p, nI u * (5 : Int32) + nI p = nI (5 * u + p) := fun u p => by rw [show (5 : Int32) = nI 5 from rfl, pk_mul, nI_add, Nat.mul_comm]
  have key : ∀ k, k ≤ N → (∀ p, k ≤ p → p < N → ∀ o, o < 3 → lkC τ N w p ≤ lkC τ N (w - dig N w p * 3 ^ (N - 1 - p) + o * 3 ^ (N - 1 - p)) p) →
      xPf (d + 2) m_Looks_isRest 10 [(0, .ref l), (1, .int (nI N)), (2, .int (nI w)), (3, .int (nI (3 ^ (N - k)))), (4, .int (nI (w / 3 ^ (N - k)))), (5, .int (nI k - 1))] [] D (fun r D' => ∃ x, r = some (.int x) ∧ P x D') := by
    intro k
    induction k with
    | zero =>
      intro _ hall
      exact s_Looks_isRest_10 k0 ⟨fun _ => ⟨_, rfl, h1 (fun p hp => hall p (by omega) hp)⟩, fun q => absurd (show nI 0 - (1 : Int32) < 0 by decide) q⟩
    | succ k ih =>
      intro hk hall
      have hdl : w / 3 ^ (N - (k + 1)) % 3 = dig N w k := by unfold dig; rw [show N - 1 - k = N - (k + 1) by omega]
      have hd3 := dig_lt N w k
      have hwd : w / 3 ^ (N - (k + 1)) ≤ w := Nat.div_le_self _ _
      obtain ⟨win, wout⟩ := ways_in N (by omega) w hw k (by omega)
      rw [show nI (k + 1) - (1 : Int32) = nI k from pk_sub (a := k + 1) (b := 1) (by omega)]
      refine s_Looks_isRest_10 k0 ⟨fun q => absurd q (nI_pos (by omega)), fun _ => ?_⟩
      rw [e5]
      refine c_get r6 (show 5 * w + k < 1215 by omega) ?_
      rw [show l + 6 + 1 = l + 7 by omega, hv w k hw (by omega), show (3 : Int32) = nI 3 from rfl, pk_rem (by omega) (by omega) (by omega), hdl, pk_div (by omega) (by omega) (by omega), Nat.div_div_eq_div_mul, ← Nat.pow_succ, show (N - (k + 1)).succ = N - k by omega]
      have inner : ∀ m o, o + m = 3 → (∀ j, j < o → lkC τ N w k ≤ lkC τ N (w - dig N w k * 3 ^ (N - 1 - k) + j * 3 ^ (N - 1 - k)) k) →
          xPf (d + 2) m_Looks_isRest 45 [(0, .ref l), (1, .int (nI N)), (2, .int (nI w)), (3, .int (nI (3 ^ (N - (k + 1))))), (4, .int (nI (w / 3 ^ (N - k)))), (5, .int (nI k)), (6, .int (nI (dig N w k))), (7, .int (nI (lkC τ N w k))), (8, .int (nI o))] [] D (fun r D' => ∃ x, r = some (.int x) ∧ P x D') := by
        intro m
        induction m with
        | zero =>
          intro o ho hj
          have eo : o = 3 := by omega
          subst eo
          refine s_Looks_isRest_45 k0 ⟨fun _ => ?_, fun q => absurd (nI_le (a := 3) (b := 3) (by omega) (by omega)) q⟩
          rw [show (3 : Int32) = nI 3 from rfl, pk_mul, ← Nat.pow_succ, show (N - (k + 1)).succ = N - k by omega, ← Int32.sub_eq_add_neg]
          refine ih (by omega) (fun p hp hpN o ho => ?_)
          by_cases q : p = k
          · rw [q]; exact hj o ho
          · exact hall p (by omega) hpN o ho
        | succ m ihm =>
          intro o ho hj
          refine s_Looks_isRest_45 k0 ⟨fun q => absurd q (nI_ge (a := o) (b := 3) (by omega) (by omega)), fun _ => ?_⟩
          have wo := wout o (by omega)
          rw [show N - (k + 1) = N - 1 - k by omega, nI_alt win, e5]
          refine c_get r6 (show 5 * (w - dig N w k * 3 ^ (N - 1 - k) + o * 3 ^ (N - 1 - k)) + k < 1215 by omega) ?_
          rw [show l + 6 + 1 = l + 7 by omega, hv _ k wo (by omega)]
          have c1 := lkC_le τ (w := w) (p := k) h5
          have c2 := lkC_le τ (w := w - dig N w k * 3 ^ (N - 1 - k) + o * 3 ^ (N - 1 - k)) (p := k) h5
          refine ⟨fun q => ?_, fun q => ⟨_, rfl, h0 (fun z => q ?_)⟩⟩
          · have z := (nI_leI (by omega) (by omega)).mp q
            have nx := ihm (o + 1) (by omega) (fun j hj' => by
              by_cases y : j = o
              · rw [y]; exact z
              · exact hj j (by omega))
            rw [show N - (k + 1) = N - 1 - k by omega] at nx
            rw [nI_1 o]
            exact nx
          · exact nI_le (z k (by omega) o (by omega)) (by omega)
      exact inner 3 0 (by omega) (fun j hj => absurd hj (by omega))
  have := key N (Nat.le_refl _) (fun p hp hpN => absurd hpN (by omega))
  rw [Nat.sub_self, Nat.pow_zero, Nat.div_one] at this
  exact this
theorem c_Looks_resting {P : Int32 → xD → Prop} {x : Int32} {N : Nat} (k0 : xk l = 12) (hR : tR D t τ) (hT : tOK τ) (hN : tN τ 5 = N) (h0 : 0 < N) (h5 : N ≤ 5) (r6 : rS D (l + 6) 1215) (hd : t + 5 ≤ l + 1 ∨ l + 8 ≤ t)
    (fin : ∀ D' r, xOut (l + 2) (l + 8) D D' → rS D' (l + 6) 1215 → lkAns τ N x r → P r D') : xCi (d + 8) m_Looks_resting [.ref l, .ref t, .int x] D P := by
  have h243 := ways_243 h5
  refine xCi_of y_Looks_resting (Nat.le_of_ble_eq_true rfl) (s_Looks_resting_0 k0 hR.1 (c_Table_people hR hT ?_))
  rw [hN]
  refine c_Looks_waysOf (by omega) ?_
  rw [Nat.min_eq_left h5]
  -- which RESTs
  have second : ∀ D', xOut (l + 2) (l + 8) D D' → rS D' (l + 6) 1215 → (∀ u p, u < 3 ^ N → p < N → D'.1 (l + 7) (5 * u + p) = nI (lkC τ N u p)) → ∀ m i, i + m = 3 ^ N → (∀ w, w < i → lkR τ N w → nI (lkMany τ N w) ≠ x) →
      xPf (d + 8) m_Looks_resting 36 [(0, .ref l), (1, .ref t), (2, .int x), (3, .int (nI (3 ^ N))), (4, .int (nI (lkMany τ N i))), (5, .int (nI i))] [] D' (fun r D' => ∃ x, r = some (.int x) ∧ P x D') := by
    intro D' oD r' hv m
    induction m with
    | zero =>
      intro i hi hn
      have ei : i = 3 ^ N := by omega
      subst ei
      refine s_Looks_resting_36 k0 hR.1 ⟨fun _ => ⟨fun q => ⟨_, rfl, fin D' _ oD r' (Or.inr ⟨hn, Or.inr ⟨q, rfl⟩⟩)⟩, fun q => ⟨_, rfl, fin D' _ oD r' (Or.inr ⟨hn, Or.inl ⟨q, rfl⟩⟩)⟩⟩, fun q => absurd (nI_le (by omega) (by omega)) q⟩
    | succ m ih =>
      intro i hi hn
      have hR' := hR.out oD (show t + 5 ≤ l + 2 ∨ l + 8 ≤ t + 1 by omega)
      refine s_Looks_resting_36 k0 hR.1 ⟨fun q => absurd q (nI_ge (by omega) (by omega)), fun _ => c_Table_people hR' hT ?_⟩
      rw [hN]
      refine c_Looks_isRest (τ := τ) k0 h5 (by omega) r' hv (fun z => ?_) (fun z => ?_)
      · refine ⟨fun y => absurd y (by decide), fun _ => ⟨fun y => ?_, fun y => ⟨_, rfl, fin D' _ oD r' (Or.inl ⟨i, by omega, z, y, rfl⟩)⟩⟩⟩
        rw [nI_1 i, nI_1 (lkMany τ N i), ← lkMany_s z]
        refine ih (i + 1) (by omega) (fun w hw hwr => ?_)
        by_cases e : w = i
        · rw [e]; exact y
        · exact hn w (by omega) hwr
      · refine ⟨fun _ => ?_, fun y => absurd rfl y⟩
        rw [nI_1 i, ← lkMany_n z]
        refine ih (i + 1) (by omega) (fun w hw hwr => ?_)
        by_cases e : w = i
        · rw [e] at hwr; exact absurd hwr z
        · exact hn w (by omega) hwr
  -- all are weighed
  have first : ∀ m i, i + m = 3 ^ N → ∀ D', xOut (l + 2) (l + 8) D D' → rS D' (l + 6) 1215 → (∀ u p, u < i → p < N → D'.1 (l + 7) (5 * u + p) = nI (lkC τ N u p)) →
      xPf (d + 8) m_Looks_resting 11 [(0, .ref l), (1, .ref t), (2, .int x), (3, .int (nI (3 ^ N))), (4, .int (nI i))] [] D' (fun r D' => ∃ x, r = some (.int x) ∧ P x D') := by
    intro m
    induction m with
    | zero =>
      intro i hi D' oD r' hv
      have ei : i = 3 ^ N := by omega
      subst ei
      refine s_Looks_resting_11 k0 hR.1 ⟨fun _ => ?_, fun q => absurd (nI_le (by omega) (by omega)) q⟩
      exact second D' oD r' hv (3 ^ N) 0 (by omega) (fun w hw => absurd hw (by omega))
    | succ m ih =>
      intro i hi D' oD r' hv
      have hR' := hR.out oD (show t + 5 ≤ l + 2 ∨ l + 8 ≤ t + 1 by omega)
      refine s_Looks_resting_11 k0 hR.1 ⟨fun q => absurd q (nI_ge (by omega) (by omega)), fun _ => ?_⟩
      refine c_Looks_weigh k0 hR' hT hN h0 h5 (by omega) r' (by omega) (fun D2 o2 r2 v2 => ?_)
      rw [nI_1 i]
      refine ih (i + 1) (by omega) D2 (oD.trans o2) r2 (fun u p hu hp => ?_)
      rw [v2]
      by_cases q : u = i
      · rw [if_pos (by omega), q, show 5 * i + p - 5 * i = p by omega]
      · rw [if_neg (by omega)]; exact hv u p (by omega) hp
  exact first (3 ^ N) 0 (by omega) D xOut.rfl' r6 (fun u p hu => absurd hu (by omega))
end REST
