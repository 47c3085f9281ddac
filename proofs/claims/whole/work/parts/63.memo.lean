/-! The best ways: by how many orders of the next cards one gets there; what is remembered of them. -/
theorem sm_mul (f : Nat → Nat) (c : Nat) : ∀ n, sm (fun k => f k * c) n = sm f n * c := by
  intro n
  induction n with
  | zero => simp [sm]
  | succ n ih => rw [sm, ih, sm, Nat.add_mul]
theorem sm_inc {f : Nat → Nat} {k n : Nat} (h : k < n) : sm (inc f k) n = sm f n + 1 := by
  have h1 := sm_at f (v := f k + 1) h
  have e : sm (inc f k) n = sm (fun i => if i = k then f k + 1 else f i) n := sm_congr (fun i _ => by
    unfold inc
    by_cases q : i = k
    · rw [if_pos q, if_pos q, q]
    · rw [if_neg q, if_neg q])
  omega
theorem sm_dec {f : Nat → Nat} {k n : Nat} (h : k < n) (h0 : 0 < f k) : sm (dec f k) n + 1 = sm f n := by
  have h1 := sm_at f (v := f k - 1) h
  have e : sm (dec f k) n = sm (fun i => if i = k then f k - 1 else f i) n := sm_congr (fun i _ => by
    unfold dec
    by_cases q : i = k
    · rw [if_pos q, if_pos q, q]
    · rw [if_neg q, if_neg q])
  omega
theorem dec_inc (f : Nat → Nat) (k : Nat) : dec (inc f k) k = f := by
  funext i
  unfold dec inc
  by_cases q : i = k
  · rw [if_pos q, if_pos q]; rfl
  · rw [if_neg q, if_neg q]
theorem inc_dec {f : Nat → Nat} {k : Nat} (h : 0 < f k) : inc (dec f k) k = f := by
  funext i
  show (if i = k then (if i = k then f i - 1 else f i) + 1 else (if i = k then f i - 1 else f i)) = f i
  by_cases q : i = k
  · rw [if_pos q, if_pos q, q]; omega
  · rw [if_neg q, if_neg q]
theorem inc_at (f : Nat → Nat) (k i : Nat) : inc f k i = if i = k then f i + 1 else f i := rfl
theorem dec_at (f : Nat → Nat) (k i : Nat) : dec f k i = if i = k then f i - 1 else f i := rfl
def oHas (K A : Nat) (h : Nat → Nat) : Bool := (List.range K).any (oGe A h)
theorem oHas_t {K A : Nat} {h : Nat → Nat} : oHas K A h = true ↔ ∃ k, k < K ∧ A ≤ h k := by
  unfold oHas
  rw [List.any_eq_true]
  constructor
  · rintro ⟨k, h1, h2⟩; exact ⟨k, List.mem_range.mp h1, oGe_t.mp h2⟩
  · rintro ⟨k, h1, h2⟩; exact ⟨k, List.mem_range.mpr h1, oGe_t.mpr h2⟩
/-- the best of what is left behind handing on one of the first m KINDS -/
def bsO (g : (Nat → Nat) → Nat) (h : Nat → Nat) : Nat → Nat
  | 0 => 0
  | m + 1 => if 0 < h m then (if bsO g h m < g (dec h m) then g (dec h m) else bsO g h m) else bsO g h m
/-- by how many of the orders of the next n one gets there -/
def gd (K A : Nat) : Nat → (Nat → Nat) → (Nat → Nat) → Nat → Nat
  | 0, h, _, _ => if oHas K A h = true then 1 else 0
  | n + 1, h, u, N => if oHas K A h = true then fall N (n + 1) else sm (fun k => u k * bsO (fun h' => gd K A n h' (dec u k) (N - 1)) (inc h k) 4) 4
theorem gd_has {K A n N : Nat} {h u : Nat → Nat} (q : oHas K A h = true) : gd K A n h u N = fall N n := by
  cases n with
  | zero => rw [gd, if_pos q]; rfl
  | succ n => rw [gd, if_pos q]
theorem gd_0 {K A N : Nat} {h u : Nat → Nat} (q : ¬ oHas K A h = true) : gd K A 0 h u N = 0 := by rw [gd, if_neg q]
theorem gd_s {K A n N : Nat} {h u : Nat → Nat} (q : ¬ oHas K A h = true) : gd K A (n + 1) h u N = sm (fun k => u k * bsO (fun h' => gd K A n h' (dec u k) (N - 1)) (inc h k) 4) 4 := by rw [gd, if_neg q]
theorem bsO_le {g : (Nat → Nat) → Nat} {h : Nat → Nat} {B : Nat} (hg : ∀ h', g h' ≤ B) : ∀ m, bsO g h m ≤ B := by
  intro m
  induction m with
  | zero => exact Nat.zero_le _
  | succ m ih =>
    have := hg (dec h m)
    rw [bsO]
    split
    · split <;> assumption
    · exact ih
theorem gd_le (K A : Nat) : ∀ n h u N, sm u 4 = N → n ≤ N → gd K A n h u N ≤ fall N n := by
  intro n
  induction n with
  | zero =>
    intro h u N _ _
    rw [gd]
    show _ ≤ 1
    split <;> omega
  | succ n ih =>
    intro h u N hu hn
    by_cases q : oHas K A h = true
    · rw [gd_has q]; exact Nat.le_refl _
    · rw [gd_s q]
      have key : sm (fun k => u k * bsO (fun h' => gd K A n h' (dec u k) (N - 1)) (inc h k) 4) 4 ≤ sm (fun k => u k * fall (N - 1) n) 4 := sm_mono (fun k hk => by
        by_cases z : u k = 0
        · rw [z]; simp
        · refine Nat.mul_le_mul_left _ (bsO_le (fun h' => ih h' _ _ ?_ (by omega)) 4)
          have := sm_dec (f := u) hk (by omega)
          omega)
      rw [sm_mul, hu] at key
      have hN : N = N - 1 + 1 := by omega
      have e : fall N (n + 1) = N * fall (N - 1) n := by
        have := fall_s (N - 1) n
        rw [← hN] at this; exact this
      rw [e]; exact key
theorem oHas_congr {K A : Nat} {h h' : Nat → Nat} (hK : K ≤ 4) (q : ∀ i, i < 4 → h i = h' i) : oHas K A h = oHas K A h' := by
  unfold oHas
  have : ∀ i, i ∈ List.range K → oGe A h i = oGe A h' i := fun i hi => by
    have := List.mem_range.mp hi
    unfold oGe
    rw [q i (by omega)]
  rw [Bool.eq_iff_iff, List.any_eq_true, List.any_eq_true]
  constructor
  · rintro ⟨k, h1, h2⟩; exact ⟨k, h1, by rw [← this k h1]; exact h2⟩
  · rintro ⟨k, h1, h2⟩; exact ⟨k, h1, by rw [this k h1]; exact h2⟩
theorem bsO_congr {g g' : (Nat → Nat) → Nat} {h h' : Nat → Nat} (q : ∀ i, i < 4 → h i = h' i) (hg : ∀ a b : Nat → Nat, (∀ i, i < 4 → a i = b i) → g a = g' b) : ∀ m, m ≤ 4 → bsO g h m = bsO g' h' m := by
  intro m
  induction m with
  | zero => intro _; rfl
  | succ m ih =>
    intro hm
    have e : g (dec h m) = g' (dec h' m) := hg _ _ (fun i hi => by rw [dec_at, dec_at, q i hi])
    rw [bsO, bsO, ih (by omega), q m (by omega), e]
theorem gd_congr {K A : Nat} (hK : K ≤ 4) : ∀ n (h h' u u' : Nat → Nat) N, (∀ i, i < 4 → h i = h' i) → (∀ i, i < 4 → u i = u' i) → gd K A n h u N = gd K A n h' u' N := by
  intro n
  induction n with
  | zero => intro h h' u u' N q _; rw [gd, gd, oHas_congr hK q]
  | succ n ih =>
    intro h h' u u' N q qu
    rw [gd, gd, oHas_congr hK q]
    congr 1
    refine sm_congr (fun k hk => ?_)
    rw [qu k hk]
    congr 1
    exact bsO_congr (fun i hi => by rw [inc_at, inc_at, q i hi]) (fun a b hab => ih a b _ _ _ hab (fun i hi => by rw [dec_at, dec_at, qu i hi])) 4 (Nat.le_refl _)
/-- figures of base 5 -/
def figS (c : Nat) : Nat := c / 125 + c / 25 % 5 + c / 5 % 5 + c % 5
def rkN (m : Nat) : Nat → Nat
  | 0 => 0
  | c + 1 => rkN m c + if figS c ≤ m then 1 else 0
theorem rkN_mono (m : Nat) {a b : Nat} (h : a ≤ b) : rkN m a ≤ rkN m b := by
  induction b with
  | zero => rw [show a = 0 by omega]; exact Nat.le_refl _
  | succ b ih =>
    by_cases q : a = b + 1
    · rw [q]; exact Nat.le_refl _
    · have := ih (by omega)
      rw [rkN]; omega
theorem rkN_lt {m a b : Nat} (h : a < b) (hf : figS a ≤ m) : rkN m a < rkN m b := by
  have h1 := rkN_mono m (show a + 1 ≤ b by omega)
  rw [rkN, if_pos hf] at h1
  omega
theorem rkN_inj {m a b : Nat} (ha : figS a ≤ m) (hb : figS b ≤ m) (h : rkN m a = rkN m b) : a = b := by
  rcases Nat.lt_trichotomy a b with q | q | q
  · have := rkN_lt q ha; omega
  · exact q
  · have := rkN_lt q hb; omega
set_option maxRecDepth 20000 in
theorem rk_H : rkN 4 125 = 35 := by decide +kernel
set_option maxRecDepth 20000 in
theorem rk_D : rkN 6 625 ≤ 210 := by decide +kernel
def codH (h : Nat → Nat) : Nat := h 0 * 25 + h 1 * 5 + h 2
def codD (e : Nat → Nat) : Nat := e 0 * 125 + e 1 * 25 + e 2 * 5 + e 3
def keyO (h e : Nat → Nat) : Nat := rkN 4 (codH h) * 210 + rkN 6 (codD e)
theorem sm4 (f : Nat → Nat) : sm f 4 = f 0 + f 1 + f 2 + f 3 := by simp [sm]
theorem codH_ok {h : Nat → Nat} (q : sm h 4 ≤ 4) : codH h < 125 ∧ figS (codH h) ≤ 4 := by
  rw [sm4] at q
  have a1 : codH h / 125 = 0 := by unfold codH; omega
  have a2 : codH h / 25 = h 0 := by unfold codH; omega
  have a3 : codH h / 5 = h 0 * 5 + h 1 := by unfold codH; omega
  have a4 : codH h % 5 = h 2 := by unfold codH; omega
  refine ⟨by unfold codH; omega, ?_⟩
  unfold figS
  rw [a1, a2, a3, a4]
  clear a1 a2 a3 a4
  have b1 : h 0 % 5 = h 0 := by omega
  have b2 : (h 0 * 5 + h 1) % 5 = h 1 := by omega
  rw [b1, b2]
  omega
theorem codD_ok {e : Nat → Nat} (q : sm e 4 ≤ 6) (z : ∀ i, i < 4 → e i ≤ 4) : codD e < 625 ∧ figS (codD e) ≤ 6 := by
  rw [sm4] at q
  have z0 := z 0 (by omega)
  have z1 := z 1 (by omega)
  have z2 := z 2 (by omega)
  have z3 := z 3 (by omega)
  have a1 : codD e / 125 = e 0 := by unfold codD; omega
  have a2 : codD e / 25 = e 0 * 5 + e 1 := by unfold codD; omega
  have a3 : codD e / 5 = e 0 * 25 + e 1 * 5 + e 2 := by unfold codD; omega
  have a4 : codD e % 5 = e 3 := by unfold codD; omega
  refine ⟨by unfold codD; omega, ?_⟩
  unfold figS
  rw [a1, a2, a3, a4]
  clear a1 a2 a3 a4
  have b1 : (e 0 * 5 + e 1) % 5 = e 1 := by omega
  have b2 : (e 0 * 25 + e 1 * 5 + e 2) % 5 = e 2 := by omega
  rw [b1, b2]
  omega
theorem keyO_lt {h e : Nat → Nat} (q : sm h 4 ≤ 4) (r : sm e 4 ≤ 6) (z : ∀ i, i < 4 → e i ≤ 4) : keyO h e < 7350 := by
  obtain ⟨h1, h2⟩ := codH_ok q
  obtain ⟨e1, e2⟩ := codD_ok r z
  have a := rkN_lt h1 h2
  have b := rkN_lt e1 e2
  rw [rk_H] at a
  have rd := rk_D
  unfold keyO
  omega
theorem keyO_inj {h e h' e' : Nat → Nat} {A : Nat} (hA : A ≤ 4) (q : sm h 4 = A) (r : sm e 4 ≤ 6) (z : ∀ i, i < 4 → e i ≤ 4) (q' : sm h' 4 = A) (r' : sm e' 4 ≤ 6) (z' : ∀ i, i < 4 → e' i ≤ 4) (k : keyO h e = keyO h' e') : (∀ i, i < 4 → h i = h' i) ∧ ∀ i, i < 4 → e i = e' i := by
  obtain ⟨h1, h2⟩ := codH_ok (h := h) (by omega)
  obtain ⟨e1, e2⟩ := codD_ok r z
  obtain ⟨h1', h2'⟩ := codH_ok (h := h') (by omega)
  obtain ⟨e1', e2'⟩ := codD_ok r' z'
  have b := rkN_lt e1 e2
  have b' := rkN_lt e1' e2'
  have rd := rk_D
  unfold keyO at k
  have c1 := rkN_inj h2 h2' (by omega)
  have c2 := rkN_inj e2 e2' (by omega)
  rw [sm4] at q q' r r'
  unfold codH at c1
  unfold codD at c2
  have z0 := z 0 (by omega)
  have z1 := z 1 (by omega)
  have z2 := z 2 (by omega)
  have z3 := z 3 (by omega)
  have y0 := z' 0 (by omega)
  have y1 := z' 1 (by omega)
  have y2 := z' 2 (by omega)
  have y3 := z' 3 (by omega)
  have i4 : ∀ i, i < 4 → i = 0 ∨ i = 1 ∨ i = 2 ∨ i = 3 := by omega
  refine ⟨fun i hi => ?_, fun i hi => ?_⟩
  · rcases i4 i hi with rfl | rfl | rfl | rfl <;> omega
  · rcases i4 i hi with rfl | rfl | rfl | rfl <;> omega
/-- the ranks that the constructor wrote -/
def oK (D : xD) (o : Nat) : Prop := rS D (o + 7) 125 ∧ (∀ c, c < 125 → D.1 (o + 8) c = nI (rkN 4 c)) ∧ rS D (o + 9) 625 ∧ ∀ c, c < 625 → D.1 (o + 10) c = nI (rkN 6 c)
theorem oK.out {D D' : xD} {lo hi o : Nat} (H : oK D o) (q : xOut lo hi D D') (z : hi ≤ o + 7 ∨ o + 11 ≤ lo) : oK D' o :=
  ⟨H.1.out q (by omega), fun c hc => by rw [q.1 _ (by omega)]; exact H.2.1 c hc, H.2.2.1.out q (by omega), fun c hc => by rw [q.1 _ (by omega)]; exact H.2.2.2 c hc⟩
/-- what is remembered is right -/
def oM (D : xD) (o K A : Nat) (u0 : Nat → Nat) (N0 n0 : Nat) : Prop := rS D (o + 11) 7350 ∧ ∀ h e : Nat → Nat, sm h 4 = A → (∀ i, i < 4 → e i ≤ 4) → sm e 4 ≤ n0 →
  D.1 (o + 12) (keyO h e) = -1 ∨ D.1 (o + 12) (keyO h e) = nI (gd K A (n0 - sm e 4) h (fun k => u0 k - e k) (N0 - sm e 4))
theorem oM.out {D D' : xD} {lo hi o K A N0 n0 : Nat} {u0 : Nat → Nat} (H : oM D o K A u0 N0 n0) (q : xOut lo hi D D') (z : hi ≤ o + 11 ∨ o + 13 ≤ lo) : oM D' o K A u0 N0 n0 :=
  ⟨H.1.out q (by omega), fun h e a b c => by rw [q.1 _ (by omega)]; exact H.2 h e a b c⟩
/-- where one is on the way: n more may come -/
def gV (A : Nat) (u0 : Nat → Nat) (N0 n0 n : Nat) (h u e : Nat → Nat) (N : Nat) : Prop :=
  sm h 4 = A ∧ (∀ i, i < 4 → u i = u0 i - e i ∧ e i ≤ u0 i ∧ u0 i ≤ 4) ∧ sm u 4 = N ∧ n + sm e 4 = n0 ∧ n ≤ N ∧ N + sm e 4 = N0
section MEMO
variable {d : Nat} {D : xD} {o K A N : Nat} {h u e : Nat → Nat}
theorem c_Odds_key {P : Int32 → xD → Prop} (k0 : xk o = 11) (H : oR D o K A h u e N) (hk : oK D o) (q : sm h 4 ≤ 4) (r : sm e 4 ≤ 6) (z : ∀ i, i < 4 → e i ≤ 4) (fin : P (nI (keyO h e)) D) : xCi (d + 2) m_Odds_key [.ref o] D P := by
  obtain ⟨h1, h2⟩ := codH_ok q
  obtain ⟨e1, e2⟩ := codD_ok r z
  refine xCi_of y_Odds_key (Nat.le_of_ble_eq_true rfl) (s_Odds_key_0 k0 ?_)
  refine c_get (i := 0) H.1 (by omega) (c_get (i := 1) H.1 (by omega) (c_get (i := 2) H.1 (by omega) ?_))
  refine c_get (i := 0) H.2.2.2.2.1 (by omega) (c_get (i := 1) H.2.2.2.2.1 (by omega) (c_get (i := 2) H.2.2.2.2.1 (by omega) (c_get (i := 3) H.2.2.2.2.1 (by omega) ?_)))
  rw [show o + 1 + 1 = o + 2 by omega, show o + 5 + 1 = o + 6 by omega, H.2.1 0 (by omega), H.2.1 1 (by omega), H.2.1 2 (by omega), H.2.2.2.2.2.1 0 (by omega), H.2.2.2.2.2.1 1 (by omega), H.2.2.2.2.2.1 2 (by omega), H.2.2.2.2.2.1 3 (by omega)]
  have eH : nI (h 0) * (25 : Int32) + nI (h 1) * (5 : Int32) + nI (h 2) = nI (codH h) := by
    rw [show (25 : Int32) = nI 25 from rfl, show (5 : Int32) = nI 5 from rfl, pk_mul, pk_mul, nI_add, nI_add]; rfl
  have eD : nI (e 0) * (125 : Int32) + nI (e 1) * (25 : Int32) + nI (e 2) * (5 : Int32) + nI (e 3) = nI (codD e) := by
    rw [show (125 : Int32) = nI 125 from rfl, show (25 : Int32) = nI 25 from rfl, show (5 : Int32) = nI 5 from rfl, pk_mul, pk_mul, pk_mul, nI_add, nI_add, nI_add]; rfl
  rw [eH, eD]
  refine c_get hk.1 h1 (c_get hk.2.2.1 e1 ⟨_, rfl, ?_⟩)
  rw [show o + 7 + 1 = o + 8 by omega, show o + 9 + 1 = o + 10 by omega, hk.2.1 _ h1, hk.2.2.2 _ e1, show (210 : Int32) = nI 210 from rfl, pk_mul, nI_add]
  exact fin
theorem c_draw {P : xD → Prop} {k : Nat} (k0 : xk o = 11) (H : oR D o K A h u e N) (hk : k < 4) (h0 : 0 < u k) (hN : 0 < N) (fin : ∀ D', xOut o (o + 7) D D' → oR D' o K A (inc h k) (dec u k) (inc e k) (N - 1) → P D') : xCv (d + 2) m_Odds_draw [.ref o, .int (nI k), .int (1 : Int32)] D P := by
  obtain ⟨a1, a2, a3, a4, a5, a6, a7, a8, a9⟩ := H
  refine xCv_of y_Odds_draw (Nat.le_of_ble_eq_true rfl) (s_Odds_draw_0 k0 ?_)
  refine c_add a3 (show k < 13 by omega) (fun D1 o1 v1 => ?_)
  refine c_add (a1.out o1 (by omega)) (show k < 13 by omega) (fun D2 o2 v2 => ?_)
  refine c_add ((a5.out o1 (by omega)).out o2 (by omega)) hk (fun D3 o3 v3 => ?_)
  intro D4 e4
  have b8 : D3.1 o 8 = nI N := by rw [o3.1 _ (by omega), o2.1 _ (by omega), o1.1 _ (by omega)]; exact a9
  rw [b8, show nI N - (1 : Int32) = nI (N - 1) from pk_sub (a := N) (b := 1) (by omega)] at e4
  have o4 : xOut o (o + 1) D3 D4 := by rw [e4]; exact xOut_f D3 o 8 _
  have f4 : ∀ j, D4.1 o j = if j = 8 then nI (N - 1) else D.1 o j := fun j => by
    rw [e4]
    show xu D3.1 o 8 _ o j = _
    rw [xu_self, show D3.1 o = D.1 o by rw [o3.1 _ (by omega), o2.1 _ (by omega), o1.1 _ (by omega)]]; rfl
  have o14 : xOut o (o + 7) D D4 := (o1.mono (by omega) (by omega)).trans ((o2.mono (by omega) (by omega)).trans ((o3.mono (by omega) (by omega)).trans (o4.mono (by omega) (by omega))))
  refine ⟨rfl, fin D4 o14 ⟨(((a1.out o1 (by omega)).out o2 (by omega)).out o3 (by omega)).out o4 (by omega), fun j hj => ?_, (((a3.out o1 (by omega)).out o2 (by omega)).out o3 (by omega)).out o4 (by omega), fun j hj => ?_, (((a5.out o1 (by omega)).out o2 (by omega)).out o3 (by omega)).out o4 (by omega), fun j hj => ?_, ?_, ?_, ?_⟩⟩
  · rw [o4.1 _ (by omega), o3.1 _ (by omega), show o + 2 = o + 1 + 1 by omega, v2, o1.1 _ (by omega), inc_at, show o + 1 + 1 = o + 2 by omega]
    by_cases q : j = k
    · rw [if_pos q, if_pos q, q, a2 k (by omega), nI_1]
    · rw [if_neg q, if_neg q]; exact a2 j hj
  · rw [o4.1 _ (by omega), o3.1 _ (by omega), o2.1 _ (by omega), show o + 4 = o + 3 + 1 by omega, v1, dec_at, show o + 3 + 1 = o + 4 by omega]
    by_cases q : j = k
    · rw [if_pos q, if_pos q, q, a4 k (by omega)]
      obtain ⟨z, hz⟩ : ∃ z, u k = z + 1 := ⟨u k - 1, by omega⟩
      rw [hz]; exact pk_m1 z
    · rw [if_neg q, if_neg q]; exact a4 j hj
  · rw [o4.1 _ (by omega), show o + 6 = o + 5 + 1 by omega, v3, o2.1 _ (by omega), o1.1 _ (by omega), inc_at, show o + 5 + 1 = o + 6 by omega]
    by_cases q : j = k
    · rw [if_pos q, if_pos q, q, a6 k hk, nI_1]
    · rw [if_neg q, if_neg q]; exact a6 j hj
  · rw [f4]; simpa using a7
  · rw [f4]; simpa using a8
  · rw [f4]; simp
theorem c_undraw {P : xD → Prop} {k : Nat} (k0 : xk o = 11) (H : oR D o K A (inc h k) (dec u k) (inc e k) (N - 1)) (hk : k < 4) (h0 : 0 < u k) (hN : 0 < N) (fin : ∀ D', xOut o (o + 7) D D' → oR D' o K A h u e N → P D') : xCv (d + 2) m_Odds_draw [.ref o, .int (nI k), .int (-1 : Int32)] D P := by
  obtain ⟨a1, a2, a3, a4, a5, a6, a7, a8, a9⟩ := H
  refine xCv_of y_Odds_draw (Nat.le_of_ble_eq_true rfl) (s_Odds_draw_0 k0 ?_)
  refine c_add a3 (show k < 13 by omega) (fun D1 o1 v1 => ?_)
  refine c_add (a1.out o1 (by omega)) (show k < 13 by omega) (fun D2 o2 v2 => ?_)
  refine c_add ((a5.out o1 (by omega)).out o2 (by omega)) hk (fun D3 o3 v3 => ?_)
  intro D4 e4
  have m1 : (-(-1 : Int32)) = 1 := by decide
  have b8 : D3.1 o 8 = nI (N - 1) := by rw [o3.1 _ (by omega), o2.1 _ (by omega), o1.1 _ (by omega)]; exact a9
  rw [b8, Int32.sub_eq_add_neg, m1, nI_1, show N - 1 + 1 = N by omega] at e4
  have o4 : xOut o (o + 1) D3 D4 := by rw [e4]; exact xOut_f D3 o 8 _
  have f4 : ∀ j, D4.1 o j = if j = 8 then nI N else D.1 o j := fun j => by
    rw [e4]
    show xu D3.1 o 8 _ o j = _
    rw [xu_self, show D3.1 o = D.1 o by rw [o3.1 _ (by omega), o2.1 _ (by omega), o1.1 _ (by omega)]]; rfl
  have o14 : xOut o (o + 7) D D4 := (o1.mono (by omega) (by omega)).trans ((o2.mono (by omega) (by omega)).trans ((o3.mono (by omega) (by omega)).trans (o4.mono (by omega) (by omega))))
  refine ⟨rfl, fin D4 o14 ⟨(((a1.out o1 (by omega)).out o2 (by omega)).out o3 (by omega)).out o4 (by omega), fun j hj => ?_, (((a3.out o1 (by omega)).out o2 (by omega)).out o3 (by omega)).out o4 (by omega), fun j hj => ?_, (((a5.out o1 (by omega)).out o2 (by omega)).out o3 (by omega)).out o4 (by omega), fun j hj => ?_, ?_, ?_, ?_⟩⟩
  · have b := a2 j hj
    rw [inc_at] at b
    rw [o4.1 _ (by omega), o3.1 _ (by omega), show o + 2 = o + 1 + 1 by omega, v2, o1.1 _ (by omega), show o + 1 + 1 = o + 2 by omega]
    by_cases q : j = k
    · rw [if_pos q] at b
      rw [if_pos q, ← q, b]
      exact pk_m1 (h j)
    · rw [if_neg q] at b
      rw [if_neg q]; exact b
  · have b := a4 j hj
    rw [dec_at] at b
    rw [o4.1 _ (by omega), o3.1 _ (by omega), o2.1 _ (by omega), show o + 4 = o + 3 + 1 by omega, v1, show o + 3 + 1 = o + 4 by omega, m1]
    by_cases q : j = k
    · rw [if_pos q] at b
      rw [if_pos q, ← q, b, nI_1, show u j - 1 + 1 = u j by rw [q]; omega]
    · rw [if_neg q] at b
      rw [if_neg q]; exact b
  · have b := a6 j hj
    rw [inc_at] at b
    rw [o4.1 _ (by omega), show o + 6 = o + 5 + 1 by omega, v3, o2.1 _ (by omega), o1.1 _ (by omega), show o + 5 + 1 = o + 6 by omega]
    by_cases q : j = k
    · rw [if_pos q] at b
      rw [if_pos q, ← q, b]
      exact pk_m1 (e j)
    · rw [if_neg q] at b
      rw [if_neg q]; exact b
  · rw [f4]; simpa using a7
  · rw [f4]; simpa using a8
  · rw [f4]; simp
/-- goodOrders does as it should, n more to come -/
def gdS (o K A : Nat) (u0 : Nat → Nat) (N0 n0 n : Nat) : Prop := ∀ (d : Nat) (D : xD) (h u e : Nat → Nat) (N : Nat) (P : Int32 → xD → Prop), oR D o K A h u e N → oK D o → oM D o K A u0 N0 n0 → gV A u0 N0 n0 n h u e N →
  (∀ D', xOut o (o + 13) D D' → oR D' o K A h u e N → oK D' o → oM D' o K A u0 N0 n0 → P (nI (gd K A n h u N)) D') → xCi (d + 3 * n + 3) m_Odds_goodOrders [.ref o, .int (nI n)] D P
theorem gd_small {n : Nat} (hu : sm u 4 = N) (hn : n ≤ N) (hN : N ≤ 16) (hn6 : n ≤ 6) : gd K A n h u N < 2 ^ 25 := by
  have h1 := gd_le K A n h u N hu hn
  have h2 := fall_le N n
  have h3 : N ^ n ≤ 16 ^ 6 := Nat.le_trans (Nat.pow_le_pow_left hN n) (Nat.pow_le_pow_right (by omega) hn6)
  have h4 : (16 : Nat) ^ 6 < 2 ^ 25 := by decide
  omega
theorem c_without {P : Int32 → xD → Prop} {u0 : Nat → Nat} {N0 n0 n j : Nat} (k0 : xk o = 11) (ih : gdS o K A u0 N0 n0 n) (H : oR D o K A h u e N) (hk : oK D o) (hM : oM D o K A u0 N0 n0) (hj : j < 4) (h0 : 0 < h j)
    (hV : gV A u0 N0 n0 n (dec h j) u e N) (fin : ∀ D', xOut o (o + 13) D D' → oR D' o K A h u e N → oK D' o → oM D' o K A u0 N0 n0 → P (nI (gd K A n (dec h j) u N)) D') : xCi (d + 3 * n + 4) m_Odds_ordersWithout [.ref o, .int (nI j), .int (nI n)] D P := by
  refine xCi_of y_Odds_ordersWithout (Nat.le_of_ble_eq_true rfl) (s_Odds_ordersWithout_0 k0 ?_)
  refine c_add H.1 (show j < 13 by omega) (fun D1 o1 v1 => ?_)
  have H1 : oR D1 o K A (dec h j) u e N := by
    obtain ⟨a1, a2, a3, a4, a5, a6, a7, a8, a9⟩ := H
    refine ⟨a1.out o1 (by omega), fun k hk => ?_, a3.out o1 (by omega), fun k hk => by rw [o1.1 _ (by omega)]; exact a4 k hk, a5.out o1 (by omega), fun k hk => by rw [o1.1 _ (by omega)]; exact a6 k hk, by rw [o1.1 _ (by omega)]; exact a7, by rw [o1.1 _ (by omega)]; exact a8, by rw [o1.1 _ (by omega)]; exact a9⟩
    rw [show o + 2 = o + 1 + 1 by omega, v1, dec_at, show o + 1 + 1 = o + 2 by omega]
    by_cases q : k = j
    · rw [if_pos q, if_pos q, ← q, a2 k hk]
      obtain ⟨z, hz⟩ : ∃ z, h k = z + 1 := ⟨h k - 1, by rw [q]; omega⟩
      rw [hz]; exact pk_m1 z
    · rw [if_neg q, if_neg q]; exact a2 k hk
  refine ih d D1 (dec h j) u e N _ H1 (hk.out o1 (by omega)) (hM.out o1 (by omega)) hV (fun D2 o2 H2 hk2 hM2 => ?_)
  refine c_add H2.1 (show j < 13 by omega) (fun D3 o3 v3 => ⟨_, rfl, ?_⟩)
  refine fin D3 ((o1.mono (by omega) (by omega)).trans (o2.trans (o3.mono (by omega) (by omega)))) ?_ (hk2.out o3 (by omega)) (hM2.out o3 (by omega))
  obtain ⟨a1, a2, a3, a4, a5, a6, a7, a8, a9⟩ := H2
  refine ⟨a1.out o3 (by omega), fun k hk => ?_, a3.out o3 (by omega), fun k hk => by rw [o3.1 _ (by omega)]; exact a4 k hk, a5.out o3 (by omega), fun k hk => by rw [o3.1 _ (by omega)]; exact a6 k hk, by rw [o3.1 _ (by omega)]; exact a7, by rw [o3.1 _ (by omega)]; exact a8, by rw [o3.1 _ (by omega)]; exact a9⟩
  have b := a2 k hk
  rw [dec_at] at b
  rw [show o + 2 = o + 1 + 1 by omega, v3, show o + 1 + 1 = o + 2 by omega]
  by_cases q : k = j
  · rw [if_pos q] at b
    rw [if_pos q, ← q, b, nI_1, show h k - 1 + 1 = h k by rw [q]; omega]
  · rw [if_neg q] at b
    rw [if_neg q]; exact b
theorem c_best {P : Int32 → xD → Prop} {u0 : Nat → Nat} {N0 n0 n : Nat} (k0 : xk o = 11) (hA : A ≤ 4) (hn0 : n0 ≤ 6) (hN0 : N0 ≤ 16) (ih : gdS o K A u0 N0 n0 n) (H : oR D o K A h u e N) (hk : oK D o) (hM : oM D o K A u0 N0 n0)
    (hV : ∀ j, j < 4 → 0 < h j → gV A u0 N0 n0 n (dec h j) u e N) (fin : ∀ D', xOut o (o + 13) D D' → oR D' o K A h u e N → oK D' o → oM D' o K A u0 N0 n0 → P (nI (bsO (fun h' => gd K A n h' u N) h 4)) D') : xCi (d + 3 * n + 5) m_Odds_bestOrders [.ref o, .int (nI n)] D P := by
  refine xCi_of y_Odds_bestOrders (Nat.le_of_ble_eq_true rfl) (s_Odds_bestOrders_0 k0 ?_)
  have key : ∀ m j, j + m = 4 → ∀ D', xOut o (o + 13) D D' → oR D' o K A h u e N → oK D' o → oM D' o K A u0 N0 n0 → bsO (fun h' => gd K A n h' u N) h j < 2 ^ 25 →
      xPf (d + 3 * n + 5) m_Odds_bestOrders 4 [(0, .ref o), (1, .int (nI n)), (2, .int (nI (bsO (fun h' => gd K A n h' u N) h j))), (3, .int (nI j))] [] D' (fun r D' => ∃ x, r = some (.int x) ∧ P x D') := by
    intro m
    induction m with
    | zero =>
      intro j hj D' oD H' hk' hM' _
      have ej : j = 4 := by omega
      subst ej
      exact s_Odds_bestOrders_4 k0 ⟨fun _ => ⟨_, rfl, fin D' oD H' hk' hM'⟩, fun q => absurd (nI_le (a := 4) (b := 4) (by omega) (by omega)) q⟩
    | succ m ihm =>
      intro j hj D' oD H' hk' hM' hs
      have nx := ihm (j + 1) (by omega)
      rw [bsO] at nx
      refine s_Odds_bestOrders_4 k0 ⟨fun q => absurd q (nI_ge (a := j) (b := 4) (by omega) (by omega)), fun _ => c_get H'.1 (show j < 13 by omega) ?_⟩
      rw [show o + 1 + 1 = o + 2 by omega, H'.2.1 j (by omega), nI_1 j]
      by_cases q0 : 0 < h j
      · have hVj := hV j (by omega) q0
        have hh : h j ≤ 2 ^ 20 := by
          have h1 := sm_le h (n := 4) (show j < 4 by omega)
          have h2 := sm_dec (f := h) (show j < 4 by omega) q0
          rw [hVj.1] at h2
          omega
        refine ⟨fun q => absurd q (nI_nle q0 (by omega)), fun _ => ?_⟩
        refine c_without k0 ih H' hk' hM' (by omega) q0 hVj (fun D2 o2 H2 hk2 hM2 => ?_)
        have hg : gd K A n (dec h j) u N < 2 ^ 25 := gd_small hVj.2.2.1 hVj.2.2.2.2.1 (by have := hVj.2.2.2.2.2; omega) (by have := hVj.2.2.2.1; omega)
        rw [if_pos q0] at nx
        intro r5 e5
        have f5 : r5 = nI (if bsO (fun h' => gd K A n h' u N) h j < gd K A n (dec h j) u N then gd K A n (dec h j) u N else bsO (fun h' => gd K A n h' u N) h j) := by
          rw [e5]
          by_cases z : bsO (fun h' => gd K A n h' u N) h j < gd K A n (dec h j) u N
          · rw [if_pos z, if_pos (nI_lt z (by omega))]
          · rw [if_neg z, if_neg (fun y => z ((nI_ltI (by omega) (by omega)).mp y))]
        rw [f5]
        refine nx D2 (oD.trans o2) H2 hk2 hM2 ?_
        split <;> omega
      · refine ⟨fun _ => ?_, fun q => absurd (by rw [show h j = 0 by omega]; exact Int32.le_refl _) q⟩
        rw [if_neg q0] at nx
        exact nx D' oD H' hk' hM' hs
  exact key 4 0 (by omega) D xOut.rfl' H hk hM (Nat.two_pow_pos 25)
end MEMO
