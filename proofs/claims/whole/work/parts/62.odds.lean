/-! What is asked of a HAND: what may come, how many are UNSEEN, what is starved; sets of cards; how soon. -/
theorem drop_at {l : List Nat} {i : Nat} (h : i < l.length) : l.drop i = l.getD i 0 :: l.drop (i + 1) := by
  rw [List.drop_eq_getElem_cons h, List.getD_eq_getElem?_getD, List.getElem?_eq_getElem h]; rfl
/-- the first k below n of which f holds -/
def fsN (f : Nat → Bool) : Nat → Option Nat
  | 0 => none
  | n + 1 => match fsN f n with
    | some k => some k
    | none => if f n then some n else none
theorem fsN_none {f : Nat → Bool} : ∀ {n : Nat}, fsN f n = none ↔ ∀ i, i < n → f i = false := by
  intro n
  induction n with
  | zero => exact ⟨fun _ i hi => absurd hi (by omega), fun _ => rfl⟩
  | succ n ih =>
    rw [fsN]
    cases hf : fsN f n with
    | some k =>
      refine ⟨fun h => (by cases h), fun h => ?_⟩
      have := ih.mpr (fun i hi => h i (by omega))
      rw [hf] at this; cases this
    | none =>
      have h1 := ih.mp hf
      show (if f n = true then some n else none) = none ↔ _
      cases hn : f n with
      | true =>
        refine ⟨fun h => (by cases h), fun h => ?_⟩
        have := h n (by omega)
        rw [hn] at this; cases this
      | false =>
        refine ⟨fun _ i hi => ?_, fun _ => rfl⟩
        by_cases q : i = n
        · rw [q]; exact hn
        · exact h1 i (by omega)
theorem fsN_at {f : Nat → Bool} {k : Nat} (h : ∀ i, i < k → f i = false) (hk : f k = true) : ∀ {n : Nat}, k < n → fsN f n = some k := by
  intro n
  induction n with
  | zero => intro q; omega
  | succ n ih =>
    intro q
    rw [fsN]
    by_cases z : k < n
    · rw [ih z]
    · have e : k = n := by omega
      subst e
      rw [fsN_none.mpr h]
      show (if f k = true then some k else none) = some k
      rw [if_pos hk]
theorem fsN_some {f : Nat → Bool} {k : Nat} : ∀ {n : Nat}, fsN f n = some k → k < n ∧ f k = true ∧ ∀ i, i < k → f i = false := by
  intro n
  induction n with
  | zero => intro q; cases q
  | succ n ih =>
    intro q
    rw [fsN] at q
    cases hf : fsN f n with
    | some j =>
      rw [hf] at q
      have q : some j = some k := q
      cases q
      have := ih hf
      exact ⟨by omega, this.2⟩
    | none =>
      rw [hf] at q
      have q : (if f n = true then some n else none) = some k := q
      cases hn : f n with
      | true => rw [hn] at q; cases q; exact ⟨by omega, hn, fsN_none.mp hf⟩
      | false => rw [hn] at q; cases q
theorem fsN_congr {f g : Nat → Bool} : ∀ {n : Nat}, (∀ i, i < n → f i = g i) → fsN f n = fsN g n := by
  intro n
  induction n with
  | zero => intro _; rfl
  | succ n ih => intro h; rw [fsN, fsN, ih (fun i hi => h i (by omega)), h n (by omega)]
def oSt (A : Nat) (h u : Nat → Nat) (k : Nat) : Bool := decide (h k + u k < A)
theorem oSt_t {A k : Nat} {h u : Nat → Nat} : oSt A h u k = true ↔ h k + u k < A := decide_eq_true_iff
/-- what is answered of the cards UNSEEN -/
def oAns (K A : Nat) (h u : Nat → Nat) (N : Nat) (x : Int32) : Int32 :=
  if x = 1 then nI N else if x = 2 then nI (bsN (oSt A h u) K) else if x < 10 then -1 else if nI (10 + K) ≤ x then -1 else nI (u (x.toNatClampNeg - 10))
def oGe (A : Nat) (h : Nat → Nat) (k : Nat) : Bool := decide (A ≤ h k)
theorem oGe_t {A k : Nat} {h : Nat → Nat} : oGe A h k = true ↔ A ≤ h k := decide_eq_true_iff
theorem oGe_f {A k : Nat} {h : Nat → Nat} : oGe A h k = false ↔ ¬ A ≤ h k := decide_eq_false_iff_not
/-- sets of n of which at least so many are of a KIND: of m sizes, a of that KIND, b others -/
def chW (a b n l : Nat) : Nat → Nat
  | 0 => 0
  | m + 1 => chW a b n l m + bn a (l + m) * bn b (n - (l + m))
theorem chW_le {a b n l : Nat} (ha : a ≤ 52) (hb : b ≤ 52) : ∀ m, l + m ≤ n + 1 → chW a b n l m ≤ m * 52 ^ n := by
  intro m
  induction m with
  | zero => intro _; exact Nat.zero_le _
  | succ m ih =>
    intro hm
    have h1 := ih (by omega)
    have h2 := bn_pow a (l + m)
    have h3 := bn_pow b (n - (l + m))
    have h4 : bn a (l + m) * bn b (n - (l + m)) ≤ 52 ^ (l + m) * 52 ^ (n - (l + m)) := Nat.mul_le_mul (Nat.le_trans h2 (Nat.pow_le_pow_left ha _)) (Nat.le_trans h3 (Nat.pow_le_pow_left hb _))
    rw [← Nat.pow_add, show l + m + (n - (l + m)) = n by omega] at h4
    rw [chW, Nat.succ_mul]
    omega
/-- one more of a KIND -/
def inc (h : Nat → Nat) (c : Nat) : Nat → Nat := fun i => if i = c then h i + 1 else h i
def dec (h : Nat → Nat) (c : Nat) : Nat → Nat := fun i => if i = c then h i - 1 else h i
/-- with which KIND he is there, behind how many cards -/
def oSoon (A : Nat) (h : Nat → Nat) : List Nat → Nat → Option (Nat × Nat)
  | [], _ => none
  | c :: l, i => if A ≤ h c + 1 then some (c, i + 1) else oSoon A (inc h c) l (i + 1)
def oSoonest (K A : Nat) (h : Nat → Nat) (l : List Nat) (x : Int32) : Int32 :=
  if ∃ c, c ∈ l ∧ K ≤ c then -1 else match fsN (oGe A h) K with
  | some k => if x = 0 then 0 else nI k
  | none => match oSoon A h l 0 with
    | some (c, i) => if x = 0 then nI i else nI c
    | none => -1
section ODDS
variable {d : Nat} {D : xD} {o K A N : Nat} {h u e : Nat → Nat}
theorem oR.out {D' : xD} {lo hi : Nat} (H : oR D o K A h u e N) (q : xOut lo hi D D') (z : o + 7 ≤ lo ∨ hi ≤ o) : oR D' o K A h u e N := by
  obtain ⟨a1, a2, a3, a4, a5, a6, a7, a8, a9⟩ := H
  exact ⟨a1.out q (by omega), fun k hk => by rw [q.1 _ (by omega)]; exact a2 k hk, a3.out q (by omega), fun k hk => by rw [q.1 _ (by omega)]; exact a4 k hk, a5.out q (by omega), fun k hk => by rw [q.1 _ (by omega)]; exact a6 k hk, by rw [q.1 _ (by omega)]; exact a7, by rw [q.1 _ (by omega)]; exact a8, by rw [q.1 _ (by omega)]; exact a9⟩
theorem c_Odds_mayCome {P : Int32 → xD → Prop} {x : Int32} (k0 : xk o = 11) (H : oR D o K A h u e N) (hN : N ≤ 52) (h1 : ∀ n, n ≤ 6 → n ≤ N → x = nI n → P 1 D) (h0 : ¬ (∃ n, n ≤ 6 ∧ n ≤ N ∧ x = nI n) → P 0 D) : xCi (d + 1) m_Odds_mayCome [.ref o, .int x] D P := by
  refine xCi_of y_Odds_mayCome (Nat.le_of_ble_eq_true rfl) (s_Odds_mayCome_0 k0 ?_)
  rw [H.2.2.2.2.2.2.2.2]
  refine ⟨fun c => ⟨_, rfl, h0 ?_⟩, fun c => ⟨fun c1 => ⟨_, rfl, h0 ?_⟩, fun c1 => ⟨fun c2 => ⟨_, rfl, h0 ?_⟩, fun c2 => ⟨_, rfl, ?_⟩⟩⟩⟩
  · rintro ⟨n, a, b, rfl⟩; exact nI_pos (by omega) c
  · rintro ⟨n, a, b, rfl⟩; exact nI_nlt (a := 6) (b := n) a (by omega) c1
  · rintro ⟨n, a, b, rfl⟩; exact nI_nlt (a := N) (b := n) b (by omega) c2
  · obtain ⟨n, hn, rfl⟩ := nI_of c
    exact h1 n (Nat.le_of_not_lt (fun z => c1 (nI_lt (a := 6) z hn))) (Nat.le_of_not_lt (fun z => c2 (nI_lt z hn))) rfl
theorem c_Odds_starved {P : Int32 → xD → Prop} (k0 : xk o = 11) (H : oR D o K A h u e N) (hK : K ≤ 13) (hA : A ≤ 4) (hb : ∀ k, k < 13 → h k + u k < 1000) (fin : P (nI (bsN (oSt A h u) K)) D) : xCi (d + 2) m_Odds_starved [.ref o] D P := by
  refine xCi_of y_Odds_starved (Nat.le_of_ble_eq_true rfl) (s_Odds_starved_0 k0 ?_)
  obtain ⟨a1, a2, a3, a4, a5, a6, a7, a8, a9⟩ := H
  have key : ∀ m k, k + m = K → xPf (d + 2) m_Odds_starved 4 [(0, .ref o), (1, .int (nI (bsN (oSt A h u) k))), (2, .int (nI k))] [] D (fun r D' => ∃ x, r = some (.int x) ∧ P x D') := by
    intro m
    induction m with
    | zero =>
      intro k hk
      refine s_Odds_starved_4 k0 ⟨fun _ => ⟨_, rfl, ?_⟩, fun q => absurd ?_ q⟩
      · rw [show k = K by omega]; exact fin
      · rw [a7]; exact nI_le (by omega) (by omega)
    | succ m ih =>
      intro k hk
      have nx := ih (k + 1) (by omega)
      rw [bsN] at nx
      refine s_Odds_starved_4 k0 ⟨fun q => absurd q ?_, fun _ => c_get a1 (show k < 13 by omega) (c_get a3 (show k < 13 by omega) ?_)⟩
      · rw [a7]; exact nI_ge (by omega) (by omega)
      · rw [show o + 1 + 1 = o + 2 by omega, show o + 3 + 1 = o + 4 by omega, a2 k (by omega), a4 k (by omega), a8, nI_add, nI_1 k]
        have hbk := hb k (by omega)
        refine ⟨fun q => ?_, fun q => ?_⟩
        · have z := (nI_leI (by omega) (by omega)).mp q
          rw [if_neg (fun y => by have := oSt_t.mp y; omega), Nat.add_zero] at nx
          exact nx
        · rw [bsN_s (by omega)]
          rw [if_pos (oSt_t.mpr (Nat.lt_of_not_le (fun z => q (nI_le z (by omega)))))] at nx
          exact nx
  exact key K 0 (by omega)
theorem c_Odds_answer {P : Int32 → xD → Prop} {x : Int32} (k0 : xk o = 11) (H : oR D o K A h u e N) (hK : K ≤ 13) (hA : A ≤ 4) (hb : ∀ k, k < 13 → h k + u k < 1000) (fin : P (oAns K A h u N x) D) : xCi (d + 3) m_Odds_answer [.ref o, .int x] D P := by
  refine xCi_of y_Odds_answer (Nat.le_of_ble_eq_true rfl) (s_Odds_answer_0 k0 ?_)
  unfold oAns at fin
  refine ⟨fun c => ⟨fun c1 => ⟨fun c2 => ⟨_, rfl, ?_⟩, fun c2 => ⟨fun c3 => ⟨_, rfl, ?_⟩, fun c3 => ?_⟩⟩, fun c1 => ?_⟩, fun c => ⟨_, rfl, ?_⟩⟩
  · rw [if_neg c, if_neg c1, if_pos c2] at fin; exact fin
  · rw [H.2.2.2.2.2.2.1, show (10 : Int32) = nI 10 from rfl, nI_add] at c3
    rw [if_neg c, if_neg c1, if_neg c2, if_pos c3] at fin; exact fin
  · rw [H.2.2.2.2.2.2.1, show (10 : Int32) = nI 10 from rfl, nI_add] at c3
    rw [if_neg c, if_neg c1, if_neg c2, if_neg c3] at fin
    have h0 : ¬ x < 0 := fun z => c2 (neg_lt z (k := 10) (by omega))
    obtain ⟨n, hn, rfl⟩ := nI_of h0
    have hge : 10 ≤ n := Nat.le_of_not_lt (fun z => c2 (nI_lt (b := 10) z (by omega)))
    have hlt : n < 10 + K := Nat.lt_of_not_le (fun z => c3 (nI_le z hn))
    rw [nI_clamp hn] at fin
    rw [show (10 : Int32) = nI 10 from rfl, pk_sub hge]
    refine c_get H.2.2.1 (by omega) ⟨_, rfl, ?_⟩
    rw [show o + 3 + 1 = o + 4 by omega, H.2.2.2.1 _ (by omega)]; exact fin
  · rw [if_neg c, if_pos c1] at fin
    exact c_Odds_starved k0 H hK hA hb ⟨_, rfl, fin⟩
  · rw [if_pos c] at fin
    rw [H.2.2.2.2.2.2.2.2]; exact fin
theorem c_Odds_hasAlike {P : Int32 → xD → Prop} (k0 : xk o = 11) (H : oR D o K A h u e N) (hK : K ≤ 13) (hA : A ≤ 4) (hb : ∀ k, k < K → h k < 1000) (h1 : (∃ k, k < K ∧ A ≤ h k) → P 1 D) (h0 : ¬ (∃ k, k < K ∧ A ≤ h k) → P 0 D) : xCi (d + 2) m_Odds_hasAlike [.ref o] D P := by
  refine xCi_of y_Odds_hasAlike (Nat.le_of_ble_eq_true rfl) (s_Odds_hasAlike_0 k0 ?_)
  obtain ⟨a1, a2, a3, a4, a5, a6, a7, a8, a9⟩ := H
  have key : ∀ m k, k + m = K → (∀ i, i < k → ¬ A ≤ h i) → xPf (d + 2) m_Odds_hasAlike 2 [(0, .ref o), (1, .int (nI k))] [] D (fun r D' => ∃ x, r = some (.int x) ∧ P x D') := by
    intro m
    induction m with
    | zero =>
      intro k hk hn
      refine s_Odds_hasAlike_2 k0 ⟨fun _ => ⟨_, rfl, h0 ?_⟩, fun q => absurd ?_ q⟩
      · rintro ⟨j, hj, hj2⟩; exact hn j (by omega) hj2
      · rw [a7]; exact nI_le (by omega) (by omega)
    | succ m ih =>
      intro k hk hn
      refine s_Odds_hasAlike_2 k0 ⟨fun q => absurd q ?_, fun _ => c_get a1 (show k < 13 by omega) ?_⟩
      · rw [a7]; exact nI_ge (by omega) (by omega)
      · have hbk := hb k (by omega)
        rw [show o + 1 + 1 = o + 2 by omega, a2 k (by omega), a8, nI_1 k]
        refine ⟨fun q => ih (k + 1) (by omega) (fun i hi => ?_), fun q => ⟨_, rfl, h1 ⟨k, by omega, Nat.le_of_not_lt (fun z => q (nI_lt z (by omega)))⟩⟩⟩
        have z := (nI_ltI (by omega) (by omega)).mp q
        by_cases y : i = k
        · rw [y]; omega
        · exact hn i (by omega)
  exact key K 0 (by omega) (fun i hi => absurd hi (by omega))
theorem c_Odds_orders {P : Int32 → xD → Prop} {n : Nat} (k0 : xk o = 11) (h8 : D.1 o 8 = nI N) (hn : n ≤ N) (hN : N ≤ 52) (fin : P (nI (fall N n)) D) : xCi (d + 1) m_Odds_orders [.ref o, .int (nI n)] D P := by
  refine xCi_of y_Odds_orders (Nat.le_of_ble_eq_true rfl) (s_Odds_orders_0 k0 ?_)
  have key : ∀ m i, i + m = n → xPf (d + 1) m_Odds_orders 4 [(0, .ref o), (1, .int (nI n)), (2, .int (nI (fall N i))), (3, .int (nI i))] [] D (fun r D' => ∃ x, r = some (.int x) ∧ P x D') := by
    intro m
    induction m with
    | zero =>
      intro i hi
      exact s_Odds_orders_4 k0 ⟨fun _ => ⟨_, rfl, by rw [show i = n by omega]; exact fin⟩, fun q => absurd (nI_le (by omega) (by omega)) q⟩
    | succ m ih =>
      intro i hi
      refine s_Odds_orders_4 k0 ⟨fun q => absurd q (nI_ge (by omega) (by omega)), fun _ => ?_⟩
      rw [h8, pk_sub (by omega), pk_mul, nI_1 i]
      exact ih (i + 1) (by omega)
  exact key n 0 (by omega)
theorem c_Odds_choicesWith {P : Int64 → xD → Prop} {k n l : Nat} (k0 : xk o = 11) (H : oR D o K A h u e N) (hk : k < 13) (hn : n ≤ 6) (hl : l ≤ 6) (hu : u k ≤ N) (hN : N ≤ 52) (fin : P (lN (chW (u k) (N - u k) n l (n + 1 - l))) D) : xCl (d + 2) m_Odds_choicesWith [.ref o, .int (nI k), .int (nI n), .int (nI l)] D P := by
  refine xCl_of y_Odds_choicesWith (Nat.le_of_ble_eq_true rfl) (s_Odds_choicesWith_0 k0 ?_)
  refine c_get H.2.2.1 hk (fun r3 e3 => ?_)
  rw [show o + 3 + 1 = o + 4 by omega, H.2.2.2.1 k hk]
  have f3 : r3 = nI l := by
    rw [e3]
    by_cases q : l = 0
    · subst q; rfl
    · have z : (0 : Int32) < nI l := nI_lt (a := 0) (b := l) (by omega) (by omega)
      rw [if_pos z]
  subst f3
  clear e3
  have h8 := H.2.2.2.2.2.2.2.2
  have key : ∀ m i, i + m = n + 1 - l → xPf (d + 2) m_Odds_choicesWith 20 [(0, .ref o), (1, .int (nI k)), (2, .int (nI n)), (3, .int (nI l)), (4, .int (nI (u k))), (5, .long (lN (chW (u k) (N - u k) n l i))), (7, .int (nI (l + i)))] [] D (fun r D' => ∃ x, r = some (.long x) ∧ P x D') := by
    intro m
    induction m with
    | zero =>
      intro i hi
      refine s_Odds_choicesWith_20 k0 ⟨fun _ => ⟨_, rfl, by rw [show i = n + 1 - l by omega]; exact fin⟩, fun q => absurd (nI_lt (by omega) (by omega)) q⟩
    | succ m ih =>
      intro i hi
      refine s_Odds_choicesWith_20 k0 ⟨fun q => absurd q (nI_nlt (by omega) (by omega)), fun _ => ?_⟩
      refine c_Odds_choices (by omega) (by omega) ?_
      rw [h8, pk_sub hu, pk_sub (show l + i ≤ n by omega)]
      refine c_Odds_choices (by omega) (by omega) ?_
      rw [lN_mul, lN_add, nI_1 (l + i)]
      exact ih (i + 1) (by omega)
  exact key (n + 1 - l) 0 (by omega)
theorem chW_48 {a b n l : Nat} (ha : a ≤ 52) (hb : b ≤ 52) (hn : n ≤ 6) : chW a b n l (n + 1 - l) < 2 ^ 48 := by
  by_cases q : l ≤ n + 1
  · have h1 := chW_le (n := n) ha hb (n + 1 - l) (l := l) (by omega)
    have h2 : 52 ^ n ≤ 52 ^ 6 := Nat.pow_le_pow_right (by omega) hn
    have h3 : (n + 1 - l) * 52 ^ n ≤ 7 * 52 ^ 6 := Nat.mul_le_mul (by omega) h2
    omega
  · rw [show n + 1 - l = 0 by omega]; exact Nat.two_pow_pos 48
theorem bn_48 {N n : Nat} (hN : N ≤ 52) (hn : n ≤ 6) : bn N n < 2 ^ 48 := by
  have h1 := bn_pow N n
  have h2 : N ^ n ≤ 52 ^ 6 := Nat.le_trans (Nat.pow_le_pow_left hN n) (Nat.pow_le_pow_right (by omega) hn)
  omega
theorem c_Odds_likelyAlone {P : Int64 → xD → Prop} {k n : Nat} {x : Int32} (k0 : xk o = 11) (H : oR D o K A h u e N) (hk : k < 13) (hn : n ≤ 6) (hnN : n ≤ N) (hh : h k ≤ A) (hA : A ≤ 4) (hu : u k ≤ N) (hN : N ≤ 52) (fin : P (lN (lst (chW (u k) (N - u k) n (A - h k) (n + 1 - (A - h k))) (bn N n) (x ≠ 0))) D) : xCl (d + 3) m_Odds_likelyAlone [.ref o, .int (nI k), .int (nI n), .int x] D P := by
  refine xCl_of y_Odds_likelyAlone (Nat.le_of_ble_eq_true rfl) (s_Odds_likelyAlone_0 k0 ?_)
  refine c_get H.1 hk ?_
  rw [show o + 1 + 1 = o + 2 by omega, H.2.1 k hk, H.2.2.2.2.2.2.2.1, pk_sub hh]
  refine c_Odds_choicesWith k0 H hk hn (by omega) hu hN ?_
  rw [H.2.2.2.2.2.2.2.2]
  refine c_Odds_choices hN hn ?_
  exact c_S_leastTerms (chW_48 (by omega) (by omega) hn) (bn_48 hN hn) (bn_pos hnN) ⟨_, rfl, fin⟩
theorem c_Odds_likelyKept {P : Int64 → xD → Prop} {k j : Nat} {x : Int32} (k0 : xk o = 11) (H : oR D o K A h u e N) (hk : k < 13) (hj : j ≤ 4) (hAN : A ≤ N) (hA : A ≤ 4) (hu : u k ≤ N) (hN : N ≤ 52) (fin : P (lN (lst (chW (u k) (N - u k) A j (A + 1 - j)) (bn N A) (x ≠ 0))) D) : xCl (d + 3) m_Odds_likelyKept [.ref o, .int (nI k), .int (nI j), .int x] D P := by
  refine xCl_of y_Odds_likelyKept (Nat.le_of_ble_eq_true rfl) (s_Odds_likelyKept_0 k0 ?_)
  rw [H.2.2.2.2.2.2.2.1]
  refine c_Odds_choicesWith k0 H hk (by omega) (by omega) hu hN ?_
  rw [H.2.2.2.2.2.2.2.2, H.2.2.2.2.2.2.2.1]
  refine c_Odds_choices hN (by omega) ?_
  exact c_S_leastTerms (chW_48 (by omega) (by omega) (by omega)) (bn_48 hN (by omega)) (bn_pos hAN) ⟨_, rfl, fin⟩
theorem c_Odds_soonestBy {P : Int32 → xD → Prop} {a : Nat} {l : List Nat} {x : Int32} (k0 : xk o = 11) (H : oR D o K A h u e N) (hK : K ≤ 13) (hA : A ≤ 4) (hb : ∀ k, k < 13 → h k ≤ 4) (hl : lR D a l) (hl52 : l.length ≤ 52) (hc : ∀ c, c ∈ l → c < 13) (ha : a + 2 ≤ o ∨ o + 7 ≤ a)
    (fin : ∀ D', xOut o (o + 7) D D' → P (oSoonest K A h l x) D') : xCi (d + 2) m_Odds_soonestBy [.ref o, .ref a, .int x] D P := by
  have ka := hl.1.2.2
  obtain ⟨a1, a2, a3, a4, a5, a6, a7, a8, a9⟩ := H
  refine xCi_of y_Odds_soonestBy (Nat.le_of_ble_eq_true rfl) (s_Odds_soonestBy_0 k0 ka ?_)
  have gm : ∀ i, i < l.length → l.getD i 0 < 13 := fun i hi => hc _ (getD_mem hi)
  -- card by card
  have third : (¬ ∃ c, c ∈ l ∧ K ≤ c) → fsN (oGe A h) K = none → ∀ m i, i + m = l.length → ∀ D' h', xOut o (o + 7) D D' → rS D' (o + 1) 13 → (∀ k, k < 13 → D'.1 (o + 2) k = nI (h' k)) → D'.1 o 7 = nI A → (∀ k, k < 13 → h' k ≤ 4 + i) → oSoon A h' (l.drop i) i = oSoon A h l 0 →
      xPf (d + 2) m_Odds_soonestBy 73 [(0, .ref o), (1, .ref a), (2, .int x), (3, .int (nI i))] [] D' (fun r D' => ∃ x, r = some (.int x) ∧ P x D') := by
    intro hno hfs m
    induction m with
    | zero =>
      intro i hi D' h' oD b1 b2 b8 hb' hs
      refine s_Odds_soonestBy_73 k0 ka (c_Row_size (hl.out oD (by omega)).1 ⟨fun _ => ⟨_, rfl, ?_⟩, fun q => absurd (nI_le (by omega) (by omega)) q⟩)
      have hf := fin D' oD
      unfold oSoonest at hf
      rw [if_neg hno, hfs] at hf
      rw [List.drop_eq_nil_of_le (by omega)] at hs
      have hs : none = oSoon A h l 0 := hs
      rw [← hs] at hf
      exact hf
    | succ m ih =>
      intro i hi D' h' oD b1 b2 b8 hb' hs
      have hl' := hl.out oD (by omega)
      have hci := gm i (by omega)
      have hbi := hb' _ hci
      rw [drop_at (show i < l.length by omega), oSoon] at hs
      refine s_Odds_soonestBy_73 k0 ka (c_Row_size hl'.1 ⟨fun q => absurd q (nI_ge (by omega) (by omega)), fun _ => ?_⟩)
      refine lR_get hl' (by omega) ?_
      refine c_add b1 hci (fun D1 o1 v1 => ?_)
      have oD1 : xOut o (o + 7) D D1 := oD.trans (o1.mono (by omega) (by omega))
      refine c_get (b1.out o1 (by omega)) hci ?_
      rw [v1, if_pos rfl, show o + 1 + 1 = o + 2 by omega, b2 _ hci, nI_1, show D1.1 o 7 = nI A by rw [o1.1 _ (by omega)]; exact b8]
      refine ⟨fun q => ?_, fun q => ?_⟩
      · have z := (nI_ltI (by omega) (by omega)).mp q
        rw [if_neg (by omega)] at hs
        rw [nI_1 i]
        refine ih (i + 1) (by omega) D1 (inc h' (l.getD i 0)) oD1 (b1.out o1 (by omega)) (fun k hk => ?_) (by rw [o1.1 _ (by omega)]; exact b8) (fun k hk => ?_) hs
        · rw [show o + 2 = o + 1 + 1 by omega, v1, show o + 1 + 1 = o + 2 by omega]
          unfold inc
          by_cases y : k = l.getD i 0
          · rw [if_pos y, if_pos y, y, b2 _ hci, nI_1]
          · rw [if_neg y, if_neg y]; exact b2 k hk
        · unfold inc
          have := hb' k hk
          split <;> omega
      · have z : A ≤ h' (l.getD i 0) + 1 := Nat.le_of_not_lt (fun z => q (nI_lt z (by omega)))
        rw [if_pos z] at hs
        have hf := fin D1 oD1
        unfold oSoonest at hf
        rw [if_neg hno, hfs, ← hs] at hf
        refine ⟨fun y => ⟨_, rfl, ?_⟩, fun y => ⟨_, rfl, ?_⟩⟩
        · rw [nI_1 i]
          have hf : P (if x = 0 then nI (i + 1) else nI (l.getD i 0)) D1 := hf
          rw [if_pos y] at hf; exact hf
        · have hf : P (if x = 0 then nI (i + 1) else nI (l.getD i 0)) D1 := hf
          rw [if_neg y] at hf; exact hf
  -- whether he is there already
  have second : (¬ ∃ c, c ∈ l ∧ K ≤ c) → ∀ m k, k + m = K → (∀ i, i < k → oGe A h i = false) → xPf (d + 2) m_Odds_soonestBy 32 [(0, .ref o), (1, .ref a), (2, .int x), (3, .int (nI k))] [] D (fun r D' => ∃ x, r = some (.int x) ∧ P x D') := by
    intro hno m
    induction m with
    | zero =>
      intro k hk hn
      refine s_Odds_soonestBy_32 k0 ka ⟨fun _ => ?_, fun q => absurd ?_ q⟩
      · exact third hno (fsN_none.mpr (fun i hi => hn i (by omega))) l.length 0 (by omega) D h xOut.rfl' a1 a2 a8 (fun k hk => by have := hb k hk; omega) rfl
      · rw [a7]; exact nI_le (by omega) (by omega)
    | succ m ih =>
      intro k hk hn
      refine s_Odds_soonestBy_32 k0 ka ⟨fun q => absurd q ?_, fun _ => c_get a1 (show k < 13 by omega) ?_⟩
      · rw [a7]; exact nI_ge (by omega) (by omega)
      · have hbk := hb k (by omega)
        rw [show o + 1 + 1 = o + 2 by omega, a2 k (by omega), a8, nI_1 k]
        refine ⟨fun q => ih (k + 1) (by omega) (fun i hi => ?_), fun q => ?_⟩
        · have z := (nI_ltI (by omega) (by omega)).mp q
          by_cases y : i = k
          · rw [y]; exact oGe_f.mpr (by omega)
          · exact hn i (by omega)
        · have hf := fin D xOut.rfl'
          unfold oSoonest at hf
          rw [if_neg hno, fsN_at (k := k) hn (oGe_t.mpr (Nat.le_of_not_lt (fun z => q (nI_lt z (by omega))))) (by omega)] at hf
          refine ⟨fun y => ⟨_, rfl, ?_⟩, fun y => ⟨_, rfl, ?_⟩⟩
          · have hf : P (if x = 0 then 0 else nI k) D := hf
            rw [if_pos y] at hf; exact hf
          · have hf : P (if x = 0 then 0 else nI k) D := hf
            rw [if_neg y] at hf; exact hf
  -- whether all are cards of the table
  have first : ∀ m i, i + m = l.length → (∀ j, j < i → l.getD j 0 < K) → xPf (d + 2) m_Odds_soonestBy 2 [(0, .ref o), (1, .ref a), (2, .int x), (3, .int (nI i))] [] D (fun r D' => ∃ x, r = some (.int x) ∧ P x D') := by
    intro m
    induction m with
    | zero =>
      intro i hi hall
      refine s_Odds_soonestBy_2 k0 ka (c_Row_size hl.1 ⟨fun _ => ?_, fun q => absurd (nI_le (by omega) (by omega)) q⟩)
      refine second ?_ K 0 (by omega) (fun i hi => absurd hi (by omega))
      rintro ⟨c, hcl, hcK⟩
      obtain ⟨j, hj⟩ := List.getElem?_of_mem hcl
      have hjl := (List.getElem?_eq_some_iff.mp hj).1
      have := hall j (by omega)
      rw [getD_at hjl] at hj
      cases hj
      omega
    | succ m ih =>
      intro i hi hall
      refine s_Odds_soonestBy_2 k0 ka (c_Row_size hl.1 ⟨fun q => absurd q (nI_ge (by omega) (by omega)), fun _ => ?_⟩)
      have hci := gm i (by omega)
      refine lR_get hl (by omega) ?_
      rw [a7, nI_1 i]
      refine ⟨fun q => ih (i + 1) (by omega) (fun j hj => ?_), fun q => ⟨_, rfl, ?_⟩⟩
      · have z := (nI_ltI (by omega) (by omega)).mp q
        by_cases y : j = i
        · rw [y]; exact z
        · exact hall j (by omega)
      · have hf := fin D xOut.rfl'
        unfold oSoonest at hf
        rw [if_pos ⟨l.getD i 0, getD_mem (by omega), Nat.le_of_not_lt (fun z => q (nI_lt z (by omega)))⟩] at hf
        exact hf
  exact first l.length 0 (by omega) (fun j hj => absurd hj (by omega))
end ODDS
