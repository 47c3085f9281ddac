/-! The constructors: what they leave. -/
theorem oinitC : xIn (.code objectInit ⟨#[0xb1]⟩ 1 none) := by
  rw [show (⟨#[0xb1]⟩ : ByteArray) = object_method_1_code from by decide +kernel]
  exact wd_30
theorem gE.c {ρ0 ρ' : Nat → Nat → Bool} {b N i : Nat} (hE : gE ρ0 ρ' b N) (h1 : b ≤ i) (h2 : i < b + N) : gC (b + N, ρ') i := ⟨h2, hE.2 i h1 h2⟩
theorem nw_0 : xNw 0 9 (xN_0, xF_0, 9) := ⟨rfl, xHin_0, wd_24, wd_1, by decide, rfl, rfl, xY_0, xYok_0, by decide +kernel⟩
theorem nw_1 : xNw 1 5 (xN_1, xF_1, 5) := ⟨rfl, xHin_1, wd_32, wd_2, by decide, rfl, rfl, xY_1, xYok_1, by decide +kernel⟩
theorem nw_2 : xNw 2 2 (xN_2, xF_2, 2) := ⟨rfl, xHin_2, wd_38, wd_3, by decide, rfl, rfl, xY_2, xYok_2, by decide +kernel⟩
theorem nw_3 : xNw 3 6 (xN_3, xF_3, 6) := ⟨rfl, xHin_3, wd_53, wd_4, by decide, rfl, rfl, xY_3, xYok_3, by decide +kernel⟩
theorem nw_4 : xNw 4 2 (xN_4, xF_4, 2) := ⟨rfl, xHin_4, wd_59, wd_5, by decide, rfl, rfl, xY_4, xYok_4, by decide +kernel⟩
theorem nw_5 : xNw 5 2 (xN_5, xF_5, 2) := ⟨rfl, xHin_5, wd_101, wd_8, by decide, rfl, rfl, xY_5, xYok_5, by decide +kernel⟩
theorem nw_6 : xNw 6 13 (xN_6, xF_6, 13) := ⟨rfl, xHin_6, wd_172, wd_9, by decide, rfl, rfl, xY_6, xYok_6, by decide +kernel⟩
theorem nw_7 : xNw 7 8 (xN_7, xF_7, 8) := ⟨rfl, xHin_7, wd_225, wd_10, by decide, rfl, rfl, xY_7, xYok_7, by decide +kernel⟩
theorem nw_8 : xNw 8 10 (xN_8, xF_8, 10) := ⟨rfl, xHin_8, wd_231, wd_11, by decide, rfl, rfl, xY_8, xYok_8, by decide +kernel⟩
theorem nw_9 : xNw 9 8 (xN_9, xF_9, 8) := ⟨rfl, xHin_9, wd_299, wd_12, by decide, rfl, rfl, xY_9, xYok_9, by decide +kernel⟩
theorem nw_10 : xNw 10 12 (xN_10, xF_10, 12) := ⟨rfl, xHin_10, wd_339, wd_13, by decide, rfl, rfl, xY_10, xYok_10, by decide +kernel⟩
theorem nw_11 : xNw 11 9 (xN_11, xF_11, 9) := ⟨rfl, xHin_11, wd_388, wd_14, by decide, rfl, rfl, xY_11, xYok_11, by decide +kernel⟩
theorem nw_12 : xNw 12 2 (xN_12, xF_12, 2) := ⟨rfl, xHin_12, wd_434, wd_15, by decide, rfl, rfl, xY_12, xYok_12, by decide +kernel⟩
theorem nw_13 : xNw 13 81 (xN_13, xF_13, 81) := ⟨rfl, xHin_13, wd_1515, wd_16, by decide, rfl, rfl, xY_13, xYok_13, by decide +kernel⟩
set_option maxRecDepth 20000 in
theorem ka_all : ∀ a, a < 368 → (xk a = 104 → xk (a + 1) = 1 ∧ xk (a + 45) = 1 ∧ xk (a + 89) = 1) ∧ (xk a = 105 → xk (a + 1) = 3 ∧ xk (a + 20) = 3) := by decide +kernel
theorem ka_4_0 {a : Nat} (h : xk a = 104) : xk (a + 1) = 1 := ((ka_all a (xlt h (by decide))).1 h).1
theorem ka_4_1 {a : Nat} (h : xk a = 104) : xk (a + 45) = 1 := ((ka_all a (xlt h (by decide))).1 h).2.1
theorem ka_4_2 {a : Nat} (h : xk a = 104) : xk (a + 89) = 1 := ((ka_all a (xlt h (by decide))).1 h).2.2
theorem ka_5_0 {a : Nat} (h : xk a = 105) : xk (a + 1) = 3 := ((ka_all a (xlt h (by decide))).2 h).1
theorem ka_5_1 {a : Nat} (h : xk a = 105) : xk (a + 20) = 3 := ((ka_all a (xlt h (by decide))).2 h).2
/-- an array of references at a in which the first k stand -/
def gA (ρA ρ : Nat → Nat → Bool) (a k : Nat) : Prop := (∀ i, i ≠ a → ρA i = ρ i) ∧ ∀ j, j < k → ρA a j = true
theorem gA_0 (ρ : Nat → Nat → Bool) (a : Nat) : gA (gF ρ a) ρ a 0 := ⟨fun i hi => gF_ne ρ hi, fun j hj => absurd hj (by omega)⟩
theorem gE_arr {ρ0 ρ ρA : Nat → Nat → Bool} {b a c k N : Nat} {S : List Nat} (hB : gB ρ0 ρ b S) (hA : gA ρA ρ a k) (h : b < a) (h2 : a < c) : gE (gF ρA c) ρA c N := ⟨fun i hi k _ => by rw [gF_ne ρA (by omega)], fun i h1 _ k _ => by rw [hA.1 i (by omega)]; exact hB.2.1 i (by omega) k⟩
theorem xb_aast {d : Nat} {m : xM} {pc : Nat} {L : List (Nat × Value)} {st : List Value} {a t k c g N : Nat} {ρ ρA : Nat → Nat → Bool} {E : xG} {D : xD} {Q : Option Value → xD → Prop} (hc : xk a = 100 + t) (ht : t = 4 ∨ t = 5) (ha : a < g) (hb : xk (a + 1 + k * xw t) = c) (hci : c < 100) (hb2 : a + 1 + k * xw t < g) (hl : xl a = N) (hk : k < N) (hk2 : (nI k).toNatClampNeg = k ∧ vp_in (nI k) N ∧ ∃ r, xcl[c]? = some r ∧ xat t = .object r.1) (hA : gA ρA ρ a k)
    (he : m.2.2.2.2.lookup pc = some (.aastore, 1)) (kk : ∀ ρA', gA ρA' ρ a (k + 1) → xP d m (pc + 1) L st (g, ρA') D E Q) : xP d m pc L (.ref (a + 1 + k * xw t) :: .int (nI k) :: .ref a :: st) (g, ρA) D E Q := by
  obtain ⟨e, hin, r, hr, hrt⟩ := hk2
  have := x_aast (G := (g, ρA)) (D := D) (E := E) (Q := Q) (d := d) (m := m) (pc := pc) (L := L) (st := st) (j := nI k) hc ht ha (by rw [e]; exact hb) hci (by rw [e]; exact hb2) hr hrt (by rw [hl]; exact hin) he (kk _ ⟨fun i hi => by rw [xuR_ne _ _ hi]; exact hA.1 i hi, fun j hj => ?_⟩)
  · rw [e] at this; exact this
  · rw [e]
    by_cases q : j = k
    · simp [xuR, q]
    · have := hA.2 j (by omega)
      simp [xuR, this]
theorem xb_adone {d : Nat} {m : xM} {pc : Nat} {L : List (Nat × Value)} {st : List Value} {a b c g N : Nat} {ρ0 ρ ρA : Nat → Nat → Bool} {S : List Nat} {E : xG} {D : xD} {Q : Option Value → xD → Prop} (hc : xk a = c) (h100 : ¬ c < 100) (hl : xl a = N) (hB : gB ρ0 ρ b S) (h : b < a) (hA : gA ρA ρ a N) (kk : xP d m pc L st (g, ρ) D E Q) : xP d m pc L st (g, ρA) D E Q := by
  refine xP_eq (ρ' := ρ) (fun i hi k hr => ?_) kk
  by_cases e : i = a
  · subst e
    unfold gRel at hr
    rw [hc, if_neg h100, hl] at hr
    rw [hA.2 k hr, hB.2.1 i h k]
  · rw [hA.1 i e]
theorem k_Row {d b n : Nat} {ρ ρ' : Nat → Nat → Bool} {D : xD} {P : xD → Prop} (k0 : xk b = 2) (hl : xl (b + 1) = n) (hn : n ≤ 21875) (hz : zF D b) (hE : gE ρ ρ' b 2) (h : P D) : xCg (d + 2) m_Row_init [.ref b, .int (nI n)] (b + 1, ρ) D (b + 2, ρ') P := by
  refine xCg_of y_Row_init (Nat.le_of_ble_eq_true rfl) ?_
  show xP (d + 2) m_Row_init 0 [(0, .ref b), (1, .int (nI n))] [] (b + 1, ρ) D (b + 2, ρ') _
  refine xb_start (fun ρ hB => ?_)
  refine x_aload_n rfl rfl ?_
  refine x_oinit wd_42 wd_29 oinitC (by omega) (Nat.le_of_ble_eq_true rfl) rfl ?_
  refine x_aload_n rfl rfl ?_
  refine x_iload_n rfl rfl ?_
  refine x_if_ge (tgt := 13) rfl rfl (fun _ => ?_) (fun c => absurd (nI_le (a := 0) (b := n) (by omega) (by omega)) c)
  refine x_iload_n rfl rfl ?_
  refine xb_newa (a := b + 1) (t := 0) wd_50 rfl (by decide) (ck_2_0 k0) hl (nI_pos (by omega)) (nI_clamp (by omega)) (hz.up (by omega)) (by show _ < b + 2; omega) rfl ?_
  refine xb_putR (g := b + 2) (b := b) lp_Row_7 rfl k0 rfl (by omega) hB (fun z => ⟨rfl, rfl⟩) rfl (fun ρ hB => ?_)
  refine xb_whole (N := 2) hB k0 (by decide) rfl hE ?_
  exact x_vret rfl rfl ⟨rfl, h⟩
theorem cg_rank {G : xG} {d a n m : Nat} {D : xD} {P : xD → Prop} (k0 : xk a = 2) (g : ∀ i, a ≤ i → i < a + 2 → gC G i) (hl : xl (a + 1) = n) (hn : n ≤ 625) (hm : m ≤ 16) (hr : rS D a 0) (h : ∀ D', xOut a (a + 2) D D' → rS D' a n → (∀ c, c < n → D'.1 (a + 1) c = nI (rkN m c)) → P D') : xCvg G (d + 2) m_Odds_rank [.ref a, .int (nI n), .int (nI m)] D P := by
  refine xCvg_of y_Odds_rank (Nat.le_of_ble_eq_true rfl) (sg_Odds_rank_0 k0 g ?_)
  have key : ∀ r c, c + r = n → ∀ D', xOut a (a + 2) D D' → rS D' a c → (∀ j, j < c → D'.1 (a + 1) j = nI (rkN m j)) → xPg G (d + 2) m_Odds_rank 5 [(0, .ref a), (1, .int (nI n)), (2, .int (nI m)), (3, .int (nI (rkN m c))), (4, .int (nI c))] [] D' (fun r D' => r = none ∧ P D') := by
    intro r
    induction r with
    | zero =>
      intro c hc D' o w v
      have e : c = n := by omega
      subst e
      exact sg_Odds_rank_5 k0 g ⟨fun _ => ⟨rfl, h D' o w v⟩, fun q => absurd (nI_le (a := c) (b := c) (by omega) (by omega)) q⟩
    | succ r ih =>
      intro c hc D' o w v
      refine sg_Odds_rank_5 k0 g ⟨fun q => absurd q (nI_ge (by omega) (by omega)), fun _ => ?_⟩
      have ef : ((((nI c / (125 : Int32)) + ((nI c / (25 : Int32)) - (nI c / (25 : Int32)) / (5 : Int32) * (5 : Int32))) + ((nI c / (5 : Int32)) - (nI c / (5 : Int32)) / (5 : Int32) * (5 : Int32))) + (nI c - nI c / (5 : Int32) * (5 : Int32))) = nI (figS c) := by
        rw [show (125 : Int32) = nI 125 from rfl, show (25 : Int32) = nI 25 from rfl, show (5 : Int32) = nI 5 from rfl]
        rw [pk_div (show c < 2 ^ 31 by omega) (show 0 < 125 by omega) (by omega), pk_div (show c < 2 ^ 31 by omega) (show 0 < 25 by omega) (by omega), pk_rem (show c / 25 < 2 ^ 31 by omega) (show 0 < 5 by omega) (by omega), pk_div (show c < 2 ^ 31 by omega) (show 0 < 5 by omega) (by omega), pk_mul, nI_add]
        rw [pk_div (show c / 5 < 2 ^ 31 by omega) (show 0 < 5 by omega) (by omega), pk_mul, pk_sub (by omega), nI_add, pk_sub (by omega), nI_add]
        unfold figS
        congr 1
        omega
      rw [ef]
      have hfig : figS c < 2 ^ 31 := by unfold figS; omega
      refine cg_push w g (by omega) (fun D1 o1 w1 v1 => ?_)
      have vv : ∀ j, j < c + 1 → D1.1 (a + 1) j = nI (rkN m j) := fun j hj => by
        rw [v1 j]
        by_cases e : j = c
        · rw [if_pos e, e]
        · rw [if_neg e]; exact v j (by omega)
      have fin := ih (c + 1) (by omega) D1 (o.trans o1) w1 vv
      rw [nI_1 c]
      refine ⟨fun q => ?_, fun q => ?_⟩
      · have hlt : m < figS c := (nI_ltI (by omega) hfig).mp q
        have e : rkN m (c + 1) = rkN m c := by rw [rkN, if_neg (by omega)]; rfl
        rw [e] at fin
        rw [show nI (rkN m c) + (0 : Int32) = nI (rkN m c) from nI_add _ 0]
        exact fin
      · have e : rkN m (c + 1) = rkN m c + 1 := by
          rw [rkN, if_pos]
          apply Nat.le_of_not_lt
          intro z
          exact q (nI_lt z hfig)
        rw [e] at fin
        rw [nI_1]
        exact fin
  exact key n 0 (by omega) D xOut.rfl' hr (fun j hj => absurd hj (by omega))
def toN (D : xD) (b : Nat) : Prop := rS D (b + 1) 0 ∧ rS D (b + 3) 5 ∧ D.1 b 3 = 0 ∧ D.1 b 4 = -1 ∧ ∀ j, j < 5 → D.1 (b + 4) j = 0
theorem toN.out {D D' : xD} {b lo hi : Nat} (h : toN D b) (o : xOut lo hi D D') (q : b + 5 ≤ lo ∨ hi ≤ b) : toN D' b := by
  obtain ⟨h1, h2, h3, h4, h5⟩ := h
  exact ⟨h1.out o (by omega), h2.out o (by omega), by rw [o.1 b (by omega)]; exact h3, by rw [o.1 b (by omega)]; exact h4, fun j hj => by rw [o.1 (b + 4) (by omega)]; exact h5 j hj⟩
def oKo (D : xD) (b : Nat) : Prop := oK D b
theorem oKo.out {D D' : xD} {b lo hi : Nat} (h : oKo D b) (o : xOut lo hi D D') (q : b + 11 ≤ lo ∨ hi ≤ b) : oKo D' b := by
  obtain ⟨h1, h2, h3, h4⟩ := h
  exact ⟨h1.out o (by omega), fun c hc => by rw [o.1 (b + 8) (by omega)]; exact h2 c hc, h3.out o (by omega), fun c hc => by rw [o.1 (b + 10) (by omega)]; exact h4 c hc⟩
theorem k_Film {d b : Nat} {ρ ρ' : Nat → Nat → Bool} {D : xD} {P : xD → Prop} (k0 : xk b = 5) (hz : zF D b) (hE : gE ρ ρ' b 5) (h : P D) : xCg (d + 3) m_Film_init [.ref b] (b + 1, ρ) D (b + 5, ρ') P := by
  refine xCg_of y_Film_init (Nat.le_of_ble_eq_true rfl) ?_
  show xP (d + 3) m_Film_init 0 [(0, .ref b)] [] (b + 1, ρ) D (b + 5, ρ') _
  refine xb_start (fun ρ hB => ?_)
  have hz := hz.up (Nat.le_succ b)
  have oT : xOut b (b + 5) D D := xOut.rfl'
  refine x_aload_n rfl rfl ?_
  refine x_oinit wd_105 wd_29 oinitC (by omega) (Nat.le_of_ble_eq_true rfl) rfl ?_
  refine x_aload_n rfl rfl ?_
  refine xb_new (a := b + 1) nw_2 wd_106 (ck_5_0 k0) (hz.up (by omega)) (by show _ < b + 5; omega) rfl ?_
  refine x_dup rfl rfl ?_
  refine x_bipush (v := nI 10) rfl rfl ?_
  refine xb_call (a := b + 1) (N := 2) (As := [.int (nI 10)]) (st := [.ref (b + 1), .ref b]) lm_Film_11 y_Row_init wd_40 rfl rfl rfl rfl (Nat.le_of_ble_eq_true rfl) rfl (by decide) (by show _ ≤ b + 5; omega) ?_
  refine k_Row (n := 10) (ck_5_0 k0) (cl_5_0 k0) (by decide) (hz.up (by omega)) (gE_of hB (by omega)) ?_
  refine xb_putR (g := b + 3) (b := b) lp_Film_14 rfl k0 rfl (by omega) hB (fun z => ⟨rfl, rfl⟩) rfl (fun ρ hB => ?_)
  refine x_aload_n rfl rfl ?_
  refine xb_new (a := b + 3) nw_2 wd_106 (ck_5_1 k0) (hz.up (by omega)) (by show _ < b + 5; omega) rfl ?_
  refine x_dup rfl rfl ?_
  refine x_bipush (v := nI 10) rfl rfl ?_
  refine xb_call (a := b + 3) (N := 2) (As := [.int (nI 10)]) (st := [.ref (b + 3), .ref b]) lm_Film_11 y_Row_init wd_40 rfl rfl rfl rfl (Nat.le_of_ble_eq_true rfl) rfl (by decide) (by show _ ≤ b + 5; omega) ?_
  refine k_Row (n := 10) (ck_5_1 k0) (cl_5_1 k0) (by decide) (hz.up (by omega)) (gE_of hB (by omega)) ?_
  refine xb_putR (g := b + 5) (b := b) lp_Film_20 rfl k0 rfl (by omega) hB (fun z => ⟨rfl, rfl⟩) rfl (fun ρ hB => ?_)
  refine xb_whole (N := 5) hB k0 (by decide) rfl hE ?_
  refine x_vret rfl rfl ⟨rfl, ?_⟩
  exact h
theorem k_Table {d b : Nat} {ρ ρ' : Nat → Nat → Bool} {D : xD} {P : xD → Prop} (k0 : xk b = 4) (hz : zF D b) (hE : gE ρ ρ' b 5) (h : ∀ D', xOut (b + 1) (b + 5) D D' → tQ D' b tNew → P D') : xCg (d + 4) m_Table_init [.ref b] (b + 1, ρ) D (b + 5, ρ') P := by
  refine xCg_of y_Table_init (Nat.le_of_ble_eq_true rfl) ?_
  show xP (d + 4) m_Table_init 0 [(0, .ref b)] [] (b + 1, ρ) D (b + 5, ρ') _
  refine xb_start (fun ρ hB => ?_)
  have hz := hz.up (Nat.le_succ b)
  have oT : xOut b (b + 5) D D := xOut.rfl'
  refine x_aload_n rfl rfl ?_
  refine x_oinit wd_63 wd_29 oinitC (by omega) (Nat.le_of_ble_eq_true rfl) rfl ?_
  refine x_aload_n rfl rfl ?_
  refine xb_new (a := b + 1) nw_2 wd_64 (ck_4_0 k0) (hz.up (by omega)) (by show _ < b + 5; omega) rfl ?_
  refine x_dup rfl rfl ?_
  refine x_bipush (v := nI 6) rfl rfl ?_
  refine xb_call (a := b + 1) (N := 2) (As := [.int (nI 6)]) (st := [.ref (b + 1), .ref b]) lm_Table_11 y_Row_init wd_40 rfl rfl rfl rfl (Nat.le_of_ble_eq_true rfl) rfl (by decide) (by show _ ≤ b + 5; omega) ?_
  refine k_Row (n := 6) (ck_4_0 k0) (cl_4_0 k0) (by decide) (hz.up (by omega)) (gE_of hB (by omega)) ?_
  refine xb_putR (g := b + 3) (b := b) lp_Table_14 rfl k0 rfl (by omega) hB (fun z => ⟨rfl, rfl⟩) rfl (fun ρ hB => ?_)
  refine x_aload_n rfl rfl ?_
  refine xb_new (a := b + 3) nw_2 wd_64 (ck_4_1 k0) (hz.up (by omega)) (by show _ < b + 5; omega) rfl ?_
  refine x_dup rfl rfl ?_
  refine x_bipush (v := nI 42) rfl rfl ?_
  refine xb_call (a := b + 3) (N := 2) (As := [.int (nI 42)]) (st := [.ref (b + 3), .ref b]) lm_Table_11 y_Row_init wd_40 rfl rfl rfl rfl (Nat.le_of_ble_eq_true rfl) rfl (by decide) (by show _ ≤ b + 5; omega) ?_
  refine k_Row (n := 42) (ck_4_1 k0) (cl_4_1 k0) (by decide) (hz.up (by omega)) (gE_of hB (by omega)) ?_
  refine xb_putR (g := b + 5) (b := b) lp_Table_20 rfl k0 rfl (by omega) hB (fun z => ⟨rfl, rfl⟩) rfl (fun ρ hB => ?_)
  refine xb_whole (N := 5) hB k0 (by decide) rfl hE ?_
  refine x_aload_n rfl rfl ?_
  refine x_vvg (As := []) (st := []) lm_Table_23 vf_Table_clear k0 (hE.c (by omega) (by omega)) rfl rfl (Nat.le_of_ble_eq_true rfl) rfl ?_ (fun _ h => h)
  refine cg_Table_clear k0 (fun i q1 q2 => hE.c q1 q2) (fun D1 o1 t1 => ?_)
  refine x_vret rfl rfl ⟨rfl, ?_⟩
  exact h D1 o1 t1
theorem k_Deal {d b : Nat} {ρ ρ' : Nat → Nat → Bool} {D : xD} {P : xD → Prop} (k0 : xk b = 8) (hz : zF D b) (hE : gE ρ ρ' b 11) (h : ∀ D', xOut b (b + 11) D D' → rS D' (b + 5) 364 → P D') : xCg (d + 3) m_Deal_init [.ref b] (b + 1, ρ) D (b + 11, ρ') P := by
  refine xCg_of y_Deal_init (Nat.le_of_ble_eq_true rfl) ?_
  show xP (d + 3) m_Deal_init 0 [(0, .ref b)] [] (b + 1, ρ) D (b + 11, ρ') _
  refine xb_start (fun ρ hB => ?_)
  have hz := hz.up (Nat.le_succ b)
  have oT : xOut b (b + 11) D D := xOut.rfl'
  refine x_aload_n rfl rfl ?_
  refine x_oinit wd_235 wd_29 oinitC (by omega) (Nat.le_of_ble_eq_true rfl) rfl ?_
  refine x_aload_n rfl rfl ?_
  refine xb_new (a := b + 1) nw_2 wd_236 (ck_8_0 k0) (hz.up (by omega)) (by show _ < b + 11; omega) rfl ?_
  refine x_dup rfl rfl ?_
  refine x_bipush (v := nI 78) rfl rfl ?_
  refine xb_call (a := b + 1) (N := 2) (As := [.int (nI 78)]) (st := [.ref (b + 1), .ref b]) lm_Deal_11 y_Row_init wd_40 rfl rfl rfl rfl (Nat.le_of_ble_eq_true rfl) rfl (by decide) (by show _ ≤ b + 11; omega) ?_
  refine k_Row (n := 78) (ck_8_0 k0) (cl_8_0 k0) (by decide) (hz.up (by omega)) (gE_of hB (by omega)) ?_
  refine xb_putR (g := b + 3) (b := b) lp_Deal_14 rfl k0 rfl (by omega) hB (fun z => ⟨rfl, rfl⟩) rfl (fun ρ hB => ?_)
  refine x_aload_n rfl rfl ?_
  refine xb_new (a := b + 3) nw_2 wd_236 (ck_8_1 k0) (hz.up (by omega)) (by show _ < b + 11; omega) rfl ?_
  refine x_dup rfl rfl ?_
  refine x_bipush (v := nI 6) rfl rfl ?_
  refine xb_call (a := b + 3) (N := 2) (As := [.int (nI 6)]) (st := [.ref (b + 3), .ref b]) lm_Deal_11 y_Row_init wd_40 rfl rfl rfl rfl (Nat.le_of_ble_eq_true rfl) rfl (by decide) (by show _ ≤ b + 11; omega) ?_
  refine k_Row (n := 6) (ck_8_1 k0) (cl_8_1 k0) (by decide) (hz.up (by omega)) (gE_of hB (by omega)) ?_
  refine xb_putR (g := b + 5) (b := b) lp_Deal_20 rfl k0 rfl (by omega) hB (fun z => ⟨rfl, rfl⟩) rfl (fun ρ hB => ?_)
  refine x_aload_n rfl rfl ?_
  refine xb_new (a := b + 5) nw_2 wd_236 (ck_8_2 k0) (hz.up (by omega)) (by show _ < b + 11; omega) rfl ?_
  refine x_dup rfl rfl ?_
  refine x_sipush (v := nI 364) rfl rfl ?_
  refine xb_call (a := b + 5) (N := 2) (As := [.int (nI 364)]) (st := [.ref (b + 5), .ref b]) lm_Deal_11 y_Row_init wd_40 rfl rfl rfl rfl (Nat.le_of_ble_eq_true rfl) rfl (by decide) (by show _ ≤ b + 11; omega) ?_
  refine k_Row (n := 364) (ck_8_2 k0) (cl_8_2 k0) (by decide) (hz.up (by omega)) (gE_of hB (by omega)) ?_
  refine xb_putR (g := b + 7) (b := b) lp_Deal_23 rfl k0 rfl (by omega) hB (fun z => ⟨rfl, rfl⟩) rfl (fun ρ hB => ?_)
  refine x_aload_n rfl rfl ?_
  refine xb_new (a := b + 7) nw_2 wd_236 (ck_8_3 k0) (hz.up (by omega)) (by show _ < b + 11; omega) rfl ?_
  refine x_dup rfl rfl ?_
  refine x_bipush (v := nI 7) rfl rfl ?_
  refine xb_call (a := b + 7) (N := 2) (As := [.int (nI 7)]) (st := [.ref (b + 7), .ref b]) lm_Deal_11 y_Row_init wd_40 rfl rfl rfl rfl (Nat.le_of_ble_eq_true rfl) rfl (by decide) (by show _ ≤ b + 11; omega) ?_
  refine k_Row (n := 7) (ck_8_3 k0) (cl_8_3 k0) (by decide) (hz.up (by omega)) (gE_of hB (by omega)) ?_
  refine xb_putR (g := b + 9) (b := b) lp_Deal_26 rfl k0 rfl (by omega) hB (fun z => ⟨rfl, rfl⟩) rfl (fun ρ hB => ?_)
  refine x_aload_n rfl rfl ?_
  refine xb_new (a := b + 9) nw_2 wd_236 (ck_8_4 k0) (hz.up (by omega)) (by show _ < b + 11; omega) rfl ?_
  refine x_dup rfl rfl ?_
  refine x_bipush (v := nI 7) rfl rfl ?_
  refine xb_call (a := b + 9) (N := 2) (As := [.int (nI 7)]) (st := [.ref (b + 9), .ref b]) lm_Deal_11 y_Row_init wd_40 rfl rfl rfl rfl (Nat.le_of_ble_eq_true rfl) rfl (by decide) (by show _ ≤ b + 11; omega) ?_
  refine k_Row (n := 7) (ck_8_4 k0) (cl_8_4 k0) (by decide) (hz.up (by omega)) (gE_of hB (by omega)) ?_
  refine xb_putR (g := b + 11) (b := b) lp_Deal_29 rfl k0 rfl (by omega) hB (fun z => ⟨rfl, rfl⟩) rfl (fun ρ hB => ?_)
  refine xb_whole (N := 11) hB k0 (by decide) rfl hE ?_
  refine x_aload_n rfl rfl ?_
  refine x_gRg lf_Deal_23 k0 (hE.c (by omega) (by omega)) rfl rfl ?_
  refine x_sipush (v := nI 364) rfl rfl ?_
  refine x_iconst (v := nI 0) rfl rfl ?_
  refine x_vvg (As := [.int (nI 364), .int (nI 0)]) (st := []) lm_Deal_32 vf_Row_fill (ck_8_2 k0) (hE.c (by omega) (by omega)) rfl rfl (Nat.le_of_ble_eq_true rfl) rfl ?_ (fun _ h => h)
  have lf : xl (b + 5 + 1) = 364 := cl_8_2 k0
  refine cg_fill (k := 364) (v := nI 0) (ck_8_2 k0) (fun i q1 q2 => hE.c (by omega) (by omega)) (by omega) (fun D1 o1 w1 v1 => ?_)
  refine x_vret rfl rfl ⟨rfl, ?_⟩
  exact h _ (o1.mono (by omega) (by omega)) w1
theorem k_Sheet {d b : Nat} {ρ ρ' : Nat → Nat → Bool} {D : xD} {P : xD → Prop} (k0 : xk b = 3) (hz : zF D b) (hE : gE ρ ρ' b 19) (h : ∀ D', xOut b (b + 19) D D' → P D') : xCg (d + 5) m_Sheet_init [.ref b] (b + 1, ρ) D (b + 19, ρ') P := by
  refine xCg_of y_Sheet_init (Nat.le_of_ble_eq_true rfl) ?_
  show xP (d + 5) m_Sheet_init 0 [(0, .ref b)] [] (b + 1, ρ) D (b + 19, ρ') _
  refine xb_start (fun ρ hB => ?_)
  have hz := hz.up (Nat.le_succ b)
  have oT : xOut b (b + 19) D D := xOut.rfl'
  refine x_aload_n rfl rfl ?_
  refine x_oinit wd_57 wd_29 oinitC (by omega) (Nat.le_of_ble_eq_true rfl) rfl ?_
  refine x_aload_n rfl rfl ?_
  refine xb_new (a := b + 1) nw_4 wd_58 (ck_3_0 k0) (hz.up (by omega)) (by show _ < b + 19; omega) rfl ?_
  refine x_dup rfl rfl ?_
  refine xb_call (a := b + 1) (N := 5) (As := []) (st := [.ref (b + 1), .ref b]) lm_Sheet_11 y_Table_init wd_61 rfl rfl rfl rfl (Nat.le_of_ble_eq_true rfl) rfl (by decide) (by show _ ≤ b + 19; omega) ?_
  refine k_Table (ck_3_0 k0) (hz.up (by omega)) (gE_of hB (by omega)) (fun D1 o1 t1 => ?_)
  have hz := (hz.up (show _ ≤ b + 1 by omega)).out o1 (by omega)
  have oT := oT.trans (o1.mono (show b ≤ _ by omega) (show _ ≤ b + 19 by omega))
  refine xb_putR (g := b + 6) (b := b) lp_Sheet_12 rfl k0 rfl (by omega) hB (fun z => ⟨rfl, rfl⟩) rfl (fun ρ hB => ?_)
  refine x_aload_n rfl rfl ?_
  refine xb_new (a := b + 6) nw_2 wd_98 (ck_3_1 k0) (hz.up (by omega)) (by show _ < b + 19; omega) rfl ?_
  refine x_dup rfl rfl ?_
  refine x_bipush (v := nI 52) rfl rfl ?_
  refine xb_call (a := b + 6) (N := 2) (As := [.int (nI 52)]) (st := [.ref (b + 6), .ref b]) lm_Sheet_20 y_Row_init wd_40 rfl rfl rfl rfl (Nat.le_of_ble_eq_true rfl) rfl (by decide) (by show _ ≤ b + 19; omega) ?_
  refine k_Row (n := 52) (ck_3_1 k0) (cl_3_1 k0) (by decide) (hz.up (by omega)) (gE_of hB (by omega)) ?_
  refine xb_putR (g := b + 8) (b := b) lp_Sheet_23 rfl k0 rfl (by omega) hB (fun z => ⟨rfl, rfl⟩) rfl (fun ρ hB => ?_)
  refine x_aload_n rfl rfl ?_
  refine xb_new (a := b + 8) nw_2 wd_98 (ck_3_2 k0) (hz.up (by omega)) (by show _ < b + 19; omega) rfl ?_
  refine x_dup rfl rfl ?_
  refine x_bipush (v := nI 120) rfl rfl ?_
  refine xb_call (a := b + 8) (N := 2) (As := [.int (nI 120)]) (st := [.ref (b + 8), .ref b]) lm_Sheet_20 y_Row_init wd_40 rfl rfl rfl rfl (Nat.le_of_ble_eq_true rfl) rfl (by decide) (by show _ ≤ b + 19; omega) ?_
  refine k_Row (n := 120) (ck_3_2 k0) (cl_3_2 k0) (by decide) (hz.up (by omega)) (gE_of hB (by omega)) ?_
  refine xb_putR (g := b + 10) (b := b) lp_Sheet_27 rfl k0 rfl (by omega) hB (fun z => ⟨rfl, rfl⟩) rfl (fun ρ hB => ?_)
  refine x_aload_n rfl rfl ?_
  refine xb_new (a := b + 10) nw_2 wd_98 (ck_3_3 k0) (hz.up (by omega)) (by show _ < b + 19; omega) rfl ?_
  refine x_dup rfl rfl ?_
  refine x_iconst (v := nI 4) rfl rfl ?_
  refine xb_call (a := b + 10) (N := 2) (As := [.int (nI 4)]) (st := [.ref (b + 10), .ref b]) lm_Sheet_20 y_Row_init wd_40 rfl rfl rfl rfl (Nat.le_of_ble_eq_true rfl) rfl (by decide) (by show _ ≤ b + 19; omega) ?_
  refine k_Row (n := 4) (ck_3_3 k0) (cl_3_3 k0) (by decide) (hz.up (by omega)) (gE_of hB (by omega)) ?_
  refine xb_putR (g := b + 12) (b := b) lp_Sheet_30 rfl k0 rfl (by omega) hB (fun z => ⟨rfl, rfl⟩) rfl (fun ρ hB => ?_)
  refine x_aload_n rfl rfl ?_
  refine xb_new (a := b + 12) nw_2 wd_98 (ck_3_4 k0) (hz.up (by omega)) (by show _ < b + 19; omega) rfl ?_
  refine x_dup rfl rfl ?_
  refine x_bipush (v := nI 48) rfl rfl ?_
  refine xb_call (a := b + 12) (N := 2) (As := [.int (nI 48)]) (st := [.ref (b + 12), .ref b]) lm_Sheet_20 y_Row_init wd_40 rfl rfl rfl rfl (Nat.le_of_ble_eq_true rfl) rfl (by decide) (by show _ ≤ b + 19; omega) ?_
  refine k_Row (n := 48) (ck_3_4 k0) (cl_3_4 k0) (by decide) (hz.up (by omega)) (gE_of hB (by omega)) ?_
  refine xb_putR (g := b + 14) (b := b) lp_Sheet_33 rfl k0 rfl (by omega) hB (fun z => ⟨rfl, rfl⟩) rfl (fun ρ hB => ?_)
  refine x_aload_n rfl rfl ?_
  refine xb_new (a := b + 14) nw_5 wd_100 (ck_3_5 k0) (hz.up (by omega)) (by show _ < b + 19; omega) rfl ?_
  refine x_dup rfl rfl ?_
  refine xb_call (a := b + 14) (N := 5) (As := []) (st := [.ref (b + 14), .ref b]) lm_Sheet_38 y_Film_init wd_103 rfl rfl rfl rfl (Nat.le_of_ble_eq_true rfl) rfl (by decide) (by show _ ≤ b + 19; omega) ?_
  refine k_Film (ck_3_5 k0) (hz.up (by omega)) (gE_of hB (by omega)) ?_
  refine xb_putR (g := b + 19) (b := b) lp_Sheet_39 rfl k0 rfl (by omega) hB (fun z => ⟨rfl, rfl⟩) rfl (fun ρ hB => ?_)
  refine xb_whole (N := 19) hB k0 (by decide) rfl hE ?_
  refine x_vret rfl rfl ⟨rfl, ?_⟩
  exact h _ oT
theorem k_Deeds {d b : Nat} {ρ ρ' : Nat → Nat → Bool} {D : xD} {P : xD → Prop} (k0 : xk b = 7) (hz : zF D b) (hE : gE ρ ρ' b 16) (h : ∀ D', xOut b (b + 16) D D' → rS D' (b + 6) 364 → P D') : xCg (d + 4) m_Deeds_init [.ref b] (b + 1, ρ) D (b + 16, ρ') P := by
  refine xCg_of y_Deeds_init (Nat.le_of_ble_eq_true rfl) ?_
  show xP (d + 4) m_Deeds_init 0 [(0, .ref b)] [] (b + 1, ρ) D (b + 16, ρ') _
  refine xb_start (fun ρ hB => ?_)
  have hz := hz.up (Nat.le_succ b)
  have oT : xOut b (b + 16) D D := xOut.rfl'
  refine x_aload_n rfl rfl ?_
  refine x_oinit wd_229 wd_29 oinitC (by omega) (Nat.le_of_ble_eq_true rfl) rfl ?_
  refine x_aload_n rfl rfl ?_
  refine xb_new (a := b + 1) nw_8 wd_230 (ck_7_0 k0) (hz.up (by omega)) (by show _ < b + 16; omega) rfl ?_
  refine x_dup rfl rfl ?_
  refine xb_call (a := b + 1) (N := 11) (As := []) (st := [.ref (b + 1), .ref b]) lm_Deeds_11 y_Deal_init wd_233 rfl rfl rfl rfl (Nat.le_of_ble_eq_true rfl) rfl (by decide) (by show _ ≤ b + 16; omega) ?_
  refine k_Deal (ck_7_0 k0) (hz.up (by omega)) (gE_of hB (by omega)) (fun D1 o1 r1 => ?_)
  have hz := (hz.up (show _ ≤ b + 1 by omega)).out o1 (by omega)
  have oT := oT.trans (o1.mono (show b ≤ _ by omega) (show _ ≤ b + 16 by omega))
  refine xb_putR (g := b + 12) (b := b) lp_Deeds_12 rfl k0 rfl (by omega) hB (fun z => ⟨rfl, rfl⟩) rfl (fun ρ hB => ?_)
  refine x_aload_n rfl rfl ?_
  refine xb_new (a := b + 12) nw_2 wd_270 (ck_7_1 k0) (hz.up (by omega)) (by show _ < b + 16; omega) rfl ?_
  refine x_dup rfl rfl ?_
  refine x_bipush (v := nI 6) rfl rfl ?_
  refine xb_call (a := b + 12) (N := 2) (As := [.int (nI 6)]) (st := [.ref (b + 12), .ref b]) lm_Deeds_20 y_Row_init wd_40 rfl rfl rfl rfl (Nat.le_of_ble_eq_true rfl) rfl (by decide) (by show _ ≤ b + 16; omega) ?_
  refine k_Row (n := 6) (ck_7_1 k0) (cl_7_1 k0) (by decide) (hz.up (by omega)) (gE_of hB (by omega)) ?_
  refine xb_putR (g := b + 14) (b := b) lp_Deeds_23 rfl k0 rfl (by omega) hB (fun z => ⟨rfl, rfl⟩) rfl (fun ρ hB => ?_)
  refine x_aload_n rfl rfl ?_
  refine xb_new (a := b + 14) nw_2 wd_270 (ck_7_2 k0) (hz.up (by omega)) (by show _ < b + 16; omega) rfl ?_
  refine x_dup rfl rfl ?_
  refine x_bipush (v := nI 6) rfl rfl ?_
  refine xb_call (a := b + 14) (N := 2) (As := [.int (nI 6)]) (st := [.ref (b + 14), .ref b]) lm_Deeds_20 y_Row_init wd_40 rfl rfl rfl rfl (Nat.le_of_ble_eq_true rfl) rfl (by decide) (by show _ ≤ b + 16; omega) ?_
  refine k_Row (n := 6) (ck_7_2 k0) (cl_7_2 k0) (by decide) (hz.up (by omega)) (gE_of hB (by omega)) ?_
  refine xb_putR (g := b + 16) (b := b) lp_Deeds_27 rfl k0 rfl (by omega) hB (fun z => ⟨rfl, rfl⟩) rfl (fun ρ hB => ?_)
  refine xb_whole (N := 16) hB k0 (by decide) rfl hE ?_
  refine x_vret rfl rfl ⟨rfl, ?_⟩
  exact h _ oT r1
theorem k_Rounds {d b : Nat} {ρ ρ' : Nat → Nat → Bool} {D : xD} {P : xD → Prop} (k0 : xk b = 9) (hz : zF D b) (hE : gE ρ ρ' b 32) (h : ∀ D', xOut b (b + 32) D D' → rS D' (b + 6) 364 → P D') : xCg (d + 5) m_Rounds_init [.ref b] (b + 1, ρ) D (b + 32, ρ') P := by
  refine xCg_of y_Rounds_init (Nat.le_of_ble_eq_true rfl) ?_
  show xP (d + 5) m_Rounds_init 0 [(0, .ref b)] [] (b + 1, ρ) D (b + 32, ρ') _
  refine xb_start (fun ρ hB => ?_)
  have hz := hz.up (Nat.le_succ b)
  have oT : xOut b (b + 32) D D := xOut.rfl'
  refine x_aload_n rfl rfl ?_
  refine x_oinit wd_303 wd_29 oinitC (by omega) (Nat.le_of_ble_eq_true rfl) rfl ?_
  refine x_aload_n rfl rfl ?_
  refine xb_new (a := b + 1) nw_8 wd_304 (ck_9_0 k0) (hz.up (by omega)) (by show _ < b + 32; omega) rfl ?_
  refine x_dup rfl rfl ?_
  refine xb_call (a := b + 1) (N := 11) (As := []) (st := [.ref (b + 1), .ref b]) lm_Rounds_11 y_Deal_init wd_233 rfl rfl rfl rfl (Nat.le_of_ble_eq_true rfl) rfl (by decide) (by show _ ≤ b + 32; omega) ?_
  refine k_Deal (ck_9_0 k0) (hz.up (by omega)) (gE_of hB (by omega)) (fun D1 o1 r1 => ?_)
  have hz := (hz.up (show _ ≤ b + 1 by omega)).out o1 (by omega)
  have oT := oT.trans (o1.mono (show b ≤ _ by omega) (show _ ≤ b + 32 by omega))
  refine xb_putR (g := b + 12) (b := b) lp_Rounds_12 rfl k0 rfl (by omega) hB (fun z => ⟨rfl, rfl⟩) rfl (fun ρ hB => ?_)
  refine x_aload_n rfl rfl ?_
  refine xb_new (a := b + 12) nw_2 wd_306 (ck_9_1 k0) (hz.up (by omega)) (by show _ < b + 32; omega) rfl ?_
  refine x_dup rfl rfl ?_
  refine x_bipush (v := nI 6) rfl rfl ?_
  refine xb_call (a := b + 12) (N := 2) (As := [.int (nI 6)]) (st := [.ref (b + 12), .ref b]) lm_Rounds_20 y_Row_init wd_40 rfl rfl rfl rfl (Nat.le_of_ble_eq_true rfl) rfl (by decide) (by show _ ≤ b + 32; omega) ?_
  refine k_Row (n := 6) (ck_9_1 k0) (cl_9_1 k0) (by decide) (hz.up (by omega)) (gE_of hB (by omega)) ?_
  refine xb_putR (g := b + 14) (b := b) lp_Rounds_23 rfl k0 rfl (by omega) hB (fun z => ⟨rfl, rfl⟩) rfl (fun ρ hB => ?_)
  refine x_aload_n rfl rfl ?_
  refine xb_new (a := b + 14) nw_4 wd_308 (ck_9_2 k0) (hz.up (by omega)) (by show _ < b + 32; omega) rfl ?_
  refine x_dup rfl rfl ?_
  refine xb_call (a := b + 14) (N := 5) (As := []) (st := [.ref (b + 14), .ref b]) lm_Rounds_29 y_Table_init wd_61 rfl rfl rfl rfl (Nat.le_of_ble_eq_true rfl) rfl (by decide) (by show _ ≤ b + 32; omega) ?_
  refine k_Table (ck_9_2 k0) (hz.up (by omega)) (gE_of hB (by omega)) (fun D2 o2 t2 => ?_)
  have hz := (hz.up (show _ ≤ b + 14 by omega)).out o2 (by omega)
  have oT := oT.trans (o2.mono (show b ≤ _ by omega) (show _ ≤ b + 32 by omega))
  have r1 := r1.out o2 (by omega)
  refine xb_putR (g := b + 19) (b := b) lp_Rounds_30 rfl k0 rfl (by omega) hB (fun z => ⟨rfl, rfl⟩) rfl (fun ρ hB => ?_)
  refine x_aload_n rfl rfl ?_
  refine xb_new (a := b + 19) nw_8 wd_304 (ck_9_3 k0) (hz.up (by omega)) (by show _ < b + 32; omega) rfl ?_
  refine x_dup rfl rfl ?_
  refine xb_call (a := b + 19) (N := 11) (As := []) (st := [.ref (b + 19), .ref b]) lm_Rounds_11 y_Deal_init wd_233 rfl rfl rfl rfl (Nat.le_of_ble_eq_true rfl) rfl (by decide) (by show _ ≤ b + 32; omega) ?_
  refine k_Deal (ck_9_3 k0) (hz.up (by omega)) (gE_of hB (by omega)) (fun D3 o3 r3 => ?_)
  have hz := (hz.up (show _ ≤ b + 19 by omega)).out o3 (by omega)
  have oT := oT.trans (o3.mono (show b ≤ _ by omega) (show _ ≤ b + 32 by omega))
  have r1 := r1.out o3 (by omega)
  refine xb_putR (g := b + 30) (b := b) lp_Rounds_34 rfl k0 rfl (by omega) hB (fun z => ⟨rfl, rfl⟩) rfl (fun ρ hB => ?_)
  refine x_aload_n rfl rfl ?_
  refine xb_new (a := b + 30) nw_2 wd_306 (ck_9_4 k0) (hz.up (by omega)) (by show _ < b + 32; omega) rfl ?_
  refine x_dup rfl rfl ?_
  refine x_bipush (v := nI 6) rfl rfl ?_
  refine xb_call (a := b + 30) (N := 2) (As := [.int (nI 6)]) (st := [.ref (b + 30), .ref b]) lm_Rounds_20 y_Row_init wd_40 rfl rfl rfl rfl (Nat.le_of_ble_eq_true rfl) rfl (by decide) (by show _ ≤ b + 32; omega) ?_
  refine k_Row (n := 6) (ck_9_4 k0) (cl_9_4 k0) (by decide) (hz.up (by omega)) (gE_of hB (by omega)) ?_
  refine xb_putR (g := b + 32) (b := b) lp_Rounds_37 rfl k0 rfl (by omega) hB (fun z => ⟨rfl, rfl⟩) rfl (fun ρ hB => ?_)
  refine xb_whole (N := 32) hB k0 (by decide) rfl hE ?_
  refine x_vret rfl rfl ⟨rfl, ?_⟩
  exact h _ oT r1
theorem k_Evenings {d b : Nat} {ρ ρ' : Nat → Nat → Bool} {D : xD} {P : xD → Prop} (k0 : xk b = 10) (hz : zF D b) (hE : gE ρ ρ' b 50) (h : ∀ D', xOut b (b + 50) D D' → rS D' (b + 7) 364 → rS D' (b + 48) 42 → P D') : xCg (d + 6) m_Evenings_init [.ref b] (b + 1, ρ) D (b + 50, ρ') P := by
  refine xCg_of y_Evenings_init (Nat.le_of_ble_eq_true rfl) ?_
  show xP (d + 6) m_Evenings_init 0 [(0, .ref b)] [] (b + 1, ρ) D (b + 50, ρ') _
  refine xb_start (fun ρ hB => ?_)
  have hz := hz.up (Nat.le_succ b)
  have oT : xOut b (b + 50) D D := xOut.rfl'
  refine x_aload_n rfl rfl ?_
  refine x_oinit wd_343 wd_29 oinitC (by omega) (Nat.le_of_ble_eq_true rfl) rfl ?_
  refine x_aload_n rfl rfl ?_
  refine xb_new (a := b + 1) nw_9 wd_344 (ck_10_0 k0) (hz.up (by omega)) (by show _ < b + 50; omega) rfl ?_
  refine x_dup rfl rfl ?_
  refine xb_call (a := b + 1) (N := 32) (As := []) (st := [.ref (b + 1), .ref b]) lm_Evenings_11 y_Rounds_init wd_301 rfl rfl rfl rfl (Nat.le_of_ble_eq_true rfl) rfl (by decide) (by show _ ≤ b + 50; omega) ?_
  refine k_Rounds (ck_10_0 k0) (hz.up (by omega)) (gE_of hB (by omega)) (fun D1 o1 r1 => ?_)
  have hz := (hz.up (show _ ≤ b + 1 by omega)).out o1 (by omega)
  have oT := oT.trans (o1.mono (show b ≤ _ by omega) (show _ ≤ b + 50 by omega))
  refine xb_putR (g := b + 33) (b := b) lp_Evenings_12 rfl k0 rfl (by omega) hB (fun z => ⟨rfl, rfl⟩) rfl (fun ρ hB => ?_)
  refine x_aload_n rfl rfl ?_
  refine xb_new (a := b + 33) nw_2 wd_346 (ck_10_1 k0) (hz.up (by omega)) (by show _ < b + 50; omega) rfl ?_
  refine x_dup rfl rfl ?_
  refine x_bipush (v := nI 52) rfl rfl ?_
  refine xb_call (a := b + 33) (N := 2) (As := [.int (nI 52)]) (st := [.ref (b + 33), .ref b]) lm_Evenings_20 y_Row_init wd_40 rfl rfl rfl rfl (Nat.le_of_ble_eq_true rfl) rfl (by decide) (by show _ ≤ b + 50; omega) ?_
  refine k_Row (n := 52) (ck_10_1 k0) (cl_10_1 k0) (by decide) (hz.up (by omega)) (gE_of hB (by omega)) ?_
  refine xb_putR (g := b + 35) (b := b) lp_Evenings_23 rfl k0 rfl (by omega) hB (fun z => ⟨rfl, rfl⟩) rfl (fun ρ hB => ?_)
  refine x_aload_n rfl rfl ?_
  refine xb_new (a := b + 35) nw_2 wd_346 (ck_10_2 k0) (hz.up (by omega)) (by show _ < b + 50; omega) rfl ?_
  refine x_dup rfl rfl ?_
  refine x_bipush (v := nI 20) rfl rfl ?_
  refine xb_call (a := b + 35) (N := 2) (As := [.int (nI 20)]) (st := [.ref (b + 35), .ref b]) lm_Evenings_20 y_Row_init wd_40 rfl rfl rfl rfl (Nat.le_of_ble_eq_true rfl) rfl (by decide) (by show _ ≤ b + 50; omega) ?_
  refine k_Row (n := 20) (ck_10_2 k0) (cl_10_2 k0) (by decide) (hz.up (by omega)) (gE_of hB (by omega)) ?_
  refine xb_putR (g := b + 37) (b := b) lp_Evenings_27 rfl k0 rfl (by omega) hB (fun z => ⟨rfl, rfl⟩) rfl (fun ρ hB => ?_)
  refine x_aload_n rfl rfl ?_
  refine xb_new (a := b + 37) nw_2 wd_346 (ck_10_3 k0) (hz.up (by omega)) (by show _ < b + 50; omega) rfl ?_
  refine x_dup rfl rfl ?_
  refine x_bipush (v := nI 20) rfl rfl ?_
  refine xb_call (a := b + 37) (N := 2) (As := [.int (nI 20)]) (st := [.ref (b + 37), .ref b]) lm_Evenings_20 y_Row_init wd_40 rfl rfl rfl rfl (Nat.le_of_ble_eq_true rfl) rfl (by decide) (by show _ ≤ b + 50; omega) ?_
  refine k_Row (n := 20) (ck_10_3 k0) (cl_10_3 k0) (by decide) (hz.up (by omega)) (gE_of hB (by omega)) ?_
  refine xb_putR (g := b + 39) (b := b) lp_Evenings_30 rfl k0 rfl (by omega) hB (fun z => ⟨rfl, rfl⟩) rfl (fun ρ hB => ?_)
  refine x_aload_n rfl rfl ?_
  refine xb_new (a := b + 39) nw_2 wd_346 (ck_10_4 k0) (hz.up (by omega)) (by show _ < b + 50; omega) rfl ?_
  refine x_dup rfl rfl ?_
  refine x_bipush (v := nI 6) rfl rfl ?_
  refine xb_call (a := b + 39) (N := 2) (As := [.int (nI 6)]) (st := [.ref (b + 39), .ref b]) lm_Evenings_20 y_Row_init wd_40 rfl rfl rfl rfl (Nat.le_of_ble_eq_true rfl) rfl (by decide) (by show _ ≤ b + 50; omega) ?_
  refine k_Row (n := 6) (ck_10_4 k0) (cl_10_4 k0) (by decide) (hz.up (by omega)) (gE_of hB (by omega)) ?_
  refine xb_putR (g := b + 41) (b := b) lp_Evenings_33 rfl k0 rfl (by omega) hB (fun z => ⟨rfl, rfl⟩) rfl (fun ρ hB => ?_)
  refine x_aload_n rfl rfl ?_
  refine xb_new (a := b + 41) nw_2 wd_346 (ck_10_5 k0) (hz.up (by omega)) (by show _ < b + 50; omega) rfl ?_
  refine x_dup rfl rfl ?_
  refine x_bipush (v := nI 6) rfl rfl ?_
  refine xb_call (a := b + 41) (N := 2) (As := [.int (nI 6)]) (st := [.ref (b + 41), .ref b]) lm_Evenings_20 y_Row_init wd_40 rfl rfl rfl rfl (Nat.le_of_ble_eq_true rfl) rfl (by decide) (by show _ ≤ b + 50; omega) ?_
  refine k_Row (n := 6) (ck_10_5 k0) (cl_10_5 k0) (by decide) (hz.up (by omega)) (gE_of hB (by omega)) ?_
  refine xb_putR (g := b + 43) (b := b) lp_Evenings_36 rfl k0 rfl (by omega) hB (fun z => ⟨rfl, rfl⟩) rfl (fun ρ hB => ?_)
  refine x_aload_n rfl rfl ?_
  refine xb_new (a := b + 43) nw_2 wd_346 (ck_10_6 k0) (hz.up (by omega)) (by show _ < b + 50; omega) rfl ?_
  refine x_dup rfl rfl ?_
  refine x_bipush (v := nI 6) rfl rfl ?_
  refine xb_call (a := b + 43) (N := 2) (As := [.int (nI 6)]) (st := [.ref (b + 43), .ref b]) lm_Evenings_20 y_Row_init wd_40 rfl rfl rfl rfl (Nat.le_of_ble_eq_true rfl) rfl (by decide) (by show _ ≤ b + 50; omega) ?_
  refine k_Row (n := 6) (ck_10_6 k0) (cl_10_6 k0) (by decide) (hz.up (by omega)) (gE_of hB (by omega)) ?_
  refine xb_putR (g := b + 45) (b := b) lp_Evenings_39 rfl k0 rfl (by omega) hB (fun z => ⟨rfl, rfl⟩) rfl (fun ρ hB => ?_)
  refine x_aload_n rfl rfl ?_
  refine xb_new (a := b + 45) nw_4 wd_348 (ck_10_7 k0) (hz.up (by omega)) (by show _ < b + 50; omega) rfl ?_
  refine x_dup rfl rfl ?_
  refine xb_call (a := b + 45) (N := 5) (As := []) (st := [.ref (b + 45), .ref b]) lm_Evenings_44 y_Table_init wd_61 rfl rfl rfl rfl (Nat.le_of_ble_eq_true rfl) rfl (by decide) (by show _ ≤ b + 50; omega) ?_
  refine k_Table (ck_10_7 k0) (hz.up (by omega)) (gE_of hB (by omega)) (fun D2 o2 t2 => ?_)
  have hz := (hz.up (show _ ≤ b + 45 by omega)).out o2 (by omega)
  have oT := oT.trans (o2.mono (show b ≤ _ by omega) (show _ ≤ b + 50 by omega))
  have r1 := r1.out o2 (by omega)
  have s2 := t2.2.2.1
  refine xb_putR (g := b + 50) (b := b) lp_Evenings_45 rfl k0 rfl (by omega) hB (fun z => ⟨rfl, rfl⟩) rfl (fun ρ hB => ?_)
  refine xb_whole (N := 50) hB k0 (by decide) rfl hE ?_
  refine x_vret rfl rfl ⟨rfl, ?_⟩
  exact h _ oT r1 s2
theorem k_Looks {d b : Nat} {ρ ρ' : Nat → Nat → Bool} {D : xD} {P : xD → Prop} (k0 : xk b = 12) (hz : zF D b) (hE : gE ρ ρ' b 8) (h : ∀ D', xOut b (b + 8) D D' → rS D' (b + 6) 1215 → P D') : xCg (d + 5) m_Looks_init [.ref b] (b + 1, ρ) D (b + 8, ρ') P := by
  refine xCg_of y_Looks_init (Nat.le_of_ble_eq_true rfl) ?_
  show xP (d + 5) m_Looks_init 0 [(0, .ref b)] [] (b + 1, ρ) D (b + 8, ρ') _
  refine xb_start (fun ρ hB => ?_)
  have hz := hz.up (Nat.le_succ b)
  have oT : xOut b (b + 8) D D := xOut.rfl'
  refine x_aload_n rfl rfl ?_
  refine x_oinit wd_438 wd_29 oinitC (by omega) (Nat.le_of_ble_eq_true rfl) rfl ?_
  refine x_aload_n rfl rfl ?_
  refine xb_new (a := b + 1) nw_4 wd_439 (ck_12_0 k0) (hz.up (by omega)) (by show _ < b + 8; omega) rfl ?_
  refine x_dup rfl rfl ?_
  refine xb_call (a := b + 1) (N := 5) (As := []) (st := [.ref (b + 1), .ref b]) lm_Looks_13 y_Table_init wd_61 rfl rfl rfl rfl (Nat.le_of_ble_eq_true rfl) rfl (by decide) (by show _ ≤ b + 8; omega) ?_
  refine k_Table (ck_12_0 k0) (hz.up (by omega)) (gE_of hB (by omega)) (fun D1 o1 t1 => ?_)
  have hz := (hz.up (show _ ≤ b + 1 by omega)).out o1 (by omega)
  have oT := oT.trans (o1.mono (show b ≤ _ by omega) (show _ ≤ b + 8 by omega))
  refine xb_putR (g := b + 6) (b := b) lp_Looks_14 rfl k0 rfl (by omega) hB (fun z => ⟨rfl, rfl⟩) rfl (fun ρ hB => ?_)
  refine x_aload_n rfl rfl ?_
  refine xb_new (a := b + 6) nw_2 wd_441 (ck_12_1 k0) (hz.up (by omega)) (by show _ < b + 8; omega) rfl ?_
  refine x_dup rfl rfl ?_
  refine x_sipush (v := nI 1215) rfl rfl ?_
  refine xb_call (a := b + 6) (N := 2) (As := [.int (nI 1215)]) (st := [.ref (b + 6), .ref b]) lm_Looks_20 y_Row_init wd_40 rfl rfl rfl rfl (Nat.le_of_ble_eq_true rfl) rfl (by decide) (by show _ ≤ b + 8; omega) ?_
  refine k_Row (n := 1215) (ck_12_1 k0) (cl_12_1 k0) (by decide) (hz.up (by omega)) (gE_of hB (by omega)) ?_
  refine xb_putR (g := b + 8) (b := b) lp_Looks_23 rfl k0 rfl (by omega) hB (fun z => ⟨rfl, rfl⟩) rfl (fun ρ hB => ?_)
  refine xb_whole (N := 8) hB k0 (by decide) rfl hE ?_
  refine x_aload_n rfl rfl ?_
  refine x_gRg lf_Looks_23 k0 (hE.c (by omega) (by omega)) rfl rfl ?_
  refine x_sipush (v := nI 1215) rfl rfl ?_
  refine x_iconst (v := nI 0) rfl rfl ?_
  refine x_vvg (As := [.int (nI 1215), .int (nI 0)]) (st := []) lm_Looks_27 vf_Row_fill (ck_12_1 k0) (hE.c (by omega) (by omega)) rfl rfl (Nat.le_of_ble_eq_true rfl) rfl ?_ (fun _ h => h)
  have lf : xl (b + 6 + 1) = 1215 := cl_12_1 k0
  refine cg_fill (k := 1215) (v := nI 0) (ck_12_1 k0) (fun i q1 q2 => hE.c (by omega) (by omega)) (by omega) (fun D2 o2 w2 v2 => ?_)
  refine x_vret rfl rfl ⟨rfl, ?_⟩
  exact h _ (oT.trans (o2.mono (by omega) (by omega))) w2
theorem k_Reader {d b : Nat} {ρ ρ' : Nat → Nat → Bool} {D : xD} {P : xD → Prop} (k0 : xk b = 6) (hz : zF D b) (hE : gE ρ ρ' b 26) (h : ∀ D', xOut b (b + 26) D D' → P D') : xCg (d + 6) m_Reader_init [.ref b] (b + 1, ρ) D (b + 26, ρ') P := by
  refine xCg_of y_Reader_init (Nat.le_of_ble_eq_true rfl) ?_
  show xP (d + 6) m_Reader_init 0 [(0, .ref b)] [] (b + 1, ρ) D (b + 26, ρ') _
  refine xb_start (fun ρ hB => ?_)
  have hz := hz.up (Nat.le_succ b)
  have oT : xOut b (b + 26) D D := xOut.rfl'
  refine x_aload_n rfl rfl ?_
  refine x_oinit wd_176 wd_29 oinitC (by omega) (Nat.le_of_ble_eq_true rfl) rfl ?_
  refine x_aload_n rfl rfl ?_
  refine xb_new (a := b + 1) nw_2 wd_177 (ck_6_0 k0) (hz.up (by omega)) (by show _ < b + 26; omega) rfl ?_
  refine x_dup rfl rfl ?_
  refine x_sipush (v := nI 600) rfl rfl ?_
  refine xb_call (a := b + 1) (N := 2) (As := [.int (nI 600)]) (st := [.ref (b + 1), .ref b]) lm_Reader_11 y_Row_init wd_40 rfl rfl rfl rfl (Nat.le_of_ble_eq_true rfl) rfl (by decide) (by show _ ≤ b + 26; omega) ?_
  refine k_Row (n := 600) (ck_6_0 k0) (cl_6_0 k0) (by decide) (hz.up (by omega)) (gE_of hB (by omega)) ?_
  refine xb_putR (g := b + 3) (b := b) lp_Reader_14 rfl k0 rfl (by omega) hB (fun z => ⟨rfl, rfl⟩) rfl (fun ρ hB => ?_)
  refine x_aload_n rfl rfl ?_
  refine xb_new (a := b + 3) nw_3 wd_179 (ck_6_1 k0) (hz.up (by omega)) (by show _ < b + 26; omega) rfl ?_
  refine x_dup rfl rfl ?_
  refine xb_call (a := b + 3) (N := 19) (As := []) (st := [.ref (b + 3), .ref b]) lm_Reader_22 y_Sheet_init wd_55 rfl rfl rfl rfl (Nat.le_of_ble_eq_true rfl) rfl (by decide) (by show _ ≤ b + 26; omega) ?_
  refine k_Sheet (ck_6_1 k0) (hz.up (by omega)) (gE_of hB (by omega)) (fun D1 o1 => ?_)
  have hz := (hz.up (show _ ≤ b + 3 by omega)).out o1 (by omega)
  have oT := oT.trans (o1.mono (show b ≤ _ by omega) (show _ ≤ b + 26 by omega))
  refine xb_putR (g := b + 22) (b := b) lp_Reader_23 rfl k0 rfl (by omega) hB (fun z => ⟨rfl, rfl⟩) rfl (fun ρ hB => ?_)
  refine x_aload_n rfl rfl ?_
  refine xb_new (a := b + 22) nw_2 wd_177 (ck_6_2 k0) (hz.up (by omega)) (by show _ < b + 26; omega) rfl ?_
  refine x_dup rfl rfl ?_
  refine x_sipush (v := nI 600) rfl rfl ?_
  refine xb_call (a := b + 22) (N := 2) (As := [.int (nI 600)]) (st := [.ref (b + 22), .ref b]) lm_Reader_11 y_Row_init wd_40 rfl rfl rfl rfl (Nat.le_of_ble_eq_true rfl) rfl (by decide) (by show _ ≤ b + 26; omega) ?_
  refine k_Row (n := 600) (ck_6_2 k0) (cl_6_2 k0) (by decide) (hz.up (by omega)) (gE_of hB (by omega)) ?_
  refine xb_putR (g := b + 24) (b := b) lp_Reader_27 rfl k0 rfl (by omega) hB (fun z => ⟨rfl, rfl⟩) rfl (fun ρ hB => ?_)
  refine x_aload_n rfl rfl ?_
  refine xb_new (a := b + 24) nw_2 wd_177 (ck_6_3 k0) (hz.up (by omega)) (by show _ < b + 26; omega) rfl ?_
  refine x_dup rfl rfl ?_
  refine x_sipush (v := nI 600) rfl rfl ?_
  refine xb_call (a := b + 24) (N := 2) (As := [.int (nI 600)]) (st := [.ref (b + 24), .ref b]) lm_Reader_11 y_Row_init wd_40 rfl rfl rfl rfl (Nat.le_of_ble_eq_true rfl) rfl (by decide) (by show _ ≤ b + 26; omega) ?_
  refine k_Row (n := 600) (ck_6_3 k0) (cl_6_3 k0) (by decide) (hz.up (by omega)) (gE_of hB (by omega)) ?_
  refine xb_putR (g := b + 26) (b := b) lp_Reader_30 rfl k0 rfl (by omega) hB (fun z => ⟨rfl, rfl⟩) rfl (fun ρ hB => ?_)
  refine xb_whole (N := 26) hB k0 (by decide) rfl hE ?_
  refine x_vret rfl rfl ⟨rfl, ?_⟩
  exact h _ oT
theorem k_Odds {d b : Nat} {ρ ρ' : Nat → Nat → Bool} {D : xD} {P : xD → Prop} (k0 : xk b = 11) (hz : zF D b) (hE : gE ρ ρ' b 13) (h : ∀ D', xOut b (b + 13) D D' → oK D' b → P D') : xCg (d + 3) m_Odds_init [.ref b] (b + 1, ρ) D (b + 13, ρ') P := by
  refine xCg_of y_Odds_init (Nat.le_of_ble_eq_true rfl) ?_
  show xP (d + 3) m_Odds_init 0 [(0, .ref b)] [] (b + 1, ρ) D (b + 13, ρ') _
  refine xb_start (fun ρ hB => ?_)
  have hz := hz.up (Nat.le_succ b)
  have hz0 := hz
  have oT : xOut b (b + 13) D D := xOut.rfl'
  refine x_aload_n rfl rfl ?_
  refine x_oinit wd_392 wd_29 oinitC (by omega) (Nat.le_of_ble_eq_true rfl) rfl ?_
  refine x_aload_n rfl rfl ?_
  refine xb_new (a := b + 1) nw_2 wd_393 (ck_11_0 k0) (hz.up (by omega)) (by show _ < b + 13; omega) rfl ?_
  refine x_dup rfl rfl ?_
  refine x_bipush (v := nI 13) rfl rfl ?_
  refine xb_call (a := b + 1) (N := 2) (As := [.int (nI 13)]) (st := [.ref (b + 1), .ref b]) lm_Odds_11 y_Row_init wd_40 rfl rfl rfl rfl (Nat.le_of_ble_eq_true rfl) rfl (by decide) (by show _ ≤ b + 13; omega) ?_
  refine k_Row (n := 13) (ck_11_0 k0) (cl_11_0 k0) (by decide) (hz.up (by omega)) (gE_of hB (by omega)) ?_
  refine xb_putR (g := b + 3) (b := b) lp_Odds_14 rfl k0 rfl (by omega) hB (fun z => ⟨rfl, rfl⟩) rfl (fun ρ hB => ?_)
  refine x_aload_n rfl rfl ?_
  refine xb_new (a := b + 3) nw_2 wd_393 (ck_11_1 k0) (hz.up (by omega)) (by show _ < b + 13; omega) rfl ?_
  refine x_dup rfl rfl ?_
  refine x_bipush (v := nI 13) rfl rfl ?_
  refine xb_call (a := b + 3) (N := 2) (As := [.int (nI 13)]) (st := [.ref (b + 3), .ref b]) lm_Odds_11 y_Row_init wd_40 rfl rfl rfl rfl (Nat.le_of_ble_eq_true rfl) rfl (by decide) (by show _ ≤ b + 13; omega) ?_
  refine k_Row (n := 13) (ck_11_1 k0) (cl_11_1 k0) (by decide) (hz.up (by omega)) (gE_of hB (by omega)) ?_
  refine xb_putR (g := b + 5) (b := b) lp_Odds_20 rfl k0 rfl (by omega) hB (fun z => ⟨rfl, rfl⟩) rfl (fun ρ hB => ?_)
  refine x_aload_n rfl rfl ?_
  refine xb_new (a := b + 5) nw_2 wd_393 (ck_11_2 k0) (hz.up (by omega)) (by show _ < b + 13; omega) rfl ?_
  refine x_dup rfl rfl ?_
  refine x_iconst (v := nI 4) rfl rfl ?_
  refine xb_call (a := b + 5) (N := 2) (As := [.int (nI 4)]) (st := [.ref (b + 5), .ref b]) lm_Odds_11 y_Row_init wd_40 rfl rfl rfl rfl (Nat.le_of_ble_eq_true rfl) rfl (by decide) (by show _ ≤ b + 13; omega) ?_
  refine k_Row (n := 4) (ck_11_2 k0) (cl_11_2 k0) (by decide) (hz.up (by omega)) (gE_of hB (by omega)) ?_
  refine xb_putR (g := b + 7) (b := b) lp_Odds_23 rfl k0 rfl (by omega) hB (fun z => ⟨rfl, rfl⟩) rfl (fun ρ hB => ?_)
  refine x_aload_n rfl rfl ?_
  refine xb_new (a := b + 7) nw_2 wd_393 (ck_11_3 k0) (hz.up (by omega)) (by show _ < b + 13; omega) rfl ?_
  refine x_dup rfl rfl ?_
  refine x_bipush (v := nI 125) rfl rfl ?_
  refine xb_call (a := b + 7) (N := 2) (As := [.int (nI 125)]) (st := [.ref (b + 7), .ref b]) lm_Odds_11 y_Row_init wd_40 rfl rfl rfl rfl (Nat.le_of_ble_eq_true rfl) rfl (by decide) (by show _ ≤ b + 13; omega) ?_
  refine k_Row (n := 125) (ck_11_3 k0) (cl_11_3 k0) (by decide) (hz.up (by omega)) (gE_of hB (by omega)) ?_
  refine xb_putR (g := b + 9) (b := b) lp_Odds_26 rfl k0 rfl (by omega) hB (fun z => ⟨rfl, rfl⟩) rfl (fun ρ hB => ?_)
  refine x_aload_n rfl rfl ?_
  refine xb_new (a := b + 9) nw_2 wd_393 (ck_11_4 k0) (hz.up (by omega)) (by show _ < b + 13; omega) rfl ?_
  refine x_dup rfl rfl ?_
  refine x_sipush (v := nI 625) rfl rfl ?_
  refine xb_call (a := b + 9) (N := 2) (As := [.int (nI 625)]) (st := [.ref (b + 9), .ref b]) lm_Odds_11 y_Row_init wd_40 rfl rfl rfl rfl (Nat.le_of_ble_eq_true rfl) rfl (by decide) (by show _ ≤ b + 13; omega) ?_
  refine k_Row (n := 625) (ck_11_4 k0) (cl_11_4 k0) (by decide) (hz.up (by omega)) (gE_of hB (by omega)) ?_
  refine xb_putR (g := b + 11) (b := b) lp_Odds_29 rfl k0 rfl (by omega) hB (fun z => ⟨rfl, rfl⟩) rfl (fun ρ hB => ?_)
  refine x_aload_n rfl rfl ?_
  refine xb_new (a := b + 11) nw_2 wd_393 (ck_11_5 k0) (hz.up (by omega)) (by show _ < b + 13; omega) rfl ?_
  refine x_dup rfl rfl ?_
  refine x_sipush (v := nI 7350) rfl rfl ?_
  refine xb_call (a := b + 11) (N := 2) (As := [.int (nI 7350)]) (st := [.ref (b + 11), .ref b]) lm_Odds_11 y_Row_init wd_40 rfl rfl rfl rfl (Nat.le_of_ble_eq_true rfl) rfl (by decide) (by show _ ≤ b + 13; omega) ?_
  refine k_Row (n := 7350) (ck_11_5 k0) (cl_11_5 k0) (by decide) (hz.up (by omega)) (gE_of hB (by omega)) ?_
  refine xb_putR (g := b + 13) (b := b) lp_Odds_32 rfl k0 rfl (by omega) hB (fun z => ⟨rfl, rfl⟩) rfl (fun ρ hB => ?_)
  refine xb_whole (N := 13) hB k0 (by decide) rfl hE ?_
  refine x_aload_n rfl rfl ?_
  refine x_gRg lf_Odds_26 k0 (hE.c (by omega) (by omega)) rfl rfl ?_
  refine x_bipush (v := nI 125) rfl rfl ?_
  refine x_iconst (v := nI 4) rfl rfl ?_
  refine x_svg (As := [.ref ((b + 7)), .int (nI 125), .int (nI 4)]) (st := []) lm_Odds_35 sf_Odds_rank rfl rfl (Nat.le_of_ble_eq_true rfl) rfl ?_ (fun _ h => h)
  refine cg_rank (n := 125) (m := 4) (ck_11_3 k0) (fun i q1 q2 => hE.c (by omega) (by omega)) (cl_11_3 k0) (by decide) (by decide) (hz0.rS (by omega) (ck_11_3 k0)) (fun D1 o1 w1 v1 => ?_)
  refine x_aload_n rfl rfl ?_
  refine x_gRg lf_Odds_29 k0 (hE.c (by omega) (by omega)) rfl rfl ?_
  refine x_sipush (v := nI 625) rfl rfl ?_
  refine x_bipush (v := nI 6) rfl rfl ?_
  refine x_svg (As := [.ref ((b + 9)), .int (nI 625), .int (nI 6)]) (st := []) lm_Odds_35 sf_Odds_rank rfl rfl (Nat.le_of_ble_eq_true rfl) rfl ?_ (fun _ h => h)
  refine cg_rank (n := 625) (m := 6) (ck_11_4 k0) (fun i q1 q2 => hE.c (by omega) (by omega)) (cl_11_4 k0) (by decide) (by decide) ((hz0.rS (b := b + 1) (by omega) (ck_11_4 k0)).out o1 (by omega)) (fun D2 o2 w2 v2 => ?_)
  refine x_vret rfl rfl ⟨rfl, ?_⟩
  have oA := (o1.mono (show b ≤ _ by omega) (show _ ≤ b + 13 by omega)).trans (o2.mono (show b ≤ _ by omega) (show _ ≤ b + 13 by omega))
  exact h _ oA ⟨w1.out o2 (by omega), fun c hc => by rw [o2.1 _ (by omega)]; exact v1 c hc, w2, v2⟩
theorem k_Told {d b : Nat} {ρ ρ' : Nat → Nat → Bool} {D : xD} {P : xD → Prop} (k0 : xk b = 1) (hzb : zF D b) (hE : gE ρ ρ' b 44) (h : ∀ D', xOut b (b + 44) D D' → rS D' (b + 1) 0 → rS D' (b + 3) 5 → D'.1 b 3 = 0 → D'.1 b 4 = -1 → (∀ j, j < 5 → D'.1 (b + 4) j = 0) → P D') : xCg (d + 6) m_Told_init [.ref b] (b + 1, ρ) D (b + 44, ρ') P := by
  refine xCg_of y_Told_init (Nat.le_of_ble_eq_true rfl) ?_
  show xP (d + 6) m_Told_init 0 [(0, .ref b)] [] (b + 1, ρ) D (b + 44, ρ') _
  refine xb_start (fun ρ hB => ?_)
  have hz := hzb.up (Nat.le_succ b)
  have hb0 : D.1 b 3 = 0 := by rw [hzb.1 b (Nat.le_refl _)]
  have hr1 : rS D (b + 1) 0 := hz.rS (Nat.le_refl _) (ck_1_0 k0)
  have oT : xOut b (b + 44) D D := xOut.rfl'
  refine x_aload_n rfl rfl ?_
  refine x_oinit wd_36 wd_29 oinitC (by omega) (Nat.le_of_ble_eq_true rfl) rfl ?_
  refine x_aload_n rfl rfl ?_
  refine xb_new (a := b + 1) nw_2 wd_37 (ck_1_0 k0) (hz.up (by omega)) (by show _ < b + 44; omega) rfl ?_
  refine x_dup rfl rfl ?_
  refine x_sipush (v := nI 600) rfl rfl ?_
  refine xb_call (a := b + 1) (N := 2) (As := [.int (nI 600)]) (st := [.ref (b + 1), .ref b]) lm_Told_11 y_Row_init wd_40 rfl rfl rfl rfl (Nat.le_of_ble_eq_true rfl) rfl (by decide) (by show _ ≤ b + 44; omega) ?_
  refine k_Row (n := 600) (ck_1_0 k0) (cl_1_0 k0) (by decide) (hz.up (by omega)) (gE_of hB (by omega)) ?_
  refine xb_putR (g := b + 3) (b := b) lp_Told_14 rfl k0 rfl (by omega) hB (fun z => ⟨rfl, rfl⟩) rfl (fun ρ hB => ?_)
  refine x_aload_n rfl rfl ?_
  refine xb_new (a := b + 3) nw_2 wd_37 (ck_1_1 k0) (hz.up (by omega)) (by show _ < b + 44; omega) rfl ?_
  refine x_dup rfl rfl ?_
  refine x_iconst (v := nI 5) rfl rfl ?_
  refine xb_call (a := b + 3) (N := 2) (As := [.int (nI 5)]) (st := [.ref (b + 3), .ref b]) lm_Told_11 y_Row_init wd_40 rfl rfl rfl rfl (Nat.le_of_ble_eq_true rfl) rfl (by decide) (by show _ ≤ b + 44; omega) ?_
  refine k_Row (n := 5) (ck_1_1 k0) (cl_1_1 k0) (by decide) (hz.up (by omega)) (gE_of hB (by omega)) ?_
  refine xb_putR (g := b + 5) (b := b) lp_Told_20 rfl k0 rfl (by omega) hB (fun z => ⟨rfl, rfl⟩) rfl (fun ρ hB => ?_)
  refine x_aload_n rfl rfl ?_
  refine x_iconst (v := nI 2) rfl rfl ?_
  have hk := ck_1_2 k0
  refine xb_newq (a := b + 5) (t := 5) (N := 2) wd_51 rfl (by decide) hk (cl_1_2 k0) (by decide) rfl (by show _ < b + 44; omega) rfl ?_
  have hA : gA (gF ρ (b + 5)) ρ (b + 5) 0 := gA_0 _ _
  generalize gF ρ (b + 5) = ρA at hA ⊢
  refine x_dup rfl rfl ?_
  refine x_iconst (v := nI 0) rfl rfl ?_
  refine xb_new (a := b + 6) nw_3 wd_51 (ka_5_0 hk) (hz.up (by omega)) (by show _ < b + 44; omega) rfl ?_
  refine x_dup rfl rfl ?_
  refine xb_call (a := b + 6) (N := 19) (As := []) (st := [.ref (b + 6), .int (nI 0), .ref (b + 5), .ref (b + 5), .ref b]) lm_Told_25 y_Sheet_init wd_55 rfl rfl rfl rfl (Nat.le_of_ble_eq_true rfl) rfl (by decide) (by show _ ≤ b + 44; omega) ?_
  refine k_Sheet (ka_5_0 hk) (hz.up (by omega)) (gE_arr hB hA (by omega) (by omega)) (fun D1 o1 => ?_)
  have hz := (hz.up (show _ ≤ b + 6 by omega)).out o1 (by omega)
  have oT := oT.trans (o1.mono (show b ≤ _ by omega) (show _ ≤ b + 44 by omega))
  refine xb_aast (a := b + 5) (t := 5) (k := 0) hk (by decide) (by show b + 5 < b + 25; omega) (ka_5_0 hk) (by decide) (by show b + 6 < b + 25; omega) (cl_1_2 k0) (by decide) ⟨nI_clamp (by omega), vp_in_nI (by omega) (by omega), (xN_3, xF_3, 6), rfl, rfl⟩ hA rfl (fun ρA hA => ?_)
  refine x_dup rfl rfl ?_
  refine x_iconst (v := nI 1) rfl rfl ?_
  refine xb_new (a := b + 25) nw_3 wd_51 (ka_5_1 hk) (hz.up (by omega)) (by show _ < b + 44; omega) rfl ?_
  refine x_dup rfl rfl ?_
  refine xb_call (a := b + 25) (N := 19) (As := []) (st := [.ref (b + 25), .int (nI 1), .ref (b + 5), .ref (b + 5), .ref b]) lm_Told_25 y_Sheet_init wd_55 rfl rfl rfl rfl (Nat.le_of_ble_eq_true rfl) rfl (by decide) (by show _ ≤ b + 44; omega) ?_
  refine k_Sheet (ka_5_1 hk) (hz.up (by omega)) (gE_arr hB hA (by omega) (by omega)) (fun D2 o2 => ?_)
  have hz := (hz.up (show _ ≤ b + 25 by omega)).out o2 (by omega)
  have oT := oT.trans (o2.mono (show b ≤ _ by omega) (show _ ≤ b + 44 by omega))
  refine xb_aast (a := b + 5) (t := 5) (k := 1) hk (by decide) (by show b + 5 < b + 44; omega) (ka_5_1 hk) (by decide) (by show b + 25 < b + 44; omega) (cl_1_2 k0) (by decide) ⟨nI_clamp (by omega), vp_in_nI (by omega) (by omega), (xN_3, xF_3, 6), rfl, rfl⟩ hA rfl (fun ρA hA => ?_)
  refine xb_adone (a := b + 5) hk (by decide) (cl_1_2 k0) hB (by omega) hA ?_
  refine xb_putR (g := b + 44) (b := b) lp_Told_26 rfl k0 rfl (by omega) hB (fun z => ⟨rfl, rfl⟩) rfl (fun ρ hB => ?_)
  refine xb_whole (N := 44) hB k0 (by decide) rfl hE ?_
  refine x_aload_n rfl rfl ?_
  refine x_iconst (v := (-1 : Int32)) rfl rfl ?_
  refine x_pIng lp_Told_30 nf_1_4 k0 (hE.c (by omega) (by omega)) rfl rfl (fun D3 e3 => ?_)
  refine x_aload_n rfl rfl ?_
  refine x_gRg lf_Told_20 k0 (hE.c (by omega) (by omega)) rfl rfl ?_
  refine x_iconst (v := nI 5) rfl rfl ?_
  refine x_iconst (v := nI 0) rfl rfl ?_
  refine x_vvg (As := [.int (nI 5), .int (nI 0)]) (st := []) lm_Told_34 vf_Row_fill (ck_1_1 k0) (hE.c (by omega) (by omega)) rfl rfl (Nat.le_of_ble_eq_true rfl) rfl ?_ (fun _ h => h)
  have lf : xl (b + 3 + 1) = 5 := cl_1_1 k0
  refine cg_fill (k := 5) (v := nI 0) (ck_1_1 k0) (fun i q1 q2 => hE.c (by omega) (by omega)) (by omega) (fun D4 o4 w4 v4 => ?_)
  refine x_vret rfl rfl ⟨rfl, ?_⟩
  have x3 := o4.1 b (by omega)
  have f3 : D3.1 b 4 = -1 := by rw [e3]; show xu D2.1 b 4 (-1) b 4 = _; rw [xu_self]; rfl
  have g3 : D3.1 b 3 = 0 := by
    rw [e3]
    show xu D2.1 b 4 (-1) b 3 = _
    rw [xu_self]
    show D2.1 b 3 = 0
    rw [o2.1 b (by omega), o1.1 b (by omega), hb0]
  have o3 : xOut b (b + 1) D2 D3 := by rw [e3]; exact ⟨fun i q => xu_ne _ _ _ (by omega), rfl⟩
  have tp : rS D4 (b + 1) 0 := ((((hr1.out o1 (by omega)).out o2 (by omega)).out o3 (by omega)).out o4 (by omega))
  exact h _ ((oT.trans (o3.mono (by omega) (by omega))).trans (o4.mono (by omega) (by omega))) tp w4 (by rw [x3]; exact g3) (by rw [x3]; exact f3) (fun j hj => v4 j (by omega))
theorem k_S {d b : Nat} {ρ ρ' : Nat → Nat → Bool} {D : xD} {P : xD → Prop} (k0 : xk b = 0) (hz : zF D b) (hE : gE ρ ρ' b 325) (h : ∀ D', xOut b (b + 325) D D' → toN D' (b + 1) → rS D' (b + 212) 364 → rS D' (b + 228) 364 → rS D' (b + 261) 364 → rS D' (b + 302) 42 → oK D' (b + 304) → rS D' (b + 323) 1215 → rS D' (b + 178) 3 → (∀ j, j < 3 → D'.1 (b + 179) j = 0) → P D') : xCg (d + 7) m_S_init [.ref b] (b + 1, ρ) D (b + 325, ρ') P := by
  refine xCg_of y_S_init (Nat.le_of_ble_eq_true rfl) ?_
  show xP (d + 7) m_S_init 0 [(0, .ref b)] [] (b + 1, ρ) D (b + 325, ρ') _
  refine xb_start (fun ρ hB => ?_)
  have hz := hz.up (Nat.le_succ b)
  have oT : xOut b (b + 325) D D := xOut.rfl'
  refine x_aload_n rfl rfl ?_
  refine x_oinit wd_28 wd_29 oinitC (by omega) (Nat.le_of_ble_eq_true rfl) rfl ?_
  refine x_aload_n rfl rfl ?_
  refine xb_new (a := b + 1) nw_1 wd_31 (ck_0_0 k0) (hz.up (by omega)) (by show _ < b + 325; omega) rfl ?_
  refine x_dup rfl rfl ?_
  refine xb_call (a := b + 1) (N := 44) (As := []) (st := [.ref (b + 1), .ref b]) lm_S_9 y_Told_init wd_34 rfl rfl rfl rfl (Nat.le_of_ble_eq_true rfl) rfl (by decide) (by show _ ≤ b + 325; omega) ?_
  refine k_Told (ck_0_0 k0) (hz.up (by omega)) (gE_of hB (by omega)) (fun D1 o1 u1 u2 u3 u4 u5 => ?_)
  have hz := (hz.up (show _ ≤ b + 1 by omega)).out o1 (by omega)
  have oT := oT.trans (o1.mono (show b ≤ _ by omega) (show _ ≤ b + 325 by omega))
  have u : toN D1 (b + 1) := ⟨u1, u2, u3, u4, u5⟩
  refine xb_putR (g := b + 45) (b := b) lp_S_10 rfl k0 rfl (by omega) hB (fun z => ⟨rfl, rfl⟩) rfl (fun ρ hB => ?_)
  refine x_aload_n rfl rfl ?_
  refine x_iconst (v := nI 3) rfl rfl ?_
  have hk := ck_0_1 k0
  refine xb_newq (a := b + 45) (t := 4) (N := 3) wd_31 rfl (by decide) hk (cl_0_1 k0) (by decide) rfl (by show _ < b + 325; omega) rfl ?_
  have hA : gA (gF ρ (b + 45)) ρ (b + 45) 0 := gA_0 _ _
  generalize gF ρ (b + 45) = ρA at hA ⊢
  refine x_dup rfl rfl ?_
  refine x_iconst (v := nI 0) rfl rfl ?_
  refine xb_new (a := b + 46) nw_1 wd_31 (ka_4_0 hk) (hz.up (by omega)) (by show _ < b + 325; omega) rfl ?_
  refine x_dup rfl rfl ?_
  refine xb_call (a := b + 46) (N := 44) (As := []) (st := [.ref (b + 46), .int (nI 0), .ref (b + 45), .ref (b + 45), .ref b]) lm_S_9 y_Told_init wd_34 rfl rfl rfl rfl (Nat.le_of_ble_eq_true rfl) rfl (by decide) (by show _ ≤ b + 325; omega) ?_
  refine k_Told (ka_4_0 hk) (hz.up (by omega)) (gE_arr hB hA (by omega) (by omega)) (fun D2 o2 u1 u2 u3 u4 u5 => ?_)
  have hz := (hz.up (show _ ≤ b + 46 by omega)).out o2 (by omega)
  have oT := oT.trans (o2.mono (show b ≤ _ by omega) (show _ ≤ b + 325 by omega))
  have u := u.out o2 (by omega)
  refine xb_aast (a := b + 45) (t := 4) (k := 0) hk (by decide) (by show b + 45 < b + 90; omega) (ka_4_0 hk) (by decide) (by show b + 46 < b + 90; omega) (cl_0_1 k0) (by decide) ⟨nI_clamp (by omega), vp_in_nI (by omega) (by omega), (xN_1, xF_1, 5), rfl, rfl⟩ hA rfl (fun ρA hA => ?_)
  refine x_dup rfl rfl ?_
  refine x_iconst (v := nI 1) rfl rfl ?_
  refine xb_new (a := b + 90) nw_1 wd_31 (ka_4_1 hk) (hz.up (by omega)) (by show _ < b + 325; omega) rfl ?_
  refine x_dup rfl rfl ?_
  refine xb_call (a := b + 90) (N := 44) (As := []) (st := [.ref (b + 90), .int (nI 1), .ref (b + 45), .ref (b + 45), .ref b]) lm_S_9 y_Told_init wd_34 rfl rfl rfl rfl (Nat.le_of_ble_eq_true rfl) rfl (by decide) (by show _ ≤ b + 325; omega) ?_
  refine k_Told (ka_4_1 hk) (hz.up (by omega)) (gE_arr hB hA (by omega) (by omega)) (fun D3 o3 u1 u2 u3 u4 u5 => ?_)
  have hz := (hz.up (show _ ≤ b + 90 by omega)).out o3 (by omega)
  have oT := oT.trans (o3.mono (show b ≤ _ by omega) (show _ ≤ b + 325 by omega))
  have u := u.out o3 (by omega)
  refine xb_aast (a := b + 45) (t := 4) (k := 1) hk (by decide) (by show b + 45 < b + 134; omega) (ka_4_1 hk) (by decide) (by show b + 90 < b + 134; omega) (cl_0_1 k0) (by decide) ⟨nI_clamp (by omega), vp_in_nI (by omega) (by omega), (xN_1, xF_1, 5), rfl, rfl⟩ hA rfl (fun ρA hA => ?_)
  refine x_dup rfl rfl ?_
  refine x_iconst (v := nI 2) rfl rfl ?_
  refine xb_new (a := b + 134) nw_1 wd_31 (ka_4_2 hk) (hz.up (by omega)) (by show _ < b + 325; omega) rfl ?_
  refine x_dup rfl rfl ?_
  refine xb_call (a := b + 134) (N := 44) (As := []) (st := [.ref (b + 134), .int (nI 2), .ref (b + 45), .ref (b + 45), .ref b]) lm_S_9 y_Told_init wd_34 rfl rfl rfl rfl (Nat.le_of_ble_eq_true rfl) rfl (by decide) (by show _ ≤ b + 325; omega) ?_
  refine k_Told (ka_4_2 hk) (hz.up (by omega)) (gE_arr hB hA (by omega) (by omega)) (fun D4 o4 u1 u2 u3 u4 u5 => ?_)
  have hz := (hz.up (show _ ≤ b + 134 by omega)).out o4 (by omega)
  have oT := oT.trans (o4.mono (show b ≤ _ by omega) (show _ ≤ b + 325 by omega))
  have u := u.out o4 (by omega)
  refine xb_aast (a := b + 45) (t := 4) (k := 2) hk (by decide) (by show b + 45 < b + 178; omega) (ka_4_2 hk) (by decide) (by show b + 134 < b + 178; omega) (cl_0_1 k0) (by decide) ⟨nI_clamp (by omega), vp_in_nI (by omega) (by omega), (xN_1, xF_1, 5), rfl, rfl⟩ hA rfl (fun ρA hA => ?_)
  refine xb_adone (a := b + 45) hk (by decide) (cl_0_1 k0) hB (by omega) hA ?_
  refine xb_putR (g := b + 178) (b := b) lp_S_16 rfl k0 rfl (by omega) hB (fun z => ⟨rfl, rfl⟩) rfl (fun ρ hB => ?_)
  refine x_aload_n rfl rfl ?_
  refine xb_new (a := b + 178) nw_2 wd_169 (ck_0_2 k0) (hz.up (by omega)) (by show _ < b + 325; omega) rfl ?_
  refine x_dup rfl rfl ?_
  refine x_iconst (v := nI 3) rfl rfl ?_
  refine xb_call (a := b + 178) (N := 2) (As := [.int (nI 3)]) (st := [.ref (b + 178), .ref b]) lm_S_22 y_Row_init wd_40 rfl rfl rfl rfl (Nat.le_of_ble_eq_true rfl) rfl (by decide) (by show _ ≤ b + 325; omega) ?_
  refine k_Row (n := 3) (ck_0_2 k0) (cl_0_2 k0) (by decide) (hz.up (by omega)) (gE_of hB (by omega)) ?_
  refine xb_putR (g := b + 180) (b := b) lp_S_25 rfl k0 rfl (by omega) hB (fun z => ⟨rfl, rfl⟩) rfl (fun ρ hB => ?_)
  refine x_aload_n rfl rfl ?_
  refine xb_new (a := b + 180) nw_6 wd_171 (ck_0_3 k0) (hz.up (by omega)) (by show _ < b + 325; omega) rfl ?_
  refine x_dup rfl rfl ?_
  refine xb_call (a := b + 180) (N := 26) (As := []) (st := [.ref (b + 180), .ref b]) lm_S_31 y_Reader_init wd_174 rfl rfl rfl rfl (Nat.le_of_ble_eq_true rfl) rfl (by decide) (by show _ ≤ b + 325; omega) ?_
  refine k_Reader (ck_0_3 k0) (hz.up (by omega)) (gE_of hB (by omega)) (fun D5 o5 => ?_)
  have hz := (hz.up (show _ ≤ b + 180 by omega)).out o5 (by omega)
  have oT := oT.trans (o5.mono (show b ≤ _ by omega) (show _ ≤ b + 325 by omega))
  have u := u.out o5 (by omega)
  refine xb_putR (g := b + 206) (b := b) lp_S_32 rfl k0 rfl (by omega) hB (fun z => ⟨rfl, rfl⟩) rfl (fun ρ hB => ?_)
  refine x_aload_n rfl rfl ?_
  refine xb_new (a := b + 206) nw_7 wd_224 (ck_0_4 k0) (hz.up (by omega)) (by show _ < b + 325; omega) rfl ?_
  refine x_dup rfl rfl ?_
  refine xb_call (a := b + 206) (N := 16) (As := []) (st := [.ref (b + 206), .ref b]) lm_S_38 y_Deeds_init wd_227 rfl rfl rfl rfl (Nat.le_of_ble_eq_true rfl) rfl (by decide) (by show _ ≤ b + 325; omega) ?_
  refine k_Deeds (ck_0_4 k0) (hz.up (by omega)) (gE_of hB (by omega)) (fun D6 o6 r6 => ?_)
  have hz := (hz.up (show _ ≤ b + 206 by omega)).out o6 (by omega)
  have oT := oT.trans (o6.mono (show b ≤ _ by omega) (show _ ≤ b + 325 by omega))
  have u := u.out o6 (by omega)
  refine xb_putR (g := b + 222) (b := b) lp_S_39 rfl k0 rfl (by omega) hB (fun z => ⟨rfl, rfl⟩) rfl (fun ρ hB => ?_)
  refine x_aload_n rfl rfl ?_
  refine xb_new (a := b + 222) nw_9 wd_298 (ck_0_5 k0) (hz.up (by omega)) (by show _ < b + 325; omega) rfl ?_
  refine x_dup rfl rfl ?_
  refine xb_call (a := b + 222) (N := 32) (As := []) (st := [.ref (b + 222), .ref b]) lm_S_45 y_Rounds_init wd_301 rfl rfl rfl rfl (Nat.le_of_ble_eq_true rfl) rfl (by decide) (by show _ ≤ b + 325; omega) ?_
  refine k_Rounds (ck_0_5 k0) (hz.up (by omega)) (gE_of hB (by omega)) (fun D7 o7 r7 => ?_)
  have hz := (hz.up (show _ ≤ b + 222 by omega)).out o7 (by omega)
  have oT := oT.trans (o7.mono (show b ≤ _ by omega) (show _ ≤ b + 325 by omega))
  have u := u.out o7 (by omega)
  have r6 := r6.out o7 (by omega)
  refine xb_putR (g := b + 254) (b := b) lp_S_46 rfl k0 rfl (by omega) hB (fun z => ⟨rfl, rfl⟩) rfl (fun ρ hB => ?_)
  refine x_aload_n rfl rfl ?_
  refine xb_new (a := b + 254) nw_10 wd_338 (ck_0_6 k0) (hz.up (by omega)) (by show _ < b + 325; omega) rfl ?_
  refine x_dup rfl rfl ?_
  refine xb_call (a := b + 254) (N := 50) (As := []) (st := [.ref (b + 254), .ref b]) lm_S_52 y_Evenings_init wd_341 rfl rfl rfl rfl (Nat.le_of_ble_eq_true rfl) rfl (by decide) (by show _ ≤ b + 325; omega) ?_
  refine k_Evenings (ck_0_6 k0) (hz.up (by omega)) (gE_of hB (by omega)) (fun D8 o8 r8 s8 => ?_)
  have hz := (hz.up (show _ ≤ b + 254 by omega)).out o8 (by omega)
  have oT := oT.trans (o8.mono (show b ≤ _ by omega) (show _ ≤ b + 325 by omega))
  have u := u.out o8 (by omega)
  have r6 := r6.out o8 (by omega)
  have r7 := r7.out o8 (by omega)
  refine xb_putR (g := b + 304) (b := b) lp_S_53 rfl k0 rfl (by omega) hB (fun z => ⟨rfl, rfl⟩) rfl (fun ρ hB => ?_)
  refine x_aload_n rfl rfl ?_
  refine xb_new (a := b + 304) nw_11 wd_387 (ck_0_7 k0) (hz.up (by omega)) (by show _ < b + 325; omega) rfl ?_
  refine x_dup rfl rfl ?_
  refine xb_call (a := b + 304) (N := 13) (As := []) (st := [.ref (b + 304), .ref b]) lm_S_59 y_Odds_init wd_390 rfl rfl rfl rfl (Nat.le_of_ble_eq_true rfl) rfl (by decide) (by show _ ≤ b + 325; omega) ?_
  refine k_Odds (ck_0_7 k0) (hz.up (by omega)) (gE_of hB (by omega)) (fun D9 o9 q9 => ?_)
  have hz := (hz.up (show _ ≤ b + 304 by omega)).out o9 (by omega)
  have oT := oT.trans (o9.mono (show b ≤ _ by omega) (show _ ≤ b + 325 by omega))
  have u := u.out o9 (by omega)
  have r6 := r6.out o9 (by omega)
  have r7 := r7.out o9 (by omega)
  have r8 := r8.out o9 (by omega)
  have s8 := s8.out o9 (by omega)
  have q9 : oKo D9 _ := q9
  refine xb_putR (g := b + 317) (b := b) lp_S_60 rfl k0 rfl (by omega) hB (fun z => ⟨rfl, rfl⟩) rfl (fun ρ hB => ?_)
  refine x_aload_n rfl rfl ?_
  refine xb_new (a := b + 317) nw_12 wd_433 (ck_0_8 k0) (hz.up (by omega)) (by show _ < b + 325; omega) rfl ?_
  refine x_dup rfl rfl ?_
  refine xb_call (a := b + 317) (N := 8) (As := []) (st := [.ref (b + 317), .ref b]) lm_S_66 y_Looks_init wd_436 rfl rfl rfl rfl (Nat.le_of_ble_eq_true rfl) rfl (by decide) (by show _ ≤ b + 325; omega) ?_
  refine k_Looks (ck_0_8 k0) (hz.up (by omega)) (gE_of hB (by omega)) (fun D10 o10 r10 => ?_)
  have hz := (hz.up (show _ ≤ b + 317 by omega)).out o10 (by omega)
  have oT := oT.trans (o10.mono (show b ≤ _ by omega) (show _ ≤ b + 325 by omega))
  have u := u.out o10 (by omega)
  have r6 := r6.out o10 (by omega)
  have r7 := r7.out o10 (by omega)
  have r8 := r8.out o10 (by omega)
  have s8 := s8.out o10 (by omega)
  have q9 := q9.out o10 (by omega)
  refine xb_putR (g := b + 325) (b := b) lp_S_67 rfl k0 rfl (by omega) hB (fun z => ⟨rfl, rfl⟩) rfl (fun ρ hB => ?_)
  refine xb_whole (N := 325) hB k0 (by decide) rfl hE ?_
  refine x_aload_n rfl rfl ?_
  refine x_gRg lf_S_25 k0 (hE.c (by omega) (by omega)) rfl rfl ?_
  refine x_iconst (v := nI 3) rfl rfl ?_
  refine x_iconst (v := nI 0) rfl rfl ?_
  refine x_vvg (As := [.int (nI 3), .int (nI 0)]) (st := []) lm_S_71 vf_Row_fill (ck_0_2 k0) (hE.c (by omega) (by omega)) rfl rfl (Nat.le_of_ble_eq_true rfl) rfl ?_ (fun _ h => h)
  have lf : xl (b + 178 + 1) = 3 := cl_0_2 k0
  refine cg_fill (k := 3) (v := nI 0) (ck_0_2 k0) (fun i q1 q2 => hE.c (by omega) (by omega)) (by omega) (fun D11 o11 w11 v11 => ?_)
  refine x_vret rfl rfl ⟨rfl, ?_⟩
  exact h _ (oT.trans (o11.mono (by omega) (by omega))) (u.out o11 (by omega)) (r6.out o11 (by omega)) (r7.out o11 (by omega)) (r8.out o11 (by omega)) (s8.out o11 (by omega)) (q9.out o11 (by omega)) (r10.out o11 (by omega)) w11 (fun j hj => v11 j (by omega))
