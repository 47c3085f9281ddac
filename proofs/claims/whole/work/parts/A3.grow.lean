/-! What constructors call: the same rows over a world that still grows. -/
/-- the cell a is there, all its references stand -/
def gC (G : xG) (a : Nat) : Prop := a < G.1 ∧ ∀ k, (if xk a < 100 then 2 ≤ (xfk (xk a)).getD k 0 else k < xl a) → G.2 a k = true
abbrev xPg (G : xG) (d : Nat) (m : xM) (pc : Nat) (L : List (Nat × Value)) (st : List Value) (D : xD) (Q : Option Value → xD → Prop) : Prop := xP d m pc L st G D G Q
def xCvg (G : xG) (d : Nat) (y : xM) (As : List Value) (D : xD) (P : xD → Prop) : Prop := xC d y As G D G (fun r D' => r = none ∧ P D')
section XG
variable {d : Nat} {m : xM} {pc : Nat} {L : List (Nat × Value)} {st stk : List Value} {G : xG} {D : xD} {Q : Option Value → xD → Prop}
theorem xP_subG {E : xG} {L1 : List (Nat × Value)} (ks : List Nat) (hl : lv_pick L ks = L1) (h : xP d m pc L1 st G D E Q) : xP d m pc L st G D E Q := by
  intro κ p l e R s mid args below meth c G0 C ls H locs h2 hP hS h0 h1
  refine h κ p l e R s mid args below meth c G0 C ls H locs ⟨h2.1, h2.2.1, fun q hq => ?_⟩ hP hS h0 h1
  obtain ⟨q1, hq1, rfl⟩ := List.mem_map.mp hq
  rw [← hl] at hq1
  obtain ⟨k, -, hk⟩ := List.mem_filterMap.mp hq1
  exact h2.2.2 _ (List.mem_map.mpr ⟨q1, List.mem_of_getElem? hk, rfl⟩)
theorem xP_subg {L1 : List (Nat × Value)} (ks : List Nat) (hl : lv_pick L ks = L1) (h : xPg G d m pc L1 st D Q) : xPg G d m pc L st D Q := xP_subG ks hl h
theorem x_gIg {c k i a : Nat} (hlk : xLf m.1.cls i c k) (hc : xk a = c) (hg : gC G a) (hf : (xfk c)[k]? = some 0) (he : m.2.2.2.2.lookup pc = some (.getfield i, 3)) (kk : xPg G d m (pc + 3) L (.int (D.1 a k) :: st) D Q) : xPg G d m pc L (.ref a :: st) D Q := by
  have h100 : c < 100 := by obtain ⟨r, hr, -⟩ := hlk; exact xcl100 hr
  exact x_getI hlk hc h100 hf hg.1 he kk
theorem x_gRg {c k i a δ : Nat} (hlk : xLf m.1.cls i c k) (hc : xk a = c) (hg : gC G a) (hf : (xfk c)[k]? = some (δ + 2)) (he : m.2.2.2.2.lookup pc = some (.getfield i, 3)) (kk : xPg G d m (pc + 3) L (.ref (a + δ) :: st) D Q) : xPg G d m pc L (.ref a :: st) D Q := by
  have h100 : c < 100 := by obtain ⟨r, hr, -⟩ := hlk; exact xcl100 hr
  exact x_getR hlk hc h100 hf (hg.2 k (by rw [if_pos (by omega), hc, List.getD_eq_getElem?_getD, hf]; show 2 ≤ δ + 2; omega)) hg.1 he kk
theorem x_pIng {c k i a : Nat} {x : Int32} (hlk : xLp m.1.cls i c k .int) (hnf : ∀ r, xcl[c]? = some r → (r.2.1 k).2.2.2 = false) (hc : xk a = c) (hg : gC G a) (hf : (xfk c)[k]? = some 0) (he : m.2.2.2.2.lookup pc = some (.putfield i, 3)) (kk : ∀ D1 : xD, D1 = (xu D.1 a k x, D.2) → xPg G d m (pc + 3) L st D1 Q) : xPg G d m pc L (.int x :: .ref a :: st) D Q := by
  have h100 : c < 100 := by obtain ⟨r, _, hr, -⟩ := hlk; exact xcl100 hr
  exact x_putI hlk (Or.inr hnf) hc h100 hf hg.1 ⟨rfl, rfl⟩ he (kk _ rfl)
theorem x_iastng {a : Nat} {j x : Int32} (hc : xk a = 100) (hg : gC G a) (hin : vp_in j (xl a)) (he : m.2.2.2.2.lookup pc = some (.iastore, 1)) (kk : ∀ D1 : xD, D1 = (xu D.1 a j.toNatClampNeg x, D.2) → xPg G d m (pc + 1) L st D1 Q) : xPg G d m pc L (.int x :: .int j :: .ref a :: st) D Q := x_iast hc hg.1 hin he (kk _ rfl)
theorem x_mxng {x y : Int32} {i : Nat} (hlk : xIn (.methodLink m.1.cls i Lib.Math.max.name)) (hW : (st.map fun v => v.category).sum ≤ 8) (he : m.2.2.2.2.lookup pc = some (.invokestatic i, 3)) (kk : ∀ r : Int32, r = (if x < y then y else x) → xPg G (d + 1) m (pc + 3) L (.int r :: st) D Q) : xPg G (d + 1) m pc L (.int y :: .int x :: st) D Q :=
  x_mmax hlk wd_78 wd_6 (by rw [xMathMaxCode]; exact wd_79) (Nat.le_add_left _ _) hW he (kk _ rfl)
theorem x_mnng {x y : Int32} {i : Nat} (hlk : xIn (.methodLink m.1.cls i Lib.Math.min.name)) (hW : (st.map fun v => v.category).sum ≤ 8) (he : m.2.2.2.2.lookup pc = some (.invokestatic i, 3)) (kk : ∀ r : Int32, r = (if y < x then y else x) → xPg G (d + 1) m (pc + 3) L (.int r :: st) D Q) : xPg G (d + 1) m pc L (.int y :: .int x :: st) D Q :=
  x_mmin hlk wd_75 wd_6 (by rw [xMathMinCode]; exact wd_76) (Nat.le_add_left _ _) hW he (kk _ rfl)
variable {y : xM} {n c b i : Nat} {As : List Value} {P : xD → Prop}
theorem x_vvg (hlk : xLm m.1.cls i y.1) (hv : xVf y n c) (hc : xk b = c) (hg : gC G b) (hn : As.length = n) (hst : stk = As.reverse ++ .ref b :: st) (hW : (st.map fun v => v.category).sum ≤ 8) (he : m.2.2.2.2.lookup pc = some (.invokevirtual i, 3)) (hC : xCvg G d y (.ref b :: As) D P)
    (kk : ∀ D', P D' → xPg G (d + 1) m (pc + 3) L st D' Q) : xPg G (d + 1) m pc L stk D Q := by
  obtain ⟨h1, h2, h3, r, h4, h5⟩ := hv
  exact x_callV hlk h1 h2 h3 hc (xcl100 h4) h4 h5 hg.1 hn hst hW he (Nat.le_refl _) (Nat.le_refl _) hC (fun r D' ⟨hx, hp⟩ => by subst hx; exact kk D' hp)
theorem x_svg (hlk : xLm m.1.cls i y.1) (hv : xSf y n) (hn : As.length = n) (hst : stk = As.reverse ++ st) (hW : (st.map fun v => v.category).sum ≤ 8) (he : m.2.2.2.2.lookup pc = some (.invokestatic i, 3)) (hC : xCvg G d y As D P)
    (kk : ∀ D', P D' → xPg G (d + 1) m (pc + 3) L st D' Q) : xPg G (d + 1) m pc L stk D Q :=
  x_callS hlk hv.1 hv.2 hn hst hW he (Nat.le_refl _) (Nat.le_refl _) hC (fun r D' ⟨hx, hp⟩ => by subst hx; exact kk D' hp)
end XG
theorem xCvg_of {G : xG} {d : Nat} {y : xM} {n : Nat} {As : List Value} {D : xD} {P : xD → Prop} (hY : xY y n) (hlen : (lg_sl As).length ≤ y.2.2.1) (k : xPg G d y 0 (lv_args 0 As) [] D (fun r D' => r = none ∧ P D')) : xCvg G d y As D P := xC_of hY hlen k
theorem sg_Arrays_fill_0 {G : xG} {d : Nat} {D : xD} {Q : Option Value → xD → Prop} {a0 : Nat} {x1 : Int32} (k0 : xk a0 = 100) (g : ∀ i, a0 ≤ i → i < a0 + 1 → gC G i) (h : xPg G (d + 1) m_Arrays_fill 5 [(0, .ref a0), (1, .int x1), (2, .int (0 : Int32)), (3, .int (Int32.ofNat (xl a0)))] [] D Q) : xPg G (d + 1) m_Arrays_fill 0 [(0, .ref a0), (1, .int x1)] [] D Q := by
  refine x_iconst (v := (0 : Int32)) rfl rfl ?_
  refine x_istore_n (i := 2) (L1 := [(2, .int (0 : Int32)), (0, .ref a0), (1, .int x1)]) rfl rfl (Nat.le_of_ble_eq_true rfl) rfl ?_
  refine x_aload_n rfl rfl ?_
  refine x_alen (t := 0) k0 (by decide) (g _ (by omega) (by omega)).1 rfl rfl ?_
  refine x_istore_n (i := 3) (L1 := [(3, .int (Int32.ofNat (xl a0))), (2, .int (0 : Int32)), (0, .ref a0), (1, .int x1)]) rfl rfl (Nat.le_of_ble_eq_true rfl) rfl ?_
  exact xP_subg [2, 3, 1, 0] rfl h
theorem sg_Arrays_fill_5 {G : xG} {d : Nat} {D : xD} {Q : Option Value → xD → Prop} {a0 : Nat} {x1 : Int32} {x2 : Int32} {x3 : Int32} (k0 : xk a0 = 100) (g : ∀ i, a0 ≤ i → i < a0 + 1 → gC G i) (h : (x3 ≤ x2 → Q none D) ∧ (¬ x3 ≤ x2 → vp_in x2 (xl a0) ∧ ∀ D1 : xD, D1 = (xu D.1 a0 (x2 : Int32).toNatClampNeg x1, D.2) → xPg G (d + 1) m_Arrays_fill 5 [(0, .ref a0), (1, .int x1), (2, .int (x2 + (1 : Int32))), (3, .int x3)] [] D1 Q)) : xPg G (d + 1) m_Arrays_fill 5 [(0, .ref a0), (1, .int x1), (2, .int x2), (3, .int x3)] [] D Q := by
  refine x_iload_n rfl rfl ?_
  refine x_iload_n rfl rfl ?_
  refine x_icmp_ge (tgt := 20) rfl rfl (fun c => ?_) (fun c => ?_)
  · have h := h.1 c
    exact x_vret rfl rfl h
  · have h := h.2 c
    refine x_aload_n rfl rfl ?_
    refine x_iload_n rfl rfl ?_
    refine x_iload_n rfl rfl ?_
    refine x_iastng k0 (g _ (by omega) (by omega)) h.1 rfl (fun D1 eD1 => ?_)
    have h := h.2 D1 eD1
    refine x_iinc (i := 2) (v := x2 + (1 : Int32)) (L1 := [(2, .int (x2 + (1 : Int32))), (0, .ref a0), (1, .int x1), (3, .int x3)]) rfl rfl rfl (Nat.le_of_ble_eq_true rfl) rfl ?_
    refine x_goto (tgt := 5) rfl rfl ?_
    exact xP_subg [1, 2, 0, 3] rfl h
theorem sg_Row_set_0 {G : xG} {d : Nat} {D : xD} {Q : Option Value → xD → Prop} {a0 : Nat} {x1 : Int32} {x2 : Int32} (k0 : xk a0 = 2) (g : ∀ i, a0 ≤ i → i < a0 + 2 → gC G i) (h : (x1 < 0 → Q none D) ∧ (¬ x1 < 0 → ((D.1 a0 1) ≤ x1 → Q none D) ∧ (¬ (D.1 a0 1) ≤ x1 → ((Int32.ofNat (xl (a0 + 1))) ≤ x1 → Q none D) ∧ (¬ (Int32.ofNat (xl (a0 + 1))) ≤ x1 → vp_in x1 (xl (a0 + 1)) ∧ ∀ D1 : xD, D1 = (xu D.1 (a0 + 1) (x1 : Int32).toNatClampNeg x2, D.2) → Q none D1)))) : xPg G (d + 1) m_Row_set 0 [(0, .ref a0), (1, .int x1), (2, .int x2)] [] D Q := by
  refine x_iload_n rfl rfl ?_
  refine x_if_lt (tgt := 28) rfl rfl (fun c => ?_) (fun c => ?_)
  · have h := h.1 c
    exact x_vret rfl rfl h
  · have h := h.2 c
    refine x_iload_n rfl rfl ?_
    refine x_aload_n rfl rfl ?_
    refine x_gIg lf_Row_13 k0 (g _ (by omega) (by omega)) rfl rfl ?_
    refine x_icmp_ge (tgt := 28) rfl rfl (fun c => ?_) (fun c => ?_)
    · have h := h.1 c
      exact x_vret rfl rfl h
    · have h := h.2 c
      refine x_iload_n rfl rfl ?_
      refine x_aload_n rfl rfl ?_
      refine x_gRg lf_Row_7 k0 (g _ (by omega) (by omega)) rfl rfl ?_
      refine x_alen (t := 0) (ck_2_0 k0) (by decide) (g _ (by omega) (by omega)).1 rfl rfl ?_
      refine x_icmp_ge (tgt := 28) rfl rfl (fun c => ?_) (fun c => ?_)
      · have h := h.1 c
        exact x_vret rfl rfl h
      · have h := h.2 c
        refine x_aload_n rfl rfl ?_
        refine x_gRg lf_Row_7 k0 (g _ (by omega) (by omega)) rfl rfl ?_
        refine x_iload_n rfl rfl ?_
        refine x_iload_n rfl rfl ?_
        refine x_iastng (ck_2_0 k0) (g _ (by omega) (by omega)) h.1 rfl (fun D1 eD1 => ?_)
        have h := h.2 D1 eD1
        exact x_vret rfl rfl h
theorem sg_Row_push_0 {G : xG} {d : Nat} {D : xD} {Q : Option Value → xD → Prop} {a0 : Nat} {x1 : Int32} (k0 : xk a0 = 2) (g : ∀ i, a0 ≤ i → i < a0 + 2 → gC G i) (h : ((D.1 a0 1) < 0 → Q none D) ∧ (¬ (D.1 a0 1) < 0 → ((Int32.ofNat (xl (a0 + 1))) ≤ (D.1 a0 1) → Q none D) ∧ (¬ (Int32.ofNat (xl (a0 + 1))) ≤ (D.1 a0 1) → vp_in (D.1 a0 1) (xl (a0 + 1)) ∧ ∀ D1 : xD, D1 = (xu D.1 (a0 + 1) (D.1 a0 1 : Int32).toNatClampNeg x1, D.2) → ∀ D2 : xD, D2 = (xu D1.1 a0 1 ((D1.1 a0 1) + (1 : Int32)), D1.2) → Q none D2))) : xPg G (d + 1) m_Row_push 0 [(0, .ref a0), (1, .int x1)] [] D Q := by
  refine x_aload_n rfl rfl ?_
  refine x_gIg lf_Row_13 k0 (g _ (by omega) (by omega)) rfl rfl ?_
  refine x_if_lt (tgt := 39) rfl rfl (fun c => ?_) (fun c => ?_)
  · have h := h.1 c
    exact x_vret rfl rfl h
  · have h := h.2 c
    refine x_aload_n rfl rfl ?_
    refine x_gIg lf_Row_13 k0 (g _ (by omega) (by omega)) rfl rfl ?_
    refine x_aload_n rfl rfl ?_
    refine x_gRg lf_Row_7 k0 (g _ (by omega) (by omega)) rfl rfl ?_
    refine x_alen (t := 0) (ck_2_0 k0) (by decide) (g _ (by omega) (by omega)).1 rfl rfl ?_
    refine x_icmp_ge (tgt := 39) rfl rfl (fun c => ?_) (fun c => ?_)
    · have h := h.1 c
      exact x_vret rfl rfl h
    · have h := h.2 c
      refine x_aload_n rfl rfl ?_
      refine x_gRg lf_Row_7 k0 (g _ (by omega) (by omega)) rfl rfl ?_
      refine x_aload_n rfl rfl ?_
      refine x_gIg lf_Row_13 k0 (g _ (by omega) (by omega)) rfl rfl ?_
      refine x_iload_n rfl rfl ?_
      refine x_iastng (ck_2_0 k0) (g _ (by omega) (by omega)) h.1 rfl (fun D1 eD1 => ?_)
      have h := h.2 D1 eD1
      refine x_aload_n rfl rfl ?_
      refine x_dup rfl rfl ?_
      refine x_gIg lf_Row_13 k0 (g _ (by omega) (by omega)) rfl rfl ?_
      refine x_iconst (v := (1 : Int32)) rfl rfl ?_
      refine x_iadd rfl ?_
      refine x_pIng lp_Row_13 nf_2_1 k0 (g _ (by omega) (by omega)) rfl rfl (fun D2 eD2 => ?_)
      have h := h D2 eD2
      exact x_vret rfl rfl h
theorem sg_Row_fill_0 {G : xG} {d : Nat} {D : xD} {Q : Option Value → xD → Prop} {a0 : Nat} {x1 : Int32} {x2 : Int32} (k0 : xk a0 = 2) (g : ∀ i, a0 ≤ i → i < a0 + 2 → gC G i) (h : ∀ r1 : Int32, r1 = (if (Int32.ofNat (xl (a0 + 1))) < x1 then (Int32.ofNat (xl (a0 + 1))) else x1) → ∀ r2 : Int32, r2 = (if (0 : Int32) < r1 then r1 else (0 : Int32)) → ∀ D3 : xD, D3 = (xu D.1 a0 1 r2, D.2) → xCvg G d m_Arrays_fill [.ref (a0 + 1), .int x2] D3 (fun D4 => Q none D4)) : xPg G (d + 1) m_Row_fill 0 [(0, .ref a0), (1, .int x1), (2, .int x2)] [] D Q := by
  refine x_aload_n rfl rfl ?_
  refine x_iconst (v := (0 : Int32)) rfl rfl ?_
  refine x_iload_n rfl rfl ?_
  refine x_aload_n rfl rfl ?_
  refine x_gRg lf_Row_7 k0 (g _ (by omega) (by omega)) rfl rfl ?_
  refine x_alen (t := 0) (ck_2_0 k0) (by decide) (g _ (by omega) (by omega)).1 rfl rfl ?_
  refine x_mnng wd_74 (Nat.le_of_ble_eq_true rfl) rfl (fun r1 er1 => ?_)
  have h := h r1 er1
  refine x_mxng wd_77 (Nat.le_of_ble_eq_true rfl) rfl (fun r2 er2 => ?_)
  have h := h r2 er2
  refine x_pIng lp_Row_13 nf_2_1 k0 (g _ (by omega) (by omega)) rfl rfl (fun D3 eD3 => ?_)
  have h := h D3 eD3
  refine x_aload_n rfl rfl ?_
  refine x_gRg lf_Row_7 k0 (g _ (by omega) (by omega)) rfl rfl ?_
  refine x_iload_n rfl rfl ?_
  refine x_svg lm_Row_34 sf_Arrays_fill rfl rfl (Nat.le_of_ble_eq_true rfl) rfl h (fun D4 h => ?_)
  exact x_vret rfl rfl h
theorem sg_Table_clear_0 {G : xG} {d : Nat} {D : xD} {Q : Option Value → xD → Prop} {a0 : Nat} (k0 : xk a0 = 4) (g : ∀ i, a0 ≤ i → i < a0 + 5 → gC G i) (h : xCvg G d m_Row_fill [.ref (a0 + 1), .int (6 : Int32), .int (4 : Int32)] D (fun D1 => xCvg G d m_Row_set [.ref (a0 + 1), .int (3 : Int32), .int (1 : Int32)] D1 (fun D2 => xCvg G d m_Row_set [.ref (a0 + 1), .int (4 : Int32), .int (3 : Int32)] D2 (fun D3 => xCvg G d m_Row_set [.ref (a0 + 1), .int (5 : Int32), .int (0 : Int32)] D3 (fun D4 => xCvg G d m_Row_fill [.ref (a0 + 3), .int (42 : Int32), .int (0 : Int32)] D4 (fun D5 => xPg G (d + 1) m_Table_clear 49 [(0, .ref a0), (1, .int (0 : Int32))] [] D5 Q)))))) : xPg G (d + 1) m_Table_clear 0 [(0, .ref a0)] [] D Q := by
  refine x_aload_n rfl rfl ?_
  refine x_gRg lf_Table_14 k0 (g _ (by omega) (by omega)) rfl rfl ?_
  refine x_bipush (v := (6 : Int32)) rfl rfl ?_
  refine x_iconst (v := (4 : Int32)) rfl rfl ?_
  refine x_vvg lm_Table_26 vf_Row_fill (ck_4_0 k0) (g _ (by omega) (by omega)) rfl rfl (Nat.le_of_ble_eq_true rfl) rfl h (fun D1 h => ?_)
  refine x_aload_n rfl rfl ?_
  refine x_gRg lf_Table_14 k0 (g _ (by omega) (by omega)) rfl rfl ?_
  refine x_iconst (v := (3 : Int32)) rfl rfl ?_
  refine x_iconst (v := (1 : Int32)) rfl rfl ?_
  refine x_vvg lm_Table_30 vf_Row_set (ck_4_0 k0) (g _ (by omega) (by omega)) rfl rfl (Nat.le_of_ble_eq_true rfl) rfl h (fun D2 h => ?_)
  refine x_aload_n rfl rfl ?_
  refine x_gRg lf_Table_14 k0 (g _ (by omega) (by omega)) rfl rfl ?_
  refine x_iconst (v := (4 : Int32)) rfl rfl ?_
  refine x_iconst (v := (3 : Int32)) rfl rfl ?_
  refine x_vvg lm_Table_30 vf_Row_set (ck_4_0 k0) (g _ (by omega) (by omega)) rfl rfl (Nat.le_of_ble_eq_true rfl) rfl h (fun D3 h => ?_)
  refine x_aload_n rfl rfl ?_
  refine x_gRg lf_Table_14 k0 (g _ (by omega) (by omega)) rfl rfl ?_
  refine x_iconst (v := (5 : Int32)) rfl rfl ?_
  refine x_iconst (v := (0 : Int32)) rfl rfl ?_
  refine x_vvg lm_Table_30 vf_Row_set (ck_4_0 k0) (g _ (by omega) (by omega)) rfl rfl (Nat.le_of_ble_eq_true rfl) rfl h (fun D4 h => ?_)
  refine x_aload_n rfl rfl ?_
  refine x_gRg lf_Table_20 k0 (g _ (by omega) (by omega)) rfl rfl ?_
  refine x_bipush (v := (42 : Int32)) rfl rfl ?_
  refine x_iconst (v := (0 : Int32)) rfl rfl ?_
  refine x_vvg lm_Table_26 vf_Row_fill (ck_4_1 k0) (g _ (by omega) (by omega)) rfl rfl (Nat.le_of_ble_eq_true rfl) rfl h (fun D5 h => ?_)
  refine x_iconst (v := (0 : Int32)) rfl rfl ?_
  refine x_istore_n (i := 1) (L1 := [(1, .int (0 : Int32)), (0, .ref a0)]) rfl rfl (Nat.le_of_ble_eq_true rfl) rfl ?_
  exact xP_subg [1, 0] rfl h
theorem sg_Table_clear_49 {G : xG} {d : Nat} {D : xD} {Q : Option Value → xD → Prop} {a0 : Nat} {x1 : Int32} (k0 : xk a0 = 4) (g : ∀ i, a0 ≤ i → i < a0 + 5 → gC G i) (h : ((6 : Int32) ≤ x1 → Q none D) ∧ (¬ (6 : Int32) ≤ x1 → xCvg G d m_Table_setOf [.ref a0, .int x1, .int (5 : Int32), .int (-1 : Int32)] D (fun D1 => xPg G (d + 1) m_Table_clear 49 [(0, .ref a0), (1, .int (x1 + (1 : Int32)))] [] D1 Q))) : xPg G (d + 1) m_Table_clear 49 [(0, .ref a0), (1, .int x1)] [] D Q := by
  refine x_iload_n rfl rfl ?_
  refine x_bipush (v := (6 : Int32)) rfl rfl ?_
  refine x_icmp_ge (tgt := 68) rfl rfl (fun c => ?_) (fun c => ?_)
  · have h := h.1 c
    exact x_vret rfl rfl h
  · have h := h.2 c
    refine x_aload_n rfl rfl ?_
    refine x_iload_n rfl rfl ?_
    refine x_iconst (v := (5 : Int32)) rfl rfl ?_
    refine x_iconst (v := (-1 : Int32)) rfl rfl ?_
    refine x_vvg lm_Table_33 vf_Table_setOf k0 (g _ (by omega) (by omega)) rfl rfl (Nat.le_of_ble_eq_true rfl) rfl h (fun D1 h => ?_)
    refine x_iinc (i := 1) (v := x1 + (1 : Int32)) (L1 := [(1, .int (x1 + (1 : Int32))), (0, .ref a0)]) rfl rfl rfl (Nat.le_of_ble_eq_true rfl) rfl ?_
    refine x_goto (tgt := 49) rfl rfl ?_
    exact xP_subg [1, 0] rfl h
theorem sg_Table_setOf_0 {G : xG} {d : Nat} {D : xD} {Q : Option Value → xD → Prop} {a0 : Nat} {x1 : Int32} {x2 : Int32} {x3 : Int32} (k0 : xk a0 = 4) (g : ∀ i, a0 ≤ i → i < a0 + 5 → gC G i) (h : xCvg G d m_Row_set [.ref (a0 + 3), .int ((x1 * (7 : Int32)) + x2), .int x3] D (fun D1 => Q none D1)) : xPg G (d + 1) m_Table_setOf 0 [(0, .ref a0), (1, .int x1), (2, .int x2), (3, .int x3)] [] D Q := by
  refine x_aload_n rfl rfl ?_
  refine x_gRg lf_Table_20 k0 (g _ (by omega) (by omega)) rfl rfl ?_
  refine x_iload_n rfl rfl ?_
  refine x_bipush (v := (7 : Int32)) rfl rfl ?_
  refine x_imul rfl ?_
  refine x_iload_n rfl rfl ?_
  refine x_iadd rfl ?_
  refine x_iload_n rfl rfl ?_
  refine x_vvg lm_Table_30 vf_Row_set (ck_4_1 k0) (g _ (by omega) (by omega)) rfl rfl (Nat.le_of_ble_eq_true rfl) rfl h (fun D1 h => ?_)
  exact x_vret rfl rfl h
theorem sg_Odds_rank_0 {G : xG} {d : Nat} {D : xD} {Q : Option Value → xD → Prop} {a0 : Nat} {x1 : Int32} {x2 : Int32} (k0 : xk a0 = 2) (g : ∀ i, a0 ≤ i → i < a0 + 2 → gC G i) (h : xPg G (d + 1) m_Odds_rank 5 [(0, .ref a0), (1, .int x1), (2, .int x2), (3, .int (0 : Int32)), (4, .int (0 : Int32))] [] D Q) : xPg G (d + 1) m_Odds_rank 0 [(0, .ref a0), (1, .int x1), (2, .int x2)] [] D Q := by
  refine x_iconst (v := (0 : Int32)) rfl rfl ?_
  refine x_istore_n (i := 3) (L1 := [(3, .int (0 : Int32)), (0, .ref a0), (1, .int x1), (2, .int x2)]) rfl rfl (Nat.le_of_ble_eq_true rfl) rfl ?_
  refine x_iconst (v := (0 : Int32)) rfl rfl ?_
  refine x_istore (i := 4) (L1 := [(4, .int (0 : Int32)), (3, .int (0 : Int32)), (0, .ref a0), (1, .int x1), (2, .int x2)]) rfl (Nat.le_of_ble_eq_true rfl) rfl ?_
  exact xP_subg [2, 3, 4, 1, 0] rfl h
theorem sg_Odds_rank_5 {G : xG} {d : Nat} {D : xD} {Q : Option Value → xD → Prop} {a0 : Nat} {x1 : Int32} {x2 : Int32} {x3 : Int32} {x4 : Int32} (k0 : xk a0 = 2) (g : ∀ i, a0 ≤ i → i < a0 + 2 → gC G i) (h : (x1 ≤ x4 → Q none D) ∧ (¬ x1 ≤ x4 → xCvg G d m_Row_push [.ref a0, .int x3] D (fun D1 => (x2 < ((((x4 / (125 : Int32)) + ((x4 / (25 : Int32)) - (x4 / (25 : Int32)) / (5 : Int32) * (5 : Int32))) + ((x4 / (5 : Int32)) - (x4 / (5 : Int32)) / (5 : Int32) * (5 : Int32))) + (x4 - x4 / (5 : Int32) * (5 : Int32))) → xPg G (d + 1) m_Odds_rank 5 [(0, .ref a0), (1, .int x1), (2, .int x2), (3, .int (x3 + (0 : Int32))), (4, .int (x4 + (1 : Int32)))] [] D1 Q) ∧ (¬ x2 < ((((x4 / (125 : Int32)) + ((x4 / (25 : Int32)) - (x4 / (25 : Int32)) / (5 : Int32) * (5 : Int32))) + ((x4 / (5 : Int32)) - (x4 / (5 : Int32)) / (5 : Int32) * (5 : Int32))) + (x4 - x4 / (5 : Int32) * (5 : Int32))) → xPg G (d + 1) m_Odds_rank 5 [(0, .ref a0), (1, .int x1), (2, .int x2), (3, .int (x3 + (1 : Int32))), (4, .int (x4 + (1 : Int32)))] [] D1 Q)))) : xPg G (d + 1) m_Odds_rank 5 [(0, .ref a0), (1, .int x1), (2, .int x2), (3, .int x3), (4, .int x4)] [] D Q := by
  refine x_iload rfl rfl ?_
  refine x_iload_n rfl rfl ?_
  refine x_icmp_ge (tgt := 63) rfl rfl (fun c => ?_) (fun c => ?_)
  · have h := h.1 c
    exact x_vret rfl rfl h
  · have h := h.2 c
    refine x_iload rfl rfl ?_
    refine x_bipush (v := (125 : Int32)) rfl rfl ?_
    refine x_idiv rfl (by decide) ?_
    refine x_iload rfl rfl ?_
    refine x_bipush (v := (25 : Int32)) rfl rfl ?_
    refine x_idiv rfl (by decide) ?_
    refine x_iconst (v := (5 : Int32)) rfl rfl ?_
    refine x_irem rfl (by decide) ?_
    refine x_iadd rfl ?_
    refine x_iload rfl rfl ?_
    refine x_iconst (v := (5 : Int32)) rfl rfl ?_
    refine x_idiv rfl (by decide) ?_
    refine x_iconst (v := (5 : Int32)) rfl rfl ?_
    refine x_irem rfl (by decide) ?_
    refine x_iadd rfl ?_
    refine x_iload rfl rfl ?_
    refine x_iconst (v := (5 : Int32)) rfl rfl ?_
    refine x_irem rfl (by decide) ?_
    refine x_iadd rfl ?_
    refine x_istore (i := 5) (L1 := [(5, .int ((((x4 / (125 : Int32)) + ((x4 / (25 : Int32)) - (x4 / (25 : Int32)) / (5 : Int32) * (5 : Int32))) + ((x4 / (5 : Int32)) - (x4 / (5 : Int32)) / (5 : Int32) * (5 : Int32))) + (x4 - x4 / (5 : Int32) * (5 : Int32)))), (0, .ref a0), (1, .int x1), (2, .int x2), (3, .int x3), (4, .int x4)]) rfl (Nat.le_of_ble_eq_true rfl) rfl ?_
    refine x_aload_n rfl rfl ?_
    refine x_iload_n rfl rfl ?_
    refine x_vvg lm_Odds_39 vf_Row_push k0 (g _ (by omega) (by omega)) rfl rfl (Nat.le_of_ble_eq_true rfl) rfl h (fun D1 h => ?_)
    refine x_iload_n rfl rfl ?_
    refine x_iload rfl rfl ?_
    refine x_iload_n rfl rfl ?_
    refine x_icmp_gt (tgt := 54) rfl rfl (fun c => ?_) (fun c => ?_)
    · have h := h.1 c
      refine x_iconst (v := (0 : Int32)) rfl rfl ?_
      refine x_iadd rfl ?_
      refine x_istore_n (i := 3) (L1 := [(3, .int (x3 + (0 : Int32))), (5, .int ((((x4 / (125 : Int32)) + ((x4 / (25 : Int32)) - (x4 / (25 : Int32)) / (5 : Int32) * (5 : Int32))) + ((x4 / (5 : Int32)) - (x4 / (5 : Int32)) / (5 : Int32) * (5 : Int32))) + (x4 - x4 / (5 : Int32) * (5 : Int32)))), (0, .ref a0), (1, .int x1), (2, .int x2), (4, .int x4)]) rfl rfl (Nat.le_of_ble_eq_true rfl) rfl ?_
      refine x_iinc (i := 4) (v := x4 + (1 : Int32)) (L1 := [(4, .int (x4 + (1 : Int32))), (3, .int (x3 + (0 : Int32))), (5, .int ((((x4 / (125 : Int32)) + ((x4 / (25 : Int32)) - (x4 / (25 : Int32)) / (5 : Int32) * (5 : Int32))) + ((x4 / (5 : Int32)) - (x4 / (5 : Int32)) / (5 : Int32) * (5 : Int32))) + (x4 - x4 / (5 : Int32) * (5 : Int32)))), (0, .ref a0), (1, .int x1), (2, .int x2)]) rfl rfl rfl (Nat.le_of_ble_eq_true rfl) rfl ?_
      refine x_goto (tgt := 5) rfl rfl ?_
      exact xP_subg [3, 4, 5, 1, 0] rfl h
    · have h := h.2 c
      refine x_iconst (v := (1 : Int32)) rfl rfl ?_
      refine x_goto (tgt := 55) rfl rfl ?_
      refine x_iadd rfl ?_
      refine x_istore_n (i := 3) (L1 := [(3, .int (x3 + (1 : Int32))), (5, .int ((((x4 / (125 : Int32)) + ((x4 / (25 : Int32)) - (x4 / (25 : Int32)) / (5 : Int32) * (5 : Int32))) + ((x4 / (5 : Int32)) - (x4 / (5 : Int32)) / (5 : Int32) * (5 : Int32))) + (x4 - x4 / (5 : Int32) * (5 : Int32)))), (0, .ref a0), (1, .int x1), (2, .int x2), (4, .int x4)]) rfl rfl (Nat.le_of_ble_eq_true rfl) rfl ?_
      refine x_iinc (i := 4) (v := x4 + (1 : Int32)) (L1 := [(4, .int (x4 + (1 : Int32))), (3, .int (x3 + (1 : Int32))), (5, .int ((((x4 / (125 : Int32)) + ((x4 / (25 : Int32)) - (x4 / (25 : Int32)) / (5 : Int32) * (5 : Int32))) + ((x4 / (5 : Int32)) - (x4 / (5 : Int32)) / (5 : Int32) * (5 : Int32))) + (x4 - x4 / (5 : Int32) * (5 : Int32)))), (0, .ref a0), (1, .int x1), (2, .int x2)]) rfl rfl rfl (Nat.le_of_ble_eq_true rfl) rfl ?_
      refine x_goto (tgt := 5) rfl rfl ?_
      exact xP_subg [3, 4, 5, 1, 0] rfl h
section ROWG
variable {d : Nat} {G : xG} {D : xD} {a n : Nat}
theorem cg_Arrays_fill {P : xD → Prop} {v : Int32} (k0 : xk a = 100) (g : ∀ i, a ≤ i → i < a + 1 → gC G i) (h : P (fil D a v (xl a))) : xCvg G (d + 1) m_Arrays_fill [.ref a, .int v] D P := by
  refine xCvg_of y_Arrays_fill (Nat.le_of_ble_eq_true rfl) ?_
  refine sg_Arrays_fill_0 k0 g ?_
  have hc := xl_le a
  have key : ∀ k j, j + k = xl a → xPg G (d + 1) m_Arrays_fill 5 [(0, .ref a), (1, .int v), (2, .int (nI j)), (3, .int (Int32.ofNat (xl a)))] [] (fil D a v j) (fun r D' => r = none ∧ P D') := by
    intro k
    induction k with
    | zero =>
      intro j hj
      have e : j = xl a := by omega
      exact sg_Arrays_fill_5 k0 g ⟨fun _ => ⟨rfl, by rw [e]; exact h⟩, fun c => absurd (nI_le (a := xl a) (b := j) (by omega) (by omega)) c⟩
    | succ k ih =>
      intro j hj
      refine sg_Arrays_fill_5 k0 g ⟨fun c => absurd c (nI_ge (by omega) (by omega)), fun c => ⟨vp_in_nI (by omega) (by omega), fun D1 hD1 => ?_⟩⟩
      rw [nI_clamp (by omega), fil_succ] at hD1
      rw [hD1, nI_1]
      exact ih (j + 1) (by omega)
  have := key (xl a) 0 (by omega)
  rw [fil_0] at this
  exact this
theorem cg_Row_set {P : xD → Prop} {i v : Int32} (hr : rS D a n) (g : ∀ i, a ≤ i → i < a + 2 → gC G i) (h : P (rset D a n i v)) : xCvg G (d + 1) m_Row_set [.ref a, .int i, .int v] D P := by
  refine xCvg_of y_Row_set (Nat.le_of_ble_eq_true rfl) ?_
  have hc := xl_le (a + 1)
  refine sg_Row_set_0 hr.2.2 g ⟨fun c => ⟨rfl, ?_⟩, fun c => ⟨fun c1 => ⟨rfl, ?_⟩, fun c1 => ⟨fun c2 => ?_, fun c2 => ?_⟩⟩⟩
  · unfold rset at h; rw [if_pos c] at h; exact h
  · rw [hr.1] at c1; unfold rset at h; rw [if_neg c, if_pos c1] at h; exact h
  · rw [hr.1] at c1
    exact absurd c2 (rcap c c1 hr.2.1 (by omega)).1
  · rw [hr.1] at c1
    refine ⟨(rcap c c1 hr.2.1 (by omega)).2, fun D1 hD1 => ⟨rfl, ?_⟩⟩
    unfold rset at h; rw [if_neg c, if_neg c1] at h; rw [hD1]; exact h
theorem cg_Row_push {P : xD → Prop} {v : Int32} (hr : rS D a n) (g : ∀ i, a ≤ i → i < a + 2 → gC G i) (h : P (rpush D a n v)) : xCvg G (d + 1) m_Row_push [.ref a, .int v] D P := by
  refine xCvg_of y_Row_push (Nat.le_of_ble_eq_true rfl) ?_
  have hc := xl_le (a + 1)
  have h2 := hr.2.1
  have hne : a ≠ a + 1 := by omega
  refine sg_Row_push_0 hr.2.2 g ⟨fun c => ?_, fun c => ⟨fun c1 => ⟨rfl, ?_⟩, fun c1 => ?_⟩⟩
  · rw [hr.1] at c
    exact absurd c (nI_pos (by omega))
  · rw [hr.1] at c1
    unfold rpush at h; rw [if_neg (fun q => nI_ge q (by omega) c1)] at h; exact h
  · rw [hr.1] at c1
    have hlt : n < xl (a + 1) := by
      apply Nat.lt_of_not_le
      intro q
      exact c1 (nI_le q (by omega))
    rw [hr.1]
    refine ⟨vp_in_nI hlt (by omega), fun D1 hD1 D2 hD2 => ⟨rfl, ?_⟩⟩
    rw [nI_clamp (by omega)] at hD1
    have e : D1.1 a 1 = nI n := by rw [hD1]; show xu D.1 (a + 1) n v a 1 = _; rw [xu_ne _ _ _ hne]; exact hr.1
    rw [e, nI_1, hD1] at hD2
    unfold rpush at h; rw [if_pos hlt] at h
    rw [hD2]; exact h
theorem cg_Row_fill {P : xD → Prop} {v : Int32} {k : Nat} (k0 : xk a = 2) (g : ∀ i, a ≤ i → i < a + 2 → gC G i) (hk : k ≤ xl (a + 1)) (h : P (fil (rsize D a k) (a + 1) v (xl (a + 1)))) : xCvg G (d + 2) m_Row_fill [.ref a, .int (nI k), .int v] D P := by
  refine xCvg_of y_Row_fill (Nat.le_of_ble_eq_true rfl) ?_
  have hc := xl_le (a + 1)
  refine sg_Row_fill_0 k0 g (fun r1 e1 r2 e2 D3 e3 => ?_)
  have f1 : r1 = nI k := by rw [e1]; exact if_neg (fun q => nI_nlt (a := xl (a + 1)) (b := k) hk (by omega) q)
  have f2 : r2 = nI k := by
    rw [e2, f1]
    by_cases q : k = 0
    · subst q; simp [nI]
    · rw [if_pos]
      have := nI_lt (a := 0) (b := k) (by omega) (by omega)
      exact this
  rw [f2] at e3
  rw [e3]
  exact cg_Arrays_fill (ck_arr k0) (fun i q1 q2 => g i (by omega) (by omega)) ⟨rfl, h⟩
theorem cg_push {P : xD → Prop} {v : Int32} (hr : rS D a n) (g : ∀ i, a ≤ i → i < a + 2 → gC G i) (hn : n < xl (a + 1)) (h : ∀ D', xOut a (a + 2) D D' → rS D' a (n + 1) → (∀ j, D'.1 (a + 1) j = if j = n then v else D.1 (a + 1) j) → P D') : xCvg G (d + 1) m_Row_push [.ref a, .int v] D P := by
  refine cg_Row_push hr g ?_
  have ep : rpush D a n v = (xu (xu D.1 (a + 1) n v) a 1 (nI (n + 1)), D.2) := by unfold rpush; rw [if_pos hn]
  rw [ep]
  refine h _ ⟨fun i q => by show xu _ _ _ _ i = _; rw [xu_ne _ _ _ (by omega), xu_ne _ _ _ (by omega)], rfl⟩ ⟨?_, by omega, hr.2.2⟩ (fun j => ?_)
  · show xu _ _ _ _ a 1 = _; rw [xu_self]; simp [upd]
  · show xu _ _ _ _ (a + 1) j = _; rw [xu_ne _ _ _ (by omega), xu_self]; rfl
theorem cg_fill {P : xD → Prop} {k : Nat} {v : Int32} (k0 : xk a = 2) (g : ∀ i, a ≤ i → i < a + 2 → gC G i) (hk : k ≤ xl (a + 1)) (h : ∀ D', xOut a (a + 2) D D' → rS D' a k → (∀ j, j < xl (a + 1) → D'.1 (a + 1) j = v) → P D') : xCvg G (d + 2) m_Row_fill [.ref a, .int (nI k), .int v] D P := by
  refine cg_Row_fill k0 g hk ?_
  refine h _ ((xOut_rsize D a k).trans ((xOut_fil _ (a + 1) _ v).mono (by omega) (by omega))) ((rS_rsize hk k0).out (xOut_fil _ (a + 1) _ v) (by omega)) (fun j hj => ?_)
  show (if a + 1 = a + 1 then fun k => if k < xl (a + 1) then v else _ else _ : Nat → Int32) j = _
  rw [if_pos rfl, if_pos hj]
end ROWG
section TSETG
variable {d : Nat} {G : xG} {D : xD} {t : Nat}
theorem cg_setOf_raw {P : xD → Prop} {p w : Nat} {v : Int32} (k0 : xk t = 4) (g : ∀ i, t ≤ i → i < t + 5 → gC G i) (h3 : rS D (t + 3) 42) (hp : p < 6) (hw : w < 7) (h : P (xu D.1 (t + 4) (7 * p + w) v, D.2)) : xCvg G (d + 2) m_Table_setOf [.ref t, .int (nI p), .int (nI w), .int v] D P := by
  refine xCvg_of y_Table_setOf (Nat.le_of_ble_eq_true rfl) (sg_Table_setOf_0 k0 g ?_)
  rw [ix7]
  refine cg_Row_set h3 (fun i q1 q2 => g i (by omega) (by omega)) ⟨rfl, ?_⟩
  rw [rset_in _ _ _ (show 7 * p + w < 42 by omega) (by omega)]
  exact h
theorem cg_Table_clear {P : xD → Prop} (k0 : xk t = 4) (g : ∀ i, t ≤ i → i < t + 5 → gC G i) (h : ∀ D', xOut (t + 1) (t + 5) D D' → tQ D' t tNew → P D') : xCvg G (d + 3) m_Table_clear [.ref t] D P := by
  refine xCvg_of y_Table_clear (Nat.le_of_ble_eq_true rfl) (sg_Table_clear_0 k0 g ?_)
  have l2 : xl (t + 1 + 1) = 6 := cl_4_0 k0
  have l4 : xl (t + 3 + 1) = 42 := cl_4_1 k0
  have k1 := ck_4_0 k0
  have k3 := ck_4_1 k0
  refine cg_Row_fill (k := 6) k1 (fun i q1 q2 => g i (by omega) (by omega)) (by omega) ?_
  have o1 : xOut (t + 1) (t + 3) D (fil (rsize D (t + 1) 6) (t + 1 + 1) 4 (xl (t + 1 + 1))) := ((xOut_rsize D (t + 1) 6).mono (by omega) (by omega)).trans ((xOut_fil _ (t + 1 + 1) _ 4).mono (by omega) (by omega))
  have v1 : ∀ j, j < 6 → (fil (rsize D (t + 1) 6) (t + 1 + 1) 4 (xl (t + 1 + 1))).1 (t + 2) j = nI 4 := fun j hj => by
    show (if t + 2 = t + 1 + 1 then fun k => if k < xl (t + 1 + 1) then (4 : Int32) else _ else _ : Nat → Int32) j = _
    rw [if_pos (by omega), if_pos (by omega)]; rfl
  have w1 : rS (fil (rsize D (t + 1) 6) (t + 1 + 1) 4 (xl (t + 1 + 1))) (t + 1) 6 := (rS_rsize (by omega) k1).out (xOut_fil _ (t + 1 + 1) _ 4) (by omega)
  generalize fil (rsize D (t + 1) 6) (t + 1 + 1) 4 (xl (t + 1 + 1)) = D1 at o1 v1 w1 ⊢
  refine cg_Row_set (i := nI 3) w1 (fun i q1 q2 => g i (by omega) (by omega)) ?_
  rw [rset_in _ _ _ (by omega) (by omega), show t + 1 + 1 = t + 2 by omega]
  have p2 := xOut_f D1 (t + 2) 3 1
  refine cg_Row_set (i := nI 4) (w1.out p2 (by omega)) (fun i q1 q2 => g i (by omega) (by omega)) ?_
  rw [rset_in _ _ _ (by omega) (by omega), show t + 1 + 1 = t + 2 by omega]
  have p3 := xOut_f (xu D1.1 (t + 2) 3 1, D1.2) (t + 2) 4 3
  refine cg_Row_set (i := nI 5) ((w1.out p2 (by omega)).out p3 (by omega)) (fun i q1 q2 => g i (by omega) (by omega)) ?_
  rw [rset_in _ _ _ (by omega) (by omega), show t + 1 + 1 = t + 2 by omega]
  have p4 := xOut_f (xu (xu D1.1 (t + 2) 3 1) (t + 2) 4 3, D1.2) (t + 2) 5 0
  have w4 := ((w1.out p2 (by omega)).out p3 (by omega)).out p4 (by omega)
  have o4 : xOut (t + 1) (t + 3) D (xu (xu (xu D1.1 (t + 2) 3 1) (t + 2) 4 3) (t + 2) 5 0, D1.2) := ((o1.trans (p2.mono (by omega) (by omega))).trans (p3.mono (by omega) (by omega))).trans (p4.mono (by omega) (by omega))
  have v4 : ∀ j, j < 6 → (xu (xu (xu D1.1 (t + 2) 3 1) (t + 2) 4 3) (t + 2) 5 0) (t + 2) j = if j = 5 then nI 0 else if j = 4 then nI 3 else if j = 3 then nI 1 else nI 4 := fun j hj => by
    rw [xu_self, xu_self, xu_self]
    unfold upd
    rw [v1 j hj]; rfl
  show xCvg G (d + 2) m_Row_fill _ (xu (xu (xu D1.1 (t + 2) 3 1) (t + 2) 4 3) (t + 2) 5 0, D1.2) _
  generalize xu (xu (xu D1.1 (t + 2) 3 1) (t + 2) 4 3) (t + 2) 5 0 = G4 at w4 o4 v4 ⊢
  refine cg_Row_fill (k := 42) k3 (fun i q1 q2 => g i (by omega) (by omega)) (by omega) ?_
  have o5 : xOut (t + 3) (t + 5) (G4, D1.2) (fil (rsize (G4, D1.2) (t + 3) 42) (t + 3 + 1) 0 (xl (t + 3 + 1))) := ((xOut_rsize (G4, D1.2) (t + 3) 42).mono (by omega) (by omega)).trans ((xOut_fil _ (t + 3 + 1) _ 0).mono (by omega) (by omega))
  have v5 : ∀ j, j < 42 → (fil (rsize (G4, D1.2) (t + 3) 42) (t + 3 + 1) 0 (xl (t + 3 + 1))).1 (t + 4) j = nI 0 := fun j hj => by
    show (if t + 4 = t + 3 + 1 then fun k => if k < xl (t + 3 + 1) then (0 : Int32) else _ else _ : Nat → Int32) j = _
    rw [if_pos (by omega), if_pos (by omega)]; rfl
  have w5 : rS (fil (rsize (G4, D1.2) (t + 3) 42) (t + 3 + 1) 0 (xl (t + 3 + 1))) (t + 3) 42 := (rS_rsize (by omega) k3).out (xOut_fil _ (t + 3 + 1) _ 0) (by omega)
  generalize fil (rsize (G4, D1.2) (t + 3) 42) (t + 3 + 1) 0 (xl (t + 3 + 1)) = D5 at o5 v5 w5 ⊢
  have key : ∀ m p, p + m = 6 → ∀ D', xOut (t + 4) (t + 5) D5 D' → (∀ j, j < 42 → D'.1 (t + 4) j = if j % 7 = 5 ∧ j < 7 * p then -1 else nI 0) →
      xPg G (d + 3) m_Table_clear 49 [(0, .ref t), (1, .int (nI p))] [] D' (fun r D' => r = none ∧ P D') := by
    intro m
    induction m with
    | zero =>
      intro p hp D' o hv
      have ep : p = 6 := by omega
      subst ep
      refine sg_Table_clear_49 k0 g ⟨fun _ => ⟨rfl, h D' ((o4.mono (by omega) (by omega)).trans ((o5.mono (by omega) (by omega)).trans (o.mono (by omega) (by omega)))) ⟨k0, (w4.out o5 (by omega)).out o (by omega), w5.out o (by omega), fun j hj => ?_, fun j hj => ?_⟩⟩, fun c => absurd (nI_le (a := 6) (b := 6) (by omega) (by omega)) c⟩
      · rw [o.1 _ (by omega), o5.1 _ (by omega)]
        show G4 (t + 2) j = _
        rw [v4 j hj]
        rcases (show j = 0 ∨ j = 1 ∨ j = 2 ∨ j = 3 ∨ j = 4 ∨ j = 5 by omega) with rfl | rfl | rfl | rfl | rfl | rfl <;> rfl
      · rw [hv j hj]
        unfold tNew
        rw [if_neg (show ¬ 6 + j < 3 by omega), if_neg (show ¬ 6 + j = 3 by omega), if_neg (show ¬ 6 + j = 4 by omega), if_neg (show ¬ 6 + j < 6 by omega), show 6 + j - 6 = j by omega]
        by_cases e : j % 7 = 5
        · rw [if_pos ⟨e, by omega⟩, if_pos e]
        · rw [if_neg (fun z => e z.1), if_neg e]
    | succ m ih =>
      intro p hp D' o hv
      refine sg_Table_clear_49 k0 g ⟨fun c => absurd c (nI_ge (b := 6) (by omega) (by omega)), fun _ => ?_⟩
      refine cg_setOf_raw (w := 5) k0 g (w5.out o (by omega)) (by omega) (by omega) ?_
      rw [nI_1]
      refine ih (p + 1) (by omega) _ (o.trans (xOut_f _ _ _ _)) (fun j hj => ?_)
      show xu D'.1 (t + 4) (7 * p + 5) (-1) (t + 4) j = _
      rw [xu_self]
      unfold upd
      by_cases e : j = 7 * p + 5
      · rw [if_pos e, if_pos ⟨by omega, by omega⟩]
      · rw [if_neg e, hv j hj]
        by_cases e2 : j % 7 = 5 ∧ j < 7 * p
        · rw [if_pos e2, if_pos ⟨e2.1, by omega⟩]
        · rw [if_neg e2, if_neg (by omega)]
  exact key 6 0 (by omega) D5 xOut.rfl' (fun j hj => by rw [v5 j hj, if_neg (by omega)])
end TSETG
