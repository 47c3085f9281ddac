/-! The walk over the whole world: 368 cells, every reference stands. Links, by class and pool place; what the methods are. -/
def xF : xG := (368, fun _ _ => true)
set_option maxRecDepth 20000 in
theorem xlt {a c : Nat} (h : xk a = c) (hc : c < 999) : a < xF.1 := by
  apply Nat.lt_of_not_le
  intro hl
  have h2 : xk a = 999 := by
    unfold xk
    rw [List.getD_eq_getElem?_getD, List.getElem?_eq_none (by show 368 ≤ a; exact hl)]
    rfl
  omega
theorem xcl100 {c : Nat} {r : vw_C} (h : xcl[c]? = some r) : c < 100 := by
  have := (List.getElem?_eq_some_iff.mp h).1
  have e : xcl.length = 14 := rfl
  omega
def xVf (y : xM) (n c : Nat) : Prop := xY y n ∧ xIn (.instanceMethod y.1) ∧ xIn (.selects y.1.cls y.1 y.1) ∧ ∃ r, xcl[c]? = some r ∧ r.1 = y.1.cls
def xSf (y : xM) (n : Nat) : Prop := xY y n ∧ xIn (.static y.1)
/-- a call over the whole world that answers a number of 32 bits; one of 64; nothing; a reference or null -/
def xCi (d : Nat) (y : xM) (As : List Value) (D : xD) (P : Int32 → xD → Prop) : Prop := xC d y As xF D xF (fun r D' => ∃ x, r = some (.int x) ∧ P x D')
def xCl (d : Nat) (y : xM) (As : List Value) (D : xD) (P : Int64 → xD → Prop) : Prop := xC d y As xF D xF (fun r D' => ∃ x, r = some (.long x) ∧ P x D')
def xCv (d : Nat) (y : xM) (As : List Value) (D : xD) (P : xD → Prop) : Prop := xC d y As xF D xF (fun r D' => r = none ∧ P D')
def xCq (d : Nat) (y : xM) (As : List Value) (D : xD) (P : Option Nat → xD → Prop) : Prop := xC d y As xF D xF (fun r D' => ∃ x : Option Nat, r = some (va_rf x) ∧ P x D')
/-- a walk over the whole world; its end by what the method answers -/
abbrev xPf (d : Nat) (m : xM) (pc : Nat) (L : List (Nat × Value)) (st : List Value) (D : xD) (Q : Option Value → xD → Prop) : Prop := xP d m pc L st xF D xF Q
section XF
variable {d : Nat} {m : xM} {pc : Nat} {L : List (Nat × Value)} {st stk : List Value} {D : xD} {Q : Option Value → xD → Prop}
theorem xP_sub {L1 : List (Nat × Value)} (ks : List Nat) (hl : lv_pick L ks = L1) (h : xPf d m pc L1 st D Q) : xPf d m pc L st D Q := by
  intro κ p l e R s mid args below meth c G0 C ls H locs h2 hP hS h0 h1
  refine h κ p l e R s mid args below meth c G0 C ls H locs ⟨h2.1, h2.2.1, fun q hq => ?_⟩ hP hS h0 h1
  obtain ⟨q1, hq1, rfl⟩ := List.mem_map.mp hq
  rw [← hl] at hq1
  obtain ⟨k, -, hk⟩ := List.mem_filterMap.mp hq1
  exact h2.2.2 _ (List.mem_map.mpr ⟨q1, List.mem_of_getElem? hk, rfl⟩)
theorem x_gI {c k i a : Nat} (hlk : xLf m.1.cls i c k) (hc : xk a = c) (hf : (xfk c)[k]? = some 0) (he : m.2.2.2.2.lookup pc = some (.getfield i, 3)) (kk : xPf d m (pc + 3) L (.int (D.1 a k) :: st) D Q) : xPf d m pc L (.ref a :: st) D Q := by
  have h100 : c < 100 := by obtain ⟨r, hr, -⟩ := hlk; exact xcl100 hr
  exact x_getI hlk hc h100 hf (xlt hc (by omega)) he kk
theorem x_gL {c k i a : Nat} (hlk : xLf m.1.cls i c k) (hc : xk a = c) (hf : (xfk c)[k]? = some 1) (he : m.2.2.2.2.lookup pc = some (.getfield i, 3)) (kk : xPf d m (pc + 3) L (.long (D.2 a k) :: st) D Q) : xPf d m pc L (.ref a :: st) D Q := by
  have h100 : c < 100 := by obtain ⟨r, hr, -⟩ := hlk; exact xcl100 hr
  exact x_getL hlk hc h100 hf (xlt hc (by omega)) he kk
theorem x_gR {c k i a δ : Nat} (hlk : xLf m.1.cls i c k) (hc : xk a = c) (hf : (xfk c)[k]? = some (δ + 2)) (he : m.2.2.2.2.lookup pc = some (.getfield i, 3)) (kk : xPf d m (pc + 3) L (.ref (a + δ) :: st) D Q) : xPf d m pc L (.ref a :: st) D Q := by
  have h100 : c < 100 := by obtain ⟨r, hr, -⟩ := hlk; exact xcl100 hr
  exact x_getR hlk hc h100 hf rfl (xlt hc (by omega)) he kk
theorem x_pI {c k i a : Nat} {x : Int32} (hlk : xLp m.1.cls i c k .int) (hnf : ∀ r, xcl[c]? = some r → (r.2.1 k).2.2.2 = false) (hc : xk a = c) (hf : (xfk c)[k]? = some 0) (he : m.2.2.2.2.lookup pc = some (.putfield i, 3)) (kk : xPf d m (pc + 3) L st (xu D.1 a k x, D.2) Q) : xPf d m pc L (.int x :: .ref a :: st) D Q := by
  have h100 : c < 100 := by obtain ⟨r, _, hr, -⟩ := hlk; exact xcl100 hr
  exact x_putI hlk (Or.inr hnf) hc h100 hf (xlt hc (by omega)) ⟨rfl, rfl⟩ he kk
theorem x_pZ {c k i a : Nat} {x : Int32} (hlk : xLp m.1.cls i c k .boolean) (hnf : ∀ r, xcl[c]? = some r → (r.2.1 k).2.2.2 = false) (hc : xk a = c) (hf : (xfk c)[k]? = some 0) (hx : x = 0 ∨ x = 1) (he : m.2.2.2.2.lookup pc = some (.putfield i, 3)) (kk : xPf d m (pc + 3) L st (xu D.1 a k x, D.2) Q) : xPf d m pc L (.int x :: .ref a :: st) D Q := by
  have h100 : c < 100 := by obtain ⟨r, _, hr, -⟩ := hlk; exact xcl100 hr
  exact x_putI hlk (Or.inr hnf) hc h100 hf (xlt hc (by omega)) (by rcases hx with rfl | rfl <;> exact ⟨rfl, rfl⟩) he kk
theorem x_pL {c k i a : Nat} {x : Int64} (hlk : xLp m.1.cls i c k .long) (hnf : ∀ r, xcl[c]? = some r → (r.2.1 k).2.2.2 = false) (hc : xk a = c) (hf : (xfk c)[k]? = some 1) (he : m.2.2.2.2.lookup pc = some (.putfield i, 3)) (kk : xPf d m (pc + 3) L st (D.1, xuL D.2 a k x) Q) : xPf d m pc L (.long x :: .ref a :: st) D Q := by
  have h100 : c < 100 := by obtain ⟨r, _, hr, -⟩ := hlk; exact xcl100 hr
  exact x_putL hlk (Or.inr hnf) hc h100 hf (xlt hc (by omega)) ⟨rfl, rfl⟩ he kk
theorem x_zr {x : Int32} (hr : m.2.2.2.1 = some .boolean) (hx : x = 0 ∨ x = 1) (he : m.2.2.2.2.lookup pc = some (.ireturn, 1)) (hQ : Q (some (.int x)) D) : xPf d m pc L [.int x] D Q :=
  x_zret hr (by rcases hx with rfl | rfl <;> rfl) he hQ
theorem x_tabK {k : Int32} {dflt lo hi : Int} {offs : Array Int} {len : Nat} {x : Int32} {off : Int} {tgt : Nat} (hx : x = k) (he : m.2.2.2.2.lookup pc = some (.tableswitch dflt lo hi offs, len)) (h2 : ¬ k.toInt < lo) (h3 : ¬ hi < k.toInt) (ho : offs[(k.toInt - lo).toNat]? = some off) (ht : (pc : Int) + off = (tgt : Int)) (kk : xPf d m tgt L st D Q) : xPf d m pc L (.int x :: st) D Q := by
  subst hx
  exact x_tableIn he h2 h3 ho ht kk
variable {y : xM} {n c b i : Nat} {As : List Value}
theorem x_svi {k : Nat} {P : Int32 → xD → Prop} (hk : k < 21) (hlk : xIn (.methodLink m.1.cls i y.1)) (hY : xY y n) (hYi : xIn (.instanceMethod y.1)) (hYs : xIn (.selects y.1.cls y.1 y.1)) (hcls : y.1.cls = "java/lang/String") (hn : As.length = n) (hst : stk = As.reverse ++ .ref (100000 + k) :: st) (hW : (st.map fun v => v.category).sum ≤ 8) (he : m.2.2.2.2.lookup pc = some (.invokevirtual i, 3)) (hC : xCi d y (.ref (100000 + k) :: As) D P)
    (kk : ∀ x D', P x D' → xPf (d + 1) m (pc + 3) L (.int x :: st) D' Q) : xPf (d + 1) m pc L stk D Q :=
  x_callVs hlk hY hYi hYs hcls hk hn hst hW he (Nat.le_refl _) (Nat.le_refl _) hC (fun r D' ⟨x, hx, hp⟩ => by subst hx; exact kk x D' hp)
theorem x_cont {Q1 : Option Value → xD → Prop} (hlk : xLm m.1.cls i y.1) (hv : xVf y n c) (hc : xk b = c) (hn : As.length = n) (hst : stk = As.reverse ++ .ref b :: st) (hW : (st.map fun v => v.category).sum ≤ 8) (he : m.2.2.2.2.lookup pc = some (.invokevirtual i, 3)) (hC : xC d y (.ref b :: As) xF D xF Q1)
    (kk : ∀ r D', Q1 r D' → xPf (d + 1) m (pc + 3) L (r.toList ++ st) D' Q) : xPf (d + 1) m pc L stk D Q := by
  obtain ⟨h1, h2, h3, r, h4, h5⟩ := hv
  exact x_callV hlk h1 h2 h3 hc (xcl100 h4) h4 h5 (xlt hc (by have := xcl100 h4; omega)) hn hst hW he (Nat.le_refl _) (Nat.le_refl _) hC kk
theorem x_vi {P : Int32 → xD → Prop} (hlk : xLm m.1.cls i y.1) (hv : xVf y n c) (hc : xk b = c) (hn : As.length = n) (hst : stk = As.reverse ++ .ref b :: st) (hW : (st.map fun v => v.category).sum ≤ 8) (he : m.2.2.2.2.lookup pc = some (.invokevirtual i, 3)) (hC : xCi d y (.ref b :: As) D P)
    (kk : ∀ x D', P x D' → xPf (d + 1) m (pc + 3) L (.int x :: st) D' Q) : xPf (d + 1) m pc L stk D Q :=
  x_cont hlk hv hc hn hst hW he hC (fun r D' ⟨x, hx, hp⟩ => by subst hx; exact kk x D' hp)
theorem x_vl {P : Int64 → xD → Prop} (hlk : xLm m.1.cls i y.1) (hv : xVf y n c) (hc : xk b = c) (hn : As.length = n) (hst : stk = As.reverse ++ .ref b :: st) (hW : (st.map fun v => v.category).sum ≤ 8) (he : m.2.2.2.2.lookup pc = some (.invokevirtual i, 3)) (hC : xCl d y (.ref b :: As) D P)
    (kk : ∀ x D', P x D' → xPf (d + 1) m (pc + 3) L (.long x :: st) D' Q) : xPf (d + 1) m pc L stk D Q :=
  x_cont hlk hv hc hn hst hW he hC (fun r D' ⟨x, hx, hp⟩ => by subst hx; exact kk x D' hp)
theorem x_vv {P : xD → Prop} (hlk : xLm m.1.cls i y.1) (hv : xVf y n c) (hc : xk b = c) (hn : As.length = n) (hst : stk = As.reverse ++ .ref b :: st) (hW : (st.map fun v => v.category).sum ≤ 8) (he : m.2.2.2.2.lookup pc = some (.invokevirtual i, 3)) (hC : xCv d y (.ref b :: As) D P)
    (kk : ∀ D', P D' → xPf (d + 1) m (pc + 3) L st D' Q) : xPf (d + 1) m pc L stk D Q :=
  x_cont hlk hv hc hn hst hW he hC (fun r D' ⟨hx, hp⟩ => by subst hx; exact kk D' hp)
theorem x_vq {P : Option Nat → xD → Prop} (hlk : xLm m.1.cls i y.1) (hv : xVf y n c) (hc : xk b = c) (hn : As.length = n) (hst : stk = As.reverse ++ .ref b :: st) (hW : (st.map fun v => v.category).sum ≤ 8) (he : m.2.2.2.2.lookup pc = some (.invokevirtual i, 3)) (hC : xCq d y (.ref b :: As) D P)
    (kn : ∀ D', P none D' → xPf (d + 1) m (pc + 3) L (.null :: st) D' Q) (kk : ∀ x D', P (some x) D' → xPf (d + 1) m (pc + 3) L (.ref x :: st) D' Q) : xPf (d + 1) m pc L stk D Q :=
  x_cont hlk hv hc hn hst hW he hC (fun r D' ⟨x, hx, hp⟩ => by
    subst hx
    cases x with
    | none => exact kn D' hp
    | some x => exact kk x D' hp)
theorem x_conts {Q1 : Option Value → xD → Prop} (hlk : xLm m.1.cls i y.1) (hv : xSf y n) (hn : As.length = n) (hst : stk = As.reverse ++ st) (hW : (st.map fun v => v.category).sum ≤ 8) (he : m.2.2.2.2.lookup pc = some (.invokestatic i, 3)) (hC : xC d y As xF D xF Q1)
    (kk : ∀ r D', Q1 r D' → xPf (d + 1) m (pc + 3) L (r.toList ++ st) D' Q) : xPf (d + 1) m pc L stk D Q :=
  x_callS hlk hv.1 hv.2 hn hst hW he (Nat.le_refl _) (Nat.le_refl _) hC kk
theorem x_si {P : Int32 → xD → Prop} (hlk : xLm m.1.cls i y.1) (hv : xSf y n) (hn : As.length = n) (hst : stk = As.reverse ++ st) (hW : (st.map fun v => v.category).sum ≤ 8) (he : m.2.2.2.2.lookup pc = some (.invokestatic i, 3)) (hC : xCi d y As D P)
    (kk : ∀ x D', P x D' → xPf (d + 1) m (pc + 3) L (.int x :: st) D' Q) : xPf (d + 1) m pc L stk D Q :=
  x_conts hlk hv hn hst hW he hC (fun r D' ⟨x, hx, hp⟩ => by subst hx; exact kk x D' hp)
theorem x_sl {P : Int64 → xD → Prop} (hlk : xLm m.1.cls i y.1) (hv : xSf y n) (hn : As.length = n) (hst : stk = As.reverse ++ st) (hW : (st.map fun v => v.category).sum ≤ 8) (he : m.2.2.2.2.lookup pc = some (.invokestatic i, 3)) (hC : xCl d y As D P)
    (kk : ∀ x D', P x D' → xPf (d + 1) m (pc + 3) L (.long x :: st) D' Q) : xPf (d + 1) m pc L stk D Q :=
  x_conts hlk hv hn hst hW he hC (fun r D' ⟨x, hx, hp⟩ => by subst hx; exact kk x D' hp)
theorem x_sv {P : xD → Prop} (hlk : xLm m.1.cls i y.1) (hv : xSf y n) (hn : As.length = n) (hst : stk = As.reverse ++ st) (hW : (st.map fun v => v.category).sum ≤ 8) (he : m.2.2.2.2.lookup pc = some (.invokestatic i, 3)) (hC : xCv d y As D P)
    (kk : ∀ D', P D' → xPf (d + 1) m (pc + 3) L st D' Q) : xPf (d + 1) m pc L stk D Q :=
  x_conts hlk hv hn hst hW he hC (fun r D' ⟨hx, hp⟩ => by subst hx; exact kk D' hp)
theorem x_cp {a0 a : Nat} {sp dp n : Int32} (hlk : xIn (.methodLink m.1.cls i arraycopyName)) (hc0 : xk a0 = 100) (hc : xk a = 100) (h1 : ¬ sp < 0) (h2 : ¬ dp < 0) (h3 : ¬ n < 0) (h4 : sp.toNatClampNeg + n.toNatClampNeg ≤ xl a0) (h5 : dp.toNatClampNeg + n.toNatClampNeg ≤ xl a) (hW : (st.map fun v => v.category).sum ≤ 8) (he : m.2.2.2.2.lookup pc = some (.invokestatic i, 3))
    (kk : xPf (d + 1) m (pc + 3) L st (fun i => if i = a then va_cpy (D.1 a0) (D.1 a) sp.toNatClampNeg dp.toNatClampNeg n.toNatClampNeg else D.1 i, D.2) Q) : xPf (d + 1) m pc L (.int n :: .int dp :: .ref a :: .int sp :: .ref a0 :: st) D Q :=
  x_copy hlk wd_531 wd_530 wd_17 hc0 hc (xlt hc0 (by decide)) (xlt hc (by decide)) (Nat.le_add_left _ _) h1 h2 h3 h4 h5 hW he rfl kk
theorem x_mx {x y : Int32} (hlk : xIn (.methodLink m.1.cls i Lib.Math.max.name)) (hW : (st.map fun v => v.category).sum ≤ 8) (he : m.2.2.2.2.lookup pc = some (.invokestatic i, 3)) (kk : xPf (d + 1) m (pc + 3) L (.int (if x < y then y else x) :: st) D Q) : xPf (d + 1) m pc L (.int y :: .int x :: st) D Q :=
  x_mmax hlk wd_78 wd_6 (by rw [xMathMaxCode]; exact wd_79) (Nat.le_add_left _ _) hW he kk
theorem x_mn {x y : Int32} (hlk : xIn (.methodLink m.1.cls i Lib.Math.min.name)) (hW : (st.map fun v => v.category).sum ≤ 8) (he : m.2.2.2.2.lookup pc = some (.invokestatic i, 3)) (kk : xPf (d + 1) m (pc + 3) L (.int (if y < x then y else x) :: st) D Q) : xPf (d + 1) m pc L (.int y :: .int x :: st) D Q :=
  x_mmin hlk wd_75 wd_6 (by rw [xMathMinCode]; exact wd_76) (Nat.le_add_left _ _) hW he kk
end XF
/-- entries -/
theorem xCi_of {d : Nat} {y : xM} {n : Nat} {As : List Value} {D : xD} {P : Int32 → xD → Prop} (hY : xY y n) (hlen : (lg_sl As).length ≤ y.2.2.1) (k : xPf d y 0 (lv_args 0 As) [] D (fun r D' => ∃ x, r = some (.int x) ∧ P x D')) : xCi d y As D P := xC_of hY hlen k
theorem xCl_of {d : Nat} {y : xM} {n : Nat} {As : List Value} {D : xD} {P : Int64 → xD → Prop} (hY : xY y n) (hlen : (lg_sl As).length ≤ y.2.2.1) (k : xPf d y 0 (lv_args 0 As) [] D (fun r D' => ∃ x, r = some (.long x) ∧ P x D')) : xCl d y As D P := xC_of hY hlen k
theorem xCv_of {d : Nat} {y : xM} {n : Nat} {As : List Value} {D : xD} {P : xD → Prop} (hY : xY y n) (hlen : (lg_sl As).length ≤ y.2.2.1) (k : xPf d y 0 (lv_args 0 As) [] D (fun r D' => r = none ∧ P D')) : xCv d y As D P := xC_of hY hlen k
theorem xCq_of {d : Nat} {y : xM} {n : Nat} {As : List Value} {D : xD} {P : Option Nat → xD → Prop} (hY : xY y n) (hlen : (lg_sl As).length ≤ y.2.2.1) (k : xPf d y 0 (lv_args 0 As) [] D (fun r D' => ∃ x : Option Nat, r = some (va_rf x) ∧ P x D')) : xCq d y As D P := xC_of hY hlen k
theorem xC.mono {d : Nat} {y : xM} {As : List Value} {G E : xG} {D : xD} {Q Q' : Option Value → xD → Prop} (h : xC d y As G D E Q) (hQ : ∀ r D', Q r D' → Q' r D') : xC d y As G D E Q' := by
  intro κ l hG hE p e ha hc hk s m args below hf happ hpre hK
  obtain ⟨n, o, h1, h2, h3, ⟨⟨r, D', e1, q, w⟩, hF⟩, h5⟩ := h κ l hG hE p e ha hc hk s m args below hf happ hpre hK
  exact ⟨n, o, h1, h2, h3, ⟨⟨⟨r, D', e1, hQ r D' q, w⟩, hF⟩, h5⟩⟩
theorem xCi.mono {d : Nat} {y : xM} {As : List Value} {D : xD} {P P' : Int32 → xD → Prop} (h : xCi d y As D P) (hP : ∀ x D', P x D' → P' x D') : xCi d y As D P' := xC.mono h (fun _ _ ⟨x, hx, hp⟩ => ⟨x, hx, hP _ _ hp⟩)
theorem xCl.mono {d : Nat} {y : xM} {As : List Value} {D : xD} {P P' : Int64 → xD → Prop} (h : xCl d y As D P) (hP : ∀ x D', P x D' → P' x D') : xCl d y As D P' := xC.mono h (fun _ _ ⟨x, hx, hp⟩ => ⟨x, hx, hP _ _ hp⟩)
theorem xCv.mono {d : Nat} {y : xM} {As : List Value} {D : xD} {P P' : xD → Prop} (h : xCv d y As D P) (hP : ∀ D', P D' → P' D') : xCv d y As D P' := xC.mono h (fun _ _ ⟨hx, hp⟩ => ⟨hx, hP _ hp⟩)
theorem xCq.mono {d : Nat} {y : xM} {As : List Value} {D : xD} {P P' : Option Nat → xD → Prop} (h : xCq d y As D P) (hP : ∀ x D', P x D' → P' x D') : xCq d y As D P' := xC.mono h (fun _ _ ⟨x, hx, hp⟩ => ⟨x, hx, hP _ _ hp⟩)
def xtk : List (List (Nat × Nat)) := [[(1, 1), (45, 104), (178, 2), (180, 6), (206, 7), (222, 9), (254, 10), (304, 11), (317, 12)], [(1, 2), (3, 2), (5, 105)], [(1, 100)], [(1, 4), (6, 2), (8, 2), (10, 2), (12, 2), (14, 5)], [(1, 2), (3, 2)], [(1, 2), (3, 2)], [(1, 2), (3, 3), (22, 2), (24, 2)], [(1, 8), (12, 2), (14, 2)], [(1, 2), (3, 2), (5, 2), (7, 2), (9, 2)], [(1, 8), (12, 2), (14, 4), (19, 8), (30, 2)], [(1, 9), (33, 2), (35, 2), (37, 2), (39, 2), (41, 2), (43, 2), (45, 4)], [(1, 2), (3, 2), (5, 2), (7, 2), (9, 2), (11, 2)], [(1, 4), (6, 2)], [(1, 102), (2, 100), (3, 100), (4, 100), (5, 100), (6, 100), (7, 100), (8, 100), (9, 100), (10, 100), (11, 100), (12, 100), (13, 100), (14, 100), (15, 100), (16, 100), (17, 100), (18, 100), (19, 100), (20, 100), (21, 100), (22, 100), (23, 100), (24, 100), (25, 100), (26, 100), (27, 100), (28, 100), (29, 100), (30, 100), (31, 100), (32, 100), (33, 100), (34, 100), (35, 100), (36, 100), (37, 101), (38, 100), (39, 100), (40, 100), (41, 100), (42, 103)]]
def xtl : List (List (Nat × Nat)) := [[(45, 3), (179, 3)], [(2, 600), (4, 5), (5, 2)], [], [(7, 52), (9, 120), (11, 4), (13, 48)], [(2, 6), (4, 42)], [(2, 10), (4, 10)], [(2, 600), (23, 600), (25, 600)], [(13, 6), (15, 6)], [(2, 78), (4, 6), (6, 364), (8, 7), (10, 7)], [(13, 6), (31, 6)], [(34, 52), (36, 20), (38, 20), (40, 6), (42, 6), (44, 6)], [(2, 13), (4, 13), (6, 4), (8, 125), (10, 625), (12, 7350)], [(7, 1215)], [(1, 2400), (2, 4), (3, 4), (4, 4), (5, 20), (6, 384), (7, 424), (8, 968), (9, 432), (10, 168), (11, 121), (12, 4), (13, 6), (14, 6), (15, 6), (16, 6), (17, 6), (18, 6), (19, 6), (20, 52), (21, 78), (22, 6), (23, 448), (24, 7), (25, 7), (26, 6), (27, 6), (28, 6), (29, 6), (30, 6), (31, 6), (32, 6), (33, 13), (34, 13), (35, 35), (36, 625), (37, 21875), (38, 4), (39, 5), (40, 6), (41, 6), (42, 3)]]
def xchk (a : Nat) : Bool := ((xtk.getD (xk a) []).all (fun q => xk (a + q.1) == q.2)) && ((xtl.getD (xk a) []).all (fun q => xl (a + q.1) == q.2))
set_option maxRecDepth 20000 in
theorem xchk_all : ∀ a, a < 368 → xchk a = true := by decide +kernel
theorem xck {a c δ t : Nat} (h : xk a = c) (hc : c < 999) (hm : (δ, t) ∈ xtk.getD c []) : xk (a + δ) = t := by
  have h1 := xchk_all a (xlt h hc)
  unfold xchk at h1
  rw [h, Bool.and_eq_true] at h1
  have := List.all_eq_true.mp h1.1 _ hm
  simpa using this
theorem xcl_ {a c δ t : Nat} (h : xk a = c) (hc : c < 999) (hm : (δ, t) ∈ xtl.getD c []) : xl (a + δ) = t := by
  have h1 := xchk_all a (xlt h hc)
  unfold xchk at h1
  rw [h, Bool.and_eq_true] at h1
  have := List.all_eq_true.mp h1.2 _ hm
  simpa using this
theorem ck_0_0 {a : Nat} (h : xk a = 0) : xk (a + 1) = 1 := xck h (by decide) (List.mem_of_getElem? (i := 0) rfl)
theorem ck_0_1 {a : Nat} (h : xk a = 0) : xk (a + 45) = 104 := xck h (by decide) (List.mem_of_getElem? (i := 1) rfl)
theorem ck_0_2 {a : Nat} (h : xk a = 0) : xk (a + 178) = 2 := xck h (by decide) (List.mem_of_getElem? (i := 2) rfl)
theorem ck_0_3 {a : Nat} (h : xk a = 0) : xk (a + 180) = 6 := xck h (by decide) (List.mem_of_getElem? (i := 3) rfl)
theorem ck_0_4 {a : Nat} (h : xk a = 0) : xk (a + 206) = 7 := xck h (by decide) (List.mem_of_getElem? (i := 4) rfl)
theorem ck_0_5 {a : Nat} (h : xk a = 0) : xk (a + 222) = 9 := xck h (by decide) (List.mem_of_getElem? (i := 5) rfl)
theorem ck_0_6 {a : Nat} (h : xk a = 0) : xk (a + 254) = 10 := xck h (by decide) (List.mem_of_getElem? (i := 6) rfl)
theorem ck_0_7 {a : Nat} (h : xk a = 0) : xk (a + 304) = 11 := xck h (by decide) (List.mem_of_getElem? (i := 7) rfl)
theorem ck_0_8 {a : Nat} (h : xk a = 0) : xk (a + 317) = 12 := xck h (by decide) (List.mem_of_getElem? (i := 8) rfl)
theorem ck_1_0 {a : Nat} (h : xk a = 1) : xk (a + 1) = 2 := xck h (by decide) (List.mem_of_getElem? (i := 0) rfl)
theorem ck_1_1 {a : Nat} (h : xk a = 1) : xk (a + 3) = 2 := xck h (by decide) (List.mem_of_getElem? (i := 1) rfl)
theorem ck_1_2 {a : Nat} (h : xk a = 1) : xk (a + 5) = 105 := xck h (by decide) (List.mem_of_getElem? (i := 2) rfl)
theorem ck_2_0 {a : Nat} (h : xk a = 2) : xk (a + 1) = 100 := xck h (by decide) (List.mem_of_getElem? (i := 0) rfl)
theorem ck_3_0 {a : Nat} (h : xk a = 3) : xk (a + 1) = 4 := xck h (by decide) (List.mem_of_getElem? (i := 0) rfl)
theorem ck_3_1 {a : Nat} (h : xk a = 3) : xk (a + 6) = 2 := xck h (by decide) (List.mem_of_getElem? (i := 1) rfl)
theorem ck_3_2 {a : Nat} (h : xk a = 3) : xk (a + 8) = 2 := xck h (by decide) (List.mem_of_getElem? (i := 2) rfl)
theorem ck_3_3 {a : Nat} (h : xk a = 3) : xk (a + 10) = 2 := xck h (by decide) (List.mem_of_getElem? (i := 3) rfl)
theorem ck_3_4 {a : Nat} (h : xk a = 3) : xk (a + 12) = 2 := xck h (by decide) (List.mem_of_getElem? (i := 4) rfl)
theorem ck_3_5 {a : Nat} (h : xk a = 3) : xk (a + 14) = 5 := xck h (by decide) (List.mem_of_getElem? (i := 5) rfl)
theorem ck_4_0 {a : Nat} (h : xk a = 4) : xk (a + 1) = 2 := xck h (by decide) (List.mem_of_getElem? (i := 0) rfl)
theorem ck_4_1 {a : Nat} (h : xk a = 4) : xk (a + 3) = 2 := xck h (by decide) (List.mem_of_getElem? (i := 1) rfl)
theorem ck_5_0 {a : Nat} (h : xk a = 5) : xk (a + 1) = 2 := xck h (by decide) (List.mem_of_getElem? (i := 0) rfl)
theorem ck_5_1 {a : Nat} (h : xk a = 5) : xk (a + 3) = 2 := xck h (by decide) (List.mem_of_getElem? (i := 1) rfl)
theorem ck_6_0 {a : Nat} (h : xk a = 6) : xk (a + 1) = 2 := xck h (by decide) (List.mem_of_getElem? (i := 0) rfl)
theorem ck_6_1 {a : Nat} (h : xk a = 6) : xk (a + 3) = 3 := xck h (by decide) (List.mem_of_getElem? (i := 1) rfl)
theorem ck_6_2 {a : Nat} (h : xk a = 6) : xk (a + 22) = 2 := xck h (by decide) (List.mem_of_getElem? (i := 2) rfl)
theorem ck_6_3 {a : Nat} (h : xk a = 6) : xk (a + 24) = 2 := xck h (by decide) (List.mem_of_getElem? (i := 3) rfl)
theorem ck_7_0 {a : Nat} (h : xk a = 7) : xk (a + 1) = 8 := xck h (by decide) (List.mem_of_getElem? (i := 0) rfl)
theorem ck_7_1 {a : Nat} (h : xk a = 7) : xk (a + 12) = 2 := xck h (by decide) (List.mem_of_getElem? (i := 1) rfl)
theorem ck_7_2 {a : Nat} (h : xk a = 7) : xk (a + 14) = 2 := xck h (by decide) (List.mem_of_getElem? (i := 2) rfl)
theorem ck_8_0 {a : Nat} (h : xk a = 8) : xk (a + 1) = 2 := xck h (by decide) (List.mem_of_getElem? (i := 0) rfl)
theorem ck_8_1 {a : Nat} (h : xk a = 8) : xk (a + 3) = 2 := xck h (by decide) (List.mem_of_getElem? (i := 1) rfl)
theorem ck_8_2 {a : Nat} (h : xk a = 8) : xk (a + 5) = 2 := xck h (by decide) (List.mem_of_getElem? (i := 2) rfl)
theorem ck_8_3 {a : Nat} (h : xk a = 8) : xk (a + 7) = 2 := xck h (by decide) (List.mem_of_getElem? (i := 3) rfl)
theorem ck_8_4 {a : Nat} (h : xk a = 8) : xk (a + 9) = 2 := xck h (by decide) (List.mem_of_getElem? (i := 4) rfl)
theorem ck_9_0 {a : Nat} (h : xk a = 9) : xk (a + 1) = 8 := xck h (by decide) (List.mem_of_getElem? (i := 0) rfl)
theorem ck_9_1 {a : Nat} (h : xk a = 9) : xk (a + 12) = 2 := xck h (by decide) (List.mem_of_getElem? (i := 1) rfl)
theorem ck_9_2 {a : Nat} (h : xk a = 9) : xk (a + 14) = 4 := xck h (by decide) (List.mem_of_getElem? (i := 2) rfl)
theorem ck_9_3 {a : Nat} (h : xk a = 9) : xk (a + 19) = 8 := xck h (by decide) (List.mem_of_getElem? (i := 3) rfl)
theorem ck_9_4 {a : Nat} (h : xk a = 9) : xk (a + 30) = 2 := xck h (by decide) (List.mem_of_getElem? (i := 4) rfl)
theorem ck_10_0 {a : Nat} (h : xk a = 10) : xk (a + 1) = 9 := xck h (by decide) (List.mem_of_getElem? (i := 0) rfl)
theorem ck_10_1 {a : Nat} (h : xk a = 10) : xk (a + 33) = 2 := xck h (by decide) (List.mem_of_getElem? (i := 1) rfl)
theorem ck_10_2 {a : Nat} (h : xk a = 10) : xk (a + 35) = 2 := xck h (by decide) (List.mem_of_getElem? (i := 2) rfl)
theorem ck_10_3 {a : Nat} (h : xk a = 10) : xk (a + 37) = 2 := xck h (by decide) (List.mem_of_getElem? (i := 3) rfl)
theorem ck_10_4 {a : Nat} (h : xk a = 10) : xk (a + 39) = 2 := xck h (by decide) (List.mem_of_getElem? (i := 4) rfl)
theorem ck_10_5 {a : Nat} (h : xk a = 10) : xk (a + 41) = 2 := xck h (by decide) (List.mem_of_getElem? (i := 5) rfl)
theorem ck_10_6 {a : Nat} (h : xk a = 10) : xk (a + 43) = 2 := xck h (by decide) (List.mem_of_getElem? (i := 6) rfl)
theorem ck_10_7 {a : Nat} (h : xk a = 10) : xk (a + 45) = 4 := xck h (by decide) (List.mem_of_getElem? (i := 7) rfl)
theorem ck_11_0 {a : Nat} (h : xk a = 11) : xk (a + 1) = 2 := xck h (by decide) (List.mem_of_getElem? (i := 0) rfl)
theorem ck_11_1 {a : Nat} (h : xk a = 11) : xk (a + 3) = 2 := xck h (by decide) (List.mem_of_getElem? (i := 1) rfl)
theorem ck_11_2 {a : Nat} (h : xk a = 11) : xk (a + 5) = 2 := xck h (by decide) (List.mem_of_getElem? (i := 2) rfl)
theorem ck_11_3 {a : Nat} (h : xk a = 11) : xk (a + 7) = 2 := xck h (by decide) (List.mem_of_getElem? (i := 3) rfl)
theorem ck_11_4 {a : Nat} (h : xk a = 11) : xk (a + 9) = 2 := xck h (by decide) (List.mem_of_getElem? (i := 4) rfl)
theorem ck_11_5 {a : Nat} (h : xk a = 11) : xk (a + 11) = 2 := xck h (by decide) (List.mem_of_getElem? (i := 5) rfl)
theorem ck_12_0 {a : Nat} (h : xk a = 12) : xk (a + 1) = 4 := xck h (by decide) (List.mem_of_getElem? (i := 0) rfl)
theorem ck_12_1 {a : Nat} (h : xk a = 12) : xk (a + 6) = 2 := xck h (by decide) (List.mem_of_getElem? (i := 1) rfl)
theorem ck_13_1 {a : Nat} (h : xk a = 13) : xk (a + 1) = 102 := xck h (by decide) (List.mem_of_getElem? (i := 0) rfl)
theorem ck_13_2 {a : Nat} (h : xk a = 13) : xk (a + 2) = 100 := xck h (by decide) (List.mem_of_getElem? (i := 1) rfl)
theorem ck_13_3 {a : Nat} (h : xk a = 13) : xk (a + 3) = 100 := xck h (by decide) (List.mem_of_getElem? (i := 2) rfl)
theorem ck_13_4 {a : Nat} (h : xk a = 13) : xk (a + 4) = 100 := xck h (by decide) (List.mem_of_getElem? (i := 3) rfl)
theorem ck_13_5 {a : Nat} (h : xk a = 13) : xk (a + 5) = 100 := xck h (by decide) (List.mem_of_getElem? (i := 4) rfl)
theorem ck_13_6 {a : Nat} (h : xk a = 13) : xk (a + 6) = 100 := xck h (by decide) (List.mem_of_getElem? (i := 5) rfl)
theorem ck_13_7 {a : Nat} (h : xk a = 13) : xk (a + 7) = 100 := xck h (by decide) (List.mem_of_getElem? (i := 6) rfl)
theorem ck_13_8 {a : Nat} (h : xk a = 13) : xk (a + 8) = 100 := xck h (by decide) (List.mem_of_getElem? (i := 7) rfl)
theorem ck_13_9 {a : Nat} (h : xk a = 13) : xk (a + 9) = 100 := xck h (by decide) (List.mem_of_getElem? (i := 8) rfl)
theorem ck_13_10 {a : Nat} (h : xk a = 13) : xk (a + 10) = 100 := xck h (by decide) (List.mem_of_getElem? (i := 9) rfl)
theorem ck_13_20 {a : Nat} (h : xk a = 13) : xk (a + 11) = 100 := xck h (by decide) (List.mem_of_getElem? (i := 10) rfl)
theorem ck_13_21 {a : Nat} (h : xk a = 13) : xk (a + 12) = 100 := xck h (by decide) (List.mem_of_getElem? (i := 11) rfl)
theorem ck_13_32 {a : Nat} (h : xk a = 13) : xk (a + 13) = 100 := xck h (by decide) (List.mem_of_getElem? (i := 12) rfl)
theorem ck_13_33 {a : Nat} (h : xk a = 13) : xk (a + 14) = 100 := xck h (by decide) (List.mem_of_getElem? (i := 13) rfl)
theorem ck_13_34 {a : Nat} (h : xk a = 13) : xk (a + 15) = 100 := xck h (by decide) (List.mem_of_getElem? (i := 14) rfl)
theorem ck_13_35 {a : Nat} (h : xk a = 13) : xk (a + 16) = 100 := xck h (by decide) (List.mem_of_getElem? (i := 15) rfl)
theorem ck_13_36 {a : Nat} (h : xk a = 13) : xk (a + 17) = 100 := xck h (by decide) (List.mem_of_getElem? (i := 16) rfl)
theorem ck_13_37 {a : Nat} (h : xk a = 13) : xk (a + 18) = 100 := xck h (by decide) (List.mem_of_getElem? (i := 17) rfl)
theorem ck_13_38 {a : Nat} (h : xk a = 13) : xk (a + 19) = 100 := xck h (by decide) (List.mem_of_getElem? (i := 18) rfl)
theorem ck_13_39 {a : Nat} (h : xk a = 13) : xk (a + 20) = 100 := xck h (by decide) (List.mem_of_getElem? (i := 19) rfl)
theorem ck_13_41 {a : Nat} (h : xk a = 13) : xk (a + 21) = 100 := xck h (by decide) (List.mem_of_getElem? (i := 20) rfl)
theorem ck_13_42 {a : Nat} (h : xk a = 13) : xk (a + 22) = 100 := xck h (by decide) (List.mem_of_getElem? (i := 21) rfl)
theorem ck_13_43 {a : Nat} (h : xk a = 13) : xk (a + 23) = 100 := xck h (by decide) (List.mem_of_getElem? (i := 22) rfl)
theorem ck_13_44 {a : Nat} (h : xk a = 13) : xk (a + 24) = 100 := xck h (by decide) (List.mem_of_getElem? (i := 23) rfl)
theorem ck_13_45 {a : Nat} (h : xk a = 13) : xk (a + 25) = 100 := xck h (by decide) (List.mem_of_getElem? (i := 24) rfl)
theorem ck_13_51 {a : Nat} (h : xk a = 13) : xk (a + 26) = 100 := xck h (by decide) (List.mem_of_getElem? (i := 25) rfl)
theorem ck_13_52 {a : Nat} (h : xk a = 13) : xk (a + 27) = 100 := xck h (by decide) (List.mem_of_getElem? (i := 26) rfl)
theorem ck_13_57 {a : Nat} (h : xk a = 13) : xk (a + 28) = 100 := xck h (by decide) (List.mem_of_getElem? (i := 27) rfl)
theorem ck_13_58 {a : Nat} (h : xk a = 13) : xk (a + 29) = 100 := xck h (by decide) (List.mem_of_getElem? (i := 28) rfl)
theorem ck_13_60 {a : Nat} (h : xk a = 13) : xk (a + 30) = 100 := xck h (by decide) (List.mem_of_getElem? (i := 29) rfl)
theorem ck_13_63 {a : Nat} (h : xk a = 13) : xk (a + 31) = 100 := xck h (by decide) (List.mem_of_getElem? (i := 30) rfl)
theorem ck_13_64 {a : Nat} (h : xk a = 13) : xk (a + 32) = 100 := xck h (by decide) (List.mem_of_getElem? (i := 31) rfl)
theorem ck_13_66 {a : Nat} (h : xk a = 13) : xk (a + 33) = 100 := xck h (by decide) (List.mem_of_getElem? (i := 32) rfl)
theorem ck_13_67 {a : Nat} (h : xk a = 13) : xk (a + 34) = 100 := xck h (by decide) (List.mem_of_getElem? (i := 33) rfl)
theorem ck_13_69 {a : Nat} (h : xk a = 13) : xk (a + 35) = 100 := xck h (by decide) (List.mem_of_getElem? (i := 34) rfl)
theorem ck_13_70 {a : Nat} (h : xk a = 13) : xk (a + 36) = 100 := xck h (by decide) (List.mem_of_getElem? (i := 35) rfl)
theorem ck_13_71 {a : Nat} (h : xk a = 13) : xk (a + 37) = 101 := xck h (by decide) (List.mem_of_getElem? (i := 36) rfl)
theorem ck_13_72 {a : Nat} (h : xk a = 13) : xk (a + 38) = 100 := xck h (by decide) (List.mem_of_getElem? (i := 37) rfl)
theorem ck_13_75 {a : Nat} (h : xk a = 13) : xk (a + 39) = 100 := xck h (by decide) (List.mem_of_getElem? (i := 38) rfl)
theorem ck_13_77 {a : Nat} (h : xk a = 13) : xk (a + 40) = 100 := xck h (by decide) (List.mem_of_getElem? (i := 39) rfl)
theorem ck_13_78 {a : Nat} (h : xk a = 13) : xk (a + 41) = 100 := xck h (by decide) (List.mem_of_getElem? (i := 40) rfl)
theorem ck_13_80 {a : Nat} (h : xk a = 13) : xk (a + 42) = 103 := xck h (by decide) (List.mem_of_getElem? (i := 41) rfl)
theorem cl_0_1 {a : Nat} (h : xk a = 0) : xl (a + 45) = 3 := xcl_ h (by decide) (List.mem_of_getElem? (i := 0) rfl)
theorem cl_0_2 {a : Nat} (h : xk a = 0) : xl (a + 179) = 3 := xcl_ h (by decide) (List.mem_of_getElem? (i := 1) rfl)
theorem cl_1_0 {a : Nat} (h : xk a = 1) : xl (a + 2) = 600 := xcl_ h (by decide) (List.mem_of_getElem? (i := 0) rfl)
theorem cl_1_1 {a : Nat} (h : xk a = 1) : xl (a + 4) = 5 := xcl_ h (by decide) (List.mem_of_getElem? (i := 1) rfl)
theorem cl_1_2 {a : Nat} (h : xk a = 1) : xl (a + 5) = 2 := xcl_ h (by decide) (List.mem_of_getElem? (i := 2) rfl)
theorem cl_3_1 {a : Nat} (h : xk a = 3) : xl (a + 7) = 52 := xcl_ h (by decide) (List.mem_of_getElem? (i := 0) rfl)
theorem cl_3_2 {a : Nat} (h : xk a = 3) : xl (a + 9) = 120 := xcl_ h (by decide) (List.mem_of_getElem? (i := 1) rfl)
theorem cl_3_3 {a : Nat} (h : xk a = 3) : xl (a + 11) = 4 := xcl_ h (by decide) (List.mem_of_getElem? (i := 2) rfl)
theorem cl_3_4 {a : Nat} (h : xk a = 3) : xl (a + 13) = 48 := xcl_ h (by decide) (List.mem_of_getElem? (i := 3) rfl)
theorem cl_4_0 {a : Nat} (h : xk a = 4) : xl (a + 2) = 6 := xcl_ h (by decide) (List.mem_of_getElem? (i := 0) rfl)
theorem cl_4_1 {a : Nat} (h : xk a = 4) : xl (a + 4) = 42 := xcl_ h (by decide) (List.mem_of_getElem? (i := 1) rfl)
theorem cl_5_0 {a : Nat} (h : xk a = 5) : xl (a + 2) = 10 := xcl_ h (by decide) (List.mem_of_getElem? (i := 0) rfl)
theorem cl_5_1 {a : Nat} (h : xk a = 5) : xl (a + 4) = 10 := xcl_ h (by decide) (List.mem_of_getElem? (i := 1) rfl)
theorem cl_6_0 {a : Nat} (h : xk a = 6) : xl (a + 2) = 600 := xcl_ h (by decide) (List.mem_of_getElem? (i := 0) rfl)
theorem cl_6_2 {a : Nat} (h : xk a = 6) : xl (a + 23) = 600 := xcl_ h (by decide) (List.mem_of_getElem? (i := 1) rfl)
theorem cl_6_3 {a : Nat} (h : xk a = 6) : xl (a + 25) = 600 := xcl_ h (by decide) (List.mem_of_getElem? (i := 2) rfl)
theorem cl_7_1 {a : Nat} (h : xk a = 7) : xl (a + 13) = 6 := xcl_ h (by decide) (List.mem_of_getElem? (i := 0) rfl)
theorem cl_7_2 {a : Nat} (h : xk a = 7) : xl (a + 15) = 6 := xcl_ h (by decide) (List.mem_of_getElem? (i := 1) rfl)
theorem cl_8_0 {a : Nat} (h : xk a = 8) : xl (a + 2) = 78 := xcl_ h (by decide) (List.mem_of_getElem? (i := 0) rfl)
theorem cl_8_1 {a : Nat} (h : xk a = 8) : xl (a + 4) = 6 := xcl_ h (by decide) (List.mem_of_getElem? (i := 1) rfl)
theorem cl_8_2 {a : Nat} (h : xk a = 8) : xl (a + 6) = 364 := xcl_ h (by decide) (List.mem_of_getElem? (i := 2) rfl)
theorem cl_8_3 {a : Nat} (h : xk a = 8) : xl (a + 8) = 7 := xcl_ h (by decide) (List.mem_of_getElem? (i := 3) rfl)
theorem cl_8_4 {a : Nat} (h : xk a = 8) : xl (a + 10) = 7 := xcl_ h (by decide) (List.mem_of_getElem? (i := 4) rfl)
theorem cl_9_1 {a : Nat} (h : xk a = 9) : xl (a + 13) = 6 := xcl_ h (by decide) (List.mem_of_getElem? (i := 0) rfl)
theorem cl_9_4 {a : Nat} (h : xk a = 9) : xl (a + 31) = 6 := xcl_ h (by decide) (List.mem_of_getElem? (i := 1) rfl)
theorem cl_10_1 {a : Nat} (h : xk a = 10) : xl (a + 34) = 52 := xcl_ h (by decide) (List.mem_of_getElem? (i := 0) rfl)
theorem cl_10_2 {a : Nat} (h : xk a = 10) : xl (a + 36) = 20 := xcl_ h (by decide) (List.mem_of_getElem? (i := 1) rfl)
theorem cl_10_3 {a : Nat} (h : xk a = 10) : xl (a + 38) = 20 := xcl_ h (by decide) (List.mem_of_getElem? (i := 2) rfl)
theorem cl_10_4 {a : Nat} (h : xk a = 10) : xl (a + 40) = 6 := xcl_ h (by decide) (List.mem_of_getElem? (i := 3) rfl)
theorem cl_10_5 {a : Nat} (h : xk a = 10) : xl (a + 42) = 6 := xcl_ h (by decide) (List.mem_of_getElem? (i := 4) rfl)
theorem cl_10_6 {a : Nat} (h : xk a = 10) : xl (a + 44) = 6 := xcl_ h (by decide) (List.mem_of_getElem? (i := 5) rfl)
theorem cl_11_0 {a : Nat} (h : xk a = 11) : xl (a + 2) = 13 := xcl_ h (by decide) (List.mem_of_getElem? (i := 0) rfl)
theorem cl_11_1 {a : Nat} (h : xk a = 11) : xl (a + 4) = 13 := xcl_ h (by decide) (List.mem_of_getElem? (i := 1) rfl)
theorem cl_11_2 {a : Nat} (h : xk a = 11) : xl (a + 6) = 4 := xcl_ h (by decide) (List.mem_of_getElem? (i := 2) rfl)
theorem cl_11_3 {a : Nat} (h : xk a = 11) : xl (a + 8) = 125 := xcl_ h (by decide) (List.mem_of_getElem? (i := 3) rfl)
theorem cl_11_4 {a : Nat} (h : xk a = 11) : xl (a + 10) = 625 := xcl_ h (by decide) (List.mem_of_getElem? (i := 4) rfl)
theorem cl_11_5 {a : Nat} (h : xk a = 11) : xl (a + 12) = 7350 := xcl_ h (by decide) (List.mem_of_getElem? (i := 5) rfl)
theorem cl_12_1 {a : Nat} (h : xk a = 12) : xl (a + 7) = 1215 := xcl_ h (by decide) (List.mem_of_getElem? (i := 0) rfl)
theorem cl_13_1 {a : Nat} (h : xk a = 13) : xl (a + 1) = 2400 := xcl_ h (by decide) (List.mem_of_getElem? (i := 0) rfl)
theorem cl_13_2 {a : Nat} (h : xk a = 13) : xl (a + 2) = 4 := xcl_ h (by decide) (List.mem_of_getElem? (i := 1) rfl)
theorem cl_13_3 {a : Nat} (h : xk a = 13) : xl (a + 3) = 4 := xcl_ h (by decide) (List.mem_of_getElem? (i := 2) rfl)
theorem cl_13_4 {a : Nat} (h : xk a = 13) : xl (a + 4) = 4 := xcl_ h (by decide) (List.mem_of_getElem? (i := 3) rfl)
theorem cl_13_5 {a : Nat} (h : xk a = 13) : xl (a + 5) = 20 := xcl_ h (by decide) (List.mem_of_getElem? (i := 4) rfl)
theorem cl_13_6 {a : Nat} (h : xk a = 13) : xl (a + 6) = 384 := xcl_ h (by decide) (List.mem_of_getElem? (i := 5) rfl)
theorem cl_13_7 {a : Nat} (h : xk a = 13) : xl (a + 7) = 424 := xcl_ h (by decide) (List.mem_of_getElem? (i := 6) rfl)
theorem cl_13_8 {a : Nat} (h : xk a = 13) : xl (a + 8) = 968 := xcl_ h (by decide) (List.mem_of_getElem? (i := 7) rfl)
theorem cl_13_9 {a : Nat} (h : xk a = 13) : xl (a + 9) = 432 := xcl_ h (by decide) (List.mem_of_getElem? (i := 8) rfl)
theorem cl_13_10 {a : Nat} (h : xk a = 13) : xl (a + 10) = 168 := xcl_ h (by decide) (List.mem_of_getElem? (i := 9) rfl)
theorem cl_13_20 {a : Nat} (h : xk a = 13) : xl (a + 11) = 121 := xcl_ h (by decide) (List.mem_of_getElem? (i := 10) rfl)
theorem cl_13_21 {a : Nat} (h : xk a = 13) : xl (a + 12) = 4 := xcl_ h (by decide) (List.mem_of_getElem? (i := 11) rfl)
theorem cl_13_32 {a : Nat} (h : xk a = 13) : xl (a + 13) = 6 := xcl_ h (by decide) (List.mem_of_getElem? (i := 12) rfl)
theorem cl_13_33 {a : Nat} (h : xk a = 13) : xl (a + 14) = 6 := xcl_ h (by decide) (List.mem_of_getElem? (i := 13) rfl)
theorem cl_13_34 {a : Nat} (h : xk a = 13) : xl (a + 15) = 6 := xcl_ h (by decide) (List.mem_of_getElem? (i := 14) rfl)
theorem cl_13_35 {a : Nat} (h : xk a = 13) : xl (a + 16) = 6 := xcl_ h (by decide) (List.mem_of_getElem? (i := 15) rfl)
theorem cl_13_36 {a : Nat} (h : xk a = 13) : xl (a + 17) = 6 := xcl_ h (by decide) (List.mem_of_getElem? (i := 16) rfl)
theorem cl_13_37 {a : Nat} (h : xk a = 13) : xl (a + 18) = 6 := xcl_ h (by decide) (List.mem_of_getElem? (i := 17) rfl)
theorem cl_13_38 {a : Nat} (h : xk a = 13) : xl (a + 19) = 6 := xcl_ h (by decide) (List.mem_of_getElem? (i := 18) rfl)
theorem cl_13_39 {a : Nat} (h : xk a = 13) : xl (a + 20) = 52 := xcl_ h (by decide) (List.mem_of_getElem? (i := 19) rfl)
theorem cl_13_41 {a : Nat} (h : xk a = 13) : xl (a + 21) = 78 := xcl_ h (by decide) (List.mem_of_getElem? (i := 20) rfl)
theorem cl_13_42 {a : Nat} (h : xk a = 13) : xl (a + 22) = 6 := xcl_ h (by decide) (List.mem_of_getElem? (i := 21) rfl)
theorem cl_13_43 {a : Nat} (h : xk a = 13) : xl (a + 23) = 448 := xcl_ h (by decide) (List.mem_of_getElem? (i := 22) rfl)
theorem cl_13_44 {a : Nat} (h : xk a = 13) : xl (a + 24) = 7 := xcl_ h (by decide) (List.mem_of_getElem? (i := 23) rfl)
theorem cl_13_45 {a : Nat} (h : xk a = 13) : xl (a + 25) = 7 := xcl_ h (by decide) (List.mem_of_getElem? (i := 24) rfl)
theorem cl_13_51 {a : Nat} (h : xk a = 13) : xl (a + 26) = 6 := xcl_ h (by decide) (List.mem_of_getElem? (i := 25) rfl)
theorem cl_13_52 {a : Nat} (h : xk a = 13) : xl (a + 27) = 6 := xcl_ h (by decide) (List.mem_of_getElem? (i := 26) rfl)
theorem cl_13_57 {a : Nat} (h : xk a = 13) : xl (a + 28) = 6 := xcl_ h (by decide) (List.mem_of_getElem? (i := 27) rfl)
theorem cl_13_58 {a : Nat} (h : xk a = 13) : xl (a + 29) = 6 := xcl_ h (by decide) (List.mem_of_getElem? (i := 28) rfl)
theorem cl_13_60 {a : Nat} (h : xk a = 13) : xl (a + 30) = 6 := xcl_ h (by decide) (List.mem_of_getElem? (i := 29) rfl)
theorem cl_13_63 {a : Nat} (h : xk a = 13) : xl (a + 31) = 6 := xcl_ h (by decide) (List.mem_of_getElem? (i := 30) rfl)
theorem cl_13_64 {a : Nat} (h : xk a = 13) : xl (a + 32) = 6 := xcl_ h (by decide) (List.mem_of_getElem? (i := 31) rfl)
theorem cl_13_66 {a : Nat} (h : xk a = 13) : xl (a + 33) = 13 := xcl_ h (by decide) (List.mem_of_getElem? (i := 32) rfl)
theorem cl_13_67 {a : Nat} (h : xk a = 13) : xl (a + 34) = 13 := xcl_ h (by decide) (List.mem_of_getElem? (i := 33) rfl)
theorem cl_13_69 {a : Nat} (h : xk a = 13) : xl (a + 35) = 35 := xcl_ h (by decide) (List.mem_of_getElem? (i := 34) rfl)
theorem cl_13_70 {a : Nat} (h : xk a = 13) : xl (a + 36) = 625 := xcl_ h (by decide) (List.mem_of_getElem? (i := 35) rfl)
theorem cl_13_71 {a : Nat} (h : xk a = 13) : xl (a + 37) = 21875 := xcl_ h (by decide) (List.mem_of_getElem? (i := 36) rfl)
theorem cl_13_72 {a : Nat} (h : xk a = 13) : xl (a + 38) = 4 := xcl_ h (by decide) (List.mem_of_getElem? (i := 37) rfl)
theorem cl_13_75 {a : Nat} (h : xk a = 13) : xl (a + 39) = 5 := xcl_ h (by decide) (List.mem_of_getElem? (i := 38) rfl)
theorem cl_13_77 {a : Nat} (h : xk a = 13) : xl (a + 40) = 6 := xcl_ h (by decide) (List.mem_of_getElem? (i := 39) rfl)
theorem cl_13_78 {a : Nat} (h : xk a = 13) : xl (a + 41) = 6 := xcl_ h (by decide) (List.mem_of_getElem? (i := 40) rfl)
theorem cl_13_80 {a : Nat} (h : xk a = 13) : xl (a + 42) = 3 := xcl_ h (by decide) (List.mem_of_getElem? (i := 41) rfl)
theorem lf_S_10 : xLf "SpoonShort" 10 0 0 := ⟨(xN_0, xF_0, 9), rfl, by decide, xHin_0, Or.inl wd_452⟩
theorem lp_S_10 : xLp "SpoonShort" 10 0 0 (.object "SpoonShort$Told") := ⟨(xN_0, xF_0, 9), xY_0, rfl, by decide, xHin_0, xYok_0, xNm_0, by decide +kernel, Or.inr ⟨rfl, rfl, wd_452⟩⟩
theorem lf_S_16 : xLf "SpoonShort" 16 0 1 := ⟨(xN_0, xF_0, 9), rfl, by decide, xHin_0, Or.inl wd_453⟩
theorem lp_S_16 : xLp "SpoonShort" 16 0 1 (.array (.object "SpoonShort$Told")) := ⟨(xN_0, xF_0, 9), xY_0, rfl, by decide, xHin_0, xYok_0, xNm_0, by decide +kernel, Or.inr ⟨rfl, rfl, wd_453⟩⟩
theorem lf_S_25 : xLf "SpoonShort" 25 0 2 := ⟨(xN_0, xF_0, 9), rfl, by decide, xHin_0, Or.inl wd_454⟩
theorem lp_S_25 : xLp "SpoonShort" 25 0 2 (.object "SpoonShort$Row") := ⟨(xN_0, xF_0, 9), xY_0, rfl, by decide, xHin_0, xYok_0, xNm_0, by decide +kernel, Or.inr ⟨rfl, rfl, wd_454⟩⟩
theorem lf_S_32 : xLf "SpoonShort" 32 0 3 := ⟨(xN_0, xF_0, 9), rfl, by decide, xHin_0, Or.inl wd_455⟩
theorem lp_S_32 : xLp "SpoonShort" 32 0 3 (.object "SpoonShort$Reader") := ⟨(xN_0, xF_0, 9), xY_0, rfl, by decide, xHin_0, xYok_0, xNm_0, by decide +kernel, Or.inr ⟨rfl, rfl, wd_455⟩⟩
theorem lf_S_39 : xLf "SpoonShort" 39 0 4 := ⟨(xN_0, xF_0, 9), rfl, by decide, xHin_0, Or.inl wd_456⟩
theorem lp_S_39 : xLp "SpoonShort" 39 0 4 (.object "SpoonShort$Deeds") := ⟨(xN_0, xF_0, 9), xY_0, rfl, by decide, xHin_0, xYok_0, xNm_0, by decide +kernel, Or.inr ⟨rfl, rfl, wd_456⟩⟩
theorem lf_S_46 : xLf "SpoonShort" 46 0 5 := ⟨(xN_0, xF_0, 9), rfl, by decide, xHin_0, Or.inl wd_457⟩
theorem lp_S_46 : xLp "SpoonShort" 46 0 5 (.object "SpoonShort$Rounds") := ⟨(xN_0, xF_0, 9), xY_0, rfl, by decide, xHin_0, xYok_0, xNm_0, by decide +kernel, Or.inr ⟨rfl, rfl, wd_457⟩⟩
theorem lf_S_53 : xLf "SpoonShort" 53 0 6 := ⟨(xN_0, xF_0, 9), rfl, by decide, xHin_0, Or.inl wd_458⟩
theorem lp_S_53 : xLp "SpoonShort" 53 0 6 (.object "SpoonShort$Evenings") := ⟨(xN_0, xF_0, 9), xY_0, rfl, by decide, xHin_0, xYok_0, xNm_0, by decide +kernel, Or.inr ⟨rfl, rfl, wd_458⟩⟩
theorem lf_S_60 : xLf "SpoonShort" 60 0 7 := ⟨(xN_0, xF_0, 9), rfl, by decide, xHin_0, Or.inl wd_459⟩
theorem lp_S_60 : xLp "SpoonShort" 60 0 7 (.object "SpoonShort$Odds") := ⟨(xN_0, xF_0, 9), xY_0, rfl, by decide, xHin_0, xYok_0, xNm_0, by decide +kernel, Or.inr ⟨rfl, rfl, wd_459⟩⟩
theorem lf_S_67 : xLf "SpoonShort" 67 0 8 := ⟨(xN_0, xF_0, 9), rfl, by decide, xHin_0, Or.inl wd_460⟩
theorem lp_S_67 : xLp "SpoonShort" 67 0 8 (.object "SpoonShort$Looks") := ⟨(xN_0, xF_0, 9), xY_0, rfl, by decide, xHin_0, xYok_0, xNm_0, by decide +kernel, Or.inr ⟨rfl, rfl, wd_460⟩⟩
theorem lf_S_75 : xLf "SpoonShort" 75 1 0 := ⟨(xN_1, xF_1, 5), rfl, by decide, xHin_1, Or.inr ⟨"SpoonShort", wd_150⟩⟩
theorem lf_S_95 : xLf "SpoonShort" 95 1 3 := ⟨(xN_1, xF_1, 5), rfl, by decide, xHin_1, Or.inr ⟨"SpoonShort", wd_153⟩⟩
theorem lp_S_95 : xLp "SpoonShort" 95 1 3 .int := ⟨(xN_1, xF_1, 5), xY_1, rfl, by decide, xHin_1, xYok_1, xNm_1, by decide +kernel, Or.inl ⟨rfl, Or.inr ⟨"SpoonShort", wd_153⟩⟩⟩
theorem nf_1_3 : ∀ r, xcl[1]? = some r → (r.2.1 3).2.2.2 = false := fun r h => by cases h; rfl
theorem lf_S_99 : xLf "SpoonShort" 99 1 4 := ⟨(xN_1, xF_1, 5), rfl, by decide, xHin_1, Or.inr ⟨"SpoonShort", wd_156⟩⟩
theorem lp_S_99 : xLp "SpoonShort" 99 1 4 .int := ⟨(xN_1, xF_1, 5), xY_1, rfl, by decide, xHin_1, xYok_1, xNm_1, by decide +kernel, Or.inl ⟨rfl, Or.inr ⟨"SpoonShort", wd_156⟩⟩⟩
theorem nf_1_4 : ∀ r, xcl[1]? = some r → (r.2.1 4).2.2.2 = false := fun r h => by cases h; rfl
theorem lf_S_109 : xLf "SpoonShort" 109 6 9 := ⟨(xN_6, xF_6, 13), rfl, by decide, xHin_6, Or.inr ⟨"SpoonShort", wd_192⟩⟩
theorem lf_S_110 : xLf "SpoonShort" 110 6 10 := ⟨(xN_6, xF_6, 13), rfl, by decide, xHin_6, Or.inr ⟨"SpoonShort", wd_194⟩⟩
theorem lf_S_111 : xLf "SpoonShort" 111 6 1 := ⟨(xN_6, xF_6, 13), rfl, by decide, xHin_6, Or.inr ⟨"SpoonShort", wd_183⟩⟩
theorem lf_S_164 : xLf "SpoonShort" 164 7 0 := ⟨(xN_7, xF_7, 8), rfl, by decide, xHin_7, Or.inr ⟨"SpoonShort", wd_273⟩⟩
theorem lf_S_193 : xLf "SpoonShort" 193 9 0 := ⟨(xN_9, xF_9, 8), rfl, by decide, xHin_9, Or.inr ⟨"SpoonShort", wd_311⟩⟩
theorem lf_S_237 : xLf "SpoonShort" 237 3 3 := ⟨(xN_3, xF_3, 6), rfl, by decide, xHin_3, Or.inr ⟨"SpoonShort", wd_127⟩⟩
theorem lf_S_242 : xLf "SpoonShort" 242 3 4 := ⟨(xN_3, xF_3, 6), rfl, by decide, xHin_3, Or.inr ⟨"SpoonShort", wd_131⟩⟩
theorem lf_S_257 : xLf "SpoonShort" 257 11 6 := ⟨(xN_11, xF_11, 9), rfl, by decide, xHin_11, Or.inr ⟨"SpoonShort", wd_409⟩⟩
theorem lf_S_277 : xLf "SpoonShort" 277 11 8 := ⟨(xN_11, xF_11, 9), rfl, by decide, xHin_11, Or.inr ⟨"SpoonShort", wd_413⟩⟩
theorem lf_S_280 : xLf "SpoonShort" 280 11 7 := ⟨(xN_11, xF_11, 9), rfl, by decide, xHin_11, Or.inr ⟨"SpoonShort", wd_411⟩⟩
theorem lf_S_357 : xLf "SpoonShort" 357 3 0 := ⟨(xN_3, xF_3, 6), rfl, by decide, xHin_3, Or.inr ⟨"SpoonShort", wd_117⟩⟩
theorem lf_S_361 : xLf "SpoonShort" 361 3 1 := ⟨(xN_3, xF_3, 6), rfl, by decide, xHin_3, Or.inr ⟨"SpoonShort", wd_120⟩⟩
theorem lf_S_364 : xLf "SpoonShort" 364 3 2 := ⟨(xN_3, xF_3, 6), rfl, by decide, xHin_3, Or.inr ⟨"SpoonShort", wd_123⟩⟩
theorem lf_S_366 : xLf "SpoonShort" 366 3 5 := ⟨(xN_3, xF_3, 6), rfl, by decide, xHin_3, Or.inr ⟨"SpoonShort", wd_134⟩⟩
theorem lf_Deal_14 : xLf "SpoonShort$Deal" 14 8 0 := ⟨(xN_8, xF_8, 10), rfl, by decide, xHin_8, Or.inl wd_239⟩
theorem lp_Deal_14 : xLp "SpoonShort$Deal" 14 8 0 (.object "SpoonShort$Row") := ⟨(xN_8, xF_8, 10), xY_8, rfl, by decide, xHin_8, xYok_8, xNm_8, by decide +kernel, Or.inr ⟨rfl, rfl, wd_239⟩⟩
theorem lf_Deal_20 : xLf "SpoonShort$Deal" 20 8 1 := ⟨(xN_8, xF_8, 10), rfl, by decide, xHin_8, Or.inl wd_240⟩
theorem lp_Deal_20 : xLp "SpoonShort$Deal" 20 8 1 (.object "SpoonShort$Row") := ⟨(xN_8, xF_8, 10), xY_8, rfl, by decide, xHin_8, xYok_8, xNm_8, by decide +kernel, Or.inr ⟨rfl, rfl, wd_240⟩⟩
theorem lf_Deal_23 : xLf "SpoonShort$Deal" 23 8 2 := ⟨(xN_8, xF_8, 10), rfl, by decide, xHin_8, Or.inl wd_241⟩
theorem lp_Deal_23 : xLp "SpoonShort$Deal" 23 8 2 (.object "SpoonShort$Row") := ⟨(xN_8, xF_8, 10), xY_8, rfl, by decide, xHin_8, xYok_8, xNm_8, by decide +kernel, Or.inr ⟨rfl, rfl, wd_241⟩⟩
theorem lf_Deal_26 : xLf "SpoonShort$Deal" 26 8 3 := ⟨(xN_8, xF_8, 10), rfl, by decide, xHin_8, Or.inl wd_242⟩
theorem lp_Deal_26 : xLp "SpoonShort$Deal" 26 8 3 (.object "SpoonShort$Row") := ⟨(xN_8, xF_8, 10), xY_8, rfl, by decide, xHin_8, xYok_8, xNm_8, by decide +kernel, Or.inr ⟨rfl, rfl, wd_242⟩⟩
theorem lf_Deal_29 : xLf "SpoonShort$Deal" 29 8 4 := ⟨(xN_8, xF_8, 10), rfl, by decide, xHin_8, Or.inl wd_243⟩
theorem lp_Deal_29 : xLp "SpoonShort$Deal" 29 8 4 (.object "SpoonShort$Row") := ⟨(xN_8, xF_8, 10), xY_8, rfl, by decide, xHin_8, xYok_8, xNm_8, by decide +kernel, Or.inr ⟨rfl, rfl, wd_243⟩⟩
theorem lf_Deal_42 : xLf "SpoonShort$Deal" 42 8 5 := ⟨(xN_8, xF_8, 10), rfl, by decide, xHin_8, Or.inl wd_244⟩
theorem lp_Deal_42 : xLp "SpoonShort$Deal" 42 8 5 .int := ⟨(xN_8, xF_8, 10), xY_8, rfl, by decide, xHin_8, xYok_8, xNm_8, by decide +kernel, Or.inl ⟨rfl, Or.inl wd_244⟩⟩
theorem nf_8_5 : ∀ r, xcl[8]? = some r → (r.2.1 5).2.2.2 = false := fun r h => by cases h; rfl
theorem lf_Deal_48 : xLf "SpoonShort$Deal" 48 8 6 := ⟨(xN_8, xF_8, 10), rfl, by decide, xHin_8, Or.inl wd_245⟩
theorem lp_Deal_48 : xLp "SpoonShort$Deal" 48 8 6 .int := ⟨(xN_8, xF_8, 10), xY_8, rfl, by decide, xHin_8, xYok_8, xNm_8, by decide +kernel, Or.inl ⟨rfl, Or.inl wd_245⟩⟩
theorem nf_8_6 : ∀ r, xcl[8]? = some r → (r.2.1 6).2.2.2 = false := fun r h => by cases h; rfl
theorem lf_Deal_53 : xLf "SpoonShort$Deal" 53 8 7 := ⟨(xN_8, xF_8, 10), rfl, by decide, xHin_8, Or.inl wd_246⟩
theorem lp_Deal_53 : xLp "SpoonShort$Deal" 53 8 7 .int := ⟨(xN_8, xF_8, 10), xY_8, rfl, by decide, xHin_8, xYok_8, xNm_8, by decide +kernel, Or.inl ⟨rfl, Or.inl wd_246⟩⟩
theorem nf_8_7 : ∀ r, xcl[8]? = some r → (r.2.1 7).2.2.2 = false := fun r h => by cases h; rfl
theorem lf_Deal_55 : xLf "SpoonShort$Deal" 55 8 8 := ⟨(xN_8, xF_8, 10), rfl, by decide, xHin_8, Or.inl wd_247⟩
theorem lp_Deal_55 : xLp "SpoonShort$Deal" 55 8 8 .int := ⟨(xN_8, xF_8, 10), xY_8, rfl, by decide, xHin_8, xYok_8, xNm_8, by decide +kernel, Or.inl ⟨rfl, Or.inl wd_247⟩⟩
theorem nf_8_8 : ∀ r, xcl[8]? = some r → (r.2.1 8).2.2.2 = false := fun r h => by cases h; rfl
theorem lf_Deal_58 : xLf "SpoonShort$Deal" 58 8 9 := ⟨(xN_8, xF_8, 10), rfl, by decide, xHin_8, Or.inl wd_248⟩
theorem lp_Deal_58 : xLp "SpoonShort$Deal" 58 8 9 .int := ⟨(xN_8, xF_8, 10), xY_8, rfl, by decide, xHin_8, xYok_8, xNm_8, by decide +kernel, Or.inl ⟨rfl, Or.inl wd_248⟩⟩
theorem nf_8_9 : ∀ r, xcl[8]? = some r → (r.2.1 9).2.2.2 = false := fun r h => by cases h; rfl
theorem lf_Deeds_12 : xLf "SpoonShort$Deeds" 12 7 0 := ⟨(xN_7, xF_7, 8), rfl, by decide, xHin_7, Or.inl wd_272⟩
theorem lp_Deeds_12 : xLp "SpoonShort$Deeds" 12 7 0 (.object "SpoonShort$Deal") := ⟨(xN_7, xF_7, 8), xY_7, rfl, by decide, xHin_7, xYok_7, xNm_7, by decide +kernel, Or.inr ⟨rfl, rfl, wd_272⟩⟩
theorem lf_Deeds_23 : xLf "SpoonShort$Deeds" 23 7 1 := ⟨(xN_7, xF_7, 8), rfl, by decide, xHin_7, Or.inl wd_274⟩
theorem lp_Deeds_23 : xLp "SpoonShort$Deeds" 23 7 1 (.object "SpoonShort$Row") := ⟨(xN_7, xF_7, 8), xY_7, rfl, by decide, xHin_7, xYok_7, xNm_7, by decide +kernel, Or.inr ⟨rfl, rfl, wd_274⟩⟩
theorem lf_Deeds_27 : xLf "SpoonShort$Deeds" 27 7 2 := ⟨(xN_7, xF_7, 8), rfl, by decide, xHin_7, Or.inl wd_275⟩
theorem lp_Deeds_27 : xLp "SpoonShort$Deeds" 27 7 2 (.object "SpoonShort$Row") := ⟨(xN_7, xF_7, 8), xY_7, rfl, by decide, xHin_7, xYok_7, xNm_7, by decide +kernel, Or.inr ⟨rfl, rfl, wd_275⟩⟩
theorem lf_Deeds_36 : xLf "SpoonShort$Deeds" 36 7 3 := ⟨(xN_7, xF_7, 8), rfl, by decide, xHin_7, Or.inl wd_276⟩
theorem lp_Deeds_36 : xLp "SpoonShort$Deeds" 36 7 3 .int := ⟨(xN_7, xF_7, 8), xY_7, rfl, by decide, xHin_7, xYok_7, xNm_7, by decide +kernel, Or.inl ⟨rfl, Or.inl wd_276⟩⟩
theorem nf_7_3 : ∀ r, xcl[7]? = some r → (r.2.1 3).2.2.2 = false := fun r h => by cases h; rfl
theorem lf_Deeds_42 : xLf "SpoonShort$Deeds" 42 7 4 := ⟨(xN_7, xF_7, 8), rfl, by decide, xHin_7, Or.inl wd_277⟩
theorem lp_Deeds_42 : xLp "SpoonShort$Deeds" 42 7 4 .int := ⟨(xN_7, xF_7, 8), xY_7, rfl, by decide, xHin_7, xYok_7, xNm_7, by decide +kernel, Or.inl ⟨rfl, Or.inl wd_277⟩⟩
theorem nf_7_4 : ∀ r, xcl[7]? = some r → (r.2.1 4).2.2.2 = false := fun r h => by cases h; rfl
theorem lf_Deeds_55 : xLf "SpoonShort$Deeds" 55 7 5 := ⟨(xN_7, xF_7, 8), rfl, by decide, xHin_7, Or.inl wd_278⟩
theorem lp_Deeds_55 : xLp "SpoonShort$Deeds" 55 7 5 .int := ⟨(xN_7, xF_7, 8), xY_7, rfl, by decide, xHin_7, xYok_7, xNm_7, by decide +kernel, Or.inl ⟨rfl, Or.inl wd_278⟩⟩
theorem nf_7_5 : ∀ r, xcl[7]? = some r → (r.2.1 5).2.2.2 = false := fun r h => by cases h; rfl
theorem lf_Deeds_58 : xLf "SpoonShort$Deeds" 58 7 6 := ⟨(xN_7, xF_7, 8), rfl, by decide, xHin_7, Or.inl wd_279⟩
theorem lp_Deeds_58 : xLp "SpoonShort$Deeds" 58 7 6 .int := ⟨(xN_7, xF_7, 8), xY_7, rfl, by decide, xHin_7, xYok_7, xNm_7, by decide +kernel, Or.inl ⟨rfl, Or.inl wd_279⟩⟩
theorem nf_7_6 : ∀ r, xcl[7]? = some r → (r.2.1 6).2.2.2 = false := fun r h => by cases h; rfl
theorem lf_Deeds_61 : xLf "SpoonShort$Deeds" 61 7 7 := ⟨(xN_7, xF_7, 8), rfl, by decide, xHin_7, Or.inl wd_280⟩
theorem lp_Deeds_61 : xLp "SpoonShort$Deeds" 61 7 7 .int := ⟨(xN_7, xF_7, 8), xY_7, rfl, by decide, xHin_7, xYok_7, xNm_7, by decide +kernel, Or.inl ⟨rfl, Or.inl wd_280⟩⟩
theorem nf_7_7 : ∀ r, xcl[7]? = some r → (r.2.1 7).2.2.2 = false := fun r h => by cases h; rfl
theorem lf_Evenings_12 : xLf "SpoonShort$Evenings" 12 10 0 := ⟨(xN_10, xF_10, 12), rfl, by decide, xHin_10, Or.inl wd_350⟩
theorem lp_Evenings_12 : xLp "SpoonShort$Evenings" 12 10 0 (.object "SpoonShort$Rounds") := ⟨(xN_10, xF_10, 12), xY_10, rfl, by decide, xHin_10, xYok_10, xNm_10, by decide +kernel, Or.inr ⟨rfl, rfl, wd_350⟩⟩
theorem lf_Evenings_23 : xLf "SpoonShort$Evenings" 23 10 1 := ⟨(xN_10, xF_10, 12), rfl, by decide, xHin_10, Or.inl wd_351⟩
theorem lp_Evenings_23 : xLp "SpoonShort$Evenings" 23 10 1 (.object "SpoonShort$Row") := ⟨(xN_10, xF_10, 12), xY_10, rfl, by decide, xHin_10, xYok_10, xNm_10, by decide +kernel, Or.inr ⟨rfl, rfl, wd_351⟩⟩
theorem lf_Evenings_27 : xLf "SpoonShort$Evenings" 27 10 2 := ⟨(xN_10, xF_10, 12), rfl, by decide, xHin_10, Or.inl wd_352⟩
theorem lp_Evenings_27 : xLp "SpoonShort$Evenings" 27 10 2 (.object "SpoonShort$Row") := ⟨(xN_10, xF_10, 12), xY_10, rfl, by decide, xHin_10, xYok_10, xNm_10, by decide +kernel, Or.inr ⟨rfl, rfl, wd_352⟩⟩
theorem lf_Evenings_30 : xLf "SpoonShort$Evenings" 30 10 3 := ⟨(xN_10, xF_10, 12), rfl, by decide, xHin_10, Or.inl wd_353⟩
theorem lp_Evenings_30 : xLp "SpoonShort$Evenings" 30 10 3 (.object "SpoonShort$Row") := ⟨(xN_10, xF_10, 12), xY_10, rfl, by decide, xHin_10, xYok_10, xNm_10, by decide +kernel, Or.inr ⟨rfl, rfl, wd_353⟩⟩
theorem lf_Evenings_33 : xLf "SpoonShort$Evenings" 33 10 4 := ⟨(xN_10, xF_10, 12), rfl, by decide, xHin_10, Or.inl wd_354⟩
theorem lp_Evenings_33 : xLp "SpoonShort$Evenings" 33 10 4 (.object "SpoonShort$Row") := ⟨(xN_10, xF_10, 12), xY_10, rfl, by decide, xHin_10, xYok_10, xNm_10, by decide +kernel, Or.inr ⟨rfl, rfl, wd_354⟩⟩
theorem lf_Evenings_36 : xLf "SpoonShort$Evenings" 36 10 5 := ⟨(xN_10, xF_10, 12), rfl, by decide, xHin_10, Or.inl wd_355⟩
theorem lp_Evenings_36 : xLp "SpoonShort$Evenings" 36 10 5 (.object "SpoonShort$Row") := ⟨(xN_10, xF_10, 12), xY_10, rfl, by decide, xHin_10, xYok_10, xNm_10, by decide +kernel, Or.inr ⟨rfl, rfl, wd_355⟩⟩
theorem lf_Evenings_39 : xLf "SpoonShort$Evenings" 39 10 6 := ⟨(xN_10, xF_10, 12), rfl, by decide, xHin_10, Or.inl wd_356⟩
theorem lp_Evenings_39 : xLp "SpoonShort$Evenings" 39 10 6 (.object "SpoonShort$Row") := ⟨(xN_10, xF_10, 12), xY_10, rfl, by decide, xHin_10, xYok_10, xNm_10, by decide +kernel, Or.inr ⟨rfl, rfl, wd_356⟩⟩
theorem lf_Evenings_45 : xLf "SpoonShort$Evenings" 45 10 7 := ⟨(xN_10, xF_10, 12), rfl, by decide, xHin_10, Or.inl wd_357⟩
theorem lp_Evenings_45 : xLp "SpoonShort$Evenings" 45 10 7 (.object "SpoonShort$Table") := ⟨(xN_10, xF_10, 12), xY_10, rfl, by decide, xHin_10, xYok_10, xNm_10, by decide +kernel, Or.inr ⟨rfl, rfl, wd_357⟩⟩
theorem lf_Evenings_49 : xLf "SpoonShort$Evenings" 49 10 8 := ⟨(xN_10, xF_10, 12), rfl, by decide, xHin_10, Or.inl wd_358⟩
theorem lp_Evenings_49 : xLp "SpoonShort$Evenings" 49 10 8 .int := ⟨(xN_10, xF_10, 12), xY_10, rfl, by decide, xHin_10, xYok_10, xNm_10, by decide +kernel, Or.inl ⟨rfl, Or.inl wd_358⟩⟩
theorem nf_10_8 : ∀ r, xcl[10]? = some r → (r.2.1 8).2.2.2 = false := fun r h => by cases h; rfl
theorem lf_Evenings_82 : xLf "SpoonShort$Evenings" 82 10 9 := ⟨(xN_10, xF_10, 12), rfl, by decide, xHin_10, Or.inl wd_359⟩
theorem lp_Evenings_82 : xLp "SpoonShort$Evenings" 82 10 9 .int := ⟨(xN_10, xF_10, 12), xY_10, rfl, by decide, xHin_10, xYok_10, xNm_10, by decide +kernel, Or.inl ⟨rfl, Or.inl wd_359⟩⟩
theorem nf_10_9 : ∀ r, xcl[10]? = some r → (r.2.1 9).2.2.2 = false := fun r h => by cases h; rfl
theorem lf_Evenings_85 : xLf "SpoonShort$Evenings" 85 10 10 := ⟨(xN_10, xF_10, 12), rfl, by decide, xHin_10, Or.inl wd_360⟩
theorem lp_Evenings_85 : xLp "SpoonShort$Evenings" 85 10 10 .int := ⟨(xN_10, xF_10, 12), xY_10, rfl, by decide, xHin_10, xYok_10, xNm_10, by decide +kernel, Or.inl ⟨rfl, Or.inl wd_360⟩⟩
theorem nf_10_10 : ∀ r, xcl[10]? = some r → (r.2.1 10).2.2.2 = false := fun r h => by cases h; rfl
theorem lf_Evenings_88 : xLf "SpoonShort$Evenings" 88 10 11 := ⟨(xN_10, xF_10, 12), rfl, by decide, xHin_10, Or.inl wd_361⟩
theorem lp_Evenings_88 : xLp "SpoonShort$Evenings" 88 10 11 .int := ⟨(xN_10, xF_10, 12), xY_10, rfl, by decide, xHin_10, xYok_10, xNm_10, by decide +kernel, Or.inl ⟨rfl, Or.inl wd_361⟩⟩
theorem nf_10_11 : ∀ r, xcl[10]? = some r → (r.2.1 11).2.2.2 = false := fun r h => by cases h; rfl
theorem lf_Evenings_115 : xLf "SpoonShort$Evenings" 115 9 6 := ⟨(xN_9, xF_9, 8), rfl, by decide, xHin_9, Or.inr ⟨"SpoonShort", wd_318⟩⟩
theorem lf_Evenings_118 : xLf "SpoonShort$Evenings" 118 9 7 := ⟨(xN_9, xF_9, 8), rfl, by decide, xHin_9, Or.inr ⟨"SpoonShort", wd_320⟩⟩
theorem lf_Film_14 : xLf "SpoonShort$Film" 14 5 0 := ⟨(xN_5, xF_5, 2), rfl, by decide, xHin_5, Or.inl wd_108⟩
theorem lp_Film_14 : xLp "SpoonShort$Film" 14 5 0 (.object "SpoonShort$Row") := ⟨(xN_5, xF_5, 2), xY_5, rfl, by decide, xHin_5, xYok_5, xNm_5, by decide +kernel, Or.inr ⟨rfl, rfl, wd_108⟩⟩
theorem lf_Film_20 : xLf "SpoonShort$Film" 20 5 1 := ⟨(xN_5, xF_5, 2), rfl, by decide, xHin_5, Or.inl wd_109⟩
theorem lp_Film_20 : xLp "SpoonShort$Film" 20 5 1 (.object "SpoonShort$Row") := ⟨(xN_5, xF_5, 2), xY_5, rfl, by decide, xHin_5, xYok_5, xNm_5, by decide +kernel, Or.inr ⟨rfl, rfl, wd_109⟩⟩
theorem lf_Looks_14 : xLf "SpoonShort$Looks" 14 12 0 := ⟨(xN_12, xF_12, 2), rfl, by decide, xHin_12, Or.inl wd_444⟩
theorem lp_Looks_14 : xLp "SpoonShort$Looks" 14 12 0 (.object "SpoonShort$Table") := ⟨(xN_12, xF_12, 2), xY_12, rfl, by decide, xHin_12, xYok_12, xNm_12, by decide +kernel, Or.inr ⟨rfl, rfl, wd_444⟩⟩
theorem lf_Looks_23 : xLf "SpoonShort$Looks" 23 12 1 := ⟨(xN_12, xF_12, 2), rfl, by decide, xHin_12, Or.inl wd_445⟩
theorem lp_Looks_23 : xLp "SpoonShort$Looks" 23 12 1 (.object "SpoonShort$Row") := ⟨(xN_12, xF_12, 2), xY_12, rfl, by decide, xHin_12, xYok_12, xNm_12, by decide +kernel, Or.inr ⟨rfl, rfl, wd_445⟩⟩
theorem lf_Odds_14 : xLf "SpoonShort$Odds" 14 11 0 := ⟨(xN_11, xF_11, 9), rfl, by decide, xHin_11, Or.inl wd_402⟩
theorem lp_Odds_14 : xLp "SpoonShort$Odds" 14 11 0 (.object "SpoonShort$Row") := ⟨(xN_11, xF_11, 9), xY_11, rfl, by decide, xHin_11, xYok_11, xNm_11, by decide +kernel, Or.inr ⟨rfl, rfl, wd_402⟩⟩
theorem lf_Odds_20 : xLf "SpoonShort$Odds" 20 11 1 := ⟨(xN_11, xF_11, 9), rfl, by decide, xHin_11, Or.inl wd_403⟩
theorem lp_Odds_20 : xLp "SpoonShort$Odds" 20 11 1 (.object "SpoonShort$Row") := ⟨(xN_11, xF_11, 9), xY_11, rfl, by decide, xHin_11, xYok_11, xNm_11, by decide +kernel, Or.inr ⟨rfl, rfl, wd_403⟩⟩
theorem lf_Odds_23 : xLf "SpoonShort$Odds" 23 11 2 := ⟨(xN_11, xF_11, 9), rfl, by decide, xHin_11, Or.inl wd_404⟩
theorem lp_Odds_23 : xLp "SpoonShort$Odds" 23 11 2 (.object "SpoonShort$Row") := ⟨(xN_11, xF_11, 9), xY_11, rfl, by decide, xHin_11, xYok_11, xNm_11, by decide +kernel, Or.inr ⟨rfl, rfl, wd_404⟩⟩
theorem lf_Odds_26 : xLf "SpoonShort$Odds" 26 11 3 := ⟨(xN_11, xF_11, 9), rfl, by decide, xHin_11, Or.inl wd_405⟩
theorem lp_Odds_26 : xLp "SpoonShort$Odds" 26 11 3 (.object "SpoonShort$Row") := ⟨(xN_11, xF_11, 9), xY_11, rfl, by decide, xHin_11, xYok_11, xNm_11, by decide +kernel, Or.inr ⟨rfl, rfl, wd_405⟩⟩
theorem lf_Odds_29 : xLf "SpoonShort$Odds" 29 11 4 := ⟨(xN_11, xF_11, 9), rfl, by decide, xHin_11, Or.inl wd_406⟩
theorem lp_Odds_29 : xLp "SpoonShort$Odds" 29 11 4 (.object "SpoonShort$Row") := ⟨(xN_11, xF_11, 9), xY_11, rfl, by decide, xHin_11, xYok_11, xNm_11, by decide +kernel, Or.inr ⟨rfl, rfl, wd_406⟩⟩
theorem lf_Odds_32 : xLf "SpoonShort$Odds" 32 11 5 := ⟨(xN_11, xF_11, 9), rfl, by decide, xHin_11, Or.inl wd_407⟩
theorem lp_Odds_32 : xLp "SpoonShort$Odds" 32 11 5 (.object "SpoonShort$Row") := ⟨(xN_11, xF_11, 9), xY_11, rfl, by decide, xHin_11, xYok_11, xNm_11, by decide +kernel, Or.inr ⟨rfl, rfl, wd_407⟩⟩
theorem lf_Odds_48 : xLf "SpoonShort$Odds" 48 11 6 := ⟨(xN_11, xF_11, 9), rfl, by decide, xHin_11, Or.inl wd_408⟩
theorem lp_Odds_48 : xLp "SpoonShort$Odds" 48 11 6 .int := ⟨(xN_11, xF_11, 9), xY_11, rfl, by decide, xHin_11, xYok_11, xNm_11, by decide +kernel, Or.inl ⟨rfl, Or.inl wd_408⟩⟩
theorem nf_11_6 : ∀ r, xcl[11]? = some r → (r.2.1 6).2.2.2 = false := fun r h => by cases h; rfl
theorem lf_Odds_54 : xLf "SpoonShort$Odds" 54 11 7 := ⟨(xN_11, xF_11, 9), rfl, by decide, xHin_11, Or.inl wd_410⟩
theorem lp_Odds_54 : xLp "SpoonShort$Odds" 54 11 7 .int := ⟨(xN_11, xF_11, 9), xY_11, rfl, by decide, xHin_11, xYok_11, xNm_11, by decide +kernel, Or.inl ⟨rfl, Or.inl wd_410⟩⟩
theorem nf_11_7 : ∀ r, xcl[11]? = some r → (r.2.1 7).2.2.2 = false := fun r h => by cases h; rfl
theorem lf_Odds_59 : xLf "SpoonShort$Odds" 59 11 8 := ⟨(xN_11, xF_11, 9), rfl, by decide, xHin_11, Or.inl wd_412⟩
theorem lp_Odds_59 : xLp "SpoonShort$Odds" 59 11 8 .int := ⟨(xN_11, xF_11, 9), xY_11, rfl, by decide, xHin_11, xYok_11, xNm_11, by decide +kernel, Or.inl ⟨rfl, Or.inl wd_412⟩⟩
theorem nf_11_8 : ∀ r, xcl[11]? = some r → (r.2.1 8).2.2.2 = false := fun r h => by cases h; rfl
theorem lf_Odds_73 : xLf "SpoonShort$Odds" 73 3 3 := ⟨(xN_3, xF_3, 6), rfl, by decide, xHin_3, Or.inr ⟨"SpoonShort", wd_125⟩⟩
theorem lf_Odds_89 : xLf "SpoonShort$Odds" 89 3 4 := ⟨(xN_3, xF_3, 6), rfl, by decide, xHin_3, Or.inr ⟨"SpoonShort", wd_129⟩⟩
theorem lf_Reader_14 : xLf "SpoonShort$Reader" 14 6 0 := ⟨(xN_6, xF_6, 13), rfl, by decide, xHin_6, Or.inl wd_181⟩
theorem lp_Reader_14 : xLp "SpoonShort$Reader" 14 6 0 (.object "SpoonShort$Row") := ⟨(xN_6, xF_6, 13), xY_6, rfl, by decide, xHin_6, xYok_6, xNm_6, by decide +kernel, Or.inr ⟨rfl, rfl, wd_181⟩⟩
theorem lf_Reader_23 : xLf "SpoonShort$Reader" 23 6 1 := ⟨(xN_6, xF_6, 13), rfl, by decide, xHin_6, Or.inl wd_182⟩
theorem lp_Reader_23 : xLp "SpoonShort$Reader" 23 6 1 (.object "SpoonShort$Sheet") := ⟨(xN_6, xF_6, 13), xY_6, rfl, by decide, xHin_6, xYok_6, xNm_6, by decide +kernel, Or.inr ⟨rfl, rfl, wd_182⟩⟩
theorem lf_Reader_27 : xLf "SpoonShort$Reader" 27 6 2 := ⟨(xN_6, xF_6, 13), rfl, by decide, xHin_6, Or.inl wd_184⟩
theorem lp_Reader_27 : xLp "SpoonShort$Reader" 27 6 2 (.object "SpoonShort$Row") := ⟨(xN_6, xF_6, 13), xY_6, rfl, by decide, xHin_6, xYok_6, xNm_6, by decide +kernel, Or.inr ⟨rfl, rfl, wd_184⟩⟩
theorem lf_Reader_30 : xLf "SpoonShort$Reader" 30 6 3 := ⟨(xN_6, xF_6, 13), rfl, by decide, xHin_6, Or.inl wd_185⟩
theorem lp_Reader_30 : xLp "SpoonShort$Reader" 30 6 3 (.object "SpoonShort$Row") := ⟨(xN_6, xF_6, 13), xY_6, rfl, by decide, xHin_6, xYok_6, xNm_6, by decide +kernel, Or.inr ⟨rfl, rfl, wd_185⟩⟩
theorem lf_Reader_40 : xLf "SpoonShort$Reader" 40 6 6 := ⟨(xN_6, xF_6, 13), rfl, by decide, xHin_6, Or.inl wd_188⟩
theorem lp_Reader_40 : xLp "SpoonShort$Reader" 40 6 6 .int := ⟨(xN_6, xF_6, 13), xY_6, rfl, by decide, xHin_6, xYok_6, xNm_6, by decide +kernel, Or.inl ⟨rfl, Or.inl wd_188⟩⟩
theorem nf_6_6 : ∀ r, xcl[6]? = some r → (r.2.1 6).2.2.2 = false := fun r h => by cases h; rfl
theorem lf_Reader_44 : xLf "SpoonShort$Reader" 44 6 8 := ⟨(xN_6, xF_6, 13), rfl, by decide, xHin_6, Or.inl wd_190⟩
theorem lp_Reader_44 : xLp "SpoonShort$Reader" 44 6 8 .boolean := ⟨(xN_6, xF_6, 13), xY_6, rfl, by decide, xHin_6, xYok_6, xNm_6, by decide +kernel, Or.inl ⟨rfl, Or.inl wd_190⟩⟩
theorem nf_6_8 : ∀ r, xcl[6]? = some r → (r.2.1 8).2.2.2 = false := fun r h => by cases h; rfl
theorem lf_Reader_48 : xLf "SpoonShort$Reader" 48 6 9 := ⟨(xN_6, xF_6, 13), rfl, by decide, xHin_6, Or.inl wd_191⟩
theorem lp_Reader_48 : xLp "SpoonShort$Reader" 48 6 9 .int := ⟨(xN_6, xF_6, 13), xY_6, rfl, by decide, xHin_6, xYok_6, xNm_6, by decide +kernel, Or.inl ⟨rfl, Or.inl wd_191⟩⟩
theorem nf_6_9 : ∀ r, xcl[6]? = some r → (r.2.1 9).2.2.2 = false := fun r h => by cases h; rfl
theorem lp_Reader_51 : xLp "SpoonShort$Reader" 51 6 10 .int := ⟨(xN_6, xF_6, 13), xY_6, rfl, by decide, xHin_6, xYok_6, xNm_6, by decide +kernel, Or.inl ⟨rfl, Or.inl wd_193⟩⟩
theorem nf_6_10 : ∀ r, xcl[6]? = some r → (r.2.1 10).2.2.2 = false := fun r h => by cases h; rfl
theorem lf_Reader_54 : xLf "SpoonShort$Reader" 54 6 11 := ⟨(xN_6, xF_6, 13), rfl, by decide, xHin_6, Or.inl wd_195⟩
theorem lp_Reader_54 : xLp "SpoonShort$Reader" 54 6 11 .int := ⟨(xN_6, xF_6, 13), xY_6, rfl, by decide, xHin_6, xYok_6, xNm_6, by decide +kernel, Or.inl ⟨rfl, Or.inl wd_195⟩⟩
theorem nf_6_11 : ∀ r, xcl[6]? = some r → (r.2.1 11).2.2.2 = false := fun r h => by cases h; rfl
theorem lf_Reader_57 : xLf "SpoonShort$Reader" 57 6 12 := ⟨(xN_6, xF_6, 13), rfl, by decide, xHin_6, Or.inl wd_196⟩
theorem lp_Reader_57 : xLp "SpoonShort$Reader" 57 6 12 .int := ⟨(xN_6, xF_6, 13), xY_6, rfl, by decide, xHin_6, xYok_6, xNm_6, by decide +kernel, Or.inl ⟨rfl, Or.inl wd_196⟩⟩
theorem nf_6_12 : ∀ r, xcl[6]? = some r → (r.2.1 12).2.2.2 = false := fun r h => by cases h; rfl
theorem lf_Reader_63 : xLf "SpoonShort$Reader" 63 6 4 := ⟨(xN_6, xF_6, 13), rfl, by decide, xHin_6, Or.inl wd_186⟩
theorem lp_Reader_63 : xLp "SpoonShort$Reader" 63 6 4 .int := ⟨(xN_6, xF_6, 13), xY_6, rfl, by decide, xHin_6, xYok_6, xNm_6, by decide +kernel, Or.inl ⟨rfl, Or.inl wd_186⟩⟩
theorem nf_6_4 : ∀ r, xcl[6]? = some r → (r.2.1 4).2.2.2 = false := fun r h => by cases h; rfl
theorem lf_Reader_81 : xLf "SpoonShort$Reader" 81 3 0 := ⟨(xN_3, xF_3, 6), rfl, by decide, xHin_3, Or.inr ⟨"SpoonShort", wd_116⟩⟩
theorem lf_Reader_99 : xLf "SpoonShort$Reader" 99 6 5 := ⟨(xN_6, xF_6, 13), rfl, by decide, xHin_6, Or.inl wd_187⟩
theorem lp_Reader_99 : xLp "SpoonShort$Reader" 99 6 5 .int := ⟨(xN_6, xF_6, 13), xY_6, rfl, by decide, xHin_6, xYok_6, xNm_6, by decide +kernel, Or.inl ⟨rfl, Or.inl wd_187⟩⟩
theorem nf_6_5 : ∀ r, xcl[6]? = some r → (r.2.1 5).2.2.2 = false := fun r h => by cases h; rfl
theorem lf_Reader_134 : xLf "SpoonShort$Reader" 134 6 7 := ⟨(xN_6, xF_6, 13), rfl, by decide, xHin_6, Or.inl wd_189⟩
theorem lp_Reader_134 : xLp "SpoonShort$Reader" 134 6 7 .int := ⟨(xN_6, xF_6, 13), xY_6, rfl, by decide, xHin_6, xYok_6, xNm_6, by decide +kernel, Or.inl ⟨rfl, Or.inl wd_189⟩⟩
theorem nf_6_7 : ∀ r, xcl[6]? = some r → (r.2.1 7).2.2.2 = false := fun r h => by cases h; rfl
theorem lf_Reader_196 : xLf "SpoonShort$Reader" 196 3 1 := ⟨(xN_3, xF_3, 6), rfl, by decide, xHin_3, Or.inr ⟨"SpoonShort", wd_119⟩⟩
theorem lf_Reader_201 : xLf "SpoonShort$Reader" 201 3 3 := ⟨(xN_3, xF_3, 6), rfl, by decide, xHin_3, Or.inr ⟨"SpoonShort", wd_126⟩⟩
theorem lf_Reader_204 : xLf "SpoonShort$Reader" 204 3 4 := ⟨(xN_3, xF_3, 6), rfl, by decide, xHin_3, Or.inr ⟨"SpoonShort", wd_130⟩⟩
theorem lf_Reader_237 : xLf "SpoonShort$Reader" 237 3 2 := ⟨(xN_3, xF_3, 6), rfl, by decide, xHin_3, Or.inr ⟨"SpoonShort", wd_122⟩⟩
theorem lf_Reader_240 : xLf "SpoonShort$Reader" 240 3 5 := ⟨(xN_3, xF_3, 6), rfl, by decide, xHin_3, Or.inr ⟨"SpoonShort", wd_133⟩⟩
theorem lf_Rounds_12 : xLf "SpoonShort$Rounds" 12 9 0 := ⟨(xN_9, xF_9, 8), rfl, by decide, xHin_9, Or.inl wd_310⟩
theorem lp_Rounds_12 : xLp "SpoonShort$Rounds" 12 9 0 (.object "SpoonShort$Deal") := ⟨(xN_9, xF_9, 8), xY_9, rfl, by decide, xHin_9, xYok_9, xNm_9, by decide +kernel, Or.inr ⟨rfl, rfl, wd_310⟩⟩
theorem lf_Rounds_23 : xLf "SpoonShort$Rounds" 23 9 1 := ⟨(xN_9, xF_9, 8), rfl, by decide, xHin_9, Or.inl wd_312⟩
theorem lp_Rounds_23 : xLp "SpoonShort$Rounds" 23 9 1 (.object "SpoonShort$Row") := ⟨(xN_9, xF_9, 8), xY_9, rfl, by decide, xHin_9, xYok_9, xNm_9, by decide +kernel, Or.inr ⟨rfl, rfl, wd_312⟩⟩
theorem lf_Rounds_30 : xLf "SpoonShort$Rounds" 30 9 2 := ⟨(xN_9, xF_9, 8), rfl, by decide, xHin_9, Or.inl wd_313⟩
theorem lp_Rounds_30 : xLp "SpoonShort$Rounds" 30 9 2 (.object "SpoonShort$Table") := ⟨(xN_9, xF_9, 8), xY_9, rfl, by decide, xHin_9, xYok_9, xNm_9, by decide +kernel, Or.inr ⟨rfl, rfl, wd_313⟩⟩
theorem lf_Rounds_34 : xLf "SpoonShort$Rounds" 34 9 3 := ⟨(xN_9, xF_9, 8), rfl, by decide, xHin_9, Or.inl wd_314⟩
theorem lp_Rounds_34 : xLp "SpoonShort$Rounds" 34 9 3 (.object "SpoonShort$Deal") := ⟨(xN_9, xF_9, 8), xY_9, rfl, by decide, xHin_9, xYok_9, xNm_9, by decide +kernel, Or.inr ⟨rfl, rfl, wd_314⟩⟩
theorem lf_Rounds_37 : xLf "SpoonShort$Rounds" 37 9 4 := ⟨(xN_9, xF_9, 8), rfl, by decide, xHin_9, Or.inl wd_315⟩
theorem lp_Rounds_37 : xLp "SpoonShort$Rounds" 37 9 4 (.object "SpoonShort$Row") := ⟨(xN_9, xF_9, 8), xY_9, rfl, by decide, xHin_9, xYok_9, xNm_9, by decide +kernel, Or.inr ⟨rfl, rfl, wd_315⟩⟩
theorem lf_Rounds_56 : xLf "SpoonShort$Rounds" 56 9 5 := ⟨(xN_9, xF_9, 8), rfl, by decide, xHin_9, Or.inl wd_316⟩
theorem lp_Rounds_56 : xLp "SpoonShort$Rounds" 56 9 5 .int := ⟨(xN_9, xF_9, 8), xY_9, rfl, by decide, xHin_9, xYok_9, xNm_9, by decide +kernel, Or.inl ⟨rfl, Or.inl wd_316⟩⟩
theorem nf_9_5 : ∀ r, xcl[9]? = some r → (r.2.1 5).2.2.2 = false := fun r h => by cases h; rfl
theorem lf_Rounds_60 : xLf "SpoonShort$Rounds" 60 9 7 := ⟨(xN_9, xF_9, 8), rfl, by decide, xHin_9, Or.inl wd_319⟩
theorem lp_Rounds_60 : xLp "SpoonShort$Rounds" 60 9 7 .int := ⟨(xN_9, xF_9, 8), xY_9, rfl, by decide, xHin_9, xYok_9, xNm_9, by decide +kernel, Or.inl ⟨rfl, Or.inl wd_319⟩⟩
theorem nf_9_7 : ∀ r, xcl[9]? = some r → (r.2.1 7).2.2.2 = false := fun r h => by cases h; rfl
theorem lf_Rounds_66 : xLf "SpoonShort$Rounds" 66 9 6 := ⟨(xN_9, xF_9, 8), rfl, by decide, xHin_9, Or.inl wd_317⟩
theorem lp_Rounds_66 : xLp "SpoonShort$Rounds" 66 9 6 .int := ⟨(xN_9, xF_9, 8), xY_9, rfl, by decide, xHin_9, xYok_9, xNm_9, by decide +kernel, Or.inl ⟨rfl, Or.inl wd_317⟩⟩
theorem nf_9_6 : ∀ r, xcl[9]? = some r → (r.2.1 6).2.2.2 = false := fun r h => by cases h; rfl
theorem lf_Row_7 : xLf "SpoonShort$Row" 7 2 0 := ⟨(xN_2, xF_2, 2), rfl, by decide, xHin_2, Or.inl wd_43⟩
theorem lp_Row_7 : xLp "SpoonShort$Row" 7 2 0 (.array .int) := ⟨(xN_2, xF_2, 2), xY_2, rfl, by decide, xHin_2, xYok_2, xNm_2, by decide +kernel, Or.inr ⟨rfl, rfl, wd_43⟩⟩
theorem lf_Row_13 : xLf "SpoonShort$Row" 13 2 1 := ⟨(xN_2, xF_2, 2), rfl, by decide, xHin_2, Or.inl wd_44⟩
theorem lp_Row_13 : xLp "SpoonShort$Row" 13 2 1 .int := ⟨(xN_2, xF_2, 2), xY_2, rfl, by decide, xHin_2, xYok_2, xNm_2, by decide +kernel, Or.inl ⟨rfl, Or.inl wd_44⟩⟩
theorem nf_2_1 : ∀ r, xcl[2]? = some r → (r.2.1 1).2.2.2 = false := fun r h => by cases h; rfl
theorem lf_Sheet_12 : xLf "SpoonShort$Sheet" 12 3 0 := ⟨(xN_3, xF_3, 6), rfl, by decide, xHin_3, Or.inl wd_115⟩
theorem lp_Sheet_12 : xLp "SpoonShort$Sheet" 12 3 0 (.object "SpoonShort$Table") := ⟨(xN_3, xF_3, 6), xY_3, rfl, by decide, xHin_3, xYok_3, xNm_3, by decide +kernel, Or.inr ⟨rfl, rfl, wd_115⟩⟩
theorem lf_Sheet_23 : xLf "SpoonShort$Sheet" 23 3 1 := ⟨(xN_3, xF_3, 6), rfl, by decide, xHin_3, Or.inl wd_118⟩
theorem lp_Sheet_23 : xLp "SpoonShort$Sheet" 23 3 1 (.object "SpoonShort$Row") := ⟨(xN_3, xF_3, 6), xY_3, rfl, by decide, xHin_3, xYok_3, xNm_3, by decide +kernel, Or.inr ⟨rfl, rfl, wd_118⟩⟩
theorem lf_Sheet_27 : xLf "SpoonShort$Sheet" 27 3 2 := ⟨(xN_3, xF_3, 6), rfl, by decide, xHin_3, Or.inl wd_121⟩
theorem lp_Sheet_27 : xLp "SpoonShort$Sheet" 27 3 2 (.object "SpoonShort$Row") := ⟨(xN_3, xF_3, 6), xY_3, rfl, by decide, xHin_3, xYok_3, xNm_3, by decide +kernel, Or.inr ⟨rfl, rfl, wd_121⟩⟩
theorem lf_Sheet_30 : xLf "SpoonShort$Sheet" 30 3 3 := ⟨(xN_3, xF_3, 6), rfl, by decide, xHin_3, Or.inl wd_124⟩
theorem lp_Sheet_30 : xLp "SpoonShort$Sheet" 30 3 3 (.object "SpoonShort$Row") := ⟨(xN_3, xF_3, 6), xY_3, rfl, by decide, xHin_3, xYok_3, xNm_3, by decide +kernel, Or.inr ⟨rfl, rfl, wd_124⟩⟩
theorem lf_Sheet_33 : xLf "SpoonShort$Sheet" 33 3 4 := ⟨(xN_3, xF_3, 6), rfl, by decide, xHin_3, Or.inl wd_128⟩
theorem lp_Sheet_33 : xLp "SpoonShort$Sheet" 33 3 4 (.object "SpoonShort$Row") := ⟨(xN_3, xF_3, 6), xY_3, rfl, by decide, xHin_3, xYok_3, xNm_3, by decide +kernel, Or.inr ⟨rfl, rfl, wd_128⟩⟩
theorem lf_Sheet_39 : xLf "SpoonShort$Sheet" 39 3 5 := ⟨(xN_3, xF_3, 6), rfl, by decide, xHin_3, Or.inl wd_132⟩
theorem lp_Sheet_39 : xLp "SpoonShort$Sheet" 39 3 5 (.object "SpoonShort$Film") := ⟨(xN_3, xF_3, 6), xY_3, rfl, by decide, xHin_3, xYok_3, xNm_3, by decide +kernel, Or.inr ⟨rfl, rfl, wd_132⟩⟩
theorem lf_Table_14 : xLf "SpoonShort$Table" 14 4 0 := ⟨(xN_4, xF_4, 2), rfl, by decide, xHin_4, Or.inl wd_91⟩
theorem lp_Table_14 : xLp "SpoonShort$Table" 14 4 0 (.object "SpoonShort$Row") := ⟨(xN_4, xF_4, 2), xY_4, rfl, by decide, xHin_4, xYok_4, xNm_4, by decide +kernel, Or.inr ⟨rfl, rfl, wd_91⟩⟩
theorem lf_Table_20 : xLf "SpoonShort$Table" 20 4 1 := ⟨(xN_4, xF_4, 2), rfl, by decide, xHin_4, Or.inl wd_92⟩
theorem lp_Table_20 : xLp "SpoonShort$Table" 20 4 1 (.object "SpoonShort$Row") := ⟨(xN_4, xF_4, 2), xY_4, rfl, by decide, xHin_4, xYok_4, xNm_4, by decide +kernel, Or.inr ⟨rfl, rfl, wd_92⟩⟩
theorem lf_Told_14 : xLf "SpoonShort$Told" 14 1 0 := ⟨(xN_1, xF_1, 5), rfl, by decide, xHin_1, Or.inl wd_149⟩
theorem lp_Told_14 : xLp "SpoonShort$Told" 14 1 0 (.object "SpoonShort$Row") := ⟨(xN_1, xF_1, 5), xY_1, rfl, by decide, xHin_1, xYok_1, xNm_1, by decide +kernel, Or.inr ⟨rfl, rfl, wd_149⟩⟩
theorem lf_Told_20 : xLf "SpoonShort$Told" 20 1 1 := ⟨(xN_1, xF_1, 5), rfl, by decide, xHin_1, Or.inl wd_151⟩
theorem lp_Told_20 : xLp "SpoonShort$Told" 20 1 1 (.object "SpoonShort$Row") := ⟨(xN_1, xF_1, 5), xY_1, rfl, by decide, xHin_1, xYok_1, xNm_1, by decide +kernel, Or.inr ⟨rfl, rfl, wd_151⟩⟩
theorem lf_Told_26 : xLf "SpoonShort$Told" 26 1 2 := ⟨(xN_1, xF_1, 5), rfl, by decide, xHin_1, Or.inl wd_152⟩
theorem lp_Told_26 : xLp "SpoonShort$Told" 26 1 2 (.array (.object "SpoonShort$Sheet")) := ⟨(xN_1, xF_1, 5), xY_1, rfl, by decide, xHin_1, xYok_1, xNm_1, by decide +kernel, Or.inr ⟨rfl, rfl, wd_152⟩⟩
theorem lf_Told_30 : xLf "SpoonShort$Told" 30 1 4 := ⟨(xN_1, xF_1, 5), rfl, by decide, xHin_1, Or.inl wd_155⟩
theorem lp_Told_30 : xLp "SpoonShort$Told" 30 1 4 .int := ⟨(xN_1, xF_1, 5), xY_1, rfl, by decide, xHin_1, xYok_1, xNm_1, by decide +kernel, Or.inl ⟨rfl, Or.inl wd_155⟩⟩
theorem lf_Told_63 : xLf "SpoonShort$Told" 63 1 3 := ⟨(xN_1, xF_1, 5), rfl, by decide, xHin_1, Or.inl wd_154⟩
theorem lp_Told_63 : xLp "SpoonShort$Told" 63 1 3 .int := ⟨(xN_1, xF_1, 5), xY_1, rfl, by decide, xHin_1, xYok_1, xNm_1, by decide +kernel, Or.inl ⟨rfl, Or.inl wd_154⟩⟩
theorem lf_M_7 : xLf "SpoonShortModel" 7 13 1 := ⟨(xN_13, xF_13, 81), rfl, by decide, xHin_13, Or.inl wd_1521⟩
theorem lp_M_7 : xLp "SpoonShortModel" 7 13 1 (.array .byte) := ⟨(xN_13, xF_13, 81), xY_13, rfl, by decide, xHin_13, xYok_13, xNm_13, by decide +kernel, Or.inr ⟨rfl, rfl, wd_1521⟩⟩
theorem lf_M_13 : xLf "SpoonShortModel" 13 13 2 := ⟨(xN_13, xF_13, 81), rfl, by decide, xHin_13, Or.inl wd_1522⟩
theorem lp_M_13 : xLp "SpoonShortModel" 13 13 2 (.array .int) := ⟨(xN_13, xF_13, 81), xY_13, rfl, by decide, xHin_13, xYok_13, xNm_13, by decide +kernel, Or.inr ⟨rfl, rfl, wd_1522⟩⟩
theorem lf_M_17 : xLf "SpoonShortModel" 17 13 3 := ⟨(xN_13, xF_13, 81), rfl, by decide, xHin_13, Or.inl wd_1523⟩
theorem lp_M_17 : xLp "SpoonShortModel" 17 13 3 (.array .int) := ⟨(xN_13, xF_13, 81), xY_13, rfl, by decide, xHin_13, xYok_13, xNm_13, by decide +kernel, Or.inr ⟨rfl, rfl, wd_1523⟩⟩
theorem lf_M_20 : xLf "SpoonShortModel" 20 13 4 := ⟨(xN_13, xF_13, 81), rfl, by decide, xHin_13, Or.inl wd_1524⟩
theorem lp_M_20 : xLp "SpoonShortModel" 20 13 4 (.array .int) := ⟨(xN_13, xF_13, 81), xY_13, rfl, by decide, xHin_13, xYok_13, xNm_13, by decide +kernel, Or.inr ⟨rfl, rfl, wd_1524⟩⟩
theorem lf_M_23 : xLf "SpoonShortModel" 23 13 5 := ⟨(xN_13, xF_13, 81), rfl, by decide, xHin_13, Or.inl wd_1525⟩
theorem lp_M_23 : xLp "SpoonShortModel" 23 13 5 (.array .int) := ⟨(xN_13, xF_13, 81), xY_13, rfl, by decide, xHin_13, xYok_13, xNm_13, by decide +kernel, Or.inr ⟨rfl, rfl, wd_1525⟩⟩
theorem lf_M_26 : xLf "SpoonShortModel" 26 13 6 := ⟨(xN_13, xF_13, 81), rfl, by decide, xHin_13, Or.inl wd_1526⟩
theorem lp_M_26 : xLp "SpoonShortModel" 26 13 6 (.array .int) := ⟨(xN_13, xF_13, 81), xY_13, rfl, by decide, xHin_13, xYok_13, xNm_13, by decide +kernel, Or.inr ⟨rfl, rfl, wd_1526⟩⟩
theorem lf_M_29 : xLf "SpoonShortModel" 29 13 7 := ⟨(xN_13, xF_13, 81), rfl, by decide, xHin_13, Or.inl wd_1527⟩
theorem lp_M_29 : xLp "SpoonShortModel" 29 13 7 (.array .int) := ⟨(xN_13, xF_13, 81), xY_13, rfl, by decide, xHin_13, xYok_13, xNm_13, by decide +kernel, Or.inr ⟨rfl, rfl, wd_1527⟩⟩
theorem lf_M_32 : xLf "SpoonShortModel" 32 13 8 := ⟨(xN_13, xF_13, 81), rfl, by decide, xHin_13, Or.inl wd_1528⟩
theorem lp_M_32 : xLp "SpoonShortModel" 32 13 8 (.array .int) := ⟨(xN_13, xF_13, 81), xY_13, rfl, by decide, xHin_13, xYok_13, xNm_13, by decide +kernel, Or.inr ⟨rfl, rfl, wd_1528⟩⟩
theorem lf_M_35 : xLf "SpoonShortModel" 35 13 9 := ⟨(xN_13, xF_13, 81), rfl, by decide, xHin_13, Or.inl wd_1529⟩
theorem lp_M_35 : xLp "SpoonShortModel" 35 13 9 (.array .int) := ⟨(xN_13, xF_13, 81), xY_13, rfl, by decide, xHin_13, xYok_13, xNm_13, by decide +kernel, Or.inr ⟨rfl, rfl, wd_1529⟩⟩
theorem lf_M_38 : xLf "SpoonShortModel" 38 13 10 := ⟨(xN_13, xF_13, 81), rfl, by decide, xHin_13, Or.inl wd_1530⟩
theorem lp_M_38 : xLp "SpoonShortModel" 38 13 10 (.array .int) := ⟨(xN_13, xF_13, 81), xY_13, rfl, by decide, xHin_13, xYok_13, xNm_13, by decide +kernel, Or.inr ⟨rfl, rfl, wd_1530⟩⟩
theorem lf_M_41 : xLf "SpoonShortModel" 41 13 20 := ⟨(xN_13, xF_13, 81), rfl, by decide, xHin_13, Or.inl wd_1540⟩
theorem lp_M_41 : xLp "SpoonShortModel" 41 13 20 (.array .int) := ⟨(xN_13, xF_13, 81), xY_13, rfl, by decide, xHin_13, xYok_13, xNm_13, by decide +kernel, Or.inr ⟨rfl, rfl, wd_1540⟩⟩
theorem lf_M_44 : xLf "SpoonShortModel" 44 13 21 := ⟨(xN_13, xF_13, 81), rfl, by decide, xHin_13, Or.inl wd_1541⟩
theorem lp_M_44 : xLp "SpoonShortModel" 44 13 21 (.array .int) := ⟨(xN_13, xF_13, 81), xY_13, rfl, by decide, xHin_13, xYok_13, xNm_13, by decide +kernel, Or.inr ⟨rfl, rfl, wd_1541⟩⟩
theorem lf_M_47 : xLf "SpoonShortModel" 47 13 32 := ⟨(xN_13, xF_13, 81), rfl, by decide, xHin_13, Or.inl wd_1552⟩
theorem lp_M_47 : xLp "SpoonShortModel" 47 13 32 (.array .int) := ⟨(xN_13, xF_13, 81), xY_13, rfl, by decide, xHin_13, xYok_13, xNm_13, by decide +kernel, Or.inr ⟨rfl, rfl, wd_1552⟩⟩
theorem lf_M_50 : xLf "SpoonShortModel" 50 13 33 := ⟨(xN_13, xF_13, 81), rfl, by decide, xHin_13, Or.inl wd_1553⟩
theorem lp_M_50 : xLp "SpoonShortModel" 50 13 33 (.array .int) := ⟨(xN_13, xF_13, 81), xY_13, rfl, by decide, xHin_13, xYok_13, xNm_13, by decide +kernel, Or.inr ⟨rfl, rfl, wd_1553⟩⟩
theorem lf_M_53 : xLf "SpoonShortModel" 53 13 34 := ⟨(xN_13, xF_13, 81), rfl, by decide, xHin_13, Or.inl wd_1554⟩
theorem lp_M_53 : xLp "SpoonShortModel" 53 13 34 (.array .int) := ⟨(xN_13, xF_13, 81), xY_13, rfl, by decide, xHin_13, xYok_13, xNm_13, by decide +kernel, Or.inr ⟨rfl, rfl, wd_1554⟩⟩
theorem lf_M_56 : xLf "SpoonShortModel" 56 13 35 := ⟨(xN_13, xF_13, 81), rfl, by decide, xHin_13, Or.inl wd_1555⟩
theorem lp_M_56 : xLp "SpoonShortModel" 56 13 35 (.array .int) := ⟨(xN_13, xF_13, 81), xY_13, rfl, by decide, xHin_13, xYok_13, xNm_13, by decide +kernel, Or.inr ⟨rfl, rfl, wd_1555⟩⟩
theorem lf_M_59 : xLf "SpoonShortModel" 59 13 36 := ⟨(xN_13, xF_13, 81), rfl, by decide, xHin_13, Or.inl wd_1556⟩
theorem lp_M_59 : xLp "SpoonShortModel" 59 13 36 (.array .int) := ⟨(xN_13, xF_13, 81), xY_13, rfl, by decide, xHin_13, xYok_13, xNm_13, by decide +kernel, Or.inr ⟨rfl, rfl, wd_1556⟩⟩
theorem lf_M_62 : xLf "SpoonShortModel" 62 13 37 := ⟨(xN_13, xF_13, 81), rfl, by decide, xHin_13, Or.inl wd_1557⟩
theorem lp_M_62 : xLp "SpoonShortModel" 62 13 37 (.array .int) := ⟨(xN_13, xF_13, 81), xY_13, rfl, by decide, xHin_13, xYok_13, xNm_13, by decide +kernel, Or.inr ⟨rfl, rfl, wd_1557⟩⟩
theorem lf_M_65 : xLf "SpoonShortModel" 65 13 38 := ⟨(xN_13, xF_13, 81), rfl, by decide, xHin_13, Or.inl wd_1558⟩
theorem lp_M_65 : xLp "SpoonShortModel" 65 13 38 (.array .int) := ⟨(xN_13, xF_13, 81), xY_13, rfl, by decide, xHin_13, xYok_13, xNm_13, by decide +kernel, Or.inr ⟨rfl, rfl, wd_1558⟩⟩
theorem lf_M_68 : xLf "SpoonShortModel" 68 13 39 := ⟨(xN_13, xF_13, 81), rfl, by decide, xHin_13, Or.inl wd_1559⟩
theorem lp_M_68 : xLp "SpoonShortModel" 68 13 39 (.array .int) := ⟨(xN_13, xF_13, 81), xY_13, rfl, by decide, xHin_13, xYok_13, xNm_13, by decide +kernel, Or.inr ⟨rfl, rfl, wd_1559⟩⟩
theorem lf_M_71 : xLf "SpoonShortModel" 71 13 41 := ⟨(xN_13, xF_13, 81), rfl, by decide, xHin_13, Or.inl wd_1561⟩
theorem lp_M_71 : xLp "SpoonShortModel" 71 13 41 (.array .int) := ⟨(xN_13, xF_13, 81), xY_13, rfl, by decide, xHin_13, xYok_13, xNm_13, by decide +kernel, Or.inr ⟨rfl, rfl, wd_1561⟩⟩
theorem lf_M_74 : xLf "SpoonShortModel" 74 13 42 := ⟨(xN_13, xF_13, 81), rfl, by decide, xHin_13, Or.inl wd_1562⟩
theorem lp_M_74 : xLp "SpoonShortModel" 74 13 42 (.array .int) := ⟨(xN_13, xF_13, 81), xY_13, rfl, by decide, xHin_13, xYok_13, xNm_13, by decide +kernel, Or.inr ⟨rfl, rfl, wd_1562⟩⟩
theorem lf_M_77 : xLf "SpoonShortModel" 77 13 43 := ⟨(xN_13, xF_13, 81), rfl, by decide, xHin_13, Or.inl wd_1563⟩
theorem lp_M_77 : xLp "SpoonShortModel" 77 13 43 (.array .int) := ⟨(xN_13, xF_13, 81), xY_13, rfl, by decide, xHin_13, xYok_13, xNm_13, by decide +kernel, Or.inr ⟨rfl, rfl, wd_1563⟩⟩
theorem lf_M_80 : xLf "SpoonShortModel" 80 13 44 := ⟨(xN_13, xF_13, 81), rfl, by decide, xHin_13, Or.inl wd_1564⟩
theorem lp_M_80 : xLp "SpoonShortModel" 80 13 44 (.array .int) := ⟨(xN_13, xF_13, 81), xY_13, rfl, by decide, xHin_13, xYok_13, xNm_13, by decide +kernel, Or.inr ⟨rfl, rfl, wd_1564⟩⟩
theorem lf_M_83 : xLf "SpoonShortModel" 83 13 45 := ⟨(xN_13, xF_13, 81), rfl, by decide, xHin_13, Or.inl wd_1565⟩
theorem lp_M_83 : xLp "SpoonShortModel" 83 13 45 (.array .int) := ⟨(xN_13, xF_13, 81), xY_13, rfl, by decide, xHin_13, xYok_13, xNm_13, by decide +kernel, Or.inr ⟨rfl, rfl, wd_1565⟩⟩
theorem lf_M_86 : xLf "SpoonShortModel" 86 13 51 := ⟨(xN_13, xF_13, 81), rfl, by decide, xHin_13, Or.inl wd_1571⟩
theorem lp_M_86 : xLp "SpoonShortModel" 86 13 51 (.array .int) := ⟨(xN_13, xF_13, 81), xY_13, rfl, by decide, xHin_13, xYok_13, xNm_13, by decide +kernel, Or.inr ⟨rfl, rfl, wd_1571⟩⟩
theorem lf_M_89 : xLf "SpoonShortModel" 89 13 52 := ⟨(xN_13, xF_13, 81), rfl, by decide, xHin_13, Or.inl wd_1572⟩
theorem lp_M_89 : xLp "SpoonShortModel" 89 13 52 (.array .int) := ⟨(xN_13, xF_13, 81), xY_13, rfl, by decide, xHin_13, xYok_13, xNm_13, by decide +kernel, Or.inr ⟨rfl, rfl, wd_1572⟩⟩
theorem lf_M_92 : xLf "SpoonShortModel" 92 13 57 := ⟨(xN_13, xF_13, 81), rfl, by decide, xHin_13, Or.inl wd_1577⟩
theorem lp_M_92 : xLp "SpoonShortModel" 92 13 57 (.array .int) := ⟨(xN_13, xF_13, 81), xY_13, rfl, by decide, xHin_13, xYok_13, xNm_13, by decide +kernel, Or.inr ⟨rfl, rfl, wd_1577⟩⟩
theorem lf_M_95 : xLf "SpoonShortModel" 95 13 58 := ⟨(xN_13, xF_13, 81), rfl, by decide, xHin_13, Or.inl wd_1578⟩
theorem lp_M_95 : xLp "SpoonShortModel" 95 13 58 (.array .int) := ⟨(xN_13, xF_13, 81), xY_13, rfl, by decide, xHin_13, xYok_13, xNm_13, by decide +kernel, Or.inr ⟨rfl, rfl, wd_1578⟩⟩
theorem lf_M_98 : xLf "SpoonShortModel" 98 13 60 := ⟨(xN_13, xF_13, 81), rfl, by decide, xHin_13, Or.inl wd_1580⟩
theorem lp_M_98 : xLp "SpoonShortModel" 98 13 60 (.array .int) := ⟨(xN_13, xF_13, 81), xY_13, rfl, by decide, xHin_13, xYok_13, xNm_13, by decide +kernel, Or.inr ⟨rfl, rfl, wd_1580⟩⟩
theorem lf_M_101 : xLf "SpoonShortModel" 101 13 63 := ⟨(xN_13, xF_13, 81), rfl, by decide, xHin_13, Or.inl wd_1583⟩
theorem lp_M_101 : xLp "SpoonShortModel" 101 13 63 (.array .int) := ⟨(xN_13, xF_13, 81), xY_13, rfl, by decide, xHin_13, xYok_13, xNm_13, by decide +kernel, Or.inr ⟨rfl, rfl, wd_1583⟩⟩
theorem lf_M_104 : xLf "SpoonShortModel" 104 13 64 := ⟨(xN_13, xF_13, 81), rfl, by decide, xHin_13, Or.inl wd_1584⟩
theorem lp_M_104 : xLp "SpoonShortModel" 104 13 64 (.array .int) := ⟨(xN_13, xF_13, 81), xY_13, rfl, by decide, xHin_13, xYok_13, xNm_13, by decide +kernel, Or.inr ⟨rfl, rfl, wd_1584⟩⟩
theorem lf_M_107 : xLf "SpoonShortModel" 107 13 66 := ⟨(xN_13, xF_13, 81), rfl, by decide, xHin_13, Or.inl wd_1586⟩
theorem lp_M_107 : xLp "SpoonShortModel" 107 13 66 (.array .int) := ⟨(xN_13, xF_13, 81), xY_13, rfl, by decide, xHin_13, xYok_13, xNm_13, by decide +kernel, Or.inr ⟨rfl, rfl, wd_1586⟩⟩
theorem lf_M_110 : xLf "SpoonShortModel" 110 13 67 := ⟨(xN_13, xF_13, 81), rfl, by decide, xHin_13, Or.inl wd_1587⟩
theorem lp_M_110 : xLp "SpoonShortModel" 110 13 67 (.array .int) := ⟨(xN_13, xF_13, 81), xY_13, rfl, by decide, xHin_13, xYok_13, xNm_13, by decide +kernel, Or.inr ⟨rfl, rfl, wd_1587⟩⟩
theorem lf_M_113 : xLf "SpoonShortModel" 113 13 69 := ⟨(xN_13, xF_13, 81), rfl, by decide, xHin_13, Or.inl wd_1589⟩
theorem lp_M_113 : xLp "SpoonShortModel" 113 13 69 (.array .int) := ⟨(xN_13, xF_13, 81), xY_13, rfl, by decide, xHin_13, xYok_13, xNm_13, by decide +kernel, Or.inr ⟨rfl, rfl, wd_1589⟩⟩
theorem lf_M_116 : xLf "SpoonShortModel" 116 13 70 := ⟨(xN_13, xF_13, 81), rfl, by decide, xHin_13, Or.inl wd_1590⟩
theorem lp_M_116 : xLp "SpoonShortModel" 116 13 70 (.array .int) := ⟨(xN_13, xF_13, 81), xY_13, rfl, by decide, xHin_13, xYok_13, xNm_13, by decide +kernel, Or.inr ⟨rfl, rfl, wd_1590⟩⟩
theorem lf_M_119 : xLf "SpoonShortModel" 119 13 71 := ⟨(xN_13, xF_13, 81), rfl, by decide, xHin_13, Or.inl wd_1591⟩
theorem lp_M_119 : xLp "SpoonShortModel" 119 13 71 (.array .long) := ⟨(xN_13, xF_13, 81), xY_13, rfl, by decide, xHin_13, xYok_13, xNm_13, by decide +kernel, Or.inr ⟨rfl, rfl, wd_1591⟩⟩
theorem lf_M_123 : xLf "SpoonShortModel" 123 13 72 := ⟨(xN_13, xF_13, 81), rfl, by decide, xHin_13, Or.inl wd_1592⟩
theorem lp_M_123 : xLp "SpoonShortModel" 123 13 72 (.array .int) := ⟨(xN_13, xF_13, 81), xY_13, rfl, by decide, xHin_13, xYok_13, xNm_13, by decide +kernel, Or.inr ⟨rfl, rfl, wd_1592⟩⟩
theorem lf_M_126 : xLf "SpoonShortModel" 126 13 75 := ⟨(xN_13, xF_13, 81), rfl, by decide, xHin_13, Or.inl wd_1595⟩
theorem lp_M_126 : xLp "SpoonShortModel" 126 13 75 (.array .int) := ⟨(xN_13, xF_13, 81), xY_13, rfl, by decide, xHin_13, xYok_13, xNm_13, by decide +kernel, Or.inr ⟨rfl, rfl, wd_1595⟩⟩
theorem lf_M_129 : xLf "SpoonShortModel" 129 13 77 := ⟨(xN_13, xF_13, 81), rfl, by decide, xHin_13, Or.inl wd_1597⟩
theorem lp_M_129 : xLp "SpoonShortModel" 129 13 77 (.array .int) := ⟨(xN_13, xF_13, 81), xY_13, rfl, by decide, xHin_13, xYok_13, xNm_13, by decide +kernel, Or.inr ⟨rfl, rfl, wd_1597⟩⟩
theorem lf_M_132 : xLf "SpoonShortModel" 132 13 78 := ⟨(xN_13, xF_13, 81), rfl, by decide, xHin_13, Or.inl wd_1598⟩
theorem lp_M_132 : xLp "SpoonShortModel" 132 13 78 (.array .int) := ⟨(xN_13, xF_13, 81), xY_13, rfl, by decide, xHin_13, xYok_13, xNm_13, by decide +kernel, Or.inr ⟨rfl, rfl, wd_1598⟩⟩
theorem lf_M_135 : xLf "SpoonShortModel" 135 13 80 := ⟨(xN_13, xF_13, 81), rfl, by decide, xHin_13, Or.inl wd_1600⟩
theorem lp_M_135 : xLp "SpoonShortModel" 135 13 80 (.array .boolean) := ⟨(xN_13, xF_13, 81), xY_13, rfl, by decide, xHin_13, xYok_13, xNm_13, by decide +kernel, Or.inr ⟨rfl, rfl, wd_1600⟩⟩
theorem lp_M_139 : xLp "SpoonShortModel" 139 13 0 .int := ⟨(xN_13, xF_13, 81), xY_13, rfl, by decide, xHin_13, xYok_13, xNm_13, by decide +kernel, Or.inl ⟨rfl, Or.inl wd_1520⟩⟩
theorem nf_13_0 : ∀ r, xcl[13]? = some r → (r.2.1 0).2.2.2 = false := fun r h => by cases h; rfl
theorem lf_M_155 : xLf "SpoonShortModel" 155 13 11 := ⟨(xN_13, xF_13, 81), rfl, by decide, xHin_13, Or.inl wd_1531⟩
theorem lp_M_155 : xLp "SpoonShortModel" 155 13 11 .int := ⟨(xN_13, xF_13, 81), xY_13, rfl, by decide, xHin_13, xYok_13, xNm_13, by decide +kernel, Or.inl ⟨rfl, Or.inl wd_1531⟩⟩
theorem nf_13_11 : ∀ r, xcl[13]? = some r → (r.2.1 11).2.2.2 = false := fun r h => by cases h; rfl
theorem lf_M_158 : xLf "SpoonShortModel" 158 13 12 := ⟨(xN_13, xF_13, 81), rfl, by decide, xHin_13, Or.inl wd_1532⟩
theorem lp_M_158 : xLp "SpoonShortModel" 158 13 12 .int := ⟨(xN_13, xF_13, 81), xY_13, rfl, by decide, xHin_13, xYok_13, xNm_13, by decide +kernel, Or.inl ⟨rfl, Or.inl wd_1532⟩⟩
theorem nf_13_12 : ∀ r, xcl[13]? = some r → (r.2.1 12).2.2.2 = false := fun r h => by cases h; rfl
theorem lf_M_165 : xLf "SpoonShortModel" 165 13 13 := ⟨(xN_13, xF_13, 81), rfl, by decide, xHin_13, Or.inl wd_1533⟩
theorem lp_M_165 : xLp "SpoonShortModel" 165 13 13 .int := ⟨(xN_13, xF_13, 81), xY_13, rfl, by decide, xHin_13, xYok_13, xNm_13, by decide +kernel, Or.inl ⟨rfl, Or.inl wd_1533⟩⟩
theorem nf_13_13 : ∀ r, xcl[13]? = some r → (r.2.1 13).2.2.2 = false := fun r h => by cases h; rfl
theorem lf_M_168 : xLf "SpoonShortModel" 168 13 16 := ⟨(xN_13, xF_13, 81), rfl, by decide, xHin_13, Or.inl wd_1536⟩
theorem lp_M_168 : xLp "SpoonShortModel" 168 13 16 .long := ⟨(xN_13, xF_13, 81), xY_13, rfl, by decide, xHin_13, xYok_13, xNm_13, by decide +kernel, Or.inl ⟨rfl, Or.inl wd_1536⟩⟩
theorem nf_13_16 : ∀ r, xcl[13]? = some r → (r.2.1 16).2.2.2 = false := fun r h => by cases h; rfl
theorem lf_M_172 : xLf "SpoonShortModel" 172 13 14 := ⟨(xN_13, xF_13, 81), rfl, by decide, xHin_13, Or.inl wd_1534⟩
theorem lp_M_172 : xLp "SpoonShortModel" 172 13 14 .int := ⟨(xN_13, xF_13, 81), xY_13, rfl, by decide, xHin_13, xYok_13, xNm_13, by decide +kernel, Or.inl ⟨rfl, Or.inl wd_1534⟩⟩
theorem nf_13_14 : ∀ r, xcl[13]? = some r → (r.2.1 14).2.2.2 = false := fun r h => by cases h; rfl
theorem lf_M_175 : xLf "SpoonShortModel" 175 13 15 := ⟨(xN_13, xF_13, 81), rfl, by decide, xHin_13, Or.inl wd_1535⟩
theorem lp_M_175 : xLp "SpoonShortModel" 175 13 15 .int := ⟨(xN_13, xF_13, 81), xY_13, rfl, by decide, xHin_13, xYok_13, xNm_13, by decide +kernel, Or.inl ⟨rfl, Or.inl wd_1535⟩⟩
theorem nf_13_15 : ∀ r, xcl[13]? = some r → (r.2.1 15).2.2.2 = false := fun r h => by cases h; rfl
theorem lf_M_178 : xLf "SpoonShortModel" 178 13 17 := ⟨(xN_13, xF_13, 81), rfl, by decide, xHin_13, Or.inl wd_1537⟩
theorem lp_M_178 : xLp "SpoonShortModel" 178 13 17 .int := ⟨(xN_13, xF_13, 81), xY_13, rfl, by decide, xHin_13, xYok_13, xNm_13, by decide +kernel, Or.inl ⟨rfl, Or.inl wd_1537⟩⟩
theorem nf_13_17 : ∀ r, xcl[13]? = some r → (r.2.1 17).2.2.2 = false := fun r h => by cases h; rfl
theorem lf_M_181 : xLf "SpoonShortModel" 181 13 18 := ⟨(xN_13, xF_13, 81), rfl, by decide, xHin_13, Or.inl wd_1538⟩
theorem lp_M_181 : xLp "SpoonShortModel" 181 13 18 .int := ⟨(xN_13, xF_13, 81), xY_13, rfl, by decide, xHin_13, xYok_13, xNm_13, by decide +kernel, Or.inl ⟨rfl, Or.inl wd_1538⟩⟩
theorem nf_13_18 : ∀ r, xcl[13]? = some r → (r.2.1 18).2.2.2 = false := fun r h => by cases h; rfl
theorem lf_M_184 : xLf "SpoonShortModel" 184 13 19 := ⟨(xN_13, xF_13, 81), rfl, by decide, xHin_13, Or.inl wd_1539⟩
theorem lp_M_184 : xLp "SpoonShortModel" 184 13 19 .int := ⟨(xN_13, xF_13, 81), xY_13, rfl, by decide, xHin_13, xYok_13, xNm_13, by decide +kernel, Or.inl ⟨rfl, Or.inl wd_1539⟩⟩
theorem nf_13_19 : ∀ r, xcl[13]? = some r → (r.2.1 19).2.2.2 = false := fun r h => by cases h; rfl
theorem lf_M_191 : xLf "SpoonShortModel" 191 13 25 := ⟨(xN_13, xF_13, 81), rfl, by decide, xHin_13, Or.inl wd_1545⟩
theorem lp_M_191 : xLp "SpoonShortModel" 191 13 25 .boolean := ⟨(xN_13, xF_13, 81), xY_13, rfl, by decide, xHin_13, xYok_13, xNm_13, by decide +kernel, Or.inl ⟨rfl, Or.inl wd_1545⟩⟩
theorem nf_13_25 : ∀ r, xcl[13]? = some r → (r.2.1 25).2.2.2 = false := fun r h => by cases h; rfl
theorem lf_M_208 : xLf "SpoonShortModel" 208 13 22 := ⟨(xN_13, xF_13, 81), rfl, by decide, xHin_13, Or.inl wd_1542⟩
theorem lp_M_208 : xLp "SpoonShortModel" 208 13 22 .int := ⟨(xN_13, xF_13, 81), xY_13, rfl, by decide, xHin_13, xYok_13, xNm_13, by decide +kernel, Or.inl ⟨rfl, Or.inl wd_1542⟩⟩
theorem nf_13_22 : ∀ r, xcl[13]? = some r → (r.2.1 22).2.2.2 = false := fun r h => by cases h; rfl
theorem lf_M_223 : xLf "SpoonShortModel" 223 13 23 := ⟨(xN_13, xF_13, 81), rfl, by decide, xHin_13, Or.inl wd_1543⟩
theorem lp_M_223 : xLp "SpoonShortModel" 223 13 23 .int := ⟨(xN_13, xF_13, 81), xY_13, rfl, by decide, xHin_13, xYok_13, xNm_13, by decide +kernel, Or.inl ⟨rfl, Or.inl wd_1543⟩⟩
theorem nf_13_23 : ∀ r, xcl[13]? = some r → (r.2.1 23).2.2.2 = false := fun r h => by cases h; rfl
theorem lf_M_280 : xLf "SpoonShortModel" 280 13 24 := ⟨(xN_13, xF_13, 81), rfl, by decide, xHin_13, Or.inl wd_1544⟩
theorem lp_M_280 : xLp "SpoonShortModel" 280 13 24 .int := ⟨(xN_13, xF_13, 81), xY_13, rfl, by decide, xHin_13, xYok_13, xNm_13, by decide +kernel, Or.inl ⟨rfl, Or.inl wd_1544⟩⟩
theorem nf_13_24 : ∀ r, xcl[13]? = some r → (r.2.1 24).2.2.2 = false := fun r h => by cases h; rfl
theorem lf_M_328 : xLf "SpoonShortModel" 328 13 26 := ⟨(xN_13, xF_13, 81), rfl, by decide, xHin_13, Or.inl wd_1546⟩
theorem lp_M_328 : xLp "SpoonShortModel" 328 13 26 .int := ⟨(xN_13, xF_13, 81), xY_13, rfl, by decide, xHin_13, xYok_13, xNm_13, by decide +kernel, Or.inl ⟨rfl, Or.inl wd_1546⟩⟩
theorem nf_13_26 : ∀ r, xcl[13]? = some r → (r.2.1 26).2.2.2 = false := fun r h => by cases h; rfl
theorem lf_M_335 : xLf "SpoonShortModel" 335 13 27 := ⟨(xN_13, xF_13, 81), rfl, by decide, xHin_13, Or.inl wd_1547⟩
theorem lp_M_335 : xLp "SpoonShortModel" 335 13 27 .int := ⟨(xN_13, xF_13, 81), xY_13, rfl, by decide, xHin_13, xYok_13, xNm_13, by decide +kernel, Or.inl ⟨rfl, Or.inl wd_1547⟩⟩
theorem nf_13_27 : ∀ r, xcl[13]? = some r → (r.2.1 27).2.2.2 = false := fun r h => by cases h; rfl
theorem lf_M_338 : xLf "SpoonShortModel" 338 13 28 := ⟨(xN_13, xF_13, 81), rfl, by decide, xHin_13, Or.inl wd_1548⟩
theorem lp_M_338 : xLp "SpoonShortModel" 338 13 28 .int := ⟨(xN_13, xF_13, 81), xY_13, rfl, by decide, xHin_13, xYok_13, xNm_13, by decide +kernel, Or.inl ⟨rfl, Or.inl wd_1548⟩⟩
theorem nf_13_28 : ∀ r, xcl[13]? = some r → (r.2.1 28).2.2.2 = false := fun r h => by cases h; rfl
theorem lf_M_341 : xLf "SpoonShortModel" 341 13 29 := ⟨(xN_13, xF_13, 81), rfl, by decide, xHin_13, Or.inl wd_1549⟩
theorem lp_M_341 : xLp "SpoonShortModel" 341 13 29 .int := ⟨(xN_13, xF_13, 81), xY_13, rfl, by decide, xHin_13, xYok_13, xNm_13, by decide +kernel, Or.inl ⟨rfl, Or.inl wd_1549⟩⟩
theorem nf_13_29 : ∀ r, xcl[13]? = some r → (r.2.1 29).2.2.2 = false := fun r h => by cases h; rfl
theorem lf_M_344 : xLf "SpoonShortModel" 344 13 30 := ⟨(xN_13, xF_13, 81), rfl, by decide, xHin_13, Or.inl wd_1550⟩
theorem lp_M_344 : xLp "SpoonShortModel" 344 13 30 .int := ⟨(xN_13, xF_13, 81), xY_13, rfl, by decide, xHin_13, xYok_13, xNm_13, by decide +kernel, Or.inl ⟨rfl, Or.inl wd_1550⟩⟩
theorem nf_13_30 : ∀ r, xcl[13]? = some r → (r.2.1 30).2.2.2 = false := fun r h => by cases h; rfl
theorem lf_M_350 : xLf "SpoonShortModel" 350 13 31 := ⟨(xN_13, xF_13, 81), rfl, by decide, xHin_13, Or.inl wd_1551⟩
theorem lp_M_350 : xLp "SpoonShortModel" 350 13 31 .int := ⟨(xN_13, xF_13, 81), xY_13, rfl, by decide, xHin_13, xYok_13, xNm_13, by decide +kernel, Or.inl ⟨rfl, Or.inl wd_1551⟩⟩
theorem nf_13_31 : ∀ r, xcl[13]? = some r → (r.2.1 31).2.2.2 = false := fun r h => by cases h; rfl
theorem lf_M_362 : xLf "SpoonShortModel" 362 13 40 := ⟨(xN_13, xF_13, 81), rfl, by decide, xHin_13, Or.inl wd_1560⟩
theorem lp_M_362 : xLp "SpoonShortModel" 362 13 40 .int := ⟨(xN_13, xF_13, 81), xY_13, rfl, by decide, xHin_13, xYok_13, xNm_13, by decide +kernel, Or.inl ⟨rfl, Or.inl wd_1560⟩⟩
theorem nf_13_40 : ∀ r, xcl[13]? = some r → (r.2.1 40).2.2.2 = false := fun r h => by cases h; rfl
theorem lf_M_374 : xLf "SpoonShortModel" 374 13 46 := ⟨(xN_13, xF_13, 81), rfl, by decide, xHin_13, Or.inl wd_1566⟩
theorem lp_M_374 : xLp "SpoonShortModel" 374 13 46 .int := ⟨(xN_13, xF_13, 81), xY_13, rfl, by decide, xHin_13, xYok_13, xNm_13, by decide +kernel, Or.inl ⟨rfl, Or.inl wd_1566⟩⟩
theorem nf_13_46 : ∀ r, xcl[13]? = some r → (r.2.1 46).2.2.2 = false := fun r h => by cases h; rfl
theorem lf_M_389 : xLf "SpoonShortModel" 389 13 47 := ⟨(xN_13, xF_13, 81), rfl, by decide, xHin_13, Or.inl wd_1567⟩
theorem lp_M_389 : xLp "SpoonShortModel" 389 13 47 .int := ⟨(xN_13, xF_13, 81), xY_13, rfl, by decide, xHin_13, xYok_13, xNm_13, by decide +kernel, Or.inl ⟨rfl, Or.inl wd_1567⟩⟩
theorem nf_13_47 : ∀ r, xcl[13]? = some r → (r.2.1 47).2.2.2 = false := fun r h => by cases h; rfl
theorem lf_M_392 : xLf "SpoonShortModel" 392 13 48 := ⟨(xN_13, xF_13, 81), rfl, by decide, xHin_13, Or.inl wd_1568⟩
theorem lp_M_392 : xLp "SpoonShortModel" 392 13 48 .int := ⟨(xN_13, xF_13, 81), xY_13, rfl, by decide, xHin_13, xYok_13, xNm_13, by decide +kernel, Or.inl ⟨rfl, Or.inl wd_1568⟩⟩
theorem nf_13_48 : ∀ r, xcl[13]? = some r → (r.2.1 48).2.2.2 = false := fun r h => by cases h; rfl
theorem lf_M_395 : xLf "SpoonShortModel" 395 13 49 := ⟨(xN_13, xF_13, 81), rfl, by decide, xHin_13, Or.inl wd_1569⟩
theorem lp_M_395 : xLp "SpoonShortModel" 395 13 49 .int := ⟨(xN_13, xF_13, 81), xY_13, rfl, by decide, xHin_13, xYok_13, xNm_13, by decide +kernel, Or.inl ⟨rfl, Or.inl wd_1569⟩⟩
theorem nf_13_49 : ∀ r, xcl[13]? = some r → (r.2.1 49).2.2.2 = false := fun r h => by cases h; rfl
theorem lf_M_398 : xLf "SpoonShortModel" 398 13 50 := ⟨(xN_13, xF_13, 81), rfl, by decide, xHin_13, Or.inl wd_1570⟩
theorem lp_M_398 : xLp "SpoonShortModel" 398 13 50 .int := ⟨(xN_13, xF_13, 81), xY_13, rfl, by decide, xHin_13, xYok_13, xNm_13, by decide +kernel, Or.inl ⟨rfl, Or.inl wd_1570⟩⟩
theorem nf_13_50 : ∀ r, xcl[13]? = some r → (r.2.1 50).2.2.2 = false := fun r h => by cases h; rfl
theorem lf_M_401 : xLf "SpoonShortModel" 401 13 53 := ⟨(xN_13, xF_13, 81), rfl, by decide, xHin_13, Or.inl wd_1573⟩
theorem lp_M_401 : xLp "SpoonShortModel" 401 13 53 .int := ⟨(xN_13, xF_13, 81), xY_13, rfl, by decide, xHin_13, xYok_13, xNm_13, by decide +kernel, Or.inl ⟨rfl, Or.inl wd_1573⟩⟩
theorem nf_13_53 : ∀ r, xcl[13]? = some r → (r.2.1 53).2.2.2 = false := fun r h => by cases h; rfl
theorem lf_M_441 : xLf "SpoonShortModel" 441 13 54 := ⟨(xN_13, xF_13, 81), rfl, by decide, xHin_13, Or.inl wd_1574⟩
theorem lp_M_441 : xLp "SpoonShortModel" 441 13 54 .int := ⟨(xN_13, xF_13, 81), xY_13, rfl, by decide, xHin_13, xYok_13, xNm_13, by decide +kernel, Or.inl ⟨rfl, Or.inl wd_1574⟩⟩
theorem nf_13_54 : ∀ r, xcl[13]? = some r → (r.2.1 54).2.2.2 = false := fun r h => by cases h; rfl
theorem lf_M_444 : xLf "SpoonShortModel" 444 13 55 := ⟨(xN_13, xF_13, 81), rfl, by decide, xHin_13, Or.inl wd_1575⟩
theorem lp_M_444 : xLp "SpoonShortModel" 444 13 55 .int := ⟨(xN_13, xF_13, 81), xY_13, rfl, by decide, xHin_13, xYok_13, xNm_13, by decide +kernel, Or.inl ⟨rfl, Or.inl wd_1575⟩⟩
theorem nf_13_55 : ∀ r, xcl[13]? = some r → (r.2.1 55).2.2.2 = false := fun r h => by cases h; rfl
theorem lf_M_463 : xLf "SpoonShortModel" 463 13 56 := ⟨(xN_13, xF_13, 81), rfl, by decide, xHin_13, Or.inl wd_1576⟩
theorem lp_M_463 : xLp "SpoonShortModel" 463 13 56 .int := ⟨(xN_13, xF_13, 81), xY_13, rfl, by decide, xHin_13, xYok_13, xNm_13, by decide +kernel, Or.inl ⟨rfl, Or.inl wd_1576⟩⟩
theorem nf_13_56 : ∀ r, xcl[13]? = some r → (r.2.1 56).2.2.2 = false := fun r h => by cases h; rfl
theorem lf_M_478 : xLf "SpoonShortModel" 478 13 59 := ⟨(xN_13, xF_13, 81), rfl, by decide, xHin_13, Or.inl wd_1579⟩
theorem lp_M_478 : xLp "SpoonShortModel" 478 13 59 .int := ⟨(xN_13, xF_13, 81), xY_13, rfl, by decide, xHin_13, xYok_13, xNm_13, by decide +kernel, Or.inl ⟨rfl, Or.inl wd_1579⟩⟩
theorem nf_13_59 : ∀ r, xcl[13]? = some r → (r.2.1 59).2.2.2 = false := fun r h => by cases h; rfl
theorem lf_M_488 : xLf "SpoonShortModel" 488 13 61 := ⟨(xN_13, xF_13, 81), rfl, by decide, xHin_13, Or.inl wd_1581⟩
theorem lp_M_488 : xLp "SpoonShortModel" 488 13 61 .int := ⟨(xN_13, xF_13, 81), xY_13, rfl, by decide, xHin_13, xYok_13, xNm_13, by decide +kernel, Or.inl ⟨rfl, Or.inl wd_1581⟩⟩
theorem nf_13_61 : ∀ r, xcl[13]? = some r → (r.2.1 61).2.2.2 = false := fun r h => by cases h; rfl
theorem lf_M_491 : xLf "SpoonShortModel" 491 13 62 := ⟨(xN_13, xF_13, 81), rfl, by decide, xHin_13, Or.inl wd_1582⟩
theorem lp_M_491 : xLp "SpoonShortModel" 491 13 62 .int := ⟨(xN_13, xF_13, 81), xY_13, rfl, by decide, xHin_13, xYok_13, xNm_13, by decide +kernel, Or.inl ⟨rfl, Or.inl wd_1582⟩⟩
theorem nf_13_62 : ∀ r, xcl[13]? = some r → (r.2.1 62).2.2.2 = false := fun r h => by cases h; rfl
theorem lf_M_500 : xLf "SpoonShortModel" 500 13 65 := ⟨(xN_13, xF_13, 81), rfl, by decide, xHin_13, Or.inl wd_1585⟩
theorem lp_M_500 : xLp "SpoonShortModel" 500 13 65 .int := ⟨(xN_13, xF_13, 81), xY_13, rfl, by decide, xHin_13, xYok_13, xNm_13, by decide +kernel, Or.inl ⟨rfl, Or.inl wd_1585⟩⟩
theorem nf_13_65 : ∀ r, xcl[13]? = some r → (r.2.1 65).2.2.2 = false := fun r h => by cases h; rfl
theorem lf_M_522 : xLf "SpoonShortModel" 522 13 68 := ⟨(xN_13, xF_13, 81), rfl, by decide, xHin_13, Or.inl wd_1588⟩
theorem lp_M_522 : xLp "SpoonShortModel" 522 13 68 .int := ⟨(xN_13, xF_13, 81), xY_13, rfl, by decide, xHin_13, xYok_13, xNm_13, by decide +kernel, Or.inl ⟨rfl, Or.inl wd_1588⟩⟩
theorem nf_13_68 : ∀ r, xcl[13]? = some r → (r.2.1 68).2.2.2 = false := fun r h => by cases h; rfl
theorem lf_M_534 : xLf "SpoonShortModel" 534 13 73 := ⟨(xN_13, xF_13, 81), rfl, by decide, xHin_13, Or.inl wd_1593⟩
theorem lp_M_534 : xLp "SpoonShortModel" 534 13 73 .int := ⟨(xN_13, xF_13, 81), xY_13, rfl, by decide, xHin_13, xYok_13, xNm_13, by decide +kernel, Or.inl ⟨rfl, Or.inl wd_1593⟩⟩
theorem nf_13_73 : ∀ r, xcl[13]? = some r → (r.2.1 73).2.2.2 = false := fun r h => by cases h; rfl
theorem lf_M_542 : xLf "SpoonShortModel" 542 13 74 := ⟨(xN_13, xF_13, 81), rfl, by decide, xHin_13, Or.inl wd_1594⟩
theorem lp_M_542 : xLp "SpoonShortModel" 542 13 74 .int := ⟨(xN_13, xF_13, 81), xY_13, rfl, by decide, xHin_13, xYok_13, xNm_13, by decide +kernel, Or.inl ⟨rfl, Or.inl wd_1594⟩⟩
theorem nf_13_74 : ∀ r, xcl[13]? = some r → (r.2.1 74).2.2.2 = false := fun r h => by cases h; rfl
theorem lf_M_612 : xLf "SpoonShortModel" 612 13 76 := ⟨(xN_13, xF_13, 81), rfl, by decide, xHin_13, Or.inl wd_1596⟩
theorem lp_M_612 : xLp "SpoonShortModel" 612 13 76 .int := ⟨(xN_13, xF_13, 81), xY_13, rfl, by decide, xHin_13, xYok_13, xNm_13, by decide +kernel, Or.inl ⟨rfl, Or.inl wd_1596⟩⟩
theorem nf_13_76 : ∀ r, xcl[13]? = some r → (r.2.1 76).2.2.2 = false := fun r h => by cases h; rfl
theorem lf_M_621 : xLf "SpoonShortModel" 621 13 79 := ⟨(xN_13, xF_13, 81), rfl, by decide, xHin_13, Or.inl wd_1599⟩
theorem lp_M_621 : xLp "SpoonShortModel" 621 13 79 .int := ⟨(xN_13, xF_13, 81), xY_13, rfl, by decide, xHin_13, xYok_13, xNm_13, by decide +kernel, Or.inl ⟨rfl, Or.inl wd_1599⟩⟩
theorem nf_13_79 : ∀ r, xcl[13]? = some r → (r.2.1 79).2.2.2 = false := fun r h => by cases h; rfl
theorem lm_S_9 : xLm "SpoonShort" 9 m_Told_init.1 := Or.inl wd_33
theorem lm_S_22 : xLm "SpoonShort" 22 m_Row_init.1 := Or.inl wd_170
theorem lm_S_31 : xLm "SpoonShort" 31 m_Reader_init.1 := Or.inr ⟨"SpoonShort", wd_173⟩
theorem lm_S_38 : xLm "SpoonShort" 38 m_Deeds_init.1 := Or.inr ⟨"SpoonShort", wd_226⟩
theorem lm_S_45 : xLm "SpoonShort" 45 m_Rounds_init.1 := Or.inr ⟨"SpoonShort", wd_300⟩
theorem lm_S_52 : xLm "SpoonShort" 52 m_Evenings_init.1 := Or.inr ⟨"SpoonShort", wd_340⟩
theorem lm_S_59 : xLm "SpoonShort" 59 m_Odds_init.1 := Or.inl wd_389
theorem lm_S_66 : xLm "SpoonShort" 66 m_Looks_init.1 := Or.inl wd_435
theorem lm_S_71 : xLm "SpoonShort" 71 m_Row_fill.1 := Or.inl wd_451
theorem lm_S_78 : xLm "SpoonShort" 78 m_Row_size.1 := Or.inl wd_484
theorem lm_S_82 : xLm "SpoonShort" 82 m_S_write.1 := Or.inl wd_488
theorem lm_S_85 : xLm "SpoonShort" 85 m_Row_push.1 := Or.inl wd_492
theorem lm_S_88 : xLm "SpoonShort" 88 m_Row_cut.1 := Or.inl wd_497
theorem lm_S_91 : xLm "SpoonShort" 91 m_Told_howMany.1 := Or.inl wd_505
theorem lm_S_102 : xLm "SpoonShort" 102 m_Row_clear.1 := Or.inl wd_517
theorem lm_S_105 : xLm "SpoonShort" 105 m_Reader_read.1 := Or.inl wd_521
theorem lm_S_115 : xLm "SpoonShort" 115 m_Told_keep.1 := Or.inl wd_781
theorem lm_S_119 : xLm "SpoonShort" 119 m_S_tableAt.1 := Or.inl wd_815
theorem lm_S_123 : xLm "SpoonShort" 123 m_Table_number.1 := Or.inl wd_823
theorem lm_S_128 : xLm "SpoonShort" 128 m_Table_has.1 := Or.inl wd_831
theorem lm_S_132 : xLm "SpoonShort" 132 m_Table_of.1 := Or.inl wd_835
theorem lm_S_136 : xLm "SpoonShort" 136 m_S_heapAt.1 := Or.inl wd_843
theorem lm_S_140 : xLm "SpoonShort" 140 m_Row_reaches.1 := Or.inl wd_847
theorem lm_S_143 : xLm "SpoonShort" 143 m_Row_get.1 := Or.inl wd_848
theorem lm_S_146 : xLm "SpoonShort" 146 m_Table_suits.1 := Or.inl wd_853
theorem lm_S_150 : xLm "SpoonShort" 150 m_S_bookAt.1 := Or.inl wd_868
theorem lm_S_153 : xLm "SpoonShort" 153 m_Deeds_play.1 := Or.inl wd_876
theorem lm_S_157 : xLm "SpoonShort" 157 m_S_comesTo.1 := Or.inl wd_957
theorem lm_S_161 : xLm "SpoonShort" 161 m_Deeds_answer.1 := Or.inl wd_961
theorem lm_S_168 : xLm "SpoonShort" 168 m_Deal_holdsCards.1 := Or.inl wd_981
theorem lm_S_173 : xLm "SpoonShort" 173 m_Table_hasKind.1 := Or.inl wd_982
theorem lm_S_176 : xLm "SpoonShort" 176 m_Deal_holdsOf.1 := Or.inl wd_986
theorem lm_S_179 : xLm "SpoonShort" 179 m_S_personAsked.1 := Or.inl wd_991
theorem lm_S_183 : xLm "SpoonShort" 183 m_Rounds_play.1 := Or.inl wd_994
theorem lm_S_186 : xLm "SpoonShort" 186 m_Rounds_answer.1 := Or.inl wd_1057
theorem lm_S_189 : xLm "SpoonShort" 189 m_Rounds_answerOf.1 := Or.inl wd_1080
theorem lm_S_194 : xLm "SpoonShort" 194 m_Deal_waitsFor.1 := Or.inl wd_1089
theorem lm_S_197 : xLm "SpoonShort" 197 m_Evenings_shuffledBy.1 := Or.inl wd_1094
theorem lm_S_201 : xLm "SpoonShort" 201 m_Evenings_spend.1 := Or.inl wd_1121
theorem lm_S_205 : xLm "SpoonShort" 205 m_Evenings_answer.1 := Or.inl wd_1149
theorem lm_S_206 : xLm "SpoonShort" 206 m_Evenings_answerOf.1 := Or.inl wd_1153
theorem lm_S_209 : xLm "SpoonShort" 209 m_Evenings_playRounds.1 := Or.inl wd_1161
theorem lm_S_213 : xLm "SpoonShort" 213 m_Evenings_timesFirst.1 := Or.inl wd_1165
theorem lm_S_216 : xLm "SpoonShort" 216 m_Evenings_timesLast.1 := Or.inl wd_1170
theorem lm_S_219 : xLm "SpoonShort" 219 m_Evenings_better.1 := Or.inl wd_1178
theorem lm_S_223 : xLm "SpoonShort" 223 m_Evenings_leastValue.1 := Or.inl wd_1201
theorem lm_S_226 : xLm "SpoonShort" 226 m_Evenings_greatestValue.1 := Or.inl wd_1202
theorem lm_S_229 : xLm "SpoonShort" 229 m_Evenings_wouldBe.1 := Or.inl wd_1203
theorem lm_S_233 : xLm "SpoonShort" 233 m_Told_sheetAt.1 := Or.inl wd_819
theorem lm_S_245 : xLm "SpoonShort" 245 m_Odds_lie.1 := Or.inl wd_1220
theorem lm_S_249 : xLm "SpoonShort" 249 m_S_lies.1 := Or.inl wd_1216
theorem lm_S_253 : xLm "SpoonShort" 253 m_Odds_answer.1 := Or.inl wd_1237
theorem lm_S_254 : xLm "SpoonShort" 254 m_Odds_mayCome.1 := Or.inl wd_1249
theorem lm_S_262 : xLm "SpoonShort" 262 m_Odds_likely.1 := Or.inl wd_1254
theorem lm_S_266 : xLm "SpoonShort" 266 m_Odds_bestHandedOn.1 := Or.inl wd_1296
theorem lm_S_269 : xLm "SpoonShort" 269 m_Odds_likelyAlone.1 := Or.inl wd_1304
theorem lm_S_273 : xLm "SpoonShort" 273 m_Odds_soonestBy.1 := Or.inl wd_1319
theorem lm_S_283 : xLm "SpoonShort" 283 m_Odds_likelyKept.1 := Or.inl wd_1327
theorem lm_S_286 : xLm "SpoonShort" 286 m_Looks_lasts.1 := Or.inl wd_1335
theorem lm_S_290 : xLm "SpoonShort" 290 m_Table_lastOf.1 := Or.inl wd_1339
theorem lm_S_293 : xLm "SpoonShort" 293 m_Looks_bestEyes.1 := Or.inl wd_1344
theorem lm_S_296 : xLm "SpoonShort" 296 m_Table_people.1 := Or.inl wd_1355
theorem lm_S_299 : xLm "SpoonShort" 299 m_Looks_resting.1 := Or.inl wd_1356
theorem lm_S_302 : xLm "SpoonShort" 302 m_Looks_waysOf.1 := Or.inl wd_1375
theorem lm_S_305 : xLm "SpoonShort" 305 m_Looks_costOf.1 := Or.inl wd_1376
theorem lm_S_308 : xLm "SpoonShort" 308 m_Looks_farther.1 := Or.inl wd_1384
theorem lm_S_311 : xLm "SpoonShort" 311 m_Looks_lure.1 := Or.inl wd_1396
theorem lm_S_314 : xLm "SpoonShort" 314 m_Looks_touching.1 := Or.inl wd_1414
theorem lm_S_317 : xLm "SpoonShort" 317 m_S_filmAt.1 := Or.inl wd_1419
theorem lm_S_321 : xLm "SpoonShort" 321 m_Film_frames.1 := Or.inl wd_1423
theorem lm_S_326 : xLm "SpoonShort" 326 m_Film_tenth.1 := Or.inl wd_1424
theorem lm_S_329 : xLm "SpoonShort" 329 m_Film_who.1 := Or.inl wd_1425
theorem lm_S_332 : xLm "SpoonShort" 332 m_Film_answer.1 := Or.inl wd_1433
theorem lm_S_334 : xLm "SpoonShort" 334 m_Film_firstWith.1 := Or.inl wd_1473
theorem lm_S_337 : xLm "SpoonShort" 337 m_Film_above.1 := Or.inl wd_1474
theorem lm_S_340 : xLm "SpoonShort" 340 m_Film_upTo.1 := Or.inl wd_1475
theorem lm_S_343 : xLm "SpoonShort" 343 m_Film_likelyFirst.1 := Or.inl wd_1480
theorem lm_S_346 : xLm "SpoonShort" 346 m_S_imageAt.1 := Or.inl wd_1498
theorem lm_S_350 : xLm "SpoonShort" 350 m_Told_copy.1 := Or.inl wd_1502
theorem lm_S_354 : xLm "SpoonShort" 354 m_Row_set.1 := Or.inl wd_1509
theorem lm_Deal_11 : xLm "SpoonShort$Deal" 11 m_Row_init.1 := Or.inl wd_237
theorem lm_Deal_32 : xLm "SpoonShort$Deal" 32 m_Row_fill.1 := Or.inl wd_238
theorem lm_Deal_36 : xLm "SpoonShort$Deal" 36 m_Table_people.1 := Or.inl wd_886
theorem lm_Deal_45 : xLm "SpoonShort$Deal" 45 m_Table_alike.1 := Or.inl wd_887
theorem lm_Deal_50 : xLm "SpoonShort$Deal" 50 m_Table_kinds.1 := Or.inl wd_888
theorem lm_Deal_61 : xLm "SpoonShort$Deal" 61 m_Row_get.1 := Or.inl wd_889
theorem lm_Deal_65 : xLm "SpoonShort$Deal" 65 m_Row_add.1 := Or.inl wd_890
theorem lm_Deal_68 : xLm "SpoonShort$Deal" 68 m_Row_size.1 := Or.inl wd_894
theorem lm_Deal_71 : xLm "SpoonShort$Deal" 71 m_Deal_enter.1 := Or.inl wd_895
theorem lm_Deal_74 : xLm "SpoonShort$Deal" 74 m_Row_copy.1 := Or.inl wd_1055
theorem lm_Deal_78 : xLm "SpoonShort$Deal" 78 m_Deal_waitsFor.1 := Or.inl wd_1044
theorem lm_Deal_81 : xLm "SpoonShort$Deal" 81 m_Deal_waiting.1 := Or.inl wd_1045
theorem lm_Deal_85 : xLm "SpoonShort$Deal" 85 m_Deal_laneTo.1 := Or.inl wd_917
theorem lm_Deal_88 : xLm "SpoonShort$Deal" 88 m_Deal_holdsOf.1 := Or.inl wd_946
theorem lm_Deal_91 : xLm "SpoonShort$Deal" 91 m_Deal_hasAlike.1 := Or.inl wd_1014
theorem lm_Deal_95 : xLm "SpoonShort$Deal" 95 m_Deal_leave.1 := Or.inl wd_921
theorem lm_Deal_98 : xLm "SpoonShort$Deal" 98 m_Row_set.1 := Or.inl wd_899
theorem lm_Deeds_11 : xLm "SpoonShort$Deeds" 11 m_Deal_init.1 := Or.inl wd_232
theorem lm_Deeds_20 : xLm "SpoonShort$Deeds" 20 m_Row_init.1 := Or.inl wd_271
theorem lm_Deeds_30 : xLm "SpoonShort$Deeds" 30 m_Table_people.1 := Or.inl wd_880
theorem lm_Deeds_39 : xLm "SpoonShort$Deeds" 39 m_Table_alike.1 := Or.inl wd_881
theorem lm_Deeds_44 : xLm "SpoonShort$Deeds" 44 m_Deal_start.1 := Or.inl wd_882
theorem lm_Deeds_48 : xLm "SpoonShort$Deeds" 48 m_Row_clear.1 := Or.inl wd_900
theorem lm_Deeds_51 : xLm "SpoonShort$Deeds" 51 m_Row_fill.1 := Or.inl wd_901
theorem lm_Deeds_64 : xLm "SpoonShort$Deeds" 64 m_Row_size.1 := Or.inl wd_902
theorem lm_Deeds_73 : xLm "SpoonShort$Deeds" 73 m_Row_get.1 := Or.inl wd_904
theorem lm_Deeds_77 : xLm "SpoonShort$Deeds" 77 m_Deeds_happens.1 := Or.inl wd_905
theorem lm_Deeds_81 : xLm "SpoonShort$Deeds" 81 m_Deal_holdsCards.1 := Or.inl wd_909
theorem lm_Deeds_84 : xLm "SpoonShort$Deeds" 84 m_Deal_take.1 := Or.inl wd_913
theorem lm_Deeds_87 : xLm "SpoonShort$Deeds" 87 m_Deeds_handsOn.1 := Or.inl wd_925
theorem lm_Deeds_91 : xLm "SpoonShort$Deeds" 91 m_Deeds_reaches.1 := Or.inl wd_937
theorem lm_Deeds_95 : xLm "SpoonShort$Deeds" 95 m_Deal_holdsOf.1 := Or.inl wd_929
theorem lm_Deeds_98 : xLm "SpoonShort$Deeds" 98 m_Deal_handOn.1 := Or.inl wd_933
theorem lm_Deeds_101 : xLm "SpoonShort$Deeds" 101 m_Row_countOf.1 := Or.inl wd_941
theorem lm_Deeds_104 : xLm "SpoonShort$Deeds" 104 m_Deal_hasAlike.1 := Or.inl wd_942
theorem lm_Deeds_107 : xLm "SpoonShort$Deeds" 107 m_Row_add.1 := Or.inl wd_947
theorem lm_Deeds_110 : xLm "SpoonShort$Deeds" 110 m_Row_push.1 := Or.inl wd_948
theorem lm_Deeds_113 : xLm "SpoonShort$Deeds" 113 m_Deeds_withoutSpoon.1 := Or.inl wd_949
theorem lm_Deeds_116 : xLm "SpoonShort$Deeds" 116 m_Deal_away.1 := Or.inl wd_965
theorem lm_Deeds_119 : xLm "SpoonShort$Deeds" 119 m_Deal_waitsFor.1 := Or.inl wd_969
theorem lm_Deeds_122 : xLm "SpoonShort$Deeds" 122 m_Deeds_answerOf.1 := Or.inl wd_973
theorem lm_Evenings_11 : xLm "SpoonShort$Evenings" 11 m_Rounds_init.1 := Or.inr ⟨"SpoonShort", wd_345⟩
theorem lm_Evenings_20 : xLm "SpoonShort$Evenings" 20 m_Row_init.1 := Or.inl wd_347
theorem lm_Evenings_44 : xLm "SpoonShort$Evenings" 44 m_Table_init.1 := Or.inl wd_349
theorem lm_Evenings_53 : xLm "SpoonShort$Evenings" 53 m_Evenings_shuffle.1 := Or.inl wd_1098
theorem lm_Evenings_57 : xLm "SpoonShort$Evenings" 57 m_Row_clear.1 := Or.inl wd_1102
theorem lm_Evenings_60 : xLm "SpoonShort$Evenings" 60 m_Table_number.1 := Or.inl wd_1103
theorem lm_Evenings_64 : xLm "SpoonShort$Evenings" 64 m_Table_kinds.1 := Or.inl wd_1104
theorem lm_Evenings_68 : xLm "SpoonShort$Evenings" 68 m_Row_push.1 := Or.inl wd_1105
theorem lm_Evenings_71 : xLm "SpoonShort$Evenings" 71 m_Row_size.1 := Or.inl wd_1106
theorem lm_Evenings_74 : xLm "SpoonShort$Evenings" 74 m_Evenings_draw.1 := Or.inl wd_1107
theorem lm_Evenings_77 : xLm "SpoonShort$Evenings" 77 m_Row_swap.1 := Or.inl wd_1112
theorem lm_Evenings_91 : xLm "SpoonShort$Evenings" 91 m_Table_people.1 := Or.inl wd_1125
theorem lm_Evenings_94 : xLm "SpoonShort$Evenings" 94 m_Row_fill.1 := Or.inl wd_1126
theorem lm_Evenings_97 : xLm "SpoonShort$Evenings" 97 m_Evenings_playOfThoseLeft.1 := Or.inl wd_1127
theorem lm_Evenings_101 : xLm "SpoonShort$Evenings" 101 m_Row_get.1 := Or.inl wd_1135
theorem lm_Evenings_104 : xLm "SpoonShort$Evenings" 104 m_Table_copyEmpty.1 := Or.inl wd_1131
theorem lm_Evenings_107 : xLm "SpoonShort$Evenings" 107 m_Table_seat.1 := Or.inl wd_1136
theorem lm_Evenings_111 : xLm "SpoonShort$Evenings" 111 m_Rounds_play.1 := Or.inl wd_1141
theorem lm_Evenings_121 : xLm "SpoonShort$Evenings" 121 m_Table_lastOf.1 := Or.inl wd_1142
theorem lm_Evenings_125 : xLm "SpoonShort$Evenings" 125 m_Row_add.1 := Or.inl wd_1143
theorem lm_Evenings_128 : xLm "SpoonShort$Evenings" 128 m_Row_set.1 := Or.inl wd_1144
theorem lm_Evenings_131 : xLm "SpoonShort$Evenings" 131 m_Row_remove.1 := Or.inl wd_1145
theorem lm_Evenings_134 : xLm "SpoonShort$Evenings" 134 m_Row_countOf.1 := Or.inl wd_1169
theorem lm_Evenings_137 : xLm "SpoonShort$Evenings" 137 m_Evenings_change.1 := Or.inl wd_1188
theorem lm_Evenings_141 : xLm "SpoonShort$Evenings" 141 m_Evenings_playRounds.1 := Or.inl wd_1199
theorem lm_Evenings_145 : xLm "SpoonShort$Evenings" 145 m_Evenings_timesFirst.1 := Or.inl wd_1207
theorem lm_Evenings_148 : xLm "SpoonShort$Evenings" 148 m_Evenings_timesLast.1 := Or.inl wd_1200
theorem lm_Evenings_152 : xLm "SpoonShort$Evenings" 152 m_Evenings_greatestValue.1 := Or.inl wd_1182
theorem lm_Evenings_155 : xLm "SpoonShort$Evenings" 155 m_Evenings_leastValue.1 := Or.inl wd_1185
theorem lm_Evenings_158 : xLm "SpoonShort$Evenings" 158 m_Evenings_reseat.1 := Or.inl wd_1192
theorem lm_Evenings_161 : xLm "SpoonShort$Evenings" 161 m_Table_copy.1 := Or.inl wd_1196
theorem lm_Evenings_164 : xLm "SpoonShort$Evenings" 164 m_Table_setOf.1 := Or.inl wd_1197
theorem lm_Evenings_168 : xLm "SpoonShort$Evenings" 168 m_Table_of.1 := Or.inl wd_1198
theorem lm_Film_11 : xLm "SpoonShort$Film" 11 m_Row_init.1 := Or.inl wd_107
theorem lm_Film_23 : xLm "SpoonShort$Film" 23 m_Row_clear.1 := Or.inl wd_542
theorem lm_Film_26 : xLm "SpoonShort$Film" 26 m_Row_copy.1 := Or.inl wd_803
theorem lm_Film_30 : xLm "SpoonShort$Film" 30 m_Row_isFull.1 := Or.inl wd_734
theorem lm_Film_34 : xLm "SpoonShort$Film" 34 m_Row_push.1 := Or.inl wd_750
theorem lm_Film_37 : xLm "SpoonShort$Film" 37 m_Row_size.1 := Or.inl wd_739
theorem lm_Film_41 : xLm "SpoonShort$Film" 41 m_Row_get.1 := Or.inl wd_744
theorem lm_Film_45 : xLm "SpoonShort$Film" 45 m_Film_frames.1 := Or.inl wd_1441
theorem lm_Film_48 : xLm "SpoonShort$Film" 48 m_Film_who.1 := Or.inl wd_1442
theorem lm_Film_51 : xLm "SpoonShort$Film" 51 m_Film_firstWith.1 := Or.inl wd_1447
theorem lm_Film_54 : xLm "SpoonShort$Film" 54 m_Film_tenth.1 := Or.inl wd_1459
theorem lm_Film_57 : xLm "SpoonShort$Film" 57 m_Film_lies.1 := Or.inl wd_1437
theorem lm_Film_60 : xLm "SpoonShort$Film" 60 m_Film_sure.1 := Or.inl wd_1443
theorem lm_Film_63 : xLm "SpoonShort$Film" 63 m_Film_may.1 := Or.inl wd_1465
theorem lm_Film_66 : xLm "SpoonShort$Film" 66 m_Film_shorts.1 := Or.inl wd_1469
theorem lm_Film_69 : xLm "SpoonShort$Film" 69 m_Film_leastOfOthers.1 := Or.inl wd_1451
theorem lm_Film_73 : xLm "SpoonShort$Film" 73 m_Film_upTo.1 := Or.inl wd_1455
theorem lm_Film_76 : xLm "SpoonShort$Film" 76 m_Film_above.1 := Or.inl wd_1460
theorem lm_Film_85 : xLm "SpoonShort$Film" 85 m_Film_waysOfOthers.1 := Or.inl wd_1484
theorem lm_Film_89 : xLm "SpoonShort$Film" 89 m_S_leastTerms.1 := Or.inr ⟨"SpoonShort", wd_1489⟩
theorem lm_Looks_13 : xLm "SpoonShort$Looks" 13 m_Table_init.1 := Or.inl wd_440
theorem lm_Looks_20 : xLm "SpoonShort$Looks" 20 m_Row_init.1 := Or.inl wd_442
theorem lm_Looks_27 : xLm "SpoonShort$Looks" 27 m_Row_fill.1 := Or.inl wd_443
theorem lm_Looks_31 : xLm "SpoonShort$Looks" 31 m_Table_lastOf.1 := Or.inl wd_1338
theorem lm_Looks_35 : xLm "SpoonShort$Looks" 35 m_Table_copy.1 := Or.inl wd_1348
theorem lm_Looks_39 : xLm "SpoonShort$Looks" 39 m_Table_setOf.1 := Or.inl wd_1349
theorem lm_Looks_43 : xLm "SpoonShort$Looks" 43 m_Looks_lasts.1 := Or.inl wd_1350
theorem lm_Looks_47 : xLm "SpoonShort$Looks" 47 m_Looks_weigh.1 := Or.inl wd_1364
theorem lm_Looks_51 : xLm "SpoonShort$Looks" 51 m_Row_get.1 := Or.inl wd_1374
theorem lm_Looks_55 : xLm "SpoonShort$Looks" 55 m_Table_people.1 := Or.inl wd_1360
theorem lm_Looks_59 : xLm "SpoonShort$Looks" 59 m_Row_set.1 := Or.inl wd_1368
theorem lm_Looks_62 : xLm "SpoonShort$Looks" 62 m_Row_add.1 := Or.inl wd_1369
theorem lm_Looks_65 : xLm "SpoonShort$Looks" 65 m_Looks_waysOf.1 := Or.inl wd_1361
theorem lm_Looks_68 : xLm "SpoonShort$Looks" 68 m_Looks_isRest.1 := Or.inl wd_1370
theorem lm_Looks_72 : xLm "SpoonShort$Looks" 72 m_Looks_waits.1 := Or.inl wd_1387
theorem lm_Looks_81 : xLm "SpoonShort$Looks" 81 m_Table_waitOf.1 := Or.inl wd_1390
theorem lm_Looks_84 : xLm "SpoonShort$Looks" 84 m_Table_of.1 := Or.inl wd_1402
theorem lm_Looks_87 : xLm "SpoonShort$Looks" 87 m_Looks_looksIn.1 := Or.inl wd_1403
theorem lm_Looks_91 : xLm "SpoonShort$Looks" 91 m_Table_number.1 := Or.inl wd_1406
theorem lm_Looks_94 : xLm "SpoonShort$Looks" 94 m_Table_goesInto.1 := Or.inl wd_1407
theorem lm_Looks_98 : xLm "SpoonShort$Looks" 98 m_Looks_touching.1 := Or.inl wd_1399
theorem lm_Looks_101 : xLm "SpoonShort$Looks" 101 m_Integer_bitCount.1 := Or.inl wd_1408
theorem lm_Odds_11 : xLm "SpoonShort$Odds" 11 m_Row_init.1 := Or.inl wd_394
theorem lm_Odds_35 : xLm "SpoonShort$Odds" 35 m_Odds_rank.1 := Or.inl wd_395
theorem lm_Odds_39 : xLm "SpoonShort$Odds" 39 m_Row_push.1 := Or.inl wd_398
theorem lm_Odds_42 : xLm "SpoonShort$Odds" 42 m_Table_kinds.1 := Or.inl wd_1224
theorem lm_Odds_51 : xLm "SpoonShort$Odds" 51 m_Table_alike.1 := Or.inl wd_1225
theorem lm_Odds_56 : xLm "SpoonShort$Odds" 56 m_Table_pack.1 := Or.inl wd_1226
theorem lm_Odds_62 : xLm "SpoonShort$Odds" 62 m_Row_fill.1 := Or.inl wd_1227
theorem lm_Odds_66 : xLm "SpoonShort$Odds" 66 m_Table_number.1 := Or.inl wd_1228
theorem lm_Odds_70 : xLm "SpoonShort$Odds" 70 m_Row_set.1 := Or.inl wd_1229
theorem lm_Odds_76 : xLm "SpoonShort$Odds" 76 m_Row_size.1 := Or.inl wd_1230
theorem lm_Odds_79 : xLm "SpoonShort$Odds" 79 m_Row_get.1 := Or.inl wd_1231
theorem lm_Odds_82 : xLm "SpoonShort$Odds" 82 m_Odds_see.1 := Or.inl wd_1232
theorem lm_Odds_86 : xLm "SpoonShort$Odds" 86 m_Row_add.1 := Or.inl wd_1236
theorem lm_Odds_92 : xLm "SpoonShort$Odds" 92 m_Odds_starved.1 := Or.inl wd_1241
theorem lm_Odds_95 : xLm "SpoonShort$Odds" 95 m_Odds_forget.1 := Or.inl wd_1258
theorem lm_Odds_98 : xLm "SpoonShort$Odds" 98 m_Odds_goodOrders.1 := Or.inl wd_1262
theorem lm_Odds_102 : xLm "SpoonShort$Odds" 102 m_Odds_orders.1 := Or.inl wd_1269
theorem lm_Odds_105 : xLm "SpoonShort$Odds" 105 m_S_leastTerms.1 := Or.inr ⟨"SpoonShort", wd_1289⟩
theorem lm_Odds_109 : xLm "SpoonShort$Odds" 109 m_Odds_hasAlike.1 := Or.inl wd_1265
theorem lm_Odds_113 : xLm "SpoonShort$Odds" 113 m_Odds_key.1 := Or.inl wd_1273
theorem lm_Odds_116 : xLm "SpoonShort$Odds" 116 m_Odds_draw.1 := Or.inl wd_1277
theorem lm_Odds_119 : xLm "SpoonShort$Odds" 119 m_Odds_bestOrders.1 := Or.inl wd_1281
theorem lm_Odds_122 : xLm "SpoonShort$Odds" 122 m_Odds_ordersWithout.1 := Or.inl wd_1284
theorem lm_Odds_131 : xLm "SpoonShort$Odds" 131 m_Odds_choicesWith.1 := Or.inl wd_1308
theorem lm_Odds_135 : xLm "SpoonShort$Odds" 135 m_Odds_choices.1 := Or.inl wd_1312
theorem lm_Reader_11 : xLm "SpoonShort$Reader" 11 m_Row_init.1 := Or.inl wd_178
theorem lm_Reader_22 : xLm "SpoonShort$Reader" 22 m_Sheet_init.1 := Or.inr ⟨"SpoonShort", wd_180⟩
theorem lm_Reader_33 : xLm "SpoonShort$Reader" 33 m_Row_copy.1 := Or.inl wd_525
theorem lm_Reader_37 : xLm "SpoonShort$Reader" 37 m_Sheet_clear.1 := Or.inl wd_532
theorem lm_Reader_60 : xLm "SpoonShort$Reader" 60 m_Reader_step.1 := Or.inl wd_543
theorem lm_Reader_66 : xLm "SpoonShort$Reader" 66 m_Reader_readLine.1 := Or.inl wd_566
theorem lm_Reader_69 : xLm "SpoonShort$Reader" 69 m_Reader_stands.1 := Or.inl wd_759
theorem lm_Reader_73 : xLm "SpoonShort$Reader" 73 m_Row_size.1 := Or.inl wd_547
theorem lm_Reader_77 : xLm "SpoonShort$Reader" 77 m_Reader_note.1 := Or.inl wd_696
theorem lm_Reader_85 : xLm "SpoonShort$Reader" 85 m_Table_people.1 := Or.inl wd_691
theorem lm_Reader_90 : xLm "SpoonShort$Reader" 90 m_Table_kinds.1 := Or.inl wd_763
theorem lm_Reader_93 : xLm "SpoonShort$Reader" 93 m_Table_pack.1 := Or.inl wd_767
theorem lm_Reader_96 : xLm "SpoonShort$Reader" 96 m_Table_allHold.1 := Or.inl wd_772
theorem lm_Reader_102 : xLm "SpoonShort$Reader" 102 m_Reader_formOf.1 := Or.inl wd_570
theorem lm_Reader_106 : xLm "SpoonShort$Reader" 106 m_Reader_breakOff.1 := Or.inl wd_651
theorem lm_Reader_109 : xLm "SpoonShort$Reader" 109 m_Row_clear.1 := Or.inl wd_655
theorem lm_Reader_110 : xLm "SpoonShort$Reader" 110 m_Reader_leastNumbers.1 := Or.inl wd_656
theorem lm_Reader_113 : xLm "SpoonShort$Reader" 113 m_Reader_mostNumbers.1 := Or.inl wd_659
theorem lm_Reader_116 : xLm "SpoonShort$Reader" 116 m_Reader_readNumbers.1 := Or.inl wd_662
theorem lm_Reader_119 : xLm "SpoonShort$Reader" 119 m_Reader_readLaw.1 := Or.inl wd_671
theorem lm_Reader_122 : xLm "SpoonShort$Reader" 122 m_Reader_tell.1 := Or.inl wd_683
theorem lm_Reader_125 : xLm "SpoonShort$Reader" 125 m_Reader_numberHere.1 := Or.inl wd_666
theorem lm_Reader_128 : xLm "SpoonShort$Reader" 128 m_Row_push.1 := Or.inl wd_670
theorem lm_Reader_131 : xLm "SpoonShort$Reader" 131 m_Reader_lawHere.1 := Or.inl wd_675
theorem lm_Reader_139 : xLm "SpoonShort$Reader" 139 m_Reader_says.1 := Or.inl wd_579
theorem lm_Reader_149 : xLm "SpoonShort$Reader" 149 m_Reader_tableForm.1 := Or.inl wd_574
theorem lm_Reader_154 : xLm "SpoonShort$Reader" 154 m_Reader_deedForm.1 := Or.inl wd_639
theorem lm_Reader_187 : xLm "SpoonShort$Reader" 187 m_Reader_tellPerson.1 := Or.inl wd_687
theorem lm_Reader_190 : xLm "SpoonShort$Reader" 190 m_Reader_tellJumpy.1 := Or.inl wd_709
theorem lm_Reader_193 : xLm "SpoonShort$Reader" 193 m_Reader_tellLaw.1 := Or.inl wd_714
theorem lm_Reader_198 : xLm "SpoonShort$Reader" 198 m_Reader_tellKinds.1 := Or.inl wd_718
theorem lm_Reader_206 : xLm "SpoonShort$Reader" 206 m_Reader_tellFrame.1 := Or.inl wd_726
theorem lm_Reader_209 : xLm "SpoonShort$Reader" 209 m_Reader_tellDeed.1 := Or.inl wd_751
theorem lm_Reader_212 : xLm "SpoonShort$Reader" 212 m_Reader_tellNumber.1 := Or.inl wd_755
theorem lm_Reader_215 : xLm "SpoonShort$Reader" 215 m_Reader_check.1 := Or.inl wd_700
theorem lm_Reader_219 : xLm "SpoonShort$Reader" 219 m_Row_get.1 := Or.inl wd_548
theorem lm_Reader_222 : xLm "SpoonShort$Reader" 222 m_Table_setNumber.1 := Or.inl wd_705
theorem lm_Reader_225 : xLm "SpoonShort$Reader" 225 m_Table_setOf.1 := Or.inl wd_704
theorem lm_Reader_234 : xLm "SpoonShort$Reader" 234 m_Row_isFull.1 := Or.inl wd_722
theorem lm_Reader_244 : xLm "SpoonShort$Reader" 244 m_Film_isFull.1 := Or.inl wd_730
theorem lm_Reader_247 : xLm "SpoonShort$Reader" 247 m_Film_frames.1 := Or.inl wd_735
theorem lm_Reader_250 : xLm "SpoonShort$Reader" 250 m_Film_tenth.1 := Or.inl wd_740
theorem lm_Reader_256 : xLm "SpoonShort$Reader" 256 m_Film_push.1 := Or.inl wd_746
theorem lm_Reader_258 : xLm "SpoonShort$Reader" 258 m_Reader_isBlank.1 := Or.inl wd_549
theorem lm_Reader_262 : xLm "SpoonShort$Reader" 262 m_Reader_isLetter.1 := Or.inl wd_552
theorem lm_Reader_265 : xLm "SpoonShort$Reader" 265 m_Reader_endOfLetters.1 := Or.inl wd_555
theorem lm_Reader_268 : xLm "SpoonShort$Reader" 268 m_Reader_isDigit.1 := Or.inl wd_559
theorem lm_Reader_271 : xLm "SpoonShort$Reader" 271 m_Reader_endOfDigits.1 := Or.inl wd_562
theorem lm_Reader_274 : xLm "SpoonShort$Reader" 274 m_String_length.1 := Or.inl wd_583
theorem lm_Reader_279 : xLm "SpoonShort$Reader" 279 m_String_charAt.1 := Or.inl wd_593
theorem lm_Rounds_11 : xLm "SpoonShort$Rounds" 11 m_Deal_init.1 := Or.inl wd_305
theorem lm_Rounds_20 : xLm "SpoonShort$Rounds" 20 m_Row_init.1 := Or.inl wd_307
theorem lm_Rounds_29 : xLm "SpoonShort$Rounds" 29 m_Table_init.1 := Or.inl wd_309
theorem lm_Rounds_40 : xLm "SpoonShort$Rounds" 40 m_Table_people.1 := Or.inl wd_998
theorem lm_Rounds_44 : xLm "SpoonShort$Rounds" 44 m_Rounds_samePacesEach.1 := Or.inl wd_999
theorem lm_Rounds_48 : xLm "SpoonShort$Rounds" 48 m_Deal_start.1 := Or.inl wd_1008
theorem lm_Rounds_52 : xLm "SpoonShort$Rounds" 52 m_Row_fill.1 := Or.inl wd_1009
theorem lm_Rounds_63 : xLm "SpoonShort$Rounds" 63 m_Deal_firstAlike.1 := Or.inl wd_1010
theorem lm_Rounds_69 : xLm "SpoonShort$Rounds" 69 m_Table_goesInto.1 := Or.inl wd_1003
theorem lm_Rounds_73 : xLm "SpoonShort$Rounds" 73 m_Rounds_turn.1 := Or.inl wd_1015
theorem lm_Rounds_77 : xLm "SpoonShort$Rounds" 77 m_Rounds_leap.1 := Or.inl wd_1036
theorem lm_Rounds_80 : xLm "SpoonShort$Rounds" 80 m_Table_of.1 := Or.inl wd_1002
theorem lm_Rounds_84 : xLm "SpoonShort$Rounds" 84 m_Deal_liesAs.1 := Or.inl wd_1040
theorem lm_Rounds_88 : xLm "SpoonShort$Rounds" 88 m_Row_size.1 := Or.inl wd_1049
theorem lm_Rounds_91 : xLm "SpoonShort$Rounds" 91 m_Row_get.1 := Or.inl wd_1050
theorem lm_Rounds_95 : xLm "SpoonShort$Rounds" 95 m_Row_add.1 := Or.inl wd_1033
theorem lm_Rounds_98 : xLm "SpoonShort$Rounds" 98 m_Deal_copy.1 := Or.inl wd_1051
theorem lm_Rounds_102 : xLm "SpoonShort$Rounds" 102 m_Row_copy.1 := Or.inl wd_1056
theorem lm_Rounds_105 : xLm "SpoonShort$Rounds" 105 m_Deal_take.1 := Or.inl wd_1019
theorem lm_Rounds_108 : xLm "SpoonShort$Rounds" 108 m_Rounds_choice.1 := Or.inl wd_1020
theorem lm_Rounds_112 : xLm "SpoonShort$Rounds" 112 m_Deal_handOn.1 := Or.inl wd_1032
theorem lm_Rounds_115 : xLm "SpoonShort$Rounds" 115 m_Deal_holdsOf.1 := Or.inl wd_1034
theorem lm_Rounds_118 : xLm "SpoonShort$Rounds" 118 m_Table_alike.1 := Or.inl wd_1035
theorem lm_Rounds_121 : xLm "SpoonShort$Rounds" 121 m_Deal_greatest.1 := Or.inl wd_1024
theorem lm_Rounds_124 : xLm "SpoonShort$Rounds" 124 m_Deal_fewest.1 := Or.inl wd_1028
theorem lm_Rounds_127 : xLm "SpoonShort$Rounds" 127 m_Rounds_mends.1 := Or.inl wd_1061
theorem lm_Rounds_131 : xLm "SpoonShort$Rounds" 131 m_Table_lastOf.1 := Or.inl wd_1068
theorem lm_Rounds_134 : xLm "SpoonShort$Rounds" 134 m_Table_spoonOf.1 := Or.inl wd_1084
theorem lm_Rounds_138 : xLm "SpoonShort$Rounds" 138 m_Table_copy.1 := Or.inl wd_1065
theorem lm_Rounds_141 : xLm "SpoonShort$Rounds" 141 m_Table_setOf.1 := Or.inl wd_1066
theorem lm_Rounds_145 : xLm "SpoonShort$Rounds" 145 m_Rounds_play.1 := Or.inl wd_1067
theorem lm_Row_17 : xLm "SpoonShort$Row" 17 m_Row_get.1 := Or.inl wd_861
theorem lm_Row_21 : xLm "SpoonShort$Row" 21 m_Row_set.1 := Or.inl wd_1116
theorem lm_Row_34 : xLm "SpoonShort$Row" 34 m_Arrays_fill.1 := Or.inl wd_80
theorem lm_Sheet_11 : xLm "SpoonShort$Sheet" 11 m_Table_init.1 := Or.inl wd_60
theorem lm_Sheet_20 : xLm "SpoonShort$Sheet" 20 m_Row_init.1 := Or.inl wd_99
theorem lm_Sheet_38 : xLm "SpoonShort$Sheet" 38 m_Film_init.1 := Or.inr ⟨"SpoonShort", wd_102⟩
theorem lm_Sheet_43 : xLm "SpoonShort$Sheet" 43 m_Table_clear.1 := Or.inl wd_536
theorem lm_Sheet_46 : xLm "SpoonShort$Sheet" 46 m_Row_clear.1 := Or.inl wd_537
theorem lm_Sheet_47 : xLm "SpoonShort$Sheet" 47 m_Film_clear.1 := Or.inl wd_538
theorem lm_Sheet_48 : xLm "SpoonShort$Sheet" 48 m_Table_copy.1 := Or.inl wd_793
theorem lm_Sheet_52 : xLm "SpoonShort$Sheet" 52 m_Row_copy.1 := Or.inl wd_798
theorem lm_Sheet_55 : xLm "SpoonShort$Sheet" 55 m_Film_copy.1 := Or.inl wd_799
theorem lm_Table_11 : xLm "SpoonShort$Table" 11 m_Row_init.1 := Or.inl wd_65
theorem lm_Table_23 : xLm "SpoonShort$Table" 23 m_Table_clear.1 := Or.inl wd_66
theorem lm_Table_26 : xLm "SpoonShort$Table" 26 m_Row_fill.1 := Or.inl wd_70
theorem lm_Table_30 : xLm "SpoonShort$Table" 30 m_Row_set.1 := Or.inl wd_83
theorem lm_Table_33 : xLm "SpoonShort$Table" 33 m_Table_setOf.1 := Or.inl wd_87
theorem lm_Table_37 : xLm "SpoonShort$Table" 37 m_Row_copy.1 := Or.inl wd_797
theorem lm_Table_41 : xLm "SpoonShort$Table" 41 m_Table_people.1 := Or.inl wd_776
theorem lm_Table_45 : xLm "SpoonShort$Table" 45 m_Table_of.1 := Or.inl wd_1007
theorem lm_Table_49 : xLm "SpoonShort$Table" 49 m_Row_add.1 := Or.inl wd_1140
theorem lm_Table_52 : xLm "SpoonShort$Table" 52 m_Row_get.1 := Or.inl wd_695
theorem lm_Table_56 : xLm "SpoonShort$Table" 56 m_Table_kinds.1 := Or.inl wd_771
theorem lm_Table_59 : xLm "SpoonShort$Table" 59 m_Table_alike.1 := Or.inl wd_777
theorem lm_Table_62 : xLm "SpoonShort$Table" 62 m_Row_countOf.1 := Or.inl wd_857
theorem lm_Table_65 : xLm "SpoonShort$Table" 65 m_Row_size.1 := Or.inl wd_862
theorem lm_Table_68 : xLm "SpoonShort$Table" 68 m_Table_allHold.1 := Or.inl wd_863
theorem lm_Table_71 : xLm "SpoonShort$Table" 71 m_Table_waitOf.1 := Or.inl wd_1076
theorem lm_Table_74 : xLm "SpoonShort$Table" 74 m_Table_spoonOf.1 := Or.inl wd_1072
theorem lm_Told_11 : xLm "SpoonShort$Told" 11 m_Row_init.1 := Or.inl wd_39
theorem lm_Told_25 : xLm "SpoonShort$Told" 25 m_Sheet_init.1 := Or.inr ⟨"SpoonShort", wd_54⟩
theorem lm_Told_34 : xLm "SpoonShort$Told" 34 m_Row_fill.1 := Or.inl wd_148
theorem lm_Told_38 : xLm "SpoonShort$Told" 38 m_Row_reaches.1 := Or.inl wd_509
theorem lm_Told_42 : xLm "SpoonShort$Told" 42 m_Row_get.1 := Or.inl wd_513
theorem lm_Told_46 : xLm "SpoonShort$Told" 46 m_Told_howMany.1 := Or.inl wd_804
theorem lm_Told_49 : xLm "SpoonShort$Told" 49 m_Told_slotAt.1 := Or.inl wd_785
theorem lm_Told_53 : xLm "SpoonShort$Told" 53 m_Sheet_copy.1 := Or.inl wd_789
theorem lm_Told_57 : xLm "SpoonShort$Told" 57 m_Row_set.1 := Or.inl wd_805
theorem lm_Told_60 : xLm "SpoonShort$Told" 60 m_Row_copy.1 := Or.inl wd_1506
theorem lm_Told_66 : xLm "SpoonShort$Told" 66 m_Told_sheetAt.1 := Or.inl wd_1507
theorem lm_Told_70 : xLm "SpoonShort$Told" 70 m_Told_keep.1 := Or.inl wd_1508
theorem lm_law_9 : xLm "SpoonShortLaw" 9 m_S_init.1 := Or.inl wd_25
theorem lm_law_12 : xLm "SpoonShortLaw" 12 m_M_init.1 := Or.inl wd_1516
theorem lm_law_13 : xLm "SpoonShortLaw" 13 m_S_feed.1 := Or.inl wd_480
theorem lm_law_17 : xLm "SpoonShortLaw" 17 m_M_feed.1 := Or.inl wd_1766
theorem lm_law_18 : xLm "SpoonShortLaw" 18 m_S_end.1 := Or.inl wd_493
theorem lm_law_22 : xLm "SpoonShortLaw" 22 m_M_end.1 := Or.inl wd_1774
theorem lm_law_23 : xLm "SpoonShortLaw" 23 m_S_text.1 := Or.inl wd_501
theorem lm_law_27 : xLm "SpoonShortLaw" 27 m_M_text.1 := Or.inl wd_1781
theorem lm_law_28 : xLm "SpoonShortLaw" 28 m_S_fault.1 := Or.inl wd_807
theorem lm_law_31 : xLm "SpoonShortLaw" 31 m_M_fault.1 := Or.inl wd_1906
theorem lm_law_32 : xLm "SpoonShortLaw" 32 m_S_table.1 := Or.inl wd_811
theorem lm_law_35 : xLm "SpoonShortLaw" 35 m_M_table.1 := Or.inl wd_1910
theorem lm_law_36 : xLm "SpoonShortLaw" 36 m_S_person.1 := Or.inl wd_827
theorem lm_law_40 : xLm "SpoonShortLaw" 40 m_M_person.1 := Or.inl wd_1930
theorem lm_law_41 : xLm "SpoonShortLaw" 41 m_S_card.1 := Or.inl wd_839
theorem lm_law_44 : xLm "SpoonShortLaw" 44 m_M_card.1 := Or.inl wd_1938
theorem lm_law_45 : xLm "SpoonShortLaw" 45 m_S_fits.1 := Or.inl wd_849
theorem lm_law_48 : xLm "SpoonShortLaw" 48 m_M_fits.1 := Or.inl wd_1942
theorem lm_law_49 : xLm "SpoonShortLaw" 49 m_S_deed.1 := Or.inl wd_864
theorem lm_law_52 : xLm "SpoonShortLaw" 52 m_M_deed.1 := Or.inl wd_1950
theorem lm_law_53 : xLm "SpoonShortLaw" 53 m_S_stop.1 := Or.inl wd_872
theorem lm_law_56 : xLm "SpoonShortLaw" 56 m_M_stop.1 := Or.inl wd_1966
theorem lm_law_57 : xLm "SpoonShortLaw" 57 m_S_state.1 := Or.inl wd_953
theorem lm_law_60 : xLm "SpoonShortLaw" 60 m_M_state.1 := Or.inl wd_2014
theorem lm_law_61 : xLm "SpoonShortLaw" 61 m_S_holds.1 := Or.inl wd_977
theorem lm_law_65 : xLm "SpoonShortLaw" 65 m_M_holds.1 := Or.inl wd_2022
theorem lm_law_66 : xLm "SpoonShortLaw" 66 m_S_round.1 := Or.inl wd_987
theorem lm_law_69 : xLm "SpoonShortLaw" 69 m_M_round.1 := Or.inl wd_2030
theorem lm_law_70 : xLm "SpoonShortLaw" 70 m_S_behind.1 := Or.inl wd_1085
theorem lm_law_73 : xLm "SpoonShortLaw" 73 m_M_behind.1 := Or.inl wd_2078
theorem lm_law_74 : xLm "SpoonShortLaw" 74 m_S_shuffled.1 := Or.inl wd_1090
theorem lm_law_77 : xLm "SpoonShortLaw" 77 m_M_shuffled.1 := Or.inl wd_2082
theorem lm_law_78 : xLm "SpoonShortLaw" 78 m_S_evening.1 := Or.inl wd_1117
theorem lm_law_81 : xLm "SpoonShortLaw" 81 m_M_evening.1 := Or.inl wd_2095
theorem lm_law_82 : xLm "SpoonShortLaw" 82 m_S_luck.1 := Or.inl wd_1157
theorem lm_law_86 : xLm "SpoonShortLaw" 86 m_M_luck.1 := Or.inl wd_2107
theorem lm_law_87 : xLm "SpoonShortLaw" 87 m_S_otherwise.1 := Or.inl wd_1174
theorem lm_law_91 : xLm "SpoonShortLaw" 91 m_M_otherwise.1 := Or.inl wd_2115
theorem lm_law_92 : xLm "SpoonShortLaw" 92 m_S_hand.1 := Or.inl wd_1208
theorem lm_law_95 : xLm "SpoonShortLaw" 95 m_M_hand2.1 := Or.inl wd_2139
theorem lm_law_96 : xLm "SpoonShortLaw" 96 m_S_unseen.1 := Or.inl wd_1212
theorem lm_law_99 : xLm "SpoonShortLaw" 99 m_M_unseen.1 := Or.inl wd_2143
theorem lm_law_100 : xLm "SpoonShortLaw" 100 m_S_within.1 := Or.inl wd_1245
theorem lm_law_104 : xLm "SpoonShortLaw" 104 m_M_within.1 := Or.inl wd_2155
theorem lm_law_105 : xLm "SpoonShortLaw" 105 m_S_kept.1 := Or.inl wd_1292
theorem lm_law_108 : xLm "SpoonShortLaw" 108 m_M_kept.1 := Or.inl wd_2214
theorem lm_law_109 : xLm "SpoonShortLaw" 109 m_S_alone.1 := Or.inl wd_1300
theorem lm_law_113 : xLm "SpoonShortLaw" 113 m_M_alone.1 := Or.inl wd_2218
theorem lm_law_114 : xLm "SpoonShortLaw" 114 m_S_soonest.1 := Or.inl wd_1315
theorem lm_law_118 : xLm "SpoonShortLaw" 118 m_M_soonest.1 := Or.inl wd_2229
theorem lm_law_119 : xLm "SpoonShortLaw" 119 m_S_keeps.1 := Or.inl wd_1323
theorem lm_law_122 : xLm "SpoonShortLaw" 122 m_M_keeps.1 := Or.inl wd_2233
theorem lm_law_123 : xLm "SpoonShortLaw" 123 m_S_looks.1 := Or.inl wd_1331
theorem lm_law_126 : xLm "SpoonShortLaw" 126 m_M_looks.1 := Or.inl wd_2237
theorem lm_law_127 : xLm "SpoonShortLaw" 127 m_S_often.1 := Or.inl wd_1340
theorem lm_law_130 : xLm "SpoonShortLaw" 130 m_M_often.1 := Or.inl wd_2245
theorem lm_law_131 : xLm "SpoonShortLaw" 131 m_S_rests.1 := Or.inl wd_1351
theorem lm_law_134 : xLm "SpoonShortLaw" 134 m_M_rests.1 := Or.inl wd_2249
theorem lm_law_135 : xLm "SpoonShortLaw" 135 m_S_even.1 := Or.inl wd_1380
theorem lm_law_138 : xLm "SpoonShortLaw" 138 m_M_even.1 := Or.inl wd_2265
theorem lm_law_139 : xLm "SpoonShortLaw" 139 m_S_feint.1 := Or.inl wd_1392
theorem lm_law_142 : xLm "SpoonShortLaw" 142 m_M_feint.1 := Or.inl wd_2273
theorem lm_law_143 : xLm "SpoonShortLaw" 143 m_S_frame.1 := Or.inl wd_1415
theorem lm_law_146 : xLm "SpoonShortLaw" 146 m_M_frame.1 := Or.inl wd_2284
theorem lm_law_147 : xLm "SpoonShortLaw" 147 m_S_film.1 := Or.inl wd_1429
theorem lm_law_150 : xLm "SpoonShortLaw" 150 m_M_film.1 := Or.inl wd_2296
theorem lm_law_151 : xLm "SpoonShortLaw" 151 m_S_pulled.1 := Or.inl wd_1476
theorem lm_law_154 : xLm "SpoonShortLaw" 154 m_M_pulled.1 := Or.inl wd_2320
theorem lm_law_155 : xLm "SpoonShortLaw" 155 m_S_count.1 := Or.inl wd_1490
theorem lm_law_158 : xLm "SpoonShortLaw" 158 m_M_count.1 := Or.inl wd_2324
theorem lm_law_159 : xLm "SpoonShortLaw" 159 m_S_image.1 := Or.inl wd_1494
theorem lm_law_163 : xLm "SpoonShortLaw" 163 m_M_image.1 := Or.inl wd_2328
theorem lm_law_164 : xLm "SpoonShortLaw" 164 m_S_again.1 := Or.inl wd_1510
theorem lm_law_167 : xLm "SpoonShortLaw" 167 m_M_again.1 := Or.inl wd_2339
theorem lm_M_143 : xLm "SpoonShortModel" 143 m_M_copyRow.1 := Or.inl wd_2336
theorem lm_M_147 : xLm "SpoonShortModel" 147 m_M_in.1 := Or.inl wd_1778
theorem lm_M_151 : xLm "SpoonShortModel" 151 m_M_four.1 := Or.inl wd_1770
theorem lm_M_161 : xLm "SpoonShortModel" 161 m_M_see.1 := Or.inl wd_1801
theorem lm_M_187 : xLm "SpoonShortModel" 187 m_M_later.1 := Or.inl wd_1836
theorem lm_M_195 : xLm "SpoonShortModel" 195 m_M_fails.1 := Or.inl wd_1828
theorem lm_M_199 : xLm "SpoonShortModel" 199 m_M_bad.1 := Or.inl wd_1848
theorem lm_M_202 : xLm "SpoonShortModel" 202 m_M_token.1 := Or.inl wd_1797
theorem lm_M_205 : xLm "SpoonShortModel" 205 m_M_take.1 := Or.inl wd_1844
theorem lm_M_211 : xLm "SpoonShortModel" 211 m_M_greater.1 := Or.inl wd_1856
theorem lm_M_236 : xLm "SpoonShortModel" 236 m_M_plainOf.1 := Or.inl wd_1817
theorem lm_M_246 : xLm "SpoonShortModel" 246 m_M_full.1 := Or.inl wd_1832
theorem lm_M_250 : xLm "SpoonShortModel" 250 m_M_personLine.1 := Or.inl wd_1840
theorem lm_M_253 : xLm "SpoonShortModel" 253 m_M_lawLine.1 := Or.inl wd_1852
theorem lm_M_258 : xLm "SpoonShortModel" 258 m_M_kindsLine.1 := Or.inl wd_1868
theorem lm_M_275 : xLm "SpoonShortModel" 275 m_M_deedBy.1 := Or.inl wd_1876
theorem lm_M_283 : xLm "SpoonShortModel" 283 m_M_has.1 := Or.inl wd_1895
theorem lm_M_287 : xLm "SpoonShortModel" 287 m_M_tableLine.1 := Or.inl wd_1813
theorem lm_M_291 : xLm "SpoonShortModel" 291 m_M_heapLine.1 := Or.inl wd_1863
theorem lm_M_295 : xLm "SpoonShortModel" 295 m_M_bookLine.1 := Or.inl wd_1872
theorem lm_M_298 : xLm "SpoonShortModel" 298 m_M_handLine.1 := Or.inl wd_1884
theorem lm_M_301 : xLm "SpoonShortModel" 301 m_M_filmLine.1 := Or.inl wd_1890
theorem lm_M_304 : xLm "SpoonShortModel" 304 m_M_lineOf.1 := Or.inl wd_1809
theorem lm_M_308 : xLm "SpoonShortModel" 308 m_M_begin.1 := Or.inl wd_1793
theorem lm_M_311 : xLm "SpoonShortModel" 311 m_M_lines.1 := Or.inl wd_1805
theorem lm_M_315 : xLm "SpoonShortModel" 315 m_M_store.1 := Or.inl wd_1902
theorem lm_M_319 : xLm "SpoonShortModel" 319 m_M_is.1 := Or.inl wd_1785
theorem lm_M_322 : xLm "SpoonShortModel" 322 m_M_readText.1 := Or.inl wd_1789
theorem lm_M_325 : xLm "SpoonShortModel" 325 m_M_storeAll.1 := Or.inl wd_1898
theorem lm_M_331 : xLm "SpoonShortModel" 331 m_M_of.1 := Or.inl wd_1918
theorem lm_M_347 : xLm "SpoonShortModel" 347 m_M_sit.1 := Or.inl wd_1922
theorem lm_M_353 : xLm "SpoonShortModel" 353 m_M_ofOne.1 := Or.inl wd_1926
theorem lm_M_356 : xLm "SpoonShortModel" 356 m_M_hand1.1 := Or.inl wd_1914
theorem lm_M_359 : xLm "SpoonShortModel" 359 m_M_isOne.1 := Or.inl wd_1934
theorem lm_M_365 : xLm "SpoonShortModel" 365 m_M_layHeap.1 := Or.inl wd_1946
theorem lm_M_368 : xLm "SpoonShortModel" 368 m_M_push.1 := Or.inl wd_1986
theorem lm_M_371 : xLm "SpoonShortModel" 371 m_M_pop.1 := Or.inl wd_1998
theorem lm_M_377 : xLm "SpoonShortModel" 377 m_M_hasBook.1 := Or.inl wd_1954
theorem lm_M_380 : xLm "SpoonShortModel" 380 m_M_deeds.1 := Or.inl wd_1958
theorem lm_M_383 : xLm "SpoonShortModel" 383 m_M_deedOf.1 := Or.inl wd_1962
theorem lm_M_386 : xLm "SpoonShortModel" 386 m_M_deal.1 := Or.inl wd_1982
theorem lm_M_404 : xLm "SpoonShortModel" 404 m_M_areAlike.1 := Or.inl wd_2010
theorem lm_M_407 : xLm "SpoonShortModel" 407 m_M_comes.1 := Or.inl wd_1994
theorem lm_M_410 : xLm "SpoonShortModel" 410 m_M_goesOn.1 := Or.inl wd_2002
theorem lm_M_413 : xLm "SpoonShortModel" 413 m_M_reaches.1 := Or.inl wd_2006
theorem lm_M_416 : xLm "SpoonShortModel" 416 m_M_beginBook.1 := Or.inl wd_1978
theorem lm_M_419 : xLm "SpoonShortModel" 419 m_M_does.1 := Or.inl wd_1990
theorem lm_M_422 : xLm "SpoonShortModel" 422 m_M_layBook.1 := Or.inl wd_1970
theorem lm_M_425 : xLm "SpoonShortModel" 425 m_M_play.1 := Or.inl wd_1974
theorem lm_M_428 : xLm "SpoonShortModel" 428 m_M_layState.1 := Or.inl wd_2018
theorem lm_M_432 : xLm "SpoonShortModel" 432 m_M_isKind.1 := Or.inl wd_2026
theorem lm_M_435 : xLm "SpoonShortModel" 435 m_M_fewest.1 := Or.inl wd_2054
theorem lm_M_438 : xLm "SpoonShortModel" 438 m_M_greatest.1 := Or.inl wd_2058
theorem lm_M_447 : xLm "SpoonShortModel" 447 m_M_moves.1 := Or.inl wd_2046
theorem lm_M_450 : xLm "SpoonShortModel" 450 m_M_handsOn.1 := Or.inl wd_2050
theorem lm_M_453 : xLm "SpoonShortModel" 453 m_M_spoonBy.1 := Or.inl wd_2066
theorem lm_M_457 : xLm "SpoonShortModel" 457 m_M_go.1 := Or.inl wd_2042
theorem lm_M_460 : xLm "SpoonShortModel" 460 m_M_lastBy.1 := Or.inl wd_2062
theorem lm_M_466 : xLm "SpoonShortModel" 466 m_M_ends.1 := Or.inl wd_2038
theorem lm_M_469 : xLm "SpoonShortModel" 469 m_M_layRound.1 := Or.inl wd_2034
theorem lm_M_472 : xLm "SpoonShortModel" 472 m_M_allHanded.1 := Or.inl wd_2070
theorem lm_M_475 : xLm "SpoonShortModel" 475 m_M_mends.1 := Or.inl wd_2074
theorem lm_M_482 : xLm "SpoonShortModel" 482 m_M_draw.1 := Or.inl wd_2090
theorem lm_M_485 : xLm "SpoonShortModel" 485 m_M_shuffle.1 := Or.inl wd_2086
theorem lm_M_494 : xLm "SpoonShortModel" 494 m_M_letter.1 := Or.inl wd_2103
theorem lm_M_497 : xLm "SpoonShortModel" 497 m_M_playEvening.1 := Or.inl wd_2099
theorem lm_M_503 : xLm "SpoonShortModel" 503 m_M_playLuck.1 := Or.inl wd_2111
theorem lm_M_506 : xLm "SpoonShortModel" 506 m_M_seat.1 := Or.inl wd_2132
theorem lm_M_509 : xLm "SpoonShortModel" 509 m_M_leastOf.1 := Or.inl wd_2119
theorem lm_M_512 : xLm "SpoonShortModel" 512 m_M_mostOf.1 := Or.inl wd_2123
theorem lm_M_516 : xLm "SpoonShortModel" 516 m_M_change.1 := Or.inl wd_2128
theorem lm_M_519 : xLm "SpoonShortModel" 519 m_M_lesser.1 := Or.inl wd_2136
theorem lm_M_525 : xLm "SpoonShortModel" 525 m_M_layHand.1 := Or.inl wd_2147
theorem lm_M_528 : xLm "SpoonShortModel" 528 m_M_starved.1 := Or.inl wd_2151
theorem lm_M_531 : xLm "SpoonShortModel" 531 m_M_part.1 := Or.inl wd_2179
theorem lm_M_537 : xLm "SpoonShortModel" 537 m_M_total.1 := Or.inl wd_2175
theorem lm_M_545 : xLm "SpoonShortModel" 545 m_M_hasAlike.1 := Or.inl wd_2191
theorem lm_M_548 : xLm "SpoonShortModel" 548 m_M_rows.1 := Or.inl wd_2195
theorem lm_M_552 : xLm "SpoonShortModel" 552 m_M_bestBy.1 := Or.inl wd_2199
theorem lm_M_556 : xLm "SpoonShortModel" 556 m_M_layHands.1 := Or.inl wd_2171
theorem lm_M_559 : xLm "SpoonShortModel" 559 m_M_canCome.1 := Or.inl wd_2183
theorem lm_M_562 : xLm "SpoonShortModel" 562 m_M_waysOf.1 := Or.inl wd_2187
theorem lm_M_565 : xLm "SpoonShortModel" 565 m_M_common.1 := Or.inl wd_2211
theorem lm_M_569 : xLm "SpoonShortModel" 569 m_M_fitsHand.1 := Or.inl wd_2163
theorem lm_M_572 : xLm "SpoonShortModel" 572 m_M_findWays.1 := Or.inl wd_2167
theorem lm_M_575 : xLm "SpoonShortModel" 575 m_M_layWithin.1 := Or.inl wd_2159
theorem lm_M_578 : xLm "SpoonShortModel" 578 m_M_ownNumber.1 := Or.inl wd_2204
theorem lm_M_581 : xLm "SpoonShortModel" 581 m_M_least.1 := Or.inl wd_2208
theorem lm_M_585 : xLm "SpoonShortModel" 585 m_M_choose.1 := Or.inl wd_2226
theorem lm_M_588 : xLm "SpoonShortModel" 588 m_M_drawnWith.1 := Or.inl wd_2222
theorem lm_M_591 : xLm "SpoonShortModel" 591 m_M_lastsOf.1 := Or.inl wd_2241
theorem lm_M_594 : xLm "SpoonShortModel" 594 m_M_costOf.1 := Or.inl wd_2257
theorem lm_M_597 : xLm "SpoonShortModel" 597 m_M_lookWays.1 := Or.inl wd_2253
theorem lm_M_600 : xLm "SpoonShortModel" 600 m_M_isRest.1 := Or.inl wd_2261
theorem lm_M_603 : xLm "SpoonShortModel" 603 m_M_waitsOf.1 := Or.inl wd_2269
theorem lm_M_606 : xLm "SpoonShortModel" 606 m_M_lured.1 := Or.inl wd_2277
theorem lm_M_609 : xLm "SpoonShortModel" 609 m_M_ones.1 := Or.inl wd_2281
theorem lm_M_615 : xLm "SpoonShortModel" 615 m_M_frames.1 := Or.inl wd_2288
theorem lm_M_618 : xLm "SpoonShortModel" 618 m_M_frameOf.1 := Or.inl wd_2292
theorem lm_M_624 : xLm "SpoonShortModel" 624 m_M_layFilm.1 := Or.inl wd_2300
theorem lm_M_627 : xLm "SpoonShortModel" 627 m_M_lies.1 := Or.inl wd_2304
theorem lm_M_630 : xLm "SpoonShortModel" 630 m_M_sure.1 := Or.inl wd_2308
theorem lm_M_633 : xLm "SpoonShortModel" 633 m_M_mayBe.1 := Or.inl wd_2312
theorem lm_M_636 : xLm "SpoonShortModel" 636 m_M_shortFrames.1 := Or.inl wd_2316
theorem lm_M_639 : xLm "SpoonShortModel" 639 m_M_copyAll.1 := Or.inl wd_2332
theorem lm_String_335 : xLm "java/lang/String" 335 m_String_coder.1 := Or.inl wd_587
theorem lm_String_492 : xLm "java/lang/String" 492 m_String_isLatin1.1 := Or.inl wd_597
theorem lm_String_495 : xLm "java/lang/String" 495 m_Latin_charAt.1 := Or.inl wd_601
theorem lm_String_1059 : xLm "java/lang/String" 1059 m_Pre_checkIndex.1 := Or.inl wd_609
theorem lm_Latin_9 : xLm "java/lang/StringLatin1" 9 m_String_checkIndex.1 := Or.inl wd_604
theorem vf_S_feed : xVf m_S_feed 5 0 := ⟨y_S_feed, wd_481, wd_482, (xN_0, xF_0, 9), rfl, rfl⟩
theorem vf_S_write : xVf m_S_write 1 0 := ⟨y_S_write, wd_490, sd_0, (xN_0, xF_0, 9), rfl, rfl⟩
theorem vf_S_end : xVf m_S_end 1 0 := ⟨y_S_end, wd_494, wd_495, (xN_0, xF_0, 9), rfl, rfl⟩
theorem vf_S_text : xVf m_S_text 2 0 := ⟨y_S_text, wd_502, wd_503, (xN_0, xF_0, 9), rfl, rfl⟩
theorem vf_S_fault : xVf m_S_fault 1 0 := ⟨y_S_fault, wd_808, wd_809, (xN_0, xF_0, 9), rfl, rfl⟩
theorem vf_S_table : xVf m_S_table 2 0 := ⟨y_S_table, wd_812, wd_813, (xN_0, xF_0, 9), rfl, rfl⟩
theorem vf_S_person : xVf m_S_person 3 0 := ⟨y_S_person, wd_828, wd_829, (xN_0, xF_0, 9), rfl, rfl⟩
theorem vf_S_card : xVf m_S_card 2 0 := ⟨y_S_card, wd_840, wd_841, (xN_0, xF_0, 9), rfl, rfl⟩
theorem vf_S_fits : xVf m_S_fits 2 0 := ⟨y_S_fits, wd_850, wd_851, (xN_0, xF_0, 9), rfl, rfl⟩
theorem vf_S_deed : xVf m_S_deed 3 0 := ⟨y_S_deed, wd_865, wd_866, (xN_0, xF_0, 9), rfl, rfl⟩
theorem vf_S_stop : xVf m_S_stop 3 0 := ⟨y_S_stop, wd_873, wd_874, (xN_0, xF_0, 9), rfl, rfl⟩
theorem vf_S_state : xVf m_S_state 5 0 := ⟨y_S_state, wd_954, wd_955, (xN_0, xF_0, 9), rfl, rfl⟩
theorem vf_S_holds : xVf m_S_holds 6 0 := ⟨y_S_holds, wd_978, wd_979, (xN_0, xF_0, 9), rfl, rfl⟩
theorem vf_S_comesTo : xVf m_S_comesTo 4 0 := ⟨y_S_comesTo, wd_959, sd_36, (xN_0, xF_0, 9), rfl, rfl⟩
theorem vf_S_round : xVf m_S_round 3 0 := ⟨y_S_round, wd_988, wd_989, (xN_0, xF_0, 9), rfl, rfl⟩
theorem sf_S_personAsked : xSf m_S_personAsked 2 := ⟨y_S_personAsked, wd_992⟩
theorem vf_S_behind : xVf m_S_behind 5 0 := ⟨y_S_behind, wd_1086, wd_1087, (xN_0, xF_0, 9), rfl, rfl⟩
theorem vf_S_shuffled : xVf m_S_shuffled 3 0 := ⟨y_S_shuffled, wd_1091, wd_1092, (xN_0, xF_0, 9), rfl, rfl⟩
theorem vf_S_evening : xVf m_S_evening 3 0 := ⟨y_S_evening, wd_1118, wd_1119, (xN_0, xF_0, 9), rfl, rfl⟩
theorem vf_S_luck : xVf m_S_luck 4 0 := ⟨y_S_luck, wd_1158, wd_1159, (xN_0, xF_0, 9), rfl, rfl⟩
theorem vf_S_otherwise : xVf m_S_otherwise 7 0 := ⟨y_S_otherwise, wd_1175, wd_1176, (xN_0, xF_0, 9), rfl, rfl⟩
theorem vf_S_hand : xVf m_S_hand 2 0 := ⟨y_S_hand, wd_1209, wd_1210, (xN_0, xF_0, 9), rfl, rfl⟩
theorem vf_S_lies : xVf m_S_lies 2 0 := ⟨y_S_lies, wd_1218, sd_48, (xN_0, xF_0, 9), rfl, rfl⟩
theorem vf_S_unseen : xVf m_S_unseen 3 0 := ⟨y_S_unseen, wd_1213, wd_1214, (xN_0, xF_0, 9), rfl, rfl⟩
theorem vf_S_within : xVf m_S_within 4 0 := ⟨y_S_within, wd_1246, wd_1247, (xN_0, xF_0, 9), rfl, rfl⟩
theorem vf_S_kept : xVf m_S_kept 4 0 := ⟨y_S_kept, wd_1293, wd_1294, (xN_0, xF_0, 9), rfl, rfl⟩
theorem vf_S_alone : xVf m_S_alone 5 0 := ⟨y_S_alone, wd_1301, wd_1302, (xN_0, xF_0, 9), rfl, rfl⟩
theorem vf_S_soonest : xVf m_S_soonest 4 0 := ⟨y_S_soonest, wd_1316, wd_1317, (xN_0, xF_0, 9), rfl, rfl⟩
theorem vf_S_keeps : xVf m_S_keeps 5 0 := ⟨y_S_keeps, wd_1324, wd_1325, (xN_0, xF_0, 9), rfl, rfl⟩
theorem vf_S_looks : xVf m_S_looks 4 0 := ⟨y_S_looks, wd_1332, wd_1333, (xN_0, xF_0, 9), rfl, rfl⟩
theorem vf_S_often : xVf m_S_often 3 0 := ⟨y_S_often, wd_1341, wd_1342, (xN_0, xF_0, 9), rfl, rfl⟩
theorem vf_S_rests : xVf m_S_rests 3 0 := ⟨y_S_rests, wd_1352, wd_1353, (xN_0, xF_0, 9), rfl, rfl⟩
theorem vf_S_even : xVf m_S_even 2 0 := ⟨y_S_even, wd_1381, wd_1382, (xN_0, xF_0, 9), rfl, rfl⟩
theorem vf_S_feint : xVf m_S_feint 3 0 := ⟨y_S_feint, wd_1393, wd_1394, (xN_0, xF_0, 9), rfl, rfl⟩
theorem vf_S_frame : xVf m_S_frame 3 0 := ⟨y_S_frame, wd_1416, wd_1417, (xN_0, xF_0, 9), rfl, rfl⟩
theorem vf_S_film : xVf m_S_film 3 0 := ⟨y_S_film, wd_1430, wd_1431, (xN_0, xF_0, 9), rfl, rfl⟩
theorem vf_S_pulled : xVf m_S_pulled 4 0 := ⟨y_S_pulled, wd_1477, wd_1478, (xN_0, xF_0, 9), rfl, rfl⟩
theorem vf_S_count : xVf m_S_count 1 0 := ⟨y_S_count, wd_1491, wd_1492, (xN_0, xF_0, 9), rfl, rfl⟩
theorem vf_S_image : xVf m_S_image 1 0 := ⟨y_S_image, wd_1495, wd_1496, (xN_0, xF_0, 9), rfl, rfl⟩
theorem vf_S_again : xVf m_S_again 1 0 := ⟨y_S_again, wd_1511, wd_1512, (xN_0, xF_0, 9), rfl, rfl⟩
theorem vf_S_imageAt : xVf m_S_imageAt 1 0 := ⟨y_S_imageAt, wd_1500, sd_67, (xN_0, xF_0, 9), rfl, rfl⟩
theorem vf_S_tableAt : xVf m_S_tableAt 1 0 := ⟨y_S_tableAt, wd_817, sd_26, (xN_0, xF_0, 9), rfl, rfl⟩
theorem vf_S_heapAt : xVf m_S_heapAt 1 0 := ⟨y_S_heapAt, wd_845, sd_27, (xN_0, xF_0, 9), rfl, rfl⟩
theorem vf_S_bookAt : xVf m_S_bookAt 1 0 := ⟨y_S_bookAt, wd_870, sd_28, (xN_0, xF_0, 9), rfl, rfl⟩
theorem vf_S_filmAt : xVf m_S_filmAt 1 0 := ⟨y_S_filmAt, wd_1421, sd_60, (xN_0, xF_0, 9), rfl, rfl⟩
theorem sf_S_leastTerms : xSf m_S_leastTerms 3 := ⟨y_S_leastTerms, wd_1290⟩
theorem sf_M_in : xSf m_M_in 3 := ⟨y_M_in, wd_1779⟩
theorem sf_M_has : xSf m_M_has 2 := ⟨y_M_has, wd_1896⟩
theorem sf_M_greater : xSf m_M_greater 2 := ⟨y_M_greater, wd_1857⟩
theorem sf_M_lesser : xSf m_M_lesser 2 := ⟨y_M_lesser, wd_2137⟩
theorem sf_M_copyRow : xSf m_M_copyRow 4 := ⟨y_M_copyRow, wd_2337⟩
theorem vf_M_copyAll : xVf m_M_copyAll 2 13 := ⟨y_M_copyAll, wd_2334, sd_161, (xN_13, xF_13, 81), rfl, rfl⟩
theorem vf_M_is : xVf m_M_is 2 13 := ⟨y_M_is, wd_1787, sd_69, (xN_13, xF_13, 81), rfl, rfl⟩
theorem vf_M_feed : xVf m_M_feed 5 13 := ⟨y_M_feed, wd_1767, wd_1768, (xN_13, xF_13, 81), rfl, rfl⟩
theorem vf_M_four : xVf m_M_four 1 13 := ⟨y_M_four, wd_1772, sd_68, (xN_13, xF_13, 81), rfl, rfl⟩
theorem vf_M_end : xVf m_M_end 1 13 := ⟨y_M_end, wd_1775, wd_1776, (xN_13, xF_13, 81), rfl, rfl⟩
theorem vf_M_see : xVf m_M_see 0 13 := ⟨y_M_see, wd_1803, sd_73, (xN_13, xF_13, 81), rfl, rfl⟩
theorem vf_M_token : xVf m_M_token 0 13 := ⟨y_M_token, wd_1799, sd_72, (xN_13, xF_13, 81), rfl, rfl⟩
theorem vf_M_fails : xVf m_M_fails 0 13 := ⟨y_M_fails, wd_1830, sd_77, (xN_13, xF_13, 81), rfl, rfl⟩
theorem vf_M_later : xVf m_M_later 2 13 := ⟨y_M_later, wd_1838, sd_79, (xN_13, xF_13, 81), rfl, rfl⟩
theorem vf_M_bad : xVf m_M_bad 1 13 := ⟨y_M_bad, wd_1850, sd_82, (xN_13, xF_13, 81), rfl, rfl⟩
theorem vf_M_take : xVf m_M_take 3 13 := ⟨y_M_take, wd_1846, sd_81, (xN_13, xF_13, 81), rfl, rfl⟩
theorem vf_M_full : xVf m_M_full 3 13 := ⟨y_M_full, wd_1834, sd_78, (xN_13, xF_13, 81), rfl, rfl⟩
theorem vf_M_lawLine : xVf m_M_lawLine 0 13 := ⟨y_M_lawLine, wd_1854, sd_83, (xN_13, xF_13, 81), rfl, rfl⟩
theorem vf_M_personLine : xVf m_M_personLine 0 13 := ⟨y_M_personLine, wd_1842, sd_80, (xN_13, xF_13, 81), rfl, rfl⟩
theorem sf_M_plainOf : xSf m_M_plainOf 1 := ⟨y_M_plainOf, wd_1818⟩
theorem vf_M_tableLine : xVf m_M_tableLine 2 13 := ⟨y_M_tableLine, wd_1815, sd_76, (xN_13, xF_13, 81), rfl, rfl⟩
theorem vf_M_kindsLine : xVf m_M_kindsLine 3 13 := ⟨y_M_kindsLine, wd_1870, sd_85, (xN_13, xF_13, 81), rfl, rfl⟩
theorem vf_M_heapLine : xVf m_M_heapLine 1 13 := ⟨y_M_heapLine, wd_1865, sd_84, (xN_13, xF_13, 81), rfl, rfl⟩
theorem vf_M_handLine : xVf m_M_handLine 1 13 := ⟨y_M_handLine, wd_1886, sd_87, (xN_13, xF_13, 81), rfl, rfl⟩
theorem sf_M_deedBy : xSf m_M_deedBy 1 := ⟨y_M_deedBy, wd_1877⟩
theorem vf_M_bookLine : xVf m_M_bookLine 2 13 := ⟨y_M_bookLine, wd_1874, sd_86, (xN_13, xF_13, 81), rfl, rfl⟩
theorem vf_M_filmLine : xVf m_M_filmLine 2 13 := ⟨y_M_filmLine, wd_1892, sd_88, (xN_13, xF_13, 81), rfl, rfl⟩
theorem vf_M_lineOf : xVf m_M_lineOf 3 13 := ⟨y_M_lineOf, wd_1811, sd_75, (xN_13, xF_13, 81), rfl, rfl⟩
theorem vf_M_lines : xVf m_M_lines 1 13 := ⟨y_M_lines, wd_1807, sd_74, (xN_13, xF_13, 81), rfl, rfl⟩
theorem vf_M_begin : xVf m_M_begin 1 13 := ⟨y_M_begin, wd_1795, sd_71, (xN_13, xF_13, 81), rfl, rfl⟩
theorem vf_M_readText : xVf m_M_readText 1 13 := ⟨y_M_readText, wd_1791, sd_70, (xN_13, xF_13, 81), rfl, rfl⟩
theorem vf_M_store : xVf m_M_store 3 13 := ⟨y_M_store, wd_1904, sd_90, (xN_13, xF_13, 81), rfl, rfl⟩
theorem vf_M_storeAll : xVf m_M_storeAll 2 13 := ⟨y_M_storeAll, wd_1900, sd_89, (xN_13, xF_13, 81), rfl, rfl⟩
theorem vf_M_text : xVf m_M_text 2 13 := ⟨y_M_text, wd_1782, wd_1783, (xN_13, xF_13, 81), rfl, rfl⟩
theorem vf_M_fault : xVf m_M_fault 1 13 := ⟨y_M_fault, wd_1907, wd_1908, (xN_13, xF_13, 81), rfl, rfl⟩
theorem vf_M_of : xVf m_M_of 1 13 := ⟨y_M_of, wd_1920, sd_92, (xN_13, xF_13, 81), rfl, rfl⟩
theorem vf_M_ofOne : xVf m_M_ofOne 2 13 := ⟨y_M_ofOne, wd_1928, sd_94, (xN_13, xF_13, 81), rfl, rfl⟩
theorem vf_M_hand1 : xVf m_M_hand1 1 13 := ⟨y_M_hand1, wd_1916, sd_91, (xN_13, xF_13, 81), rfl, rfl⟩
theorem vf_M_sit : xVf m_M_sit 1 13 := ⟨y_M_sit, wd_1924, sd_93, (xN_13, xF_13, 81), rfl, rfl⟩
theorem vf_M_isOne : xVf m_M_isOne 1 13 := ⟨y_M_isOne, wd_1936, sd_95, (xN_13, xF_13, 81), rfl, rfl⟩
theorem vf_M_isKind : xVf m_M_isKind 1 13 := ⟨y_M_isKind, wd_2028, sd_112, (xN_13, xF_13, 81), rfl, rfl⟩
theorem vf_M_table : xVf m_M_table 2 13 := ⟨y_M_table, wd_1911, wd_1912, (xN_13, xF_13, 81), rfl, rfl⟩
theorem vf_M_person : xVf m_M_person 3 13 := ⟨y_M_person, wd_1931, wd_1932, (xN_13, xF_13, 81), rfl, rfl⟩
theorem vf_M_card : xVf m_M_card 2 13 := ⟨y_M_card, wd_1939, wd_1940, (xN_13, xF_13, 81), rfl, rfl⟩
theorem vf_M_layHeap : xVf m_M_layHeap 1 13 := ⟨y_M_layHeap, wd_1948, sd_96, (xN_13, xF_13, 81), rfl, rfl⟩
theorem vf_M_fits : xVf m_M_fits 2 13 := ⟨y_M_fits, wd_1943, wd_1944, (xN_13, xF_13, 81), rfl, rfl⟩
theorem vf_M_push : xVf m_M_push 2 13 := ⟨y_M_push, wd_1988, sd_104, (xN_13, xF_13, 81), rfl, rfl⟩
theorem vf_M_pop : xVf m_M_pop 1 13 := ⟨y_M_pop, wd_2000, sd_107, (xN_13, xF_13, 81), rfl, rfl⟩
theorem vf_M_deal : xVf m_M_deal 0 13 := ⟨y_M_deal, wd_1984, sd_103, (xN_13, xF_13, 81), rfl, rfl⟩
theorem vf_M_comes : xVf m_M_comes 1 13 := ⟨y_M_comes, wd_1996, sd_106, (xN_13, xF_13, 81), rfl, rfl⟩
theorem vf_M_goesOn : xVf m_M_goesOn 2 13 := ⟨y_M_goesOn, wd_2004, sd_108, (xN_13, xF_13, 81), rfl, rfl⟩
theorem vf_M_areAlike : xVf m_M_areAlike 1 13 := ⟨y_M_areAlike, wd_2012, sd_110, (xN_13, xF_13, 81), rfl, rfl⟩
theorem vf_M_deeds : xVf m_M_deeds 0 13 := ⟨y_M_deeds, wd_1960, sd_98, (xN_13, xF_13, 81), rfl, rfl⟩
theorem vf_M_deedOf : xVf m_M_deedOf 2 13 := ⟨y_M_deedOf, wd_1964, sd_99, (xN_13, xF_13, 81), rfl, rfl⟩
theorem vf_M_hasBook : xVf m_M_hasBook 1 13 := ⟨y_M_hasBook, wd_1956, sd_97, (xN_13, xF_13, 81), rfl, rfl⟩
theorem vf_M_deed : xVf m_M_deed 3 13 := ⟨y_M_deed, wd_1951, wd_1952, (xN_13, xF_13, 81), rfl, rfl⟩
theorem vf_M_beginBook : xVf m_M_beginBook 0 13 := ⟨y_M_beginBook, wd_1980, sd_102, (xN_13, xF_13, 81), rfl, rfl⟩
theorem vf_M_reaches : xVf m_M_reaches 1 13 := ⟨y_M_reaches, wd_2008, sd_109, (xN_13, xF_13, 81), rfl, rfl⟩
theorem vf_M_does : xVf m_M_does 1 13 := ⟨y_M_does, wd_1992, sd_105, (xN_13, xF_13, 81), rfl, rfl⟩
theorem vf_M_play : xVf m_M_play 1 13 := ⟨y_M_play, wd_1976, sd_101, (xN_13, xF_13, 81), rfl, rfl⟩
theorem vf_M_layBook : xVf m_M_layBook 3 13 := ⟨y_M_layBook, wd_1972, sd_100, (xN_13, xF_13, 81), rfl, rfl⟩
theorem vf_M_layState : xVf m_M_layState 4 13 := ⟨y_M_layState, wd_2020, sd_111, (xN_13, xF_13, 81), rfl, rfl⟩
theorem vf_M_stop : xVf m_M_stop 3 13 := ⟨y_M_stop, wd_1967, wd_1968, (xN_13, xF_13, 81), rfl, rfl⟩
theorem vf_M_state : xVf m_M_state 5 13 := ⟨y_M_state, wd_2015, wd_2016, (xN_13, xF_13, 81), rfl, rfl⟩
theorem vf_M_holds : xVf m_M_holds 6 13 := ⟨y_M_holds, wd_2023, wd_2024, (xN_13, xF_13, 81), rfl, rfl⟩
theorem vf_M_fewest : xVf m_M_fewest 2 13 := ⟨y_M_fewest, wd_2056, sd_118, (xN_13, xF_13, 81), rfl, rfl⟩
theorem vf_M_greatest : xVf m_M_greatest 2 13 := ⟨y_M_greatest, wd_2060, sd_119, (xN_13, xF_13, 81), rfl, rfl⟩
theorem vf_M_handsOn : xVf m_M_handsOn 2 13 := ⟨y_M_handsOn, wd_2052, sd_117, (xN_13, xF_13, 81), rfl, rfl⟩
theorem vf_M_go : xVf m_M_go 1 13 := ⟨y_M_go, wd_2044, sd_115, (xN_13, xF_13, 81), rfl, rfl⟩
theorem vf_M_moves : xVf m_M_moves 2 13 := ⟨y_M_moves, wd_2048, sd_116, (xN_13, xF_13, 81), rfl, rfl⟩
theorem vf_M_spoonBy : xVf m_M_spoonBy 3 13 := ⟨y_M_spoonBy, wd_2068, sd_121, (xN_13, xF_13, 81), rfl, rfl⟩
theorem vf_M_lastBy : xVf m_M_lastBy 2 13 := ⟨y_M_lastBy, wd_2064, sd_120, (xN_13, xF_13, 81), rfl, rfl⟩
theorem vf_M_ends : xVf m_M_ends 0 13 := ⟨y_M_ends, wd_2040, sd_114, (xN_13, xF_13, 81), rfl, rfl⟩
theorem vf_M_layRound : xVf m_M_layRound 2 13 := ⟨y_M_layRound, wd_2036, sd_113, (xN_13, xF_13, 81), rfl, rfl⟩
theorem vf_M_mends : xVf m_M_mends 0 13 := ⟨y_M_mends, wd_2076, sd_123, (xN_13, xF_13, 81), rfl, rfl⟩
theorem vf_M_allHanded : xVf m_M_allHanded 0 13 := ⟨y_M_allHanded, wd_2072, sd_122, (xN_13, xF_13, 81), rfl, rfl⟩
theorem vf_M_round : xVf m_M_round 3 13 := ⟨y_M_round, wd_2031, wd_2032, (xN_13, xF_13, 81), rfl, rfl⟩
theorem vf_M_behind : xVf m_M_behind 5 13 := ⟨y_M_behind, wd_2079, wd_2080, (xN_13, xF_13, 81), rfl, rfl⟩
theorem vf_M_draw : xVf m_M_draw 1 13 := ⟨y_M_draw, wd_2092, sd_125, (xN_13, xF_13, 81), rfl, rfl⟩
theorem vf_M_shuffle : xVf m_M_shuffle 0 13 := ⟨y_M_shuffle, wd_2088, sd_124, (xN_13, xF_13, 81), rfl, rfl⟩
theorem vf_M_shuffled : xVf m_M_shuffled 3 13 := ⟨y_M_shuffled, wd_2083, wd_2084, (xN_13, xF_13, 81), rfl, rfl⟩
theorem vf_M_letter : xVf m_M_letter 0 13 := ⟨y_M_letter, wd_2105, sd_127, (xN_13, xF_13, 81), rfl, rfl⟩
theorem vf_M_playEvening : xVf m_M_playEvening 0 13 := ⟨y_M_playEvening, wd_2101, sd_126, (xN_13, xF_13, 81), rfl, rfl⟩
theorem vf_M_evening : xVf m_M_evening 3 13 := ⟨y_M_evening, wd_2096, wd_2097, (xN_13, xF_13, 81), rfl, rfl⟩
theorem vf_M_playLuck : xVf m_M_playLuck 1 13 := ⟨y_M_playLuck, wd_2113, sd_128, (xN_13, xF_13, 81), rfl, rfl⟩
theorem vf_M_luck : xVf m_M_luck 4 13 := ⟨y_M_luck, wd_2108, wd_2109, (xN_13, xF_13, 81), rfl, rfl⟩
theorem vf_M_leastOf : xVf m_M_leastOf 1 13 := ⟨y_M_leastOf, wd_2121, sd_129, (xN_13, xF_13, 81), rfl, rfl⟩
theorem vf_M_mostOf : xVf m_M_mostOf 1 13 := ⟨y_M_mostOf, wd_2125, sd_130, (xN_13, xF_13, 81), rfl, rfl⟩
theorem vf_M_seat : xVf m_M_seat 2 13 := ⟨y_M_seat, wd_2134, sd_132, (xN_13, xF_13, 81), rfl, rfl⟩
theorem vf_M_change : xVf m_M_change 3 13 := ⟨y_M_change, wd_2130, sd_131, (xN_13, xF_13, 81), rfl, rfl⟩
theorem vf_M_otherwise : xVf m_M_otherwise 7 13 := ⟨y_M_otherwise, wd_2116, wd_2117, (xN_13, xF_13, 81), rfl, rfl⟩
theorem vf_M_hand2 : xVf m_M_hand2 2 13 := ⟨y_M_hand2, wd_2140, wd_2141, (xN_13, xF_13, 81), rfl, rfl⟩
theorem vf_M_layHand : xVf m_M_layHand 1 13 := ⟨y_M_layHand, wd_2149, sd_133, (xN_13, xF_13, 81), rfl, rfl⟩
theorem vf_M_fitsHand : xVf m_M_fitsHand 2 13 := ⟨y_M_fitsHand, wd_2165, sd_136, (xN_13, xF_13, 81), rfl, rfl⟩
theorem vf_M_starved : xVf m_M_starved 0 13 := ⟨y_M_starved, wd_2153, sd_134, (xN_13, xF_13, 81), rfl, rfl⟩
theorem vf_M_unseen : xVf m_M_unseen 3 13 := ⟨y_M_unseen, wd_2144, wd_2145, (xN_13, xF_13, 81), rfl, rfl⟩
theorem vf_M_part : xVf m_M_part 2 13 := ⟨y_M_part, wd_2181, sd_140, (xN_13, xF_13, 81), rfl, rfl⟩
theorem vf_M_total : xVf m_M_total 1 13 := ⟨y_M_total, wd_2177, sd_139, (xN_13, xF_13, 81), rfl, rfl⟩
theorem vf_M_layHands : xVf m_M_layHands 0 13 := ⟨y_M_layHands, wd_2173, sd_138, (xN_13, xF_13, 81), rfl, rfl⟩
theorem vf_M_hasAlike : xVf m_M_hasAlike 1 13 := ⟨y_M_hasAlike, wd_2193, sd_143, (xN_13, xF_13, 81), rfl, rfl⟩
theorem vf_M_canCome : xVf m_M_canCome 1 13 := ⟨y_M_canCome, wd_2185, sd_141, (xN_13, xF_13, 81), rfl, rfl⟩
theorem vf_M_bestBy : xVf m_M_bestBy 3 13 := ⟨y_M_bestBy, wd_2201, sd_145, (xN_13, xF_13, 81), rfl, rfl⟩
theorem vf_M_rows : xVf m_M_rows 2 13 := ⟨y_M_rows, wd_2197, sd_144, (xN_13, xF_13, 81), rfl, rfl⟩
theorem vf_M_waysOf : xVf m_M_waysOf 3 13 := ⟨y_M_waysOf, wd_2189, sd_142, (xN_13, xF_13, 81), rfl, rfl⟩
theorem vf_M_findWays : xVf m_M_findWays 1 13 := ⟨y_M_findWays, wd_2169, sd_137, (xN_13, xF_13, 81), rfl, rfl⟩
theorem vf_M_ownNumber : xVf m_M_ownNumber 0 13 := ⟨y_M_ownNumber, wd_2206, sd_146, (xN_13, xF_13, 81), rfl, rfl⟩
theorem sf_M_common : xSf m_M_common 2 := ⟨y_M_common, wd_2212⟩
theorem sf_M_least : xSf m_M_least 3 := ⟨y_M_least, wd_2209⟩
theorem vf_M_layWithin : xVf m_M_layWithin 3 13 := ⟨y_M_layWithin, wd_2161, sd_135, (xN_13, xF_13, 81), rfl, rfl⟩
theorem vf_M_within : xVf m_M_within 4 13 := ⟨y_M_within, wd_2156, wd_2157, (xN_13, xF_13, 81), rfl, rfl⟩
theorem vf_M_kept : xVf m_M_kept 4 13 := ⟨y_M_kept, wd_2215, wd_2216, (xN_13, xF_13, 81), rfl, rfl⟩
theorem sf_M_choose : xSf m_M_choose 2 := ⟨y_M_choose, wd_2227⟩
theorem vf_M_drawnWith : xVf m_M_drawnWith 3 13 := ⟨y_M_drawnWith, wd_2224, sd_147, (xN_13, xF_13, 81), rfl, rfl⟩
theorem vf_M_alone : xVf m_M_alone 5 13 := ⟨y_M_alone, wd_2219, wd_2220, (xN_13, xF_13, 81), rfl, rfl⟩
theorem vf_M_soonest : xVf m_M_soonest 4 13 := ⟨y_M_soonest, wd_2230, wd_2231, (xN_13, xF_13, 81), rfl, rfl⟩
theorem vf_M_keeps : xVf m_M_keeps 5 13 := ⟨y_M_keeps, wd_2234, wd_2235, (xN_13, xF_13, 81), rfl, rfl⟩
theorem vf_M_lastsOf : xVf m_M_lastsOf 2 13 := ⟨y_M_lastsOf, wd_2243, sd_148, (xN_13, xF_13, 81), rfl, rfl⟩
theorem vf_M_looks : xVf m_M_looks 4 13 := ⟨y_M_looks, wd_2238, wd_2239, (xN_13, xF_13, 81), rfl, rfl⟩
theorem vf_M_often : xVf m_M_often 3 13 := ⟨y_M_often, wd_2246, wd_2247, (xN_13, xF_13, 81), rfl, rfl⟩
theorem vf_M_lookWays : xVf m_M_lookWays 0 13 := ⟨y_M_lookWays, wd_2255, sd_149, (xN_13, xF_13, 81), rfl, rfl⟩
theorem vf_M_costOf : xVf m_M_costOf 2 13 := ⟨y_M_costOf, wd_2259, sd_150, (xN_13, xF_13, 81), rfl, rfl⟩
theorem vf_M_isRest : xVf m_M_isRest 1 13 := ⟨y_M_isRest, wd_2263, sd_151, (xN_13, xF_13, 81), rfl, rfl⟩
theorem vf_M_rests : xVf m_M_rests 3 13 := ⟨y_M_rests, wd_2250, wd_2251, (xN_13, xF_13, 81), rfl, rfl⟩
theorem vf_M_waitsOf : xVf m_M_waitsOf 1 13 := ⟨y_M_waitsOf, wd_2271, sd_152, (xN_13, xF_13, 81), rfl, rfl⟩
theorem vf_M_even : xVf m_M_even 2 13 := ⟨y_M_even, wd_2266, wd_2267, (xN_13, xF_13, 81), rfl, rfl⟩
theorem vf_M_lured : xVf m_M_lured 2 13 := ⟨y_M_lured, wd_2279, sd_153, (xN_13, xF_13, 81), rfl, rfl⟩
theorem sf_M_ones : xSf m_M_ones 1 := ⟨y_M_ones, wd_2282⟩
theorem vf_M_feint : xVf m_M_feint 3 13 := ⟨y_M_feint, wd_2274, wd_2275, (xN_13, xF_13, 81), rfl, rfl⟩
theorem vf_M_frames : xVf m_M_frames 0 13 := ⟨y_M_frames, wd_2290, sd_154, (xN_13, xF_13, 81), rfl, rfl⟩
theorem vf_M_frameOf : xVf m_M_frameOf 2 13 := ⟨y_M_frameOf, wd_2294, sd_155, (xN_13, xF_13, 81), rfl, rfl⟩
theorem vf_M_frame : xVf m_M_frame 3 13 := ⟨y_M_frame, wd_2285, wd_2286, (xN_13, xF_13, 81), rfl, rfl⟩
theorem vf_M_layFilm : xVf m_M_layFilm 2 13 := ⟨y_M_layFilm, wd_2302, sd_156, (xN_13, xF_13, 81), rfl, rfl⟩
theorem vf_M_lies : xVf m_M_lies 0 13 := ⟨y_M_lies, wd_2306, sd_157, (xN_13, xF_13, 81), rfl, rfl⟩
theorem vf_M_sure : xVf m_M_sure 0 13 := ⟨y_M_sure, wd_2310, sd_158, (xN_13, xF_13, 81), rfl, rfl⟩
theorem vf_M_mayBe : xVf m_M_mayBe 0 13 := ⟨y_M_mayBe, wd_2314, sd_159, (xN_13, xF_13, 81), rfl, rfl⟩
theorem vf_M_shortFrames : xVf m_M_shortFrames 0 13 := ⟨y_M_shortFrames, wd_2318, sd_160, (xN_13, xF_13, 81), rfl, rfl⟩
theorem vf_M_film : xVf m_M_film 3 13 := ⟨y_M_film, wd_2297, wd_2298, (xN_13, xF_13, 81), rfl, rfl⟩
theorem vf_M_pulled : xVf m_M_pulled 4 13 := ⟨y_M_pulled, wd_2321, wd_2322, (xN_13, xF_13, 81), rfl, rfl⟩
theorem vf_M_count : xVf m_M_count 1 13 := ⟨y_M_count, wd_2325, wd_2326, (xN_13, xF_13, 81), rfl, rfl⟩
theorem vf_M_image : xVf m_M_image 1 13 := ⟨y_M_image, wd_2329, wd_2330, (xN_13, xF_13, 81), rfl, rfl⟩
theorem vf_M_again : xVf m_M_again 1 13 := ⟨y_M_again, wd_2340, wd_2341, (xN_13, xF_13, 81), rfl, rfl⟩
theorem vf_Deal_start : xVf m_Deal_start 2 8 := ⟨y_Deal_start, wd_883, wd_884, (xN_8, xF_8, 10), rfl, rfl⟩
theorem vf_Deal_copy : xVf m_Deal_copy 1 8 := ⟨y_Deal_copy, wd_1052, wd_1053, (xN_8, xF_8, 10), rfl, rfl⟩
theorem vf_Deal_liesAs : xVf m_Deal_liesAs 1 8 := ⟨y_Deal_liesAs, wd_1041, wd_1042, (xN_8, xF_8, 10), rfl, rfl⟩
theorem vf_Deal_waiting : xVf m_Deal_waiting 2 8 := ⟨y_Deal_waiting, wd_1047, sd_41, (xN_8, xF_8, 10), rfl, rfl⟩
theorem vf_Deal_holdsCards : xVf m_Deal_holdsCards 1 8 := ⟨y_Deal_holdsCards, wd_910, wd_911, (xN_8, xF_8, 10), rfl, rfl⟩
theorem vf_Deal_holdsOf : xVf m_Deal_holdsOf 2 8 := ⟨y_Deal_holdsOf, wd_930, wd_931, (xN_8, xF_8, 10), rfl, rfl⟩
theorem vf_Deal_waitsFor : xVf m_Deal_waitsFor 1 8 := ⟨y_Deal_waitsFor, wd_970, wd_971, (xN_8, xF_8, 10), rfl, rfl⟩
theorem vf_Deal_away : xVf m_Deal_away 0 8 := ⟨y_Deal_away, wd_966, wd_967, (xN_8, xF_8, 10), rfl, rfl⟩
theorem vf_Deal_hasAlike : xVf m_Deal_hasAlike 1 8 := ⟨y_Deal_hasAlike, wd_943, wd_944, (xN_8, xF_8, 10), rfl, rfl⟩
theorem vf_Deal_firstAlike : xVf m_Deal_firstAlike 0 8 := ⟨y_Deal_firstAlike, wd_1011, wd_1012, (xN_8, xF_8, 10), rfl, rfl⟩
theorem vf_Deal_laneTo : xVf m_Deal_laneTo 1 8 := ⟨y_Deal_laneTo, wd_919, sd_31, (xN_8, xF_8, 10), rfl, rfl⟩
theorem vf_Deal_take : xVf m_Deal_take 1 8 := ⟨y_Deal_take, wd_914, wd_915, (xN_8, xF_8, 10), rfl, rfl⟩
theorem vf_Deal_handOn : xVf m_Deal_handOn 2 8 := ⟨y_Deal_handOn, wd_934, wd_935, (xN_8, xF_8, 10), rfl, rfl⟩
theorem vf_Deal_enter : xVf m_Deal_enter 2 8 := ⟨y_Deal_enter, wd_897, sd_29, (xN_8, xF_8, 10), rfl, rfl⟩
theorem vf_Deal_leave : xVf m_Deal_leave 1 8 := ⟨y_Deal_leave, wd_923, sd_32, (xN_8, xF_8, 10), rfl, rfl⟩
theorem vf_Deal_fewest : xVf m_Deal_fewest 2 8 := ⟨y_Deal_fewest, wd_1029, wd_1030, (xN_8, xF_8, 10), rfl, rfl⟩
theorem vf_Deal_greatest : xVf m_Deal_greatest 2 8 := ⟨y_Deal_greatest, wd_1025, wd_1026, (xN_8, xF_8, 10), rfl, rfl⟩
theorem vf_Deeds_play : xVf m_Deeds_play 4 7 := ⟨y_Deeds_play, wd_877, wd_878, (xN_7, xF_7, 8), rfl, rfl⟩
theorem vf_Deeds_happens : xVf m_Deeds_happens 3 7 := ⟨y_Deeds_happens, wd_907, sd_30, (xN_7, xF_7, 8), rfl, rfl⟩
theorem vf_Deeds_handsOn : xVf m_Deeds_handsOn 2 7 := ⟨y_Deeds_handsOn, wd_927, sd_33, (xN_7, xF_7, 8), rfl, rfl⟩
theorem vf_Deeds_reaches : xVf m_Deeds_reaches 1 7 := ⟨y_Deeds_reaches, wd_939, sd_34, (xN_7, xF_7, 8), rfl, rfl⟩
theorem vf_Deeds_withoutSpoon : xVf m_Deeds_withoutSpoon 0 7 := ⟨y_Deeds_withoutSpoon, wd_951, sd_35, (xN_7, xF_7, 8), rfl, rfl⟩
theorem vf_Deeds_answer : xVf m_Deeds_answer 1 7 := ⟨y_Deeds_answer, wd_962, wd_963, (xN_7, xF_7, 8), rfl, rfl⟩
theorem vf_Deeds_answerOf : xVf m_Deeds_answerOf 1 7 := ⟨y_Deeds_answerOf, wd_975, sd_37, (xN_7, xF_7, 8), rfl, rfl⟩
theorem vf_Evenings_shuffledBy : xVf m_Evenings_shuffledBy 2 10 := ⟨y_Evenings_shuffledBy, wd_1095, wd_1096, (xN_10, xF_10, 12), rfl, rfl⟩
theorem vf_Evenings_shuffle : xVf m_Evenings_shuffle 1 10 := ⟨y_Evenings_shuffle, wd_1100, sd_43, (xN_10, xF_10, 12), rfl, rfl⟩
theorem vf_Evenings_draw : xVf m_Evenings_draw 1 10 := ⟨y_Evenings_draw, wd_1109, sd_44, (xN_10, xF_10, 12), rfl, rfl⟩
theorem vf_Evenings_spend : xVf m_Evenings_spend 2 10 := ⟨y_Evenings_spend, wd_1122, wd_1123, (xN_10, xF_10, 12), rfl, rfl⟩
theorem vf_Evenings_playOfThoseLeft : xVf m_Evenings_playOfThoseLeft 1 10 := ⟨y_Evenings_playOfThoseLeft, wd_1129, sd_45, (xN_10, xF_10, 12), rfl, rfl⟩
theorem vf_Evenings_answer : xVf m_Evenings_answer 1 10 := ⟨y_Evenings_answer, wd_1150, wd_1151, (xN_10, xF_10, 12), rfl, rfl⟩
theorem vf_Evenings_answerOf : xVf m_Evenings_answerOf 2 10 := ⟨y_Evenings_answerOf, wd_1154, wd_1155, (xN_10, xF_10, 12), rfl, rfl⟩
theorem vf_Evenings_playRounds : xVf m_Evenings_playRounds 3 10 := ⟨y_Evenings_playRounds, wd_1162, wd_1163, (xN_10, xF_10, 12), rfl, rfl⟩
theorem vf_Evenings_timesFirst : xVf m_Evenings_timesFirst 1 10 := ⟨y_Evenings_timesFirst, wd_1166, wd_1167, (xN_10, xF_10, 12), rfl, rfl⟩
theorem vf_Evenings_timesLast : xVf m_Evenings_timesLast 2 10 := ⟨y_Evenings_timesLast, wd_1171, wd_1172, (xN_10, xF_10, 12), rfl, rfl⟩
theorem sf_Evenings_leastValue : xSf m_Evenings_leastValue 1 := ⟨y_Evenings_leastValue, wd_1186⟩
theorem sf_Evenings_greatestValue : xSf m_Evenings_greatestValue 2 := ⟨y_Evenings_greatestValue, wd_1183⟩
theorem vf_Evenings_wouldBe : xVf m_Evenings_wouldBe 7 10 := ⟨y_Evenings_wouldBe, wd_1204, wd_1205, (xN_10, xF_10, 12), rfl, rfl⟩
theorem vf_Evenings_better : xVf m_Evenings_better 5 10 := ⟨y_Evenings_better, wd_1179, wd_1180, (xN_10, xF_10, 12), rfl, rfl⟩
theorem vf_Evenings_change : xVf m_Evenings_change 4 10 := ⟨y_Evenings_change, wd_1190, sd_46, (xN_10, xF_10, 12), rfl, rfl⟩
theorem vf_Evenings_reseat : xVf m_Evenings_reseat 3 10 := ⟨y_Evenings_reseat, wd_1194, sd_47, (xN_10, xF_10, 12), rfl, rfl⟩
theorem vf_Film_clear : xVf m_Film_clear 0 5 := ⟨y_Film_clear, wd_539, wd_540, (xN_5, xF_5, 2), rfl, rfl⟩
theorem vf_Film_copy : xVf m_Film_copy 1 5 := ⟨y_Film_copy, wd_800, wd_801, (xN_5, xF_5, 2), rfl, rfl⟩
theorem vf_Film_isFull : xVf m_Film_isFull 0 5 := ⟨y_Film_isFull, wd_731, wd_732, (xN_5, xF_5, 2), rfl, rfl⟩
theorem vf_Film_push : xVf m_Film_push 2 5 := ⟨y_Film_push, wd_747, wd_748, (xN_5, xF_5, 2), rfl, rfl⟩
theorem vf_Film_frames : xVf m_Film_frames 0 5 := ⟨y_Film_frames, wd_736, wd_737, (xN_5, xF_5, 2), rfl, rfl⟩
theorem vf_Film_tenth : xVf m_Film_tenth 1 5 := ⟨y_Film_tenth, wd_741, wd_742, (xN_5, xF_5, 2), rfl, rfl⟩
theorem vf_Film_who : xVf m_Film_who 1 5 := ⟨y_Film_who, wd_1426, wd_1427, (xN_5, xF_5, 2), rfl, rfl⟩
theorem vf_Film_firstWith : xVf m_Film_firstWith 1 5 := ⟨y_Film_firstWith, wd_1448, wd_1449, (xN_5, xF_5, 2), rfl, rfl⟩
theorem vf_Film_above : xVf m_Film_above 1 5 := ⟨y_Film_above, wd_1461, wd_1462, (xN_5, xF_5, 2), rfl, rfl⟩
theorem vf_Film_upTo : xVf m_Film_upTo 1 5 := ⟨y_Film_upTo, wd_1456, wd_1457, (xN_5, xF_5, 2), rfl, rfl⟩
theorem vf_Film_answer : xVf m_Film_answer 2 5 := ⟨y_Film_answer, wd_1434, wd_1435, (xN_5, xF_5, 2), rfl, rfl⟩
theorem vf_Film_lies : xVf m_Film_lies 0 5 := ⟨y_Film_lies, wd_1439, sd_61, (xN_5, xF_5, 2), rfl, rfl⟩
theorem vf_Film_sure : xVf m_Film_sure 1 5 := ⟨y_Film_sure, wd_1445, sd_62, (xN_5, xF_5, 2), rfl, rfl⟩
theorem vf_Film_may : xVf m_Film_may 1 5 := ⟨y_Film_may, wd_1467, sd_64, (xN_5, xF_5, 2), rfl, rfl⟩
theorem vf_Film_leastOfOthers : xVf m_Film_leastOfOthers 3 5 := ⟨y_Film_leastOfOthers, wd_1453, sd_63, (xN_5, xF_5, 2), rfl, rfl⟩
theorem vf_Film_shorts : xVf m_Film_shorts 1 5 := ⟨y_Film_shorts, wd_1471, sd_65, (xN_5, xF_5, 2), rfl, rfl⟩
theorem vf_Film_likelyFirst : xVf m_Film_likelyFirst 3 5 := ⟨y_Film_likelyFirst, wd_1481, wd_1482, (xN_5, xF_5, 2), rfl, rfl⟩
theorem vf_Film_waysOfOthers : xVf m_Film_waysOfOthers 3 5 := ⟨y_Film_waysOfOthers, wd_1486, sd_66, (xN_5, xF_5, 2), rfl, rfl⟩
theorem sf_Looks_lasts : xSf m_Looks_lasts 3 := ⟨y_Looks_lasts, wd_1336⟩
theorem vf_Looks_bestEyes : xVf m_Looks_bestEyes 3 12 := ⟨y_Looks_bestEyes, wd_1345, wd_1346, (xN_12, xF_12, 2), rfl, rfl⟩
theorem sf_Looks_waysOf : xSf m_Looks_waysOf 1 := ⟨y_Looks_waysOf, wd_1362⟩
theorem vf_Looks_costOf : xVf m_Looks_costOf 3 12 := ⟨y_Looks_costOf, wd_1377, wd_1378, (xN_12, xF_12, 2), rfl, rfl⟩
theorem vf_Looks_weigh : xVf m_Looks_weigh 2 12 := ⟨y_Looks_weigh, wd_1366, sd_58, (xN_12, xF_12, 2), rfl, rfl⟩
theorem vf_Looks_resting : xVf m_Looks_resting 2 12 := ⟨y_Looks_resting, wd_1357, wd_1358, (xN_12, xF_12, 2), rfl, rfl⟩
theorem vf_Looks_isRest : xVf m_Looks_isRest 2 12 := ⟨y_Looks_isRest, wd_1372, sd_59, (xN_12, xF_12, 2), rfl, rfl⟩
theorem sf_Looks_farther : xSf m_Looks_farther 2 := ⟨y_Looks_farther, wd_1385⟩
theorem sf_Looks_waits : xSf m_Looks_waits 2 := ⟨y_Looks_waits, wd_1388⟩
theorem sf_Looks_touching : xSf m_Looks_touching 3 := ⟨y_Looks_touching, wd_1400⟩
theorem sf_Looks_looksIn : xSf m_Looks_looksIn 3 := ⟨y_Looks_looksIn, wd_1404⟩
theorem sf_Looks_lure : xSf m_Looks_lure 2 := ⟨y_Looks_lure, wd_1397⟩
theorem sf_Odds_rank : xSf m_Odds_rank 3 := ⟨y_Odds_rank, wd_396⟩
theorem vf_Odds_lie : xVf m_Odds_lie 2 11 := ⟨y_Odds_lie, wd_1221, wd_1222, (xN_11, xF_11, 9), rfl, rfl⟩
theorem vf_Odds_see : xVf m_Odds_see 1 11 := ⟨y_Odds_see, wd_1234, sd_49, (xN_11, xF_11, 9), rfl, rfl⟩
theorem vf_Odds_mayCome : xVf m_Odds_mayCome 1 11 := ⟨y_Odds_mayCome, wd_1250, wd_1251, (xN_11, xF_11, 9), rfl, rfl⟩
theorem vf_Odds_answer : xVf m_Odds_answer 1 11 := ⟨y_Odds_answer, wd_1238, wd_1239, (xN_11, xF_11, 9), rfl, rfl⟩
theorem vf_Odds_starved : xVf m_Odds_starved 0 11 := ⟨y_Odds_starved, wd_1243, sd_50, (xN_11, xF_11, 9), rfl, rfl⟩
theorem vf_Odds_hasAlike : xVf m_Odds_hasAlike 0 11 := ⟨y_Odds_hasAlike, wd_1267, sd_52, (xN_11, xF_11, 9), rfl, rfl⟩
theorem vf_Odds_likely : xVf m_Odds_likely 2 11 := ⟨y_Odds_likely, wd_1255, wd_1256, (xN_11, xF_11, 9), rfl, rfl⟩
theorem vf_Odds_forget : xVf m_Odds_forget 0 11 := ⟨y_Odds_forget, wd_1260, sd_51, (xN_11, xF_11, 9), rfl, rfl⟩
theorem vf_Odds_orders : xVf m_Odds_orders 1 11 := ⟨y_Odds_orders, wd_1271, sd_53, (xN_11, xF_11, 9), rfl, rfl⟩
theorem sf_Odds_goodOrders : xSf m_Odds_goodOrders 2 := ⟨y_Odds_goodOrders, wd_1263⟩
theorem sf_Odds_bestOrders : xSf m_Odds_bestOrders 2 := ⟨y_Odds_bestOrders, wd_1282⟩
theorem vf_Odds_ordersWithout : xVf m_Odds_ordersWithout 2 11 := ⟨y_Odds_ordersWithout, wd_1286, sd_56, (xN_11, xF_11, 9), rfl, rfl⟩
theorem vf_Odds_draw : xVf m_Odds_draw 2 11 := ⟨y_Odds_draw, wd_1279, sd_55, (xN_11, xF_11, 9), rfl, rfl⟩
theorem vf_Odds_key : xVf m_Odds_key 0 11 := ⟨y_Odds_key, wd_1275, sd_54, (xN_11, xF_11, 9), rfl, rfl⟩
theorem vf_Odds_bestHandedOn : xVf m_Odds_bestHandedOn 2 11 := ⟨y_Odds_bestHandedOn, wd_1297, wd_1298, (xN_11, xF_11, 9), rfl, rfl⟩
theorem vf_Odds_likelyAlone : xVf m_Odds_likelyAlone 3 11 := ⟨y_Odds_likelyAlone, wd_1305, wd_1306, (xN_11, xF_11, 9), rfl, rfl⟩
theorem vf_Odds_likelyKept : xVf m_Odds_likelyKept 3 11 := ⟨y_Odds_likelyKept, wd_1328, wd_1329, (xN_11, xF_11, 9), rfl, rfl⟩
theorem vf_Odds_choicesWith : xVf m_Odds_choicesWith 3 11 := ⟨y_Odds_choicesWith, wd_1310, sd_57, (xN_11, xF_11, 9), rfl, rfl⟩
theorem sf_Odds_choices : xSf m_Odds_choices 2 := ⟨y_Odds_choices, wd_1313⟩
theorem vf_Odds_soonestBy : xVf m_Odds_soonestBy 2 11 := ⟨y_Odds_soonestBy, wd_1320, wd_1321, (xN_11, xF_11, 9), rfl, rfl⟩
theorem vf_Reader_read : xVf m_Reader_read 2 6 := ⟨y_Reader_read, wd_522, wd_523, (xN_6, xF_6, 13), rfl, rfl⟩
theorem vf_Reader_stands : xVf m_Reader_stands 0 6 := ⟨y_Reader_stands, wd_761, sd_24, (xN_6, xF_6, 13), rfl, rfl⟩
theorem vf_Reader_readLine : xVf m_Reader_readLine 1 6 := ⟨y_Reader_readLine, wd_568, sd_4, (xN_6, xF_6, 13), rfl, rfl⟩
theorem vf_Reader_readNumbers : xVf m_Reader_readNumbers 2 6 := ⟨y_Reader_readNumbers, wd_664, sd_10, (xN_6, xF_6, 13), rfl, rfl⟩
theorem vf_Reader_readLaw : xVf m_Reader_readLaw 0 6 := ⟨y_Reader_readLaw, wd_673, sd_12, (xN_6, xF_6, 13), rfl, rfl⟩
theorem vf_Reader_lawHere : xVf m_Reader_lawHere 0 6 := ⟨y_Reader_lawHere, wd_677, sd_13, (xN_6, xF_6, 13), rfl, rfl⟩
theorem vf_Reader_formOf : xVf m_Reader_formOf 1 6 := ⟨y_Reader_formOf, wd_572, sd_5, (xN_6, xF_6, 13), rfl, rfl⟩
theorem vf_Reader_tableForm : xVf m_Reader_tableForm 0 6 := ⟨y_Reader_tableForm, wd_576, sd_6, (xN_6, xF_6, 13), rfl, rfl⟩
theorem vf_Reader_deedForm : xVf m_Reader_deedForm 0 6 := ⟨y_Reader_deedForm, wd_641, sd_8, (xN_6, xF_6, 13), rfl, rfl⟩
theorem sf_Reader_leastNumbers : xSf m_Reader_leastNumbers 1 := ⟨y_Reader_leastNumbers, wd_657⟩
theorem sf_Reader_mostNumbers : xSf m_Reader_mostNumbers 1 := ⟨y_Reader_mostNumbers, wd_660⟩
theorem vf_Reader_tell : xVf m_Reader_tell 2 6 := ⟨y_Reader_tell, wd_685, sd_14, (xN_6, xF_6, 13), rfl, rfl⟩
theorem vf_Reader_tellNumber : xVf m_Reader_tellNumber 1 6 := ⟨y_Reader_tellNumber, wd_757, sd_23, (xN_6, xF_6, 13), rfl, rfl⟩
theorem vf_Reader_tellPerson : xVf m_Reader_tellPerson 1 6 := ⟨y_Reader_tellPerson, wd_689, sd_15, (xN_6, xF_6, 13), rfl, rfl⟩
theorem vf_Reader_tellJumpy : xVf m_Reader_tellJumpy 0 6 := ⟨y_Reader_tellJumpy, wd_711, sd_18, (xN_6, xF_6, 13), rfl, rfl⟩
theorem vf_Reader_tellLaw : xVf m_Reader_tellLaw 0 6 := ⟨y_Reader_tellLaw, wd_716, sd_19, (xN_6, xF_6, 13), rfl, rfl⟩
theorem vf_Reader_tellKinds : xVf m_Reader_tellKinds 1 6 := ⟨y_Reader_tellKinds, wd_720, sd_20, (xN_6, xF_6, 13), rfl, rfl⟩
theorem vf_Reader_tellDeed : xVf m_Reader_tellDeed 2 6 := ⟨y_Reader_tellDeed, wd_753, sd_22, (xN_6, xF_6, 13), rfl, rfl⟩
theorem vf_Reader_tellFrame : xVf m_Reader_tellFrame 1 6 := ⟨y_Reader_tellFrame, wd_728, sd_21, (xN_6, xF_6, 13), rfl, rfl⟩
theorem vf_Reader_check : xVf m_Reader_check 3 6 := ⟨y_Reader_check, wd_702, sd_17, (xN_6, xF_6, 13), rfl, rfl⟩
theorem vf_Reader_note : xVf m_Reader_note 2 6 := ⟨y_Reader_note, wd_698, sd_16, (xN_6, xF_6, 13), rfl, rfl⟩
theorem vf_Reader_breakOff : xVf m_Reader_breakOff 0 6 := ⟨y_Reader_breakOff, wd_653, sd_9, (xN_6, xF_6, 13), rfl, rfl⟩
theorem vf_Reader_step : xVf m_Reader_step 0 6 := ⟨y_Reader_step, wd_545, sd_1, (xN_6, xF_6, 13), rfl, rfl⟩
theorem vf_Reader_endOfLetters : xVf m_Reader_endOfLetters 1 6 := ⟨y_Reader_endOfLetters, wd_557, sd_2, (xN_6, xF_6, 13), rfl, rfl⟩
theorem vf_Reader_endOfDigits : xVf m_Reader_endOfDigits 1 6 := ⟨y_Reader_endOfDigits, wd_564, sd_3, (xN_6, xF_6, 13), rfl, rfl⟩
theorem sf_Reader_isBlank : xSf m_Reader_isBlank 1 := ⟨y_Reader_isBlank, wd_550⟩
theorem sf_Reader_isLetter : xSf m_Reader_isLetter 1 := ⟨y_Reader_isLetter, wd_553⟩
theorem sf_Reader_isDigit : xSf m_Reader_isDigit 1 := ⟨y_Reader_isDigit, wd_560⟩
theorem vf_Reader_says : xVf m_Reader_says 1 6 := ⟨y_Reader_says, wd_581, sd_7, (xN_6, xF_6, 13), rfl, rfl⟩
theorem vf_Reader_numberHere : xVf m_Reader_numberHere 0 6 := ⟨y_Reader_numberHere, wd_668, sd_11, (xN_6, xF_6, 13), rfl, rfl⟩
theorem vf_Rounds_play : xVf m_Rounds_play 3 9 := ⟨y_Rounds_play, wd_995, wd_996, (xN_9, xF_9, 8), rfl, rfl⟩
theorem sf_Rounds_samePacesEach : xSf m_Rounds_samePacesEach 1 := ⟨y_Rounds_samePacesEach, wd_1000⟩
theorem vf_Rounds_leap : xVf m_Rounds_leap 1 9 := ⟨y_Rounds_leap, wd_1038, sd_40, (xN_9, xF_9, 8), rfl, rfl⟩
theorem vf_Rounds_turn : xVf m_Rounds_turn 2 9 := ⟨y_Rounds_turn, wd_1017, sd_38, (xN_9, xF_9, 8), rfl, rfl⟩
theorem vf_Rounds_choice : xVf m_Rounds_choice 3 9 := ⟨y_Rounds_choice, wd_1022, sd_39, (xN_9, xF_9, 8), rfl, rfl⟩
theorem vf_Rounds_answer : xVf m_Rounds_answer 3 9 := ⟨y_Rounds_answer, wd_1058, wd_1059, (xN_9, xF_9, 8), rfl, rfl⟩
theorem vf_Rounds_answerOf : xVf m_Rounds_answerOf 3 9 := ⟨y_Rounds_answerOf, wd_1081, wd_1082, (xN_9, xF_9, 8), rfl, rfl⟩
theorem vf_Rounds_mends : xVf m_Rounds_mends 2 9 := ⟨y_Rounds_mends, wd_1063, sd_42, (xN_9, xF_9, 8), rfl, rfl⟩
theorem vf_Row_size : xVf m_Row_size 0 2 := ⟨y_Row_size, wd_485, wd_486, (xN_2, xF_2, 2), rfl, rfl⟩
theorem vf_Row_isFull : xVf m_Row_isFull 0 2 := ⟨y_Row_isFull, wd_723, wd_724, (xN_2, xF_2, 2), rfl, rfl⟩
theorem vf_Row_reaches : xVf m_Row_reaches 1 2 := ⟨y_Row_reaches, wd_510, wd_511, (xN_2, xF_2, 2), rfl, rfl⟩
theorem vf_Row_get : xVf m_Row_get 1 2 := ⟨y_Row_get, wd_514, wd_515, (xN_2, xF_2, 2), rfl, rfl⟩
theorem vf_Row_set : xVf m_Row_set 2 2 := ⟨y_Row_set, wd_84, wd_85, (xN_2, xF_2, 2), rfl, rfl⟩
theorem vf_Row_add : xVf m_Row_add 2 2 := ⟨y_Row_add, wd_891, wd_892, (xN_2, xF_2, 2), rfl, rfl⟩
theorem vf_Row_push : xVf m_Row_push 1 2 := ⟨y_Row_push, wd_399, wd_400, (xN_2, xF_2, 2), rfl, rfl⟩
theorem vf_Row_remove : xVf m_Row_remove 1 2 := ⟨y_Row_remove, wd_1146, wd_1147, (xN_2, xF_2, 2), rfl, rfl⟩
theorem vf_Row_clear : xVf m_Row_clear 0 2 := ⟨y_Row_clear, wd_518, wd_519, (xN_2, xF_2, 2), rfl, rfl⟩
theorem vf_Row_cut : xVf m_Row_cut 1 2 := ⟨y_Row_cut, wd_498, wd_499, (xN_2, xF_2, 2), rfl, rfl⟩
theorem vf_Row_fill : xVf m_Row_fill 2 2 := ⟨y_Row_fill, wd_71, wd_72, (xN_2, xF_2, 2), rfl, rfl⟩
theorem vf_Row_swap : xVf m_Row_swap 2 2 := ⟨y_Row_swap, wd_1113, wd_1114, (xN_2, xF_2, 2), rfl, rfl⟩
theorem vf_Row_copy : xVf m_Row_copy 1 2 := ⟨y_Row_copy, wd_526, wd_527, (xN_2, xF_2, 2), rfl, rfl⟩
theorem vf_Row_countOf : xVf m_Row_countOf 1 2 := ⟨y_Row_countOf, wd_858, wd_859, (xN_2, xF_2, 2), rfl, rfl⟩
theorem vf_Sheet_clear : xVf m_Sheet_clear 0 3 := ⟨y_Sheet_clear, wd_533, wd_534, (xN_3, xF_3, 6), rfl, rfl⟩
theorem vf_Sheet_copy : xVf m_Sheet_copy 2 3 := ⟨y_Sheet_copy, wd_790, wd_791, (xN_3, xF_3, 6), rfl, rfl⟩
theorem vf_Table_clear : xVf m_Table_clear 0 4 := ⟨y_Table_clear, wd_67, wd_68, (xN_4, xF_4, 2), rfl, rfl⟩
theorem vf_Table_copy : xVf m_Table_copy 1 4 := ⟨y_Table_copy, wd_794, wd_795, (xN_4, xF_4, 2), rfl, rfl⟩
theorem vf_Table_copyEmpty : xVf m_Table_copyEmpty 1 4 := ⟨y_Table_copyEmpty, wd_1132, wd_1133, (xN_4, xF_4, 2), rfl, rfl⟩
theorem vf_Table_seat : xVf m_Table_seat 2 4 := ⟨y_Table_seat, wd_1137, wd_1138, (xN_4, xF_4, 2), rfl, rfl⟩
theorem vf_Table_number : xVf m_Table_number 1 4 := ⟨y_Table_number, wd_824, wd_825, (xN_4, xF_4, 2), rfl, rfl⟩
theorem vf_Table_setNumber : xVf m_Table_setNumber 2 4 := ⟨y_Table_setNumber, wd_706, wd_707, (xN_4, xF_4, 2), rfl, rfl⟩
theorem vf_Table_of : xVf m_Table_of 2 4 := ⟨y_Table_of, wd_836, wd_837, (xN_4, xF_4, 2), rfl, rfl⟩
theorem vf_Table_setOf : xVf m_Table_setOf 3 4 := ⟨y_Table_setOf, wd_88, wd_89, (xN_4, xF_4, 2), rfl, rfl⟩
theorem vf_Table_kinds : xVf m_Table_kinds 0 4 := ⟨y_Table_kinds, wd_764, wd_765, (xN_4, xF_4, 2), rfl, rfl⟩
theorem vf_Table_alike : xVf m_Table_alike 0 4 := ⟨y_Table_alike, wd_778, wd_779, (xN_4, xF_4, 2), rfl, rfl⟩
theorem vf_Table_people : xVf m_Table_people 0 4 := ⟨y_Table_people, wd_692, wd_693, (xN_4, xF_4, 2), rfl, rfl⟩
theorem vf_Table_pack : xVf m_Table_pack 0 4 := ⟨y_Table_pack, wd_768, wd_769, (xN_4, xF_4, 2), rfl, rfl⟩
theorem vf_Table_allHold : xVf m_Table_allHold 0 4 := ⟨y_Table_allHold, wd_773, wd_774, (xN_4, xF_4, 2), rfl, rfl⟩
theorem vf_Table_has : xVf m_Table_has 1 4 := ⟨y_Table_has, wd_832, wd_833, (xN_4, xF_4, 2), rfl, rfl⟩
theorem vf_Table_hasKind : xVf m_Table_hasKind 1 4 := ⟨y_Table_hasKind, wd_983, wd_984, (xN_4, xF_4, 2), rfl, rfl⟩
theorem vf_Table_suits : xVf m_Table_suits 1 4 := ⟨y_Table_suits, wd_854, wd_855, (xN_4, xF_4, 2), rfl, rfl⟩
theorem vf_Table_goesInto : xVf m_Table_goesInto 3 4 := ⟨y_Table_goesInto, wd_1004, wd_1005, (xN_4, xF_4, 2), rfl, rfl⟩
theorem vf_Table_waitOf : xVf m_Table_waitOf 2 4 := ⟨y_Table_waitOf, wd_1077, wd_1078, (xN_4, xF_4, 2), rfl, rfl⟩
theorem vf_Table_spoonOf : xVf m_Table_spoonOf 3 4 := ⟨y_Table_spoonOf, wd_1073, wd_1074, (xN_4, xF_4, 2), rfl, rfl⟩
theorem vf_Table_lastOf : xVf m_Table_lastOf 2 4 := ⟨y_Table_lastOf, wd_1069, wd_1070, (xN_4, xF_4, 2), rfl, rfl⟩
theorem vf_Told_howMany : xVf m_Told_howMany 1 1 := ⟨y_Told_howMany, wd_506, wd_507, (xN_1, xF_1, 5), rfl, rfl⟩
theorem vf_Told_sheetAt : xVf m_Told_sheetAt 2 1 := ⟨y_Told_sheetAt, wd_820, wd_821, (xN_1, xF_1, 5), rfl, rfl⟩
theorem vf_Told_slotAt : xVf m_Told_slotAt 1 1 := ⟨y_Told_slotAt, wd_787, sd_25, (xN_1, xF_1, 5), rfl, rfl⟩
theorem vf_Told_keep : xVf m_Told_keep 3 1 := ⟨y_Told_keep, wd_782, wd_783, (xN_1, xF_1, 5), rfl, rfl⟩
theorem vf_Told_copy : xVf m_Told_copy 1 1 := ⟨y_Told_copy, wd_1503, wd_1504, (xN_1, xF_1, 5), rfl, rfl⟩
theorem sf_Arrays_fill : xSf m_Arrays_fill 2 := ⟨y_Arrays_fill, wd_81⟩
theorem sf_Integer_bitCount : xSf m_Integer_bitCount 1 := ⟨y_Integer_bitCount, wd_1409⟩
theorem sf_Latin_charAt : xSf m_Latin_charAt 2 := ⟨y_Latin_charAt, wd_602⟩
theorem sf_String_checkIndex : xSf m_String_checkIndex 2 := ⟨y_String_checkIndex, wd_605⟩
theorem sf_Pre_checkIndex : xSf m_Pre_checkIndex 3 := ⟨y_Pre_checkIndex, wd_610⟩
