/-! New cells: worlds that grow, what a constructor leaves. -/
/-- the place k of the cell i holds a reference -/
def gRel (i k : Nat) : Prop := if xk i < 100 then 2 ≤ (xfk (xk i)).getD k 0 else k < xl i
theorem gRel_obj {i k c : Nat} (hc : xk i = c) (h100 : c < 100) : gRel i k ↔ 2 ≤ (xfk c).getD k 0 := by
  unfold gRel
  rw [hc, if_pos h100]
theorem xP_eq {d : Nat} {m : xM} {pc : Nat} {L : List (Nat × Value)} {st : List Value} {g : Nat} {ρ ρ' : Nat → Nat → Bool} {E : xG} {D : xD} {Q : Option Value → xD → Prop} (he : ∀ i, i < g → ∀ k, gRel i k → ρ' i k = ρ i k) (h : xP d m pc L st (g, ρ') D E Q) : xP d m pc L st (g, ρ) D E Q := by
  intro κ p l e R s mid args below meth c G0 C ls H locs hl hP hS h0 h1
  refine h κ p l e R s mid args below meth c G0 C ls H locs hl (fun k q hq => ?_) hS h0 h1
  have hk : k < g := by
    have := (List.getElem?_eq_some_iff.mp hq).1
    simpa [xWs] using this
  rw [xWs_get κ (g, ρ') D hk] at hq
  cases hq
  have hp := hP k _ (xWs_get κ (g, ρ) D hk)
  have ex : ∀ n c, (xfk (xk k))[n]? = some c → xk k < 100 → xfv κ (g, ρ') D k n c = xfv κ (g, ρ) D k n c := by
    intro n c hc h100
    match c with
    | 0 => rfl
    | 1 => rfl
    | δ + 2 =>
      have := he k hk n ((gRel_obj rfl h100).mpr (by rw [List.getD_eq_getElem?_getD, hc]; show 2 ≤ δ + 2; omega))
      show (if ρ' k n = true then _ else _) = (if ρ k n = true then _ else _)
      rw [this]
  by_cases h100 : xk k < 100
  · have e : xE κ (g, ρ') D k = xE κ (g, ρ) D k := by
      unfold xE
      rw [if_pos h100, if_pos h100]
      have : xfs κ (g, ρ') D k = xfs κ (g, ρ) D k := by
        apply List.ext_getElem?
        intro n
        by_cases hn : n < (xfk (xk k)).length
        · have hg : (xfk (xk k))[n]? = some ((xfk (xk k))[n]) := List.getElem?_eq_getElem hn
          rw [xfs_get κ (g, ρ') D hg, xfs_get κ (g, ρ) D hg, ex n _ hg h100]
        · rw [List.getElem?_eq_none (by rw [xfs_len]; omega), List.getElem?_eq_none (by rw [xfs_len]; omega)]
      rw [this]
    rw [e]
    exact hp
  · unfold xE at hp ⊢
    rw [if_neg h100] at hp ⊢
    show H[κ.2.1 k]? = some (vp_cell _ (xl k, xac κ (g, ρ') D k (xk k - 100)))
    have hp : H[κ.2.1 k]? = some (vp_cell (κ.2.2.2.2.1 (xk k - 100)) (xl k, xac κ (g, ρ) D k (xk k - 100))) := hp
    rw [hp]
    congr 1
    unfold xac
    by_cases h1 : xk k - 100 = 1
    · rw [if_pos h1, if_pos h1]
    · rw [if_neg h1, if_neg h1]
      by_cases h4 : xk k - 100 < 4
      · rw [if_pos h4, if_pos h4]
      · rw [if_neg h4, if_neg h4]
        rw [vp_cell_q, vp_cell_q]
        unfold arrV
        congr 1
        congr 1
        funext j
        have := he k hk j.val (by unfold gRel; rw [if_neg h100]; exact j.isLt)
        show va_rf (if ρ k j.val = true then _ else _) = va_rf (if ρ' k j.val = true then _ else _)
        rw [this]
/-- the same references, but none in the cell a -/
def gF (ρ : Nat → Nat → Bool) (a : Nat) : Nat → Nat → Bool := fun i j => if i = a then false else ρ i j
theorem gF_ne (ρ : Nat → Nat → Bool) {a i : Nat} (h : i ≠ a) : gF ρ a i = ρ i := by funext j; simp [gF, h]
/-- made of the world with ρ: below b all is as it was; behind b, and at the places S of b, all stands -/
def gB (ρ0 ρ : Nat → Nat → Bool) (b : Nat) (S : List Nat) : Prop := (∀ i, i < b → ρ i = ρ0 i) ∧ (∀ i, b < i → ∀ k, ρ i k = true) ∧ ∀ k, k ∈ S → ρ b k = true
/-- at the end: N cells from b on are whole -/
def gE (ρ0 ρ : Nat → Nat → Bool) (b N : Nat) : Prop := (∀ i, i < b → ∀ k, gRel i k → ρ i k = ρ0 i k) ∧ ∀ i, b ≤ i → i < b + N → ∀ k, gRel i k → ρ i k = true
/-- all numbers from b on are 0 -/
def zF (D : xD) (b : Nat) : Prop := (∀ i, b ≤ i → D.1 i = fun _ => 0) ∧ ∀ i, b ≤ i → D.2 i = fun _ => 0
theorem zF.up {D : xD} {b b' : Nat} (h : zF D b) (q : b ≤ b') : zF D b' := ⟨fun i hi => h.1 i (by omega), fun i hi => h.2 i (by omega)⟩
theorem zF.out {D D' : xD} {b lo hi : Nat} (h : zF D b) (o : xOut lo hi D D') (q : b ≤ hi) : zF D' hi := ⟨fun i hi => by rw [o.1 i (by omega)]; exact h.1 i (by omega), fun i hi => by rw [o.2]; exact h.2 i (by omega)⟩
theorem zF.rS {D : xD} {b a : Nat} (h : zF D b) (q : b ≤ a) (k : xk a = 2) : rS D a 0 := ⟨by rw [h.1 a q]; rfl, Nat.zero_le _, k⟩
def xCg (d : Nat) (y : xM) (As : List Value) (G : xG) (D : xD) (E : xG) (P : xD → Prop) : Prop := xC d y As G D E (fun r D' => r = none ∧ P D')
theorem xCg_of {d : Nat} {y : xM} {n : Nat} {As : List Value} {G E : xG} {D : xD} {P : xD → Prop} (hY : xY y n) (hlen : (lg_sl As).length ≤ y.2.2.1) (k : xP d y 0 (lv_args 0 As) [] G D E (fun r D' => r = none ∧ P D')) : xCg d y As G D E P := xC_of hY hlen k
/-- what is known of a class whose objects are made -/
def xNw (c n : Nat) (r : vw_C) : Prop := xcl[c]? = some r ∧ (∀ w ∈ u_ws r.1 r.2.1 r.2.2, w ∈ xtbl) ∧ xIn (.instantiable r.1 r.2.2) ∧ xIn (.initialized r.1) ∧ c < 100 ∧ r.2.2 = n ∧ (xfk c).length = n ∧
  ∃ ty : Nat → FieldType, (∀ k, k < n → parseFieldDescriptor (r.2.1 k).2.2.1 = some (ty k)) ∧ ∀ j, j < n → defaultValue (ty j) = (match (xfk c).getD j 0 with | 0 => .int 0 | 1 => .long 0 | _ => .null)
set_option maxRecDepth 20000 in
theorem xfk_len : ∀ i, xk i < 100 → (xfk (xk i)).length = xl i := by
  intro i hi
  have hl : i < 368 := by
    apply Nat.lt_of_not_le
    intro hl
    have h2 : xk i = 999 := by
      unfold xk
      rw [List.getD_eq_getElem?_getD, List.getElem?_eq_none (by show 368 ≤ i; exact hl)]
      rfl
    omega
  have key : ∀ i, i < 368 → xk i < 100 → (xfk (xk i)).length = xl i := by decide +kernel
  exact key i hl hi
section XM
variable {d : Nat} {m : xM} {pc : Nat} {L : List (Nat × Value)} {st stk : List Value} {a : Nat} {ρ ρ0 : Nat → Nat → Bool} {E : xG} {D : xD} {Q : Option Value → xD → Prop}
theorem xb_new {i c n : Nat} {r : vw_C} (hw : xNw c n r) (hlk : xIn (.classLink m.1.cls i r.1)) (hk : xk a = c) (hz : zF D a) (hroom : a < E.1) (he : m.2.2.2.2.lookup pc = some (.new i, 3)) (kk : xP d m (pc + 3) L (.ref a :: st) (a + 1, gF ρ a) D E Q) : xP d m pc L st (a, ρ) D E Q := by
  obtain ⟨hr, hin, hinst, hini, h100, hn, hlen, ty, hty, hdef⟩ := hw
  have hl := xfk_len a (by rw [hk]; exact h100)
  rw [hk] at hl
  refine xP_eq (ρ' := gF ρ a) (fun i hi k _ => by rw [gF_ne ρ (by omega)]) ?_
  exact x_new (G := (a, gF ρ a)) hlk hinst hini hr hin (fun k hk => hty k (by omega)) hk h100 (by show r.2.2 = xl a; omega) (by omega) (fun j hj => hdef j (by omega)) (hz.1 a (Nat.le_refl _)) (hz.2 a (Nat.le_refl _)) (by show gF ρ a a = _; funext j; simp [gF]) hroom he kk
theorem xb_newa {t N : Nat} {at0 : Jvm.ClassFile.ArrayType} {n : Int32} (hw : xIn (.arrayClass (xat t))) (hat : newarray.typeOf at0 = xat t) (ht : t < 4) (hk : xk a = 100 + t) (hl : xl a = N) (hn : ¬ n < 0) (hN : n.toNatClampNeg = N) (hz : zF D a) (hroom : a < E.1)
    (he : m.2.2.2.2.lookup pc = some (.newarray at0, 2)) (kk : xP d m (pc + 2) L (.ref a :: st) (a + 1, ρ) D E Q) : xP d m pc L (.int n :: st) (a, ρ) D E Q :=
  x_newa (G := (a, ρ)) hw hat ht hk hn (hN.trans hl.symm) (by have := xl_le a; show xl a ≤ _; omega) (hz.1 a (Nat.le_refl _)) (hz.2 a (Nat.le_refl _)) hroom he kk
theorem xb_newq {t i N : Nat} {Cn : String} {n : Int32} (hlk : xIn (.classLink m.1.cls i Cn)) (hat : xat t = .object Cn) (ht : t = 4 ∨ t = 5) (hk : xk a = 100 + t) (hl : xl a = N) (hn : ¬ n < 0) (hN : n.toNatClampNeg = N) (hroom : a < E.1)
    (he : m.2.2.2.2.lookup pc = some (.anewarray i, 3)) (kk : xP d m (pc + 3) L (.ref a :: st) (a + 1, gF ρ a) D E Q) : xP d m pc L (.int n :: st) (a, ρ) D E Q := by
  refine xP_eq (ρ' := gF ρ a) (fun i hi k _ => by rw [gF_ne ρ (by omega)]) ?_
  exact x_newq (G := (a, gF ρ a)) hlk hat ht hk hn (hN.trans hl.symm) (by have := xl_le a; show xl a ≤ _; omega) (by show gF ρ a a = _; funext j; simp [gF]) hroom he kk
theorem xb_putR {b c k i g δ : Nat} {S : List Nat} {ty : FieldType} (hlk : xLp m.1.cls i c k ty) (hini : m.1.name = "<init>") (hc : xk b = c) (hf : (xfk c)[k]? = some (δ + 2)) (hb : b < g) (hB : gB ρ0 ρ b S)
    (hn : ∀ z, narrow ty (.ref z) = .ref z ∧ fits ty (.ref z) = true) (he : m.2.2.2.2.lookup pc = some (.putfield i, 3)) (kk : ∀ ρ', gB ρ0 ρ' b (k :: S) → xP d m (pc + 3) L st (g, ρ') D E Q) : xP d m pc L (.ref (b + δ) :: .ref b :: st) (g, ρ) D E Q := by
  have h100 : c < 100 := by obtain ⟨r, _, hr, -⟩ := hlk; exact xcl100 hr
  refine x_putR (G := (g, ρ)) hlk hini hc h100 hf hb hn he (kk _ ⟨fun i hi => ?_, fun i hi j => ?_, fun j hj => ?_⟩)
  · rw [xuR_ne _ _ (by omega)]; exact hB.1 i hi
  · rw [xuR_ne _ _ (by omega)]; exact hB.2.1 i hi j
  · rcases List.mem_cons.mp hj with rfl | hj
    · simp [xuR]
    · have := hB.2.2 j hj
      simp [xuR, this]
/-- the constructor of what was made just now -/
theorem xb_call {y : xM} {i n N : Nat} {As : List Value} (hlk : xLm m.1.cls i y.1) (hY : xY y n) (hYi : xIn (.instanceMethod y.1)) (hYn : y.1.name = "<init>") (hret : y.2.2.2.1 = none) (hn : As.length = n)
    (hst : stk = As.reverse ++ .ref a :: st) (hW : (st.map fun v => v.category).sum ≤ 8) (he : m.2.2.2.2.lookup pc = some (.invokespecial i, 3)) (h1 : 1 ≤ N) (hE2 : a + N ≤ E.1) (hC : xCg d y (.ref a :: As) (a + 1, gF ρ a) D (a + N, ρ) (fun D' => xP (d + 1) m (pc + 3) L st (a + N, ρ) D' E Q)) : xP (d + 1) m pc L stk (a + 1, gF ρ a) D E Q :=
  x_callI (E1 := (a + N, ρ)) hlk hY hYi hYn hret hn hst hW he (by show a + 1 ≤ a + N; omega) hE2 hC (fun r D' ⟨hr, hp⟩ => by subst hr; exact hp)
theorem gE_of {b N S : _} (hB : gB ρ0 ρ b S) (h : b < a) : gE (gF ρ a) ρ a N := ⟨fun i hi k _ => by rw [gF_ne ρ (by omega)], fun i h1 _ k _ => hB.2.1 i (by omega) k⟩
theorem gB_0 (ρ : Nat → Nat → Bool) (b : Nat) : gB ρ (fun i j => if b < i then true else ρ i j) b [] := ⟨fun i hi => by funext j; show (if b < i then true else ρ i j) = _; rw [if_neg (by omega)], fun i hi k => by show (if b < i then true else ρ i k) = _; rw [if_pos hi], fun k hk => by cases hk⟩
theorem xb_start {b : Nat} (kk : ∀ ρ', gB ρ ρ' b [] → xP d m pc L st (b + 1, ρ') D E Q) : xP d m pc L st (b + 1, ρ) D E Q := by
  refine xP_eq (ρ' := fun i j => if b < i then true else ρ i j) (fun i hi k _ => ?_) (kk _ (gB_0 ρ b))
  show (if b < i then true else ρ i k) = _
  rw [if_neg (by omega)]
theorem gAll {c : Nat} {S : List Nat} (h : (List.range (xfk c).length).all (fun k => decide ((xfk c).getD k 0 < 2) || S.contains k) = true) : ∀ k, 2 ≤ (xfk c).getD k 0 → k ∈ S := by
  intro k hk
  have hl : k < (xfk c).length := by
    apply Nat.lt_of_not_le
    intro q
    rw [List.getD_eq_getElem?_getD, List.getElem?_eq_none q] at hk
    have : (2 : Nat) ≤ 0 := hk
    omega
  have := List.all_eq_true.mp h k (List.mem_range.mpr hl)
  rw [Bool.or_eq_true] at this
  rcases this with q | q
  · have := of_decide_eq_true q; omega
  · simpa using q
/-- all the references of b stand: the world is as it shall be -/
theorem xb_whole {ρ' : Nat → Nat → Bool} {b c N : Nat} {S : List Nat} (hB : gB ρ0 ρ b S) (hc : xk b = c) (h100 : c < 100) (hS : (List.range (xfk c).length).all (fun k => decide ((xfk c).getD k 0 < 2) || S.contains k) = true) (hE : gE ρ0 ρ' b N) (kk : xP d m pc L st (b + N, ρ') D E Q) : xP d m pc L st (b + N, ρ) D E Q := by
  refine xP_eq (ρ' := ρ') (fun i hi k hr => ?_) kk
  by_cases h : i < b
  · rw [hE.1 i h k hr, hB.1 i h]
  · rw [hE.2 i (by omega) hi k hr]
    by_cases e : i = b
    · subst e
      exact (hB.2.2 k (gAll hS k ((gRel_obj hc h100).mp hr))).symm
    · exact (hB.2.1 i (by omega) k).symm
end XM
