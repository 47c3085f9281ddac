/-! THE CLAIM OUT OF ONE WALK OF THE LAW'S BODY. Your part is whole_start (and what it stands on); all else here is the same for every law, but numbers. -/
def R_law : String := "SpoonShortLaw"
def lw_P (b : Addr) (xs : List Int32) (args : Array Value) (s : State) : Prop := args = #[.ref b] ∧ s.IntsAt b xs ∧ xs.length ≤ 4096 ∧ (Jvm.Cond.and given_1 narrow_1).before args s = true
def lw_Q (_ : Array Value) (s : State) (o : Outcome) (t : State) : Prop := o = .returned (some (.int 1)) ∧ Framed s o t [] 600000 7302250
def lw_Z (below : List Frame) (a : Array Value) (s : State) : State → Prop := fun t => ∃ o, t.status = .running ∧ Ended t below o ∧ lw_Q a s o t
/-- the law's own end, with 1 on the stack, nothing written that was there before, its room as the claim has it -/
theorem lw_ret {p : Program} {l : Launch} {e : Env} {s : State} {m : MethodId} {below : List Frame} {meth : Method} {c : Code} {b : Nat} (hx : p.tables.exec = Jvm.exec) (hb : c.code = code) (hr : meth.sig.returnType = ret) (hlocks : meth.locks = false) {pc : Nat} {H : Heap} {ls : Array Slot} (hdg : decode code pc = .ok (.ireturn, 1)) : W p l e room_1 s m #[Value.ref b] below meth c H [] 600000 7302250 (lw_Z below #[Value.ref b] s) (F0 m pc ls [.int 1]) := by
  intro T hT X
  obtain ⟨fs, hret, hrun, hended, hW, hframe⟩ := X.leave (v := some (.int 1)) (hlocks := hlocks) (fun h => by rw [hr] at h; cases h)
  have hmeth' : T.vm.method? m = some meth := X.method'
  refine ⟨T.setFrames fs, ?_, .returned (some (.int 1)), hrun, hended, rfl, ⟨_, rfl⟩, hW, hframe⟩
  jvm_step X.here [X.here.top, hx, hb, hdg, hmeth', hr, ret, narrow_b1]
  (try refine ⟨rfl, ?_⟩); (try refine ⟨rfl, ?_⟩)
  first | (intro acts; rw [hret _ acts rfl rfl rfl]) | rw [hret _ _ rfl rfl rfl]
  exact Steps.refl _
/-- what holds at the law's entry: the machine, the code, the tables' words (any of lw_tbl by 'hts w (by decide +kernel)'), the script of L ints xs at the cell b, what the Statement gives of the start (any of its parts by flat_of_before) -/
def lw_At (p : Program) (s : State) (m : MethodId) (meth : Method) (c : Code) (b L : Nat) (xs : Nat → Int32) : Prop :=
  p.tables.exec = Jvm.exec ∧ c.code = code ∧ meth.sig.returnType = ret ∧ c.maxLocals = 4 ∧ s.vm.findClass R_law = some m.cls ∧ (∀ w ∈ lw_tbl, w.before #[Value.ref b] s = true) ∧ va_X b L xs s s.heap ∧ b < s.heap.size ∧ meth.locks = false ∧ (Jvm.Cond.and given_1 narrow_1).before #[Value.ref b] s = true
/-! The law's own walk: its rows over the world, the script beside it (reference 400000). -/
/-- what holds all the way -/
def lC (κ : xK) (p : Program) (s : State) (mid : MethodId) (meth : Method) (c : Code) (b Ln : Nat) (xs : Nat → Int32) : Prop :=
  p.tables.exec = Jvm.exec ∧ c.code = code ∧ meth.sig.returnType = ret ∧ c.maxLocals = 4 ∧ s.vm.findClass R_law = some mid.cls ∧ (∀ w ∈ xtbl, w.before #[Value.ref b] s = true) ∧ meth.locks = false ∧ xEnv κ s ∧ s.heap.size = κ.1 ∧ va_X b Ln xs s s.heap ∧ b < s.heap.size ∧ κ.2.1 400000 = b ∧ Ln ≤ 4096
/-- from its place pc on, with locals L and stack st, over the cells G with the numbers D, the law comes to its end -/
def lP (κ : xK) (p : Program) (l : Launch) (e : Env) (s : State) (mid : MethodId) (below : List Frame) (meth : Method) (c : Code) (b : Nat) (pc : Nat) (L : List (Nat × Value)) (st : List Value) (G : xG) (D : xD) : Prop :=
  ∀ (ls : Array Slot) (H : Heap) (locs : List Loc), lv_has ls 4 (L.map (fun q => (q.1, rv κ q.2))) → va_P κ.2.2.2.2.2 xcl (xWs κ G D) H → va_S (fun q => κ.1 ≤ q) s.heap H locs →
  W p l e room_1 s mid #[Value.ref b] below meth c H locs G.1 (xS G.1) (lw_Z below #[Value.ref b] s) (F0 mid pc ls (st.map (rv κ)))
section LAW
variable {κ : xK} {p : Program} {l : Launch} {e : Env} {s : State} {mid : MethodId} {below : List Frame} {meth : Method} {c0 : Code} {b Ln : Nat} {xs : Nat → Int32} {pc : Nat} {L : List (Nat × Value)} {st stk : List Value} {G E1 : xG} {D : xD}
theorem l_iconst {n : Int} {v : Int32} (C : lC κ p s mid meth c0 b Ln xs) (he : decode code pc = .ok (.iconst n, 1)) (hv : Int32.ofInt n = v) (k : lP κ p l e s mid below meth c0 b (pc + 1) L (.int v :: st) G D) : lP κ p l e s mid below meth c0 b pc L st G D := by
  intro ls H locs hl hP hS
  exact lv_iconst C.1 C.2.1 he hv (k ls H locs hl hP hS)
theorem l_bipush {n : Int} {v : Int32} (C : lC κ p s mid meth c0 b Ln xs) (he : decode code pc = .ok (.bipush n, 2)) (hv : (Int8.ofInt n).toInt32 = v) (k : lP κ p l e s mid below meth c0 b (pc + 2) L (.int v :: st) G D) : lP κ p l e s mid below meth c0 b pc L st G D := by
  intro ls H locs hl hP hS
  exact lv_bipush C.1 C.2.1 he hv (k ls H locs hl hP hS)
theorem l_aload {k0 : Fin 4} {x : Nat} (C : lC κ p s mid meth c0 b Ln xs) (he : decode code pc = .ok (.aload_n k0, 1)) (hx : L.lookup (k0 : Nat) = some (.ref x)) (k : lP κ p l e s mid below meth c0 b (pc + 1) L (.ref x :: st) G D) : lP κ p l e s mid below meth c0 b pc L st G D := by
  intro ls H locs hl hP hS
  exact lv_aload_n C.1 C.2.1 he rfl (xloc hl hx) (k ls H locs hl hP hS)
theorem l_iload {k0 : Fin 4} {x : Int32} (C : lC κ p s mid meth c0 b Ln xs) (he : decode code pc = .ok (.iload_n k0, 1)) (hx : L.lookup (k0 : Nat) = some (.int x)) (k : lP κ p l e s mid below meth c0 b (pc + 1) L (.int x :: st) G D) : lP κ p l e s mid below meth c0 b pc L st G D := by
  intro ls H locs hl hP hS
  exact lv_iload_n C.1 C.2.1 he rfl (xloc hl hx) (k ls H locs hl hP hS)
theorem l_iadd {x y : Int32} (C : lC κ p s mid meth c0 b Ln xs) (he : decode code pc = .ok (.iadd, 1)) (k : lP κ p l e s mid below meth c0 b (pc + 1) L (.int (x + y) :: st) G D) : lP κ p l e s mid below meth c0 b pc L (.int y :: .int x :: st) G D := by
  intro ls H locs hl hP hS
  exact lv_iadd C.1 C.2.1 he (k ls H locs hl hP hS)
theorem l_isub {x y : Int32} (C : lC κ p s mid meth c0 b Ln xs) (he : decode code pc = .ok (.isub, 1)) (k : lP κ p l e s mid below meth c0 b (pc + 1) L (.int (x - y) :: st) G D) : lP κ p l e s mid below meth c0 b pc L (.int y :: .int x :: st) G D := by
  intro ls H locs hl hP hS
  exact lv_isub C.1 C.2.1 he (k ls H locs hl hP hS)
theorem l_iand {x y : Int32} (C : lC κ p s mid meth c0 b Ln xs) (he : decode code pc = .ok (.iand, 1)) (k : lP κ p l e s mid below meth c0 b (pc + 1) L (.int (x &&& y) :: st) G D) : lP κ p l e s mid below meth c0 b pc L (.int y :: .int x :: st) G D := by
  intro ls H locs hl hP hS
  exact lv_iand C.1 C.2.1 he (k ls H locs hl hP hS)
theorem l_lcmp {x y : Int64} (C : lC κ p s mid meth c0 b Ln xs) (he : decode code pc = .ok (.lcmp, 1)) (k : lP κ p l e s mid below meth c0 b (pc + 1) L (.int (lg_cmp x y) :: st) G D) : lP κ p l e s mid below meth c0 b pc L (.long y :: .long x :: st) G D := by
  intro ls H locs hl hP hS
  exact W.lcmp C.1 C.2.1 he (k ls H locs hl hP hS)
theorem l_dup {v : Value} (C : lC κ p s mid meth c0 b Ln xs) (he : decode code pc = .ok (.dup, 1)) (hv : v.category = 1) (k : lP κ p l e s mid below meth c0 b (pc + 1) L (v :: v :: st) G D) : lP κ p l e s mid below meth c0 b pc L (v :: st) G D := by
  intro ls H locs hl hP hS
  exact lv_dup C.1 C.2.1 he ((rv_cat κ v).trans hv) (k ls H locs hl hP hS)
theorem l_goto {off : Int} {tgt : Nat} (C : lC κ p s mid meth c0 b Ln xs) (he : decode code pc = .ok (.goto off, 3)) (ht : (pc : Int) + off = (tgt : Int)) (k : lP κ p l e s mid below meth c0 b tgt L st G D) : lP κ p l e s mid below meth c0 b pc L st G D := by
  intro ls H locs hl hP hS
  exact lv_goto C.1 C.2.1 he ht (k ls H locs hl hP hS)
theorem l_if_eq {x : Int32} {off : Int} {tgt : Nat} (C : lC κ p s mid meth c0 b Ln xs) (he : decode code pc = .ok (.ifCond .eq off, 3)) (ht : (pc : Int) + off = (tgt : Int)) (kt : x = 0 → lP κ p l e s mid below meth c0 b tgt L st G D) (kf : ¬ x = 0 → lP κ p l e s mid below meth c0 b (pc + 3) L st G D) : lP κ p l e s mid below meth c0 b pc L (.int x :: st) G D := by
  intro ls H locs hl hP hS
  exact lv_if_eq C.1 C.2.1 he ht (fun q => kt q ls H locs hl hP hS) (fun q => kf q ls H locs hl hP hS)
theorem l_icmp_eq {x y : Int32} {off : Int} {tgt : Nat} (C : lC κ p s mid meth c0 b Ln xs) (he : decode code pc = .ok (.if_icmp .eq off, 3)) (ht : (pc : Int) + off = (tgt : Int)) (kt : x = y → lP κ p l e s mid below meth c0 b tgt L st G D) (kf : ¬ x = y → lP κ p l e s mid below meth c0 b (pc + 3) L st G D) : lP κ p l e s mid below meth c0 b pc L (.int y :: .int x :: st) G D := by
  intro ls H locs hl hP hS
  exact lv_icmp_eq C.1 C.2.1 he ht (fun q => kt q ls H locs hl hP hS) (fun q => kf q ls H locs hl hP hS)
theorem l_icmp_gt {x y : Int32} {off : Int} {tgt : Nat} (C : lC κ p s mid meth c0 b Ln xs) (he : decode code pc = .ok (.if_icmp .gt off, 3)) (ht : (pc : Int) + off = (tgt : Int)) (kt : y < x → lP κ p l e s mid below meth c0 b tgt L st G D) (kf : ¬ y < x → lP κ p l e s mid below meth c0 b (pc + 3) L st G D) : lP κ p l e s mid below meth c0 b pc L (.int y :: .int x :: st) G D := by
  intro ls H locs hl hP hS
  exact lv_icmp_gt C.1 C.2.1 he ht (fun q => kt q ls H locs hl hP hS) (fun q => kf q ls H locs hl hP hS)
theorem l_tableOut {dflt lo hi : Int} {offs : Array Int} {len : Nat} {x : Int32} {tgt : Nat} (C : lC κ p s mid meth c0 b Ln xs) (he : decode code pc = .ok (.tableswitch dflt lo hi offs, len)) (h : x.toInt < lo ∨ hi < x.toInt) (ht : (pc : Int) + dflt = (tgt : Int)) (k : lP κ p l e s mid below meth c0 b tgt L st G D) : lP κ p l e s mid below meth c0 b pc L (.int x :: st) G D := by
  intro ls H locs hl hP hS
  exact lv_tableOut C.1 C.2.1 he h ht (k ls H locs hl hP hS)
theorem l_tableIn {dflt lo hi : Int} {offs : Array Int} {len : Nat} {x : Int32} {off : Int} {tgt : Nat} (C : lC κ p s mid meth c0 b Ln xs) (he : decode code pc = .ok (.tableswitch dflt lo hi offs, len)) (h2 : ¬ x.toInt < lo) (h3 : ¬ hi < x.toInt) (ho : offs[(x.toInt - lo).toNat]? = some off) (ht : (pc : Int) + off = (tgt : Int)) (k : lP κ p l e s mid below meth c0 b tgt L st G D) : lP κ p l e s mid below meth c0 b pc L (.int x :: st) G D := by
  intro ls H locs hl hP hS
  exact lv_tableIn C.1 C.2.1 he h2 h3 ho ht (k ls H locs hl hP hS)
theorem l_iinc {i : Nat} {n : Int} {x v : Int32} {L1 : List (Nat × Value)} (C : lC κ p s mid meth c0 b Ln xs) (he : decode code pc = .ok (.iinc i n, 3)) (hx : L.lookup i = some (.int x)) (hv : x + Int32.ofInt n = v) (hn : i < 4) (hL : (i, Value.int v) :: L.filter (fun q => !(q.1 == i) && !(q.1 + 1 == i && q.2.category == 2)) = L1) (k : lP κ p l e s mid below meth c0 b (pc + 3) L1 st G D) : lP κ p l e s mid below meth c0 b pc L st G D := by
  subst hL
  intro ls H locs hl hP hS
  obtain ⟨j, hj⟩ := List.getElem?_of_mem (List.mem_map.mpr ⟨(i, Value.int x), xlook hx, rfl⟩ : (i, rv κ (.int x)) ∈ L.map (fun q => (q.1, rv κ q.2)))
  exact lv_iinc C.1 C.2.1 he hl hj hv hn (by rw [xfil1]; rfl) (fun ls hl => (k ls H locs hl hP hS))
theorem l_istore {k0 : Fin 4} {i : Nat} {x : Int32} {L1 : List (Nat × Value)} (C : lC κ p s mid meth c0 b Ln xs) (he : decode code pc = .ok (.istore_n k0, 1)) (hi : (k0 : Nat) = i) (hn : i < 4) (hL : (i, Value.int x) :: L.filter (fun q => !(q.1 == i) && !(q.1 + 1 == i && q.2.category == 2)) = L1) (k : lP κ p l e s mid below meth c0 b (pc + 1) L1 st G D) : lP κ p l e s mid below meth c0 b pc L (.int x :: st) G D := by
  subst hL
  intro ls H locs hl hP hS
  exact lv_istore_n C.1 C.2.1 he hi hl hn (by rw [xfil1]; rfl) (fun ls hl => (k ls H locs hl hP hS))
theorem l_astore {k0 : Fin 4} {i : Nat} {x : Nat} {L1 : List (Nat × Value)} (C : lC κ p s mid meth c0 b Ln xs) (he : decode code pc = .ok (.astore_n k0, 1)) (hi : (k0 : Nat) = i) (hn : i < 4) (hL : (i, Value.ref x) :: L.filter (fun q => !(q.1 == i) && !(q.1 + 1 == i && q.2.category == 2)) = L1) (k : lP κ p l e s mid below meth c0 b (pc + 1) L1 st G D) : lP κ p l e s mid below meth c0 b pc L (.ref x :: st) G D := by
  subst hL
  intro ls H locs hl hP hS
  exact lv_astore_n C.1 C.2.1 he hi hl hn (by rw [xfil1]; rfl) (fun ls hl => (k ls H locs hl hP hS))
theorem l_sld {i : Int32} (C : lC κ p s mid meth c0 b Ln xs) (he : decode code pc = .ok (.iaload, 1)) (hin : vp_in i Ln) (k : lP κ p l e s mid below meth c0 b (pc + 1) L (.int (xs i.toNatClampNeg) :: st) G D) : lP κ p l e s mid below meth c0 b pc L (.int i :: .ref 400000 :: st) G D := by
  intro ls H locs hl hP hS
  obtain ⟨hx, hc, -, -, -, -, -, -, hz, hX, hb, hb2, -⟩ := C
  show W p l e room_1 s mid #[Value.ref b] below meth c0 H locs G.1 (xS G.1) (lw_Z below #[Value.ref b] s) (F0 mid pc ls (.int i :: .ref (κ.2.1 400000) :: st.map (rv κ)))
  rw [hb2]
  exact va_sld hx hc hX hb (by omega) hS hin he (k ls H locs hl hP hS)
theorem l_slen (C : lC κ p s mid meth c0 b Ln xs) (he : decode code pc = .ok (.arraylength, 1)) (k : lP κ p l e s mid below meth c0 b (pc + 1) L (.int (Int32.ofNat Ln) :: st) G D) : lP κ p l e s mid below meth c0 b pc L (.ref 400000 :: st) G D := by
  intro ls H locs hl hP hS
  obtain ⟨hx, hc, -, -, -, -, -, -, hz, hX, hb, hb2, -⟩ := C
  show W p l e room_1 s mid #[Value.ref b] below meth c0 H locs G.1 (xS G.1) (lw_Z below #[Value.ref b] s) (F0 mid pc ls (.ref (κ.2.1 400000) :: st.map (rv κ)))
  rw [hb2]
  exact va_slen hx hc hX hb (by omega) hS he (k ls H locs hl hP hS)
theorem l_ret (C : lC κ p s mid meth c0 b Ln xs) (he : decode code pc = .ok (.ireturn, 1)) (h1 : G.1 ≤ 600000) (h2 : xS G.1 ≤ 7302250) : lP κ p l e s mid below meth c0 b pc L [.int 1] G D := by
  intro ls H locs hl hP hS
  obtain ⟨hx, hc, hr, -, -, -, hlk, -, hz, -⟩ := C
  refine va_forget (fun q hq => by have := hS.2.2 q hq; omega) ?_
  exact W.widen h1 h2 (lw_ret hx hc hr hlk he)
theorem lsize (C : lC κ p s mid meth c0 b Ln xs) (hG : G.1 ≤ 100000) {H : Heap} {locs : List Loc} (hP : va_P κ.2.2.2.2.2 xcl (xWs κ G D) H) (hS : va_S (fun q => κ.1 ≤ q) s.heap H locs) {slots : Nat} {Q : State → Prop} {g : JFrame}
    (k : H.size = κ.1 + G.1 → W p l e room_1 s mid #[Value.ref b] below meth c0 H locs G.1 slots Q g) : W p l e room_1 s mid #[Value.ref b] below meth c0 H locs G.1 slots Q g := by
  obtain ⟨-, -, -, -, -, -, -, ⟨-, -, -, -, hA, -⟩, hz, -⟩ := C
  intro T hT X
  refine k ?_ T hT X
  have hu := X.heapSize
  rw [hT] at hu
  have hlo : κ.1 + G.1 ≤ H.size := by
    by_cases e : G.1 = 0
    · have := hS.1
      omega
    · have h2 := (hP (G.1 - 1) _ (xWs_get κ G D (by omega))).lt
      rw [hA (G.1 - 1) (by omega)] at h2
      omega
  omega
theorem l_cont (C : lC κ p s mid meth c0 b Ln xs) {ls : Array Slot} (hl : lv_has ls 4 (L.map (fun q => (q.1, rv κ q.2)))) (hE : G.1 ≤ E1.1) {Q1 : Option Value → xD → Prop} (kk : ∀ r D', Q1 r D' → lP κ p l e s mid below meth c0 b (pc + 3) L (r.toList ++ st) E1 D') : ∀ (r : Option Value) (D' : xD) (H1 : Heap) (locs1 : List Loc), Q1 r D' → va_P κ.2.2.2.2.2 xcl (xWs κ E1 D') H1 → va_S (fun q => κ.1 ≤ q) s.heap H1 locs1 →
      W p l e room_1 s mid #[Value.ref b] below meth c0 H1 locs1 (G.1 + (E1.1 - G.1)) (xS G.1 + (xS E1.1 - xS G.1)) (lw_Z below #[Value.ref b] s) (F0 mid (pc + 3) ls ((r.map (rv κ)).toList ++ st.map (rv κ))) := by
  intro r D' H1 locs1 hq hP1 hS1
  have h := kk r D' hq ls H1 locs1 hl hP1 hS1
  have s1 := xS_mono hE
  rw [show G.1 + (E1.1 - G.1) = E1.1 by omega, show xS G.1 + (xS E1.1 - xS G.1) = xS E1.1 by omega]
  cases r with
  | none => exact h
  | some v => exact h
theorem lroom (C : lC κ p s mid meth c0 b Ln xs) {d : Nat} (hd : d ≤ 1000) (hE : G.1 ≤ E1.1) (hE2 : E1.1 ≤ 600000) (hE3 : xS E1.1 ≤ 7302250) {y : xM} (hm : y.2.2.1 ≤ 45) :
    ((xR d G E1).frames + 1 ≤ room_1.frames ∧ 8 + (y.2.2.1 + 11) + (xR d G E1).locals ≤ room_1.locals) ∧ (G.1 + (E1.1 - G.1) ≤ room_1.cells ∧ xS G.1 + (xS E1.1 - xS G.1) ≤ room_1.slots) := by
  have s1 := xS_mono hE
  refine ⟨⟨?_, ?_⟩, ?_, ?_⟩
  · show d + 1 ≤ 2048; omega
  · show 8 + (y.2.2.1 + 11) + 64 * d ≤ 84000; omega
  · show _ ≤ 600000; omega
  · show _ ≤ 7302250; omega
theorem l_callV {d : Nat} {y : xM} {i n bb cc : Nat} {As : List Value} {Q1 : Option Value → xD → Prop} (C : lC κ p s mid meth c0 b Ln xs) (hlk : xIn (.methodLink R_law i y.1)) (hv : xVf y n cc) (hc : xk bb = cc) (hb : bb < G.1) (hn : As.length = n)
    (hst : stk = As.reverse ++ .ref bb :: st) (hW : (st.map fun v => v.category).sum ≤ 8) (he : decode code pc = .ok (.invokevirtual i, 3)) (hd : d ≤ 1000) (hE : G.1 ≤ E1.1) (hE2 : E1.1 ≤ 100000) (hE3 : xS E1.1 ≤ 7302250) (hC : xC d y (.ref bb :: As) G D E1 Q1)
    (kk : ∀ r D', Q1 r D' → lP κ p l e s mid below meth c0 b (pc + 3) L (r.toList ++ st) E1 D') : lP κ p l e s mid below meth c0 b pc L stk G D := by
  obtain ⟨hY, hYi, hYs, r0, hr0, hrn⟩ := hv
  subst hst
  intro ls H locs hl hP hS
  refine lsize C (Nat.le_trans hE hE2) hP hS (fun hz => ?_)
  have hM := hC κ l hE hE2
  have C2 := C
  obtain ⟨hx, hcd, hr, hml, hown, hts, hlks, hEn, -⟩ := C
  have hrecv := va_recv hEn.1 hP hr0 (xX_obj κ G D hc (xcl100 hr0) hb)
  have hp : PreV s H y.1.cls (κ.2.1 bb) (va_Pc ((.ref bb :: As).map (rv κ)) (fun U => va_P κ.2.2.2.2.2 xcl (xWs κ G D) U.heap ∧ xEnv κ U ∧ U.heap.size = κ.1 + G.1)) (As.map (rv κ)) :=
    ⟨xBlind κ _ G D, by rw [← hrn]; exact hrecv, fun U hU hWm => ⟨rfl, by rw [hU]; exact hP, hEn.warm hWm (fun a g1 g2 => by rw [hU]; exact hS.2.1 a g1 g2), by rw [hU]; exact hz⟩⟩
  obtain ⟨hR, hf⟩ := lroom C2 hd hE (by omega) hE3 hY.2.2.2.2.1
  have hstk : (As.reverse ++ .ref bb :: st).map (rv κ) = (As.map (rv κ)).reverse ++ .ref (κ.2.1 bb) :: st.map (rv κ) := by simp [rv]
  have hlen : (As.map (rv κ)).length = n := by rw [List.length_map]; exact hn
  have hcat : ((st.map (rv κ)).map fun v => v.category).sum ≤ 8 := by rw [xcats]; exact hW
  rw [hstk]
  exact x_after (va_runV ⟨hx, hcd, hml, hown, hts⟩ hM ⟨callB_of n hts (xGood y hY) rfl rfl rfl (hts _ hY.2.1.mem) (hts _ hlk.mem) hY.2.2.2.1 hR, hts _ hYi.mem, hts _ hYs.mem⟩ hp rfl hlen hl.1 rfl (lv_room hcat) he hf) hS (l_cont C2 hl hE kk)
theorem l_callI {d : Nat} {y : xM} {i n bb : Nat} {As : List Value} {Q1 : Option Value → xD → Prop} (C : lC κ p s mid meth c0 b Ln xs) (hlk : xIn (.methodLink R_law i y.1)) (hY : xY y n) (hYi : xIn (.instanceMethod y.1)) (hYn : y.1.name = "<init>") (hret : y.2.2.2.1 = none) (hn : As.length = n)
    (hst : stk = As.reverse ++ .ref bb :: st) (hW : (st.map fun v => v.category).sum ≤ 8) (he : decode code pc = .ok (.invokespecial i, 3)) (hd : d ≤ 1000) (hE : G.1 ≤ E1.1) (hE2 : E1.1 ≤ 100000) (hE3 : xS E1.1 ≤ 7302250) (hC : xC d y (.ref bb :: As) G D E1 Q1)
    (kk : ∀ r D', Q1 r D' → lP κ p l e s mid below meth c0 b (pc + 3) L (r.toList ++ st) E1 D') : lP κ p l e s mid below meth c0 b pc L stk G D := by
  subst hst
  intro ls H locs hl hP hS
  refine lsize C (Nat.le_trans hE hE2) hP hS (fun hz => ?_)
  have hM := hC κ l hE hE2
  have hG := xGood y hY
  rw [hret] at hM hG
  have C2 := C
  obtain ⟨hx, hcd, hr, hml, hown, hts, hlks, hEn, -⟩ := C
  have hp : PreS s H (va_Pc ((.ref bb :: As).map (rv κ)) (fun U => va_P κ.2.2.2.2.2 xcl (xWs κ G D) U.heap ∧ xEnv κ U ∧ U.heap.size = κ.1 + G.1)) (.ref (κ.2.1 bb) :: As.map (rv κ)) :=
    ⟨xBlind κ _ G D, fun U hU hWm => ⟨rfl, by rw [hU]; exact hP, hEn.warm hWm (fun a g1 g2 => by rw [hU]; exact hS.2.1 a g1 g2), by rw [hU]; exact hz⟩⟩
  obtain ⟨hR, hf⟩ := lroom C2 hd hE (by omega) hE3 hY.2.2.2.2.1
  have hstk : (As.reverse ++ .ref bb :: st).map (rv κ) = (As.map (rv κ)).reverse ++ .ref (κ.2.1 bb) :: st.map (rv κ) := by simp [rv]
  have hlen : (As.map (rv κ)).length = n := by rw [List.length_map]; exact hn
  have hcat : ((st.map (rv κ)).map fun v => v.category).sum ≤ 8 := by rw [xcats]; exact hW
  rw [hstk]
  exact x_after (va_runI ⟨hx, hcd, hml, hown, hts⟩ hM ⟨callB_of n hts hG rfl rfl rfl (hts _ hY.2.1.mem) (hts _ hlk.mem) hY.2.2.2.1 hR, hYn, hts _ hYi.mem⟩ hp rfl hlen hl.1 rfl (lv_room hcat) he hf) hS (l_cont C2 hl hE kk)
theorem lfresh (C : lC κ p s mid meth c0 b Ln xs) (hG : G.1 ≤ 99999) {q : Nat} {x : va_E} {H1 : Heap} {locs : List Loc} {slots : Nat} {Qf : State → Prop} {g : JFrame}
    (hP : va_P κ.2.2.2.2.2 xcl (xWs κ G D ++ [(q, x)]) H1) (hD : va_D (fun q => κ.1 ≤ q) (xWs κ G D ++ [(q, x)])) (k : q = κ.2.1 G.1 → W p l e room_1 s mid #[Value.ref b] below meth c0 H1 locs (G.1 + 1) slots Qf g) : W p l e room_1 s mid #[Value.ref b] below meth c0 H1 locs (G.1 + 1) slots Qf g := by
  obtain ⟨-, -, -, -, -, -, -, ⟨-, -, -, -, hA, -⟩, hz, -⟩ := C
  intro T hT X
  refine k ?_ T hT X
  have hu := X.heapSize
  rw [hT] at hu
  have hlen : (xWs κ G D).length = G.1 := by simp [xWs]
  have hx : (xWs κ G D ++ [(q, x)])[G.1]? = some (q, x) := by
    rw [List.getElem?_append_right (by omega), hlen]
    simp
  have h2 := (hP _ _ hx).lt
  have h3 := hD.2 _ _ hx
  have hA1 := hA G.1 (by omega)
  by_cases e : q = κ.1 + G.1
  · omega
  · exfalso
    have hq : q - κ.1 < G.1 := by
      have : κ.1 ≤ q := h3
      have : q < H1.size := h2
      omega
    have hy : (xWs κ G D ++ [(q, x)])[q - κ.1]? = some (κ.2.1 (q - κ.1), xE κ G D (q - κ.1)) := by
      rw [List.getElem?_append_left (by omega)]
      exact xWs_get κ G D hq
    have := hD.1 _ _ _ _ hx hy (by rw [hA _ (by omega)]; have : κ.1 ≤ q := h3; show q = κ.1 + (q - κ.1); omega)
    omega
theorem xWs_gF (κ : xK) (a : Nat) (ρ : Nat → Nat → Bool) (D : xD) : xWs κ (a, gF ρ a) D = xWs κ (a, ρ) D := by
  unfold xWs
  refine List.map_congr_left fun i hi => ?_
  have := List.mem_range.mp hi
  rw [xE_at κ (G := (a, ρ)) (G' := (a, gF ρ a)) (D := D) (D' := D) rfl rfl (gF_ne ρ (by have : i < a := this; omega))]
theorem l_new {i c n a : Nat} {r : vw_C} {ρ : Nat → Nat → Bool} (C : lC κ p s mid meth c0 b Ln xs) (hw : xNw c n r) (hlk : xIn (.classLink R_law i r.1)) (hk : xk a = c) (hz0 : zF D a) (ha : a ≤ 9999) (hs : xS (a + 1) ≤ 7302250) (he : decode code pc = .ok (.new i, 3)) (kk : lP κ p l e s mid below meth c0 b (pc + 3) L (.ref a :: st) (a + 1, gF ρ a) D) : lP κ p l e s mid below meth c0 b pc L st (a, ρ) D := by
  obtain ⟨hr, hin, hinst, hini, h100, hn, hlen, ty, hty, hdef⟩ := hw
  have hl0 := xfk_len a (by rw [hk]; exact h100)
  rw [hk] at hl0
  intro ls H locs hl hP hS
  have C2 := C
  obtain ⟨hx, hcd, -, hml, hown, hts, hlks, hEn, hz, -⟩ := C
  rw [← xWs_gF] at hP
  have hA : ∀ q, s.heap.size ≤ q → κ.1 ≤ q := fun q hq => by omega
  refine va_new (fs := xfs κ (a + 1, gF ρ a) D a) hx hcd hts hin ty (fun k hk => hty k (by omega)) hown (hts _ hlk.mem) (hts _ hinst.mem) (hts _ hini.mem) hEn.1 hP (xWs_D κ hEn.2.2.2.2.1 (by show a ≤ 100000; omega) D) hS hA hr (fun j hj => ?_) (by show a + 1 ≤ 600000; omega) (by rw [xS_succ] at hs; show xS a + r.2.2 ≤ 7302250; omega) he (fun q H1 hP1 hD1 hS1 => ?_)
  · rw [hdef j (by omega)]
    have hg : (xfk (xk a))[j]? = some ((xfk c).getD j 0) := by
      rw [hk, List.getElem?_eq_getElem (by omega), List.getD_eq_getElem?_getD, List.getElem?_eq_getElem (by omega)]
      rfl
    have hv : vp_V (xfs κ (a + 1, gF ρ a) D a) j = xfv κ (a + 1, gF ρ a) D a j ((xfk c).getD j 0) := by
      unfold vp_V
      rw [List.getD_eq_getElem?_getD, xfs_get κ _ D hg]
      rfl
    rw [hv]
    generalize (xfk c).getD j 0 = cd
    match cd with
    | 0 => show Value.int 0 = Value.int (D.1 a j); rw [hz0.1 a (Nat.le_refl _)]
    | 1 => show Value.long 0 = Value.long (D.2 a j); rw [hz0.2 a (Nat.le_refl _)]
    | δ + 2 => show Value.null = (if gF ρ a a j = true then _ else _); simp [gF]
  · refine lfresh (G := (a, gF ρ a)) C2 (by show a ≤ 99999; omega) hP1 hD1 (fun hq => ?_)
    have hq : q = κ.2.1 a := hq
    subst hq
    rw [xWs_push κ (G := (a, gF ρ a)) (G' := (a + 1, gF ρ a)) D rfl rfl (by show _ = xE κ _ D a; rw [xE, hk, if_pos h100])] at hP1
    have := kk ls H1 locs hl hP1 hS1
    have e2 : xS a + r.2.2 = xS (a + 1) := by rw [xS_succ]; omega
    show W p l e room_1 s mid #[Value.ref b] below meth c0 H1 locs (a + 1) (xS a + r.2.2) _ _
    rw [e2]
    exact this
end LAW
