/-! A method's walk over numbers alone: a world is two tables of numbers, which cells there are and which references stand; references are the cells' places. -/
/-- the numbers of 32 and of 64 bits, by cell and place -/
abbrev xD : Type := (Nat → Nat → Int32) × (Nat → Nat → Int64)
/-- how many cells are there, which references stand -/
abbrev xG : Type := Nat × (Nat → Nat → Bool)
/-- a method: name, code, locals, what it answers, its instructions by their places -/
abbrev xM : Type := MethodName × ByteArray × Nat × Option FieldType × List (Nat × Jvm.ClassFile.Instr × Nat)
/-- where a world lies: its base; addresses of references; of the String constants' bytes; of a formatter; the arrays' classes; the classes and slots -/
abbrev xK : Type := Nat × (Nat → Nat) × (Nat → Nat) × Nat × (Nat → ClassId) × va_G
def rv (κ : xK) : Value → Value
  | .ref i => .ref (κ.2.1 i)
  | v => v
theorem rv_cat (κ : xK) (v : Value) : (rv κ v).category = v.category := by cases v <;> rfl
/-- the value of a field, by what stands in it -/
def xfv (κ : xK) (G : xG) (D : xD) (i k : Nat) : Nat → Value
  | 0 => .int (D.1 i k)
  | 1 => .long (D.2 i k)
  | δ + 2 => if G.2 i k = true then .ref (κ.2.1 (i + δ)) else .null
def xfs (κ : xK) (G : xG) (D : xD) (i : Nat) : List Value := (List.range (xfk (xk i)).length).map (fun k => xfv κ G D i k ((xfk (xk i)).getD k 0))
def xac (κ : xK) (G : xG) (D : xD) (i t : Nat) : (Nat → Int32) ⊕ (Nat → Int64) ⊕ (Nat → UInt32) ⊕ (Nat → UInt64) ⊕ (Nat → Option Nat) :=
  if t = 1 then .inr (.inl (D.2 i)) else if t < 4 then .inl (D.1 i) else .inr (.inr (.inr (.inr (fun k => if G.2 i k = true then some (κ.2.1 (i + 1 + k * xw t)) else none))))
def xE (κ : xK) (G : xG) (D : xD) (i : Nat) : va_E :=
  if xk i < 100 then .inr (xk i, xfs κ G D i) else .inl (κ.2.2.2.2.1 (xk i - 100), xl i, xac κ G D i (xk i - 100))
def xWs (κ : xK) (G : xG) (D : xD) : va_W := (List.range G.1).map (fun i => (κ.2.1 i, xE κ G D i))
theorem xWs_get (κ : xK) (G : xG) (D : xD) {i : Nat} (h : i < G.1) : (xWs κ G D)[i]? = some (κ.2.1 i, xE κ G D i) := by
  simp [xWs, h]
theorem xWs_set (κ : xK) {G G' : xG} {D D' : xD} {a : Nat} (hE : ∀ i, i ≠ a → xE κ G' D' i = xE κ G D i) (hn : G'.1 = G.1) {e : va_E} (he : e = xE κ G' D' a) :
    (xWs κ G D).set a (κ.2.1 a, e) = xWs κ G' D' := by
  subst he
  apply List.ext_getElem?
  intro i
  by_cases hi : i = a
  · subst hi
    by_cases h : i < G.1
    · rw [List.getElem?_set_self (by simp [xWs, h]), xWs_get κ G' D' (by omega)]
    · rw [List.getElem?_eq_none (by simp [xWs]; omega), List.getElem?_eq_none (by simp [xWs]; omega)]
  · rw [List.getElem?_set_ne (fun q => hi q.symm)]
    by_cases h : i < G.1
    · rw [xWs_get κ G D h, xWs_get κ G' D' (by omega), hE i hi]
    · rw [List.getElem?_eq_none (by simp [xWs]; omega), List.getElem?_eq_none (by simp [xWs]; omega)]
theorem xE_G (κ : xK) {G G' : xG} (h : G.2 = G'.2) (D : xD) (i : Nat) : xE κ G D i = xE κ G' D i := by
  have h1 : xfs κ G D i = xfs κ G' D i := by
    unfold xfs
    refine List.map_congr_left fun k _ => ?_
    unfold xfv
    split <;> simp [h]
  have h2 : ∀ t, xac κ G D i t = xac κ G' D i t := fun t => by unfold xac; rw [h]
  unfold xE
  rw [h1, h2]
theorem xWs_push (κ : xK) {G G' : xG} (D : xD) (hn : G'.1 = G.1 + 1) (h2 : G.2 = G'.2) {e : va_E} (he : e = xE κ G' D G.1) :
    xWs κ G D ++ [(κ.2.1 G.1, e)] = xWs κ G' D := by
  subst he
  unfold xWs
  rw [hn, List.range_succ, List.map_append]
  congr 1
  exact List.map_congr_left fun i _ => by rw [xE_G κ h2]
theorem xfs_get (κ : xK) (G : xG) (D : xD) {i k c : Nat} (h : (xfk (xk i))[k]? = some c) : (xfs κ G D i)[k]? = some (xfv κ G D i k c) := by
  have hk : k < (xfk (xk i)).length := (List.getElem?_eq_some_iff.mp h).1
  have e : (xfk (xk i))[k] = c := (List.getElem?_eq_some_iff.mp h).2
  simp [xfs, hk, e]
theorem xfs_len (κ : xK) (G : xG) (D : xD) (i : Nat) : (xfs κ G D i).length = (xfk (xk i)).length := by simp [xfs]
theorem xfs_set (κ : xK) {G G' : xG} {D D' : xD} {i k c : Nat} (hc : (xfk (xk i))[k]? = some c) {v : Value} (hv : v = xfv κ G' D' i k c)
    (ho : ∀ j, j ≠ k → ∀ c, xfv κ G' D' i j c = xfv κ G D i j c) : (xfs κ G D i).set k v = xfs κ G' D' i := by
  subst hv
  apply List.ext_getElem?
  intro j
  have hk : k < (xfk (xk i)).length := (List.getElem?_eq_some_iff.mp hc).1
  by_cases hj : j = k
  · subst hj
    rw [List.getElem?_set_self (by rw [xfs_len]; exact hk), xfs_get κ G' D' hc]
  · rw [List.getElem?_set_ne (fun q => hj q.symm)]
    by_cases h : j < (xfk (xk i)).length
    · have hg : (xfk (xk i))[j]? = some ((xfk (xk i))[j]) := List.getElem?_eq_getElem h
      rw [xfs_get κ G D hg, xfs_get κ G' D' hg, ho j hj]
    · rw [List.getElem?_eq_none (by rw [xfs_len]; omega), List.getElem?_eq_none (by rw [xfs_len]; omega)]
def xu (μ : Nat → Nat → Int32) (a k : Nat) (v : Int32) : Nat → Nat → Int32 := fun i => if i = a then upd (μ a) k v else μ i
def xuL (ν : Nat → Nat → Int64) (a k : Nat) (v : Int64) : Nat → Nat → Int64 := fun i => if i = a then vp_updL (ν a) k v else ν i
def xuR (ρ : Nat → Nat → Bool) (a k : Nat) : Nat → Nat → Bool := fun i j => if i = a ∧ j = k then true else ρ i j
theorem xu_self (μ : Nat → Nat → Int32) (a k : Nat) (v : Int32) : xu μ a k v a = upd (μ a) k v := by simp [xu]
theorem xu_ne (μ : Nat → Nat → Int32) {a i : Nat} (k : Nat) (v : Int32) (h : i ≠ a) : xu μ a k v i = μ i := by simp [xu, h]
theorem xuL_self (μ : Nat → Nat → Int64) (a k : Nat) (v : Int64) : xuL μ a k v a = vp_updL (μ a) k v := by simp [xuL]
theorem xuL_ne (μ : Nat → Nat → Int64) {a i : Nat} (k : Nat) (v : Int64) (h : i ≠ a) : xuL μ a k v i = μ i := by simp [xuL, h]
theorem xE_at (κ : xK) {G G' : xG} {D D' : xD} {i : Nat} (h1 : D'.1 i = D.1 i) (h2 : D'.2 i = D.2 i) (h3 : G'.2 i = G.2 i) : xE κ G' D' i = xE κ G D i := by
  have f : ∀ k c, xfv κ G' D' i k c = xfv κ G D i k c := fun k c => by
    unfold xfv
    split <;> simp [h1, h2, h3]
  have h4 : xfs κ G' D' i = xfs κ G D i := List.map_congr_left fun k _ => f k _
  have h5 : ∀ t, xac κ G' D' i t = xac κ G D i t := fun t => by unfold xac; rw [h1, h2, h3]
  unfold xE
  rw [h4, h5]
/-- the String constants that the class loads: pool place, text, number -/
def xsl : List (Nat × String × Nat) := [(163, "kinds", 0), (164, "copies", 1), (166, "alike", 2), (168, "letters", 3), (170, "out", 4), (172, "person", 5), (174, "jumpy", 6), (176, "law", 7), (152, "cards", 8), (177, "take", 9), (179, "hand", 10), (181, "reach", 11), (183, "feint", 12), (185, "pass", 13), (157, "hold", 14), (159, "gone", 15), (161, "frame", 16), (137, "most", 17), (143, "aim", 18), (145, "keep", 19), (147, "never", 20)]
def xslens : List Nat := [5, 6, 5, 7, 3, 6, 5, 3, 5, 4, 4, 5, 5, 4, 4, 4, 5, 4, 3, 4, 5]
def xsbyts : List (List Int32) := [[107, 105, 110, 100, 115], [99, 111, 112, 105, 101, 115], [97, 108, 105, 107, 101], [108, 101, 116, 116, 101, 114, 115], [111, 117, 116], [112, 101, 114, 115, 111, 110], [106, 117, 109, 112, 121], [108, 97, 119], [99, 97, 114, 100, 115], [116, 97, 107, 101], [104, 97, 110, 100], [114, 101, 97, 99, 104], [102, 101, 105, 110, 116], [112, 97, 115, 115], [104, 111, 108, 100], [103, 111, 110, 101], [102, 114, 97, 109, 101], [109, 111, 115, 116], [97, 105, 109], [107, 101, 101, 112], [110, 101, 118, 101, 114]]
/-- the String constants stand below the base; their references: 100000 and on, their bytes': 200000 and on, a formatter's (or null): 300000 -/
def xStr (κ : xK) (U : State) : Prop :=
  (∀ q ∈ xsl, vk_R "SpoonShort$Reader" q.1 q.2.1 (κ.2.1 (100000 + q.2.2)) U) ∧ vk_S 21 xslens xsbyts (fun k => κ.2.1 (100000 + k)) (fun k => κ.2.1 (200000 + k)) (fun q => κ.1 ≤ q) U U.heap ∧
  va_Z "java/lang/String" "COMPACT_STRINGS" "Z" (.int 1) (fun q => κ.1 ≤ q) U U.heap ∧ (va_Z "jdk/internal/util/Preconditions" "SIOOBE_FORMATTER" "Ljava/util/function/BiFunction;" .null (fun q => κ.1 ≤ q) U U.heap ∨ va_Z "jdk/internal/util/Preconditions" "SIOOBE_FORMATTER" "Ljava/util/function/BiFunction;" (.ref (κ.2.1 300000)) (fun q => κ.1 ≤ q) U U.heap)
theorem xStr.warm {κ : xK} {s U : State} (h : xStr κ s) (hW : s.WarmedH U.vm) (hk : ∀ a : Nat, a < s.heap.size → ¬ κ.1 ≤ a → U.heap[a]? = s.heap[a]?) : xStr κ U :=
  ⟨fun q hq => vk_R.warm hW (h.1 q hq), (h.2.1.moved hW.alike).kept hk, (h.2.2.1.moved hW.alike).kept hk, h.2.2.2.imp (fun z => (z.moved hW.alike).kept hk) (fun z => (z.moved hW.alike).kept hk)⟩
theorem xStr.same {κ : xK} {u U : State} (h : xStr κ u) (e : u.vm = U.vm) (eh : U.heap = u.heap) : xStr κ U := by
  have ha : u.vm.Alike U.vm := e ▸ Vm.Alike.refl u.vm
  have hk : ∀ a : Nat, a < u.heap.size → ¬ κ.1 ≤ a → U.heap[a]? = u.heap[a]? := fun a _ _ => by rw [eh]
  exact ⟨fun q hq => vk_R.same e.symm (h.1 q hq), (h.2.1.moved ha).kept hk, (h.2.2.1.moved ha).kept hk, h.2.2.2.imp (fun z => (z.moved ha).kept hk) (fun z => (z.moved ha).kept hk)⟩
/-- what a world takes of the state: classes, words on nest mates, arrays' classes, addresses -/
def xEnv (κ : xK) (U : State) : Prop :=
  va_K κ.2.2.2.2.2 xcl ((List.range 6).map (fun t => (κ.2.2.2.2.1 t, xat t))) U ∧ (∀ w, xNs w → va_Nw w U) ∧ va_AO "SpoonShort$Told" U ∧ va_AO "SpoonShort$Sheet" U ∧ (∀ i, i < 100000 → κ.2.1 i = κ.1 + i) ∧ xStr κ U
theorem xNs_warm {w : Cond} {s U : State} (hn : xNs w) (hW : s.WarmedH U.vm) (h : va_Nw w s) : va_Nw w U := by
  have hb := hn.2
  cases w <;> first | exact va_Nw.warmF hW h | exact va_Nw.warmM hW h | cases hb
theorem xNs_tab {w : Cond} (hn : xNs w) : w.onTables = true := by
  have hb := hn.2
  cases w <;> first | rfl | cases hb
theorem xEnv.warm {κ : xK} {s U : State} (h : xEnv κ s) (hW : s.WarmedH U.vm) (hk : ∀ a : Nat, a < s.heap.size → ¬ κ.1 ≤ a → U.heap[a]? = s.heap[a]?) : xEnv κ U :=
  ⟨va_K.moved hW.alike h.1, fun w hw => xNs_warm hw hW (h.2.1 w hw), h.2.2.1.moved hW.alike, h.2.2.2.1.moved hW.alike, h.2.2.2.2.1, h.2.2.2.2.2.warm hW hk⟩
theorem xEnv.same {κ : xK} {u U : State} (h : xEnv κ u) (e : u.vm = U.vm) (eh : U.heap = u.heap) : xEnv κ U :=
  have ha : u.vm.Alike U.vm := e ▸ Vm.Alike.refl u.vm
  ⟨va_K.moved ha h.1, fun w hw => va_Nw.same (xNs_tab hw) e (h.2.1 w hw), h.2.2.1.moved ha, h.2.2.2.1.moved ha, h.2.2.2.2.1, h.2.2.2.2.2.same e eh⟩
/-- how many places the first cells have -/
def xS (n : Nat) : Nat := ((List.range n).map xl).sum
theorem xS_succ (n : Nat) : xS (n + 1) = xS n + xl n := by simp [xS, List.range_succ]
theorem xS_mono {a b : Nat} (h : a ≤ b) : xS a ≤ xS b := by
  induction b with
  | zero => rw [show a = 0 by omega]; exact Nat.le_refl _
  | succ b ih =>
    rw [xS_succ]
    by_cases e : a = b + 1
    · subst e; rw [xS_succ]; exact Nat.le_refl _
    · have := ih (by omega); omega
def xR (d : Nat) (G E : xG) : Room := { frames := d, cells := E.1 - G.1, slots := xS E.1 - xS G.1, locals := 64 * d }
def xQ (κ : xK) (E : xG) (Q : Option Value → xD → Prop) : Array Value → State → Outcome → State → Prop := fun _ st o t =>
  (∃ (r : Option Value) (D' : xD), o = .returned (r.map (rv κ)) ∧ Q r D' ∧ va_P κ.2.2.2.2.2 xcl (xWs κ E D') t.heap) ∧ va_F (fun q => κ.1 ≤ q) st t
def xOk (m : xM) : Prop := ∀ q ∈ m.2.2.2.2, decode m.2.1 q.1 = .ok q.2
def xCtx (κ : xK) (d : Nat) (m : xM) (G0 E : xG) (p : Program) (R : Room) (s : State) (mid : MethodId) (args : Array Value) (meth : Method) (c : Code) : Prop :=
  p.tables.exec = Jvm.exec ∧ c.code = m.2.1 ∧ meth.sig.returnType = m.2.2.2.1 ∧ c.maxLocals = m.2.2.1 ∧ s.vm.findClass m.1.cls = some mid.cls ∧ (∀ w ∈ xtbl, w.before args s = true) ∧ meth.locks = false ∧ (m.1.name = "<init>" → meth.name = "<init>") ∧
  xEnv κ s ∧ s.heap.size = κ.1 + G0.1 ∧ d ≤ R.frames ∧ 64 * d ≤ R.locals ∧ E.1 - G0.1 ≤ R.cells ∧ xS E.1 - xS G0.1 ≤ R.slots ∧ xOk m ∧ E.1 ≤ 100000
/-- method m, from its place pc on, with locals L, stack st, over the cells G with the numbers D, comes to its end over the cells E with an answer and numbers that Q allows; it calls at most d deep -/
def xP (d : Nat) (m : xM) (pc : Nat) (L : List (Nat × Value)) (st : List Value) (G : xG) (D : xD) (E : xG) (Q : Option Value → xD → Prop) : Prop :=
  ∀ (κ : xK) (p : Program) (l : Launch) (e : Env) (R : Room) (s : State) (mid : MethodId) (args : Array Value) (below : List Frame) (meth : Method) (c : Code) (G0 : xG), xCtx κ d m G0 E p R s mid args meth c →
  ∀ (ls : Array Slot) (H : Heap) (locs : List Loc), lv_has ls m.2.2.1 (L.map (fun q => (q.1, rv κ q.2))) → va_P κ.2.2.2.2.2 xcl (xWs κ G D) H → va_S (fun q => κ.1 ≤ q) s.heap H locs → G0.1 ≤ G.1 → G.1 ≤ E.1 →
  W p l e R s mid args below meth c H locs (G.1 - G0.1) (xS G.1 - xS G0.1) (MQ below (xQ κ E Q) args s (E.1 - G0.1) (xS E.1 - xS G0.1) (fun q => κ.1 ≤ q)) (F0 mid pc ls (st.map (rv κ)))
/-- method y called with As over the cells G with the numbers D -/
def xC (d : Nat) (y : xM) (As : List Value) (G : xG) (D : xD) (E : xG) (Q : Option Value → xD → Prop) : Prop :=
  ∀ (κ : xK) (l : Launch), G.1 ≤ E.1 → E.1 ≤ 100000 → Met l y.1 (.code y.1 y.2.1 y.2.2.1 y.2.2.2.1 :: xtbl) (xR d G E) (va_Pc (As.map (rv κ)) (fun U => va_P κ.2.2.2.2.2 xcl (xWs κ G D) U.heap ∧ xEnv κ U ∧ U.heap.size = κ.1 + G.1)) (xQ κ E Q) (E.1 - G.1) (xS E.1 - xS G.1) (fun q => κ.1 ≤ q)
theorem xP.mono {d : Nat} {m : xM} {pc : Nat} {L : List (Nat × Value)} {st : List Value} {G E : xG} {D : xD} {Q Q' : Option Value → xD → Prop} (hQ : ∀ r D', Q r D' → Q' r D') (h : xP d m pc L st G D E Q) : xP d m pc L st G D E Q' := by
  intro κ p l e R s mid args below meth c G0 C ls H locs hl hP hS h0 h1 T hT X
  obtain ⟨t, a, o, b1, b2, ⟨⟨r, D', q1, q2, q3⟩, q4⟩, b3⟩ := h κ p l e R s mid args below meth c G0 C ls H locs hl hP hS h0 h1 T hT X
  exact ⟨t, a, o, b1, b2, ⟨⟨r, D', q1, hQ r D' q2, q3⟩, q4⟩, b3⟩
theorem xWs_D (κ : xK) (hA : ∀ i, i < 100000 → κ.2.1 i = κ.1 + i) {G : xG} (hn : G.1 ≤ 100000) (D : xD) : va_D (fun q => κ.1 ≤ q) (xWs κ G D) := by
  have key : ∀ (k : Nat) (q : Nat × va_E), (xWs κ G D)[k]? = some q → k < G.1 ∧ q.1 = κ.1 + k := by
    intro k q h
    have hk : k < G.1 := by
      have := (List.getElem?_eq_some_iff.mp h).1
      simpa [xWs] using this
    rw [xWs_get κ G D hk] at h
    cases h
    exact ⟨hk, hA k (by omega)⟩
  refine ⟨fun i j p q hi hj e => ?_, fun k q h => ?_⟩
  · have h1 := (key i p hi).2
    have h2 := (key j q hj).2
    omega
  · have h1 := (key k q h).2
    show κ.1 ≤ q.1
    omega
theorem xsize {κ : xK} {d : Nat} {m : xM} {G0 G E : xG} {D : xD} {p : Program} {l : Launch} {e : Env} {R : Room} {s : State} {mid : MethodId} {args : Array Value} {below : List Frame} {meth : Method} {c : Code} (C : xCtx κ d m G0 E p R s mid args meth c) {H : Heap} {locs : List Loc} (hP : va_P κ.2.2.2.2.2 xcl (xWs κ G D) H) (hS : va_S (fun q => κ.1 ≤ q) s.heap H locs) (h0 : G0.1 ≤ G.1) (h1 : G.1 ≤ E.1) {slots : Nat} {Q : State → Prop} {g : JFrame}
    (k : H.size = κ.1 + G.1 → W p l e R s mid args below meth c H locs (G.1 - G0.1) slots Q g) : W p l e R s mid args below meth c H locs (G.1 - G0.1) slots Q g := by
  obtain ⟨-, -, -, -, -, -, -, -, ⟨-, -, -, -, hA, -⟩, hz, -, -, -, -, -, hE⟩ := C
  intro T hT X
  refine k ?_ T hT X
  have hu := X.heapSize
  rw [hT] at hu
  have hlo : κ.1 + G.1 ≤ H.size := by
    by_cases e : G.1 = 0
    · have := hS.1
      omega
    · have h2 := (hP (G.1 - 1) _ (xWs_get κ G D (by omega))).lt
      rw [hA (G.1 - 1) (by omega)] at h2
      omega
  omega
theorem xlook {α : Type} {l : List (Nat × α)} {i : Nat} {v : α} (h : l.lookup i = some v) : (i, v) ∈ l := by
  induction l with
  | nil => cases h
  | cons a t ih =>
    obtain ⟨j, w⟩ := a
    by_cases e : i = j
    · subst e
      simp [List.lookup] at h
      subst h
      exact List.mem_cons_self
    · have : (i == j) = false := by simp [e]
      rw [List.lookup, this] at h
      exact List.mem_cons_of_mem _ (ih h)
theorem xOk.dec {m : xM} (h : xOk m) {pc : Nat} {i : Jvm.ClassFile.Instr × Nat} (he : m.2.2.2.2.lookup pc = some i) : decode m.2.1 pc = .ok i := h (pc, i) (xlook he)
theorem xloc {κ : xK} {ls : Array Slot} {n : Nat} {L : List (Nat × Value)} (hl : lv_has ls n (L.map (fun q => (q.1, rv κ q.2)))) {i : Nat} {v : Value} (h : L.lookup i = some v) : ls[i]? = some (.val (rv κ v)) :=
  hl.2.2 (i, rv κ v) (List.mem_map.mpr ⟨(i, v), xlook h, rfl⟩)
theorem xfil1 (κ : xK) (L : List (Nat × Value)) (i : Nat) : (L.map (fun q => (q.1, rv κ q.2))).filter (fun q => !(q.1 == i) && !(q.1 + 1 == i && q.2.category == 2)) = (L.filter (fun q => !(q.1 == i) && !(q.1 + 1 == i && q.2.category == 2))).map (fun q => (q.1, rv κ q.2)) := by
  rw [List.filter_map]
  congr 1
  refine List.filter_congr fun q _ => ?_
  simp [rv_cat]
theorem xfil2 (κ : xK) (L : List (Nat × Value)) (i : Nat) : (L.map (fun q => (q.1, rv κ q.2))).filter (fun q => !(q.1 == i) && (!(q.1 == i + 1) && !(q.1 + 1 == i && q.2.category == 2))) = (L.filter (fun q => !(q.1 == i) && (!(q.1 == i + 1) && !(q.1 + 1 == i && q.2.category == 2)))).map (fun q => (q.1, rv κ q.2)) := by
  rw [List.filter_map]
  congr 1
  refine List.filter_congr fun q _ => ?_
  simp [rv_cat]
theorem xargs (κ : xK) (As : List Value) : ∀ i, lv_args i (As.map (rv κ)) = (lv_args i As).map (fun q => (q.1, rv κ q.2)) := by
  induction As with
  | nil => intro i; rfl
  | cons v t ih =>
    intro i
    show (i, rv κ v) :: lv_args (if (rv κ v).category = 2 then i + 2 else i + 1) (t.map (rv κ)) = _
    rw [rv_cat, ih]
    rfl
theorem xslen (κ : xK) (As : List Value) : (lg_sl (As.map (rv κ))).length = (lg_sl As).length := by
  induction As with
  | nil => rfl
  | cons v t ih =>
    show ((if (rv κ v).category = 2 then [Slot.val (rv κ v), .second] else [.val (rv κ v)]) ++ lg_sl (t.map (rv κ))).length = ((if v.category = 2 then [Slot.val v, .second] else [.val v]) ++ lg_sl t).length
    rw [rv_cat, List.length_append, List.length_append, ih]
    by_cases h : v.category = 2 <;> simp [h]
theorem xcats (κ : xK) (st : List Value) : ((st.map (rv κ)).map fun v => v.category).sum = (st.map fun v => v.category).sum := by
  rw [List.map_map]
  congr 1
  exact List.map_congr_left fun v _ => rv_cat κ v
