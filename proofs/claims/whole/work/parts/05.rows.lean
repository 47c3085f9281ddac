/-! The walk's rows, an instruction each. -/
section XR
variable {d : Nat} {m : xM} {pc : Nat} {L : List (Nat × Value)} {st : List Value} {G E : xG} {D : xD} {Q : Option Value → xD → Prop}
theorem x_iconst {n : Int} {v : Int32} (he : m.2.2.2.2.lookup pc = some (.iconst n, 1)) (hv : Int32.ofInt n = v) (k : xP d m (pc + 1) L (.int v :: st) G D E Q) : xP d m pc L st G D E Q := by
  intro κ p l e R s mid args below meth c G0 C ls H locs hl hP hS h0 h1
  exact lv_iconst C.1 C.2.1 (C.2.2.2.2.2.2.2.2.2.2.2.2.2.2.1.dec he) hv (k κ p l e R s mid args below meth c G0 C ls H locs hl hP hS h0 h1)
theorem x_bipush {n : Int} {v : Int32} (he : m.2.2.2.2.lookup pc = some (.bipush n, 2)) (hv : (Int8.ofInt n).toInt32 = v) (k : xP d m (pc + 2) L (.int v :: st) G D E Q) : xP d m pc L st G D E Q := by
  intro κ p l e R s mid args below meth c G0 C ls H locs hl hP hS h0 h1
  exact lv_bipush C.1 C.2.1 (C.2.2.2.2.2.2.2.2.2.2.2.2.2.2.1.dec he) hv (k κ p l e R s mid args below meth c G0 C ls H locs hl hP hS h0 h1)
theorem x_sipush {n : Int} {v : Int32} (he : m.2.2.2.2.lookup pc = some (.sipush n, 3)) (hv : (Int16.ofInt n).toInt32 = v) (k : xP d m (pc + 3) L (.int v :: st) G D E Q) : xP d m pc L st G D E Q := by
  intro κ p l e R s mid args below meth c G0 C ls H locs hl hP hS h0 h1
  exact lv_sipush C.1 C.2.1 (C.2.2.2.2.2.2.2.2.2.2.2.2.2.2.1.dec he) hv (k κ p l e R s mid args below meth c G0 C ls H locs hl hP hS h0 h1)
theorem x_lconst {n : Fin 2} {v : Int64} (he : m.2.2.2.2.lookup pc = some (.lconst n, 1)) (hv : Int64.ofNat (n : Nat) = v) (k : xP d m (pc + 1) L (.long v :: st) G D E Q) : xP d m pc L st G D E Q := by
  intro κ p l e R s mid args below meth c G0 C ls H locs hl hP hS h0 h1
  exact lv_lconst C.1 C.2.1 (C.2.2.2.2.2.2.2.2.2.2.2.2.2.2.1.dec he) hv (k κ p l e R s mid args below meth c G0 C ls H locs hl hP hS h0 h1)
theorem x_null (he : m.2.2.2.2.lookup pc = some (.aconst_null, 1)) (k : xP d m (pc + 1) L (.null :: st) G D E Q) : xP d m pc L st G D E Q := by
  intro κ p l e R s mid args below meth c G0 C ls H locs hl hP hS h0 h1
  exact lv_null C.1 C.2.1 (C.2.2.2.2.2.2.2.2.2.2.2.2.2.2.1.dec he) (k κ p l e R s mid args below meth c G0 C ls H locs hl hP hS h0 h1)
theorem x_ldc {i : Nat} {v : Int32} (hc : xIn (.constant m.1.cls i v)) (he : m.2.2.2.2.lookup pc = some (.ldc i, 2)) (k : xP d m (pc + 2) L (.int v :: st) G D E Q) : xP d m pc L st G D E Q := by
  intro κ p l e R s mid args below meth c G0 C ls H locs hl hP hS h0 h1
  exact lv_ldc C.1 C.2.1 C.2.2.2.2.1 (C.2.2.2.2.2.1 _ hc.mem) (C.2.2.2.2.2.2.2.2.2.2.2.2.2.2.1.dec he) (k κ p l e R s mid args below meth c G0 C ls H locs hl hP hS h0 h1)
theorem x_ldcw {i : Nat} {v : Int32} (hc : xIn (.constant m.1.cls i v)) (he : m.2.2.2.2.lookup pc = some (.ldc_w i, 3)) (k : xP d m (pc + 3) L (.int v :: st) G D E Q) : xP d m pc L st G D E Q := by
  intro κ p l e R s mid args below meth c G0 C ls H locs hl hP hS h0 h1
  exact lv_ldcw C.1 C.2.1 C.2.2.2.2.1 (C.2.2.2.2.2.1 _ hc.mem) (C.2.2.2.2.2.2.2.2.2.2.2.2.2.2.1.dec he) (k κ p l e R s mid args below meth c G0 C ls H locs hl hP hS h0 h1)
theorem x_ldc2 {i : Nat} {v : Int64} (hc : xIn (.constantLong m.1.cls i v)) (he : m.2.2.2.2.lookup pc = some (.ldc2_w i, 3)) (k : xP d m (pc + 3) L (.long v :: st) G D E Q) : xP d m pc L st G D E Q := by
  intro κ p l e R s mid args below meth c G0 C ls H locs hl hP hS h0 h1
  exact lv_ldc2 C.1 C.2.1 C.2.2.2.2.1 (C.2.2.2.2.2.1 _ hc.mem) (C.2.2.2.2.2.2.2.2.2.2.2.2.2.2.1.dec he) (k κ p l e R s mid args below meth c G0 C ls H locs hl hP hS h0 h1)
theorem x_iload_n {k0 : Fin 4} {x : Int32} (he : m.2.2.2.2.lookup pc = some (.iload_n k0, 1)) (hx : L.lookup (k0 : Nat) = some (.int x)) (k : xP d m (pc + 1) L (.int x :: st) G D E Q) : xP d m pc L st G D E Q := by
  intro κ p l e R s mid args below meth c G0 C ls H locs hl hP hS h0 h1
  exact lv_iload_n C.1 C.2.1 (C.2.2.2.2.2.2.2.2.2.2.2.2.2.2.1.dec he) rfl (xloc hl hx) (k κ p l e R s mid args below meth c G0 C ls H locs hl hP hS h0 h1)
theorem x_iload {i : Nat} {x : Int32} (he : m.2.2.2.2.lookup pc = some (.iload i, 2)) (hx : L.lookup i = some (.int x)) (k : xP d m (pc + 2) L (.int x :: st) G D E Q) : xP d m pc L st G D E Q := by
  intro κ p l e R s mid args below meth c G0 C ls H locs hl hP hS h0 h1
  exact lv_iload C.1 C.2.1 (C.2.2.2.2.2.2.2.2.2.2.2.2.2.2.1.dec he) (xloc hl hx) (k κ p l e R s mid args below meth c G0 C ls H locs hl hP hS h0 h1)
theorem x_lload_n {k0 : Fin 4} {x : Int64} (he : m.2.2.2.2.lookup pc = some (.lload_n k0, 1)) (hx : L.lookup (k0 : Nat) = some (.long x)) (k : xP d m (pc + 1) L (.long x :: st) G D E Q) : xP d m pc L st G D E Q := by
  intro κ p l e R s mid args below meth c G0 C ls H locs hl hP hS h0 h1
  exact lv_lload_n C.1 C.2.1 (C.2.2.2.2.2.2.2.2.2.2.2.2.2.2.1.dec he) rfl (xloc hl hx) (k κ p l e R s mid args below meth c G0 C ls H locs hl hP hS h0 h1)
theorem x_lload {i : Nat} {x : Int64} (he : m.2.2.2.2.lookup pc = some (.lload i, 2)) (hx : L.lookup i = some (.long x)) (k : xP d m (pc + 2) L (.long x :: st) G D E Q) : xP d m pc L st G D E Q := by
  intro κ p l e R s mid args below meth c G0 C ls H locs hl hP hS h0 h1
  exact lv_lload C.1 C.2.1 (C.2.2.2.2.2.2.2.2.2.2.2.2.2.2.1.dec he) (xloc hl hx) (k κ p l e R s mid args below meth c G0 C ls H locs hl hP hS h0 h1)
theorem x_aload_n {k0 : Fin 4} {x : Nat} (he : m.2.2.2.2.lookup pc = some (.aload_n k0, 1)) (hx : L.lookup (k0 : Nat) = some (.ref x)) (k : xP d m (pc + 1) L (.ref x :: st) G D E Q) : xP d m pc L st G D E Q := by
  intro κ p l e R s mid args below meth c G0 C ls H locs hl hP hS h0 h1
  exact lv_aload_n C.1 C.2.1 (C.2.2.2.2.2.2.2.2.2.2.2.2.2.2.1.dec he) rfl (xloc hl hx) (k κ p l e R s mid args below meth c G0 C ls H locs hl hP hS h0 h1)
theorem x_aload {i : Nat} {x : Nat} (he : m.2.2.2.2.lookup pc = some (.aload i, 2)) (hx : L.lookup i = some (.ref x)) (k : xP d m (pc + 2) L (.ref x :: st) G D E Q) : xP d m pc L st G D E Q := by
  intro κ p l e R s mid args below meth c G0 C ls H locs hl hP hS h0 h1
  exact lv_aload C.1 C.2.1 (C.2.2.2.2.2.2.2.2.2.2.2.2.2.2.1.dec he) (xloc hl hx) (k κ p l e R s mid args below meth c G0 C ls H locs hl hP hS h0 h1)
theorem x_aload_nN {k0 : Fin 4} (he : m.2.2.2.2.lookup pc = some (.aload_n k0, 1)) (hx : L.lookup (k0 : Nat) = some .null) (k : xP d m (pc + 1) L (.null :: st) G D E Q) : xP d m pc L st G D E Q := by
  intro κ p l e R s mid args below meth c G0 C ls H locs hl hP hS h0 h1
  exact lv_aload_nN C.1 C.2.1 (C.2.2.2.2.2.2.2.2.2.2.2.2.2.2.1.dec he) rfl (xloc hl hx) (k κ p l e R s mid args below meth c G0 C ls H locs hl hP hS h0 h1)
theorem x_aloadN {i : Nat} (he : m.2.2.2.2.lookup pc = some (.aload i, 2)) (hx : L.lookup i = some .null) (k : xP d m (pc + 2) L (.null :: st) G D E Q) : xP d m pc L st G D E Q := by
  intro κ p l e R s mid args below meth c G0 C ls H locs hl hP hS h0 h1
  exact lv_aloadN C.1 C.2.1 (C.2.2.2.2.2.2.2.2.2.2.2.2.2.2.1.dec he) (xloc hl hx) (k κ p l e R s mid args below meth c G0 C ls H locs hl hP hS h0 h1)
theorem x_istore_n {k0 : Fin 4} {i : Nat} {x : Int32} {L1 : List (Nat × Value)} (he : m.2.2.2.2.lookup pc = some (.istore_n k0, 1)) (hi : (k0 : Nat) = i) (hn : i < m.2.2.1) (hL : (i, Value.int x) :: L.filter (fun q => !(q.1 == i) && !(q.1 + 1 == i && q.2.category == 2)) = L1) (k : xP d m (pc + 1) L1 st G D E Q) : xP d m pc L (.int x :: st) G D E Q := by
  subst hL
  intro κ p l e R s mid args below meth c G0 C ls H locs hl hP hS h0 h1
  exact lv_istore_n C.1 C.2.1 (C.2.2.2.2.2.2.2.2.2.2.2.2.2.2.1.dec he) hi hl hn (by rw [xfil1]; rfl) (fun ls hl => (k κ p l e R s mid args below meth c G0 C ls H locs hl hP hS h0 h1))
theorem x_istore {i : Nat} {x : Int32} {L1 : List (Nat × Value)} (he : m.2.2.2.2.lookup pc = some (.istore i, 2)) (hn : i < m.2.2.1) (hL : (i, Value.int x) :: L.filter (fun q => !(q.1 == i) && !(q.1 + 1 == i && q.2.category == 2)) = L1) (k : xP d m (pc + 2) L1 st G D E Q) : xP d m pc L (.int x :: st) G D E Q := by
  subst hL
  intro κ p l e R s mid args below meth c G0 C ls H locs hl hP hS h0 h1
  exact lv_istore C.1 C.2.1 (C.2.2.2.2.2.2.2.2.2.2.2.2.2.2.1.dec he) hl hn (by rw [xfil1]; rfl) (fun ls hl => (k κ p l e R s mid args below meth c G0 C ls H locs hl hP hS h0 h1))
theorem x_astore_n {k0 : Fin 4} {i : Nat} {x : Nat} {L1 : List (Nat × Value)} (he : m.2.2.2.2.lookup pc = some (.astore_n k0, 1)) (hi : (k0 : Nat) = i) (hn : i < m.2.2.1) (hL : (i, Value.ref x) :: L.filter (fun q => !(q.1 == i) && !(q.1 + 1 == i && q.2.category == 2)) = L1) (k : xP d m (pc + 1) L1 st G D E Q) : xP d m pc L (.ref x :: st) G D E Q := by
  subst hL
  intro κ p l e R s mid args below meth c G0 C ls H locs hl hP hS h0 h1
  exact lv_astore_n C.1 C.2.1 (C.2.2.2.2.2.2.2.2.2.2.2.2.2.2.1.dec he) hi hl hn (by rw [xfil1]; rfl) (fun ls hl => (k κ p l e R s mid args below meth c G0 C ls H locs hl hP hS h0 h1))
theorem x_astore {i : Nat} {x : Nat} {L1 : List (Nat × Value)} (he : m.2.2.2.2.lookup pc = some (.astore i, 2)) (hn : i < m.2.2.1) (hL : (i, Value.ref x) :: L.filter (fun q => !(q.1 == i) && !(q.1 + 1 == i && q.2.category == 2)) = L1) (k : xP d m (pc + 2) L1 st G D E Q) : xP d m pc L (.ref x :: st) G D E Q := by
  subst hL
  intro κ p l e R s mid args below meth c G0 C ls H locs hl hP hS h0 h1
  exact lv_astore C.1 C.2.1 (C.2.2.2.2.2.2.2.2.2.2.2.2.2.2.1.dec he) hl hn (by rw [xfil1]; rfl) (fun ls hl => (k κ p l e R s mid args below meth c G0 C ls H locs hl hP hS h0 h1))
theorem x_astore_nN {k0 : Fin 4} {i : Nat} {L1 : List (Nat × Value)} (he : m.2.2.2.2.lookup pc = some (.astore_n k0, 1)) (hi : (k0 : Nat) = i) (hn : i < m.2.2.1) (hL : (i, Value.null) :: L.filter (fun q => !(q.1 == i) && !(q.1 + 1 == i && q.2.category == 2)) = L1) (k : xP d m (pc + 1) L1 st G D E Q) : xP d m pc L (.null :: st) G D E Q := by
  subst hL
  intro κ p l e R s mid args below meth c G0 C ls H locs hl hP hS h0 h1
  exact lv_astore_nN C.1 C.2.1 (C.2.2.2.2.2.2.2.2.2.2.2.2.2.2.1.dec he) hi hl hn (by rw [xfil1]; rfl) (fun ls hl => (k κ p l e R s mid args below meth c G0 C ls H locs hl hP hS h0 h1))
theorem x_astoreN {i : Nat} {L1 : List (Nat × Value)} (he : m.2.2.2.2.lookup pc = some (.astore i, 2)) (hn : i < m.2.2.1) (hL : (i, Value.null) :: L.filter (fun q => !(q.1 == i) && !(q.1 + 1 == i && q.2.category == 2)) = L1) (k : xP d m (pc + 2) L1 st G D E Q) : xP d m pc L (.null :: st) G D E Q := by
  subst hL
  intro κ p l e R s mid args below meth c G0 C ls H locs hl hP hS h0 h1
  exact lv_astoreN C.1 C.2.1 (C.2.2.2.2.2.2.2.2.2.2.2.2.2.2.1.dec he) hl hn (by rw [xfil1]; rfl) (fun ls hl => (k κ p l e R s mid args below meth c G0 C ls H locs hl hP hS h0 h1))
theorem x_lstore_n {k0 : Fin 4} {i : Nat} {x : Int64} {L1 : List (Nat × Value)} (he : m.2.2.2.2.lookup pc = some (.lstore_n k0, 1)) (hi : (k0 : Nat) = i) (hn : i + 1 < m.2.2.1) (hL : (i, Value.long x) :: L.filter (fun q => !(q.1 == i) && (!(q.1 == i + 1) && !(q.1 + 1 == i && q.2.category == 2))) = L1) (k : xP d m (pc + 1) L1 st G D E Q) : xP d m pc L (.long x :: st) G D E Q := by
  subst hL
  intro κ p l e R s mid args below meth c G0 C ls H locs hl hP hS h0 h1
  exact lv_lstore_n C.1 C.2.1 (C.2.2.2.2.2.2.2.2.2.2.2.2.2.2.1.dec he) hi hl hn (by rw [xfil2]; rfl) (fun ls hl => (k κ p l e R s mid args below meth c G0 C ls H locs hl hP hS h0 h1))
theorem x_lstore {i : Nat} {x : Int64} {L1 : List (Nat × Value)} (he : m.2.2.2.2.lookup pc = some (.lstore i, 2)) (hn : i + 1 < m.2.2.1) (hL : (i, Value.long x) :: L.filter (fun q => !(q.1 == i) && (!(q.1 == i + 1) && !(q.1 + 1 == i && q.2.category == 2))) = L1) (k : xP d m (pc + 2) L1 st G D E Q) : xP d m pc L (.long x :: st) G D E Q := by
  subst hL
  intro κ p l e R s mid args below meth c G0 C ls H locs hl hP hS h0 h1
  exact lv_lstore C.1 C.2.1 (C.2.2.2.2.2.2.2.2.2.2.2.2.2.2.1.dec he) hl hn (by rw [xfil2]; rfl) (fun ls hl => (k κ p l e R s mid args below meth c G0 C ls H locs hl hP hS h0 h1))
theorem x_iinc {i : Nat} {n : Int} {x v : Int32} {L1 : List (Nat × Value)} (he : m.2.2.2.2.lookup pc = some (.iinc i n, 3)) (hx : L.lookup i = some (.int x)) (hv : x + Int32.ofInt n = v) (hn : i < m.2.2.1) (hL : (i, Value.int v) :: L.filter (fun q => !(q.1 == i) && !(q.1 + 1 == i && q.2.category == 2)) = L1) (k : xP d m (pc + 3) L1 st G D E Q) : xP d m pc L st G D E Q := by
  subst hL
  intro κ p l e R s mid args below meth c G0 C ls H locs hl hP hS h0 h1
  obtain ⟨j, hj⟩ := List.getElem?_of_mem (List.mem_map.mpr ⟨(i, Value.int x), xlook hx, rfl⟩ : (i, rv κ (.int x)) ∈ L.map (fun q => (q.1, rv κ q.2)))
  exact lv_iinc C.1 C.2.1 (C.2.2.2.2.2.2.2.2.2.2.2.2.2.2.1.dec he) hl hj hv hn (by rw [xfil1]; rfl) (fun ls hl => (k κ p l e R s mid args below meth c G0 C ls H locs hl hP hS h0 h1))
theorem x_iadd {x y : Int32} (he : m.2.2.2.2.lookup pc = some (.iadd, 1)) (k : xP d m (pc + 1) L (.int (x + y) :: st) G D E Q) : xP d m pc L (.int y :: .int x :: st) G D E Q := by
  intro κ p l e R s mid args below meth c G0 C ls H locs hl hP hS h0 h1
  exact lv_iadd C.1 C.2.1 (C.2.2.2.2.2.2.2.2.2.2.2.2.2.2.1.dec he) (k κ p l e R s mid args below meth c G0 C ls H locs hl hP hS h0 h1)
theorem x_isub {x y : Int32} (he : m.2.2.2.2.lookup pc = some (.isub, 1)) (k : xP d m (pc + 1) L (.int (x - y) :: st) G D E Q) : xP d m pc L (.int y :: .int x :: st) G D E Q := by
  intro κ p l e R s mid args below meth c G0 C ls H locs hl hP hS h0 h1
  exact lv_isub C.1 C.2.1 (C.2.2.2.2.2.2.2.2.2.2.2.2.2.2.1.dec he) (k κ p l e R s mid args below meth c G0 C ls H locs hl hP hS h0 h1)
theorem x_imul {x y : Int32} (he : m.2.2.2.2.lookup pc = some (.imul, 1)) (k : xP d m (pc + 1) L (.int (x * y) :: st) G D E Q) : xP d m pc L (.int y :: .int x :: st) G D E Q := by
  intro κ p l e R s mid args below meth c G0 C ls H locs hl hP hS h0 h1
  exact lv_imul C.1 C.2.1 (C.2.2.2.2.2.2.2.2.2.2.2.2.2.2.1.dec he) (k κ p l e R s mid args below meth c G0 C ls H locs hl hP hS h0 h1)
theorem x_iand {x y : Int32} (he : m.2.2.2.2.lookup pc = some (.iand, 1)) (k : xP d m (pc + 1) L (.int (x &&& y) :: st) G D E Q) : xP d m pc L (.int y :: .int x :: st) G D E Q := by
  intro κ p l e R s mid args below meth c G0 C ls H locs hl hP hS h0 h1
  exact lv_iand C.1 C.2.1 (C.2.2.2.2.2.2.2.2.2.2.2.2.2.2.1.dec he) (k κ p l e R s mid args below meth c G0 C ls H locs hl hP hS h0 h1)
theorem x_ior {x y : Int32} (he : m.2.2.2.2.lookup pc = some (.ior, 1)) (k : xP d m (pc + 1) L (.int (x ||| y) :: st) G D E Q) : xP d m pc L (.int y :: .int x :: st) G D E Q := by
  intro κ p l e R s mid args below meth c G0 C ls H locs hl hP hS h0 h1
  exact lv_ior C.1 C.2.1 (C.2.2.2.2.2.2.2.2.2.2.2.2.2.2.1.dec he) (k κ p l e R s mid args below meth c G0 C ls H locs hl hP hS h0 h1)
theorem x_ixor {x y : Int32} (he : m.2.2.2.2.lookup pc = some (.ixor, 1)) (k : xP d m (pc + 1) L (.int (x ^^^ y) :: st) G D E Q) : xP d m pc L (.int y :: .int x :: st) G D E Q := by
  intro κ p l e R s mid args below meth c G0 C ls H locs hl hP hS h0 h1
  exact lv_ixor C.1 C.2.1 (C.2.2.2.2.2.2.2.2.2.2.2.2.2.2.1.dec he) (k κ p l e R s mid args below meth c G0 C ls H locs hl hP hS h0 h1)
theorem x_ishl {x y : Int32} (he : m.2.2.2.2.lookup pc = some (.ishl, 1)) (k : xP d m (pc + 1) L (.int (x <<< (y &&& 31)) :: st) G D E Q) : xP d m pc L (.int y :: .int x :: st) G D E Q := by
  intro κ p l e R s mid args below meth c G0 C ls H locs hl hP hS h0 h1
  exact lv_ishl C.1 C.2.1 (C.2.2.2.2.2.2.2.2.2.2.2.2.2.2.1.dec he) (k κ p l e R s mid args below meth c G0 C ls H locs hl hP hS h0 h1)
theorem x_ishr {x y : Int32} (he : m.2.2.2.2.lookup pc = some (.ishr, 1)) (k : xP d m (pc + 1) L (.int (x >>> (y &&& 31)) :: st) G D E Q) : xP d m pc L (.int y :: .int x :: st) G D E Q := by
  intro κ p l e R s mid args below meth c G0 C ls H locs hl hP hS h0 h1
  exact lv_ishr C.1 C.2.1 (C.2.2.2.2.2.2.2.2.2.2.2.2.2.2.1.dec he) (k κ p l e R s mid args below meth c G0 C ls H locs hl hP hS h0 h1)
theorem x_idiv {x y : Int32} (he : m.2.2.2.2.lookup pc = some (.idiv, 1)) (hne : ¬ y = 0) (k : xP d m (pc + 1) L (.int (x / y) :: st) G D E Q) : xP d m pc L (.int y :: .int x :: st) G D E Q := by
  intro κ p l e R s mid args below meth c G0 C ls H locs hl hP hS h0 h1
  exact lv_idiv C.1 C.2.1 (C.2.2.2.2.2.2.2.2.2.2.2.2.2.2.1.dec he) hne (k κ p l e R s mid args below meth c G0 C ls H locs hl hP hS h0 h1)
theorem x_irem {x y : Int32} (he : m.2.2.2.2.lookup pc = some (.irem, 1)) (hne : ¬ y = 0) (k : xP d m (pc + 1) L (.int (x - x / y * y) :: st) G D E Q) : xP d m pc L (.int y :: .int x :: st) G D E Q := by
  intro κ p l e R s mid args below meth c G0 C ls H locs hl hP hS h0 h1
  exact lv_irem C.1 C.2.1 (C.2.2.2.2.2.2.2.2.2.2.2.2.2.2.1.dec he) hne (k κ p l e R s mid args below meth c G0 C ls H locs hl hP hS h0 h1)
theorem x_iushr {x y : Int32} (he : m.2.2.2.2.lookup pc = some (.iushr, 1)) (k : xP d m (pc + 1) L (.int (x.toUInt32 >>> (y.toUInt32 &&& Int32.toUInt32 31)).toInt32 :: st) G D E Q) : xP d m pc L (.int y :: .int x :: st) G D E Q := by
  intro κ p l e R s mid args below meth c G0 C ls H locs hl hP hS h0 h1
  exact lv_iushr C.1 C.2.1 (C.2.2.2.2.2.2.2.2.2.2.2.2.2.2.1.dec he) rfl (k κ p l e R s mid args below meth c G0 C ls H locs hl hP hS h0 h1)
theorem x_ladd {x y : Int64} (he : m.2.2.2.2.lookup pc = some (.ladd, 1)) (k : xP d m (pc + 1) L (.long (x + y) :: st) G D E Q) : xP d m pc L (.long y :: .long x :: st) G D E Q := by
  intro κ p l e R s mid args below meth c G0 C ls H locs hl hP hS h0 h1
  exact lv_ladd C.1 C.2.1 (C.2.2.2.2.2.2.2.2.2.2.2.2.2.2.1.dec he) (k κ p l e R s mid args below meth c G0 C ls H locs hl hP hS h0 h1)
theorem x_lsub {x y : Int64} (he : m.2.2.2.2.lookup pc = some (.lsub, 1)) (k : xP d m (pc + 1) L (.long (x - y) :: st) G D E Q) : xP d m pc L (.long y :: .long x :: st) G D E Q := by
  intro κ p l e R s mid args below meth c G0 C ls H locs hl hP hS h0 h1
  exact lv_lsub C.1 C.2.1 (C.2.2.2.2.2.2.2.2.2.2.2.2.2.2.1.dec he) (k κ p l e R s mid args below meth c G0 C ls H locs hl hP hS h0 h1)
theorem x_lmul {x y : Int64} (he : m.2.2.2.2.lookup pc = some (.lmul, 1)) (k : xP d m (pc + 1) L (.long (x * y) :: st) G D E Q) : xP d m pc L (.long y :: .long x :: st) G D E Q := by
  intro κ p l e R s mid args below meth c G0 C ls H locs hl hP hS h0 h1
  exact lv_lmul C.1 C.2.1 (C.2.2.2.2.2.2.2.2.2.2.2.2.2.2.1.dec he) (k κ p l e R s mid args below meth c G0 C ls H locs hl hP hS h0 h1)
theorem x_lor {x y : Int64} (he : m.2.2.2.2.lookup pc = some (.lor, 1)) (k : xP d m (pc + 1) L (.long (x ||| y) :: st) G D E Q) : xP d m pc L (.long y :: .long x :: st) G D E Q := by
  intro κ p l e R s mid args below meth c G0 C ls H locs hl hP hS h0 h1
  exact lv_lor C.1 C.2.1 (C.2.2.2.2.2.2.2.2.2.2.2.2.2.2.1.dec he) (k κ p l e R s mid args below meth c G0 C ls H locs hl hP hS h0 h1)
theorem x_land {x y : Int64} (he : m.2.2.2.2.lookup pc = some (.land, 1)) (k : xP d m (pc + 1) L (.long (x &&& y) :: st) G D E Q) : xP d m pc L (.long y :: .long x :: st) G D E Q := by
  intro κ p l e R s mid args below meth c G0 C ls H locs hl hP hS h0 h1
  exact lv_land C.1 C.2.1 (C.2.2.2.2.2.2.2.2.2.2.2.2.2.2.1.dec he) (k κ p l e R s mid args below meth c G0 C ls H locs hl hP hS h0 h1)
theorem x_ldiv {x y : Int64} (he : m.2.2.2.2.lookup pc = some (.ldiv, 1)) (hne : ¬ y = 0) (k : xP d m (pc + 1) L (.long (x / y) :: st) G D E Q) : xP d m pc L (.long y :: .long x :: st) G D E Q := by
  intro κ p l e R s mid args below meth c G0 C ls H locs hl hP hS h0 h1
  exact lv_ldiv C.1 C.2.1 (C.2.2.2.2.2.2.2.2.2.2.2.2.2.2.1.dec he) hne (k κ p l e R s mid args below meth c G0 C ls H locs hl hP hS h0 h1)
theorem x_lrem {x y : Int64} (he : m.2.2.2.2.lookup pc = some (.lrem, 1)) (hne : ¬ y = 0) (k : xP d m (pc + 1) L (.long (x - x / y * y) :: st) G D E Q) : xP d m pc L (.long y :: .long x :: st) G D E Q := by
  intro κ p l e R s mid args below meth c G0 C ls H locs hl hP hS h0 h1
  exact lv_lrem C.1 C.2.1 (C.2.2.2.2.2.2.2.2.2.2.2.2.2.2.1.dec he) hne (k κ p l e R s mid args below meth c G0 C ls H locs hl hP hS h0 h1)
theorem x_lshl {x : Int64} {y : Int32} (he : m.2.2.2.2.lookup pc = some (.lshl, 1)) (k : xP d m (pc + 1) L (.long (x <<< (y.toInt64 &&& 63)) :: st) G D E Q) : xP d m pc L (.int y :: .long x :: st) G D E Q := by
  intro κ p l e R s mid args below meth c G0 C ls H locs hl hP hS h0 h1
  exact lv_lshl C.1 C.2.1 (C.2.2.2.2.2.2.2.2.2.2.2.2.2.2.1.dec he) rfl (k κ p l e R s mid args below meth c G0 C ls H locs hl hP hS h0 h1)
theorem x_lcmp {x y : Int64} (he : m.2.2.2.2.lookup pc = some (.lcmp, 1)) (k : xP d m (pc + 1) L (.int (lg_cmp x y) :: st) G D E Q) : xP d m pc L (.long y :: .long x :: st) G D E Q := by
  intro κ p l e R s mid args below meth c G0 C ls H locs hl hP hS h0 h1
  exact W.lcmp C.1 C.2.1 (C.2.2.2.2.2.2.2.2.2.2.2.2.2.2.1.dec he) (k κ p l e R s mid args below meth c G0 C ls H locs hl hP hS h0 h1)
theorem x_ineg {x : Int32} (he : m.2.2.2.2.lookup pc = some (.ineg, 1)) (k : xP d m (pc + 1) L (.int (-x) :: st) G D E Q) : xP d m pc L (.int x :: st) G D E Q := by
  intro κ p l e R s mid args below meth c G0 C ls H locs hl hP hS h0 h1
  exact lv_ineg C.1 C.2.1 (C.2.2.2.2.2.2.2.2.2.2.2.2.2.2.1.dec he) (k κ p l e R s mid args below meth c G0 C ls H locs hl hP hS h0 h1)
theorem x_i2l {x : Int32} (he : m.2.2.2.2.lookup pc = some (.i2l, 1)) (k : xP d m (pc + 1) L (.long x.toInt64 :: st) G D E Q) : xP d m pc L (.int x :: st) G D E Q := by
  intro κ p l e R s mid args below meth c G0 C ls H locs hl hP hS h0 h1
  exact lv_i2l C.1 C.2.1 (C.2.2.2.2.2.2.2.2.2.2.2.2.2.2.1.dec he) rfl (k κ p l e R s mid args below meth c G0 C ls H locs hl hP hS h0 h1)
theorem x_i2b {x : Int32} (he : m.2.2.2.2.lookup pc = some (.i2b, 1)) (k : xP d m (pc + 1) L (.int x.toInt8.toInt32 :: st) G D E Q) : xP d m pc L (.int x :: st) G D E Q := by
  intro κ p l e R s mid args below meth c G0 C ls H locs hl hP hS h0 h1
  exact lv_i2b C.1 C.2.1 (C.2.2.2.2.2.2.2.2.2.2.2.2.2.2.1.dec he) rfl (k κ p l e R s mid args below meth c G0 C ls H locs hl hP hS h0 h1)
theorem x_dup {v : Value} (he : m.2.2.2.2.lookup pc = some (.dup, 1)) (hv : v.category = 1) (k : xP d m (pc + 1) L (v :: v :: st) G D E Q) : xP d m pc L (v :: st) G D E Q := by
  intro κ p l e R s mid args below meth c G0 C ls H locs hl hP hS h0 h1
  exact lv_dup C.1 C.2.1 (C.2.2.2.2.2.2.2.2.2.2.2.2.2.2.1.dec he) ((rv_cat κ v).trans hv) (k κ p l e R s mid args below meth c G0 C ls H locs hl hP hS h0 h1)
theorem x_pop {v : Value} (he : m.2.2.2.2.lookup pc = some (.pop, 1)) (hv : v.category = 1) (k : xP d m (pc + 1) L st G D E Q) : xP d m pc L (v :: st) G D E Q := by
  intro κ p l e R s mid args below meth c G0 C ls H locs hl hP hS h0 h1
  exact lv_pop C.1 C.2.1 (C.2.2.2.2.2.2.2.2.2.2.2.2.2.2.1.dec he) ((rv_cat κ v).trans hv) (k κ p l e R s mid args below meth c G0 C ls H locs hl hP hS h0 h1)
theorem x_dup2 {v w : Value} (he : m.2.2.2.2.lookup pc = some (.dup2, 1)) (hv : v.category = 1) (hw : w.category = 1) (k : xP d m (pc + 1) L (v :: w :: v :: w :: st) G D E Q) : xP d m pc L (v :: w :: st) G D E Q := by
  intro κ p l e R s mid args below meth c G0 C ls H locs hl hP hS h0 h1
  exact lv_dup2_11 C.1 C.2.1 (C.2.2.2.2.2.2.2.2.2.2.2.2.2.2.1.dec he) ((rv_cat κ v).trans hv) ((rv_cat κ w).trans hw) (k κ p l e R s mid args below meth c G0 C ls H locs hl hP hS h0 h1)
theorem x_if_eq {x : Int32} {off : Int} {tgt : Nat} (he : m.2.2.2.2.lookup pc = some (.ifCond .eq off, 3)) (ht : (pc : Int) + off = (tgt : Int)) (kt : x = 0 → xP d m tgt L st G D E Q) (kf : ¬ x = 0 → xP d m (pc + 3) L st G D E Q) : xP d m pc L (.int x :: st) G D E Q := by
  intro κ p l e R s mid args below meth c G0 C ls H locs hl hP hS h0 h1
  exact lv_if_eq C.1 C.2.1 (C.2.2.2.2.2.2.2.2.2.2.2.2.2.2.1.dec he) ht (fun q => (kt q κ p l e R s mid args below meth c G0 C ls H locs hl hP hS h0 h1)) (fun q => (kf q κ p l e R s mid args below meth c G0 C ls H locs hl hP hS h0 h1))
theorem x_icmp_eq {x y : Int32} {off : Int} {tgt : Nat} (he : m.2.2.2.2.lookup pc = some (.if_icmp .eq off, 3)) (ht : (pc : Int) + off = (tgt : Int)) (kt : x = y → xP d m tgt L st G D E Q) (kf : ¬ x = y → xP d m (pc + 3) L st G D E Q) : xP d m pc L (.int y :: .int x :: st) G D E Q := by
  intro κ p l e R s mid args below meth c G0 C ls H locs hl hP hS h0 h1
  exact lv_icmp_eq C.1 C.2.1 (C.2.2.2.2.2.2.2.2.2.2.2.2.2.2.1.dec he) ht (fun q => (kt q κ p l e R s mid args below meth c G0 C ls H locs hl hP hS h0 h1)) (fun q => (kf q κ p l e R s mid args below meth c G0 C ls H locs hl hP hS h0 h1))
theorem x_if_ne {x : Int32} {off : Int} {tgt : Nat} (he : m.2.2.2.2.lookup pc = some (.ifCond .ne off, 3)) (ht : (pc : Int) + off = (tgt : Int)) (kt : ¬ x = 0 → xP d m tgt L st G D E Q) (kf : x = 0 → xP d m (pc + 3) L st G D E Q) : xP d m pc L (.int x :: st) G D E Q := by
  intro κ p l e R s mid args below meth c G0 C ls H locs hl hP hS h0 h1
  exact lv_if_ne C.1 C.2.1 (C.2.2.2.2.2.2.2.2.2.2.2.2.2.2.1.dec he) ht (fun q => (kt q κ p l e R s mid args below meth c G0 C ls H locs hl hP hS h0 h1)) (fun q => (kf q κ p l e R s mid args below meth c G0 C ls H locs hl hP hS h0 h1))
theorem x_icmp_ne {x y : Int32} {off : Int} {tgt : Nat} (he : m.2.2.2.2.lookup pc = some (.if_icmp .ne off, 3)) (ht : (pc : Int) + off = (tgt : Int)) (kt : ¬ x = y → xP d m tgt L st G D E Q) (kf : x = y → xP d m (pc + 3) L st G D E Q) : xP d m pc L (.int y :: .int x :: st) G D E Q := by
  intro κ p l e R s mid args below meth c G0 C ls H locs hl hP hS h0 h1
  exact lv_icmp_ne C.1 C.2.1 (C.2.2.2.2.2.2.2.2.2.2.2.2.2.2.1.dec he) ht (fun q => (kt q κ p l e R s mid args below meth c G0 C ls H locs hl hP hS h0 h1)) (fun q => (kf q κ p l e R s mid args below meth c G0 C ls H locs hl hP hS h0 h1))
theorem x_if_lt {x : Int32} {off : Int} {tgt : Nat} (he : m.2.2.2.2.lookup pc = some (.ifCond .lt off, 3)) (ht : (pc : Int) + off = (tgt : Int)) (kt : x < 0 → xP d m tgt L st G D E Q) (kf : ¬ x < 0 → xP d m (pc + 3) L st G D E Q) : xP d m pc L (.int x :: st) G D E Q := by
  intro κ p l e R s mid args below meth c G0 C ls H locs hl hP hS h0 h1
  exact lv_if_lt C.1 C.2.1 (C.2.2.2.2.2.2.2.2.2.2.2.2.2.2.1.dec he) ht (fun q => (kt q κ p l e R s mid args below meth c G0 C ls H locs hl hP hS h0 h1)) (fun q => (kf q κ p l e R s mid args below meth c G0 C ls H locs hl hP hS h0 h1))
theorem x_icmp_lt {x y : Int32} {off : Int} {tgt : Nat} (he : m.2.2.2.2.lookup pc = some (.if_icmp .lt off, 3)) (ht : (pc : Int) + off = (tgt : Int)) (kt : x < y → xP d m tgt L st G D E Q) (kf : ¬ x < y → xP d m (pc + 3) L st G D E Q) : xP d m pc L (.int y :: .int x :: st) G D E Q := by
  intro κ p l e R s mid args below meth c G0 C ls H locs hl hP hS h0 h1
  exact lv_icmp_lt C.1 C.2.1 (C.2.2.2.2.2.2.2.2.2.2.2.2.2.2.1.dec he) ht (fun q => (kt q κ p l e R s mid args below meth c G0 C ls H locs hl hP hS h0 h1)) (fun q => (kf q κ p l e R s mid args below meth c G0 C ls H locs hl hP hS h0 h1))
theorem x_if_ge {x : Int32} {off : Int} {tgt : Nat} (he : m.2.2.2.2.lookup pc = some (.ifCond .ge off, 3)) (ht : (pc : Int) + off = (tgt : Int)) (kt : 0 ≤ x → xP d m tgt L st G D E Q) (kf : ¬ 0 ≤ x → xP d m (pc + 3) L st G D E Q) : xP d m pc L (.int x :: st) G D E Q := by
  intro κ p l e R s mid args below meth c G0 C ls H locs hl hP hS h0 h1
  exact lv_if_ge C.1 C.2.1 (C.2.2.2.2.2.2.2.2.2.2.2.2.2.2.1.dec he) ht (fun q => (kt q κ p l e R s mid args below meth c G0 C ls H locs hl hP hS h0 h1)) (fun q => (kf q κ p l e R s mid args below meth c G0 C ls H locs hl hP hS h0 h1))
theorem x_icmp_ge {x y : Int32} {off : Int} {tgt : Nat} (he : m.2.2.2.2.lookup pc = some (.if_icmp .ge off, 3)) (ht : (pc : Int) + off = (tgt : Int)) (kt : y ≤ x → xP d m tgt L st G D E Q) (kf : ¬ y ≤ x → xP d m (pc + 3) L st G D E Q) : xP d m pc L (.int y :: .int x :: st) G D E Q := by
  intro κ p l e R s mid args below meth c G0 C ls H locs hl hP hS h0 h1
  exact lv_icmp_ge C.1 C.2.1 (C.2.2.2.2.2.2.2.2.2.2.2.2.2.2.1.dec he) ht (fun q => (kt q κ p l e R s mid args below meth c G0 C ls H locs hl hP hS h0 h1)) (fun q => (kf q κ p l e R s mid args below meth c G0 C ls H locs hl hP hS h0 h1))
theorem x_if_gt {x : Int32} {off : Int} {tgt : Nat} (he : m.2.2.2.2.lookup pc = some (.ifCond .gt off, 3)) (ht : (pc : Int) + off = (tgt : Int)) (kt : 0 < x → xP d m tgt L st G D E Q) (kf : ¬ 0 < x → xP d m (pc + 3) L st G D E Q) : xP d m pc L (.int x :: st) G D E Q := by
  intro κ p l e R s mid args below meth c G0 C ls H locs hl hP hS h0 h1
  exact lv_if_gt C.1 C.2.1 (C.2.2.2.2.2.2.2.2.2.2.2.2.2.2.1.dec he) ht (fun q => (kt q κ p l e R s mid args below meth c G0 C ls H locs hl hP hS h0 h1)) (fun q => (kf q κ p l e R s mid args below meth c G0 C ls H locs hl hP hS h0 h1))
theorem x_icmp_gt {x y : Int32} {off : Int} {tgt : Nat} (he : m.2.2.2.2.lookup pc = some (.if_icmp .gt off, 3)) (ht : (pc : Int) + off = (tgt : Int)) (kt : y < x → xP d m tgt L st G D E Q) (kf : ¬ y < x → xP d m (pc + 3) L st G D E Q) : xP d m pc L (.int y :: .int x :: st) G D E Q := by
  intro κ p l e R s mid args below meth c G0 C ls H locs hl hP hS h0 h1
  exact lv_icmp_gt C.1 C.2.1 (C.2.2.2.2.2.2.2.2.2.2.2.2.2.2.1.dec he) ht (fun q => (kt q κ p l e R s mid args below meth c G0 C ls H locs hl hP hS h0 h1)) (fun q => (kf q κ p l e R s mid args below meth c G0 C ls H locs hl hP hS h0 h1))
theorem x_if_le {x : Int32} {off : Int} {tgt : Nat} (he : m.2.2.2.2.lookup pc = some (.ifCond .le off, 3)) (ht : (pc : Int) + off = (tgt : Int)) (kt : x ≤ 0 → xP d m tgt L st G D E Q) (kf : ¬ x ≤ 0 → xP d m (pc + 3) L st G D E Q) : xP d m pc L (.int x :: st) G D E Q := by
  intro κ p l e R s mid args below meth c G0 C ls H locs hl hP hS h0 h1
  exact lv_if_le C.1 C.2.1 (C.2.2.2.2.2.2.2.2.2.2.2.2.2.2.1.dec he) ht (fun q => (kt q κ p l e R s mid args below meth c G0 C ls H locs hl hP hS h0 h1)) (fun q => (kf q κ p l e R s mid args below meth c G0 C ls H locs hl hP hS h0 h1))
theorem x_icmp_le {x y : Int32} {off : Int} {tgt : Nat} (he : m.2.2.2.2.lookup pc = some (.if_icmp .le off, 3)) (ht : (pc : Int) + off = (tgt : Int)) (kt : x ≤ y → xP d m tgt L st G D E Q) (kf : ¬ x ≤ y → xP d m (pc + 3) L st G D E Q) : xP d m pc L (.int y :: .int x :: st) G D E Q := by
  intro κ p l e R s mid args below meth c G0 C ls H locs hl hP hS h0 h1
  exact lv_icmp_le C.1 C.2.1 (C.2.2.2.2.2.2.2.2.2.2.2.2.2.2.1.dec he) ht (fun q => (kt q κ p l e R s mid args below meth c G0 C ls H locs hl hP hS h0 h1)) (fun q => (kf q κ p l e R s mid args below meth c G0 C ls H locs hl hP hS h0 h1))
theorem x_goto {off : Int} {tgt : Nat} (he : m.2.2.2.2.lookup pc = some (.goto off, 3)) (ht : (pc : Int) + off = (tgt : Int)) (k : xP d m tgt L st G D E Q) : xP d m pc L st G D E Q := by
  intro κ p l e R s mid args below meth c G0 C ls H locs hl hP hS h0 h1
  exact lv_goto C.1 C.2.1 (C.2.2.2.2.2.2.2.2.2.2.2.2.2.2.1.dec he) ht (k κ p l e R s mid args below meth c G0 C ls H locs hl hP hS h0 h1)
theorem x_ifnull {x : Nat} {off : Int} (he : m.2.2.2.2.lookup pc = some (.ifnull off, 3)) (k : xP d m (pc + 3) L st G D E Q) : xP d m pc L (.ref x :: st) G D E Q := by
  intro κ p l e R s mid args below meth c G0 C ls H locs hl hP hS h0 h1
  exact lv_ifnull C.1 C.2.1 (C.2.2.2.2.2.2.2.2.2.2.2.2.2.2.1.dec he) (k κ p l e R s mid args below meth c G0 C ls H locs hl hP hS h0 h1)
theorem x_ifnullN {off : Int} {tgt : Nat} (he : m.2.2.2.2.lookup pc = some (.ifnull off, 3)) (ht : (pc : Int) + off = (tgt : Int)) (k : xP d m tgt L st G D E Q) : xP d m pc L (.null :: st) G D E Q := by
  intro κ p l e R s mid args below meth c G0 C ls H locs hl hP hS h0 h1
  exact lv_ifnullN C.1 C.2.1 (C.2.2.2.2.2.2.2.2.2.2.2.2.2.2.1.dec he) ht (k κ p l e R s mid args below meth c G0 C ls H locs hl hP hS h0 h1)
theorem x_ifnonnull {x : Nat} {off : Int} {tgt : Nat} (he : m.2.2.2.2.lookup pc = some (.ifnonnull off, 3)) (ht : (pc : Int) + off = (tgt : Int)) (k : xP d m tgt L st G D E Q) : xP d m pc L (.ref x :: st) G D E Q := by
  intro κ p l e R s mid args below meth c G0 C ls H locs hl hP hS h0 h1
  exact lv_ifnonnull C.1 C.2.1 (C.2.2.2.2.2.2.2.2.2.2.2.2.2.2.1.dec he) ht (k κ p l e R s mid args below meth c G0 C ls H locs hl hP hS h0 h1)
theorem x_ifnonnullN {off : Int} (he : m.2.2.2.2.lookup pc = some (.ifnonnull off, 3)) (k : xP d m (pc + 3) L st G D E Q) : xP d m pc L (.null :: st) G D E Q := by
  intro κ p l e R s mid args below meth c G0 C ls H locs hl hP hS h0 h1
  exact lv_ifnonnullN C.1 C.2.1 (C.2.2.2.2.2.2.2.2.2.2.2.2.2.2.1.dec he) (k κ p l e R s mid args below meth c G0 C ls H locs hl hP hS h0 h1)
theorem x_tableOut {dflt lo hi : Int} {offs : Array Int} {len : Nat} {x : Int32} {tgt : Nat} (he : m.2.2.2.2.lookup pc = some (.tableswitch dflt lo hi offs, len)) (h : x.toInt < lo ∨ hi < x.toInt) (ht : (pc : Int) + dflt = (tgt : Int)) (k : xP d m tgt L st G D E Q) : xP d m pc L (.int x :: st) G D E Q := by
  intro κ p l e R s mid args below meth c G0 C ls H locs hl hP hS h0 h1
  exact lv_tableOut C.1 C.2.1 (C.2.2.2.2.2.2.2.2.2.2.2.2.2.2.1.dec he) h ht (k κ p l e R s mid args below meth c G0 C ls H locs hl hP hS h0 h1)
theorem x_tableIn {dflt lo hi : Int} {offs : Array Int} {len : Nat} {x : Int32} {off : Int} {tgt : Nat} (he : m.2.2.2.2.lookup pc = some (.tableswitch dflt lo hi offs, len)) (h2 : ¬ x.toInt < lo) (h3 : ¬ hi < x.toInt) (ho : offs[(x.toInt - lo).toNat]? = some off) (ht : (pc : Int) + off = (tgt : Int)) (k : xP d m tgt L st G D E Q) : xP d m pc L (.int x :: st) G D E Q := by
  intro κ p l e R s mid args below meth c G0 C ls H locs hl hP hS h0 h1
  exact lv_tableIn C.1 C.2.1 (C.2.2.2.2.2.2.2.2.2.2.2.2.2.2.1.dec he) h2 h3 ho ht (k κ p l e R s mid args below meth c G0 C ls H locs hl hP hS h0 h1)
end XR
