/-! String constants. -/
section XS
variable {d : Nat} {m : xM} {pc : Nat} {L : List (Nat × Value)} {st stk : List Value} {G E E1 : xG} {D : xD} {Q Q1 : Option Value → xD → Prop}
theorem x_ldcS {i k : Nat} {tx : String} (hm : m.1.cls = "SpoonShort$Reader") (hq : (i, tx, k) ∈ xsl) (he : m.2.2.2.2.lookup pc = some (.ldc i, 2)) (kk : xP d m (pc + 2) L (.ref (100000 + k) :: st) G D E Q) : xP d m pc L st G D E Q := by
  intro κ p l e R s mid args below meth c0 G0 C ls H locs hl hP hS h0 h1
  have hEn : xEnv κ s := C.2.2.2.2.2.2.2.2.1
  exact va_ldcS C.1 C.2.1 (by rw [← hm]; exact C.2.2.2.2.1) (hEn.2.2.2.2.2.1 _ hq) (C.2.2.2.2.2.2.2.2.2.2.2.2.2.2.1.dec he) (kk κ p l e R s mid args below meth c0 G0 C ls H locs hl hP hS h0 h1)
theorem x_sval {i k : Nat} (hlk : xIn (.fieldLink m.1.cls i "java/lang/String" "value" "[B")) (hk : k < 21) (he : m.2.2.2.2.lookup pc = some (.getfield i, 3)) (kk : xP d m (pc + 3) L (.ref (200000 + k) :: st) G D E Q) : xP d m pc L (.ref (100000 + k) :: st) G D E Q := by
  intro κ p l e R s mid args below meth c0 G0 C ls H locs hl hP hS h0 h1
  have hEn : xEnv κ s := C.2.2.2.2.2.2.2.2.1
  exact vk_getf C.1 C.2.1 (hEn.2.2.2.2.2.2.1.1 k hk).2.2.1 hS C.2.2.2.2.1 (C.2.2.2.2.2.1 _ hlk.mem) (fun _ h => h) (C.2.2.2.2.2.2.2.2.2.2.2.2.2.2.1.dec he) (kk κ p l e R s mid args below meth c0 G0 C ls H locs hl hP hS h0 h1)
theorem x_scod {i k : Nat} (hlk : xIn (.fieldLink m.1.cls i "java/lang/String" "coder" "B")) (hk : k < 21) (he : m.2.2.2.2.lookup pc = some (.getfield i, 3)) (kk : xP d m (pc + 3) L (.int 0 :: st) G D E Q) : xP d m pc L (.ref (100000 + k) :: st) G D E Q := by
  intro κ p l e R s mid args below meth c0 G0 C ls H locs hl hP hS h0 h1
  have hEn : xEnv κ s := C.2.2.2.2.2.2.2.2.1
  exact vk_getf C.1 C.2.1 (hEn.2.2.2.2.2.2.1.1 k hk).2.1 hS C.2.2.2.2.1 (C.2.2.2.2.2.1 _ hlk.mem) (fun _ h => h) (C.2.2.2.2.2.2.2.2.2.2.2.2.2.2.1.dec he) (kk κ p l e R s mid args below meth c0 G0 C ls H locs hl hP hS h0 h1)
theorem x_slen {k : Nat} (hk : k < 21) (he : m.2.2.2.2.lookup pc = some (.arraylength, 1)) (kk : xP d m (pc + 1) L (.int (Int32.ofNat (xslens.getD k 0)) :: st) G D E Q) : xP d m pc L (.ref (200000 + k) :: st) G D E Q := by
  intro κ p l e R s mid args below meth c0 G0 C ls H locs hl hP hS h0 h1
  have hEn : xEnv κ s := C.2.2.2.2.2.2.2.2.1
  exact va_tlen C.1 C.2.1 (hEn.2.2.2.2.2.2.1.1 k hk).2.2.2 hS rfl (C.2.2.2.2.2.2.2.2.2.2.2.2.2.2.1.dec he) (kk κ p l e R s mid args below meth c0 G0 C ls H locs hl hP hS h0 h1)
theorem x_sbld {k : Nat} {j : Int32} (hk : k < 21) (hj : vp_in j (xslens.getD k 0)) (he : m.2.2.2.2.lookup pc = some (.baload, 1)) (kk : xP d m (pc + 1) L (.int ((xsbyts.getD k []).getD j.toNatClampNeg 0) :: st) G D E Q) : xP d m pc L (.int j :: .ref (200000 + k) :: st) G D E Q := by
  intro κ p l e R s mid args below meth c0 G0 C ls H locs hl hP hS h0 h1
  have hEn : xEnv κ s := C.2.2.2.2.2.2.2.2.1
  exact va_tb C.1 C.2.1 (hEn.2.2.2.2.2.2.1.1 k hk).2.2.2 hS hj rfl (C.2.2.2.2.2.2.2.2.2.2.2.2.2.2.1.dec he) (kk κ p l e R s mid args below meth c0 G0 C ls H locs hl hP hS h0 h1)
theorem x_gets1 {i : Nat} (hlk : xIn (.fieldLink m.1.cls i "java/lang/String" "COMPACT_STRINGS" "Z")) (he : m.2.2.2.2.lookup pc = some (.getstatic i, 3)) (kk : xP d m (pc + 3) L (.int 1 :: st) G D E Q) : xP d m pc L st G D E Q := by
  intro κ p l e R s mid args below meth c0 G0 C ls H locs hl hP hS h0 h1
  have hEn : xEnv κ s := C.2.2.2.2.2.2.2.2.1
  exact va_gets C.1 C.2.1 hEn.2.2.2.2.2.2.2.1 hS C.2.2.2.2.1 (C.2.2.2.2.2.1 _ hlk.mem) (fun _ h => h) (C.2.2.2.2.2.2.2.2.2.2.2.2.2.2.1.dec he) (kk κ p l e R s mid args below meth c0 G0 C ls H locs hl hP hS h0 h1)
theorem x_gets2 {i : Nat} (hlk : xIn (.fieldLink m.1.cls i "jdk/internal/util/Preconditions" "SIOOBE_FORMATTER" "Ljava/util/function/BiFunction;")) (he : m.2.2.2.2.lookup pc = some (.getstatic i, 3)) (kk : xP d m (pc + 3) L (.ref 300000 :: st) G D E Q) (kn : xP d m (pc + 3) L (.null :: st) G D E Q) : xP d m pc L st G D E Q := by
  intro κ p l e R s mid args below meth c0 G0 C ls H locs hl hP hS h0 h1
  have hEn : xEnv κ s := C.2.2.2.2.2.2.2.2.1
  rcases hEn.2.2.2.2.2.2.2.2 with hZ | hZ
  · exact va_gets C.1 C.2.1 hZ hS C.2.2.2.2.1 (C.2.2.2.2.2.1 _ hlk.mem) (fun _ h => h) (C.2.2.2.2.2.2.2.2.2.2.2.2.2.2.1.dec he) (kn κ p l e R s mid args below meth c0 G0 C ls H locs hl hP hS h0 h1)
  · exact va_gets C.1 C.2.1 hZ hS C.2.2.2.2.1 (C.2.2.2.2.2.1 _ hlk.mem) (fun _ h => h) (C.2.2.2.2.2.2.2.2.2.2.2.2.2.2.1.dec he) (kk κ p l e R s mid args below meth c0 G0 C ls H locs hl hP hS h0 h1)
theorem x_cret {x : Int32} {ty : FieldType} (hr : m.2.2.2.1 = some ty) (hn : narrow ty (.int x) = .int x) (he : m.2.2.2.2.lookup pc = some (.ireturn, 1)) (hQ : Q (some (.int x)) D) : xP d m pc L [.int x] E D E Q := by
  intro κ p l e R s mid args below meth c0 G0 C ls H locs hl hP hS h0 h1
  exact W.zret C.1 C.2.1 (C.2.2.1.trans hr) hn (xret_pre C hP hS hQ) hS.2.2 (C.2.2.2.2.2.2.2.2.2.2.2.2.2.2.1.dec he) C.2.2.2.2.2.2.1
theorem x_callVs {y : xM} {i n k : Nat} {As : List Value} (hlk : xIn (.methodLink m.1.cls i y.1)) (hY : xY y n) (hYi : xIn (.instanceMethod y.1)) (hYs : xIn (.selects y.1.cls y.1 y.1)) (hcls : y.1.cls = "java/lang/String") (hk : k < 21) (hn : As.length = n)
    (hst : stk = As.reverse ++ .ref (100000 + k) :: st) (hW : (st.map fun v => v.category).sum ≤ 8) (he : m.2.2.2.2.lookup pc = some (.invokevirtual i, 3)) (hE : G.1 ≤ E1.1) (hE2 : E1.1 ≤ E.1) (hC : xC d y (.ref (100000 + k) :: As) G D E1 Q1)
    (kk : ∀ r D', Q1 r D' → xP (d + 1) m (pc + 3) L (r.toList ++ st) E1 D' E Q) : xP (d + 1) m pc L stk G D E Q := by
  subst hst
  intro κ p l e R s mid args below meth c0 G0 C ls H locs hl hP hS h0 h1
  refine xsize C hP hS h0 h1 (fun hz => ?_)
  have hM := hC κ l hE (Nat.le_trans hE2 C.2.2.2.2.2.2.2.2.2.2.2.2.2.2.2)
  have hEn : xEnv κ s := C.2.2.2.2.2.2.2.2.1
  have hts := C.2.2.2.2.2.1
  have hrecv := vk_recv hEn.2.2.2.2.2.2.1 hk hS
  have hp : PreV s H y.1.cls (κ.2.1 (100000 + k)) (va_Pc ((.ref (100000 + k) :: As).map (rv κ)) (fun U => va_P κ.2.2.2.2.2 xcl (xWs κ G D) U.heap ∧ xEnv κ U ∧ U.heap.size = κ.1 + G.1)) (As.map (rv κ)) :=
    ⟨xBlind κ _ G D, by rw [hcls]; exact hrecv, fun U hU hWm => ⟨rfl, by rw [hU]; exact hP, hEn.warm hWm (fun a g1 g2 => by rw [hU]; exact hS.2.1 a g1 g2), by rw [hU]; exact hz⟩⟩
  obtain ⟨hR, hf⟩ := xroom C h0 hE hE2 hY.2.2.2.2.1
  have hstk : (As.reverse ++ .ref (100000 + k) :: st).map (rv κ) = (As.map (rv κ)).reverse ++ .ref (κ.2.1 (100000 + k)) :: st.map (rv κ) := by simp [rv]
  have hdec := (C.2.2.2.2.2.2.2.2.2.2.2.2.2.2.1.dec he)
  have hlen : (As.map (rv κ)).length = n := by rw [List.length_map]; exact hn
  have hcat : ((st.map (rv κ)).map fun v => v.category).sum ≤ 8 := by rw [xcats]; exact hW
  rw [hstk]
  exact x_after (va_runV ⟨C.1, C.2.1, C.2.2.2.1, C.2.2.2.2.1, hts⟩ hM ⟨callB_of n hts (xGood y hY) rfl rfl rfl (hts _ hY.2.1.mem) (hts _ hlk.mem) hY.2.2.2.1 hR, hts _ hYi.mem, hts _ hYs.mem⟩ hp rfl hlen hl.1 rfl (lv_room hcat) hdec hf) hS (xcont C hl h0 hE hE2 kk)
end XS
theorem xnat : goodWord (Cond.native arraycopyName) = true := rfl
section XMM
variable {d : Nat} {m : xM} {pc : Nat} {L : List (Nat × Value)} {st : List Value} {G E : xG} {D : xD} {Q : Option Value → xD → Prop}
theorem xMathMaxCode : Lib.Math.max.code = prog_17_method_65_code := by decide +kernel
theorem xMathMinCode : Lib.Math.min.code = prog_17_method_69_code := by decide +kernel
theorem x_mmax {i : Nat} {x y : Int32} (hlk : xIn (.methodLink m.1.cls i Lib.Math.max.name)) (hs : xIn (.static Lib.Math.max.name)) (hi : xIn (.initialized "java/lang/Math")) (hcd : xIn (.code Lib.Math.max.name Lib.Math.max.code 2 (some .int))) (hd : 1 ≤ d) (hW : (st.map fun v => v.category).sum ≤ 8) (he : m.2.2.2.2.lookup pc = some (.invokestatic i, 3)) (kk : xP d m (pc + 3) L (.int (if x < y then y else x) :: st) G D E Q) : xP d m pc L (.int y :: .int x :: st) G D E Q := by
  intro κ p l e R s mid args below meth c0 G0 C ls H locs hl hP hS h0 h1
  have hts := C.2.2.2.2.2.1
  have c1 := C.2.2.2.2.2.2.2.2.2.2.1
  have c2 := C.2.2.2.2.2.2.2.2.2.2.2.1
  have c3 := C.2.2.2.2.2.2.2.2.2.2.2.2.1
  have c4 := C.2.2.2.2.2.2.2.2.2.2.2.2.2.1
  have s1 := xS_mono h1
  have hcat : ((st.map (rv κ)).map fun v => v.category).sum ≤ 8 := by rw [xcats]; exact hW
  exact va_mmax C.1 C.2.1 (C.2.2.2.1.trans hl.1.symm) C.2.2.2.2.1 (hts _ hlk.mem) (hts _ hs.mem) (hts _ hi.mem) (hts _ hcd.mem) (Nat.le_trans hd c1) (by omega) (by omega) (by omega) (C.2.2.2.2.2.2.2.2.2.2.2.2.2.2.1.dec he) (kk κ p l e R s mid args below meth c0 G0 C ls H locs hl hP hS h0 h1)
theorem x_mmin {i : Nat} {x y : Int32} (hlk : xIn (.methodLink m.1.cls i Lib.Math.min.name)) (hs : xIn (.static Lib.Math.min.name)) (hi : xIn (.initialized "java/lang/Math")) (hcd : xIn (.code Lib.Math.min.name Lib.Math.min.code 2 (some .int))) (hd : 1 ≤ d) (hW : (st.map fun v => v.category).sum ≤ 8) (he : m.2.2.2.2.lookup pc = some (.invokestatic i, 3)) (kk : xP d m (pc + 3) L (.int (if y < x then y else x) :: st) G D E Q) : xP d m pc L (.int y :: .int x :: st) G D E Q := by
  intro κ p l e R s mid args below meth c0 G0 C ls H locs hl hP hS h0 h1
  have hts := C.2.2.2.2.2.1
  have c1 := C.2.2.2.2.2.2.2.2.2.2.1
  have c2 := C.2.2.2.2.2.2.2.2.2.2.2.1
  have c3 := C.2.2.2.2.2.2.2.2.2.2.2.2.1
  have c4 := C.2.2.2.2.2.2.2.2.2.2.2.2.2.1
  have s1 := xS_mono h1
  have hcat : ((st.map (rv κ)).map fun v => v.category).sum ≤ 8 := by rw [xcats]; exact hW
  exact va_mmin C.1 C.2.1 (C.2.2.2.1.trans hl.1.symm) C.2.2.2.2.1 (hts _ hlk.mem) (hts _ hs.mem) (hts _ hi.mem) (hts _ hcd.mem) (Nat.le_trans hd c1) (by omega) (by omega) (by omega) (C.2.2.2.2.2.2.2.2.2.2.2.2.2.2.1.dec he) (kk κ p l e R s mid args below meth c0 G0 C ls H locs hl hP hS h0 h1)
end XMM
