/-! Entries, calls, new cells. -/
def xY (y : xM) (n : Nat) : Prop := xIn (.code y.1 y.2.1 y.2.2.1 y.2.2.2.1) ∧ xIn (.initialized y.1.cls) ∧ plainName y.1.cls = true ∧
  (y.1.cls ≠ "java/lang/invoke/MethodHandle" ∧ y.1.cls ≠ "java/lang/invoke/VarHandle" ∧ (parseMethodDescriptor y.1.desc).map (fun d => d.parameters.length) = some n) ∧ y.2.2.1 ≤ 45 ∧ xOk y
def xLm (own : String) (i : Nat) (y : MethodName) : Prop := xIn (.methodLink own i y) ∨ ∃ host, xNs (.methodLinkNest own i y host)
theorem xGood (y : xM) {n : Nat} (h : xY y n) : GoodIn xtbl (.code y.1 y.2.1 y.2.2.1 y.2.2.2.1 :: xtbl) := by
  intro w hw
  rcases List.mem_cons.mp hw with rfl | hw
  · exact ⟨h.1.mem, good_of_word h.1.2⟩
  · exact ⟨hw, good_of_word (xtbl_good w hw)⟩
theorem xBlind (κ : xK) (As : List Value) (G : xG) (D : xD) : FrameBlind (va_Pc (As.map (rv κ)) (fun U => va_P κ.2.2.2.2.2 xcl (xWs κ G D) U.heap ∧ xEnv κ U ∧ U.heap.size = κ.1 + G.1)) :=
  fun a U g mk q => ⟨q.1, q.2.1, q.2.2.1.same (U := U.calling g mk a) rfl rfl, q.2.2.2⟩
theorem xC_of {d : Nat} {y : xM} {n : Nat} {As : List Value} {G E : xG} {D : xD} {Q : Option Value → xD → Prop} (hY : xY y n) (hlen : (lg_sl As).length ≤ y.2.2.1) (k : xP d y 0 (lv_args 0 As) [] G D E Q) : xC d y As G D E Q := by
  intro κ l hGE hE
  refine Met.ofW (cc := y.2.1) (maxL := y.2.2.1) (ret := y.2.2.2.1) hY.2.2.1 rfl ?_
  intro p e s m args below meth c s₁ B hml hv
  obtain ⟨rfl, hP, hEn, hz⟩ := hv
  have hts := atoms_spec (ws := .code y.1 y.2.1 y.2.2.1 y.2.2.2.1 :: xtbl) B.pre
  have hl := lv_entry (As.map (rv κ)) (n := y.2.2.1) (by rw [xslen]; exact hlen)
  rw [xargs] at hl
  rw [lg_entry_eq]
  have hk := k κ p l e (headSpec (.code y.1 y.2.1 y.2.2.1 y.2.2.2.1 :: xtbl) (xR d G E)).room s m (As.map (rv κ)).toArray below meth c G
    ⟨B.exec, B.bytes, B.returns, hml, findClass_of_methodNamed B.named, fun w hw => hts w (List.mem_cons_of_mem _ hw), B.notSynchronized, fun h => (name_of_methodNamed B.named B.method).1.trans h, hEn, hz, Nat.le_refl _, Nat.le_refl _, Nat.le_refl _, Nat.le_refl _, hY.2.2.2.2.2, hE⟩
    _ s.heap [] hl hP va_S.rf (Nat.le_refl _) hGE
  rw [Nat.sub_self, Nat.sub_self] at hk
  exact hk
section XA
variable {p : Program} {l : Launch} {e : Env} {R : Room} {s : State} {mid : MethodId} {args : Array Value} {below : List Frame} {meth : Method} {c : Code} {H : Heap} {locs : List Loc} {cells slots mc ms pc : Nat} {ls : Array Slot} {st0 rest : List Value} {Qf : State → Prop} {κ : xK} {E1 : xG} {Q1 : Option Value → xD → Prop} {a : Array Value}
theorem x_after (hr : va_Run p l e R s mid args below meth c H locs cells slots mc ms (F0 mid pc ls st0) rest (xQ κ E1 Q1 a) (fun q => κ.1 ≤ q)) (hS : va_S (fun q => κ.1 ≤ q) s.heap H locs)
    (kk : ∀ (r : Option Value) (D' : xD) (H1 : Heap) (locs1 : List Loc), Q1 r D' → va_P κ.2.2.2.2.2 xcl (xWs κ E1 D') H1 → va_S (fun q => κ.1 ≤ q) s.heap H1 locs1 → W p l e R s mid args below meth c H1 locs1 (cells + mc) (slots + ms) Qf (F0 mid (pc + 3) ls ((r.map (rv κ)).toList ++ rest))) : W p l e R s mid args below meth c H locs cells slots Qf (F0 mid pc ls st0) := by
  intro T hT X
  obtain ⟨v, st₀, t, T', L, h0, X', hL, e1, e2, ⟨⟨r, D', hv, hq, hw⟩, hz, hk⟩, st⟩ := hr T hT X
  cases hv
  rw [h0] at hz hk
  obtain ⟨t2, a1, b1⟩ := kk r D' T'.heap (locs ++ L) hq (by rw [e1]; exact hw)
    ⟨Nat.le_trans hS.1 (by rw [e1]; exact hz), fun q h1 h2 => by rw [e1, hk q (Nat.lt_of_lt_of_le h1 hS.1) h2]; exact hS.2.1 q h1 h2, fun q hq => by
      rcases List.mem_append.mp hq with h | h
      · exact hS.2.2 q h
      · exact hL q h⟩ T' rfl X'
  exact ⟨t2, st t2 a1, b1⟩
end XA
section XB
variable {d : Nat} {m : xM} {pc : Nat} {L : List (Nat × Value)} {st stk : List Value} {G E E1 : xG} {D : xD} {Q Q1 : Option Value → xD → Prop}
theorem xcont {κ : xK} {p : Program} {l : Launch} {e : Env} {R : Room} {s : State} {mid : MethodId} {args : Array Value} {below : List Frame} {meth : Method} {c0 : Code} {G0 : xG} (C : xCtx κ (d + 1) m G0 E p R s mid args meth c0) {ls : Array Slot} (hl : lv_has ls m.2.2.1 (L.map (fun q => (q.1, rv κ q.2)))) (h0 : G0.1 ≤ G.1) (hE : G.1 ≤ E1.1) (hE2 : E1.1 ≤ E.1)
    (kk : ∀ r D', Q1 r D' → xP (d + 1) m (pc + 3) L (r.toList ++ st) E1 D' E Q) : ∀ (r : Option Value) (D' : xD) (H1 : Heap) (locs1 : List Loc), Q1 r D' → va_P κ.2.2.2.2.2 xcl (xWs κ E1 D') H1 → va_S (fun q => κ.1 ≤ q) s.heap H1 locs1 →
      W p l e R s mid args below meth c0 H1 locs1 (G.1 - G0.1 + (E1.1 - G.1)) (xS G.1 - xS G0.1 + (xS E1.1 - xS G.1)) (MQ below (xQ κ E Q) args s (E.1 - G0.1) (xS E.1 - xS G0.1) (fun q => κ.1 ≤ q)) (F0 mid (pc + 3) ls ((r.map (rv κ)).toList ++ st.map (rv κ))) := by
  intro r D' H1 locs1 hq hP1 hS1
  have h := kk r D' hq κ p l e R s mid args below meth c0 G0 C ls H1 locs1 hl hP1 hS1 (Nat.le_trans h0 hE) hE2
  have e1 : G.1 - G0.1 + (E1.1 - G.1) = E1.1 - G0.1 := by omega
  have s1 := xS_mono h0
  have s2 := xS_mono hE
  have e2 : xS G.1 - xS G0.1 + (xS E1.1 - xS G.1) = xS E1.1 - xS G0.1 := by omega
  rw [e1, e2]
  cases r with
  | none => exact h
  | some v => exact h
theorem xroom {κ : xK} {p : Program} {R : Room} {s : State} {mid : MethodId} {args : Array Value} {meth : Method} {c0 : Code} {G0 : xG} (C : xCtx κ (d + 1) m G0 E p R s mid args meth c0) (h0 : G0.1 ≤ G.1) (hE : G.1 ≤ E1.1) (hE2 : E1.1 ≤ E.1) {y : xM} (hm : y.2.2.1 ≤ 45) :
    ((xR d G E1).frames + 1 ≤ R.frames ∧ 8 + (y.2.2.1 + 11) + (xR d G E1).locals ≤ R.locals) ∧ (G.1 - G0.1 + (E1.1 - G.1) ≤ R.cells ∧ xS G.1 - xS G0.1 + (xS E1.1 - xS G.1) ≤ R.slots) := by
  have c1 := C.2.2.2.2.2.2.2.2.2.2.1
  have c2 := C.2.2.2.2.2.2.2.2.2.2.2.1
  have c3 := C.2.2.2.2.2.2.2.2.2.2.2.2.1
  have c4 := C.2.2.2.2.2.2.2.2.2.2.2.2.2.1
  have s1 := xS_mono h0
  have s2 := xS_mono hE
  have s3 := xS_mono hE2
  refine ⟨⟨c1, ?_⟩, by omega, by omega⟩
  show 8 + (y.2.2.1 + 11) + 64 * d ≤ R.locals
  omega
theorem x_callV {y : xM} {i n b c : Nat} {As : List Value} (hlk : xLm m.1.cls i y.1) (hY : xY y n) (hYi : xIn (.instanceMethod y.1)) (hYs : xIn (.selects y.1.cls y.1 y.1)) (hc : xk b = c) (h100 : c < 100) {r : vw_C} (hr : xcl[c]? = some r) (hrn : r.1 = y.1.cls) (hb : b < G.1) (hn : As.length = n)
    (hst : stk = As.reverse ++ .ref b :: st) (hW : (st.map fun v => v.category).sum ≤ 8) (he : m.2.2.2.2.lookup pc = some (.invokevirtual i, 3)) (hE : G.1 ≤ E1.1) (hE2 : E1.1 ≤ E.1) (hC : xC d y (.ref b :: As) G D E1 Q1)
    (kk : ∀ r D', Q1 r D' → xP (d + 1) m (pc + 3) L (r.toList ++ st) E1 D' E Q) : xP (d + 1) m pc L stk G D E Q := by
  subst hst
  intro κ p l e R s mid args below meth c0 G0 C ls H locs hl hP hS h0 h1
  refine xsize C hP hS h0 h1 (fun hz => ?_)
  have hM := hC κ l hE (Nat.le_trans hE2 C.2.2.2.2.2.2.2.2.2.2.2.2.2.2.2)
  have hEn : xEnv κ s := C.2.2.2.2.2.2.2.2.1
  have hts := C.2.2.2.2.2.1
  have hrecv := va_recv hEn.1 hP hr (xX_obj κ G D hc h100 hb)
  have hp : PreV s H y.1.cls (κ.2.1 b) (va_Pc ((.ref b :: As).map (rv κ)) (fun U => va_P κ.2.2.2.2.2 xcl (xWs κ G D) U.heap ∧ xEnv κ U ∧ U.heap.size = κ.1 + G.1)) (As.map (rv κ)) :=
    ⟨xBlind κ _ G D, by rw [← hrn]; exact hrecv, fun U hU hWm => ⟨rfl, by rw [hU]; exact hP, hEn.warm hWm (fun a g1 g2 => by rw [hU]; exact hS.2.1 a g1 g2), by rw [hU]; exact hz⟩⟩
  obtain ⟨hR, hf⟩ := xroom C h0 hE hE2 hY.2.2.2.2.1
  have hstk : (As.reverse ++ .ref b :: st).map (rv κ) = (As.map (rv κ)).reverse ++ .ref (κ.2.1 b) :: st.map (rv κ) := by simp [rv]
  have hdec := (C.2.2.2.2.2.2.2.2.2.2.2.2.2.2.1.dec he)
  have hlen : (As.map (rv κ)).length = n := by rw [List.length_map]; exact hn
  have hcat : ((st.map (rv κ)).map fun v => v.category).sum ≤ 8 := by rw [xcats]; exact hW
  rw [hstk]
  rcases hlk with h | ⟨host, h⟩
  · exact x_after (va_runV ⟨C.1, C.2.1, C.2.2.2.1, C.2.2.2.2.1, hts⟩ hM ⟨callB_of n hts (xGood y hY) rfl rfl rfl (hts _ hY.2.1.mem) (hts _ h.mem) hY.2.2.2.1 hR, hts _ hYi.mem, hts _ hYs.mem⟩ hp rfl hlen hl.1 rfl (lv_room hcat) hdec hf) hS (xcont C hl h0 hE hE2 kk)
  · exact x_after (va_runVN ⟨C.1, C.2.1, C.2.2.2.1, C.2.2.2.2.1, hts⟩ hM ⟨va_cnB n hts (xGood y hY) rfl rfl rfl (hEn.2.1 _ h) (hts _ hY.2.1.mem) hY.2.2.2.1 hR, hts _ hYi.mem, hts _ hYs.mem⟩ hp rfl hlen hl.1 rfl (lv_room hcat) hdec hf) hS (xcont C hl h0 hE hE2 kk)
theorem x_callS {y : xM} {i n : Nat} {As : List Value} (hlk : xLm m.1.cls i y.1) (hY : xY y n) (hYs : xIn (.static y.1)) (hn : As.length = n)
    (hst : stk = As.reverse ++ st) (hW : (st.map fun v => v.category).sum ≤ 8) (he : m.2.2.2.2.lookup pc = some (.invokestatic i, 3)) (hE : G.1 ≤ E1.1) (hE2 : E1.1 ≤ E.1) (hC : xC d y As G D E1 Q1)
    (kk : ∀ r D', Q1 r D' → xP (d + 1) m (pc + 3) L (r.toList ++ st) E1 D' E Q) : xP (d + 1) m pc L stk G D E Q := by
  subst hst
  intro κ p l e R s mid args below meth c0 G0 C ls H locs hl hP hS h0 h1
  refine xsize C hP hS h0 h1 (fun hz => ?_)
  have hM := hC κ l hE (Nat.le_trans hE2 C.2.2.2.2.2.2.2.2.2.2.2.2.2.2.2)
  have hEn : xEnv κ s := C.2.2.2.2.2.2.2.2.1
  have hts := C.2.2.2.2.2.1
  have hp : PreS s H (va_Pc (As.map (rv κ)) (fun U => va_P κ.2.2.2.2.2 xcl (xWs κ G D) U.heap ∧ xEnv κ U ∧ U.heap.size = κ.1 + G.1)) (As.map (rv κ)) :=
    ⟨xBlind κ _ G D, fun U hU hWm => ⟨rfl, by rw [hU]; exact hP, hEn.warm hWm (fun a g1 g2 => by rw [hU]; exact hS.2.1 a g1 g2), by rw [hU]; exact hz⟩⟩
  obtain ⟨hR, hf⟩ := xroom C h0 hE hE2 hY.2.2.2.2.1
  have hstk : (As.reverse ++ st).map (rv κ) = (As.map (rv κ)).reverse ++ st.map (rv κ) := by simp
  have hdec := (C.2.2.2.2.2.2.2.2.2.2.2.2.2.2.1.dec he)
  have hlen : (As.map (rv κ)).length = n := by rw [List.length_map]; exact hn
  have hcat : ((st.map (rv κ)).map fun v => v.category).sum ≤ 8 := by rw [xcats]; exact hW
  rw [hstk]
  rcases hlk with h | ⟨host, h⟩
  · exact x_after (va_runS ⟨C.1, C.2.1, C.2.2.2.1, C.2.2.2.2.1, hts⟩ hM ⟨callB_of n hts (xGood y hY) rfl rfl rfl (hts _ hY.2.1.mem) (hts _ h.mem) hY.2.2.2.1 hR, hts _ hYs.mem⟩ hp rfl hlen hl.1 rfl (lv_room hcat) hdec hf) hS (xcont C hl h0 hE hE2 kk)
  · exact x_after (va_runSN ⟨C.1, C.2.1, C.2.2.2.1, C.2.2.2.2.1, hts⟩ hM ⟨va_cnB n hts (xGood y hY) rfl rfl rfl (hEn.2.1 _ h) (hts _ hY.2.1.mem) hY.2.2.2.1 hR, hts _ hYs.mem, trivial⟩ hp rfl hlen hl.1 rfl (lv_room hcat) hdec hf) hS (xcont C hl h0 hE hE2 kk)
theorem x_callI {y : xM} {i n b : Nat} {As : List Value} (hlk : xLm m.1.cls i y.1) (hY : xY y n) (hYi : xIn (.instanceMethod y.1)) (hYn : y.1.name = "<init>") (hret : y.2.2.2.1 = none) (hn : As.length = n)
    (hst : stk = As.reverse ++ .ref b :: st) (hW : (st.map fun v => v.category).sum ≤ 8) (he : m.2.2.2.2.lookup pc = some (.invokespecial i, 3)) (hE : G.1 ≤ E1.1) (hE2 : E1.1 ≤ E.1) (hC : xC d y (.ref b :: As) G D E1 Q1)
    (kk : ∀ r D', Q1 r D' → xP (d + 1) m (pc + 3) L (r.toList ++ st) E1 D' E Q) : xP (d + 1) m pc L stk G D E Q := by
  subst hst
  intro κ p l e R s mid args below meth c0 G0 C ls H locs hl hP hS h0 h1
  refine xsize C hP hS h0 h1 (fun hz => ?_)
  have hM := hC κ l hE (Nat.le_trans hE2 C.2.2.2.2.2.2.2.2.2.2.2.2.2.2.2)
  have hG := xGood y hY
  rw [hret] at hM hG
  have hEn : xEnv κ s := C.2.2.2.2.2.2.2.2.1
  have hts := C.2.2.2.2.2.1
  have hp : PreS s H (va_Pc ((.ref b :: As).map (rv κ)) (fun U => va_P κ.2.2.2.2.2 xcl (xWs κ G D) U.heap ∧ xEnv κ U ∧ U.heap.size = κ.1 + G.1)) (.ref (κ.2.1 b) :: As.map (rv κ)) :=
    ⟨xBlind κ _ G D, fun U hU hWm => ⟨rfl, by rw [hU]; exact hP, hEn.warm hWm (fun a g1 g2 => by rw [hU]; exact hS.2.1 a g1 g2), by rw [hU]; exact hz⟩⟩
  obtain ⟨hR, hf⟩ := xroom C h0 hE hE2 hY.2.2.2.2.1
  have hstk : (As.reverse ++ .ref b :: st).map (rv κ) = (As.map (rv κ)).reverse ++ .ref (κ.2.1 b) :: st.map (rv κ) := by simp [rv]
  have hdec := (C.2.2.2.2.2.2.2.2.2.2.2.2.2.2.1.dec he)
  have hlen : (As.map (rv κ)).length = n := by rw [List.length_map]; exact hn
  have hcat : ((st.map (rv κ)).map fun v => v.category).sum ≤ 8 := by rw [xcats]; exact hW
  rw [hstk]
  rcases hlk with h | ⟨host, h⟩
  · exact x_after (va_runI ⟨C.1, C.2.1, C.2.2.2.1, C.2.2.2.2.1, hts⟩ hM ⟨callB_of n hts hG rfl rfl rfl (hts _ hY.2.1.mem) (hts _ h.mem) hY.2.2.2.1 hR, hYn, hts _ hYi.mem⟩ hp rfl hlen hl.1 rfl (lv_room hcat) hdec hf) hS (xcont C hl h0 hE hE2 kk)
  · exact x_after (va_runIN ⟨C.1, C.2.1, C.2.2.2.1, C.2.2.2.2.1, hts⟩ hM ⟨va_cnB n hts hG rfl rfl rfl (hEn.2.1 _ h) (hts _ hY.2.1.mem) hY.2.2.2.1 hR, hYn, hts _ hYi.mem⟩ hp rfl hlen hl.1 rfl (lv_room hcat) hdec hf) hS (xcont C hl h0 hE hE2 kk)
theorem x_oinit {i a : Nat} (hlk : xIn (.methodLink m.1.cls i objectInit)) (hi : xIn (.instanceMethod objectInit)) (hcd : xIn (.code objectInit ⟨#[0xb1]⟩ 1 none)) (hd : 1 ≤ d) (hW : (st.map fun v => v.category).sum ≤ 8) (he : m.2.2.2.2.lookup pc = some (.invokespecial i, 3)) (kk : xP d m (pc + 3) L st G D E Q) : xP d m pc L (.ref a :: st) G D E Q := by
  intro κ p l e R s mid args below meth c0 G0 C ls H locs hl hP hS h0 h1
  have hts := C.2.2.2.2.2.1
  have c1 := C.2.2.2.2.2.2.2.2.2.2.1
  have c2 := C.2.2.2.2.2.2.2.2.2.2.2.1
  have hcat : ((st.map (rv κ)).map fun v => v.category).sum ≤ 8 := by rw [xcats]; exact hW
  exact W.objInit C.1 C.2.1 C.2.2.2.2.1 (hts _ hlk.mem) (hts _ hi.mem) (hts _ hcd.mem) rfl (hl.1.trans C.2.2.2.1.symm) rfl (C.2.2.2.2.2.2.2.2.2.2.2.2.2.2.1.dec he) (Nat.le_trans hd c1) (by
    show 2 * 0 + _ + 12 ≤ R.locals
    omega) (kk κ p l e R s mid args below meth c0 G0 C ls H locs hl hP hS h0 h1)
/-- the address of a new cell -/
theorem xfresh {κ : xK} {p : Program} {l : Launch} {e : Env} {R : Room} {s : State} {mid : MethodId} {args : Array Value} {below : List Frame} {meth : Method} {c0 : Code} {G0 : xG} (C : xCtx κ d m G0 E p R s mid args meth c0) (h0 : G0.1 ≤ G.1) (h1 : G.1 < E.1) {q : Nat} {x : va_E} {H1 : Heap} {locs : List Loc} {slots : Nat} {Qf : State → Prop} {g : JFrame}
    (hP : va_P κ.2.2.2.2.2 xcl (xWs κ G D ++ [(q, x)]) H1) (hD : va_D (fun q => κ.1 ≤ q) (xWs κ G D ++ [(q, x)])) (k : q = κ.2.1 G.1 → W p l e R s mid args below meth c0 H1 locs (G.1 - G0.1 + 1) slots Qf g) : W p l e R s mid args below meth c0 H1 locs (G.1 - G0.1 + 1) slots Qf g := by
  obtain ⟨-, -, -, -, -, -, -, -, ⟨-, -, -, -, hA, -⟩, hz, -, -, -, -, -, hE⟩ := C
  intro T hT X
  refine k ?_ T hT X
  have hu := X.heapSize
  rw [hT] at hu
  have hlen : (xWs κ G D).length = G.1 := by simp [xWs]
  have hx : (xWs κ G D ++ [(q, x)])[G.1]? = some (q, x) := by
    rw [List.getElem?_append_right (by omega), hlen]
    simp
  have h2 := (hP _ _ hx).lt
  have h3 := hD.2 _ _ hx
  have hA1 := hA G.1 (by omega)
  by_cases e : q = κ.1 + G.1
  · omega
  · exfalso
    have hq : q - κ.1 < G.1 := by
      have : κ.1 ≤ q := h3
      have : q < H1.size := h2
      omega
    have hy : (xWs κ G D ++ [(q, x)])[q - κ.1]? = some (κ.2.1 (q - κ.1), xE κ G D (q - κ.1)) := by
      rw [List.getElem?_append_left (by omega)]
      exact xWs_get κ G D hq
    have := hD.1 _ _ _ _ hx hy (by rw [hA _ (by omega)]; have : κ.1 ≤ q := h3; show q = κ.1 + (q - κ.1); omega)
    omega
theorem xroom1 {κ : xK} {p : Program} {R : Room} {s : State} {mid : MethodId} {args : Array Value} {meth : Method} {c0 : Code} {G0 : xG} (C : xCtx κ d m G0 E p R s mid args meth c0) (h0 : G0.1 ≤ G.1) (h1 : G.1 < E.1) : G.1 - G0.1 + 1 ≤ R.cells ∧ xS G.1 - xS G0.1 + xl G.1 ≤ R.slots := by
  have c3 := C.2.2.2.2.2.2.2.2.2.2.2.2.1
  have c4 := C.2.2.2.2.2.2.2.2.2.2.2.2.2.1
  have s1 := xS_mono h0
  have s3 := xS_mono (show G.1 + 1 ≤ E.1 from h1)
  rw [xS_succ] at s3
  omega
theorem xnext {κ : xK} {p : Program} {l : Launch} {e : Env} {R : Room} {s : State} {mid : MethodId} {args : Array Value} {below : List Frame} {meth : Method} {c0 : Code} {G0 : xG} (C : xCtx κ d m G0 E p R s mid args meth c0) {ls : Array Slot} (hl : lv_has ls m.2.2.1 (L.map (fun q => (q.1, rv κ q.2)))) (h0 : G0.1 ≤ G.1) (h1 : G.1 < E.1) {N : Nat} (hN : N = xl G.1) {H1 : Heap} {locs : List Loc}
    (hP : va_P κ.2.2.2.2.2 xcl (xWs κ (G.1 + 1, G.2) D) H1) (hS : va_S (fun q => κ.1 ≤ q) s.heap H1 locs) (kk : xP d m pc L stk (G.1 + 1, G.2) D E Q) :
    W p l e R s mid args below meth c0 H1 locs (G.1 - G0.1 + 1) (xS G.1 - xS G0.1 + N) (MQ below (xQ κ E Q) args s (E.1 - G0.1) (xS E.1 - xS G0.1) (fun q => κ.1 ≤ q)) (F0 mid pc ls (stk.map (rv κ))) := by
  have h := kk κ p l e R s mid args below meth c0 G0 C ls H1 locs hl hP hS (Nat.le_succ_of_le h0) h1
  subst hN
  have s1 := xS_mono h0
  have e1 : G.1 - G0.1 + 1 = (G.1 + 1) - G0.1 := by omega
  have e2 : xS G.1 - xS G0.1 + xl G.1 = xS (G.1 + 1) - xS G0.1 := by rw [xS_succ]; omega
  rw [e1, e2]
  exact h
theorem x_new {i c : Nat} {r : vw_C} {ty : Nat → FieldType} (hlk : xIn (.classLink m.1.cls i r.1)) (hinst : xIn (.instantiable r.1 r.2.2)) (hini : xIn (.initialized r.1)) (hr : xcl[c]? = some r) (hin : ∀ w ∈ u_ws r.1 r.2.1 r.2.2, w ∈ xtbl) (hty : ∀ k, k < r.2.2 → parseFieldDescriptor (r.2.1 k).2.2.1 = some (ty k))
    (hk : xk G.1 = c) (h100 : c < 100) (hN : r.2.2 = xl G.1) (hlen : (xfk c).length = r.2.2) (hdef : ∀ j, j < r.2.2 → defaultValue (ty j) = (match (xfk c).getD j 0 with | 0 => .int 0 | 1 => .long 0 | _ => .null)) (hz1 : D.1 G.1 = fun _ => 0) (hz2 : D.2 G.1 = fun _ => 0) (hz3 : G.2 G.1 = fun _ => false) (hroom : G.1 < E.1)
    (he : m.2.2.2.2.lookup pc = some (.new i, 3)) (kk : xP d m (pc + 3) L (.ref G.1 :: st) (G.1 + 1, G.2) D E Q) : xP d m pc L st G D E Q := by
  intro κ p l e R s mid args below meth c0 G0 C ls H locs hl hP hS h0 h1
  have hts := C.2.2.2.2.2.1
  have hEn : xEnv κ s := C.2.2.2.2.2.2.2.2.1
  have hA : ∀ q, s.heap.size ≤ q → κ.1 ≤ q := fun q hq => by
    have := C.2.2.2.2.2.2.2.2.2.1
    omega
  obtain ⟨q1, q2⟩ := xroom1 (G := G) C h0 hroom
  refine va_new (fs := xfs κ (G.1 + 1, G.2) D G.1) C.1 C.2.1 hts hin ty hty C.2.2.2.2.1 (hts _ hlk.mem) (hts _ hinst.mem) (hts _ hini.mem) hEn.1 hP (xWs_D κ hEn.2.2.2.2.1 (Nat.le_trans h1 C.2.2.2.2.2.2.2.2.2.2.2.2.2.2.2) D) hS hA hr (fun j hj => ?_) q1 (by rw [hN]; exact q2) (C.2.2.2.2.2.2.2.2.2.2.2.2.2.2.1.dec he) (fun q H1 hP1 hD1 hS1 => ?_)
  · rw [hdef j hj]
    have hg : (xfk (xk G.1))[j]? = some ((xfk c).getD j 0) := by
      rw [hk, List.getElem?_eq_getElem (by omega), List.getD_eq_getElem?_getD, List.getElem?_eq_getElem (by omega)]
      rfl
    have hv : vp_V (xfs κ (G.1 + 1, G.2) D G.1) j = xfv κ (G.1 + 1, G.2) D G.1 j ((xfk c).getD j 0) := by
      unfold vp_V
      rw [List.getD_eq_getElem?_getD, xfs_get κ _ D hg]
      rfl
    rw [hv]
    generalize (xfk c).getD j 0 = cd
    match cd with
    | 0 => show Value.int 0 = Value.int (D.1 G.1 j); rw [hz1]
    | 1 => show Value.long 0 = Value.long (D.2 G.1 j); rw [hz2]
    | δ + 2 => show Value.null = (if G.2 G.1 j = true then _ else _); rw [hz3]; rfl
  · refine xfresh C h0 hroom hP1 hD1 (fun hq => ?_)
    subst hq
    rw [xWs_push κ (G' := (G.1 + 1, G.2)) D rfl rfl (by rw [xE, hk, if_pos h100])] at hP1
    exact xnext C hl h0 hroom hN hP1 hS1 kk
theorem x_newa {t : Nat} {at0 : Jvm.ClassFile.ArrayType} {n : Int32} (hw : xIn (.arrayClass (xat t))) (hat : newarray.typeOf at0 = xat t) (ht : t < 4) (hk : xk G.1 = 100 + t) (hn : ¬ n < 0) (hN : n.toNatClampNeg = xl G.1) (hsm : xl G.1 ≤ 60000000) (hz1 : D.1 G.1 = fun _ => 0) (hz2 : D.2 G.1 = fun _ => 0) (hroom : G.1 < E.1)
    (he : m.2.2.2.2.lookup pc = some (.newarray at0, 2)) (kk : xP d m (pc + 2) L (.ref G.1 :: st) (G.1 + 1, G.2) D E Q) : xP d m pc L (.int n :: st) G D E Q := by
  intro κ p l e R s mid args below meth c0 G0 C ls H locs hl hP hS h0 h1
  have hts := C.2.2.2.2.2.1
  have hEn : xEnv κ s := C.2.2.2.2.2.2.2.2.1
  have hA : ∀ q, s.heap.size ≤ q → κ.1 ≤ q := fun q hq => by
    have := C.2.2.2.2.2.2.2.2.2.1
    omega
  obtain ⟨q1, q2⟩ := xroom1 (G := G) C h0 hroom
  have h4 : t = 0 ∨ t = 1 ∨ t = 2 ∨ t = 3 := by omega
  refine va_newa (ty := xat t) (N' := xl G.1) (a0 := (xl G.1, xac κ G D G.1 t)) C.1 C.2.1 (by rw [hat]; exact hts _ hw.mem) hat hEn.1 hP (xWs_D κ hEn.2.2.2.2.1 (Nat.le_trans h1 C.2.2.2.2.2.2.2.2.2.2.2.2.2.2.2) D) hS hA (fun cA => ?_) hn hN ?_ q1 q2 (C.2.2.2.2.2.2.2.2.2.2.2.2.2.2.1.dec he) (fun q cA H1 hK1 hP1 hD1 hS1 => ?_)
  · rcases h4 with rfl | rfl | rfl | rfl
    · show vp_cell cA (xl G.1, .inl (D.1 G.1)) = _; rw [hz1]; rfl
    · show vp_cell cA (xl G.1, .inr (.inl (D.2 G.1))) = _; rw [hz2]; rfl
    · show vp_cell cA (xl G.1, .inl (D.1 G.1)) = _; rw [hz1]; rfl
    · show vp_cell cA (xl G.1, .inl (D.1 G.1)) = _; rw [hz1]; rfl
  · rcases h4 with rfl | rfl | rfl | rfl
    · show xl G.1 * 4 ≤ _; omega
    · show xl G.1 * 8 ≤ _; omega
    · show xl G.1 * 1 ≤ _; omega
    · show xl G.1 * 1 ≤ _; omega
  · have hcA : cA = κ.2.2.2.2.1 t := by
      have a1 := (hK1.2 6 (cA, xat t) (by simp)).2
      have a2 := (hEn.1.2 t _ (xTy κ (by omega))).2
      rcases h4 with rfl | rfl | rfl | rfl <;> exact Option.some.inj (a1.symm.trans a2)
    subst hcA
    refine xfresh C h0 hroom hP1 hD1 (fun hq => ?_)
    subst hq
    rw [xWs_push κ (G' := (G.1 + 1, G.2)) D rfl rfl (by rw [xE, hk, if_neg (by omega), show 100 + t - 100 = t by omega]; rfl)] at hP1
    exact xnext C hl h0 hroom rfl hP1 hS1 kk
theorem x_newq {t i : Nat} {Cn : String} {n : Int32} (hlk : xIn (.classLink m.1.cls i Cn)) (hat : xat t = .object Cn) (ht : t = 4 ∨ t = 5) (hk : xk G.1 = 100 + t) (hn : ¬ n < 0) (hN : n.toNatClampNeg = xl G.1) (hsm : xl G.1 ≤ 60000000) (hz3 : G.2 G.1 = fun _ => false) (hroom : G.1 < E.1)
    (he : m.2.2.2.2.lookup pc = some (.anewarray i, 3)) (kk : xP d m (pc + 3) L (.ref G.1 :: st) (G.1 + 1, G.2) D E Q) : xP d m pc L (.int n :: st) G D E Q := by
  intro κ p l e R s mid args below meth c0 G0 C ls H locs hl hP hS h0 h1
  have hts := C.2.2.2.2.2.1
  have hEn : xEnv κ s := C.2.2.2.2.2.2.2.2.1
  have hA : ∀ q, s.heap.size ≤ q → κ.1 ≤ q := fun q hq => by
    have := C.2.2.2.2.2.2.2.2.2.1
    omega
  obtain ⟨q1, q2⟩ := xroom1 (G := G) C h0 hroom
  have hAO : va_AO Cn s := by
    rcases ht with rfl | rfl
    · cases hat; exact hEn.2.2.1
    · cases hat; exact hEn.2.2.2.1
  refine va_newq C.1 C.2.1 C.2.2.2.2.1 (hts _ hlk.mem) hAO hEn.1 hP (xWs_D κ hEn.2.2.2.2.1 (Nat.le_trans h1 C.2.2.2.2.2.2.2.2.2.2.2.2.2.2.2) D) hS hA hn hN (by omega) q1 q2 (C.2.2.2.2.2.2.2.2.2.2.2.2.2.2.1.dec he) (fun q cA H1 hK1 hP1 hD1 hS1 => ?_)
  have hcA : cA = κ.2.2.2.2.1 t := by
    obtain ⟨_, _, _, _, _, a1⟩ := (hK1.2 6 (cA, .object Cn) (by simp)).2
    have a2 := (hEn.1.2 t _ (xTy κ (by omega))).2
    rw [hat] at a2
    obtain ⟨_, _, _, _, _, a2⟩ := a2
    exact Option.some.inj (a1.symm.trans a2)
  subst hcA
  refine xfresh C h0 hroom hP1 hD1 (fun hq => ?_)
  subst hq
  rw [xWs_push κ (G' := (G.1 + 1, G.2)) D rfl rfl (by
    rw [xE, hk, if_neg (by omega), show 100 + t - 100 = t by omega]
    rcases ht with rfl | rfl <;> simp [xac, hz3])] at hP1
  exact xnext C hl h0 hroom rfl hP1 hS1 kk
theorem x_copy {i a0 a : Nat} {sp dp n : Int32} (hlk : xIn (.methodLink m.1.cls i arraycopyName)) (hnat : (Cond.native arraycopyName) ∈ lw_tbl) (hstat : xIn (.static arraycopyName)) (hini : xIn (.initialized "java/lang/System")) (hc0 : xk a0 = 100) (hc : xk a = 100) (ha0 : a0 < G.1) (ha : a < G.1) (hd : 1 ≤ d)
    (h1 : ¬ sp < 0) (h2 : ¬ dp < 0) (h3 : ¬ n < 0) (h4 : sp.toNatClampNeg + n.toNatClampNeg ≤ xl a0) (h5 : dp.toNatClampNeg + n.toNatClampNeg ≤ xl a) (hW : (st.map fun v => v.category).sum ≤ 8) (he : m.2.2.2.2.lookup pc = some (.invokestatic i, 3)) (hgn : goodWord (Cond.native arraycopyName) = true)
    (kk : xP d m (pc + 3) L st G (fun i => if i = a then va_cpy (D.1 a0) (D.1 a) sp.toNatClampNeg dp.toNatClampNeg n.toNatClampNeg else D.1 i, D.2) E Q) : xP d m pc L (.int n :: .int dp :: .ref a :: .int sp :: .ref a0 :: st) G D E Q := by
  intro κ p l e R s mid args below meth c0 G0 C ls H locs hl hP hS h0 h9
  have hts := C.2.2.2.2.2.1
  have hEn : xEnv κ s := C.2.2.2.2.2.2.2.2.1
  have c1 := C.2.2.2.2.2.2.2.2.2.2.1
  have c2 := C.2.2.2.2.2.2.2.2.2.2.2.1
  have hcat : ((st.map (rv κ)).map fun v => v.category).sum ≤ 8 := by rw [xcats]; exact hW
  have hw : nativeFrameWords "java/lang/System" "arraycopy" 5 ≤ 40 := by decide
  refine va_copyi C.1 C.2.1 (C.2.2.2.1.trans hl.1.symm) C.2.2.2.2.1 (hts _ hlk.mem) (hts _ (List.mem_filter.mpr ⟨hnat, hgn⟩)) (hts _ hstat.mem) (hts _ hini.mem) hEn.1 hP (xWs_D κ hEn.2.2.2.2.1 (Nat.le_trans h9 C.2.2.2.2.2.2.2.2.2.2.2.2.2.2.2) D) hS a0 a 0 0 (xX_arr κ G D (t := 0) hc0 ha0) (xX_arr κ G D (t := 0) hc ha) (xTy κ (by decide)) (xTy κ (by decide)) rfl h1 h2 h3 h4 h5 (fun _ _ => rfl) (Nat.le_trans hd c1) (by omega) (C.2.2.2.2.2.2.2.2.2.2.2.2.2.2.1.dec he) (fun H1 locs1 hP1 _ hS1 => ?_)
  refine kk κ p l e R s mid args below meth c0 G0 C ls H1 locs1 hl ?_ hS1 h0 h9
  rw [xarr_set κ (G := G) (D := D) (t := 0) (G' := G) (D' := (fun i => if i = a then va_cpy (D.1 a0) (D.1 a) sp.toNatClampNeg dp.toNatClampNeg n.toNatClampNeg else D.1 i, D.2)) hc rfl (fun i hi => by simp [hi]) (fun _ _ => rfl) (fun _ _ => rfl) (by
    show _ = Sum.inl (if a = a then va_cpy (D.1 a0) (D.1 a) sp.toNatClampNeg dp.toNatClampNeg n.toNatClampNeg else D.1 a)
    rw [if_pos rfl])] at hP1
  exact hP1
end XB
