/-! The law's start, out of what the Statement gives; then the claim. -/
theorem nw_all : ∀ (c : Nat) (r : vw_C), xcl[c]? = some r → (∀ w ∈ u_ws r.1 r.2.1 r.2.2, w ∈ xtbl) ∧ xIn (.instantiable r.1 r.2.2) := by
  intro c r h
  have hl : c < 14 := (List.getElem?_eq_some_iff.mp h).1
  have key : ∀ n r0, xNw c n r0 → (∀ w ∈ u_ws r.1 r.2.1 r.2.2, w ∈ xtbl) ∧ xIn (.instantiable r.1 r.2.2) := by
    intro n r0 hw
    have e : r0 = r := Option.some.inj (hw.1.symm.trans h)
    subst e
    exact ⟨hw.2.1, hw.2.2.1⟩
  rcases (show c = 0 ∨ c = 1 ∨ c = 2 ∨ c = 3 ∨ c = 4 ∨ c = 5 ∨ c = 6 ∨ c = 7 ∨ c = 8 ∨ c = 9 ∨ c = 10 ∨ c = 11 ∨ c = 12 ∨ c = 13 by omega) with rfl | rfl | rfl | rfl | rfl | rfl | rfl | rfl | rfl | rfl | rfl | rfl | rfl | rfl
  · exact key _ _ nw_0
  · exact key _ _ nw_1
  · exact key _ _ nw_2
  · exact key _ _ nw_3
  · exact key _ _ nw_4
  · exact key _ _ nw_5
  · exact key _ _ nw_6
  · exact key _ _ nw_7
  · exact key _ _ nw_8
  · exact key _ _ nw_9
  · exact key _ _ nw_10
  · exact key _ _ nw_11
  · exact key _ _ nw_12
  · exact key _ _ nw_13
/-- where the references lie -/
def stA (h : Nat) (adK adV : Nat → Nat) (tf b : Nat) (i : Nat) : Nat := if i < 100000 then h + i else if i < 200000 then adK (i - 100000) else if i < 300000 then adV (i - 200000) else if i = 300000 then tf else b
theorem stA_K {h tf b : Nat} {adK adV : Nat → Nat} {i : Nat} (hi : i < 21) : stA h adK adV tf b (100000 + i) = adK i := by
  unfold stA
  rw [if_neg (by omega), if_pos (by omega), show 100000 + i - 100000 = i by omega]
theorem stA_V {h tf b : Nat} {adK adV : Nat → Nat} {i : Nat} (hi : i < 21) : stA h adK adV tf b (200000 + i) = adV i := by
  unfold stA
  rw [if_neg (by omega), if_neg (by omega), if_pos (by omega), show 200000 + i - 200000 = i by omega]
theorem lens_ok : ∀ i : Nat, i < 21 → xslens.getD i 0 < 2 ^ 31 := by decide +kernel
theorem arrs_ok {b : Nat} {s : State} (hts : ∀ w ∈ lw_tbl, w.before #[Value.ref b] s = true) : ∃ aC : Nat → ClassId, ∀ t, t < 6 → ArrOfT s (aC t) (xat t) ∧ va_RA s (aC t) (xat t) := by
  have prim : ∀ ty : FieldType, Cond.arrayClass ty ∈ lw_tbl → ∃ c, ArrOfT s c ty ∧ s.vm.findClass ("[" ++ ty.toString) = some c := by
    intro ty hw
    obtain ⟨c, k, comp, h1, h2, h3⟩ := Cond.arrayClass_spec (hts _ hw)
    exact ⟨c, fun n z => ⟨fun k h => (by cases h), k, h2, comp, h3⟩, h1⟩
  have obj : ∀ C : String, Cond.arrayOver (.object C) ∈ lw_tbl → ∃ c, ArrOfT s c (.object C) ∧ va_RA s c (.object C) := by
    intro C hw
    obtain ⟨comp, c, k, h1, -, h3, h4, h5⟩ := Cond.arrayOver_spec (hts _ hw)
    exact ⟨c, fun n z => ⟨fun k h => (by cases h), k, h3, comp, h4⟩, k, comp, h3, h4, h1, h5⟩
  have all : ∀ t : Nat, ∃ c : ClassId, t < 6 → ArrOfT s c (xat t) ∧ va_RA s c (xat t) := by
    intro t
    by_cases ht : t < 6
    · rcases (show t = 0 ∨ t = 1 ∨ t = 2 ∨ t = 3 ∨ t = 4 ∨ t = 5 by omega) with rfl | rfl | rfl | rfl | rfl | rfl
      · obtain ⟨c, h1, h2⟩ := prim .int wd_50.1
        exact ⟨c, fun _ => ⟨h1, h2⟩⟩
      · obtain ⟨c, h1, h2⟩ := prim .long wd_1764.1
        exact ⟨c, fun _ => ⟨h1, h2⟩⟩
      · obtain ⟨c, h1, h2⟩ := prim .byte wd_806.1
        exact ⟨c, fun _ => ⟨h1, h2⟩⟩
      · obtain ⟨c, h1, h2⟩ := prim .boolean wd_1765.1
        exact ⟨c, fun _ => ⟨h1, h2⟩⟩
      · obtain ⟨c, h1, h2⟩ := obj "SpoonShort$Told" wd_168
        exact ⟨c, fun _ => ⟨h1, h2⟩⟩
      · obtain ⟨c, h1, h2⟩ := obj "SpoonShort$Sheet" wd_52
        exact ⟨c, fun _ => ⟨h1, h2⟩⟩
    · exact ⟨0, fun h => absurd h ht⟩
  obtain ⟨f, hf⟩ := Classical.axiomOfChoice all
  exact ⟨f, hf⟩
theorem clss_ok {b : Nat} {s : State} (hts : ∀ w ∈ lw_tbl, w.before #[Value.ref b] s = true) : ∃ (dC : Nat → ClassId) (dI : Nat → Nat → Nat), ∀ (c : Nat) (q : vw_C), xcl[c]? = some q → u_Kn s q.1 q.2.1 q.2.2 (dC c) (dI c) := by
  have hx : ∀ w ∈ xtbl, w.before #[Value.ref b] s = true := fun w hw => hts w (List.mem_filter.mp hw).1
  have all : ∀ c : Nat, ∃ z : ClassId × (Nat → Nat), ∀ q : vw_C, xcl[c]? = some q → u_Kn s q.1 q.2.1 q.2.2 z.1 z.2 := by
    intro c
    cases hq : xcl[c]? with
    | none => exact ⟨(0, fun _ => 0), fun q h => by cases h⟩
    | some r =>
      obtain ⟨h1, h2⟩ := nw_all c r hq
      obtain ⟨cC, iS, h⟩ := u_known hx h1 (hts _ h2.1)
      exact ⟨(cC, iS), fun q e => by cases e; exact h⟩
  obtain ⟨f, hf⟩ := Classical.axiomOfChoice all
  exact ⟨fun c => (f c).1, fun c => (f c).2, hf⟩
theorem env_ok {b : Nat} {s : State} (hts : ∀ w ∈ lw_tbl, w.before #[Value.ref b] s = true) (hN : narrow_1.before #[Value.ref b] s = true) : ∃ κ : xK, xEnv κ s ∧ s.heap.size = κ.1 ∧ κ.2.1 400000 = b := by
  have hA : ∀ a : Nat, a < s.heap.size → ¬ s.heap.size ≤ a := fun a h => Nat.not_le.mpr h
  obtain ⟨adK, adV, hS, hE⟩ := vk_Sof (N := 21) (tm := stm) (len := xslens) (byt := xsbyts) (A := fun q => s.heap.size ≤ q) lens_ok (st_ex hN) (st_co hN) (st_ar hN) (st_le hN) (st_el hN) (fun i j hi hj hij => st_ne hN i hi j hj hij) hA
  have hF := va_Zqof (A := fun q => s.heap.size ≤ q) (hts _ wd_608) (hts _ wd_20.1) (nr_3 hN) hA
  have hC := va_Zof (A := fun q => s.heap.size ≤ q) (hts _ wd_592) (hts _ wd_18.1) (va_eqi (nr_2 hN)) hA
  obtain ⟨tf, hF⟩ : ∃ tf : Nat, va_Z "jdk/internal/util/Preconditions" "SIOOBE_FORMATTER" "Ljava/util/function/BiFunction;" .null (fun q => s.heap.size ≤ q) s s.heap ∨ va_Z "jdk/internal/util/Preconditions" "SIOOBE_FORMATTER" "Ljava/util/function/BiFunction;" (.ref tf) (fun q => s.heap.size ≤ q) s s.heap := by
    rcases hF with h | ⟨t, h⟩
    · exact ⟨0, Or.inl h⟩
    · exact ⟨t, Or.inr h⟩
  obtain ⟨aC, hAr⟩ := arrs_ok hts
  obtain ⟨dC, dI, hKc⟩ := clss_ok hts
  refine ⟨(s.heap.size, stA s.heap.size adK adV tf b, fun _ => 0, 0, aC, (dC, dI)), ⟨⟨hKc, fun k q hq => ?_⟩, fun w hw => va_Nw.of (xNs_tab hw) (hts _ hw.1), va_AO.of (hts _ wd_168), va_AO.of (hts _ wd_52), fun i hi => if_pos hi, fun q hq => ?_, ?_, hC, hF⟩, rfl, rfl⟩
  · have hk : k < 6 := by
      have := (List.getElem?_eq_some_iff.mp hq).1
      simpa using this
    have hq : ((List.range 6).map (fun t => (aC t, xat t)))[k]? = some q := hq
    rw [List.getElem?_map, List.getElem?_range hk] at hq
    cases hq
    exact hAr k hk
  · obtain ⟨h1, h2, h3⟩ := st_ref q hq
    refine vk_R.of (hts _ h1) ?_
    have := hE q.2.2 h2
    unfold stm at this
    rw [h3] at this
    show (Term.string "SpoonShort$Reader" q.1).eval _ s none [] s = some (.ref (stA s.heap.size adK adV tf b (100000 + q.2.2)))
    rw [stA_K h2]
    exact this
  · show vk_S 21 xslens xsbyts (fun k => stA s.heap.size adK adV tf b (100000 + k)) (fun k => stA s.heap.size adK adV tf b (200000 + k)) (fun q => s.heap.size ≤ q) s s.heap
    refine ⟨fun i hi => ?_, fun i j hi hj e => ?_⟩
    · have h := hS.1 i hi
      rw [← stA_K (h := s.heap.size) (tf := tf) (b := b) (adV := adV) (adK := adK) hi, ← stA_V (h := s.heap.size) (tf := tf) (b := b) (adV := adV) (adK := adK) hi] at h
      exact h
    · have e : stA s.heap.size adK adV tf b (100000 + i) = stA s.heap.size adK adV tf b (100000 + j) := e
      rw [stA_K hi, stA_K hj] at e
      exact hS.2 i j hi hj e
theorem whole_start {p : Program} {e : Env} {s : State} {m : MethodId} {below : List Frame} {meth : Method} {c : Code} (l : Launch) (hflags : l.flags = flags0) {b L : Nat} {xs : Nat → Int32} (hL : L ≤ 4096) (C0 : lw_At p s m meth c b L xs) : W p l e room_1 s m #[Value.ref b] below meth c s.heap [] 0 0 (lw_Z below #[Value.ref b] s) (entryFrame m ([Value.ref b] : List Value).toArray 4) := by
  obtain ⟨hx, hb, hr, hml, hown, hts, hX, hbl, hlocks, hgv⟩ := id C0
  obtain ⟨κ, hEn, hz, h4⟩ := env_ok hts (an2 hgv)
  have hl := lv_entry ([.ref b]) (n := 4) (Nat.le_of_ble_eq_true rfl)
  rw [lg_entry_eq]
  generalize (lg_sl ([.ref b]) ++ List.replicate (4 - (lg_sl ([.ref b])).length) Slot.unset).toArray = ls at hl ⊢
  have hl : lv_has ls 4 [(0, .ref b)] := hl
  have C : lC κ p s m meth c b L xs := ⟨hx, hb, hr, hml, hown, fun w hw => hts w (List.mem_filter.mp hw).1, hlocks, hEn, hz, hX, hbl, h4, hL⟩
  have hl2 : lv_has ls 4 (([(0, .ref 400000)] : List (Nat × Value)).map (fun q => (q.1, rv κ q.2))) := by
    show lv_has ls 4 [(0, .ref (κ.2.1 400000))]
    rw [h4]
    exact hl
  exact lw_begin (l := l) (e := e) (below := below) C ls s.heap [] hl2 (fun k q h => by simp [xWs] at h) va_S.rf
set_option maxHeartbeats 4000000 in
theorem lw_walk (l : Launch) (hflags : l.flags = flags0) (b : Addr) (xs : List Int32) : MetFree l x (headSpec (Jvm.Cond.code x code maxLocals ret :: tables_1) room_1) (lw_P b xs) (fun _ _ _ _ _ => True) lw_Q := by
  refine MetFree.of_bodyS (code := code) (maxLocals := maxLocals) (ret := ret) (by decide) ?_ ?_
  · intro args s m h hn
    obtain ⟨meth, c, h1, h2, h3, h4, h5, h6, -, -⟩ := Cond.code_spec hn (atoms_spec (ws := Jvm.Cond.code x code maxLocals ret :: tables_1) h _ List.mem_cons_self)
    exact ⟨meth, c, h1, h2, h3, h4, h5, h6⟩
  · intro p e s m args below meth c s₁ B hml0 hP _
    obtain ⟨rfl, hx, hbd, hgv⟩ := hP
    obtain ⟨scr, harrAt, hlist, hof, hsmall⟩ := hx
    obtain ⟨hcb, hkn, -, -⟩ := State.arrayAt?_spec harrAt
    have hown : s.vm.findClass R_law = some m.cls := findClass_of_methodNamed B.named
    have hts0 : ∀ c ∈ (Jvm.Cond.code x code maxLocals ret :: tables_1), c.before #[Value.ref b] s = true := atoms_spec (ws := Jvm.Cond.code x code maxLocals ret :: tables_1) B.pre
    have hts : ∀ w ∈ lw_tbl, w.before #[Value.ref b] s = true := k2_hts_sels lw_privs (fun w hw => hts0 w (List.mem_cons_of_mem _ hw)) lw_privs_ok
    have hml : c.maxLocals = 4 := B.maxLocals_eq (hts0 _ List.mem_cons_self)
    have X₀ : Stand p l e room_1 s m #[Value.ref b] below meth c s₁ [] 0 0 := Stand.of_body B
    have hh0 : s₁.heap = s.heap := by rw [B.state]; rfl
    have hsz : scr.slots.size = xs.length := by rw [← Array.length_toList, hlist, List.length_map]
    have hval : ∀ j : Nat, j < xs.length → scr.slots[j]? = some (.int (xs.getD j 0)) := fun j hj => by
      rw [← Array.getElem?_toList, hlist]
      simp [hj]
    have hbl : b < s.heap.size := (Array.getElem?_eq_some_iff.mp hcb).1
    have hX : va_X b xs.length (fun j => xs.getD j 0) s s.heap := ⟨scr, hcb, hof, hkn, hsz, hval⟩
    have K : W p l e room_1 s m #[Value.ref b] below meth c s₁.heap [] 0 0 (lw_Z below #[Value.ref b] s) (entryFrame m ([Value.ref b] : List Value).toArray 4) := by
      rw [hh0]
      exact whole_start l hflags hbd ⟨B.exec, B.bytes, B.returns, hml, hown, hts, hX, hbl, B.notSynchronized, hgv⟩
    obtain ⟨t, a1, o, b1, b2, b3⟩ := K s₁ rfl X₀
    exact ⟨t, o, a1, b1, b2, b3⟩
theorem lw_pre_spec {args : Array Value} {s : State} (h : (Jvm.Cond.and given_1 narrow_1).before args s = true) (hr : rest_1_c.before args s = true) : ∃ (b : Addr) (xs : List Int32), lw_P b xs args s := by
  have hs := flat_of_before _ h
  have hq := flat_of_before _ hr
  have hc : (Cond.count 1).before args s = true := hs _ (by decide +kernel)
  have harr : (Cond.arrayOf (.arg 0) .int).before args s = true := hs _ (by decide +kernel)
  have hle : (Cond.le (.length (.arg 0)) (.int 4096)).before args s = true := hs _ (by decide +kernel)
  have hlen : (Cond.isInt (.length (.arg 0))).before args s = true := hq _ (by decide +kernel)
  have hall : (Cond.all (.arg 0) (.isInt (.elem (.arg 0) (.index 0)))).before args s = true := hq _ (by decide +kernel)
  obtain ⟨b, xs, hb, hx⟩ := State.ints_of_pre rfl harr hlen hall
  have hsm : xs.length < 2 ^ 31 := hx.choose_spec.2.2.2
  have hev : (Term.length (.arg 0)).eval args s none [] s = some (.int xs.length.toInt32) := hx.length_eval hb
  have hv := Cond.le_ints hev (show (Term.int 4096).eval args s none [] s = some (.int 4096) from rfl)
  have hd : xs.length.toInt32 ≤ 4096 := by
    simpa [Cond.before, Cond.holds, hv] using hle
  have hN : xs.length ≤ 4096 := (Int32.ofNat_le_ofNat hsm (by decide)).mp (show Int32.ofNat xs.length ≤ Int32.ofNat 4096 from hd)
  exact ⟨b, xs, Cond.one_arg hc (show args[0]? = some (.ref b) from hb), hx, hN, h⟩
theorem lw_comes (l : Launch) (hflags : l.flags = flags0) : Comes l x (Jvm.Cond.code x code maxLocals ret :: tables_1) room_1 (fun tb e args s => Calls_1 tb e args s ∧ rest_1 tb e args s ∧ Pre_1 tb e args s)
    (fun _ _ args s o t => lw_Q args s o t) := by
  intro p e ha hc hk s m args below hf hfit hheap happ hpre
  obtain ⟨b, xs, hP⟩ := lw_pre_spec hpre.2.2 hpre.2.1
  obtain ⟨k, o, h1, h2, h3, hQ⟩ := lw_walk l hflags b xs p e ha hc hk s m args below hf ((Spec.applies_iff_loose hf).mp happ).1 hP trivial
  exact ⟨k, o, h1, h2, h3, hQ⟩
theorem lw_frame {s t : State} {o : Outcome} {args : Array Value} (h : Framed s o t [] 600000 7302250) :
    Framed s o t (fieldLocs frame_1_writes args s ++ arrayLocs frame_1_arrays args s ++ staticLocs frame_1_statics s) 600000 7302250 := h
theorem lw_limb (L : Cond) (hL : ∀ (args : Array Value) (s t : State), L.after args s (.returned (some (.int 1))) t = true) :
    ArmFor flags0 classFile x code maxLocals ret World_1 tables_1 room_1 Calls_1 rest_1 Pre_1
      (fun tb e a s o t => postC L tb e a s o t ∧ Framed s o t (fieldLocs frame_1_writes a s ++ arrayLocs frame_1_arrays a s ++ staticLocs frame_1_statics s) 600000 7302250) := by
  intro l hflags _ _ p e ha hc hk s m args below hf hfit hheap happ hpre
  obtain ⟨k, o, h1, h2, h3, rfl, hF⟩ := lw_comes l hflags p e ha hc hk s m args below hf hfit hheap happ hpre
  exact ⟨k, _, h1, h2, h3, hL args s _, lw_frame hF⟩
theorem i_vc : Claimed_1_1 ∧ Claimed_1_2 := ⟨lw_limb limb_1_1 (fun args s t => by simp [limb_1_1, Cond.after, Cond.holds, Cond.value]), lw_limb limb_1_2 (fun args s t => Cond.after_iff.mpr (by
  first | (rw [show limb_1_2 = Cond.eq .result (.int 1) from rfl, Cond.eq_ints (x := 1) (y := 1) rfl rfl]; simp; done) | (simp [limb_1_2, Cond.value, Term.eval]; done)))⟩
