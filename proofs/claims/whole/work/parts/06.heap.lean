/-! Rows that read and write the world. -/
def xLf (own : String) (i c k : Nat) : Prop := ∃ r : vw_C, xcl[c]? = some r ∧ k < r.2.2 ∧ (∀ w ∈ u_ws r.1 r.2.1 r.2.2, w ∈ xtbl) ∧
  (xIn (.fieldLink own i (r.2.1 k).1 (r.2.1 k).2.1 (r.2.1 k).2.2.1) ∨ ∃ host, xNs (.fieldLinkNest own i (r.2.1 k).1 (r.2.1 k).2.1 (r.2.1 k).2.2.1 host))
def xLp (own : String) (i c k : Nat) (ty : FieldType) : Prop := ∃ (r : vw_C) (ty0 : Nat → FieldType), xcl[c]? = some r ∧ k < r.2.2 ∧ (∀ w ∈ u_ws r.1 r.2.1 r.2.2, w ∈ xtbl) ∧
  (∀ k, k < r.2.2 → parseFieldDescriptor (r.2.1 k).2.2.1 = some (ty0 k)) ∧ (∀ a, a < r.2.2 → ∀ b, b < r.2.2 → a ≠ b → (r.2.1 a).2.1 ≠ (r.2.1 b).2.1) ∧ parseFieldDescriptor (r.2.1 k).2.2.1 = some ty ∧
  (((r.2.1 k).2.2.2 = false ∧ (xIn (.fieldLink own i (r.2.1 k).1 (r.2.1 k).2.1 (r.2.1 k).2.2.1) ∨ ∃ host, xNs (.fieldLinkNest own i (r.2.1 k).1 (r.2.1 k).2.1 (r.2.1 k).2.2.1 host))) ∨
   ((r.2.1 k).2.2.2 = true ∧ (r.2.1 k).1 = own ∧ xIn (.fieldLink own i (r.2.1 k).1 (r.2.1 k).2.1 (r.2.1 k).2.2.1)))
theorem xX_obj (κ : xK) (G : xG) (D : xD) {a c : Nat} (hc : xk a = c) (h : c < 100) (ha : a < G.1) : (xWs κ G D)[a]? = some (κ.2.1 a, .inr (c, xfs κ G D a)) := by
  rw [xWs_get κ G D ha, xE, hc, if_pos h]
theorem xX_arr (κ : xK) (G : xG) (D : xD) {a t : Nat} (hc : xk a = 100 + t) (ha : a < G.1) : (xWs κ G D)[a]? = some (κ.2.1 a, .inl (κ.2.2.2.2.1 t, xl a, xac κ G D a t)) := by
  rw [xWs_get κ G D ha, xE, hc, if_neg (by omega), show 100 + t - 100 = t by omega]
theorem xTy (κ : xK) {t : Nat} (h : t < 6) : ((List.range 6).map (fun t => (κ.2.2.2.2.1 t, xat t)))[t]? = some (κ.2.2.2.2.1 t, xat t) := by
  simp [h]
section XH
variable {d : Nat} {m : xM} {pc : Nat} {L : List (Nat × Value)} {st : List Value} {G E : xG} {D : xD} {Q : Option Value → xD → Prop}
theorem x_get {c k i a cd : Nat} {v : Value} (hlk : xLf m.1.cls i c k) (hc : xk a = c) (h100 : c < 100) (hf : (xfk c)[k]? = some cd) (hv : ∀ κ, xfv κ G D a k cd = rv κ v) (ha : a < G.1) (he : m.2.2.2.2.lookup pc = some (.getfield i, 3)) (kk : xP d m (pc + 3) L (v :: st) G D E Q) : xP d m pc L (.ref a :: st) G D E Q := by
  intro κ p l e R s mid args below meth c0 G0 C ls H locs hl hP hS h0 h1
  obtain ⟨r, hr, hk, hin, hlink⟩ := hlk
  have hX := xX_obj κ G D hc h100 ha
  have hvv : (xfs κ G D a)[k]? = some (rv κ v) := by rw [← hv κ]; exact xfs_get κ G D (by rw [hc]; exact hf)
  have hts := C.2.2.2.2.2.1
  have hE : xEnv κ s := C.2.2.2.2.2.2.2.2.1
  have hdec := (C.2.2.2.2.2.2.2.2.2.2.2.2.2.2.1.dec he)
  rcases hlink with h | ⟨host, h⟩
  · exact va_get C.1 C.2.1 hts hin C.2.2.2.2.1 hE.1 hP a hX hr k hk (hts _ h.mem) (fun _ q => q) hvv hdec (kk κ p l e R s mid args below meth c0 G0 C ls H locs hl hP hS h0 h1)
  · exact va_getN C.1 C.2.1 hts hin C.2.2.2.2.1 hE.1 hP a hX hr k hk (va_Nw.use (xNs_tab h) (hE.2.1 _ h)) (fun _ q => q) hvv hdec (kk κ p l e R s mid args below meth c0 G0 C ls H locs hl hP hS h0 h1)
theorem x_getI {c k i a : Nat} (hlk : xLf m.1.cls i c k) (hc : xk a = c) (h100 : c < 100) (hf : (xfk c)[k]? = some 0) (ha : a < G.1) (he : m.2.2.2.2.lookup pc = some (.getfield i, 3)) (kk : xP d m (pc + 3) L (.int (D.1 a k) :: st) G D E Q) : xP d m pc L (.ref a :: st) G D E Q :=
  x_get hlk hc h100 hf (fun _ => rfl) ha he kk
theorem x_getL {c k i a : Nat} (hlk : xLf m.1.cls i c k) (hc : xk a = c) (h100 : c < 100) (hf : (xfk c)[k]? = some 1) (ha : a < G.1) (he : m.2.2.2.2.lookup pc = some (.getfield i, 3)) (kk : xP d m (pc + 3) L (.long (D.2 a k) :: st) G D E Q) : xP d m pc L (.ref a :: st) G D E Q :=
  x_get hlk hc h100 hf (fun _ => rfl) ha he kk
theorem x_getR {c k i a δ : Nat} (hlk : xLf m.1.cls i c k) (hc : xk a = c) (h100 : c < 100) (hf : (xfk c)[k]? = some (δ + 2)) (hρ : G.2 a k = true) (ha : a < G.1) (he : m.2.2.2.2.lookup pc = some (.getfield i, 3)) (kk : xP d m (pc + 3) L (.ref (a + δ) :: st) G D E Q) : xP d m pc L (.ref a :: st) G D E Q :=
  x_get hlk hc h100 hf (fun κ => by show (if G.2 a k = true then Value.ref (κ.2.1 (a + δ)) else Value.null) = _; rw [if_pos hρ]; rfl) ha he kk
theorem x_put {c k i a cd : Nat} {v : Value} {ty : FieldType} {G' : xG} {D' : xD} (hlk : xLp m.1.cls i c k ty) (hini : m.1.name = "<init>" ∨ ∀ r, xcl[c]? = some r → (r.2.1 k).2.2.2 = false) (hc : xk a = c) (h100 : c < 100) (hf : (xfk c)[k]? = some cd) (ha : a < G.1)
    (hn : ∀ κ, narrow ty (rv κ v) = rv κ v ∧ fits ty (rv κ v) = true) (hG : G'.1 = G.1) (hv : ∀ κ, rv κ v = xfv κ G' D' a k cd) (ho : ∀ κ j, j ≠ k → ∀ c, xfv κ G' D' a j c = xfv κ G D a j c) (hE : ∀ κ i, i ≠ a → xE κ G' D' i = xE κ G D i)
    (he : m.2.2.2.2.lookup pc = some (.putfield i, 3)) (kk : xP d m (pc + 3) L st G' D' E Q) : xP d m pc L (v :: .ref a :: st) G D E Q := by
  intro κ p l e R s mid args below meth c0 G0 C ls H locs hl hP hS h0 h1
  obtain ⟨r, ty0, hr, hk, hin, hty, hnm, hd, hlink⟩ := hlk
  have hX := xX_obj κ G D hc h100 ha
  have hts := C.2.2.2.2.2.1
  have hEn : xEnv κ s := C.2.2.2.2.2.2.2.2.1
  have hdec := (C.2.2.2.2.2.2.2.2.2.2.2.2.2.2.1.dec he)
  have hD := xWs_D κ hEn.2.2.2.2.1 (Nat.le_trans h1 C.2.2.2.2.2.2.2.2.2.2.2.2.2.2.2) D
  have hset : (xWs κ G D).set a (κ.2.1 a, .inr (c, (xfs κ G D a).set k (rv κ v))) = xWs κ G' D' := by
    refine xWs_set κ (hE κ) hG ?_
    rw [xE, hc, if_pos h100, xfs_set κ (by rw [hc]; exact hf) (hv κ) (ho κ)]
  have hl2 : k < (xfs κ G D a).length := by rw [xfs_len, hc]; exact (List.getElem?_eq_some_iff.mp hf).1
  have go : ∀ (H1 : Heap) (locs1 : List Loc), va_P κ.2.2.2.2.2 xcl ((xWs κ G D).set a (κ.2.1 a, .inr (c, (xfs κ G D a).set k (rv κ v)))) H1 → va_D (fun q => κ.1 ≤ q) ((xWs κ G D).set a (κ.2.1 a, .inr (c, (xfs κ G D a).set k (rv κ v)))) → va_S (fun q => κ.1 ≤ q) s.heap H1 locs1 → W p l e R s mid args below meth c0 H1 locs1 (G.1 - G0.1) (xS G.1 - xS G0.1) (MQ below (xQ κ E Q) args s (E.1 - G0.1) (xS E.1 - xS G0.1) (fun q => κ.1 ≤ q)) (F0 mid (pc + 3) ls (st.map (rv κ))) := by
    intro H1 locs1 hP1 _ hS1
    rw [hset] at hP1
    have := kk κ p l e R s mid args below meth c0 G0 C ls H1 locs1 hl hP1 hS1 (by omega) (by omega)
    rw [hG] at this
    exact this
  rcases hlink with ⟨hfin, h | ⟨host, h⟩⟩ | ⟨hfin, hown, h⟩
  · exact va_put C.1 C.2.1 hts hin ty0 hty hnm C.2.2.2.2.1 hEn.1 hP hD hS a hX hr k hk (hts _ h.mem) (fun _ q => q) hfin hd (hn κ).1 (hn κ).2 hl2 hdec go
  · exact va_putN C.1 C.2.1 hts hin ty0 hty hnm C.2.2.2.2.1 hEn.1 hP hD hS a hX hr k hk (va_Nw.use (xNs_tab h) (hEn.2.1 _ h)) (fun _ q => q) hfin hd (hn κ).1 (hn κ).2 hl2 hdec go
  · have hi : m.1.name = "<init>" := by
      rcases hini with h | h
      · exact h
      · have := h r hr
        rw [hfin] at this
        cases this
    exact va_putF C.1 C.2.1 hts hin ty0 hty hnm C.2.2.2.2.1 hEn.1 hP hD hS a hX hr k hk (hts _ h.mem) (fun _ q => q) hfin (C.2.2.2.2.2.2.2.1 hi) hown hd (hn κ).1 (hn κ).2 hl2 hdec go
theorem xE_other {κ : xK} {G G' : xG} {D D' : xD} {a : Nat} (h1 : ∀ i, i ≠ a → D'.1 i = D.1 i) (h2 : ∀ i, i ≠ a → D'.2 i = D.2 i) (h3 : ∀ i, i ≠ a → G'.2 i = G.2 i) : ∀ i, i ≠ a → xE κ G' D' i = xE κ G D i := fun i hi => xE_at κ (h1 i hi) (h2 i hi) (h3 i hi)
theorem x_putI {c k i a : Nat} {x : Int32} {ty : FieldType} (hlk : xLp m.1.cls i c k ty) (hini : m.1.name = "<init>" ∨ ∀ r, xcl[c]? = some r → (r.2.1 k).2.2.2 = false) (hc : xk a = c) (h100 : c < 100) (hf : (xfk c)[k]? = some 0) (ha : a < G.1)
    (hn : narrow ty (.int x) = .int x ∧ fits ty (.int x) = true) (he : m.2.2.2.2.lookup pc = some (.putfield i, 3)) (kk : xP d m (pc + 3) L st G (xu D.1 a k x, D.2) E Q) : xP d m pc L (.int x :: .ref a :: st) G D E Q := by
  refine x_put (v := .int x) (D' := (xu D.1 a k x, D.2)) hlk hini hc h100 hf ha (fun _ => hn) rfl (fun κ => ?_) (fun κ j hj cc => ?_) (fun κ => xE_other (fun i hi => xu_ne _ _ _ hi) (fun _ _ => rfl) (fun _ _ => rfl)) he kk
  · show Value.int x = Value.int (xu D.1 a k x a k)
    rw [xu_self]
    simp [upd]
  · unfold xfv
    split <;> simp [xu, upd, hj]
theorem x_putL {c k i a : Nat} {x : Int64} {ty : FieldType} (hlk : xLp m.1.cls i c k ty) (hini : m.1.name = "<init>" ∨ ∀ r, xcl[c]? = some r → (r.2.1 k).2.2.2 = false) (hc : xk a = c) (h100 : c < 100) (hf : (xfk c)[k]? = some 1) (ha : a < G.1)
    (hn : narrow ty (.long x) = .long x ∧ fits ty (.long x) = true) (he : m.2.2.2.2.lookup pc = some (.putfield i, 3)) (kk : xP d m (pc + 3) L st G (D.1, xuL D.2 a k x) E Q) : xP d m pc L (.long x :: .ref a :: st) G D E Q := by
  refine x_put (v := .long x) (D' := (D.1, xuL D.2 a k x)) hlk hini hc h100 hf ha (fun _ => hn) rfl (fun κ => ?_) (fun κ j hj cc => ?_) (fun κ => xE_other (fun _ _ => rfl) (fun i hi => xuL_ne _ _ _ hi) (fun _ _ => rfl)) he kk
  · show Value.long x = Value.long (xuL D.2 a k x a k)
    rw [xuL_self]
    simp [vp_updL]
  · unfold xfv
    split <;> simp [xuL, vp_updL, hj]
theorem xuR_ne (ρ : Nat → Nat → Bool) {a i : Nat} (k : Nat) (h : i ≠ a) : xuR ρ a k i = ρ i := by funext j; simp [xuR, h]
theorem x_putR {c k i a δ : Nat} {ty : FieldType} (hlk : xLp m.1.cls i c k ty) (hini : m.1.name = "<init>") (hc : xk a = c) (h100 : c < 100) (hf : (xfk c)[k]? = some (δ + 2)) (ha : a < G.1)
    (hn : ∀ z, narrow ty (.ref z) = .ref z ∧ fits ty (.ref z) = true) (he : m.2.2.2.2.lookup pc = some (.putfield i, 3)) (kk : xP d m (pc + 3) L st (G.1, xuR G.2 a k) D E Q) : xP d m pc L (.ref (a + δ) :: .ref a :: st) G D E Q := by
  refine x_put (v := .ref (a + δ)) (G' := (G.1, xuR G.2 a k)) (D' := D) hlk (Or.inl hini) hc h100 hf ha (fun κ => hn _) rfl (fun κ => ?_) (fun κ j hj cc => ?_) (fun κ => xE_other (fun _ _ => rfl) (fun _ _ => rfl) (fun i hi => xuR_ne _ _ hi)) he kk
  · unfold xfv
    simp [xuR, rv]
  · unfold xfv
    split <;> simp [xuR, hj]
-- arrays
theorem x_iald {a : Nat} {j : Int32} (hc : xk a = 100) (ha : a < G.1) (hin : vp_in j (xl a)) (he : m.2.2.2.2.lookup pc = some (.iaload, 1)) (kk : xP d m (pc + 1) L (.int (D.1 a j.toNatClampNeg) :: st) G D E Q) : xP d m pc L (.int j :: .ref a :: st) G D E Q := by
  intro κ p l e R s mid args below meth c0 G0 C ls H locs hl hP hS h0 h1
  exact va_iald C.1 C.2.1 C.2.2.2.2.2.2.2.2.1.1 hP a 0 (xX_arr κ G D (t := 0) hc ha) (xTy κ (by decide)) hin (C.2.2.2.2.2.2.2.2.2.2.2.2.2.2.1.dec he) (kk κ p l e R s mid args below meth c0 G0 C ls H locs hl hP hS h0 h1)
theorem x_bald {a : Nat} {j : Int32} (hc : xk a = 102) (ha : a < G.1) (hin : vp_in j (xl a)) (he : m.2.2.2.2.lookup pc = some (.baload, 1)) (kk : xP d m (pc + 1) L (.int (D.1 a j.toNatClampNeg) :: st) G D E Q) : xP d m pc L (.int j :: .ref a :: st) G D E Q := by
  intro κ p l e R s mid args below meth c0 G0 C ls H locs hl hP hS h0 h1
  exact va_bald C.1 C.2.1 C.2.2.2.2.2.2.2.2.1.1 hP a 2 (xX_arr κ G D (t := 2) hc ha) (xTy κ (by decide)) hin (C.2.2.2.2.2.2.2.2.2.2.2.2.2.2.1.dec he) (kk κ p l e R s mid args below meth c0 G0 C ls H locs hl hP hS h0 h1)
theorem x_zald {a : Nat} {j : Int32} (hc : xk a = 103) (ha : a < G.1) (hin : vp_in j (xl a)) (he : m.2.2.2.2.lookup pc = some (.baload, 1)) (kk : xP d m (pc + 1) L (.int (D.1 a j.toNatClampNeg) :: st) G D E Q) : xP d m pc L (.int j :: .ref a :: st) G D E Q := by
  intro κ p l e R s mid args below meth c0 G0 C ls H locs hl hP hS h0 h1
  exact va_zald C.1 C.2.1 C.2.2.2.2.2.2.2.2.1.1 hP a 3 (xX_arr κ G D (t := 3) hc ha) (xTy κ (by decide)) hin (C.2.2.2.2.2.2.2.2.2.2.2.2.2.2.1.dec he) (kk κ p l e R s mid args below meth c0 G0 C ls H locs hl hP hS h0 h1)
theorem x_lald {a : Nat} {j : Int32} (hc : xk a = 101) (ha : a < G.1) (hin : vp_in j (xl a)) (he : m.2.2.2.2.lookup pc = some (.laload, 1)) (kk : xP d m (pc + 1) L (.long (D.2 a j.toNatClampNeg) :: st) G D E Q) : xP d m pc L (.int j :: .ref a :: st) G D E Q := by
  intro κ p l e R s mid args below meth c0 G0 C ls H locs hl hP hS h0 h1
  exact va_lald C.1 C.2.1 C.2.2.2.2.2.2.2.2.1.1 hP a 1 (xX_arr κ G D (t := 1) hc ha) (xTy κ (by decide)) hin (C.2.2.2.2.2.2.2.2.2.2.2.2.2.2.1.dec he) (kk κ p l e R s mid args below meth c0 G0 C ls H locs hl hP hS h0 h1)
theorem x_aald {a t : Nat} {j : Int32} (hc : xk a = 100 + t) (ht : t = 4 ∨ t = 5) (hρ : G.2 a j.toNatClampNeg = true) (ha : a < G.1) (hin : vp_in j (xl a)) (he : m.2.2.2.2.lookup pc = some (.aaload, 1)) (kk : xP d m (pc + 1) L (.ref (a + 1 + j.toNatClampNeg * xw t) :: st) G D E Q) : xP d m pc L (.int j :: .ref a :: st) G D E Q := by
  intro κ p l e R s mid args below meth c0 G0 C ls H locs hl hP hS h0 h1
  have hX := xX_arr κ G D hc ha
  have hk := kk κ p l e R s mid args below meth c0 G0 C ls H locs hl hP hS h0 h1
  have hx : xac κ G D a t = .inr (.inr (.inr (.inr (fun k => if G.2 a k = true then some (κ.2.1 (a + 1 + k * xw t)) else none)))) := by
    rcases ht with rfl | rfl <;> rfl
  rw [hx] at hX
  rcases ht with rfl | rfl
  · refine va_aldq C.1 C.2.1 C.2.2.2.2.2.2.2.2.1.1 hP a 4 hX (xTy κ (by decide)) hin (C.2.2.2.2.2.2.2.2.2.2.2.2.2.2.1.dec he) ?_
    rw [if_pos hρ]
    exact hk
  · refine va_aldq C.1 C.2.1 C.2.2.2.2.2.2.2.2.1.1 hP a 5 hX (xTy κ (by decide)) hin (C.2.2.2.2.2.2.2.2.2.2.2.2.2.2.1.dec he) ?_
    rw [if_pos hρ]
    exact hk
theorem x_alen {a t : Nat} {v : Int32} (hc : xk a = 100 + t) (ht : t < 6) (ha : a < G.1) (hv : Int32.ofNat (xl a) = v) (he : m.2.2.2.2.lookup pc = some (.arraylength, 1)) (kk : xP d m (pc + 1) L (.int v :: st) G D E Q) : xP d m pc L (.ref a :: st) G D E Q := by
  intro κ p l e R s mid args below meth c0 G0 C ls H locs hl hP hS h0 h1
  exact va_alen C.1 C.2.1 C.2.2.2.2.2.2.2.2.1.1 hP a t (xX_arr κ G D hc ha) (xTy κ ht) hv (C.2.2.2.2.2.2.2.2.2.2.2.2.2.2.1.dec he) (kk κ p l e R s mid args below meth c0 G0 C ls H locs hl hP hS h0 h1)
theorem xarr_set (κ : xK) {G G' : xG} {D D' : xD} {a t : Nat} (hc : xk a = 100 + t) (hn : G'.1 = G.1) (h1 : ∀ i, i ≠ a → D'.1 i = D.1 i) (h2 : ∀ i, i ≠ a → D'.2 i = D.2 i) (h3 : ∀ i, i ≠ a → G'.2 i = G.2 i) {x : (Nat → Int32) ⊕ (Nat → Int64) ⊕ (Nat → UInt32) ⊕ (Nat → UInt64) ⊕ (Nat → Option Nat)} (hx : x = xac κ G' D' a t) :
    (xWs κ G D).set a (κ.2.1 a, .inl (κ.2.2.2.2.1 t, xl a, x)) = xWs κ G' D' := by
  refine xWs_set κ (xE_other h1 h2 h3) hn ?_
  rw [xE, hc, if_neg (by omega), show 100 + t - 100 = t by omega, hx]
theorem x_iast {a : Nat} {j x : Int32} (hc : xk a = 100) (ha : a < G.1) (hin : vp_in j (xl a)) (he : m.2.2.2.2.lookup pc = some (.iastore, 1)) (kk : xP d m (pc + 1) L st G (xu D.1 a j.toNatClampNeg x, D.2) E Q) : xP d m pc L (.int x :: .int j :: .ref a :: st) G D E Q := by
  intro κ p l e R s mid args below meth c0 G0 C ls H locs hl hP hS h0 h1
  have hEn : xEnv κ s := C.2.2.2.2.2.2.2.2.1
  refine va_iast C.1 C.2.1 hEn.1 hP (xWs_D κ hEn.2.2.2.2.1 (Nat.le_trans h1 C.2.2.2.2.2.2.2.2.2.2.2.2.2.2.2) D) hS a 0 (xX_arr κ G D (t := 0) hc ha) (xTy κ (by decide)) hin (C.2.2.2.2.2.2.2.2.2.2.2.2.2.2.1.dec he) (fun H1 locs1 hP1 _ hS1 => ?_)
  refine kk κ p l e R s mid args below meth c0 G0 C ls H1 locs1 hl ?_ hS1 h0 h1
  rw [xarr_set κ (G := G) (D := D) (t := 0) (G' := G) (D' := (xu D.1 a j.toNatClampNeg x, D.2)) hc rfl (fun i hi => xu_ne _ _ _ hi) (fun _ _ => rfl) (fun _ _ => rfl) (by show _ = Sum.inl (xu D.1 a j.toNatClampNeg x a); rw [xu_self])] at hP1
  exact hP1
theorem x_bast {a : Nat} {j x : Int32} (hc : xk a = 102) (ha : a < G.1) (hin : vp_in j (xl a)) (he : m.2.2.2.2.lookup pc = some (.bastore, 1)) (kk : xP d m (pc + 1) L st G (xu D.1 a j.toNatClampNeg (vp_nar .byte x), D.2) E Q) : xP d m pc L (.int x :: .int j :: .ref a :: st) G D E Q := by
  intro κ p l e R s mid args below meth c0 G0 C ls H locs hl hP hS h0 h1
  have hEn : xEnv κ s := C.2.2.2.2.2.2.2.2.1
  refine va_bast C.1 C.2.1 hEn.1 hP (xWs_D κ hEn.2.2.2.2.1 (Nat.le_trans h1 C.2.2.2.2.2.2.2.2.2.2.2.2.2.2.2) D) hS a 2 (xX_arr κ G D (t := 2) hc ha) (xTy κ (by decide)) hin (C.2.2.2.2.2.2.2.2.2.2.2.2.2.2.1.dec he) (fun H1 locs1 hP1 _ hS1 => ?_)
  refine kk κ p l e R s mid args below meth c0 G0 C ls H1 locs1 hl ?_ hS1 h0 h1
  rw [xarr_set κ (G := G) (D := D) (t := 2) (G' := G) (D' := (xu D.1 a j.toNatClampNeg (vp_nar .byte x), D.2)) hc rfl (fun i hi => xu_ne _ _ _ hi) (fun _ _ => rfl) (fun _ _ => rfl) (by show _ = Sum.inl (xu D.1 a j.toNatClampNeg _ a); rw [xu_self])] at hP1
  exact hP1
theorem x_zast {a : Nat} {j x : Int32} (hc : xk a = 103) (ha : a < G.1) (hin : vp_in j (xl a)) (he : m.2.2.2.2.lookup pc = some (.bastore, 1)) (kk : xP d m (pc + 1) L st G (xu D.1 a j.toNatClampNeg (vp_nar .boolean x), D.2) E Q) : xP d m pc L (.int x :: .int j :: .ref a :: st) G D E Q := by
  intro κ p l e R s mid args below meth c0 G0 C ls H locs hl hP hS h0 h1
  have hEn : xEnv κ s := C.2.2.2.2.2.2.2.2.1
  refine va_zast C.1 C.2.1 hEn.1 hP (xWs_D κ hEn.2.2.2.2.1 (Nat.le_trans h1 C.2.2.2.2.2.2.2.2.2.2.2.2.2.2.2) D) hS a 3 (xX_arr κ G D (t := 3) hc ha) (xTy κ (by decide)) hin (C.2.2.2.2.2.2.2.2.2.2.2.2.2.2.1.dec he) (fun H1 locs1 hP1 _ hS1 => ?_)
  refine kk κ p l e R s mid args below meth c0 G0 C ls H1 locs1 hl ?_ hS1 h0 h1
  rw [xarr_set κ (G := G) (D := D) (t := 3) (G' := G) (D' := (xu D.1 a j.toNatClampNeg (vp_nar .boolean x), D.2)) hc rfl (fun i hi => xu_ne _ _ _ hi) (fun _ _ => rfl) (fun _ _ => rfl) (by show _ = Sum.inl (xu D.1 a j.toNatClampNeg _ a); rw [xu_self])] at hP1
  exact hP1
theorem x_last {a : Nat} {j : Int32} {x : Int64} (hc : xk a = 101) (ha : a < G.1) (hin : vp_in j (xl a)) (he : m.2.2.2.2.lookup pc = some (.lastore, 1)) (kk : xP d m (pc + 1) L st G (D.1, xuL D.2 a j.toNatClampNeg x) E Q) : xP d m pc L (.long x :: .int j :: .ref a :: st) G D E Q := by
  intro κ p l e R s mid args below meth c0 G0 C ls H locs hl hP hS h0 h1
  have hEn : xEnv κ s := C.2.2.2.2.2.2.2.2.1
  refine va_last C.1 C.2.1 hEn.1 hP (xWs_D κ hEn.2.2.2.2.1 (Nat.le_trans h1 C.2.2.2.2.2.2.2.2.2.2.2.2.2.2.2) D) hS a 1 (xX_arr κ G D (t := 1) hc ha) (xTy κ (by decide)) hin (C.2.2.2.2.2.2.2.2.2.2.2.2.2.2.1.dec he) (fun H1 locs1 hP1 _ hS1 => ?_)
  refine kk κ p l e R s mid args below meth c0 G0 C ls H1 locs1 hl ?_ hS1 h0 h1
  rw [xarr_set κ (G := G) (D := D) (t := 1) (G' := G) (D' := (D.1, xuL D.2 a j.toNatClampNeg x)) hc rfl (fun _ _ => rfl) (fun i hi => xuL_ne _ _ _ hi) (fun _ _ => rfl) (by show _ = Sum.inr (Sum.inl (xuL D.2 a j.toNatClampNeg x a)); rw [xuL_self])] at hP1
  exact hP1
theorem x_aast {a t ci : Nat} {j : Int32} {r : vw_C} (hc : xk a = 100 + t) (ht : t = 4 ∨ t = 5) (ha : a < G.1) (hb : xk (a + 1 + j.toNatClampNeg * xw t) = ci) (hci : ci < 100) (hb2 : a + 1 + j.toNatClampNeg * xw t < G.1) (hr : xcl[ci]? = some r) (hrt : xat t = .object r.1) (hin : vp_in j (xl a)) (he : m.2.2.2.2.lookup pc = some (.aastore, 1)) (kk : xP d m (pc + 1) L st (G.1, xuR G.2 a j.toNatClampNeg) D E Q) : xP d m pc L (.ref (a + 1 + j.toNatClampNeg * xw t) :: .int j :: .ref a :: st) G D E Q := by
  intro κ p l e R s mid args below meth c0 G0 C ls H locs hl hP hS h0 h1
  have hEn : xEnv κ s := C.2.2.2.2.2.2.2.2.1
  have hX := xX_arr κ G D hc ha
  have hx : ∀ G : xG, xac κ G D a t = .inr (.inr (.inr (.inr (fun k => if G.2 a k = true then some (κ.2.1 (a + 1 + k * xw t)) else none)))) := by
    intro G
    rcases ht with rfl | rfl <;> rfl
  rw [hx G] at hX
  have h6 : t < 6 := by omega
  refine va_astq C.1 C.2.1 hEn.1 hP (xWs_D κ hEn.2.2.2.2.1 (Nat.le_trans h1 C.2.2.2.2.2.2.2.2.2.2.2.2.2.2.2) D) hS a t _ ci hX (by rw [← hrt]; exact xTy κ h6) (xX_obj κ G D hb hci hb2) hr hin (C.2.2.2.2.2.2.2.2.2.2.2.2.2.2.1.dec he) (fun H1 locs1 hP1 _ hS1 => ?_)
  refine kk κ p l e R s mid args below meth c0 G0 C ls H1 locs1 hl ?_ hS1 h0 h1
  rw [xarr_set κ (G := G) (D := D) (t := t) (G' := (G.1, xuR G.2 a j.toNatClampNeg)) (D' := D) hc rfl (fun _ _ => rfl) (fun _ _ => rfl) (fun i hi => xuR_ne _ _ hi) (by
    rw [hx]
    congr 4
    funext k
    by_cases hk : k = j.toNatClampNeg
    · subst hk; simp [va_up, xuR]
    · simp [va_up, xuR, hk])] at hP1
  exact hP1
-- ends
theorem xret_pre {κ : xK} {E : xG} {G0 : xG} {p : Program} {R : Room} {s : State} {mid : MethodId} {args : Array Value} {meth : Method} {c : Code} (C : xCtx κ d m G0 E p R s mid args meth c) {H : Heap} {locs : List Loc} {r : Option Value} (hP : va_P κ.2.2.2.2.2 xcl (xWs κ E D) H) (hS : va_S (fun q => κ.1 ≤ q) s.heap H locs) (hQ : Q r D) : ∀ t : State, t.heap = H → s.WarmedH t.vm → xQ κ E Q args s (.returned (r.map (rv κ))) t :=
  fun t ht _ => ⟨⟨r, D, rfl, hQ, by rw [ht]; exact hP⟩, hS.F ht⟩
theorem x_iret {x : Int32} (hr : m.2.2.2.1 = some .int) (he : m.2.2.2.2.lookup pc = some (.ireturn, 1)) (hQ : Q (some (.int x)) D) : xP d m pc L [.int x] E D E Q := by
  intro κ p l e R s mid args below meth c0 G0 C ls H locs hl hP hS h0 h1
  exact W.iret C.1 C.2.1 (C.2.2.1.trans hr) (xret_pre C hP hS hQ) hS.2.2 (C.2.2.2.2.2.2.2.2.2.2.2.2.2.2.1.dec he) C.2.2.2.2.2.2.1
theorem x_zret {x : Int32} (hr : m.2.2.2.1 = some .boolean) (hn : narrow .boolean (.int x) = .int x) (he : m.2.2.2.2.lookup pc = some (.ireturn, 1)) (hQ : Q (some (.int x)) D) : xP d m pc L [.int x] E D E Q := by
  intro κ p l e R s mid args below meth c0 G0 C ls H locs hl hP hS h0 h1
  exact W.zret C.1 C.2.1 (C.2.2.1.trans hr) hn (xret_pre C hP hS hQ) hS.2.2 (C.2.2.2.2.2.2.2.2.2.2.2.2.2.2.1.dec he) C.2.2.2.2.2.2.1
theorem x_lret {x : Int64} (hr : m.2.2.2.1 = some .long) (he : m.2.2.2.2.lookup pc = some (.lreturn, 1)) (hQ : Q (some (.long x)) D) : xP d m pc L [.long x] E D E Q := by
  intro κ p l e R s mid args below meth c0 G0 C ls H locs hl hP hS h0 h1
  exact W.lret C.1 C.2.1 (C.2.2.1.trans hr) (xret_pre C hP hS hQ) hS.2.2 (C.2.2.2.2.2.2.2.2.2.2.2.2.2.2.1.dec he) C.2.2.2.2.2.2.1
theorem x_aret {x : Nat} {n : String} (hr : m.2.2.2.1 = some (.object n)) (he : m.2.2.2.2.lookup pc = some (.areturn, 1)) (hQ : Q (some (.ref x)) D) : xP d m pc L [.ref x] E D E Q := by
  intro κ p l e R s mid args below meth c0 G0 C ls H locs hl hP hS h0 h1
  exact W.aret C.1 C.2.1 (C.2.2.1.trans hr) (Or.inl ⟨n, rfl⟩) (Or.inr ⟨_, rfl⟩) (xret_pre C hP hS hQ) hS.2.2 (C.2.2.2.2.2.2.2.2.2.2.2.2.2.2.1.dec he) C.2.2.2.2.2.2.1
theorem x_aretN {n : String} (hr : m.2.2.2.1 = some (.object n)) (he : m.2.2.2.2.lookup pc = some (.areturn, 1)) (hQ : Q (some .null) D) : xP d m pc L [.null] E D E Q := by
  intro κ p l e R s mid args below meth c0 G0 C ls H locs hl hP hS h0 h1
  exact W.aret C.1 C.2.1 (C.2.2.1.trans hr) (Or.inl ⟨n, rfl⟩) (Or.inl rfl) (xret_pre C hP hS hQ) hS.2.2 (C.2.2.2.2.2.2.2.2.2.2.2.2.2.2.1.dec he) C.2.2.2.2.2.2.1
theorem x_vret (hr : m.2.2.2.1 = none) (he : m.2.2.2.2.lookup pc = some (.return_, 1)) (hQ : Q none D) : xP d m pc L [] E D E Q := by
  intro κ p l e R s mid args below meth c0 G0 C ls H locs hl hP hS h0 h1
  exact W.vret C.1 C.2.1 (C.2.2.1.trans hr) (xret_pre C hP hS hQ) hS.2.2 (C.2.2.2.2.2.2.2.2.2.2.2.2.2.2.1.dec he) C.2.2.2.2.2.2.1
end XH
