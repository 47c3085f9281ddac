/-! The reference notes and takes. -/
/-- the word here, by its number -/
noncomputable def wIx (t : Nat × (Nat → Nat)) (p : Nat) : Option Nat := cif (∃ k, k < 21 ∧ tK t p = 0 ∧ isW t p k) (some (Classical.epsilon (fun k => k < 21 ∧ tK t p = 0 ∧ isW t p k))) none
theorem wn_inj : ∀ k, k < 21 → ∀ j, j < 21 → wn k = wn j → k = j := by decide +kernel
theorem isW_inj {t : Nat × (Nat → Nat)} {p k j : Nat} (hK : tK t p = 0) (hk : k < 21) (hj : j < 21) (h1 : isW t p k) (h2 : isW t p j) : k = j := by
  have e1 := (wdv_is hK hk).mpr h1
  have e2 := (wdv_is hK hj).mpr h2
  rw [e1] at e2
  exact wn_inj k hk j hj ((pk_lEQ (wn_pos k hk).2 (wn_pos j hj).2).mp e2)
theorem wIx_some {t : Nat × (Nat → Nat)} {p k : Nat} : wIx t p = some k ↔ k < 21 ∧ tK t p = 0 ∧ isW t p k := by
  unfold wIx
  by_cases h : ∃ k, k < 21 ∧ tK t p = 0 ∧ isW t p k
  · rw [cif_t h]
    have sp := Classical.epsilon_spec h
    generalize Classical.epsilon (fun k => k < 21 ∧ tK t p = 0 ∧ isW t p k) = j at sp ⊢
    constructor
    · intro e; cases e; exact sp
    · intro e; rw [isW_inj e.2.1 sp.1 e.1 sp.2.2 e.2.2]
  · rw [cif_f h]
    exact ⟨fun e => (by cases e), fun e => absurd ⟨k, e⟩ h⟩
theorem wIx_cmp {t : Nat × (Nat → Nat)} {p k : Nat} (hk : k < 21) : lg_cmp (wd0 t p) (lN (wn k)) = 0 ↔ wIx t p = some k := by
  rw [wd0_is hk, wIx_some]
  exact ⟨fun h => ⟨hk, h⟩, fun h => h.2⟩
def look : Option Nat → List (Nat × Nat) → Option Nat
  | none, _ => none
  | some _, [] => none
  | some k, (j, f) :: l => if k = j then some f else look (some k) l
theorem look_is {t : Nat × (Nat → Nat)} {p : Nat} : ∀ {l : List (Nat × Nat)}, (∀ x, x ∈ l → x.1 < 21) → (if tK t p = 0 then firstW t p l else none) = look (wIx t p) l := by
  intro l
  induction l with
  | nil =>
    intro _
    cases wIx t p with
    | none => show (if tK t p = 0 then none else none) = none; split <;> rfl
    | some k => show (if tK t p = 0 then none else none) = none; split <;> rfl
  | cons x l ih =>
    intro h
    obtain ⟨j, f⟩ := x
    have ih := ih (fun x hx => h x (List.mem_cons_of_mem _ hx))
    have hj : j < 21 := h (j, f) List.mem_cons_self
    cases hw : wIx t p with
    | none =>
      rw [hw] at ih
      by_cases c : tK t p = 0
      · rw [if_pos c] at ih ⊢
        have nw : ¬ isW t p j := fun y => by
          have := wIx_some.mpr ⟨hj, c, y⟩
          rw [hw] at this; cases this
        rw [firstW_f nw, ih]; cases l <;> rfl
      · rw [if_neg c]; rfl
    | some k =>
      rw [hw] at ih
      obtain ⟨k1, k2, k3⟩ := wIx_some.mp hw
      rw [if_pos k2] at ih ⊢
      by_cases c : k = j
      · rw [look, if_pos c, firstW_t (by rw [← c]; exact k3)]
      · rw [look, if_neg c, firstW_f (fun y => c (isW_inj k2 k1 hj k3 y)), ih]
theorem lnF_21 : ∀ s, s < 5 → ∀ x, x ∈ lnF s → x.1 < 21 := by decide +kernel
theorem lawF_21 : ∀ x, x ∈ lawF → x.1 < 21 := by decide +kernel
/-- the least place, there the least FAULT -/
def lt' (F : Option (Nat × Nat)) (k p : Nat) : Option (Nat × Nat) := match F with
  | none => some (k, p)
  | some f => if p < f.2 ∨ (p = f.2 ∧ k < f.1) then some (k, p) else some f
def mFlt (D : xD) (F : Option (Nat × Nat)) : Prop := match F with
  | none => D.1 325 18 = 0
  | some f => D.1 325 18 = nI f.1 ∧ D.1 325 19 = nI f.2 ∧ 0 < f.1 ∧ f.1 < 10 ∧ f.2 ≤ 600
/-- all before a place -/
def fB (F : Option (Nat × Nat)) (b : Nat) : Prop := ∀ f, F = some f → f.2 < b
theorem fB.mono {F : Option (Nat × Nat)} {a b : Nat} (h : fB F a) (q : a ≤ b) : fB F b := fun f e => Nat.lt_of_lt_of_le (h f e) q
theorem lt'_nt {F : Option (Nat × Nat)} {k p : Nat} (h : fB F p) : lt' F k p = nt F k p := by
  cases F with
  | none => rfl
  | some f =>
    have := h f rfl
    show (if p < f.2 ∨ (p = f.2 ∧ k < f.1) then some (k, p) else some f) = some f
    rw [if_neg (by omega)]
theorem nt_fB {F : Option (Nat × Nat)} {k p b : Nat} (h : fB F b) (hp : p < b) : fB (nt F k p) b := by
  intro f e
  cases F with
  | none => cases e; exact hp
  | some g => exact h f e
theorem chk_fB {F : Option (Nat × Nat)} {n lo hi p b : Nat} (h : fB F b) (hp : p < b) : fB (chk F n lo hi p) b := by
  unfold chk
  split
  · exact nt_fB h hp
  · exact h
def chkL (F : Option (Nat × Nat)) (n lo hi p : Nat) : Option (Nat × Nat) := if n < lo ∨ hi < n then lt' F 2 p else F
theorem chkL_chk {F : Option (Nat × Nat)} {n lo hi p : Nat} (h : fB F p) : chkL F n lo hi p = chk F n lo hi p := by
  unfold chkL chk
  rw [lt'_nt h]
theorem mFlt.fr {D D' : xD} {lo hi f g : Nat} {F : Option (Nat × Nat)} (h : mFlt D F) (o : mF lo hi f g D D') (r : 19 < f ∨ g ≤ 18) : mFlt D' F := by
  cases F with
  | none => show D'.1 325 18 = 0; rw [o.2 18 (by omega)]; exact h
  | some f => exact ⟨by rw [o.2 18 (by omega)]; exact h.1, by rw [o.2 19 (by omega)]; exact h.2.1, h.2.2⟩
section MTAKE
variable {d : Nat} {D : xD} {t : Nat × (Nat → Nat)} {p : Nat} {F : Option (Nat × Nat)}
theorem c_M_fails {P : Int32 → xD → Prop} (hk : mtk D t p) (h : ∀ D', mF 0 0 17 18 D D' → D'.1 325 17 = nI (tS t p) → P 0 D') : xCi (d + 1) m_M_fails [.ref 325] D P := by
  refine xCi_of y_M_fails (Nat.le_of_ble_eq_true rfl) (s_M_fails_0 xk_M (fun D1 e1 => ⟨_, rfl, ?_⟩))
  obtain ⟨o1, f1⟩ := mf e1
  exact h D1 o1 (by rw [f1]; exact hk.2.1)
theorem c_M_later {P : xD → Prop} {k a : Nat} (hF : mFlt D F) (hk : 0 < k ∧ k < 10) (ha : a ≤ 600) (h : ∀ D', mF 0 0 18 20 D D' → mFlt D' (lt' F k a) → D'.2 = D.2 → P D') : xCv (d + 1) m_M_later [.ref 325, .int (nI k), .int (nI a)] D P := by
  have wr : ∀ D1 D2 : xD, D1 = (xu D.1 325 18 (nI k), D.2) → D2 = (xu D1.1 325 19 (nI a), D1.2) → mF 0 0 18 20 D D2 ∧ mFlt D2 (some (k, a)) ∧ D2.2 = D.2 := by
    intro D1 D2 e1 e2
    obtain ⟨o1, f1⟩ := mf e1
    obtain ⟨o2, f2⟩ := mf e2
    exact ⟨(o1.m (by omega) (by omega)).trans (o2.m (by omega) (by omega)), ⟨by rw [o2.2 18 (by omega)]; exact f1, f2, hk.1, hk.2, ha⟩, by rw [e2, e1]⟩
  refine xCv_of y_M_later (Nat.le_of_ble_eq_true rfl) (s_M_later_0 xk_M ?_)
  cases F with
  | none =>
    have e0 : D.1 325 18 = 0 := hF
    rw [e0]
    refine ⟨fun _ D1 e1 D2 e2 => ⟨rfl, ?_⟩, fun z => absurd rfl z⟩
    obtain ⟨o, m, e⟩ := wr D1 D2 e1 e2
    exact h D2 o m e
  | some f =>
    obtain ⟨e1, e2, f1, f2, f3⟩ := id hF
    rw [e1, e2]
    refine ⟨fun z => absurd z (nI_ne0 f1 (by omega)), fun _ => ⟨fun c D1 e1 D2 e2 => ⟨rfl, ?_⟩, fun c => ⟨fun c1 => ⟨rfl, h D mF.rfl' ?_ rfl⟩, fun c1 => ⟨fun c2 => ⟨rfl, h D mF.rfl' ?_ rfl⟩, fun c2 D1 e1 D2 e2 => ⟨rfl, ?_⟩⟩⟩⟩⟩
    · obtain ⟨o, m, e⟩ := wr D1 D2 e1 e2
      have := (nI_ltI (by omega) (by omega)).mp c
      refine h D2 o ?_ e
      show mFlt D2 (if a < f.2 ∨ (a = f.2 ∧ k < f.1) then some (k, a) else some f)
      rw [if_pos (Or.inl this)]; exact m
    · show mFlt D (if a < f.2 ∨ (a = f.2 ∧ k < f.1) then some (k, a) else some f)
      rw [if_neg (by
        rintro (y | y)
        · exact c (nI_lt y (by omega))
        · exact c1 (by rw [y.1]))]
      exact hF
    · show mFlt D (if a < f.2 ∨ (a = f.2 ∧ k < f.1) then some (k, a) else some f)
      have := (nI_leI (by omega) (by omega)).mp c2
      rw [if_neg (by
        rintro (y | y)
        · exact c (nI_lt y (by omega))
        · omega)]
      exact hF
    · obtain ⟨o, m, e⟩ := wr D1 D2 e1 e2
      have ea := (nI_eq (by omega) (by omega)).mp c1
      refine h D2 o ?_ e
      show mFlt D2 (if a < f.2 ∨ (a = f.2 ∧ k < f.1) then some (k, a) else some f)
      rw [if_pos (Or.inr ⟨ea, Nat.lt_of_not_le (fun y => c2 (nI_le y (by omega)))⟩)]; exact m
theorem c_M_bad {P : xD → Prop} {a : Nat} (hF : mFlt D F) (ha : a ≤ 600) (h : ∀ D', mF 0 0 18 26 D D' → (∀ j, 20 ≤ j → j < 25 → D'.1 325 j = D.1 325 j) → D'.1 325 25 = 0 → mFlt D' (lt' F 2 a) → D'.2 = D.2 → P D') : xCv (d + 2) m_M_bad [.ref 325, .int (nI a)] D P := by
  refine xCv_of y_M_bad (Nat.le_of_ble_eq_true rfl) (s_M_bad_0 xk_M (c_M_later (k := 2) hF (by omega) ha (fun D1 o1 m1 d1 D2 e2 => ⟨rfl, ?_⟩)))
  obtain ⟨o2, f2⟩ := mf e2
  exact h D2 ((o1.m (by omega) (by omega)).trans (o2.m (by omega) (by omega))) (fun j h1 h2 => by rw [o2.2 j (by omega), o1.2 j (by omega)]) f2 (m1.fr o2 (by omega)) (by rw [e2]; exact d1)
/-- a NUMBER is taken -/
theorem c_M_take {P : Int32 → xD → Prop} {k lo hi : Nat} (hT : mtp D t) (hk : mtk D t p) (hF : mFlt D F) (hk4 : k < 4) (hlo : lo < 2 ^ 20) (hhi : hi < 2 ^ 20)
    (h0 : tK t p ≠ 1 → ∀ D', mF 0 0 17 18 D D' → D'.1 325 17 = nI (tS t p) → P 0 D')
    (h1 : tK t p = 1 → tV t p < 100 → tS t p ≤ 600 → ∀ D', mF 337 338 11 26 D D' → (∀ j, 20 ≤ j → j < 25 → D'.1 325 j = D.1 325 j) → mtp D' t → mtk D' t (tE t p) → mFlt D' (chkL F (tV t p) lo hi (tS t p)) → (∀ j, D'.1 337 j = if j = k then nI (tV t p) else D.1 337 j) → D'.1 325 25 = (if lo ≤ tV t p ∧ tV t p ≤ hi then D.1 325 25 else 0) → P 1 D') : xCi (d + 4) m_M_take [.ref 325, .int (nI k), .int (nI lo), .int (nI hi)] D P := by
  have l12 : xl (325 + 12) = 4 := cl_13_21 xk_M
  have hS := tS_le hk.1
  have n6 := hT.2.1
  have e3 : D.1 325 14 = (3 : Int32) ↔ tK t p = 1 := by
    rw [hk.2.2.2.1]
    have := tK_lt t p
    refine (nI_eq (b := 3) (by unfold srt; split <;> (try split) <;> (try split) <;> (try split) <;> omega) (by omega)).trans ?_
    unfold srt
    split
    · omega
    · split
      · omega
      · split
        · omega
        · split <;> omega
  refine xCi_of y_M_take (Nat.le_of_ble_eq_true rfl) (s_M_take_0 xk_M ?_)
  rw [e3, nI_clamp (by omega)]
  refine ⟨fun c => ⟨by rw [l12]; exact vp_in_nI (by omega) (by omega), fun D1 e1 => ?_⟩, fun c => c_M_fails hk (fun D2 o2 f2 => ⟨Or.inl rfl, _, rfl, h0 c D2 o2 f2⟩)⟩
  have hv := tV_lt c
  obtain ⟨o1, v1⟩ := ma (by omega) e1
  have v1' : ∀ j, D1.1 337 j = if j = k then D.1 325 15 else D.1 337 j := v1
  have e15 : D.1 325 15 = nI (tV t p) := hk.2.2.2.2.1 c
  rw [e15] at v1'
  have e115 : D1.1 325 15 = nI (tV t p) := by rw [o1.2 15 (by omega)]; exact e15
  have o1' : mF 337 338 11 26 D D1 := o1.m (by omega) (by omega)
  have T1 := hT.fr o1 (by omega) (by omega)
  rw [e115]
  refine c_M_in (fun z => z0' ?_) (fun z2 z3 => z1' ?_)
  · have bad : tV t p < lo ∨ hi < tV t p := by
      rcases z with y | y
      · exact Or.inl ((nI_ltI (by omega) (by omega)).mp y)
      · exact Or.inr ((nI_ltI (by omega) (by omega)).mp y)
    have e13 : D1.1 325 13 = nI (tS t p) := by rw [o1.2 13 (by omega)]; exact hk.2.1
    rw [e13]
    refine c_M_bad (hF.fr o1 (by omega)) (by omega) (fun D2 o2 k2 g2 m2 _ => ?_)
    refine c_M_token (T1.fr o2 (by omega) (by omega)) (p := tE t p) (by rw [o2.2 11 (by omega), o1.2 11 (by omega)]; exact hk.2.2.1) (tE_le hk.1) (fun D3 o3 T3 k3 => ⟨_, rfl, ?_⟩)
    refine h1 c hv (by omega) D3 (o1'.trans ((o2.m (by omega) (by omega)).trans (o3.m (by omega) (by omega)))) (fun j a b => by rw [o3.2 j (by omega), k2 j a b, o1.2 j (by omega)]) T3 k3 ?_ (fun j => by rw [(o3.1 337 (by omega) (by omega)).1, (o2.1 337 (by omega) (by omega)).1]; exact v1' j) (by rw [if_neg (by omega), o3.2 25 (by omega)]; exact g2)
    unfold chkL
    rw [if_pos bad]; exact m2.fr o3 (by omega)
  · have ok : ¬ (tV t p < lo ∨ hi < tV t p) := by
      rintro (y | y)
      · exact z2 (nI_lt y (by omega))
      · exact z3 (nI_lt y (by omega))
    refine c_M_token T1 (p := tE t p) (by rw [o1.2 11 (by omega)]; exact hk.2.2.1) (tE_le hk.1) (fun D3 o3 T3 k3 => ⟨_, rfl, ?_⟩)
    refine h1 c hv (by omega) D3 (o1'.trans (o3.m (by omega) (by omega))) (fun j a b => by rw [o3.2 j (by omega), o1.2 j (by omega)]) T3 k3 ?_ (fun j => by rw [(o3.1 337 (by omega) (by omega)).1]; exact v1' j) (by rw [if_pos (by omega), o3.2 25 (by omega), o1.2 25 (by omega)])
    unfold chkL
    rw [if_neg ok]; exact (hF.fr o1 (by omega)).fr o3 (by omega)
/-- a list is full -/
theorem c_M_full {P : xD → Prop} {c most a n : Nat} (hF : mFlt D F) (hc : c < 6) (e : D.1 336 c = nI n) (hn : n ≤ most) (hm : most ≤ 100) (ha : a ≤ 600) (h : ∀ D', mF 0 0 18 20 D D' → mFlt D' (if n < most then F else lt' F 3 a) → D'.2 = D.2 → P D') : xCv (d + 2) m_M_full [.ref 325, .int (nI c), .int (nI most), .int (nI a)] D P := by
  have l11 : xl (325 + 11) = 121 := cl_13_20 xk_M
  have e' : D.1 (325 + 11) c = nI n := e
  refine xCv_of y_M_full (Nat.le_of_ble_eq_true rfl) (s_M_full_0 xk_M ?_)
  rw [nI_clamp (by omega), e', nI_eq (by omega) (by omega)]
  refine ⟨by rw [l11]; exact vp_in_nI (by omega) (by omega), fun z => ⟨rfl, h D mF.rfl' ?_ rfl⟩, fun z => c_M_later (k := 3) hF (by omega) ha (fun D1 o1 m1 e1 => ⟨rfl, h D1 o1 ?_ e1⟩)⟩
  · rw [if_pos (by omega)]; exact hF
  · rw [if_neg (by omega)]; exact m1
theorem c_M_greater {P : Int32 → xD → Prop} {a b : Int32} (h : P (if a ≤ b then b else a) D) : xCi (d + 1) m_M_greater [.int a, .int b] D P := by
  refine xCi_of y_M_greater (Nat.le_of_ble_eq_true rfl) (s_M_greater_0 ⟨fun c => ⟨_, rfl, ?_⟩, fun c => ⟨_, rfl, ?_⟩⟩)
  · rw [if_pos c] at h; exact h
  · rw [if_neg c] at h; exact h
end MTAKE
/-- the greater of PEOPLE or KIND that is named, one more -/
theorem grt {g n : Nat} (hg : g < 2 ^ 20) (hn : n < 2 ^ 20) : (if nI g - (1 : Int32) ≤ nI n then nI n else nI g - 1) = nI (if g < n + 1 then n + 1 else g) - 1 := by
  have c : nI g - (1 : Int32) ≤ nI n ↔ g ≤ n + 1 := by
    rw [← Int32.not_lt, ← aI_s n, aI_lt (by omega) (by omega)]; omega
  by_cases z : g ≤ n + 1
  · rw [if_pos (c.mpr z)]
    by_cases y : g < n + 1
    · rw [if_pos y, aI_s]
    · rw [if_neg y, show g = n + 1 by omega, aI_s]
  · rw [if_neg (fun y => z (c.mp y)), if_neg (by omega)]
