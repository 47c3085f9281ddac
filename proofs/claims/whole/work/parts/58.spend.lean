/-! An EVENING is spent. -/
noncomputable def tHun : Nat := Classical.choose (⟨100, rfl⟩ : ∃ n : Nat, n = 100)
theorem tHun_is : tHun = 100 := Classical.choose_spec (⟨100, rfl⟩ : ∃ n : Nat, n = 100)
def nInit (τ : Nat → Int32) (seed : Int32) : nS := (seed, fun _ => 0, fun _ => none, List.range (tN τ 5), 0, none)
noncomputable def nEnd (τ : Nat → Int32) (seed : Int32) : nS := nRun τ tHun (nInit τ seed)
/-- who wins -/
def nWin (s : nS) : Option Nat := if s.2.2.2.1.length = 1 then some (s.2.2.2.1.getD 0 0) else none
def nW (τ : Nat → Int32) (i : Nat) (s : nS) : Prop := (∀ c, c ∈ s.2.2.2.1 → c < tN τ 5) ∧ s.2.2.2.1.length ≤ tN τ 5 ∧ (∀ c, s.2.1 c ≤ i) ∧ (∀ g, s.2.2.2.2.2 = some g → g < tN τ 5)
theorem nLet_ok {τ : Nat → Int32} {i q : Nat} {x : Int32} {s : nS} (h : nW τ i s) (hq : q < s.2.2.2.1.length) : nW τ (i + 1) (nLet τ x s q) := by
  obtain ⟨h1, h2, h3, h4⟩ := h
  have hm := h1 _ (getD_mem hq)
  have hl : ∀ c, (if c = s.2.2.2.1.getD q 0 then s.2.1 c + 1 else s.2.1 c) ≤ i + 1 := fun c => by
    have := h3 c
    split <;> omega
  unfold nLet
  by_cases z : s.2.1 (s.2.2.2.1.getD q 0) + 1 < tN τ 3
  · rw [if_pos z]
    exact ⟨h1, h2, hl, h4⟩
  · rw [if_neg z]
    refine ⟨fun c hc => h1 c (List.mem_of_mem_eraseIdx hc), ?_, hl, fun g hg => ?_⟩
    · show (s.2.2.2.1.eraseIdx q).length ≤ _
      rw [List.length_eraseIdx, if_pos hq]; omega
    · have hg : (if s.2.2.2.2.2 = none then some (s.2.2.2.1.getD q 0) else s.2.2.2.2.2) = some g := hg
      split at hg
      · cases hg; exact hm
      · exact h4 g hg
theorem nStep_ok {τ : Nat → Int32} {i : Nat} {s : nS} (h : nW τ i s) (h2 : 2 ≤ s.2.2.2.1.length) : nW τ (i + 1) (nStep τ s).1 := by
  have e : nStep τ s = nNext τ s (nRho τ s).2.2.1 := rfl
  rw [e]
  cases (nRho τ s).2.2.1 with
  | none => exact ⟨h.1, h.2.1, fun c => Nat.le_succ_of_le (h.2.2.1 c), h.2.2.2⟩
  | some f =>
    have := tLast_lt (nTab τ s.2.2.2.1) f (nRho τ s).2.2.2 s.2.2.2.1.length (by omega)
    exact nLet_ok h this
theorem nRun_s {τ : Nat → Int32} {F : Nat} {s : nS} : nRun τ (F + 1) s = if s.2.2.2.1.length ≤ 1 then s else if (nStep τ s).2 = true then nRun τ F (nStep τ s).1 else (nStep τ s).1 := rfl
theorem nRun_1 {τ : Nat → Int32} {s : nS} (h : s.2.2.2.1.length ≤ 1) : ∀ F, nRun τ F s = s := by
  intro F
  cases F with
  | zero => rfl
  | succ F => rw [nRun_s, if_pos h]
/-- an EVENING that is over -/
def nRE (D : xD) (v N : Nat) (s : nS) : Prop := rS D (v + 39) N ∧ (∀ i, i < N → D.1 (v + 40) i = nI (s.2.1 i)) ∧ rS D (v + 41) N ∧ (∀ i, i < N → D.1 (v + 42) i = oI (s.2.2.1 i)) ∧ D.1 v 9 = nI s.2.2.2.2.1 ∧ D.1 v 10 = oI (nWin s) ∧ D.1 v 11 = oI s.2.2.2.2.2
section SPEND
variable {d : Nat} {D : xD} {v t : Nat} {τ : Nat → Int32} {s : nS}
theorem spend_end {Q : Option Value → xD → Prop} {N : Nat} (hS : nR D v N s) (hI : eI D v) (hw : ∀ c, c ∈ s.2.2.2.1 → c < 2 ^ 31) (h : ∀ D', xOut v (v + 50) D D' → eI D' v → nRE D' v N s → Q none D') :
    xCi (d + 1) m_Row_size [.ref (v + 43)] D (fun r2 D1 => (¬ r2 = (1 : Int32) → Q none D1) ∧ (r2 = (1 : Int32) → xCi (d + 1) m_Row_get [.ref (v + 43), .int (0 : Int32)] D1 (fun r4 D3 => ∀ D5 : xD, D5 = (xu D3.1 v 10 r4, D3.2) → Q none D5))) := by
  obtain ⟨a1, a2, a3, a4, a5, a6, a7, a8, a9, a10⟩ := hS
  have hle := a6.le
  refine c_Row_size a6 ⟨fun c => ?_, fun c => ?_⟩
  · refine h D xOut.rfl' hI ⟨a2, a3, a4, a5, a8, ?_, a10⟩
    unfold nWin
    rw [if_neg (fun z => c (by rw [z]; rfl))]
    exact a9
  · have e1 : s.2.2.2.1.length = 1 := (nI_eq (b := 1) (by omega) (by omega)).mp c
    refine c_get (i := 0) a6 (by omega) ?_
    rw [show v + 43 + 1 = v + 44 by omega, a7 0 _ (getD_at (by omega))]
    intro D5 e5
    have o5 : xOut v (v + 1) D D5 := by rw [e5]; exact xOut_f D v 10 _
    have f5 : ∀ j, D5.1 v j = if j = 10 then nI (s.2.2.2.1.getD 0 0) else D.1 v j := fun j => by rw [e5]; show xu D.1 v 10 _ v j = _; rw [xu_self]; rfl
    refine h D5 (o5.mono (by omega) (by omega)) (hI.out o5 (by omega)) ⟨a2.out o5 (by omega), fun i hi => by rw [o5.1 _ (by omega)]; exact a3 i hi, a4.out o5 (by omega), fun i hi => by rw [o5.1 _ (by omega)]; exact a5 i hi, by rw [f5]; simpa using a8, ?_, by rw [f5]; simpa using a10⟩
    unfold nWin
    rw [f5, if_pos rfl, if_pos e1]
    rfl
theorem c_Evenings_spend {P : xD → Prop} {seed : Int32} (k0 : xk v = 10) (hI : eI D v) (hR : tR D t τ) (hT : tOK τ) (hL : tLaw τ) (hF : tFit τ) (ht : t + 5 ≤ v ∨ v + 50 ≤ t)
    (h : ∀ D', xOut v (v + 50) D D' → eI D' v → nRE D' v (tN τ 5) (nEnd τ seed) → P D') : xCv (d + 8) m_Evenings_spend [.ref v, .ref t, .int seed] D P := by
  have b5 := hT.2.2.2.2.2.2.1
  have l40 : xl (v + 39 + 1) = 6 := cl_10_4 k0
  have l42 : xl (v + 41 + 1) = 6 := cl_10_5 k0
  have l44 : xl (v + 43 + 1) = 6 := cl_10_6 k0
  refine xCv_of y_Evenings_spend (Nat.le_of_ble_eq_true rfl) (s_Evenings_spend_0 k0 hR.1 (fun D1 e1 D2 e2 D3 e3 D4 e4 => ?_))
  have o4 : xOut v (v + 1) D D4 := by
    rw [e4, e3, e2, e1]
    exact ⟨fun i q => by show xu (xu (xu (xu D.1 v 8 seed) v 9 0) v 10 (-1)) v 11 (-1) i = _; rw [xu_ne _ _ _ (by omega), xu_ne _ _ _ (by omega), xu_ne _ _ _ (by omega), xu_ne _ _ _ (by omega)], rfl⟩
  have f4 : D4.1 v 8 = seed ∧ D4.1 v 9 = 0 ∧ D4.1 v 10 = -1 ∧ D4.1 v 11 = -1 := by
    rw [e4, e3, e2, e1]
    refine ⟨?_, ?_, ?_, ?_⟩ <;> show xu (xu (xu (xu D.1 v 8 seed) v 9 0) v 10 (-1)) v 11 (-1) v _ = _ <;> simp [xu_self, upd]
  clear e1 e2 e3 e4
  refine c_Table_people (hR.out o4 (by omega)) hT ?_
  refine c_fill (k := tN τ 5) (ck_10_4 k0) (by omega) (fun D5 o5 w5 v5 => ?_)
  have o45 : xOut v (v + 50) D D5 := (o4.mono (by omega) (by omega)).trans (o5.mono (by omega) (by omega))
  refine c_Table_people (hR.out o45 (by omega)) hT ?_
  refine c_fill (k := tN τ 5) (ck_10_5 k0) (by omega) (fun D6 o6 w6 v6 => ?_)
  refine c_clear (ck_10_6 k0) (fun D7 o7 w7 => ?_)
  have o47 : xOut v (v + 50) D D7 := o45.trans ((o6.mono (by omega) (by omega)).trans (o7.mono (by omega) (by omega)))
  have hI7 : eI D7 v := (((hI.out o4 (by omega)).out o5 (by omega)).out o6 (by omega)).out o7 (by omega)
  -- ROUND by ROUND
  have loop : ∀ F i, i + F = 100 → ∀ D' (s : nS) g, xOut v (v + 50) D D' → eI D' v → nR D' v (tN τ 5) s → nW τ i s → (g = 1 ∧ nRun τ F s = nEnd τ seed ∨ g = 0 ∧ s = nEnd τ seed) →
      xPf (d + 8) m_Evenings_spend 80 [(0, .ref v), (1, .ref t), (2, .int seed), (3, .int g), (4, .int (nI i))] [] D' (fun r D' => r = none ∧ P D') := by
    intro F
    induction F with
    | zero =>
      intro i hi D' s g o hI' hS hW hg
      have es : s = nEnd τ seed := by rcases hg with ⟨-, q⟩ | ⟨-, q⟩ <;> exact q
      refine s_Evenings_spend_80 k0 hR.1 ⟨fun _ => ?_, fun q => absurd (nI_le (a := 100) (b := i) (by omega) (by omega)) q⟩
      exact spend_end (d := d + 6) (Q := fun r D' => r = none ∧ P D') hS hI' (fun c hc => by have := hW.1 c hc; omega) (fun D9 o9 hI9 hE9 => ⟨rfl, h D9 (o.trans o9) hI9 (by rw [← es]; exact hE9)⟩)
    | succ F ih =>
      intro i hi D' s g o hI' hS hW hg
      have hend : s = nEnd τ seed → xCi (d + 6 + 1) m_Row_size [.ref (v + 43)] D' (fun r2 D1 => (¬ r2 = (1 : Int32) → (none : Option Value) = none ∧ P D1) ∧ (r2 = (1 : Int32) → xCi (d + 6 + 1) m_Row_get [.ref (v + 43), .int (0 : Int32)] D1 (fun r4 D3 => ∀ D5 : xD, D5 = (xu D3.1 v 10 r4, D3.2) → (none : Option Value) = none ∧ P D5))) := fun es =>
        spend_end (d := d + 6) (Q := fun r D' => r = none ∧ P D') hS hI' (fun c hc => by have := hW.1 c hc; omega) (fun D9 o9 hI9 hE9 => ⟨rfl, h D9 (o.trans o9) hI9 (by rw [← es]; exact hE9)⟩)
      refine s_Evenings_spend_80 k0 hR.1 ⟨fun q => absurd q (nI_ge (a := i) (b := 100) (by omega) (by omega)), fun _ => ⟨fun z => ?_, fun z => ?_⟩⟩
      · rcases hg with ⟨q, -⟩ | ⟨-, es⟩
        · rw [q] at z; exact absurd z (by decide)
        · exact hend es
      · have er : nRun τ (F + 1) s = nEnd τ seed := by
          rcases hg with ⟨-, q⟩ | ⟨q, -⟩
          · exact q
          · exact absurd q z
        refine c_Row_size hS.2.2.2.2.2.1 ⟨fun c => ?_, fun c => ?_⟩
        · have h1 : s.2.2.2.1.length ≤ 1 := (nI_leI (by have := hW.2.1; omega) (by omega)).mp c
          rw [nRun_1 h1] at er
          exact hend er
        · have h1 : 2 ≤ s.2.2.2.1.length := Nat.lt_of_not_le (fun y => c (nI_le (b := 1) y (by omega)))
          rw [nRun_s, if_neg (by omega)] at er
          have hW' := nStep_ok hW h1
          refine c_Evenings_playOfThoseLeft k0 hI' hS (hR.out o (by omega)) hT hL hF h1 hW.2.1 hW.1 (fun c => by have := hW.2.2.1 c; omega) (fun g hg => by have := hW.2.2.2 g hg; omega) ht (fun D9 o9 hI9 hS9 => ?_)
          rw [nI_1 i]
          refine ih (i + 1) (by omega) D9 _ _ (o.trans o9) hI9 hS9 hW' ?_
          by_cases y : (nStep τ s).2 = true
          · rw [if_pos y] at er
            rw [if_pos y]
            exact Or.inl ⟨rfl, er⟩
          · rw [if_neg y] at er
            rw [if_neg y]
            exact Or.inr ⟨rfl, er⟩
  -- all are there
  have all : ∀ m p, p + m = tN τ 5 → ∀ D', xOut (v + 43) (v + 45) D7 D' → rS D' (v + 43) p → (∀ i, i < p → D'.1 (v + 44) i = nI i) →
      xPf (d + 8) m_Evenings_spend 53 [(0, .ref v), (1, .ref t), (2, .int seed), (3, .int (nI p))] [] D' (fun r D' => r = none ∧ P D') := by
    intro m
    induction m with
    | zero =>
      intro p hp D' o w hv
      have ep : p = tN τ 5 := by omega
      have oD := o47.trans (o.mono (by omega) (by omega))
      refine s_Evenings_spend_53 k0 hR.1 (c_Table_people (hR.out oD (by omega)) hT ⟨fun _ => ?_, fun q => absurd (nI_le (by omega) (by omega)) q⟩)
      refine loop 100 0 (by omega) D' (nInit τ seed) 1 oD (hI7.out o (by omega)) ⟨?_, ((w5.out o6 (by omega)).out o7 (by omega)).out o (by omega), fun i hi => ?_, (w6.out o7 (by omega)).out o (by omega), fun i hi => ?_, ?_, fun i c hc => ?_, ?_, ?_, ?_⟩ ⟨fun c hc => List.mem_range.mp hc, by show (List.range _).length ≤ _; rw [List.length_range]; exact Nat.le_refl _, fun c => Nat.le_refl 0, fun g hg => by cases hg⟩ (Or.inl ⟨rfl, ?_⟩)
      · rw [o.1 _ (by omega), o7.1 _ (by omega), o6.1 _ (by omega), o5.1 _ (by omega)]; exact f4.1
      · rw [o.1 _ (by omega), o7.1 _ (by omega), o6.1 _ (by omega), show v + 40 = v + 39 + 1 by omega, v5 _ (by omega)]; rfl
      · rw [o.1 _ (by omega), o7.1 _ (by omega), show v + 42 = v + 41 + 1 by omega, v6 _ (by omega)]; rfl
      · show rS D' (v + 43) (List.range (tN τ 5)).length
        rw [List.length_range, ← ep]; exact w
      · have hc : (List.range (tN τ 5))[i]? = some c := hc
        have hi := (List.getElem?_eq_some_iff.mp hc).1
        rw [List.length_range] at hi
        rw [List.getElem?_range hi] at hc
        cases hc
        exact hv i (by omega)
      · rw [o.1 _ (by omega), o7.1 _ (by omega), o6.1 _ (by omega), o5.1 _ (by omega)]; exact f4.2.1
      · rw [o.1 _ (by omega), o7.1 _ (by omega), o6.1 _ (by omega), o5.1 _ (by omega)]; exact f4.2.2.1
      · rw [o.1 _ (by omega), o7.1 _ (by omega), o6.1 _ (by omega), o5.1 _ (by omega)]; exact f4.2.2.2
      · unfold nEnd; rw [tHun_is]
    | succ m ih =>
      intro p hp D' o w hv
      have oD := o47.trans (o.mono (by omega) (by omega))
      refine s_Evenings_spend_53 k0 hR.1 (c_Table_people (hR.out oD (by omega)) hT ⟨fun q => absurd q (nI_ge (by omega) (by omega)), fun _ => ?_⟩)
      refine c_push w (by omega) (fun D8 o8 w8 v8 => ?_)
      rw [nI_1 p]
      refine ih (p + 1) (by omega) D8 (o.trans o8) w8 (fun i hi => ?_)
      rw [show v + 44 = v + 43 + 1 by omega, v8]
      by_cases q : i = p
      · rw [if_pos q, q]
      · rw [if_neg q]; exact hv i (by omega)
  exact all (tN τ 5) 0 (by omega) D7 xOut.rfl' w7 (fun i hi => absurd hi (by omega))
theorem c_Evenings_answer {P : Int32 → xD → Prop} {N w : Nat} (k0 : xk v = 10) (hE : nRE D v N s) (hw : w ≤ 2) (h : P (if w = 0 then oI (nWin s) else if w = 1 then nI s.2.2.2.2.1 else oI s.2.2.2.2.2) D) : xCi (d + 1) m_Evenings_answer [.ref v, .int (nI w)] D P := by
  refine xCi_of y_Evenings_answer (Nat.le_of_ble_eq_true rfl) (s_Evenings_answer_0 k0 ?_)
  obtain ⟨-, -, -, -, e9, e10, e11⟩ := hE
  have inj : ∀ u : Nat, u < 10 → nI w = nI u → w = u := fun u hu q => (nI_eq (by omega) (by omega)).mp q
  refine ⟨fun c => ⟨fun c1 => ⟨_, rfl, ?_⟩, fun c1 => ⟨_, rfl, ?_⟩⟩, fun c => ⟨_, rfl, ?_⟩⟩
  · rw [if_neg (fun z => c (by rw [z]; rfl)), if_neg (fun z => c1 (by rw [z]; rfl))] at h
    rw [e11]; exact h
  · rw [if_neg (fun z => c (by rw [z]; rfl)), if_pos (inj 1 (by omega) c1)] at h
    rw [e9]; exact h
  · rw [if_pos (inj 0 (by omega) c)] at h
    rw [e10]; exact h
theorem c_Evenings_answerOf {P : Int32 → xD → Prop} {N p : Nat} {x : Int32} (k0 : xk v = 10) (hE : nRE D v N s) (hp : p < N) (h : P (if x = 0 then oI (s.2.2.1 p) else nI (s.2.1 p)) D) : xCi (d + 2) m_Evenings_answerOf [.ref v, .int (nI p), .int x] D P := by
  refine xCi_of y_Evenings_answerOf (Nat.le_of_ble_eq_true rfl) (s_Evenings_answerOf_0 k0 ?_)
  obtain ⟨e1, e2, e3, e4, -⟩ := hE
  refine ⟨fun c => c_get e3 hp ⟨_, rfl, ?_⟩, fun c => c_get e1 hp ⟨_, rfl, ?_⟩⟩
  · rw [if_pos c] at h
    rw [show v + 41 + 1 = v + 42 by omega, e4 p hp]; exact h
  · rw [if_neg c] at h
    rw [show v + 39 + 1 = v + 40 by omega, e2 p hp]; exact h
end SPEND
