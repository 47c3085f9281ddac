/-! An EVENING. -/
/-- what is drawn by; letters; by which round one is out; who is left; rounds; who is out first -/
abbrev nS : Type := Int32 × (Nat → Nat) × (Nat → Option Nat) × List Nat × Nat × Option Nat
def nTab (τ : Nat → Int32) (l : List Nat) : Nat → Int32 := tSeats τ (fun i => l.getD i 0) l.length
/-- behind a letter for who sits at q -/
def nLet (τ : Nat → Int32) (x : Int32) (s : nS) (q : Nat) : nS :=
  if s.2.1 (s.2.2.2.1.getD q 0) + 1 < tN τ 3 then (x, (fun i => if i = s.2.2.2.1.getD q 0 then s.2.1 i + 1 else s.2.1 i), s.2.2.1, s.2.2.2.1, s.2.2.2.2.1 + 1, s.2.2.2.2.2)
  else (x, (fun i => if i = s.2.2.2.1.getD q 0 then s.2.1 i + 1 else s.2.1 i), (fun i => if i = s.2.2.2.1.getD q 0 then some s.2.2.2.2.1 else s.2.2.1 i), s.2.2.2.1.eraseIdx q, s.2.2.2.2.1 + 1, if s.2.2.2.2.2 = none then some (s.2.2.2.1.getD q 0) else s.2.2.2.2.2)
/-- its ROUND -/
noncomputable def nRho (τ : Nat → Int32) (s : nS) : dS × (Nat → Nat) × Option Nat × Nat := rGo (nTab τ s.2.2.2.1) (tN τ 0 * tN τ 1) (shC τ s.1).1 tTop
noncomputable def nNext (τ : Nat → Int32) (s : nS) : Option Nat → nS × Bool
  | none => (((shC τ s.1).2, s.2), false)
  | some f => (nLet τ (shC τ s.1).2 s (tLast (nTab τ s.2.2.2.1) f (nRho τ s).2.2.2 s.2.2.2.1.length), true)
noncomputable def nStep (τ : Nat → Int32) (s : nS) : nS × Bool := nNext τ s (nRho τ s).2.2.1
noncomputable def nRun (τ : Nat → Int32) : Nat → nS → nS
  | 0, s => s
  | F + 1, s => if s.2.2.2.1.length ≤ 1 then s else if (nStep τ s).2 = true then nRun τ F (nStep τ s).1 else (nStep τ s).1
/-- the Evenings at v is at s -/
def nR (D : xD) (v N : Nat) (s : nS) : Prop :=
  D.1 v 8 = s.1 ∧ rS D (v + 39) N ∧ (∀ i, i < N → D.1 (v + 40) i = nI (s.2.1 i)) ∧ rS D (v + 41) N ∧ (∀ i, i < N → D.1 (v + 42) i = oI (s.2.2.1 i)) ∧ rS D (v + 43) s.2.2.2.1.length ∧ (∀ i c, s.2.2.2.1[i]? = some c → D.1 (v + 44) i = nI c) ∧
  D.1 v 9 = nI s.2.2.2.2.1 ∧ D.1 v 10 = -1 ∧ D.1 v 11 = oI s.2.2.2.2.2
theorem nR.out {D D' : xD} {lo hi v N : Nat} {s : nS} (h : nR D v N s) (o : xOut lo hi D D') (q : v + 1 ≤ lo ∧ (hi ≤ v + 39 ∨ v + 45 ≤ lo)) : nR D' v N s := by
  obtain ⟨h1, h2, h3, h4, h5, h6, h7, h8, h9, h10⟩ := h
  exact ⟨by rw [o.1 _ (by omega)]; exact h1, h2.out o (by omega), fun i hi => by rw [o.1 _ (by omega)]; exact h3 i hi, h4.out o (by omega), fun i hi => by rw [o.1 _ (by omega)]; exact h5 i hi, h6.out o (by omega), fun i c hc => by rw [o.1 _ (by omega)]; exact h7 i c hc, by rw [o.1 _ (by omega)]; exact h8, by rw [o.1 _ (by omega)]; exact h9, by rw [o.1 _ (by omega)]; exact h10⟩
theorem nR.outS {D D' : xD} {v N : Nat} {s : nS} (h : nR D v N s) (o : xOutS v D D') : nR D' v N (D'.1 v 8, s.2) := by
  obtain ⟨h1, h2, h3, h4, h5, h6, h7, h8, h9, h10⟩ := h
  exact ⟨rfl, h2.outS o (by omega), fun i hi => by rw [o.1 _ (by omega) (by omega) (by omega)]; exact h3 i hi, h4.outS o (by omega), fun i hi => by rw [o.1 _ (by omega) (by omega) (by omega)]; exact h5 i hi, h6.outS o (by omega), fun i c hc => by rw [o.1 _ (by omega) (by omega) (by omega)]; exact h7 i c hc, by rw [o.2.1 _ (by omega)]; exact h8, by rw [o.2.1 _ (by omega)]; exact h9, by rw [o.2.1 _ (by omega)]; exact h10⟩
theorem getD_mem {l : List Nat} {i : Nat} (h : i < l.length) : l.getD i 0 ∈ l := by
  rw [List.getD_eq_getElem?_getD, List.getElem?_eq_getElem h]
  exact List.getElem_mem h
theorem getD_at {l : List Nat} {i : Nat} (h : i < l.length) : l[i]? = some (l.getD i 0) := by
  rw [List.getD_eq_getElem?_getD, List.getElem?_eq_getElem h]; rfl
theorem nTab_ok {τ : Nat → Int32} {l : List Nat} (hT : tOK τ) (hL : tLaw τ) (hF : tFit τ) (h2 : 2 ≤ l.length) (hN : l.length ≤ tN τ 5) (hl : ∀ c, c ∈ l → c < tN τ 5) :
    tOK (nTab τ l) ∧ tLaw (nTab τ l) ∧ tFit (nTab τ l) ∧ tN (nTab τ l) 5 = l.length ∧ tN (nTab τ l) 0 = tN τ 0 ∧ tN (nTab τ l) 1 = tN τ 1 ∧ tN (nTab τ l) 2 = tN τ 2 := by
  have b5 := hT.2.2.2.2.2.2.1
  have hall : ∀ p, p < l.length → l.getD p 0 < tN τ 5 := fun p hp => hl _ (getD_mem hp)
  have e5 : tN (nTab τ l) 5 = l.length := tSeats_5 _ _ (by omega)
  have e0 : tN (nTab τ l) 0 = tN τ 0 := tSeats_tN _ _ _ (by omega)
  have e1 : tN (nTab τ l) 1 = tN τ 1 := tSeats_tN _ _ _ (by omega)
  have e2 : tN (nTab τ l) 2 = tN τ 2 := tSeats_tN _ _ _ (by omega)
  refine ⟨tOK_seats hT (by omega) hall, tLaw_seats hL (by omega) hall, ?_, e5, e0, e1, e2⟩
  unfold tFit
  rw [e5, e2, e0, e1]
  refine ⟨h2, Nat.lt_of_le_of_lt (Nat.mul_le_mul_left _ hN) hF.2⟩
section EVE
variable {d : Nat} {D : xD} {v t : Nat} {τ : Nat → Int32} {s : nS}
theorem c_Evenings_playOfThoseLeft {P : Int32 → xD → Prop} (k0 : xk v = 10) (hI : eI D v) (hS : nR D v (tN τ 5) s) (hR : tR D t τ) (hT : tOK τ) (hL : tLaw τ) (hF : tFit τ) (h2 : 2 ≤ s.2.2.2.1.length) (hN : s.2.2.2.1.length ≤ tN τ 5) (hl : ∀ c, c ∈ s.2.2.2.1 → c < tN τ 5) (hlet : ∀ c, s.2.1 c < 2 ^ 30) (hfo : ∀ g, s.2.2.2.2.2 = some g → g < 2 ^ 31) (ht : t + 5 ≤ v ∨ v + 50 ≤ t)
    (h : ∀ D', xOut v (v + 50) D D' → eI D' v → nR D' v (tN τ 5) (nStep τ s).1 → P (if (nStep τ s).2 = true then 1 else 0) D') :
    xCi (d + 7) m_Evenings_playOfThoseLeft [.ref v, .ref t] D P := by
  have b5 := hT.2.2.2.2.2.2.1
  have b3 := hT.2.2.2.2.1
  have bn := pack_le hT
  obtain ⟨cT, cL, cF, c5, c0, c1, c2⟩ := nTab_ok hT hL hF h2 hN hl
  have hall : ∀ p, p < s.2.2.2.1.length → s.2.2.2.1.getD p 0 < tN τ 5 := fun p hp => hl _ (getD_mem hp)
  refine xCi_of y_Evenings_playOfThoseLeft (Nat.le_of_ble_eq_true rfl) (s_Evenings_playOfThoseLeft_0 k0 hR.1 ?_)
  refine c_Table_copyEmpty (who := fun i => s.2.2.2.1.getD i 0) (ck_10_7 k0) hI.2 hR (by omega) (fun D1 o1 hR1 => ?_)
  -- all are seated
  have fin : ∀ D', xOut (v + 46) (v + 50) D D' → tR D' (v + 45) (nTab τ s.2.2.2.1) →
      xPf (d + 7) m_Evenings_playOfThoseLeft 10 [(0, .ref v), (1, .ref t), (2, .int (nI s.2.2.2.1.length))] [] D' (fun r D' => ∃ x, r = some (.int x) ∧ P x D') := by
      intro D' o hRc
      have hS' := hS.out o (by omega)
      have hRt := hR.out o (show t + 5 ≤ v + 46 ∨ v + 50 ≤ t + 1 by omega)
      refine s_Evenings_playOfThoseLeft_10 k0 hR.1 (c_Row_size hS'.2.2.2.2.2.1 ⟨fun _ => ?_, fun q => absurd (nI_le (Nat.le_refl _) (by omega)) q⟩)
      refine c_Evenings_shuffle k0 hRt hT hS'.1 (by omega) (fun D3 o3 w3 v3 x3 => ?_)
      have hS3 := hS'.outS o3
      rw [x3] at hS3
      have hRc3 := hRc.outS o3 (Or.inr (Or.inl rfl))
      rw [tTop_i]
      refine c_Rounds_play (r := v + 1) (a := v + 33) (U := tTop) (c := (shC τ s.1).1) (ck_10_0 k0) hRc3 cT cL (by omega) w3 bn (fun j hj => ⟨v3 j hj, by rw [c0]; exact shC_lt hT _ hj⟩) (by rw [c2, c5, ← c0, ← c1, ← c5, ← c2]; exact cF.2) ((hI.1.out o (by omega)).outS o3 (by omega)) (by omega) (by omega) (by rw [tTop_is]; omega) (fun D4 o4 hR4 g6 g7 => ?_)
      have f4 := o4.out
      have hS4 := hS3.out f4 (by omega)
      have hRc4 := hRc3.outR o4 (by omega)
      have oA : xOut v (v + 50) D D4 := (o.mono (by omega) (by omega)).trans ((o3.out.mono (by omega) (by omega)).trans (f4.mono (by omega) (by omega)))
      have hI4 : eI D4 v := ⟨hR4.1.1.2.1, hRc4.2.2.1⟩
      have hRt4 := hR.out oA (by omega)
      rw [g6, g7]
      have enr : rGo (nTab τ s.2.2.2.1) (tN τ 0 * tN τ 1) (shC τ s.1).1 tTop = nRho τ s := rfl
      rw [enr]
      have hle := rGo_le (nTab τ s.2.2.2.1) (tN τ 0 * tN τ 1) (shC τ s.1).1 tTop
      rw [enr, tTop_is] at hle
      have hlt : ∀ f, (nRho τ s).2.2.1 = some f → f < s.2.2.2.1.length := fun f hf => by rw [← c5]; exact rGo_lt hf
      have hst : nStep τ s = nNext τ s (nRho τ s).2.2.1 := rfl
      rw [hst] at h
      cases hf : (nRho τ s).2.2.1 with
      | none =>
        rw [hf] at h
        exact ⟨fun q => absurd rfl q, fun _ => ⟨_, rfl, h D4 oA hI4 hS4⟩⟩
      | some f =>
        rw [hf] at h
        have hfl := hlt f hf
        refine ⟨fun _ => ?_, fun q => absurd q (fun q => nI_pos (n := f) (by omega) (by rw [show nI f = -1 from q]; decide))⟩
        refine c_Table_lastOf hRc4 cT (by omega) (by omega) (by omega) ?_
        have hseat := tLast_lt (nTab τ s.2.2.2.1) f (nRho τ s).2.2.2 s.2.2.2.1.length (by omega)
        rw [c5]
        have h : ∀ D', xOut v (v + 50) D D' → eI D' v → nR D' v (tN τ 5) (nLet τ (shC τ s.1).2 s (tLast (nTab τ s.2.2.2.1) f (nRho τ s).2.2.2 s.2.2.2.1.length)) → P 1 D' := h
        generalize tLast (nTab τ s.2.2.2.1) f (nRho τ s).2.2.2 s.2.2.2.1.length = q at h hseat ⊢
        generalize (shC τ s.1).2 = x' at h hS4
        obtain ⟨a1, a2, a3, a4, a5, a6, a7, a8, a9, a10⟩ : D4.1 v 8 = x' ∧ rS D4 (v + 39) (tN τ 5) ∧ (∀ i, i < tN τ 5 → D4.1 (v + 40) i = nI (s.2.1 i)) ∧ rS D4 (v + 41) (tN τ 5) ∧ (∀ i, i < tN τ 5 → D4.1 (v + 42) i = oI (s.2.2.1 i)) ∧ rS D4 (v + 43) s.2.2.2.1.length ∧ (∀ i c, s.2.2.2.1[i]? = some c → D4.1 (v + 44) i = nI c) ∧
          D4.1 v 9 = nI s.2.2.2.2.1 ∧ D4.1 v 10 = -1 ∧ D4.1 v 11 = oI s.2.2.2.2.2 := hS4
        have hq := getD_at hseat
        have hqN := hall q hseat
        refine c_get a6 hseat ?_
        rw [show v + 43 + 1 = v + 44 by omega, a7 q _ hq]
        have hlc := hlet (s.2.2.2.1.getD q 0)
        unfold nLet at h
        generalize s.2.2.2.1.getD q 0 = w at h hq hqN hlc ⊢
        refine c_add a2 hqN (fun D5 o5 v5 => ?_)
        rw [show v + 39 + 1 = v + 40 by omega] at v5
        rw [a3 w hqN, nI_1] at v5
        have v5' : ∀ i, i < tN τ 5 → D5.1 (v + 40) i = nI (if i = w then s.2.1 i + 1 else s.2.1 i) := fun i hi => by
          rw [v5]
          by_cases z : i = w
          · rw [if_pos z, if_pos z, z]
          · rw [if_neg z, if_neg z]; exact a3 i hi
        refine c_get (a2.out o5 (by omega)) hqN ?_
        rw [show v + 39 + 1 = v + 40 by omega, v5, if_pos rfl]
        have hRt5 := hRt4.out o5 (by omega)
        refine c_Table_number (j := 3) hRt5 (by omega) ?_
        rw [hT.1 3 (by omega)]
        have b9 : D5.1 v 9 = nI s.2.2.2.2.1 := by rw [o5.1 _ (by omega)]; exact a8
        refine ⟨fun z D14 e14 => ⟨_, rfl, ?_⟩, fun z => ?_⟩
        · have z2 := (nI_ltI (by omega) (by omega)).mp z
          rw [if_pos z2] at h
          rw [b9, nI_1] at e14
          have o14 : xOut v (v + 1) D5 D14 := by rw [e14]; exact xOut_f D5 v 9 _
          have f14 : ∀ j, D14.1 v j = if j = 9 then nI (s.2.2.2.2.1 + 1) else D5.1 v j := fun j => by rw [e14]; show xu D5.1 v 9 _ v j = _; rw [xu_self]; rfl
          refine h D14 (oA.trans ((o5.mono (by omega) (by omega)).trans (o14.mono (by omega) (by omega)))) ((hI4.out o5 (by omega)).out o14 (by omega)) ⟨?_, (a2.out o5 (by omega)).out o14 (by omega), fun i hi => by rw [o14.1 _ (by omega)]; exact v5' i hi, (a4.out o5 (by omega)).out o14 (by omega), fun i hi => by rw [o14.1 _ (by omega), o5.1 _ (by omega)]; exact a5 i hi, (a6.out o5 (by omega)).out o14 (by omega), fun i c hc => by rw [o14.1 _ (by omega), o5.1 _ (by omega)]; exact a7 i c hc, ?_, ?_, ?_⟩
          · rw [f14, o5.1 _ (by omega)]; simpa using a1
          · rw [f14]; simp
          · rw [f14, o5.1 _ (by omega)]; simpa using a9
          · rw [f14, o5.1 _ (by omega)]; simpa using a10
        · have z2 : ¬ s.2.1 w + 1 < tN τ 3 := fun y => z (nI_lt y (by omega))
          rw [if_neg z2] at h
          rw [b9]
          refine c_set (a4.out o5 (by omega)) hqN (fun D15 o15 v15 => ?_)
          rw [show v + 41 + 1 = v + 42 by omega] at v15
          have b11 : D15.1 v 11 = oI s.2.2.2.2.2 := by rw [o15.1 _ (by omega), o5.1 _ (by omega)]; exact a10
          -- who is out first; who is left
          have last : ∀ D16 fo, xOut v (v + 1) D15 D16 → (∀ j, D16.1 v j = if j = 11 then oI fo else D15.1 v j) → fo = (if s.2.2.2.2.2 = none then some w else s.2.2.2.2.2) →
              xCv (d + 6) m_Row_remove [.ref (v + 43), .int (nI q)] D16 (fun D17 => ∀ D18 : xD, D18 = (xu D17.1 v 9 ((D17.1 v 9) + (1 : Int32)), D17.2) → ∃ x, some (Value.int (1 : Int32)) = some (.int x) ∧ P x D18) := by
            intro D16 fo o16 f16 efo
            have a6' := ((a6.out o5 (by omega)).out o15 (by omega)).out o16 (by omega)
            refine c_Row_remove a6' hseat ?_
            have o17 := xOut_rdel D16 (v + 43) s.2.2.2.1.length q
            have l17 : ∀ k, (rdel D16 (v + 43) s.2.2.2.1.length q).1 (v + 44) k = if q ≤ k ∧ k + 1 < s.2.2.2.1.length then D16.1 (v + 44) (k + 1) else D16.1 (v + 44) k := fun k => by
              show (if v + 44 = v + 43 + 1 then _ else _ : Nat → Int32) k = _
              rw [if_pos (by omega)]
            have n17 : rS (rdel D16 (v + 43) s.2.2.2.1.length q) (v + 43) (s.2.2.2.1.length - 1) := by
              refine ⟨?_, by have := a6.2.1; omega, a6.2.2⟩
              show (if v + 43 = v + 43 + 1 then _ else (rsize D16 (v + 43) (s.2.2.2.1.length - 1)).1 (v + 43) : Nat → Int32) 1 = _
              rw [if_neg (by omega)]
              show xu D16.1 (v + 43) 1 _ (v + 43) 1 = _
              rw [xu_self]; simp [upd]
            generalize rdel D16 (v + 43) s.2.2.2.1.length q = D17 at o17 l17 n17 ⊢
            intro D18 e18
            have b9' : D17.1 v 9 = nI s.2.2.2.2.1 := by rw [o17.1 _ (by omega), f16, o15.1 _ (by omega)]; simpa using b9
            rw [b9', nI_1] at e18
            have o18 : xOut v (v + 1) D17 D18 := by rw [e18]; exact xOut_f D17 v 9 _
            have f18 : ∀ j, D18.1 v j = if j = 9 then nI (s.2.2.2.2.1 + 1) else D17.1 v j := fun j => by rw [e18]; show xu D17.1 v 9 _ v j = _; rw [xu_self]; rfl
            have oB : xOut v (v + 50) D15 D18 := (o16.mono (by omega) (by omega)).trans ((o17.mono (by omega) (by omega)).trans (o18.mono (by omega) (by omega)))
            have oC : xOut v (v + 50) D D18 := oA.trans ((o5.mono (by omega) (by omega)).trans ((o15.mono (by omega) (by omega)).trans oB))
            refine ⟨_, rfl, h D18 oC ⟨((((hI4.1.out o5 (by omega)).out o15 (by omega)).out o16 (by omega)).out o17 (by omega)).out o18 (by omega), ((((hI4.2.out o5 (by omega)).out o15 (by omega)).out o16 (by omega)).out o17 (by omega)).out o18 (by omega)⟩ ⟨?_, ((((a2.out o5 (by omega)).out o15 (by omega)).out o16 (by omega)).out o17 (by omega)).out o18 (by omega), fun i hi => ?_, ((((a4.out o5 (by omega)).out o15 (by omega)).out o16 (by omega)).out o17 (by omega)).out o18 (by omega), fun i hi => ?_, ?_, fun i c hc => ?_, ?_, ?_, ?_⟩⟩
            · rw [f18, o17.1 _ (by omega), f16, o15.1 _ (by omega), o5.1 _ (by omega)]; simpa using a1
            · rw [o18.1 _ (by omega), o17.1 _ (by omega), o16.1 _ (by omega), o15.1 _ (by omega)]; exact v5' i hi
            · rw [o18.1 _ (by omega), o17.1 _ (by omega), o16.1 _ (by omega), v15]
              show _ = oI (if i = w then some s.2.2.2.2.1 else s.2.2.1 i)
              by_cases y : i = w
              · rw [if_pos y, if_pos y]; rfl
              · rw [if_neg y, if_neg y, o5.1 _ (by omega)]; exact a5 i hi
            · show rS D18 (v + 43) (s.2.2.2.1.eraseIdx q).length
              rw [List.length_eraseIdx, if_pos hseat]
              exact n17.out o18 (by omega)
            · have hc : (s.2.2.2.1.eraseIdx q)[i]? = some c := hc
              rw [List.getElem?_eraseIdx] at hc
              rw [o18.1 _ (by omega), l17]
              have v44 : ∀ k, D16.1 (v + 44) k = D4.1 (v + 44) k := fun k => by rw [o16.1 _ (by omega), o15.1 _ (by omega), o5.1 _ (by omega)]
              by_cases y : i < q
              · rw [if_pos y] at hc
                rw [if_neg (by omega), v44]; exact a7 i c hc
              · rw [if_neg y] at hc
                have := (List.getElem?_eq_some_iff.mp hc).1
                rw [if_pos ⟨by omega, by omega⟩, v44]; exact a7 _ c hc
            · rw [f18]; simp
            · rw [f18, o17.1 _ (by omega), f16, o15.1 _ (by omega), o5.1 _ (by omega)]; simpa using a9
            · rw [f18, o17.1 _ (by omega), f16]
              show _ = oI (if s.2.2.2.2.2 = none then some w else s.2.2.2.2.2)
              rw [← efo]; simp
          refine ⟨fun y D16 e16 => ?_, fun y D16 e16 => ?_⟩
          · rw [b11] at e16 y
            refine last D16 s.2.2.2.2.2 (by rw [e16]; exact xOut_f D15 v 11 _) (fun j => by rw [e16]; show xu D15.1 v 11 _ v j = _; rw [xu_self]; rfl) ?_
            rw [if_neg]
            intro z3
            exact y (by rw [z3]; rfl)
          · rw [b11] at y
            refine last D16 (some w) (by rw [e16]; exact xOut_f D15 v 11 _) (fun j => by rw [e16]; show xu D15.1 v 11 _ v j = _; rw [xu_self]; rfl) ?_
            have z3 : s.2.2.2.2.2 = none := by
              cases hx : s.2.2.2.2.2 with
              | none => rfl
              | some g =>
                exfalso
                rw [hx] at y
                exact nI_pos (hfo g hx) (by rw [show nI g = -1 from y]; decide)
            rw [if_pos z3]
  have key : ∀ m i, i + m = s.2.2.2.1.length → ∀ D', xOut (v + 46) (v + 50) D D' → tR D' (v + 45) (tSeats τ (fun i => s.2.2.2.1.getD i 0) i) →
      xPf (d + 7) m_Evenings_playOfThoseLeft 10 [(0, .ref v), (1, .ref t), (2, .int (nI i))] [] D' (fun r D' => ∃ x, r = some (.int x) ∧ P x D') := by
    intro m
    induction m with
    | zero =>
      intro i hi D' o hRc
      have ei : i = s.2.2.2.1.length := by omega
      subst ei
      exact fin D' o hRc
    | succ m ih =>
      intro i hi D' o hRc
      have hS' := hS.out o (by omega)
      have hRt := hR.out o (show t + 5 ≤ v + 46 ∨ v + 50 ≤ t + 1 by omega)
      refine s_Evenings_playOfThoseLeft_10 k0 hR.1 (c_Row_size hS'.2.2.2.2.2.1 ⟨fun q => absurd q (nI_ge (by omega) (by omega)), fun _ => ?_⟩)
      refine c_get hS'.2.2.2.2.2.1 (by omega) ?_
      rw [show v + 43 + 1 = v + 44 by omega, hS'.2.2.2.2.2.2.1 i _ (getD_at (show i < s.2.2.2.1.length by omega))]
      refine c_Table_seat (who := fun i => s.2.2.2.1.getD i 0) hRc hRt hT (by omega) (hall i (by omega)) (fun q hq => hall q (by omega)) (by omega) (fun D2 o2 hR2 => ?_)
      rw [nI_1 i]
      exact ih (i + 1) (by omega) D2 (o.trans o2) hR2
  exact key s.2.2.2.1.length 0 (by omega) D1 (o1.mono (by omega) (by omega)) hR1
end EVE
