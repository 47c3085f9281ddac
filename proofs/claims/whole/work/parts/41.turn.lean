/-! One's turn in a ROUND. -/
/-- AIM and KEEP have a KIND -/
def tLaw (τ : Nat → Int32) : Prop := ∀ p, p < tN τ 5 → tP τ p 4 = 1 ∨ tP τ p 4 = 2 → ∃ k, k < tN τ 0 ∧ τ (6 + 7 * p + 5) = nI k
/-- he takes a card, if there is one for him, and hands one on; whether he has ALIKE ones then -/
def rTurn (τ : Nat → Int32) (p : Nat) (δ : dS) (h : Nat → Nat) : dS × (Nat → Nat) × Bool :=
  match (dTake (tN τ 5) p δ).1 with
  | none => ((dTake (tN τ 5) p δ).2, h, false)
  | some c =>
    let δ1 := (dTake (tN τ 5) p δ).2
    let k := (chS (tP τ p 4) (τ (6 + 7 * p + 5)) (δ1.1 p) (tN τ 0) c).toNatClampNeg
    (dHand p k δ1, fun i => if i = p then h i + 1 else h i, (dHand p k δ1).1 p c == tN τ 2)
theorem rTurn_none {τ : Nat → Int32} {p : Nat} {δ : dS} {h : Nat → Nat} (hx : (dTake (tN τ 5) p δ).1 = none) : rTurn τ p δ h = ((dTake (tN τ 5) p δ).2, h, false) := by
  unfold rTurn; rw [hx]
theorem rTurn_some {τ : Nat → Int32} {p c k : Nat} {δ : dS} {h : Nat → Nat} (hx : (dTake (tN τ 5) p δ).1 = some c) (hk : chS (tP τ p 4) (τ (6 + 7 * p + 5)) ((dTake (tN τ 5) p δ).2.1 p) (tN τ 0) c = nI k) (h31 : k < 2 ^ 31) :
    rTurn τ p δ h = (dHand p k (dTake (tN τ 5) p δ).2, fun i => if i = p then h i + 1 else h i, (dHand p k (dTake (tN τ 5) p δ).2).1 p c == tN τ 2) := by
  unfold rTurn; rw [hx]; simp only []; rw [hk, nI_clamp h31]
theorem dTake_other {N p q : Nat} {δ : dS} (h : q ≠ p) : (dTake N p δ).2.1 q = δ.1 q ∧ (dTake N p δ).2.2.1 q = δ.2.1 q := by
  unfold dTake dTake1
  cases hx : dSw N p δ p with
  | nil => exact ⟨by simp [hx], by simp [hx]⟩
  | cons c l =>
    simp only [hx]
    refine ⟨funext fun k => ?_, ?_⟩
    · show (if q = p ∧ k = c then δ.1 q k + 1 else δ.1 q k) = _
      rw [if_neg (fun z => h z.1)]
    · show (if q = p then δ.2.1 q + 1 else δ.2.1 q) = _
      rw [if_neg h]
theorem dTake_none {N p : Nat} {δ : dS} (h : (dTake N p δ).1 = none) : (dTake N p δ).2.1 = δ.1 ∧ (dTake N p δ).2.2.1 = δ.2.1 := by
  unfold dTake dTake1 at h ⊢
  cases hx : dSw N p δ p with
  | nil => exact ⟨by simp [hx], by simp [hx]⟩
  | cons c l => simp only [hx] at h; cases h
/-- what a turn keeps -/
theorem rTurn_ok {τ : Nat → Int32} {p n : Nat} {δ : dS} {h : Nat → Nat} (hT : tOK τ) (hL : tLaw τ) (hW : dW (tN τ 5) (tN τ 0) n δ) (hp : p < tN τ 5) (hA : ∀ q, q < tN τ 5 → δ.2.1 q = tN τ 2) :
    dW (tN τ 5) (tN τ 0) n (rTurn τ p δ h).1 ∧ (∀ q, q < tN τ 5 → (rTurn τ p δ h).1.2.1 q = tN τ 2) ∧ (∀ q, q ≠ p → (rTurn τ p δ h).1.1 q = δ.1 q) := by
  have hK := hT.2.1.2
  have ht := dW_take hW hK hp
  cases hx : (dTake (tN τ 5) p δ).1 with
  | none =>
    rw [rTurn_none hx]
    have := dTake_none hx
    exact ⟨ht.1, fun q hq => by rw [this.2]; exact hA q hq, fun q _ => by rw [this.1]⟩
  | some c =>
    obtain ⟨c1, c2, c3⟩ := ht.2 c hx
    obtain ⟨k, k1, k2, k3⟩ := chS_ok (law := tP τ p 4) (kd := τ (6 + 7 * p + 5)) (f := (dTake (tN τ 5) p δ).2.1 p) hK c1 (by rw [c3]; omega) (hL p hp)
    rw [rTurn_some hx k3 (by omega)]
    have hh := dW_hand ht.1 hK hp k2
    refine ⟨hh.1, fun q hq => ?_, fun q hq => ?_⟩
    · show (if q = p then (dTake (tN τ 5) p δ).2.2.1 q - 1 else (dTake (tN τ 5) p δ).2.2.1 q) = _
      by_cases e : q = p
      · rw [if_pos e, e, c2, hA p hp]; omega
      · rw [if_neg e, (dTake_other e).2, hA q hq]
    · funext j
      show (if q = p ∧ j = k then _ else (dTake (tN τ 5) p δ).2.1 q j) = _
      rw [if_neg (fun z => hq z.1), (dTake_other hq).1]
section TURN
variable {d : Nat} {D : xD} {r t p n : Nat} {τ : Nat → Int32} {δ : dS} {h : Nat → Nat}
theorem c_Rounds_choice {P : Int32 → xD → Prop} {took : Nat} (k0 : xk r = 9) (hR : tR D t τ) (hT : tOK τ) (hD : dR D (r + 1) (tN τ 5) (tN τ 2) (tN τ 0) δ) (hW : dW (tN τ 5) (tN τ 0) n δ) (hp : p < tN τ 5)
    (hh : P (chS (tP τ p 4) (τ (6 + 7 * p + 5)) (δ.1 p) (tN τ 0) took) D) : xCi (d + 3) m_Rounds_choice [.ref r, .ref t, .int (nI p), .int (nI took)] D P := by
  have b5 := hT.2.2.2.2.2.2.1
  have bK := hT.2.1.2
  obtain ⟨q1, -, -, -, -, q4, -⟩ := hT.2.2.2.2.2.2.2 p hp
  refine xCi_of y_Rounds_choice (Nat.le_of_ble_eq_true rfl) (s_Rounds_choice_0 k0 hR.1 ?_)
  refine c_Table_of (w := 5) hR b5 hp (by omega) (c_Table_of (w := 4) hR b5 hp (by omega) ?_)
  rw [q1 4 (by omega) (by omega)]
  unfold chS at hh
  have inj : ∀ v : Nat, v < 10 → nI (tP τ p 4) = nI v → tP τ p 4 = v := fun v hv q => (nI_eq (by omega) (by omega)).mp q
  refine ⟨fun c => ?_, fun c => ?_, fun c => ?_, fun c => ?_⟩
  · rw [if_pos (inj 1 (by omega) c)] at hh
    exact c_Deal_greatest hD hW b5 bK hp ⟨_, rfl, hh⟩
  · have e := inj 2 (by omega) c
    rw [if_neg (by omega), if_pos e] at hh
    exact c_Deal_fewest hD hW b5 bK hp ⟨_, rfl, hh⟩
  · have e := inj 3 (by omega) c
    rw [if_neg (by omega), if_neg (by omega), if_pos e] at hh
    exact ⟨_, rfl, hh⟩
  · rw [nI_toInt (by omega)] at c
    rw [if_neg (by omega), if_neg (by omega), if_neg (by omega)] at hh
    exact c_Deal_fewest hD hW b5 bK hp ⟨_, rfl, hh⟩
theorem c_Rounds_turn {P : Int32 → xD → Prop} (k0 : xk r = 9) (hR : tR D t τ) (hT : tOK τ) (hL : tLaw τ) (hD : dR D (r + 1) (tN τ 5) (tN τ 2) (tN τ 0) δ) (hW : dW (tN τ 5) (tN τ 0) n δ) (hA : ∀ q, q < tN τ 5 → δ.2.1 q = tN τ 2)
    (hr : rS D (r + 12) (tN τ 5)) (hv : ∀ i, i < tN τ 5 → D.1 (r + 13) i = nI (h i)) (hp : p < tN τ 5) (ht : t + 5 ≤ r + 1 ∨ r + 14 ≤ t)
    (hh : ∀ D', xOut (r + 1) (r + 14) D D' → dR D' (r + 1) (tN τ 5) (tN τ 2) (tN τ 0) (rTurn τ p δ h).1 → rS D' (r + 12) (tN τ 5) → (∀ i, i < tN τ 5 → D'.1 (r + 13) i = nI ((rTurn τ p δ h).2.1 i)) → P (if (rTurn τ p δ h).2.2 = true then 1 else 0) D') :
    xCi (d + 5) m_Rounds_turn [.ref r, .ref t, .int (nI p)] D P := by
  have b5 := hT.2.2.2.2.2.2.1
  have bK := hT.2.1.2
  have bA := hT.2.2.2.1
  have h52 : (δ.2.2 0).length ≤ 52 := by
    obtain ⟨hl, al, _, _, _, z⟩ := hD.2.2.2.2.2.2.2.2
    exact (z 0 (by omega)).2.1
  have htk := dW_take hW bK hp
  refine xCi_of y_Rounds_turn (Nat.le_of_ble_eq_true rfl) (s_Rounds_turn_0 k0 hR.1 ?_)
  refine c_Deal_take hD b5 hp h52 (fun D1 o1 hD1 => ?_)
  have hr1 : rS D1 (r + 12) (tN τ 5) := hr.out o1 (by omega)
  have hv1 : ∀ i, i < tN τ 5 → D1.1 (r + 13) i = nI (h i) := fun i hi => by rw [o1.1 _ (by omega)]; exact hv i hi
  cases hx : (dTake (tN τ 5) p δ).1 with
  | none =>
    rw [rTurn_none hx] at hh
    exact ⟨fun c => absurd rfl c, fun _ => ⟨_, rfl, hh D1 (o1.mono (by omega) (by omega)) hD1 hr1 hv1⟩⟩
  | some c =>
    obtain ⟨c1, c2, c3⟩ := htk.2 c hx
    obtain ⟨k, g1, g2, g3⟩ := chS_ok (law := tP τ p 4) (kd := τ (6 + 7 * p + 5)) (f := (dTake (tN τ 5) p δ).2.1 p) bK c1 (by rw [c3]; omega) (hL p hp)
    rw [rTurn_some hx g3 (by omega)] at hh
    obtain ⟨w1, w2, w3, w4⟩ := dW_hand htk.1 bK hp g2
    refine ⟨fun _ => ?_, fun q => absurd q (fun q => nI_pos (n := c) (by omega) (by rw [show nI c = -1 from q]; decide))⟩
    have hR1 := hR.out o1 (by omega)
    refine c_Rounds_choice k0 hR1 hT hD1 htk.1 hp ?_
    rw [g3]
    refine c_Deal_handOn hD1 b5 hp (by omega) g2 w2 w3 (fun D2 o2 hD2 => ?_)
    refine c_Row_add (hr1.out o2 (by omega)) ?_
    rw [radd_in _ _ _ hp (by omega), show r + 12 + 1 = r + 13 by omega]
    have v2 : D2.1 (r + 13) p = nI (h p) := by rw [o2.1 _ (by omega)]; exact hv1 p hp
    rw [v2, nI_1]
    have o3 : xOut (r + 13) (r + 14) D2 (xu D2.1 (r + 13) p (nI (h p + 1)), D2.2) := ⟨fun i hi => xu_ne _ _ _ (by omega), rfl⟩
    have hD3 : dR (xu D2.1 (r + 13) p (nI (h p + 1)), D2.2) (r + 1) (tN τ 5) (tN τ 2) (tN τ 0) (dHand p k (dTake (tN τ 5) p δ).2) := hD2.out o3 (by omega)
    refine c_Deal_holdsOf hD3 b5 hp (by omega) ?_
    refine c_Table_alike (((hR1.out o2 (by omega))).out o3 (by omega)) hT ?_
    have hfin := hh (xu D2.1 (r + 13) p (nI (h p + 1)), D2.2) (((o1.mono (by omega) (by omega)).trans (o2.mono (by omega) (by omega))).trans (o3.mono (by omega) (by omega))) hD3 ((hr1.out o2 (by omega)).out o3 (by omega)) (fun i hi => by
      show xu D2.1 (r + 13) p (nI (h p + 1)) (r + 13) i = nI (if i = p then h i + 1 else h i)
      rw [xu_self]
      unfold upd
      by_cases q : i = p
      · rw [if_pos q, if_pos q, q]
      · rw [if_neg q, if_neg q, o2.1 _ (by omega)]; exact hv1 i hi)
    have bh := w1.hd hp (show c < 13 by omega)
    refine ⟨fun q => ⟨_, rfl, ?_⟩, fun q => ⟨_, rfl, ?_⟩⟩
    · rw [if_neg (fun z => q (by rw [eq_of_beq z]))] at hfin; exact hfin
    · rw [if_pos (beq_iff_eq.mpr ((nI_eq (by omega) (by omega)).mp q))] at hfin; exact hfin
end TURN
