/-! The reference SHUFFLES. -/
/-- nothing but the pack and what is drawn by has changed -/
def mSh (D D' : xD) : Prop := (∀ i, i ≠ 325 → i ≠ 345 → D'.1 i = D.1 i ∧ D'.2 i = D.2 i) ∧ ∀ j, j ≠ 40 → j ≠ 59 → D'.1 325 j = D.1 325 j
theorem mSh.trans {D D1 D2 : xD} (h1 : mSh D D1) (h2 : mSh D1 D2) : mSh D D2 :=
  ⟨fun i a b => ⟨((h2.1 i a b).1).trans (h1.1 i a b).1, ((h2.1 i a b).2).trans (h1.1 i a b).2⟩, fun j a b => (h2.2 j a b).trans (h1.2 j a b)⟩
theorem mSh.rfl' {D : xD} : mSh D D := ⟨fun _ _ _ => ⟨rfl, rfl⟩, fun _ _ _ => rfl⟩
theorem mF.sh {lo hi f g : Nat} {D D1 : xD} (h : mF lo hi f g D D1) (q1 : ∀ i, i ≠ 345 → i < lo ∨ hi ≤ i) (q2 : ∀ j, j ≠ 40 → j ≠ 59 → j < f ∨ g ≤ j) : mSh D D1 := ⟨fun i a b => h.1 i a (q1 i b), fun j a b => h.2 j (q2 j a b)⟩
theorem mSh.o {D D' : xD} (h : mSh D D') : mO D D' := fun i a b => h.1 i a (by omega)
/-- the pack: so many cards -/
def mPk (D : xD) (n : Nat) (c : Nat → Nat) : Prop := D.1 325 40 = nI n ∧ ∀ j, j < n → D.1 345 j = nI (c j)
section MSHUF
variable {d : Nat} {D : xD} {g : gS} {τ : Nat → Int32}
theorem c_M_draw {P : Int32 → xD → Prop} {b : Nat} {x : Int32} (hx : D.1 325 59 = x) (hb : 0 < b) (hb2 : b < 2 ^ 31) (h : ∀ D', mF 0 0 59 60 D D' → D'.1 325 59 = rnd x → P (nI (rn (rnd x) % b)) D') : xCi (d + 1) m_M_draw [.ref 325, .int (nI b)] D P := by
  refine xCi_of y_M_draw (Nat.le_of_ble_eq_true rfl) (s_M_draw_0 xk_M (fun D1 e1 => ⟨nI_ne0 hb hb2, _, rfl, ?_⟩))
  obtain ⟨o1, f1⟩ := mf e1
  rw [hx] at f1
  have f1' : D1.1 325 59 = rnd x := f1
  have hlt := rn_lt (rnd x)
  rw [f1', rn_is, pk_rem (by omega) hb hb2]
  exact h D1 o1 f1'
theorem c_M_shuffle {P : xD → Prop} {x : Int32} (hT : tOK τ) (e27 : D.1 325 27 = τ 0) (e28 : D.1 325 28 = τ 1) (hx : D.1 325 59 = x) (h : ∀ D', mSh D D' → mPk D' (tN τ 0 * tN τ 1) (shC τ x).1 → D'.1 325 59 = (shC τ x).2 → P D') : xCv (d + 2) m_M_shuffle [.ref 325] D P := by
  have l20 : xl (325 + 20) = 52 := cl_13_39 xk_M
  have bC := hT.2.2.1
  have p52 := pack_le hT
  have p2 := pack_ge hT
  refine xCv_of y_M_shuffle (Nat.le_of_ble_eq_true rfl) (s_M_shuffle_0 xk_M (fun D1 e1 => ?_))
  obtain ⟨o1, f1⟩ := mf e1
  rw [e27, e28, hT.1 0 (by omega), hT.1 1 (by omega), pk_mul] at f1
  have e28' : D1.1 325 28 = nI (tN τ 1) := by rw [o1.2 28 (by omega), e28]; exact hT.1 1 (by omega)
  have s1 : mSh D D1 := o1.sh (by omega) (by omega)
  have x1 : D1.1 325 59 = x := by rw [o1.2 59 (by omega)]; exact hx
  -- from a place down
  have down : ∀ i c y D', i < tN τ 0 * tN τ 1 → mSh D D' → mPk D' (tN τ 0 * tN τ 1) c → D'.1 325 59 = y → shf i c y = shC τ x → xPf (d + 2) m_M_shuffle 48 [(0, .ref 325), (1, .int (nI i))] [] D' (fun r D' => r = none ∧ P D') := by
    intro i
    induction i with
    | zero =>
      intro c y D' _ s pk ey e
      rw [shf_0] at e
      refine s_M_shuffle_48 xk_M ⟨fun _ => ⟨rfl, h D' s (by rw [← e]; exact pk) (by rw [← e]; exact ey)⟩, fun z => absurd (by decide) z⟩
    | succ i ih =>
      intro c y D' hi s pk ey e
      rw [shf_s] at e
      have hm := Nat.mod_lt (rn (rnd y)) (show 0 < i + 2 by omega)
      refine s_M_shuffle_48 xk_M ⟨fun z => absurd z (nI_nle (by omega) (by omega)), fun _ => ?_⟩
      rw [nI_1]
      refine c_M_draw ey (by omega) (by omega) (fun D2 o2 f2 => ?_)
      have s345 : D2.1 (325 + 20) = D'.1 345 := (o2.1 345 (by omega) (by omega)).1
      generalize hr : rn (rnd y) % (i + 2) = r at hm e ⊢
      have ip : vp_in (nI (i + 1)) (xl (325 + 20)) := by rw [l20]; exact vp_in_nI (by omega) (by omega)
      have ir : vp_in (nI r) (xl (325 + 20)) := by rw [l20]; exact vp_in_nI (by omega) (by omega)
      rw [s345, nI_clamp (n := i + 1) (by omega), nI_clamp (n := r) (by omega), pk.2 (i + 1) hi, pk.2 r (by omega)]
      refine ⟨ip, ir, ip, fun D3 e3 => ⟨ir, fun D4 e4 => ?_⟩⟩
      obtain ⟨o3, v3⟩ := ma (by omega) e3
      obtain ⟨o4, v4⟩ := ma (by omega) e4
      have v3' : ∀ j, D3.1 345 j = if j = i + 1 then nI (c r) else D'.1 345 j := fun j => by
        have := v3 j
        rw [s345] at this
        exact this
      have v4' : ∀ j, D4.1 345 j = if j = r then nI (c (i + 1)) else D3.1 345 j := v4
      rw [pk_m1]
      have s24 : mSh D' D4 := (o2.sh (by omega) (by omega)).trans ((o3.sh (by omega) (by omega)).trans (o4.sh (by omega) (by omega)))
      refine ih (swp c (i + 1) r) (rnd y) D4 (by omega) (s.trans s24) ⟨?_, fun j hj => ?_⟩ ?_ e
      · rw [o4.2 40 (by omega), o3.2 40 (by omega), o2.2 40 (by omega)]; exact pk.1
      · rw [v4', v3']
        unfold swp
        by_cases z : j = r
        · rw [if_pos z, if_pos z]
        · rw [if_neg z, if_neg z]
          by_cases w : j = i + 1
          · rw [if_pos w, if_pos w]
          · rw [if_neg w, if_neg w]; exact pk.2 j hj
      · rw [o4.2 59 (by omega), o3.2 59 (by omega)]; exact f2
  have up : ∀ m k, k + m = tN τ 0 * tN τ 1 → ∀ D', mF 345 346 0 0 D1 D' → (∀ j, j < k → D'.1 345 j = nI (j / tN τ 1)) → xPf (d + 2) m_M_shuffle 15 [(0, .ref 325), (1, .int (nI k))] [] D' (fun r D' => r = none ∧ P D') := by
    intro m
    induction m with
    | zero =>
      intro k hk D' o v
      refine s_M_shuffle_15 xk_M ?_
      rw [o.2 40 (by omega), f1, show nI (tN τ 0 * tN τ 1) - (1 : Int32) = nI (tN τ 0 * tN τ 1 - 1) from pk_sub (b := 1) (by omega)]
      refine ⟨fun _ => ?_, fun z => absurd (nI_le (by omega) (by omega)) z⟩
      exact down (tN τ 0 * tN τ 1 - 1) (fun k => k / tN τ 1) x D' (by omega) (s1.trans (o.sh (by omega) (by omega))) ⟨by rw [o.2 40 (by omega)]; exact f1, fun j hj => v j (by omega)⟩ (by rw [o.2 59 (by omega)]; exact x1) rfl
    | succ m ih =>
      intro k hk D' o v
      refine s_M_shuffle_15 xk_M ?_
      rw [o.2 40 (by omega), f1, o.2 28 (by omega), e28', nI_clamp (by omega), pk_div (by omega) (by omega) (by omega), nI_1 k, l20]
      refine ⟨fun z => absurd z (nI_ge (by omega) (by omega)), fun _ => ⟨nI_ne0 (by omega) (by omega), vp_in_nI (by omega) (by omega), fun D2 e2 => ?_⟩⟩
      obtain ⟨o2, v2⟩ := ma (by omega) e2
      have v2' : ∀ j, D2.1 345 j = if j = k then nI (k / tN τ 1) else D'.1 345 j := v2
      refine ih (k + 1) (by omega) D2 (o.trans (o2.m (by omega) (by omega))) (fun j hj => ?_)
      rw [v2']
      by_cases z : j = k
      · rw [if_pos z, z]
      · rw [if_neg z]; exact v j (by omega)
  exact up (tN τ 0 * tN τ 1) 0 (by omega) D1 mF.rfl' (fun j hj => absurd hj (Nat.not_lt_zero _))
theorem c_M_shuffled {P : Int32 → xD → Prop} {x seed k : Int32} (hI : mI D g) (h : ∀ D', mO D D' → P (aShuffled g.1 x seed k) D') : xCi (d + 40) m_M_shuffled [.ref 325, .int x, .int seed, .int k] D P := by
  have l20 : xl (325 + 20) = 52 := cl_13_39 xk_M
  refine xCi_of y_M_shuffled (Nat.le_of_ble_eq_true rfl) (s_M_shuffled_0 xk_M (fun D1 e1 => ?_))
  obtain ⟨o1, I1⟩ := m_0 hI e1
  unfold aShuffled at h
  refine c_M_hand I1 (fun q => z0' ⟨_, rfl, ?_⟩) (fun τ q hT hL hF D2 o2 I2 H2 S2 W2 => z1' (fun D4 e4 => ?_))
  · rw [q] at h; exact h D1 o1
  · simp only [q] at h
    have p52 := pack_le hT
    obtain ⟨o4, f4⟩ := mf e4
    refine c_M_shuffle hT (by rw [o4.2 27 (by omega)]; exact H2.2.1) (by rw [o4.2 28 (by omega)]; exact H2.2.2.1) f4 (fun D5 s5 pk x5 => ?_)
    have o := o1.trans ((o2.o (by omega)).trans ((o4.o (by omega)).trans s5.o))
    rw [pk.1]
    refine c_M_in0 (tN τ 0 * tN τ 1) (by omega) rfl (fun q1 => z0 ⟨_, rfl, ?_⟩) (fun i q1 hi hk => z1 ?_)
    · rw [q1] at h; exact h D5 o
    · simp only [q1] at h
      have pi : D5.1 (325 + 20) i = nI ((shC τ seed).1 i) := pk.2 i hi
      rw [hk, nI_clamp (by omega), pi]
      exact ⟨by rw [l20]; exact vp_in_nI (by omega) (by omega), _, rfl, h D5 o⟩
end MSHUF
