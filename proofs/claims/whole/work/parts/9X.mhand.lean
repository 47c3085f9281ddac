/-! The reference: a hand at a table. -/
/-- the cards that are told of a hand, those that he has first -/
def hdL (η : Nat → Int32) : List Nat := hdH η ++ hdG η
theorem hdL_len (η : Nat → Int32) : (hdL η).length = tN η 0 + tN η 1 := by
  unfold hdL; rw [List.length_append, hdH_len, hdG_len]
theorem hdL_at {η : Nat → Int32} {i : Nat} (hi : i < tN η 0 + tN η 1) : (hdL η)[i]? = some (tN η (if i < tN η 0 then 2 + i else 6 + (i - tN η 0))) := by
  unfold hdL hdH hdG
  by_cases z : i < tN η 0
  · rw [List.getElem?_append_left (by rw [List.length_map, List.length_range]; exact z), List.getElem?_map, List.getElem?_range z, if_pos z]; rfl
  · rw [List.getElem?_append_right (by rw [List.length_map, List.length_range]; omega), List.length_map, List.length_range, List.getElem?_map, List.getElem?_range (by omega), if_neg z]; rfl
theorem take_snoc {l : List Nat} {i c : Nat} (h : l[i]? = some c) : l.take (i + 1) = l.take i ++ [c] := by
  rw [List.take_add_one, h]; rfl
/-- the hand as it lies: what he has, what is unseen, how many of these -/
def mHf (D : xD) (h u : Nat → Nat) (N : Nat) : Prop := (∀ k, k < 13 → D.1 358 k = nI (h k)) ∧ (∀ k, k < 13 → D.1 359 k = nI (u k)) ∧ D.1 325 68 = nI N
theorem mHf.fr {D D' : xD} {lo hi f g : Nat} {h u : Nat → Nat} {N : Nat} (X : mHf D h u N) (o : mF lo hi f g D D') (q : 359 < lo ∨ hi ≤ 358) (r : 68 < f ∨ g ≤ 68) : mHf D' h u N :=
  ⟨fun k hk => by rw [(o.1 358 (by omega) (by omega)).1]; exact X.1 k hk, fun k hk => by rw [(o.1 359 (by omega) (by omega)).1]; exact X.2.1 k hk, by rw [o.2 68 r]; exact X.2.2⟩
section MHAND
variable {d : Nat} {D : xD} {g : gS} {τ η : Nat → Int32}
theorem c_M_layHand {P : Int32 → xD → Prop} {i : Nat} (hT : tOK τ) (hO : hdOK η) (H : mH D τ) (hi : i < 2) (tx : ∀ j, j < 54 → D.1 334 (54 * i + j) = η j)
    (h1 : fitHd τ η → ∀ D', mF 358 360 68 69 D D' → mHf D' (hh η) (hu τ η) (hN τ η) → P 1 D') (h0 : ¬ fitHd τ η → ∀ D', mF 358 360 68 69 D D' → P 0 D') : xCi (d + 1) m_M_layHand [.ref 325, .int (nI i)] D P := by
  have l9 : xl (325 + 9) = 432 := cl_13_9 xk_M
  have l33 : xl (325 + 33) = 13 := cl_13_66 xk_M
  have l34 : xl (325 + 34) = 13 := cl_13_67 xk_M
  have bA := hT.2.2.2.1
  have bK := hT.2.1
  have bC := hT.2.2.1
  have p52 := pack_le hT
  obtain ⟨y0, y4, y1, y48, yh, yg⟩ := id hO
  have len := hdL_len η
  have e54 : (54 : Int32) * nI i = nI (54 * i) := pk_mul 54 i
  have t0 : D.1 (325 + 9) (54 * i) = nI (tN η 0) := by rw [← y0]; exact tx 0 (by omega)
  have t1 : D.1 (325 + 9) (54 * i + 1) = nI (tN η 1) := by rw [← y1]; exact tx 1 (by omega)
  have i9 : ∀ j, j < 54 → vp_in (nI (54 * i + j)) (xl (325 + 9)) := fun j hj => by rw [l9]; exact vp_in_nI (by omega) (by omega)
  have i33 : ∀ c, c < 13 → vp_in (nI c) (xl (325 + 33)) := fun c hc => by rw [l33]; exact vp_in_nI hc (by omega)
  have i34 : ∀ c, c < 13 → vp_in (nI c) (xl (325 + 34)) := fun c hc => by rw [l34]; exact vp_in_nI hc (by omega)
  have g27 : D.1 325 27 = nI (tN τ 0) := by rw [H.2.1]; exact hT.1 0 (by omega)
  have g28 : D.1 325 28 = nI (tN τ 1) := by rw [H.2.2.1]; exact hT.1 1 (by omega)
  have g29 : D.1 325 29 = nI (tN τ 2) := by rw [H.2.2.2.1]; exact hT.1 2 (by omega)
  -- card by card
  have cards : ∀ m k, k + m = tN η 0 + tN η 1 → ∀ D' b, mF 358 360 68 69 D D' → (∀ j, j < 13 → D'.1 358 j = nI ((((hdH η).take k)).count j)) → (∀ j, j < 13 → D'.1 359 j = nI (u0 (tN τ 0) (tN τ 1) j) - nI (((hdL η).take k).count j)) → D'.1 325 68 = nI (tN τ 0 * tN τ 1) - nI k →
      ((b = 1 ∧ tN η 0 = tN τ 2 ∧ okL (tN τ 0) (tN τ 1) ((hdL η).take k)) ∨ (b = 0 ∧ ¬ (tN η 0 = tN τ 2 ∧ okL (tN τ 0) (tN τ 1) ((hdL η).take k)))) →
      xPf (d + 1) m_M_layHand 88 [(0, .ref 325), (1, .int (nI i)), (2, .int (nI (54 * i))), (3, .int b), (4, .int (nI k))] [] D' (fun r D' => ∃ v, r = some (.int v) ∧ P v D') := by
    intro m
    induction m with
    | zero =>
      intro k hk D' b o v1 v2 v3 hb
      have f0 : D'.1 (325 + 9) (54 * i) = nI (tN η 0) := by rw [(o.1 (325 + 9) (by omega) (by omega)).1]; exact t0
      have f1 : D'.1 (325 + 9) (54 * i + 1) = nI (tN η 1) := by rw [(o.1 (325 + 9) (by omega) (by omega)).1]; exact t1
      have ek : k = tN η 0 + tN η 1 := by omega
      refine s_M_layHand_88 xk_M ?_
      rw [nI_1 (54 * i), nI_clamp (n := 54 * i) (by omega), nI_clamp (n := 54 * i + 1) (by omega), f0, f1, nI_add]
      refine ⟨i9 0 (by omega), i9 1 (by omega), fun _ => ?_, fun z => absurd (nI_le (by omega) (by omega)) z⟩
      have tk : (hdL η).take k = hdL η := List.take_of_length_le (by omega)
      have tk2 : (hdH η).take k = hdH η := List.take_of_length_le (by rw [hdH_len]; omega)
      rw [tk] at hb v2
      rw [tk2] at v1
      rcases hb with ⟨rfl, a1, a2⟩ | ⟨rfl, a⟩
      · have hf : fitHd τ η := ⟨by rw [hdH_len]; exact a1, a2⟩
        refine ⟨Or.inr rfl, _, rfl, h1 hf D' o ⟨fun j hj => v1 j hj, fun j hj => ?_, ?_⟩⟩
        · rw [v2 j hj, pk_sub (a2 j hj)]; rfl
        · have hs := hu_sum hT hO hf
          have h2 := sm_count (L := hdL η) (hd_lt hO)
          have h3 := sm_mono (f := fun k => (hdL η).count k) (g := u0 (tN τ 0) (tN τ 1)) (n := 13) (fun j hj => a2 j hj)
          rw [sm_u0, Nat.min_eq_right (by omega)] at h3
          rw [v3, pk_sub (by omega)]
          unfold hN
          rw [ek]
      · refine ⟨Or.inl rfl, _, rfl, h0 (fun hf => a ⟨by rw [← hdH_len]; exact hf.1, hf.2⟩) D' o⟩
    | succ m ih =>
      intro k hk D' b o v1 v2 v3 hb
      have f0 : D'.1 (325 + 9) (54 * i) = nI (tN η 0) := by rw [(o.1 (325 + 9) (by omega) (by omega)).1]; exact t0
      have f1 : D'.1 (325 + 9) (54 * i + 1) = nI (tN η 1) := by rw [(o.1 (325 + 9) (by omega) (by omega)).1]; exact t1
      have hc := hdL_at (η := η) (i := k) (by omega)
      have tks := take_snoc hc
      generalize ec : tN η (if k < tN η 0 then 2 + k else 6 + (k - tN η 0)) = c at hc tks
      have c13 : c < 13 := hd_lt hO c (List.mem_iff_getElem?.mpr ⟨k, hc⟩)
      have cl : ((hdL η).take k).count c ≤ k := Nat.le_trans List.count_le_length (by rw [List.length_take]; omega)
      -- it is seen
      have seen : ∀ (a : Int32), (a = if k < tN η 0 then 1 else 0) → ∀ D1 : xD, D1 = (xu D'.1 (325 + 33) (nI c).toNatClampNeg (D'.1 (325 + 33) (nI c).toNatClampNeg + a), D'.2) → vp_in (nI c) (xl (325 + 34)) ∧ vp_in (nI c) (xl (325 + 34)) ∧ ∀ D2 : xD, D2 = (xu D1.1 (325 + 34) (nI c).toNatClampNeg (D1.1 (325 + 34) (nI c).toNatClampNeg - (1 : Int32)), D1.2) → ∀ D3 : xD, D3 = (xu D2.1 325 68 (D2.1 325 68 - (1 : Int32)), D2.2) →
          (b = 0 → xPf (d + 1) m_M_layHand 88 [(0, .ref 325), (1, .int (nI i)), (2, .int (nI (54 * i))), (3, .int (0 : Int32)), (4, .int (nI k + (1 : Int32)))] [] D3 (fun r D' => ∃ v, r = some (.int v) ∧ P v D')) ∧ (¬ b = 0 → vp_in (nI c) (xl (325 + 34)) ∧ (D3.1 (325 + 34) (nI c).toNatClampNeg < 0 → xPf (d + 1) m_M_layHand 88 [(0, .ref 325), (1, .int (nI i)), (2, .int (nI (54 * i))), (3, .int (0 : Int32)), (4, .int (nI k + (1 : Int32)))] [] D3 (fun r D' => ∃ v, r = some (.int v) ∧ P v D')) ∧ (¬ D3.1 (325 + 34) (nI c).toNatClampNeg < 0 → xPf (d + 1) m_M_layHand 88 [(0, .ref 325), (1, .int (nI i)), (2, .int (nI (54 * i))), (3, .int (1 : Int32)), (4, .int (nI k + (1 : Int32)))] [] D3 (fun r D' => ∃ v, r = some (.int v) ∧ P v D'))) := by
        intro a ea D1 e1
        rw [nI_clamp (n := c) (by omega)] at e1 ⊢
        refine ⟨i34 c c13, i34 c c13, fun D2 e2 D3 e3 => ?_⟩
        obtain ⟨o1, w1⟩ := ma (by omega) e1
        obtain ⟨o2, w2⟩ := ma (by omega) e2
        obtain ⟨o3, w3⟩ := mf e3
        have w1' : ∀ j, D3.1 358 j = if j = c then D'.1 358 c + a else D'.1 358 j := fun j => by
          rw [(o3.1 358 (by omega) (by omega)).1, (o2.1 358 (by omega) (by omega)).1]; exact w1 j
        have w2' : ∀ j, D3.1 359 j = if j = c then D'.1 359 c - 1 else D'.1 359 j := fun j => by
          rw [(o3.1 359 (by omega) (by omega)).1, ← (o1.1 359 (by omega) (by omega)).1]; exact w2 j
        have u1 : ∀ j, j < 13 → D3.1 358 j = nI (((hdH η).take (k + 1)).count j) := fun j hj => by
          rw [w1', v1 c c13, v1 j hj]
          by_cases z : k < tN η 0
          · rw [if_pos z] at ea
            have hk1 : (hdH η)[k]? = some c := by
              have := hc
              unfold hdL at this
              rw [List.getElem?_append_left (by rw [hdH_len]; exact z)] at this
              exact this
            rw [take_snoc hk1, count_snoc, ea, nI_1]
            by_cases y : j = c
            · rw [if_pos y, if_pos y.symm, y]
            · rw [if_neg y, if_neg (fun x => y x.symm)]; rfl
          · rw [if_neg z] at ea
            rw [List.take_of_length_le (by rw [hdH_len]; omega), List.take_of_length_le (by rw [hdH_len]; omega), ea]
            by_cases y : j = c
            · rw [if_pos y, y]; exact nI_add _ 0
            · rw [if_neg y]
        have u2 : ∀ j, j < 13 → D3.1 359 j = nI (u0 (tN τ 0) (tN τ 1) j) - nI (((hdL η).take (k + 1)).count j) := fun j hj => by
          rw [w2', tks, count_snoc]
          by_cases y : j = c
          · rw [if_pos y, if_pos y.symm, v2 c c13, nI_subS', y]
          · rw [if_neg y, if_neg (fun x => y x.symm), v2 j hj]; rfl
        have u3 : D3.1 325 68 = nI (tN τ 0 * tN τ 1) - nI (k + 1) := by
          rw [w3, o2.2 68 (by omega), o1.2 68 (by omega), v3, nI_subS']
        have oo : mF 358 360 68 69 D D3 := o.trans ((o1.m (by omega) (by omega)).trans ((o2.m (by omega) (by omega)).trans (o3.m (by omega) (by omega))))
        have iff1 : okL (tN τ 0) (tN τ 1) ((hdL η).take (k + 1)) ↔ okL (tN τ 0) (tN τ 1) ((hdL η).take k) ∧ c < tN τ 0 ∧ ((hdL η).take k).count c + 1 ≤ tN τ 1 := by rw [tks]; exact okL_snoc c13
        rw [nI_1]
        have next := fun b' hb' => ih (k + 1) (by omega) D3 b' oo u1 u2 u3 hb'
        have q3 : D3.1 (325 + 34) c = nI (u0 (tN τ 0) (tN τ 1) c) - nI (((hdL η).take k).count c + 1) := by
          have := u2 c c13
          rw [tks, count_snoc, if_pos rfl] at this
          exact this
        have u0le : u0 (tN τ 0) (tN τ 1) c ≤ 4 := by unfold u0; split <;> omega
        refine ⟨fun z => next 0 (Or.inr ⟨rfl, fun y => ?_⟩), fun z => ⟨i34 c c13, fun y => next 0 (Or.inr ⟨rfl, fun x => ?_⟩), fun y => next 1 (Or.inl ⟨rfl, ?_⟩)⟩⟩
        · rcases hb with ⟨y1, -⟩ | ⟨-, y1⟩
          · rw [y1] at z; exact absurd z (by decide)
          · exact y1 ⟨y.1, (iff1.mp y.2).1⟩
        · rw [q3] at y
          have := (nI_sub_neg (by omega) (by omega)).mp y
          obtain ⟨-, x1, x2⟩ := iff1.mp x.2
          unfold u0 at this
          rw [if_pos x1] at this
          omega
        · rw [q3] at y
          have y' : ¬ u0 (tN τ 0) (tN τ 1) c < ((hdL η).take k).count c + 1 := fun w => y ((nI_sub_neg (by omega) (by omega)).mpr w)
          rcases hb with ⟨-, a1, a2⟩ | ⟨y1, -⟩
          · refine ⟨a1, iff1.mpr ⟨a2, ?_⟩⟩
            unfold u0 at y'
            by_cases w : c < tN τ 0
            · rw [if_pos w] at y'; exact ⟨w, by omega⟩
            · rw [if_neg w] at y'; omega
          · exact absurd y1 z
      refine s_M_layHand_88 xk_M ?_
      rw [nI_1 (54 * i), nI_clamp (n := 54 * i) (by omega), nI_clamp (n := 54 * i + 1) (by omega), f0, f1, nI_add (tN η 0)]
      refine ⟨i9 0 (by omega), i9 1 (by omega), fun z => absurd z (nI_ge (by omega) (by omega)), fun _ => ⟨i9 0 (by omega), fun z => ?_, fun z => ?_⟩⟩
      · have hk0 := (nI_leI (by omega) (by omega)).mp z
        rw [if_neg (by omega)] at ec
        have ex : nI (54 * i) + (2 : Int32) + ((4 : Int32) + nI k - nI (tN η 0)) = nI (54 * i + (6 + (k - tN η 0))) := by
          rw [show (2 : Int32) = nI 2 from rfl, show (4 : Int32) = nI 4 from rfl, nI_add, nI_add, pk_sub (by omega), nI_add]; congr 1; omega
        have vx : D'.1 (325 + 9) (54 * i + (6 + (k - tN η 0))) = nI c := by
          rw [(o.1 (325 + 9) (by omega) (by omega)).1, show D.1 (325 + 9) (54 * i + (6 + (k - tN η 0))) = η (6 + (k - tN η 0)) from tx _ (by omega), (yg _ (by omega)).1, ec]
        rw [ex, nI_clamp (n := 54 * i + (6 + (k - tN η 0))) (by omega), vx]
        exact ⟨i9 0 (by omega), i9 _ (by omega), i33 c c13, i9 0 (by omega), fun _ => ⟨i33 c c13, seen 0 (by rw [if_neg (by omega)])⟩, fun y => absurd z y⟩
      · have hk0 : k < tN η 0 := Nat.lt_of_not_le (fun y => z (nI_le y (by omega)))
        rw [if_pos hk0] at ec
        have ex : nI (54 * i) + (2 : Int32) + nI k = nI (54 * i + (2 + k)) := by
          rw [show (2 : Int32) = nI 2 from rfl, nI_add, nI_add]; congr 1; omega
        have vx : D'.1 (325 + 9) (54 * i + (2 + k)) = nI c := by
          rw [(o.1 (325 + 9) (by omega) (by omega)).1, show D.1 (325 + 9) (54 * i + (2 + k)) = η (2 + k) from tx _ (by omega), (yh _ hk0).1, ec]
        rw [ex, nI_clamp (n := 54 * i + (2 + k)) (by omega), vx]
        exact ⟨i9 _ (by omega), i33 c c13, i9 0 (by omega), fun y => absurd y z, fun _ => ⟨i33 c c13, seen 1 (by rw [if_pos hk0])⟩⟩
  -- all lie as none were seen
  have lay : ∀ m k, k + m = 13 → ∀ D' (b : Int32), mF 358 360 0 0 D D' → (∀ j, j < k → D'.1 358 j = 0 ∧ D'.1 359 j = nI (u0 (tN τ 0) (tN τ 1) j)) → ((b = 1 ∧ tN η 0 = tN τ 2) ∨ (b = 0 ∧ tN η 0 ≠ tN τ 2)) →
      xPf (d + 1) m_M_layHand 27 [(0, .ref 325), (1, .int (nI i)), (2, .int (nI (54 * i))), (3, .int b), (4, .int (nI k))] [] D' (fun r D' => ∃ v, r = some (.int v) ∧ P v D') := by
    intro m
    induction m with
    | zero =>
      intro k hk D' b o hv hb
      refine s_M_layHand_27 xk_M ?_
      rw [o.2 27 (by omega), o.2 28 (by omega), g27, g28, pk_mul]
      refine ⟨fun _ D1 e1 => ?_, fun z => absurd (nI_le (a := 13) (by omega) (by omega)) z⟩
      obtain ⟨o1, f1⟩ := mf e1
      refine cards (tN η 0 + tN η 1) 0 (by omega) D1 b ((o.m (by omega) (by omega)).trans (o1.m (by omega) (by omega))) (fun j hj => ?_) (fun j hj => ?_) ?_ ?_
      · rw [(o1.1 358 (by omega) (by omega)).1, (hv j (by omega)).1]; rfl
      · rw [(o1.1 359 (by omega) (by omega)).1, (hv j (by omega)).2]
        exact (pk_sub (Nat.zero_le _)).symm
      · rw [f1]; exact (pk_sub (Nat.zero_le _)).symm
      · have h0 : okL (tN τ 0) (tN τ 1) ((hdL η).take 0) := fun k _ => Nat.zero_le _
        rcases hb with ⟨a, b⟩ | ⟨a, b⟩
        · exact Or.inl ⟨a, b, h0⟩
        · exact Or.inr ⟨a, fun z => b z.1⟩
    | succ m ih =>
      intro k hk D' b o hv hb
      refine s_M_layHand_27 xk_M ?_
      rw [nI_clamp (n := k) (by omega), nI_1]
      refine ⟨fun z => absurd z (nI_ge (b := 13) (by omega) (by omega)), fun _ => ⟨i33 k (by omega), fun D2 e2 => ?_⟩⟩
      obtain ⟨o2, v2⟩ := ma (by omega) e2
      have v2' : ∀ j, D2.1 358 j = if j = k then 0 else D'.1 358 j := v2
      rw [o2.2 27 (by omega), o2.2 28 (by omega), o.2 27 (by omega), o.2 28 (by omega), g27, g28]
      have fin : ∀ D3 (v : Int32), D3 = (xu D2.1 (325 + 34) k v, D2.2) → v = nI (u0 (tN τ 0) (tN τ 1) k) → xPf (d + 1) m_M_layHand 27 [(0, .ref 325), (1, .int (nI i)), (2, .int (nI (54 * i))), (3, .int b), (4, .int (nI (k + 1)))] [] D3 (fun r D' => ∃ v, r = some (.int v) ∧ P v D') := by
        intro D3 v e3 ev
        obtain ⟨o3, v3⟩ := ma (by omega) e3
        have v3' : ∀ j, D3.1 359 j = if j = k then v else D2.1 359 j := v3
        refine ih (k + 1) (by omega) D3 b (o.trans ((o2.m (by omega) (by omega)).trans (o3.m (by omega) (by omega)))) (fun j hj => ?_) hb
        rw [(o3.1 358 (by omega) (by omega)).1, v2', v3', (o2.1 359 (by omega) (by omega)).1]
        by_cases z : j = k
        · rw [if_pos z, if_pos z, z]; exact ⟨rfl, ev⟩
        · rw [if_neg z, if_neg z]; exact hv j (by omega)
      refine ⟨fun z => ⟨i34 k (by omega), fun D3 e3 => fin D3 0 e3 ?_⟩, fun z => ⟨i34 k (by omega), fun D3 e3 => fin D3 _ e3 ?_⟩⟩
      · have := (nI_leI (by omega) (by omega)).mp z
        unfold u0; rw [if_neg (by omega)]; rfl
      · unfold u0; rw [if_pos (Nat.lt_of_not_le (fun y => z (nI_le y (by omega))))]
  refine xCi_of y_M_layHand (Nat.le_of_ble_eq_true rfl) (s_M_layHand_0 xk_M ?_)
  rw [e54, nI_clamp (n := 54 * i) (by omega), t0, g29]
  refine ⟨i9 0 (by omega), fun z => lay 13 0 (by omega) D 0 mF.rfl' (fun j hj => absurd hj (Nat.not_lt_zero _)) (Or.inr ⟨rfl, fun y => z (by rw [y])⟩), fun z => lay 13 0 (by omega) D 1 mF.rfl' (fun j hj => absurd hj (Nat.not_lt_zero _)) (Or.inl ⟨rfl, (nI_eq (by omega) (by omega)).mp z⟩)⟩
theorem c_M_fitsHand {P : Int32 → xD → Prop} {x y : Int32} (hI : mI D g) (h0 : (txO g.1 0 x = none ∨ txO g.1 3 y = none ∨ ∃ τ η, txO g.1 0 x = some τ ∧ txO g.1 3 y = some η ∧ ¬ fitHd τ η) → ∀ D', mO D D' → P 0 D')
    (h1 : ∀ τ η, txO g.1 0 x = some τ → txO g.1 3 y = some η → tOK τ → hdOK η → fitHd τ η → ∀ D', mO D D' → mH D' τ → mHf D' (hh η) (hu τ η) (hN τ η) → mI D' g → P 1 D') : xCi (d + 5) m_M_fitsHand [.ref 325, .int x, .int y] D P := by
  refine xCi_of y_M_fitsHand (Nat.le_of_ble_eq_true rfl) (s_M_fitsHand_0 xk_M ?_)
  refine c_M_is (s := 3) hI (by omega) (fun q => z0 ⟨_, rfl, h0 (Or.inr (Or.inl q)) D mO.rfl'⟩) (fun i hi hi2 hy q => z1 ?_)
  have hO := ((hI.2.1.2.2 3 (by omega)).2 i hi).2.2.2.1 rfl
  have tx := fun j (hj : j < 54) => m_tx (s := 3) hI (by omega) hi (i := j) hj
  generalize hη : g.1.2.2.2 3 i = η at q hO tx
  refine c_M_hand hI (fun q1 => z0 ⟨_, rfl, h0 (Or.inl q1) D mO.rfl'⟩) (fun τ q1 hT hL hF D2 o2 I2 H2 S2 W2 => z1 ?_)
  have tx2 : ∀ j, j < 54 → D2.1 334 (54 * i + j) = η j := fun j hj => by rw [(o2.1 334 (by omega) (by omega)).1]; exact tx j hj
  rw [hy]
  refine c_M_layHand hT hO H2 hi2 tx2 (fun q2 D3 o3 X => z1 ⟨_, rfl, ?_⟩) (fun q2 D3 o3 => z0 ⟨_, rfl, ?_⟩)
  · exact h1 τ η q1 q hT hO q2 D3 ((o2.o (by omega)).trans (o3.o (by omega))) (H2.fr o3 (by omega) (by omega)) X (I2.o (o3.o (by omega)))
  · exact h0 (Or.inr (Or.inr ⟨τ, η, q1, q, q2⟩)) D3 ((o2.o (by omega)).trans (o3.o (by omega)))
theorem c_M_starved {P : Int32 → xD → Prop} {h u : Nat → Nat} {N K A : Nat} (e27 : D.1 325 27 = nI K) (e29 : D.1 325 29 = nI A) (X : mHf D h u N) (hK : K ≤ 13) (hA : A ≤ 4) (hb : ∀ k, k < 13 → h k + u k < 1000) (fin : P (nI (bsN (oSt A h u) K)) D) : xCi (d + 1) m_M_starved [.ref 325] D P := by
  have l33 : xl (325 + 33) = 13 := cl_13_66 xk_M
  have l34 : xl (325 + 34) = 13 := cl_13_67 xk_M
  refine xCi_of y_M_starved (Nat.le_of_ble_eq_true rfl) (s_M_starved_0 xk_M ?_)
  have key : ∀ m k, k + m = K → xPf (d + 1) m_M_starved 4 [(0, .ref 325), (1, .int (nI (bsN (oSt A h u) k))), (2, .int (nI k))] [] D (fun r D' => ∃ v, r = some (.int v) ∧ P v D') := by
    intro m
    induction m with
    | zero =>
      intro k hk
      refine s_M_starved_4 xk_M ?_
      rw [e27]
      refine ⟨fun _ => ⟨_, rfl, ?_⟩, fun z => absurd (nI_le (by omega) (by omega)) z⟩
      rw [show k = K by omega]; exact fin
    | succ m ih =>
      intro k hk
      have nx := ih (k + 1) (by omega)
      rw [bsN] at nx
      have hbk := hb k (by omega)
      refine s_M_starved_4 xk_M ?_
      rw [e27, e29, nI_clamp (n := k) (by omega), show D.1 (325 + 33) k = nI (h k) from X.1 k (by omega), show D.1 (325 + 34) k = nI (u k) from X.2.1 k (by omega), nI_add, nI_1]
      refine ⟨fun z => absurd z (nI_ge (by omega) (by omega)), fun _ => ⟨by rw [l33]; exact vp_in_nI (by omega) (by omega), by rw [l34]; exact vp_in_nI (by omega) (by omega), fun z => ?_, fun z => ?_⟩⟩
      · have := (nI_leI (by omega) (by omega)).mp z
        rw [if_neg (fun y => by have := oSt_t.mp y; omega), Nat.add_zero] at nx
        rw [show nI (bsN (oSt A h u) k) ||| (0 : Int32) = nI (bsN (oSt A h u) k) from by rw [show (0 : Int32) = nI 0 from rfl, yb_or, Nat.or_zero]]
        exact nx
      · rw [if_pos (oSt_t.mpr (Nat.lt_of_not_le (fun y => z (nI_le y (by omega)))))] at nx
        rw [bsN_s (by omega)]; exact nx
  exact key K 0 (by omega)
theorem c_M_unseen {P : Int32 → xD → Prop} {x y w : Int32} (hI : mI D g) (h : ∀ D', mO D D' → P (aUnseen g.1 x y w) D') : xCi (d + 40) m_M_unseen [.ref 325, .int x, .int y, .int w] D P := by
  have l34 : xl (325 + 34) = 13 := cl_13_67 xk_M
  refine xCi_of y_M_unseen (Nat.le_of_ble_eq_true rfl) (s_M_unseen_0 xk_M (fun D1 e1 => ?_))
  obtain ⟨o1, I1⟩ := m_0 hI e1
  unfold aUnseen at h
  refine c_M_is (s := 3) I1 (by omega) (fun q => z0 ⟨_, rfl, ?_⟩) (fun i hi hi2 hy q => z1 ?_)
  · have := h D1 o1
    cases q1 : txO g.1 0 x with
    | none => rw [q1] at this; exact this
    | some τ => simp only [q1, q] at this; exact this
  have hO := ((I1.2.1.2.2 3 (by omega)).2 i hi).2.2.2.1 rfl
  have tx := fun j (hj : j < 54) => m_tx (s := 3) I1 (by omega) hi (i := j) hj
  generalize hη : g.1.2.2.2 3 i = η at q hO tx
  refine c_M_hand I1 (fun q1 => z0' ⟨_, rfl, ?_⟩) (fun τ q1 hT hL hF D2 o2 I2 H2 S2 W2 => z1' ?_)
  · rw [q1] at h; exact h D1 o1
  simp only [q1, q] at h
  have tx2 : ∀ j, j < 54 → D2.1 334 (54 * i + j) = η j := fun j hj => by rw [(o2.1 334 (by omega) (by omega)).1]; exact tx j hj
  have bK := hT.2.1
  have bA := hT.2.2.2.1
  rw [hy]
  refine c_M_layHand hT hO H2 hi2 tx2 (fun q2 D3 o3 X => ?_) (fun q2 D3 o3 => ?_)
  · have hh3 := h D3 (o1.trans ((o2.o (by omega)).trans (o3.o (by omega))))
    rw [cif_t q2, cif_t q2] at hh3
    have H3 := H2.fr o3 (by omega) (by omega)
    have e27 : D3.1 325 27 = nI (tN τ 0) := by rw [H3.2.1]; exact hT.1 0 (by omega)
    have e29 : D3.1 325 29 = nI (tN τ 2) := by rw [H3.2.2.2.1]; exact hT.1 2 (by omega)
    refine ⟨fun c => z1' ⟨fun c1 => ⟨fun c2 => ?_, fun c2 => ?_⟩, fun c1 => ⟨_, rfl, ?_⟩⟩, fun c => z1 ⟨_, rfl, ?_⟩⟩
    · rw [if_neg c] at hh3
      unfold oAns at hh3
      rw [if_neg c1, if_neg c2] at hh3
      refine c_M_inR 10 (tN τ 0) (by omega) (by omega) rfl (by rw [e27, show (9 : Int32) = nI 9 from rfl, nI_add, nI_1]; congr 1; omega) (fun p hp ew => z1 ?_) (fun n10 => z0 ⟨_, rfl, ?_⟩)
      · rw [ew, if_neg (show ¬ nI (10 + p) < (10 : Int32) from nI_nlt (b := 10) (by omega) (by omega)), if_neg (nI_ge (by omega) (by omega)), nI_clamp (by omega), Nat.add_sub_cancel_left] at hh3
        rw [ew, show nI (10 + p) - (10 : Int32) = nI (10 + p - 10) from pk_sub (b := 10) (by omega), Nat.add_sub_cancel_left, nI_clamp (n := p) (by omega), show D3.1 (325 + 34) p = nI (hu τ η p) from X.2.1 p (by omega)]
        exact ⟨by rw [l34]; exact vp_in_nI (by omega) (by omega), _, rfl, hh3⟩
      · by_cases w10 : w < 10
        · rw [if_pos w10] at hh3; exact hh3
        · rw [if_neg w10] at hh3
          have c0 : ¬ w < 0 := fun y => w10 (neg_lt (k := 10) y (by omega))
          obtain ⟨j, hj, rfl⟩ := nI_of c0
          have j10 : 10 ≤ j := Nat.le_of_not_lt (fun y => w10 (nI_lt (b := 10) y (by omega)))
          by_cases z : nI (10 + tN τ 0) ≤ nI j
          · rw [if_pos z] at hh3; exact hh3
          · have : j < 10 + tN τ 0 := Nat.lt_of_not_le (fun y => z (nI_le y hj))
            exact absurd (by congr 1; omega) (n10 (j - 10) (by omega))
    · rw [if_neg c] at hh3
      unfold oAns at hh3
      rw [if_neg c1, if_pos c2] at hh3
      exact c_M_starved e27 e29 X (by omega) (by omega) (fun k hk => by have := hh_le q2 k; have := hu_le (η := η) hT k; omega) ⟨_, rfl, hh3⟩
    · rw [if_neg c] at hh3
      unfold oAns at hh3
      rw [if_pos c1] at hh3
      rw [X.2.2]; exact hh3
    · rw [if_pos c] at hh3; exact hh3
  · have hh3 := h D3 (o1.trans ((o2.o (by omega)).trans (o3.o (by omega))))
    rw [cif_f q2, cif_f q2] at hh3
    refine ⟨fun c => z0' ⟨_, rfl, ?_⟩, fun c => z0 ⟨_, rfl, ?_⟩⟩
    · rw [if_neg c] at hh3; exact hh3
    · rw [if_pos c] at hh3; exact hh3
end MHAND
