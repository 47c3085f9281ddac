/-! A HAND at a TABLE. -/
/-- the row at a holds the list l -/
def lR (D : xD) (a : Nat) (l : List Nat) : Prop := rS D a l.length ∧ ∀ i c, l[i]? = some c → D.1 (a + 1) i = nI c
theorem lR.out {D D' : xD} {lo hi a : Nat} {l : List Nat} (h : lR D a l) (o : xOut lo hi D D') (q : a + 2 ≤ lo ∨ hi ≤ a) : lR D' a l := ⟨h.1.out o (by omega), fun i c hc => by rw [o.1 _ (by omega)]; exact h.2 i c hc⟩
theorem lR_get {d : Nat} {D : xD} {a i : Nat} {l : List Nat} {P : Int32 → xD → Prop} (h : lR D a l) (hi : i < l.length) (hp : P (nI (l.getD i 0)) D) : xCi (d + 1) m_Row_get [.ref a, .int (nI i)] D P :=
  c_get h.1 hi (by rw [h.2 i _ (getD_at hi)]; exact hp)
theorem nI_subS (a b : Nat) : nI a - nI b + (-1) = nI a - nI (b + 1) := by
  rw [← nI_1 b, Int32.sub_eq_add_neg, Int32.sub_eq_add_neg, Int32.neg_add, Int32.sub_eq_add_neg (-nI b), Int32.add_assoc]
theorem nI_subS' (a b : Nat) : nI a - nI b - 1 = nI a - nI (b + 1) := by
  rw [← nI_subS, Int32.sub_eq_add_neg _ 1]
theorem nI_sub_neg {a b : Nat} (ha : a < 2 ^ 30) (hb : b < 2 ^ 30) : nI a - nI b < 0 ↔ a < b := by
  constructor
  · intro h
    apply Nat.lt_of_not_le
    intro q
    rw [pk_sub q] at h
    exact nI_pos (by omega) h
  · intro h
    exact pk_sneg hb h
/-- of a KIND, ahead of any card's being seen -/
def u0 (K C k : Nat) : Nat := if k < K then C else 0
def okL (K C : Nat) (L : List Nat) : Prop := ∀ k, k < 13 → L.count k ≤ u0 K C k
theorem count_snoc (L : List Nat) (c k : Nat) : (L ++ [c]).count k = L.count k + if c = k then 1 else 0 := by
  rw [List.count_append, List.count_singleton]
  by_cases q : c = k
  · rw [if_pos q, if_pos (by rw [q]; exact beq_self_eq_true k)]
  · rw [if_neg q, if_neg (by rw [beq_iff_eq]; exact q)]
theorem okL_snoc {K C c : Nat} {L : List Nat} (hc : c < 13) : okL K C (L ++ [c]) ↔ okL K C L ∧ c < K ∧ L.count c + 1 ≤ C := by
  constructor
  · intro h
    have hk := h c hc
    rw [count_snoc, if_pos rfl] at hk
    unfold u0 at hk
    split at hk
    · refine ⟨fun k hk' => ?_, by assumption, hk⟩
      have := h k hk'
      rw [count_snoc] at this
      omega
    · omega
  · rintro ⟨h, h1, h2⟩ k hk
    rw [count_snoc]
    by_cases q : c = k
    · subst q; rw [if_pos rfl]; unfold u0; rw [if_pos h1]; exact h2
    · rw [if_neg q]; exact h k hk
theorem sm_mono {f g : Nat → Nat} : ∀ {n : Nat}, (∀ i, i < n → f i ≤ g i) → sm f n ≤ sm g n := by
  intro n
  induction n with
  | zero => intro _; exact Nat.le_refl _
  | succ n ih =>
    intro h
    have h1 := ih (fun i hi => h i (by omega))
    have h2 := h n (by omega)
    rw [sm, sm]; omega
theorem sm_count {L : List Nat} (h : ∀ c, c ∈ L → c < 13) : sm (fun k => L.count k) 13 = L.length := by
  induction L with
  | nil => rfl
  | cons c L ih =>
    have h1 := ih (fun x hx => h x (List.mem_cons_of_mem _ hx))
    have hc := h c List.mem_cons_self
    have e : sm (fun k => (c :: L).count k) 13 = sm (fun i => if i = c then L.count c + 1 else L.count i) 13 := sm_congr (fun i _ => by
      rw [List.count_cons]
      by_cases q : i = c
      · rw [if_pos q, if_pos (by rw [q]; exact beq_self_eq_true c), q]
      · rw [if_neg q, if_neg (by rw [beq_iff_eq]; exact fun z => q z.symm)]; rfl)
    have h2 := sm_at (fun k => L.count k) (v := L.count c + 1) hc
    have h3 : sm (fun i => if i = c then L.count c + 1 else L.count i) 13 + L.count c = sm (fun k => L.count k) 13 + (L.count c + 1) := h2
    rw [e, List.length_cons]
    omega
theorem sm_u0 {K C : Nat} : ∀ n, sm (u0 K C) n = min n K * C := by
  intro n
  induction n with
  | zero => simp [sm]
  | succ n ih =>
    rw [sm, ih]
    unfold u0
    by_cases q : n < K
    · rw [if_pos q, Nat.min_eq_left (by omega), Nat.min_eq_left (by omega), Nat.succ_mul]
    · rw [if_neg q, Nat.min_eq_right (by omega), Nat.min_eq_right (by omega)]; omega
/-- the HAND FITS -/
def hFit (τ : Nat → Int32) (H G : List Nat) : Prop := H.length = tN τ 2 ∧ okL (tN τ 0) (tN τ 1) (H ++ G)
/-- the Odds at o: how many one has of a KIND, how many are UNSEEN, how many are drawn, how many are UNSEEN in all -/
def oR (D : xD) (o K A : Nat) (h u e : Nat → Nat) (N : Nat) : Prop :=
  rS D (o + 1) 13 ∧ (∀ k, k < 13 → D.1 (o + 2) k = nI (h k)) ∧ rS D (o + 3) 13 ∧ (∀ k, k < 13 → D.1 (o + 4) k = nI (u k)) ∧ rS D (o + 5) 4 ∧ (∀ k, k < 4 → D.1 (o + 6) k = nI (e k)) ∧ D.1 o 6 = nI K ∧ D.1 o 7 = nI A ∧ D.1 o 8 = nI N
/-- .. while the cards L are seen, H of them in the hand -/
def oL (D : xD) (o K C A : Nat) (H L : List Nat) : Prop :=
  rS D (o + 1) 13 ∧ (∀ k, k < 13 → D.1 (o + 2) k = nI (H.count k)) ∧ rS D (o + 3) 13 ∧ (∀ k, k < 13 → D.1 (o + 4) k = nI (u0 K C k) - nI (L.count k)) ∧ rS D (o + 5) 4 ∧ (∀ k, k < 4 → D.1 (o + 6) k = nI 0) ∧ D.1 o 6 = nI K ∧ D.1 o 7 = nI A ∧ D.1 o 8 = nI (K * C) - nI L.length
theorem sum_and (f g : Prop) (x y : Int32) (hx : f ∧ x = 1 ∨ ¬ f ∧ x = 0) (hy : g ∧ y = 1 ∨ ¬ g ∧ y = 0) : (f ∧ g) ∧ x &&& y = 1 ∨ ¬ (f ∧ g) ∧ x &&& y = 0 := by
  rcases hx with ⟨a, rfl⟩ | ⟨a, rfl⟩ <;> rcases hy with ⟨b, rfl⟩ | ⟨b, rfl⟩
  · exact Or.inl ⟨⟨a, b⟩, by decide⟩
  · exact Or.inr ⟨fun q => b q.2, by decide⟩
  · exact Or.inr ⟨fun q => a q.1, by decide⟩
  · exact Or.inr ⟨fun q => a q.1, by decide⟩
section LIE
variable {d : Nat} {D : xD} {o t s K C A : Nat} {τ : Nat → Int32} {H G L : List Nat}
theorem c_Odds_see {P : Int32 → xD → Prop} {c : Nat} (k0 : xk o = 11) (hO : oL D o K C A H L) (hc : c < 13) (hK : K ≤ 13) (hC : C ≤ 4) (hl : L.length < 100)
    (h : ∀ D' y, xOut o (o + 5) D D' → oL D' o K C A H (L ++ [c]) → ((c < K ∧ L.count c + 1 ≤ C) ∧ y = 1 ∨ ¬ (c < K ∧ L.count c + 1 ≤ C) ∧ y = 0) → P y D') : xCi (d + 2) m_Odds_see [.ref o, .int (nI c)] D P := by
  obtain ⟨a1, a2, a3, a4, a5, a6, a7, a8, a9⟩ := hO
  have hcl : L.count c ≤ L.length := List.count_le_length
  refine xCi_of y_Odds_see (Nat.le_of_ble_eq_true rfl) (s_Odds_see_0 k0 ?_)
  refine c_add a3 hc (fun D1 o1 v1 => ?_)
  intro D2 e2
  have b8 : D1.1 o 8 = nI (K * C) - nI L.length := by rw [o1.1 _ (by omega)]; exact a9
  rw [b8, nI_subS'] at e2
  have o2 : xOut o (o + 1) D1 D2 := by rw [e2]; exact xOut_f D1 o 8 _
  have f2 : ∀ j, D2.1 o j = if j = 8 then nI (K * C) - nI (L.length + 1) else D1.1 o j := fun j => by rw [e2]; show xu D1.1 o 8 _ o j = _; rw [xu_self]; rfl
  have oE : xOut o (o + 5) D D2 := (o1.mono (by omega) (by omega)).trans (o2.mono (by omega) (by omega))
  have v2 : ∀ k, k < 13 → D2.1 (o + 4) k = nI (u0 K C k) - nI ((L ++ [c]).count k) := fun k hk => by
    rw [o2.1 _ (by omega), show o + 4 = o + 3 + 1 by omega, v1, count_snoc]
    by_cases q : k = c
    · rw [if_pos q, if_pos q.symm, show o + 3 + 1 = o + 4 by omega, a4 c hc, nI_subS, q]
    · rw [if_neg q, if_neg (fun z => q z.symm), show o + 3 + 1 = o + 4 by omega, a4 k hk]; rfl
  have hO2 : oL D2 o K C A H (L ++ [c]) := by
    refine ⟨(a1.out o1 (by omega)).out o2 (by omega), fun k hk => by rw [o2.1 _ (by omega), o1.1 _ (by omega)]; exact a2 k hk, (a3.out o1 (by omega)).out o2 (by omega), v2, (a5.out o1 (by omega)).out o2 (by omega), fun k hk => by rw [o2.1 _ (by omega), o1.1 _ (by omega)]; exact a6 k hk, ?_, ?_, ?_⟩
    · rw [f2, o1.1 _ (by omega)]; simpa using a7
    · rw [f2, o1.1 _ (by omega)]; simpa using a8
    · rw [f2, if_pos rfl, List.length_append]; rfl
  have g6 : D2.1 o 6 = nI K := hO2.2.2.2.2.2.2.1
  rw [g6]
  refine ⟨fun q => ⟨_, rfl, h D2 0 oE hO2 (Or.inr ⟨fun z => ?_, rfl⟩)⟩, fun q => ?_⟩
  · have := (nI_leI (by omega) (by omega)).mp q; omega
  · have hcK : c < K := Nat.lt_of_not_le (fun z => q (nI_le z (by omega)))
    refine c_get hO2.2.2.1 hc ?_
    rw [show o + 3 + 1 = o + 4 by omega, v2 c hc, count_snoc, if_pos rfl, show u0 K C c = C from if_pos hcK]
    refine ⟨fun z => ⟨_, rfl, h D2 0 oE hO2 (Or.inr ⟨fun y => ?_, rfl⟩)⟩, fun z => ⟨_, rfl, h D2 1 oE hO2 (Or.inl ⟨⟨hcK, ?_⟩, rfl⟩)⟩⟩
    · have := (nI_sub_neg (by omega) (by omega)).mp z; omega
    · exact Nat.le_of_not_lt (fun y => z ((nI_sub_neg (by omega) (by omega)).mpr y))
theorem c_Odds_lie {P : Int32 → xD → Prop} (k0 : xk o = 11) (ks : xk s = 3) (hR : tR D t τ) (hT : tOK τ) (hH : lR D (s + 10) H) (hG : lR D (s + 12) G) (hH4 : H.length ≤ 4) (hG48 : G.length ≤ 48) (hHc : ∀ c, c ∈ H → c < 13) (hGc : ∀ c, c ∈ G → c < 13) (ht : t + 5 ≤ o ∨ o + 7 ≤ t) (hs : s + 14 ≤ o ∨ o + 7 ≤ s)
    (h1 : ∀ D', xOut o (o + 7) D D' → hFit τ H G → oR D' o (tN τ 0) (tN τ 2) (fun k => H.count k) (fun k => u0 (tN τ 0) (tN τ 1) k - (H ++ G).count k) (fun _ => 0) (tN τ 0 * tN τ 1 - (H.length + G.length)) → P 1 D')
    (h0 : ∀ D', xOut o (o + 7) D D' → ¬ hFit τ H G → P 0 D') : xCi (d + 4) m_Odds_lie [.ref o, .ref t, .ref s] D P := by
  have bK := hT.2.1
  have bC := hT.2.2.1
  have bA := hT.2.2.2.1
  have l2 : xl (o + 1 + 1) = 13 := cl_11_0 k0
  have l4 : xl (o + 3 + 1) = 13 := cl_11_1 k0
  have l6 : xl (o + 5 + 1) = 4 := cl_11_2 k0
  have hmem : ∀ i, i < H.length → H.getD i 0 < 13 := fun i hi => hHc _ (getD_mem hi)
  have gmem : ∀ i, i < G.length → G.getD i 0 < 13 := fun i hi => hGc _ (getD_mem hi)
  refine xCi_of y_Odds_lie (Nat.le_of_ble_eq_true rfl) (s_Odds_lie_0 k0 hR.1 ks ?_)
  refine c_Table_kinds hR hT (fun D1 e1 => ?_)
  have o1 : xOut o (o + 1) D D1 := by rw [e1]; exact xOut_f D o 6 _
  refine c_Table_alike (hR.out o1 (by omega)) hT (fun D2 e2 => ?_)
  have o2 : xOut o (o + 1) D1 D2 := by rw [e2]; exact xOut_f D1 o 7 _
  refine c_Table_pack ((hR.out o1 (by omega)).out o2 (by omega)) hT (fun D3 e3 => ?_)
  have o3 : xOut o (o + 1) D2 D3 := by rw [e3]; exact xOut_f D2 o 8 _
  have f3 : D3.1 o 6 = nI (tN τ 0) ∧ D3.1 o 7 = nI (tN τ 2) ∧ D3.1 o 8 = nI (tN τ 0 * tN τ 1) := by
    rw [e3, e2, e1]
    refine ⟨?_, ?_, ?_⟩ <;> show xu (xu (xu D.1 o 6 _) o 7 _) o 8 _ o _ = _ <;> simp [xu_self, upd]
  have o13 : xOut o (o + 1) D D3 := (o1.trans o2).trans o3
  clear e1 e2 e3 o1 o2 o3
  refine c_fill (k := 13) (ck_11_0 k0) (by omega) (fun D4 o4 w4 v4 => ?_)
  refine c_fill (k := 13) (ck_11_1 k0) (by omega) (fun D5 o5 w5 v5 => ?_)
  refine c_fill (k := 4) (ck_11_2 k0) (by omega) (fun D6 o6 w6 v6 => ?_)
  have o16 : xOut o (o + 7) D D6 := (o13.mono (by omega) (by omega)).trans ((o4.mono (by omega) (by omega)).trans ((o5.mono (by omega) (by omega)).trans (o6.mono (by omega) (by omega))))
  have f6 : D6.1 o 6 = nI (tN τ 0) ∧ D6.1 o 7 = nI (tN τ 2) ∧ D6.1 o 8 = nI (tN τ 0 * tN τ 1) := by
    have e : D6.1 o = D3.1 o := by rw [o6.1 _ (by omega), o5.1 _ (by omega), o4.1 _ (by omega)]
    rw [e]; exact f3
  -- the cards that are gone
  have last : ∀ m i, i + m = G.length → ∀ D' x, xOut o (o + 7) D D' → oL D' o (tN τ 0) (tN τ 1) (tN τ 2) H (H ++ G.take i) → ((H.length = tN τ 2 ∧ okL (tN τ 0) (tN τ 1) (H ++ G.take i)) ∧ x = 1 ∨ ¬ (H.length = tN τ 2 ∧ okL (tN τ 0) (tN τ 1) (H ++ G.take i)) ∧ x = 0) →
      xPf (d + 4) m_Odds_lie 159 [(0, .ref o), (1, .ref t), (2, .ref s), (3, .int x), (4, .int (nI i))] [] D' (fun r D' => ∃ x, r = some (.int x) ∧ P x D') := by
    intro m
    induction m with
    | zero =>
      intro i hi D' x oD hO hx
      have ei : i = G.length := by omega
      rw [ei, List.take_length] at hO hx
      refine s_Odds_lie_159 k0 hR.1 ks (c_Row_size (hG.out oD (by omega)).1 ⟨fun _ => ?_, fun q => absurd (nI_le (by omega) (by omega)) q⟩)
      rcases hx with ⟨z, rfl⟩ | ⟨z, rfl⟩
      · refine ⟨Or.inr rfl, _, rfl, h1 D' oD z ?_⟩
        obtain ⟨a1, a2, a3, a4, a5, a6, a7, a8, a9⟩ := hO
        refine ⟨a1, a2, a3, fun k hk => by rw [a4 k hk, pk_sub (z.2 k hk)], a5, a6, a7, a8, ?_⟩
        have hcs := sm_count (L := H ++ G) (fun c hc => by
          rcases List.mem_append.mp hc with q | q
          · exact hHc c q
          · exact hGc c q)
        have hm := sm_mono (n := 13) (fun k hk => z.2 k hk)
        rw [hcs, sm_u0, Nat.min_eq_right (by omega)] at hm
        rw [a9, pk_sub hm, List.length_append]
      · exact ⟨Or.inl rfl, _, rfl, h0 D' oD z⟩
    | succ m ih =>
      intro i hi D' x oD hO hx
      have hG' := hG.out oD (by omega)
      refine s_Odds_lie_159 k0 hR.1 ks (c_Row_size hG'.1 ⟨fun q => absurd q (nI_ge (by omega) (by omega)), fun _ => ?_⟩)
      refine lR_get hG' (by omega) ?_
      have hc := gmem i (by omega)
      have et : H ++ G.take (i + 1) = H ++ G.take i ++ [G.getD i 0] := by
        rw [List.take_add_one, getD_at (show i < G.length by omega), List.append_assoc]; rfl
      refine c_Odds_see k0 hO hc bK.2 bC.2 (by rw [List.length_append, List.length_take]; omega) (fun D2 y o2 hO2 hy => ?_)
      rw [nI_1 i]
      rw [← et] at hO2
      refine ih (i + 1) (by omega) D2 _ (oD.trans (o2.mono (by omega) (by omega))) hO2 ?_
      have := sum_and _ _ x y hx hy
      rw [et, okL_snoc hc]
      rcases this with ⟨⟨⟨q1, q2⟩, q3⟩, q4⟩ | ⟨q, q4⟩
      · exact Or.inl ⟨⟨q1, q2, q3⟩, q4⟩
      · exact Or.inr ⟨fun z => q ⟨⟨z.1, z.2.1⟩, z.2.2⟩, q4⟩
  -- the cards of the hand
  have first : ∀ m i, i + m = H.length → ∀ D' x, xOut o (o + 7) D D' → oL D' o (tN τ 0) (tN τ 1) (tN τ 2) (H.take i) (H.take i) → ((H.length = tN τ 2 ∧ okL (tN τ 0) (tN τ 1) (H.take i)) ∧ x = 1 ∨ ¬ (H.length = tN τ 2 ∧ okL (tN τ 0) (tN τ 1) (H.take i)) ∧ x = 0) →
      xPf (d + 4) m_Odds_lie 105 [(0, .ref o), (1, .ref t), (2, .ref s), (3, .int x), (4, .int (nI i))] [] D' (fun r D' => ∃ x, r = some (.int x) ∧ P x D') := by
    intro m
    induction m with
    | zero =>
      intro i hi D' x oD hO hx
      have ei : i = H.length := by omega
      rw [ei, List.take_length] at hO hx
      refine s_Odds_lie_105 k0 hR.1 ks (c_Row_size (hH.out oD (by omega)).1 ⟨fun _ => ?_, fun q => absurd (nI_le (by omega) (by omega)) q⟩)
      exact last G.length 0 (by omega) D' x oD (by rw [List.take_zero, List.append_nil]; exact hO) (by rw [List.take_zero, List.append_nil]; exact hx)
    | succ m ih =>
      intro i hi D' x oD hO hx
      have hH' := hH.out oD (by omega)
      refine s_Odds_lie_105 k0 hR.1 ks (c_Row_size hH'.1 ⟨fun q => absurd q (nI_ge (by omega) (by omega)), fun _ => ?_⟩)
      refine lR_get hH' (by omega) ?_
      have hc := hmem i (by omega)
      have et : H.take (i + 1) = H.take i ++ [H.getD i 0] := by
        rw [List.take_add_one, getD_at (show i < H.length by omega)]; rfl
      refine c_Odds_see k0 hO hc bK.2 bC.2 (by rw [List.length_take]; omega) (fun D2 y o2 hO2 hy => ?_)
      refine lR_get (hH'.out o2 (by omega)) (by omega) ?_
      refine c_add hO2.1 hc (fun D3 o3 v3 => ?_)
      rw [nI_1 i]
      have oD3 : xOut o (o + 7) D D3 := oD.trans ((o2.mono (by omega) (by omega)).trans (o3.mono (by omega) (by omega)))
      refine ih (i + 1) (by omega) D3 _ oD3 ?_ ?_
      · obtain ⟨a1, a2, a3, a4, a5, a6, a7, a8, a9⟩ := hO2
        rw [et]
        refine ⟨a1.out o3 (by omega), fun k hk => ?_, a3.out o3 (by omega), fun k hk => by rw [o3.1 _ (by omega)]; exact a4 k hk, a5.out o3 (by omega), fun k hk => by rw [o3.1 _ (by omega)]; exact a6 k hk, by rw [o3.1 _ (by omega)]; exact a7, by rw [o3.1 _ (by omega)]; exact a8, by rw [o3.1 _ (by omega)]; exact a9⟩
        rw [show o + 2 = o + 1 + 1 by omega, v3, count_snoc]
        by_cases q : k = H.getD i 0
        · rw [if_pos q, if_pos q.symm, show o + 1 + 1 = o + 2 by omega, a2 _ hc, nI_1, q]
        · rw [if_neg q, if_neg (fun z => q z.symm), show o + 1 + 1 = o + 2 by omega, a2 k hk]; rfl
      · have := sum_and _ _ x y hx hy
        rw [et, okL_snoc hc]
        rcases this with ⟨⟨⟨q1, q2⟩, q3⟩, q4⟩ | ⟨q, q4⟩
        · exact Or.inl ⟨⟨q1, q2, q3⟩, q4⟩
        · exact Or.inr ⟨fun z => q ⟨⟨z.1, z.2.1⟩, z.2.2⟩, q4⟩
  -- all that is in the PACK
  have pack : ∀ m k, k + m = tN τ 0 → ∀ D', xOut (o + 4) (o + 5) D6 D' → (∀ j, j < 13 → D'.1 (o + 4) j = if j < k then nI (tN τ 1) else nI 0) →
      xPf (d + 4) m_Odds_lie 55 [(0, .ref o), (1, .ref t), (2, .ref s), (3, .int (nI k))] [] D' (fun r D' => ∃ x, r = some (.int x) ∧ P x D') := by
    intro m
    induction m with
    | zero =>
      intro k hk D' o7 hv
      have ek : k = tN τ 0 := by omega
      have g6 : D'.1 o 6 = nI (tN τ 0) := by rw [o7.1 _ (by omega)]; exact f6.1
      have g7 : D'.1 o 7 = nI (tN τ 2) := by rw [o7.1 _ (by omega)]; exact f6.2.1
      have oD : xOut o (o + 7) D D' := o16.trans (o7.mono (by omega) (by omega))
      have hO : oL D' o (tN τ 0) (tN τ 1) (tN τ 2) (H.take 0) (H.take 0) := by
        refine ⟨(((w4.out o5 (by omega)).out o6 (by omega)).out o7 (by omega)), fun j hj => ?_, (w5.out o6 (by omega)).out o7 (by omega), fun j hj => ?_, w6.out o7 (by omega), fun j hj => ?_, g6, g7, ?_⟩
        · rw [o7.1 _ (by omega), o6.1 _ (by omega), o5.1 _ (by omega), show o + 2 = o + 1 + 1 by omega, v4 j (by omega), List.take_zero]; rfl
        · rw [hv j hj, ek, List.take_zero]
          unfold u0
          rw [show ([] : List Nat).count j = 0 from rfl, pk_sub (Nat.zero_le _), Nat.sub_zero]
          split <;> rfl
        · rw [o7.1 _ (by omega), show o + 6 = o + 5 + 1 by omega, v6 j (by omega)]; rfl
        · rw [o7.1 _ (by omega), f6.2.2, List.take_zero, show ([] : List Nat).length = 0 from rfl, pk_sub (Nat.zero_le _), Nat.sub_zero]
      have nil : okL (tN τ 0) (tN τ 1) (H.take 0) := fun k _ => by rw [List.take_zero]; exact Nat.zero_le _
      refine s_Odds_lie_55 k0 hR.1 ks ⟨fun _ => ?_, fun q => absurd (by rw [g6]; exact nI_le (by omega) (by omega)) q⟩
      refine c_Row_size (hH.out oD (by omega)).1 ?_
      rw [g7]
      refine ⟨fun q => first H.length 0 (by omega) D' 0 oD hO (Or.inr ⟨fun z => q (by rw [z.1]), rfl⟩), fun q => first H.length 0 (by omega) D' 1 oD hO (Or.inl ⟨⟨(nI_eq (by omega) (by omega)).mp q, nil⟩, rfl⟩)⟩
    | succ m ih =>
      intro k hk D' o7 hv
      have g6 : D'.1 o 6 = nI (tN τ 0) := by rw [o7.1 _ (by omega)]; exact f6.1
      have oD : xOut o (o + 7) D D' := o16.trans (o7.mono (by omega) (by omega))
      refine s_Odds_lie_55 k0 hR.1 ks ⟨fun q => absurd (by rw [← g6]; exact q) (nI_ge (a := k) (b := tN τ 0) (by omega) (by omega)), fun _ => ?_⟩
      refine c_Table_number (j := 1) (hR.out oD (by omega)) (by omega) ?_
      rw [hT.1 1 (by omega)]
      refine c_set ((w5.out o6 (by omega)).out o7 (by omega)) (show k < 13 by omega) (fun D8 o8 v8 => ?_)
      rw [nI_1 k]
      refine ih (k + 1) (by omega) D8 (o7.trans (o8.mono (by omega) (by omega))) (fun j hj => ?_)
      rw [show o + 4 = o + 3 + 1 by omega, v8]
      by_cases q : j = k
      · rw [if_pos q, if_pos (by omega)]
      · rw [if_neg q, show o + 3 + 1 = o + 4 by omega, hv j hj]
        by_cases z : j < k
        · rw [if_pos z, if_pos (by omega)]
        · rw [if_neg z, if_neg (by omega)]
  exact pack (tN τ 0) 0 (by omega) D6 xOut.rfl' (fun j hj => by rw [o6.1 _ (by omega), show o + 4 = o + 3 + 1 by omega, v5 j (by omega), if_neg (by omega)]; rfl)
end LIE
