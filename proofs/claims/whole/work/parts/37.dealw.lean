/-! What holds of deals goes on to hold. -/
theorem sm_at (f : Nat → Nat) {j n v : Nat} (h : j < n) : sm (fun i => if i = j then v else f i) n + f j = sm f n + v := by
  have := sm_upd f j v n
  rw [if_pos h, if_pos h] at this
  exact this
theorem sm_at2 (f : Nat → Nat) {j n v x : Nat} (h : j < n) (hx : f j = x) : sm (fun i => if i = j then v else f i) n + x = sm f n + v := by
  rw [← hx]; exact sm_at f h
theorem dW_sw {N K n p : Nat} {δ : dS} (hW : dW N K n δ) (h0 : 0 < N) : dW N K n (δ.1, δ.2.1, dSw N p δ) := by
  unfold dSw
  by_cases q : p = 0 ∧ δ.2.2 0 = []
  · rw [if_pos q]
    obtain ⟨w1, w2, w3, w4, w5, w6, w7⟩ := hW
    refine ⟨w1, w2, ?_, fun i hi c hc => ?_, w5, w6, fun i hi => ?_⟩
    · have a1 : sm (fun i => (if i = 0 then δ.2.2 N else if i = N then [] else δ.2.2 i).length) (N + 1) = sm (fun i => if i = 0 then (δ.2.2 N).length else (fun i => if i = N then 0 else (δ.2.2 i).length) i) (N + 1) := by
        refine sm_congr (fun i _ => ?_)
        by_cases i0 : i = 0
        · simp only [if_pos i0]
        · by_cases iN : i = N
          · simp only [if_neg i0, if_pos iN]; rfl
          · simp only [if_neg i0, if_neg iN]
      have a4 : (if 0 = N then 0 else (δ.2.2 0).length) = 0 := by rw [q.2]; simp
      have a2 : sm (fun i => if i = 0 then (δ.2.2 N).length else (fun i => if i = N then 0 else (δ.2.2 i).length) i) (N + 1) + 0 = sm (fun i => if i = N then 0 else (δ.2.2 i).length) (N + 1) + (δ.2.2 N).length := sm_at2 (fun i => if i = N then 0 else (δ.2.2 i).length) (j := 0) (n := N + 1) (v := (δ.2.2 N).length) (by omega) a4
      have a3 : sm (fun i => if i = N then 0 else (δ.2.2 i).length) (N + 1) + (δ.2.2 N).length = sm (fun i => (δ.2.2 i).length) (N + 1) + 0 := sm_at (fun i => (δ.2.2 i).length) (j := N) (n := N + 1) (v := 0) (by omega)
      show sm δ.2.1 N + sm (fun i => (if i = 0 then δ.2.2 N else if i = N then [] else δ.2.2 i).length) (N + 1) = n
      rw [a1]
      omega
    · have hc : c ∈ (if i = 0 then δ.2.2 N else if i = N then [] else δ.2.2 i) := hc
      by_cases i0 : i = 0
      · rw [if_pos i0] at hc; exact w4 N (Nat.le_refl _) c hc
      · rw [if_neg i0] at hc
        by_cases iN : i = N
        · rw [if_pos iN] at hc; cases hc
        · rw [if_neg iN] at hc; exact w4 i hi c hc
    · show (if i = 0 then δ.2.2 N else if i = N then [] else δ.2.2 i) = []
      rw [if_neg (by omega), if_neg (by omega)]
      exact w7 i hi
  · rw [if_neg q]; exact hW
theorem dW_got {N K n p c : Nat} {l : List Nat} {δ : dS} (hW : dW N K n δ) (hK : K ≤ 13) (hp : p < N) (hq : δ.2.2 p = c :: l) : dW N K n (dGot p c l δ) := by
  obtain ⟨w1, w2, w3, w4, w5, w6, w7⟩ := hW
  have hc : c < K := w4 p (by omega) c (by rw [hq]; exact List.mem_cons_self)
  refine ⟨w1, fun i hi => ?_, ?_, fun i hi x hx => ?_, fun i hi => ⟨?_, ?_⟩, fun i k hk => ?_, fun i hi => ?_⟩
  · show sm (fun k => if i = p ∧ k = c then δ.1 i k + 1 else δ.1 i k) 13 = (if i = p then δ.2.1 i + 1 else δ.2.1 i)
    by_cases q : i = p
    · have a1 : sm (fun k => if i = p ∧ k = c then δ.1 i k + 1 else δ.1 i k) 13 = sm (fun k => if k = c then δ.1 i c + 1 else δ.1 i k) 13 := by
        refine sm_congr (fun k _ => ?_)
        by_cases qk : k = c
        · rw [if_pos ⟨q, qk⟩, if_pos qk, qk]
        · rw [if_neg (fun h => qk h.2), if_neg qk]
      have a2 := sm_at (δ.1 i) (j := c) (n := 13) (v := δ.1 i c + 1) (by omega)
      have a3 := w2 i hi
      rw [a1, if_pos q]
      omega
    · rw [if_neg q, ← w2 i hi]
      exact sm_congr (fun k _ => if_neg (fun h => q h.1))
  · show sm (fun i => if i = p then δ.2.1 i + 1 else δ.2.1 i) N + sm (fun i => (if i = p then l else δ.2.2 i).length) (N + 1) = n
    have a1 : sm (fun i => if i = p then δ.2.1 i + 1 else δ.2.1 i) N = sm (fun i => if i = p then δ.2.1 p + 1 else δ.2.1 i) N := sm_congr (fun i _ => by by_cases q : i = p <;> simp [q])
    have a2 := sm_at δ.2.1 (j := p) (n := N) (v := δ.2.1 p + 1) hp
    have a3 : sm (fun i => (if i = p then l else δ.2.2 i).length) (N + 1) = sm (fun i => if i = p then l.length else (fun i => (δ.2.2 i).length) i) (N + 1) := sm_congr (fun i _ => by by_cases q : i = p <;> simp [q])
    have a4 := sm_at (fun i => (δ.2.2 i).length) (j := p) (n := N + 1) (v := l.length) (by omega)
    have a5 : (δ.2.2 p).length = l.length + 1 := by rw [hq]; rfl
    have a4' : sm (fun i => if i = p then l.length else (fun i => (δ.2.2 i).length) i) (N + 1) + (δ.2.2 p).length = sm (fun i => (δ.2.2 i).length) (N + 1) + l.length := a4
    rw [a1, a3]
    omega
  · have hx : x ∈ (if i = p then l else δ.2.2 i) := hx
    by_cases q : i = p
    · rw [if_pos q] at hx
      exact w4 p (by omega) x (by rw [hq]; exact List.mem_cons_of_mem _ hx)
    · rw [if_neg q] at hx; exact w4 i hi x hx
  · funext k
    show (if i = p ∧ k = c then δ.1 i k + 1 else δ.1 i k) = 0
    rw [if_neg (by omega), (w5 i hi).1]
  · show (if i = p then δ.2.1 i + 1 else δ.2.1 i) = 0
    rw [if_neg (by omega), (w5 i hi).2]
  · show (if i = p ∧ k = c then δ.1 i k + 1 else δ.1 i k) = 0
    rw [if_neg (by omega)]; exact w6 i k hk
  · show (if i = p then l else δ.2.2 i) = []
    rw [if_neg (by omega)]; exact w7 i hi
theorem dW_hand {N K n p c : Nat} {δ : dS} (hW : dW N K n δ) (hK : K ≤ 13) (hp : p < N) (h1 : 0 < δ.1 p c) : dW N K n (dHand p c δ) ∧ 0 < δ.2.1 p ∧ (δ.2.2 (p + 1)).length < 52 ∧ c < K := by
  obtain ⟨w1, w2, w3, w4, w5, w6, w7⟩ := hW
  have hc : c < K := by
    apply Nat.lt_of_not_le
    intro q
    have := w6 p c q
    omega
  have b1 := sm_le (δ.1 p) (show c < 13 by omega)
  have b2 := w2 p hp
  have b3 := sm_le δ.2.1 hp
  have b4 := sm_le (fun i => (δ.2.2 i).length) (show p + 1 < N + 1 by omega)
  have b4' : (δ.2.2 (p + 1)).length ≤ sm (fun i => (δ.2.2 i).length) (N + 1) := b4
  refine ⟨⟨w1, fun i hi => ?_, ?_, fun i hi x hx => ?_, fun i hi => ⟨?_, ?_⟩, fun i k hk => ?_, fun i hi => ?_⟩, by omega, by omega, hc⟩
  · show sm (fun k => if i = p ∧ k = c then δ.1 i k - 1 else δ.1 i k) 13 = (if i = p then δ.2.1 i - 1 else δ.2.1 i)
    by_cases q : i = p
    · have a1 : sm (fun k => if i = p ∧ k = c then δ.1 i k - 1 else δ.1 i k) 13 = sm (fun k => if k = c then δ.1 i c - 1 else δ.1 i k) 13 := by
        refine sm_congr (fun k _ => ?_)
        by_cases qk : k = c
        · rw [if_pos ⟨q, qk⟩, if_pos qk, qk]
        · rw [if_neg (fun h => qk h.2), if_neg qk]
      have a2 := sm_at (δ.1 i) (j := c) (n := 13) (v := δ.1 i c - 1) (by omega)
      have a3 := w2 i hi
      rw [a1, if_pos q]
      rw [q] at a2 a3 ⊢
      omega
    · rw [if_neg q, ← w2 i hi]
      exact sm_congr (fun k _ => if_neg (fun h => q h.1))
  · show sm (fun i => if i = p then δ.2.1 i - 1 else δ.2.1 i) N + sm (fun i => (if i = p + 1 then δ.2.2 i ++ [c] else δ.2.2 i).length) (N + 1) = n
    have a1 : sm (fun i => if i = p then δ.2.1 i - 1 else δ.2.1 i) N = sm (fun i => if i = p then δ.2.1 p - 1 else δ.2.1 i) N := sm_congr (fun i _ => by by_cases q : i = p <;> simp [q])
    have a2 := sm_at δ.2.1 (j := p) (n := N) (v := δ.2.1 p - 1) hp
    have a3 : sm (fun i => (if i = p + 1 then δ.2.2 i ++ [c] else δ.2.2 i).length) (N + 1) = sm (fun i => if i = p + 1 then (δ.2.2 (p + 1)).length + 1 else (fun i => (δ.2.2 i).length) i) (N + 1) := sm_congr (fun i _ => by by_cases q : i = p + 1 <;> simp [q])
    have a4 := sm_at (fun i => (δ.2.2 i).length) (j := p + 1) (n := N + 1) (v := (δ.2.2 (p + 1)).length + 1) (by omega)
    have a4' : sm (fun i => if i = p + 1 then (δ.2.2 (p + 1)).length + 1 else (fun i => (δ.2.2 i).length) i) (N + 1) + (δ.2.2 (p + 1)).length = sm (fun i => (δ.2.2 i).length) (N + 1) + ((δ.2.2 (p + 1)).length + 1) := a4
    rw [a1, a3]
    omega
  · have hx : x ∈ (if i = p + 1 then δ.2.2 i ++ [c] else δ.2.2 i) := hx
    by_cases q : i = p + 1
    · rw [if_pos q] at hx
      rcases List.mem_append.mp hx with h | h
      · exact w4 i hi x h
      · rw [List.mem_singleton.mp h]; exact hc
    · rw [if_neg q] at hx; exact w4 i hi x hx
  · funext k
    show (if i = p ∧ k = c then δ.1 i k - 1 else δ.1 i k) = 0
    rw [if_neg (by omega), (w5 i hi).1]
  · show (if i = p then δ.2.1 i - 1 else δ.2.1 i) = 0
    rw [if_neg (by omega), (w5 i hi).2]
  · show (if i = p ∧ k = c then δ.1 i k - 1 else δ.1 i k) = 0
    rw [if_neg (by omega)]; exact w6 i k hk
  · show (if i = p + 1 then δ.2.2 i ++ [c] else δ.2.2 i) = []
    rw [if_neg (by omega)]; exact w7 i hi
theorem dW_take {N K n p : Nat} {δ : dS} (hW : dW N K n δ) (hK : K ≤ 13) (hp : p < N) : dW N K n (dTake N p δ).2 ∧ ∀ c, (dTake N p δ).1 = some c → c < K ∧ (dTake N p δ).2.2.1 p = δ.2.1 p + 1 ∧ (dTake N p δ).2.1 p c = δ.1 p c + 1 := by
  have h := dW_sw (p := p) hW (by omega)
  unfold dTake dTake1
  cases hx : dSw N p δ p with
  | nil => exact ⟨by simpa [hx] using h, fun c hc => by simp [hx] at hc⟩
  | cons c l =>
    refine ⟨?_, fun c' hc' => ?_⟩
    · simp only [hx]
      exact dW_got h hK hp hx
    · simp only [hx] at hc' ⊢
      cases hc'
      refine ⟨h.2.2.2.1 p (by omega) c (by show c ∈ dSw N p δ p; rw [hx]; exact List.mem_cons_self), ?_, ?_⟩
      · show (if p = p then δ.2.1 p + 1 else δ.2.1 p) = _
        rw [if_pos rfl]
      · show (if p = p ∧ c = c then δ.1 p c + 1 else δ.1 p c) = _
        rw [if_pos ⟨rfl, rfl⟩]
