/-! The reference's films. -/
theorem fsN_is {f : Nat → Bool} {n k : Nat} (hk : k < n) (h1 : f k = true) (h0 : ∀ j, j < k → f j = false) : fsN f n = some k := by
  cases hf : fsN f n with
  | none => have := fsN_none.mp hf k hk; rw [h1] at this; cases this
  | some j =>
    obtain ⟨a, b, c⟩ := fsN_some hf
    rcases Nat.lt_trichotomy j k with z | z | z
    · have := h0 j z; rw [b] at this; cases this
    · rw [z]
    · have := c k z; rw [h1] at this; cases this
/-- who is on the film -/
def fS (φ : Nat → Int32) (p : Nat) : Bool := decide (fFst φ p ≠ none)
/-- the film is laid -/
def mFl (D : xD) (φ : Nat → Int32) (N : Nat) : Prop := D.1 325 79 = nI (bsN (fS φ) N) ∧ ∀ p, p < N → fFst φ p ≠ none → D.1 365 p = nI (fA φ p) - 1 ∧ D.1 366 p = nI (fU φ p)
theorem fS_t {φ : Nat → Int32} {p : Nat} : fS φ p = true ↔ fFst φ p ≠ none := by unfold fS; exact decide_eq_true_iff
theorem or_again {n p : Nat} {f : Nat → Bool} (hp : p < 31) : nI (bsN f p + 2 ^ p) ||| ((1 : Int32) <<< (nI p &&& 31)) = nI (bsN f p + 2 ^ p) := by
  rw [← bsN_s hp, Int32.or_assoc, Int32.or_self]
/-- above which tenth a FRAME is -/
def abv (φ : Nat → Int32) : Nat → Int32
  | 0 => -1
  | k + 1 => nI (fT φ k)
section MFILM2
variable {d : Nat} {D : xD} {g : gS} {φ : Nat → Int32} {N : Nat}
theorem lay_in {R : Option Value → xD → Prop} {p : Nat} {x1 x2 : Int32} (hO : fOK φ) (hN : N ≤ 6) (hp : p < N) (H : mFm D φ) (e79 : D.1 325 79 = nI (bsN (fS φ) p))
    (h : ∀ D', mF 365 367 79 80 D D' → D'.1 325 79 = nI (bsN (fS φ) (p + 1)) → (∀ q, q ≠ p → D'.1 365 q = D.1 365 q ∧ D'.1 366 q = D.1 366 q) → (fFst φ p ≠ none → D'.1 365 p = nI (fA φ p) - 1 ∧ D'.1 366 p = nI (fU φ p)) → xPf (d + 5) m_M_layFilm 31 [(0, .ref 325), (1, .int x1), (2, .int x2), (3, .int (nI (p + 1)))] [] D' R) :
    xPf (d + 5) m_M_layFilm 47 [(0, .ref 325), (1, .int x1), (2, .int x2), (3, .int (nI p)), (4, .int (nI (tN φ 0) - (1 : Int32)))] [] D R := by
  have l40 : xl (325 + 40) = 6 := cl_13_77 xk_M
  have l41 : xl (325 + 41) = 6 := cl_13_78 xk_M
  have h10 := hO.2.1
  have key : ∀ k, k ≤ tN φ 0 → ∀ D', mF 365 367 79 80 D D' → (∀ q, q ≠ p → D'.1 365 q = D.1 365 q ∧ D'.1 366 q = D.1 366 q) →
      ((∀ j, k ≤ j → j < tN φ 0 → fHas φ p j = false) ∧ D'.1 325 79 = nI (bsN (fS φ) p)) ∨ (∃ k0, k ≤ k0 ∧ k0 < tN φ 0 ∧ fHas φ p k0 = true ∧ (∀ j, k ≤ j → j < k0 → fHas φ p j = false) ∧ D'.1 325 79 = nI (bsN (fS φ) p + 2 ^ p) ∧ D'.1 366 p = nI (fT φ k0) ∧ D'.1 365 p = abv φ k0) →
      xPf (d + 5) m_M_layFilm 47 [(0, .ref 325), (1, .int x1), (2, .int x2), (3, .int (nI p)), (4, .int (nI k - (1 : Int32)))] [] D' R := by
    intro k
    induction k with
    | zero =>
      intro _ D' o keep st
      refine s_M_layFilm_47 xk_M ⟨fun _ => ?_, fun z => absurd (by rw [aI_0]; decide) z⟩
      rw [nI_1]
      rcases st with ⟨a, b⟩ | ⟨k0, -, a, b, c, e79', e366, e365⟩
      · have fn : fFst φ p = none := fsN_none.mpr (fun i hi => a i (by omega) hi)
        refine h D' o ?_ keep (fun y => absurd fn y)
        rw [b, bsN, if_neg (fun y => (fS_t.mp y) fn)]; rfl
      · have fs : fFst φ p = some k0 := fsN_is a b (fun j hj => c j (by omega) hj)
        refine h D' o ?_ keep (fun _ => ?_)
        · rw [e79', bsN, if_pos (fS_t.mpr (by rw [fs]; exact fun y => by cases y))]
        · unfold fA fU
          rw [fs]
          refine ⟨?_, e366⟩
          rw [e365]
          cases k0 with
          | zero => exact aI_0.symm
          | succ k0 => exact (aI_s _).symm
    | succ k ih =>
      intro hk D' o keep st
      have H' := H.fr o (by omega) (by omega)
      obtain ⟨t1, t2, t3, t4, t5⟩ := hO.2.2 k (by omega)
      have i40 : vp_in (nI p) (xl (325 + 40)) := by rw [l40]; exact vp_in_nI (by omega) (by omega)
      have i41 : vp_in (nI p) (xl (325 + 41)) := by rw [l41]; exact vp_in_nI (by omega) (by omega)
      have e79k : D'.1 325 79 ||| ((1 : Int32) <<< (nI p &&& 31)) = nI (bsN (fS φ) p + 2 ^ p) := by
        rcases st with ⟨-, b⟩ | ⟨k0, -, -, -, -, b, -⟩
        · rw [b]; exact bsN_s (by omega)
        · rw [b]; exact or_again (n := 0) (by omega)
      refine s_M_layFilm_47 xk_M ?_
      rw [aI_s]
      refine ⟨fun z => absurd z (nI_pos (by omega)), fun _ => c_M_frameOf (w := 1) H' (by omega) (by omega) ?_⟩
      rw [show 1 + 2 * k + 1 = 2 + 2 * k by omega, t3]
      refine c_M_has (by omega) (by omega) (fun b => z1 ?_) (fun b => z0 ?_)
      · have tenth : ∀ D6 : xD, mF 365 367 79 80 D' D6 → (∀ q, q ≠ p → D6.1 365 q = D'.1 365 q ∧ D6.1 366 q = D'.1 366 q) → D6.1 325 79 = D'.1 325 79 → D6.1 365 p = abv φ k → xCi (d + 4) m_M_frameOf [.ref 325, .int (nI k), .int (0 : Int32)] D6 (fun r9 D8 => vp_in (nI p) (xl (325 + 41)) ∧ ∀ D10 : xD, D10 = (xu D8.1 (325 + 41) (nI p).toNatClampNeg r9, D8.2) → ∀ D11 : xD, D11 = (xu D10.1 325 79 ((D10.1 325 79) ||| ((1 : Int32) <<< (nI p &&& 31))), D10.2) → xPf (d + 5) m_M_layFilm 47 [(0, .ref 325), (1, .int x1), (2, .int x2), (3, .int (nI p)), (4, .int (nI k + (-1 : Int32)))] [] D11 R) := by
          intro D6 o6 k6 s6 v6
          refine c_M_frameOf (w := 0) (H'.fr o6 (by omega) (by omega)) (by omega) (by omega) ⟨i41, fun D10 e10 D11 e11 => ?_⟩
          rw [show 1 + 2 * k + 0 = 1 + 2 * k from rfl, t1, nI_clamp (by omega)] at e10
          obtain ⟨o10, v10⟩ := ma (by omega) e10
          obtain ⟨o11, f11⟩ := mf e11
          have v10' : ∀ u, D10.1 366 u = if u = p then nI (fT φ k) else D6.1 366 u := v10
          rw [o10.2 79 (by omega), s6, e79k] at f11
          rw [← Int32.sub_eq_add_neg]
          have oo : mF 365 367 79 80 D6 D11 := (o10.m (by omega) (by omega)).trans (o11.m (by omega) (by omega))
          have a365 : D11.1 365 = D6.1 365 := by rw [(o11.1 365 (by omega) (by omega)).1, (o10.1 365 (by omega) (by omega)).1]
          have a366 : D11.1 366 = D10.1 366 := (o11.1 366 (by omega) (by omega)).1
          refine ih (by omega) D11 (o.trans (o6.trans oo)) (fun q hq => ?_) (Or.inr ⟨k, Nat.le_refl _, by omega, b, fun j a b => by omega, f11, by rw [a366, v10', if_pos rfl], by rw [a365]; exact v6⟩)
          rw [a365, a366, v10', if_neg hq]
          exact ⟨(k6 q hq).1.trans (keep q hq).1, (k6 q hq).2.trans (keep q hq).2⟩
        have zk : nI k = (0 : Int32) ↔ k = 0 := nI_eq (b := 0) (by omega) (by omega)
        rw [zk]
        refine ⟨fun y => ?_, fun y => ⟨i40, fun D12 e12 => ?_⟩⟩
        · obtain ⟨k', rfl⟩ : ∃ k', k = k' + 1 := ⟨k - 1, by omega⟩
          obtain ⟨u1, -⟩ := hO.2.2 k' (by omega)
          rw [aI_s]
          refine c_M_frameOf (w := 0) H' (by omega) (by omega) ⟨i40, fun D7 e7 => ?_⟩
          rw [show 1 + 2 * k' + 0 = 1 + 2 * k' from rfl, u1, nI_clamp (by omega)] at e7
          obtain ⟨o7, v7⟩ := ma (by omega) e7
          have v7' : ∀ u, D7.1 365 u = if u = p then nI (fT φ k') else D'.1 365 u := v7
          exact tenth D7 (o7.m (by omega) (by omega)) (fun q hq => ⟨by rw [v7', if_neg hq], by rw [(o7.1 366 (by omega) (by omega)).1]⟩) (o7.2 79 (by omega)) (by rw [v7', if_pos rfl]; rfl)
        · subst y
          rw [nI_clamp (by omega)] at e12
          obtain ⟨o7, v7⟩ := ma (by omega) e12
          have v7' : ∀ u, D12.1 365 u = if u = p then -1 else D'.1 365 u := v7
          exact tenth D12 (o7.m (by omega) (by omega)) (fun q hq => ⟨by rw [v7', if_neg hq], by rw [(o7.1 366 (by omega) (by omega)).1]⟩) (o7.2 79 (by omega)) (by rw [v7', if_pos rfl]; rfl)
      · rw [← Int32.sub_eq_add_neg]
        refine ih (by omega) D' o keep ?_
        rcases st with ⟨a, e⟩ | ⟨k0, a, b', c, e, f⟩
        · refine Or.inl ⟨fun j hj hj2 => ?_, e⟩
          by_cases y : j = k
          · rw [y]; exact b
          · exact a j (by omega) hj2
        · refine Or.inr ⟨k0, by omega, b', c, fun j hj hj2 => ?_, f⟩
          by_cases y : j = k
          · rw [y]; exact b
          · exact e j (by omega) hj2
  exact key (tN φ 0) (Nat.le_refl _) D mF.rfl' (fun _ _ => ⟨rfl, rfl⟩) (Or.inl ⟨fun j a b => by omega, e79⟩)
theorem c_M_layFilm {P : Int32 → xD → Prop} {x f : Int32} (hI : mI D g) (h0 : ∀ D', mO D D' → (txO g.1 0 x = none ∨ txO g.1 4 f = none) → P 0 D') (h1 : ∀ τ φ D', mO D D' → txO g.1 0 x = some τ → txO g.1 4 f = some φ → tOK τ → tFit τ → fOK φ → mH D' τ → mFm D' φ → mFl D' φ (tN τ 5) → P 1 D') : xCi (d + 5) m_M_layFilm [.ref 325, .int x, .int f] D P := by
  refine xCi_of y_M_layFilm (Nat.le_of_ble_eq_true rfl) (s_M_layFilm_0 xk_M ?_)
  refine c_M_is (s := 4) hI (by omega) (fun q => z0 ⟨_, rfl, h0 D mO.rfl' (Or.inr q)⟩) (fun i hi hi2 hx q => z1 (c_M_hand hI (fun q1 => z0' ⟨_, rfl, h0 D mO.rfl' (Or.inl q1)⟩) (fun τ q1 hT hL hF D2 o2 I2 H2 S2 W2 => z1' (fun D5 e5 D6 e6 => ?_))))
  have hO := ((hI.2.1.2.2 4 (by omega)).2 i hi).2.2.2.2 rfl
  obtain ⟨o5, f5⟩ := mf e5
  obtain ⟨o6, f6⟩ := mf e6
  have b5 := hT.2.2.2.2.2.2.1
  have e5' := hT.1 5 (by omega)
  have oA : mO D D6 := (o2.o (by omega)).trans ((o5.o (by omega)).trans (o6.o (by omega)))
  have H6 : mH D6 τ := (H2.fr o5 (by omega) (by omega)).fr o6 (by omega) (by omega)
  have I6 := hI.o oA
  have Hf : mFm D6 (g.1.2.2.2 4 i) := ⟨i, hi2, by rw [o6.2 76 (by omega), f5, hx], fun j hj => m_tx (s := 4) I6 (by omega) hi hj⟩
  generalize g.1.2.2.2 4 i = φ at q hO Hf
  have key : ∀ m p, p + m = tN τ 5 → ∀ D', mF 365 367 79 80 D6 D' → D'.1 325 79 = nI (bsN (fS φ) p) → (∀ q, q < p → fFst φ q ≠ none → D'.1 365 q = nI (fA φ q) - 1 ∧ D'.1 366 q = nI (fU φ q)) → xPf (d + 5) m_M_layFilm 31 [(0, .ref 325), (1, .int x), (2, .int f), (3, .int (nI p))] [] D' (fun r D' => ∃ v, r = some (.int v) ∧ P v D') := by
    intro m
    induction m with
    | zero =>
      intro p hp D' o e79 v
      have H' := H6.fr o (by omega) (by omega)
      refine s_M_layFilm_31 xk_M ?_
      rw [H'.2.2.2.2, e5']
      refine ⟨fun _ => ⟨_, rfl, h1 τ φ D' (oA.trans (o.o (by omega))) q1 q hT hF hO H' (Hf.fr o (by omega) (by omega)) ?_⟩, fun z => absurd (nI_le (by omega) (by omega)) z⟩
      rw [show tN τ 5 = p by omega]
      exact ⟨e79, v⟩
    | succ m ih =>
      intro p hp D' o e79 v
      have H' := H6.fr o (by omega) (by omega)
      have Hf' := Hf.fr o (by omega) (by omega)
      refine s_M_layFilm_31 xk_M ?_
      rw [H'.2.2.2.2, e5']
      refine ⟨fun z => absurd z (nI_ge (by omega) (by omega)), fun _ => c_M_frames Hf' hO ?_⟩
      refine lay_in (p := p) hO b5 (show p < tN τ 5 by omega) Hf' e79 (fun D3 o3 e3 k3 v3 => ih (p + 1) (by omega) D3 (o.trans o3) e3 (fun q hq hn => ?_))
      by_cases z : q = p
      · rw [z]; exact v3 (by rw [← z]; exact hn)
      · rw [(k3 q z).1, (k3 q z).2]; exact v q (by omega) hn
  exact key (tN τ 5) 0 (by omega) D6 mF.rfl' f6 (fun q hq => absurd hq (Nat.not_lt_zero _))
end MFILM2
