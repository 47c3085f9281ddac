/-! The reference reads a FRAME. -/
theorem c_M_has {d : Nat} {D : xD} {P : Int32 → xD → Prop} {n k : Nat} (hn : n < 2 ^ 31) (hk : k < 32) (h1 : n.testBit k = true → P 1 D) (h0 : n.testBit k = false → P 0 D) : xCi (d + 1) m_M_has [.int (nI n), .int (nI k)] D P := by
  refine xCi_of y_M_has (Nat.le_of_ble_eq_true rfl) (s_M_has_0 ?_)
  rw [yb_bit hn hk]
  cases hb : n.testBit k with
  | false => exact ⟨fun _ => ⟨_, rfl, h0 hb⟩, fun z => absurd z (by decide)⟩
  | true => exact ⟨fun z => absurd (by decide) z, fun _ => ⟨_, rfl, h1 hb⟩⟩
theorem or_mod64 (s v : Nat) (hv : v < 6) : s % 64 ||| 2 ^ v = (s ||| 2 ^ v) % 64 := by
  apply Nat.eq_of_testBit_eq
  intro i
  rw [show (64 : Nat) = 2 ^ 6 from rfl, Nat.testBit_or, Nat.testBit_mod_two_pow, Nat.testBit_mod_two_pow, Nat.testBit_or, Nat.testBit_two_pow]
  by_cases h : i < 6
  · rw [decide_eq_true h, Bool.true_and, Bool.true_and]
  · rw [decide_eq_false h, Bool.false_and, Bool.false_and, decide_eq_false (show ¬ v = i by omega)]; rfl
theorem or_mod64' (s : Nat) : (s ||| 2 ^ 6) % 64 = s % 64 := by
  apply Nat.eq_of_testBit_eq
  intro i
  rw [show (64 : Nat) = 2 ^ 6 from rfl, Nat.testBit_mod_two_pow, Nat.testBit_mod_two_pow, Nat.testBit_or, Nat.testBit_two_pow]
  by_cases h : i < 6
  · rw [decide_eq_false (show ¬ 6 = i by omega), Bool.or_false]
  · rw [decide_eq_false h, Bool.false_and, Bool.false_and]
theorem bit_mod64 (s v : Nat) (hv : v < 6) : (s % 64).testBit v = s.testBit v := by
  rw [show (64 : Nat) = 2 ^ 6 from rfl, Nat.testBit_mod_two_pow, decide_eq_true hv, Bool.true_and]
section MFILM
variable {d : Nat} {D E : xD} {t : Nat × (Nat → Nat)} {p p1 : Nat} {q : qS}
/-- who is in it -/
theorem fm_loop {P : Int32 → xD → Prop} {x1 : Int64} {x3 : Int32} (hp1 : 1 ≤ p1) (R : mrd D t 4 q) (hv : vOK 4 q) (oE : mF 337 338 11 26 D E) (k20 : ∀ j, 20 ≤ j → j < 24 → E.1 325 j = D.1 325 j) (h24 : E.1 325 24 = nI (tV t p1)) (hV0 : tV t p1 < 100) (hK1 : tK t p1 = 1)
    (hL : lnS t 4 q p = lnRest t q p p1 11)
    (W : mwl E E t (chk (if tN q.2.1 0 < 10 then q.1 else nt q.1 3 (tS t p)) (tV t p1) (frA q.2.1) 99 (tS t p1)) (tE t p1))
    (h0 : ∀ b D', mF 336 338 11 26 D D' → lnS t 4 q p = .inl b → D'.1 325 17 = nI b → P 0 D')
    (h1 : ∀ q' pp D', mF 336 338 11 26 D D' → (tK t pp ≠ 2 → lnS t 4 q p = .inl (tS t pp)) → (tK t pp = 2 → lnS t 4 q p = .inr (q', tE t pp)) → mrd D' t 4 q' → vOK 4 q' → mtk D' t pp → fB q'.1 (tS t pp) → P 1 D') :
    ∀ x4 : Int32, xPf (d + 6) m_M_filmLine 76 [(0, .ref 325), (1, .long x1), (3, .int x3), (4, .int x4), (5, .int (nI (tV t p1))), (6, .int (0 : Int32))] [] E (fun r D' => ∃ v, r = some (.int v) ∧ P v D') := by
  have l11 : xl (325 + 11) = 121 := cl_13_20 xk_M
  have l12 : xl (325 + 12) = 4 := cl_13_21 xk_M
  have i11 : vp_in (0 : Int32) (xl (325 + 11)) := by rw [l11]; exact vp_in_nI (n := 0) (by omega) (by omega)
  have i12 : vp_in (0 : Int32) (xl (325 + 12)) := by rw [l12]; exact vp_in_nI (n := 0) (by omega) (by omega)
  have e6 := tSix_is
  have hl : lsN 11 = 1 := rfl
  have hm : msN 11 = tSix := by unfold msN; rw [if_pos (by omega)]
  obtain ⟨r1, r2, r3, r4, r5, r6, r7, r8⟩ := R
  have hc := r5.2.2.2.2 rfl
  generalize hF2 : chk (if tN q.2.1 0 < 10 then q.1 else nt q.1 3 (tS t p)) (tV t p1) (frA q.2.1) 99 (tS t p1) = F2 at W
  have key : ∀ m i, m = t.1 - nx t p1 (i + 1) → (∀ j, j < i + 1 → tK t (nx t p1 j) = 1) → ∀ D' x4, mwl E D' t (frW F2 (fun i => tV t (nx t p1 i)) (fun i => tS t (nx t p1 i)) i).1 (nx t p1 (i + 1)) →
      xPf (d + 6) m_M_filmLine 76 [(0, .ref 325), (1, .long x1), (3, .int x3), (4, .int x4), (5, .int (nI (tV t p1))), (6, .int (nI ((frW F2 (fun i => tV t (nx t p1 i)) (fun i => tS t (nx t p1 i)) i).2 % 64)))] [] D' (fun r D' => ∃ v, r = some (.int v) ∧ P v D') := by
    intro m
    induction m using Nat.strongRecOn with
    | _ m ih =>
      intro i hm' hall D' x4 W'
      have lt7 := frW_lt (V := fun i => tV t (nx t p1 i)) (P := fun i => tS t (nx t p1 i)) (F := F2) i
      generalize hf : frW F2 (fun i => tV t (nx t p1 i)) (fun i => tS t (nx t p1 i)) i = fi at W' lt7
      have more := nx_more (t := t) (p := p1) (i := i + 1) hall
      have hple := W'.2.2.2.2.1.1
      have n6 := W'.2.2.1.2.1
      refine s_M_filmLine_76 xk_M ?_
      rw [mtk_N W'.2.2.2.2.1]
      refine ⟨fun c => ?_, fun c => ?_⟩
      · -- the FRAME is told
        obtain ⟨w1, w2, w3, w4, w5, w6⟩ := W'
        have ec : cN t (msN 11) p1 = i + 1 := by rw [hm]; exact cN_stop hall c (by omega)
        have eR := hL.trans (lnRest_n (q := q) (p := p) (show ¬ cN t (msN 11) p1 < lsN 11 by omega) (by omega))
        rw [ec] at eR
        have et : tl q 11 (tS t p) (fun i => tV t (nx t p1 i)) (fun i => tS t (nx t p1 i)) (i + 1) = tlFra q (tS t p) (fun i => tV t (nx t p1 i)) (fun i => tS t (nx t p1 i)) (i + 1) := rfl
        rw [et] at eR
        have vq : vOK 4 (tlFra q (tS t p) (fun i => tV t (nx t p1 i)) (fun i => tS t (nx t p1 i)) (i + 1)) := by
          have := vOK_tl (q := q) (s := 4) (f := 11) (first := tS t p) (c := i + 1) (V := fun i => tV t (nx t p1 i)) (P := fun i => tS t (nx t p1 i)) (Or.inr (Or.inr (Or.inr (Or.inr ⟨rfl, rfl⟩)))) (by omega) hV0 hv
          rw [et] at this; exact this
        have eF : (tlFra q (tS t p) (fun i => tV t (nx t p1 i)) (fun i => tS t (nx t p1 i)) (i + 1)).1 = fi.1 := by
          show (frW (chk (if tN q.2.1 0 < 10 then q.1 else nt q.1 3 (tS t p)) (tV t p1) (frA q.2.1) 99 (tS t p1)) (fun i => tV t (nx t p1 i)) (fun i => tS t (nx t p1 i)) (i + 1 - 1)).1 = fi.1
          rw [hF2, Nat.add_sub_cancel, hf]
        have nn : fi.1 = none → q.1 = none ∧ tN q.2.1 0 < 10 ∧ fi.2 < 64 := by
          intro e
          rw [← hf] at e ⊢
          obtain ⟨a, b⟩ := frW_ok i e
          rw [← hF2] at a
          have a := (chk_none a).1
          by_cases z : tN q.2.1 0 < 10
          · rw [if_pos z] at a; exact ⟨a, z, b⟩
          · rw [if_neg z] at a; exact absurd a (nt_some _ _ _)
        have s1 : D'.1 336 = D.1 336 := by rw [(w1.1 336 (by omega) (by omega)).1, (oE.1 336 (by omega) (by omega)).1]
        have cn : D'.1 (325 + 11) 0 = nI (tN q.2.1 0) := by rw [show D'.1 (325 + 11) 0 = D'.1 336 0 from rfl, s1, r4.2.1 (by omega)]; exact hc.1
        have g22 : D'.1 325 22 = nI q.2.2.1 - 1 := by rw [w2 22 (by omega) (by omega), k20 22 (by omega) (by omega)]; exact r6
        have g23 : D'.1 325 23 = nI q.2.2.2 - 1 := by rw [w2 23 (by omega) (by omega), k20 23 (by omega) (by omega)]; exact r7
        have g24 : D'.1 325 24 = nI (tV t p1) := by rw [w2 24 (by omega) (by omega)]; exact h24
        have oD : mF 336 338 11 26 D D' := (oE.trans w1).m (by omega) (by omega)
        rw [k00, cn]
        refine ⟨i11, fun z => ⟨_, rfl, ?_⟩, fun z => ?_⟩
        · have n10 : ¬ tN q.2.1 0 < 10 := by have := (nI_leI (a := 10) (by omega) (by omega)).mp z; omega
          have ex : (tlFra q (tS t p) (fun i => tV t (nx t p1 i)) (fun i => tS t (nx t p1 i)) (i + 1)).2 = q.2 := Prod.ext (if_neg n10) rfl
          refine h1 _ _ D' oD (fun z => by rw [eR]; exact if_pos z) (fun z => by rw [eR]; exact if_neg (not_not_intro z)) ⟨w3, by rw [eF]; exact w4, fun e => absurd (nn (eF ▸ e)).2.1 n10, ⟨fun e => by omega, fun e => by rw [s1, ex]; exact r4.2.1 e, fun e => by omega⟩, by rw [ex]; exact r5, by rw [ex]; exact g22, by rw [ex]; exact g23, fun _ e => absurd (nn (eF ▸ e)).2.1 n10⟩ vq w5 (by rw [eF]; exact w6)
        · have n10 : tN q.2.1 0 < 10 := Nat.lt_of_not_le (fun y => z (nI_le (a := 10) y (by omega)))
          have ex : (tlFra q (tS t p) (fun i => tV t (nx t p1 i)) (fun i => tS t (nx t p1 i)) (i + 1)).2.1 = tSet (tSet (tSet q.2.1 (1 + 2 * tN q.2.1 0) (nI (tV t p1))) (2 + 2 * tN q.2.1 0) (nI fi.2)) 0 (nI (tN q.2.1 0 + 1)) := by
            show (if tN q.2.1 0 < 10 then tSet (tSet (tSet q.2.1 (1 + 2 * tN q.2.1 0) (nI (tV t p1))) (2 + 2 * tN q.2.1 0) (nI (frW (chk (if tN q.2.1 0 < 10 then q.1 else nt q.1 3 (tS t p)) (tV t p1) (frA q.2.1) 99 (tS t p1)) (fun i => tV t (nx t p1 i)) (fun i => tS t (nx t p1 i)) (i + 1 - 1)).2)) 0 (nI (tN q.2.1 0 + 1)) else q.2.1) = _
            rw [if_pos n10, hF2, Nat.add_sub_cancel, hf]
          have eg : (tlFra q (tS t p) (fun i => tV t (nx t p1 i)) (fun i => tS t (nx t p1 i)) (i + 1)).2.2 = q.2.2 := rfl
          generalize hN : tN q.2.1 0 = N at *
          have ix1 : ∀ a : Nat, Int32.ofNat a + (2 : Int32) * nI N = nI (a + 2 * N) := fun a => by rw [show (2 : Int32) * nI N = nI (2 * N) from pk_mul 2 _]; exact nI_add a _
          rw [show (1 : Int32) + (2 : Int32) * nI N = nI (1 + 2 * N) from ix1 1, nI_clamp (by omega)]
          refine ⟨i11, by rw [l11]; exact vp_in_nI (by omega) (by omega), fun D1 e1 => ?_⟩
          obtain ⟨o1, v1⟩ := ma (by omega) e1
          have v1' : ∀ j, D1.1 336 j = if j = 1 + 2 * N then nI (tV t p1) else D'.1 336 j := v1
          have c1 : D1.1 (325 + 11) 0 = nI N := by rw [show D1.1 (325 + 11) 0 = D1.1 336 0 from rfl, v1', if_neg (by omega)]; exact cn
          rw [c1, show (2 : Int32) + (2 : Int32) * nI N = nI (2 + 2 * N) from ix1 2, nI_clamp (by omega)]
          refine ⟨i11, by rw [l11]; exact vp_in_nI (by omega) (by omega), fun D2 e2 => ?_⟩
          obtain ⟨o2, v2⟩ := ma (by omega) e2
          have v2' : ∀ j, D2.1 336 j = if j = 2 + 2 * N then nI (fi.2 % 64) else D1.1 336 j := v2
          have c2 : D2.1 (325 + 11) 0 = nI N := by rw [show D2.1 (325 + 11) 0 = D2.1 336 0 from rfl, v2', if_neg (by omega)]; exact c1
          rw [c2, nI_1]
          refine ⟨i11, i11, fun D3 e3 => ⟨_, rfl, ?_⟩⟩
          obtain ⟨o3, v3⟩ := ma (by omega) e3
          have v3' : ∀ j, D3.1 336 j = if j = 0 then nI (N + 1) else D2.1 336 j := v3
          have o13 : mF 336 337 0 0 D' D3 := (o1.m (by omega) (by omega)).trans ((o2.m (by omega) (by omega)).trans (o3.m (by omega) (by omega)))
          have n0 : tN (tlFra q (tS t p) (fun i => tV t (nx t p1 i)) (fun i => tS t (nx t p1 i)) (i + 1)).2.1 0 = N + 1 := by rw [ex, tSet_N, if_pos rfl, nI_clamp (by omega)]
          have x0 : (tlFra q (tS t p) (fun i => tV t (nx t p1 i)) (fun i => tS t (nx t p1 i)) (i + 1)).2.1 0 = nI (N + 1) := by rw [ex, tSet_at, if_pos rfl]
          have fa : frA (tlFra q (tS t p) (fun i => tV t (nx t p1 i)) (fun i => tS t (nx t p1 i)) (i + 1)).2.1 = tV t p1 + 1 := by
            unfold frA
            rw [n0, if_neg (by omega), Nat.add_sub_cancel, ex]
            unfold fT
            rw [tSet_N, if_neg (by omega), tSet_N, if_neg (by omega), tSet_N, if_pos rfl, nI_clamp (by omega)]
          refine h1 (tlFra q (tS t p) (fun i => tV t (nx t p1 i)) (fun i => tS t (nx t p1 i)) (i + 1)) (nx t p1 (i + 1)) D3 (oD.trans (o13.m (by omega) (by omega))) (fun z => by rw [eR]; exact if_pos z) (fun z => by rw [eR]; exact if_neg (not_not_intro z)) ⟨w3.fr o13 (by omega) (by omega), by rw [eF]; exact w4.fr o13 (by omega), fun e j hj => ?_, ⟨fun e => by omega, fun _ => by rw [v3', if_pos rfl, x0], fun e => by omega⟩, ⟨fun e => by omega, fun e => by omega, fun e => by omega, fun e => by omega, fun _ => ⟨by rw [n0, x0], by rw [n0]; omega⟩⟩, by rw [o13.2 22 (by omega), eg]; exact g22, by rw [o13.2 23 (by omega), eg]; exact g23, fun _ _ => by rw [o13.2 24 (by omega), fa, aI_s]; exact g24⟩ vq (mtk_fr w5 o13 (by omega) (by rw [e3, e2, e1])) (by rw [eF]; exact w6)
          obtain ⟨a, -, b⟩ := nn (eF ▸ e)
          rw [v3', v2', v1', s1, r3 a j hj, ex, tSet_at, tSet_at, tSet_at, Nat.mod_eq_of_lt b]
      · -- one more
        have hS := tS_le W'.2.2.2.2.1.1
        have b13 : D'.1 325 13 = nI (tS t (nx t p1 (i + 1))) := W'.2.2.2.2.1.2.1
        have fbi := W'.2.2.2.2.2
        rw [b13]
        have hall' : ∀ j, j < i + 1 + 1 → tK t (nx t p1 j) = 1 := fun j hj => by
          by_cases y : j = i + 1
          · rw [y]; exact c
          · exact hall j (by omega)
        have hgt := tE_gt (t := t) (p := nx t p1 (i + 1)) (by omega)
        have hge := tS_ge t (nx t p1 (i + 1))
        have hle := tE_le (t := t) (p := nx t p1 (i + 1)) hple
        have hlt := tS_lt (t := t) (p := nx t p1 (i + 1)) (by omega)
        refine wl_take (k := 0) (lo := 0) (hi := 5) W' (by omega) (by omega) (by omega) (fun cc _ _ _ => absurd c cc) (fun _ hvn hSn D4 W4 v4 _ => z1' ⟨i12, ?_⟩)
        have e40 : D4.1 (325 + 12) 0 = nI (tV t (nx t p1 (i + 1))) := by rw [show D4.1 (325 + 12) 0 = D4.1 337 0 from rfl, v4, if_pos rfl]
        have fs : frW F2 (fun i => tV t (nx t p1 i)) (fun i => tS t (nx t p1 i)) (i + 1) = (if fi.2.testBit (min (tV t (nx t p1 (i + 1))) 6) = true then nt (chk fi.1 (tV t (nx t p1 (i + 1))) 0 5 (tS t (nx t p1 (i + 1)))) 2 (tS t (nx t p1 (i + 1))) else chk fi.1 (tV t (nx t p1 (i + 1))) 0 5 (tS t (nx t p1 (i + 1))), fi.2 ||| 2 ^ min (tV t (nx t p1 (i + 1))) 6) := by rw [frW, hf]
        have nxt : ∀ D5 x, mwl E D5 t (frW F2 (fun i => tV t (nx t p1 i)) (fun i => tS t (nx t p1 i)) (i + 1)).1 (nx t p1 (i + 1 + 1)) → ∀ y : Int32, y = nI ((frW F2 (fun i => tV t (nx t p1 i)) (fun i => tS t (nx t p1 i)) (i + 1)).2 % 64) → xPf (d + 6) m_M_filmLine 76 [(0, .ref 325), (1, .long x1), (3, .int x3), (4, .int x), (5, .int (nI (tV t p1))), (6, .int y)] [] D5 (fun r D' => ∃ v, r = some (.int v) ∧ P v D') := by
          intro D5 x W5 y ey
          subst ey
          exact ih (t.1 - nx t p1 (i + 1 + 1)) (by show t.1 - tE t (nx t p1 (i + 1)) < m; omega) (i + 1) rfl hall' D5 x W5
        rw [k00, e40]
        refine ⟨fun y => ⟨i12, fun _ => ?_, fun z => absurd y z⟩, fun y => ⟨i12, ?_⟩⟩
        · have v6 := (nI_leI (a := 6) (by omega) (by omega)).mp y
          have e1 : (frW F2 (fun i => tV t (nx t p1 i)) (fun i => tS t (nx t p1 i)) (i + 1)).1 = chk fi.1 (tV t (nx t p1 (i + 1))) 0 5 (tS t (nx t p1 (i + 1))) := by
            rw [fs]
            have ck : chk fi.1 (tV t (nx t p1 (i + 1))) 0 5 (tS t (nx t p1 (i + 1))) = nt fi.1 2 (tS t (nx t p1 (i + 1))) := by unfold chk; rw [if_pos (by omega)]
            rw [ck]
            split
            · cases fi.1 <;> rfl
            · rfl
          have e2 : (frW F2 (fun i => tV t (nx t p1 i)) (fun i => tS t (nx t p1 i)) (i + 1)).2 % 64 = fi.2 % 64 := by
            rw [fs]
            show (fi.2 ||| 2 ^ min (tV t (nx t p1 (i + 1))) 6) % 64 = _
            rw [Nat.min_eq_right v6]; exact or_mod64' _
          exact nxt D4 _ (by rw [e1]; exact W4) _ (by rw [e2]; exact (yb_or (fi.2 % 64) 0).trans (by rw [Nat.or_zero]))
        · have v6 : tV t (nx t p1 (i + 1)) < 6 := Nat.lt_of_not_le (fun z => y (nI_le (a := 6) z (by omega)))
          have cke : chk fi.1 (tV t (nx t p1 (i + 1))) 0 5 (tS t (nx t p1 (i + 1))) = fi.1 := by unfold chk; rw [if_neg (by omega)]
          have e2 : (frW F2 (fun i => tV t (nx t p1 i)) (fun i => tS t (nx t p1 i)) (i + 1)).2 % 64 = fi.2 % 64 ||| 2 ^ tV t (nx t p1 (i + 1)) := by
            rw [fs]
            show (fi.2 ||| 2 ^ min (tV t (nx t p1 (i + 1))) 6) % 64 = _
            rw [Nat.min_eq_left (by omega), or_mod64 _ _ v6]
          have yor : nI (fi.2 % 64) ||| ((1 : Int32) <<< (nI (tV t (nx t p1 (i + 1))) &&& 31)) = nI ((frW F2 (fun i => tV t (nx t p1 i)) (fun i => tS t (nx t p1 i)) (i + 1)).2 % 64) := by rw [yb_1 (by omega), yb_or, e2]
          rw [cke] at W4
          refine c_M_has (by omega) (by omega) (fun b => z1 ?_) (fun b => z0 ⟨i12, ?_⟩)
          · rw [bit_mod64 _ _ v6] at b
            have e1 : (frW F2 (fun i => tV t (nx t p1 i)) (fun i => tS t (nx t p1 i)) (i + 1)).1 = nt fi.1 2 (tS t (nx t p1 (i + 1))) := by
              rw [fs]
              show (if fi.2.testBit (min (tV t (nx t p1 (i + 1))) 6) = true then nt (chk fi.1 (tV t (nx t p1 (i + 1))) 0 5 (tS t (nx t p1 (i + 1)))) 2 (tS t (nx t p1 (i + 1))) else chk fi.1 (tV t (nx t p1 (i + 1))) 0 5 (tS t (nx t p1 (i + 1)))) = _
              rw [Nat.min_eq_left (by omega), if_pos b, cke]
            obtain ⟨w1, w2, w3, w4, w5, w6⟩ := W4
            refine c_M_bad w4 (by omega) (fun D8 o8 k8 _ m8 d8 => ⟨i12, ?_⟩)
            rw [lt'_nt fbi] at m8
            have e80 : D8.1 (325 + 12) 0 = nI (tV t (nx t p1 (i + 1))) := by rw [(o8.1 (325 + 12) (by omega) (by omega)).1]; exact e40
            have W8 : mwl E D8 t (frW F2 (fun i => tV t (nx t p1 i)) (fun i => tS t (nx t p1 i)) (i + 1)).1 (nx t p1 (i + 1 + 1)) := ⟨w1.trans (o8.m (by omega) (by omega)), fun j a b => by rw [k8 j a b]; exact w2 j a b, w3.fr o8 (by omega) (by omega), by rw [e1]; exact m8, mtk_fr w5 o8 (by omega) (by rw [d8]), by rw [e1]; exact nt_fB w6 hlt⟩
            rw [e80]
            exact ⟨fun z => absurd z y, fun _ => ⟨i12, nxt D8 _ W8 _ yor⟩⟩
          · rw [bit_mod64 _ _ v6] at b
            have e1 : (frW F2 (fun i => tV t (nx t p1 i)) (fun i => tS t (nx t p1 i)) (i + 1)).1 = fi.1 := by
              rw [fs]
              show (if fi.2.testBit (min (tV t (nx t p1 (i + 1))) 6) = true then nt (chk fi.1 (tV t (nx t p1 (i + 1))) 0 5 (tS t (nx t p1 (i + 1)))) 2 (tS t (nx t p1 (i + 1))) else chk fi.1 (tV t (nx t p1 (i + 1))) 0 5 (tS t (nx t p1 (i + 1)))) = _
              rw [Nat.min_eq_left (by omega), if_neg (by rw [b]; exact Bool.false_ne_true), cke]
            rw [e40]
            exact ⟨fun z => absurd z y, fun _ => ⟨i12, nxt D4 _ (by rw [e1]; exact W4) _ yor⟩⟩
  intro x4
  exact key (t.1 - nx t p1 (0 + 1)) 0 rfl (fun j hj => by rw [show j = 0 by omega]; exact hK1) E x4 W
theorem c_M_filmLine {P : Int32 → xD → Prop} (R : mrd D t 4 q) (hv : vOK 4 q) (hk : mtk D t p) (hB : fB q.1 (tS t p))
    (h0 : ∀ b D', mF 336 338 11 26 D D' → lnS t 4 q p = .inl b → D'.1 325 17 = nI b → P 0 D')
    (h1 : ∀ q' pp D', mF 336 338 11 26 D D' → (tK t pp ≠ 2 → lnS t 4 q p = .inl (tS t pp)) → (tK t pp = 2 → lnS t 4 q p = .inr (q', tE t pp)) → mrd D' t 4 q' → vOK 4 q' → mtk D' t pp → fB q'.1 (tS t pp) → P 1 D') : xCi (d + 6) m_M_filmLine [.ref 325, .long (wd0 t p), .int (nI (tS t p))] D P := by
  have l12 : xl (325 + 12) = 4 := cl_13_21 xk_M
  have i12 : vp_in (0 : Int32) (xl (325 + 12)) := by rw [l12]; exact vp_in_nI (n := 0) (by omega) (by omega)
  have W := mwl_0 R hk hB
  have e4 : lnF 4 = [(16, 11)] := rfl
  refine xCi_of y_M_filmLine (Nat.le_of_ble_eq_true rfl) (s_M_filmLine_0 xk_M ?_)
  rw [cc_16, wIx_cmp (k := 16) (by omega)]
  refine ⟨fun c => ?_, fun c => wl_fails W (fun D' o f => ⟨Or.inl rfl, _, rfl, h0 _ D' (o.m (by omega) (by omega)) (lnS_none (by omega) ?_) f⟩)⟩
  · have kk := wIx_some.mp c
    have hp := tE_gt (t := t) (p := p) (by omega)
    have hlt : tS t p < tS t (tE t p) := tS_lt (by omega)
    have hL : lnS t 4 q p = lnRest t q p (tE t p) 11 := lnS_look (by omega) (by rw [c, e4]; rfl)
    have hc := R.2.2.2.2.1.2.2.2.2 rfl
    have t0 : D.1 336 0 = nI (tN q.2.1 0) := by rw [R.2.2.2.1.2.1 (by omega)]; exact hc.1
    refine wl_full (c := 0) (most := 10) W (by omega) t0 hc.2 (by omega) (fun D1 o1 m1 _ => ?_)
    rw [lt'_nt hB] at m1
    refine c_M_token (R.1.fr o1 (by omega) (by omega)) (p := tE t p) (by rw [o1.2 11 (by omega)]; exact hk.2.2.1) (tE_le hk.1) (fun D2 o2 T2 k2 => ?_)
    have h24 := R.2.2.2.2.2.2.2 rfl
    have hfb : fB (if tN q.2.1 0 < 10 then q.1 else nt q.1 3 (tS t p)) (tS t (tE t p)) := by
      split
      · exact hB.mono (by omega)
      · exact nt_fB (hB.mono (by omega)) hlt
    have fnone : (if tN q.2.1 0 < 10 then q.1 else nt q.1 3 (tS t p)) = none → q.1 = none := by
      intro e
      by_cases z : tN q.2.1 0 < 10
      · rw [if_pos z] at e; exact e
      · rw [if_neg z] at e; exact absurd e (nt_some _ _ _)
    have LP := fun (E : xD) => fm_loop (d := d) (D := D) (E := E) (t := t) (p := p) (p1 := tE t p) (q := q) (P := P) (x1 := wd0 t p) (x3 := nI (tS t p)) (by omega) R hv
    generalize hF1 : (if tN q.2.1 0 < 10 then q.1 else nt q.1 3 (tS t p)) = F1 at m1 hfb fnone LP
    have W2 : mwl D D2 t F1 (tE t p) := ⟨(o1.m (by omega) (by omega)).trans (o2.m (by omega) (by omega)), fun j a b => by rw [o2.2 j (by omega), o1.2 j (by omega)], T2, m1.fr o2 (by omega), k2, hfb⟩
    have b13 : D2.1 325 13 = nI (tS t (tE t p)) := k2.2.1
    rw [b13]
    refine wl_take (k := 0) (lo := 0) (hi := 99) W2 (by omega) (by omega) (by omega) (fun cc D' o f17 => z0' ⟨_, rfl, h0 _ D' (o.m (by omega) (by omega)) (hL.trans (lnRest_0 (by decide) cc)) f17⟩) (fun cc hv0 hS0 D3 W3 v3 _ => z1' ⟨i12, ?_⟩)
    have e30 : D3.1 (325 + 12) 0 = nI (tV t (tE t p)) := by rw [show D3.1 (325 + 12) 0 = D3.1 337 0 from rfl, v3, if_pos rfl]
    have ck : chk F1 (tV t (tE t p)) 0 99 (tS t (tE t p)) = F1 := by unfold chk; rw [if_neg (by omega)]
    rw [ck] at W3
    obtain ⟨w1, w2, w3, w4, w5, w6⟩ := W3
    have hg1 := tS_lt (t := t) (p := tE t p) (by omega)
    have e324 : D3.1 325 24 = D.1 325 24 := w2 24 (by omega) (by omega)
    rw [k00, e30, e324]
    -- the frames begin with the tenth
    have go : ∀ E, mF 337 338 11 26 D3 E → (∀ j, 20 ≤ j → j < 24 → E.1 325 j = D3.1 325 j) → E.1 325 24 = nI (tV t (tE t p)) → mtp E t → mFlt E (chk F1 (tV t (tE t p)) (frA q.2.1) 99 (tS t (tE t p))) → mtk E t (tE t (tE t p)) → ∀ x4 : Int32, xPf (d + 6) m_M_filmLine 76 [(0, .ref 325), (1, .long (wd0 t p)), (3, .int (nI (tS t p))), (4, .int x4), (5, .int (nI (tV t (tE t p)))), (6, .int (0 : Int32))] [] E (fun r D' => ∃ v, r = some (.int v) ∧ P v D') := by
      intro E oE kE gE TE mE kE' x4
      exact LP E (w1.trans oE) (fun j a b => by rw [kE j a b]; exact w2 j a (by omega)) gE hv0 cc hL ⟨mF.rfl', fun _ _ _ => rfl, TE, mE, kE', chk_fB (hfb.mono (by omega)) hg1⟩ h0 h1 x4
    have fa100 : q.1 = none → frA q.2.1 ≤ 100 := by
      intro e
      have f := (hv.1 e).2.2.2.2 rfl
      unfold frA
      split
      · omega
      · have := (f.2.2 (tN q.2.1 0 - 1) (by omega)).2.1; omega
    refine ⟨fun z D5 e5 => ?_, fun z => c_M_bad w4 (by omega) (fun D6 o6 k6 _ m6 d6 D7 e7 => ?_)⟩
    · obtain ⟨o5, f5⟩ := mf e5
      refine go D5 (o5.m (by omega) (by omega)) (fun j a b => by rw [o5.2 j (by omega)]) f5 (w3.fr o5 (by omega) (by omega)) ?_ (mtk_fr w5 o5 (by omega) (by rw [e5])) _
      have : chk F1 (tV t (tE t p)) (frA q.2.1) 99 (tS t (tE t p)) = F1 := by
        unfold chk
        cases hF : F1 with
        | none =>
          have e := fnone hF
          rw [h24 e, show nI (frA q.2.1) - 1 < nI (tV t (tE t p)) ↔ frA q.2.1 < tV t (tE t p) + 1 by rw [← aI_s (tV t (tE t p)), aI_lt (by have := fa100 e; omega) (by omega)]] at z
          rw [if_neg (by omega)]
        | some f => split <;> rfl
      rw [this]; exact w4.fr o5 (by omega)
    · obtain ⟨o7, f7⟩ := mf e7
      refine go D7 ((o6.m (by omega) (by omega)).trans (o7.m (by omega) (by omega))) (fun j a b => by rw [o7.2 j (by omega), k6 j a (by omega)]) f7 ((w3.fr o6 (by omega) (by omega)).fr o7 (by omega) (by omega)) ?_ (mtk_fr (mtk_fr w5 o6 (by omega) (by rw [d6])) o7 (by omega) (by rw [e7])) _
      rw [lt'_nt hfb] at m6
      have : chk F1 (tV t (tE t p)) (frA q.2.1) 99 (tS t (tE t p)) = nt F1 2 (tS t (tE t p)) := by
        unfold chk
        cases hF : F1 with
        | none =>
          have e := fnone hF
          rw [h24 e, show nI (frA q.2.1) - 1 < nI (tV t (tE t p)) ↔ frA q.2.1 < tV t (tE t p) + 1 by rw [← aI_s (tV t (tE t p)), aI_lt (by have := fa100 e; omega) (by omega)]] at z
          rw [if_pos (by omega)]
        | some f => split <;> rfl
      rw [this]; exact m6.fr o7 (by omega)
  · rw [e4]
    cases hw : wIx t p with
    | none => rfl
    | some k => rw [look, if_neg (fun y => c (by rw [hw, y]))]; rfl
end MFILM
