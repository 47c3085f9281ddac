/-! The law's loop; its beginning. -/
section LAW3
variable {κ : xK} {p : Program} {l : Launch} {e : Env} {s : State} {mid : MethodId} {below : List Frame} {meth : Method} {c0 : Code} {b Ln : Nat} {xs : Nat → Int32} {n : Nat} {D : xD} {g : gS}
theorem more_of {Ln n : Nat} (hL : Ln ≤ 4096) (hn : n ≤ 8192) (c : ¬ nI Ln - nI 8 < nI n) : n + 8 ≤ Ln := by
  by_cases h : 8 ≤ Ln
  · rw [pk_sub h] at c
    have : ¬ Ln - 8 < n := fun z => c ((nI_ltI (a := Ln - 8) (b := n) (by omega) (by omega)).mpr z)
    omega
  · exfalso
    refine c ?_
    have h0 : nI Ln - nI 8 < 0 := (nI_sub_neg (by omega) (by omega)).mpr (by omega)
    have h1 : (0 : Int32) ≤ nI n := nI_pos' (by omega)
    rw [Int32.lt_iff_toInt_lt] at h0 ⊢
    rw [Int32.le_iff_toInt_le] at h1
    omega
theorem lw_switch (C : lC κ p s mid meth c0 b Ln xs) (hn : n + 8 ≤ Ln) (hI : bI D g) (back : ∀ (D' : xD) (g' : gS), bI D' g' → lP κ p l e s mid below meth c0 b 1916 (L0 n) [] xF D') : lP κ p l e s mid below meth c0 b 27 (L0 n) [] xF D := by
  have hL := C.2.2.2.2.2.2.2.2.2.2.2.2
  refine l_aload C dl_27 rfl ?_
  refine l_iload C dl_28 rfl ?_
  refine l_sld C dl_29 (vp_in_nI (by omega) (by omega)) ?_
  refine l_bipush (v := 63) C dl_30 rfl ?_
  refine l_iand C dl_32 ?_
  obtain ⟨j, hj, ej⟩ := pk_andE (xs (nI n).toNatClampNeg) (m := 63) 6 (by decide)
  rw [ej]
  have hj : j < 64 := hj
  by_cases h36 : j < 36
  · have : j = 0 ∨ j = 1 ∨ j = 2 ∨ j = 3 ∨ j = 4 ∨ j = 5 ∨ j = 6 ∨ j = 7 ∨ j = 8 ∨ j = 9 ∨ j = 10 ∨ j = 11 ∨ j = 12 ∨ j = 13 ∨ j = 14 ∨ j = 15 ∨ j = 16 ∨ j = 17 ∨ j = 18 ∨ j = 19 ∨ j = 20 ∨ j = 21 ∨ j = 22 ∨ j = 23 ∨ j = 24 ∨ j = 25 ∨ j = 26 ∨ j = 27 ∨ j = 28 ∨ j = 29 ∨ j = 30 ∨ j = 31 ∨ j = 32 ∨ j = 33 ∨ j = 34 ∨ j = 35 := by omega
    rcases this with rfl | rfl | rfl | rfl | rfl | rfl | rfl | rfl | rfl | rfl | rfl | rfl | rfl | rfl | rfl | rfl | rfl | rfl | rfl | rfl | rfl | rfl | rfl | rfl | rfl | rfl | rfl | rfl | rfl | rfl | rfl | rfl | rfl | rfl | rfl | rfl
    · exact l_tableIn (off := 159) (tgt := 192) C dl_33 (by decide) (by decide) rfl (by decide) (lw_case_0 C hn hI back)
    · exact l_tableIn (off := 222) (tgt := 255) C dl_33 (by decide) (by decide) rfl (by decide) (lw_case_1 C hn hI back)
    · exact l_tableIn (off := 245) (tgt := 278) C dl_33 (by decide) (by decide) rfl (by decide) (lw_case_2 C hn hI back)
    · exact l_tableIn (off := 278) (tgt := 311) C dl_33 (by decide) (by decide) rfl (by decide) (lw_case_3 C hn hI back)
    · exact l_tableIn (off := 301) (tgt := 334) C dl_33 (by decide) (by decide) rfl (by decide) (lw_case_4 C hn hI back)
    · exact l_tableIn (off := 334) (tgt := 367) C dl_33 (by decide) (by decide) rfl (by decide) (lw_case_5 C hn hI back)
    · exact l_tableIn (off := 377) (tgt := 410) C dl_33 (by decide) (by decide) rfl (by decide) (lw_case_6 C hn hI back)
    · exact l_tableIn (off := 410) (tgt := 443) C dl_33 (by decide) (by decide) rfl (by decide) (lw_case_7 C hn hI back)
    · exact l_tableIn (off := 443) (tgt := 476) C dl_33 (by decide) (by decide) rfl (by decide) (lw_case_8 C hn hI back)
    · exact l_tableIn (off := 486) (tgt := 519) C dl_33 (by decide) (by decide) rfl (by decide) (lw_case_9 C hn hI back)
    · exact l_tableIn (off := 529) (tgt := 562) C dl_33 (by decide) (by decide) rfl (by decide) (lw_case_10 C hn hI back)
    · exact l_tableIn (off := 592) (tgt := 625) C dl_33 (by decide) (by decide) rfl (by decide) (lw_case_11 C hn hI back)
    · exact l_tableIn (off := 667) (tgt := 700) C dl_33 (by decide) (by decide) rfl (by decide) (lw_case_12 C hn hI back)
    · exact l_tableIn (off := 710) (tgt := 743) C dl_33 (by decide) (by decide) rfl (by decide) (lw_case_13 C hn hI back)
    · exact l_tableIn (off := 773) (tgt := 806) C dl_33 (by decide) (by decide) rfl (by decide) (lw_case_14 C hn hI back)
    · exact l_tableIn (off := 816) (tgt := 849) C dl_33 (by decide) (by decide) rfl (by decide) (lw_case_15 C hn hI back)
    · exact l_tableIn (off := 859) (tgt := 892) C dl_33 (by decide) (by decide) rfl (by decide) (lw_case_16 C hn hI back)
    · exact l_tableIn (off := 912) (tgt := 945) C dl_33 (by decide) (by decide) rfl (by decide) (lw_case_17 C hn hI back)
    · exact l_tableIn (off := 1015) (tgt := 1048) C dl_33 (by decide) (by decide) rfl (by decide) (lw_case_18 C hn hI back)
    · exact l_tableIn (off := 1048) (tgt := 1081) C dl_33 (by decide) (by decide) rfl (by decide) (lw_case_19 C hn hI back)
    · exact l_tableIn (off := 1091) (tgt := 1124) C dl_33 (by decide) (by decide) rfl (by decide) (lw_case_20 C hn hI back)
    · exact l_tableIn (off := 1161) (tgt := 1194) C dl_33 (by decide) (by decide) rfl (by decide) (lw_case_21 C hn hI back)
    · exact l_tableIn (off := 1214) (tgt := 1247) C dl_33 (by decide) (by decide) rfl (by decide) (lw_case_22 C hn hI back)
    · exact l_tableIn (off := 1294) (tgt := 1327) C dl_33 (by decide) (by decide) rfl (by decide) (lw_case_23 C hn hI back)
    · exact l_tableIn (off := 1363) (tgt := 1396) C dl_33 (by decide) (by decide) rfl (by decide) (lw_case_24 C hn hI back)
    · exact l_tableIn (off := 1443) (tgt := 1476) C dl_33 (by decide) (by decide) rfl (by decide) (lw_case_25 C hn hI back)
    · exact l_tableIn (off := 1496) (tgt := 1529) C dl_33 (by decide) (by decide) rfl (by decide) (lw_case_26 C hn hI back)
    · exact l_tableIn (off := 1539) (tgt := 1572) C dl_33 (by decide) (by decide) rfl (by decide) (lw_case_27 C hn hI back)
    · exact l_tableIn (off := 1582) (tgt := 1615) C dl_33 (by decide) (by decide) rfl (by decide) (lw_case_28 C hn hI back)
    · exact l_tableIn (off := 1615) (tgt := 1648) C dl_33 (by decide) (by decide) rfl (by decide) (lw_case_29 C hn hI back)
    · exact l_tableIn (off := 1658) (tgt := 1691) C dl_33 (by decide) (by decide) rfl (by decide) (lw_case_30 C hn hI back)
    · exact l_tableIn (off := 1701) (tgt := 1734) C dl_33 (by decide) (by decide) rfl (by decide) (lw_case_31 C hn hI back)
    · exact l_tableIn (off := 1744) (tgt := 1777) C dl_33 (by decide) (by decide) rfl (by decide) (lw_case_32 C hn hI back)
    · exact l_tableIn (off := 1814) (tgt := 1847) C dl_33 (by decide) (by decide) rfl (by decide) (lw_case_33 C hn hI back)
    · exact l_tableIn (off := 1837) (tgt := 1870) C dl_33 (by decide) (by decide) rfl (by decide) (lw_case_34 C hn hI back)
    · exact l_tableIn (off := 1860) (tgt := 1893) C dl_33 (by decide) (by decide) rfl (by decide) (lw_case_35 C hn hI back)
  · exact l_tableOut (tgt := 1916) C dl_33 (Or.inr (by rw [nI_toInt (by omega)]; omega)) (by decide) (back D g hI)
theorem lw_loop (C : lC κ p s mid meth c0 b Ln xs) : ∀ (r n : Nat) (D : xD) (g : gS), Ln < n + 8 * r → n ≤ 8192 → bI D g → lP κ p l e s mid below meth c0 b 18 (L0 n) [] xF D := by
  have hL := C.2.2.2.2.2.2.2.2.2.2.2.2
  intro r
  induction r with
  | zero =>
    intro n D g h1 h2 hI
    refine l_iload C dl_18 rfl ?_
    refine l_aload C dl_19 rfl ?_
    refine l_slen C dl_20 ?_
    refine l_bipush (v := nI 8) C dl_21 rfl ?_
    refine l_isub C dl_23 ?_
    refine l_icmp_gt (tgt := 1922) C dl_24 (by decide) (fun _ => ?_) (fun c => ?_)
    · refine l_iconst (v := 1) C dl_1922 rfl ?_
      exact l_ret C dl_1923 (by decide) xS_F
    · have := more_of hL h2 c
      omega
  | succ r ih =>
    intro n D g h1 h2 hI
    refine l_iload C dl_18 rfl ?_
    refine l_aload C dl_19 rfl ?_
    refine l_slen C dl_20 ?_
    refine l_bipush (v := nI 8) C dl_21 rfl ?_
    refine l_isub C dl_23 ?_
    refine l_icmp_gt (tgt := 1922) C dl_24 (by decide) (fun _ => ?_) (fun c => ?_)
    · refine l_iconst (v := 1) C dl_1922 rfl ?_
      exact l_ret C dl_1923 (by decide) xS_F
    · have hn := more_of hL h2 c
      refine lw_switch C hn hI (fun D' g' hI' => ?_)
      refine l_iinc (v := nI (n + 8)) (L1 := L0 (n + 8)) C dl_1916 rfl (nI_add n 8) (by decide) rfl ?_
      refine l_goto (tgt := 18) C dl_1919 (by decide) ?_
      exact ih (n + 8) D' g' (by omega) (by omega) hI'
/-- all numbers 0 -/
def D00 : xD := (fun _ _ => 0, fun _ _ => 0)
theorem zF_0 (b : Nat) : zF D00 b := ⟨fun _ _ => rfl, fun _ _ => rfl⟩
theorem gE_full (a N : Nat) : gE (gF (fun _ _ => true) a) (fun _ _ => true) a N := ⟨fun i hi k _ => by rw [gF_ne _ (by omega)], fun _ _ _ _ _ => rfl⟩
theorem lw_begin (C : lC κ p s mid meth c0 b Ln xs) : lP κ p l e s mid below meth c0 b 0 [(0, .ref 400000)] [] (0, fun _ _ => true) D00 := by
  have hL := C.2.2.2.2.2.2.2.2.2.2.2.2
  have m1 : xS 1 ≤ 7302250 := Nat.le_trans (xS_mono (show 1 ≤ 368 by omega)) xS_F
  have m2 : xS 326 ≤ 7302250 := Nat.le_trans (xS_mono (show 326 ≤ 368 by omega)) xS_F
  have m3 : xS 325 ≤ 7302250 := Nat.le_trans (xS_mono (show 325 ≤ 368 by omega)) xS_F
  refine l_new (a := 0) C nw_0 wd_23 xk_0 (zF_0 0) (by omega) m1 dl_0 ?_
  refine l_dup C dl_3 rfl ?_
  refine l_callI (d := 7) (y := m_S_init) (As := []) (st := [.ref 0]) (E1 := (325, fun _ _ => true)) (G := (1, gF (fun _ _ => true) 0)) C wd_25 y_S_init wd_26 rfl rfl rfl rfl (Nat.le_of_ble_eq_true rfl) dl_4 (by decide) (by decide) (by decide) m3 (k_S (d := 0) (b := 0) (P := fun D' => lP κ p l e s mid below meth c0 b 7 [(0, .ref 400000)] [.ref 0] (325, fun _ _ => true) D') xk_0 (zF_0 0) (gE_full 0 325) (fun D1 o1 u w1 w2 w3 w4 w5 w6 w7 v => ?_)) (fun r D' ⟨hr, hp⟩ => by subst hr; exact hp)
  have hc := cI_0 (D := D1) u w1 w2 w3 w4 w5 w6 w7 (fun j hj => v j hj)
  have hz : zF D1 325 := (zF_0 0).out o1 (by omega)
  refine l_astore (i := 1) (L1 := [(1, .ref 0), (0, .ref 400000)]) C dl_7 rfl (by decide) rfl ?_
  refine l_new (a := 325) C nw_13 wd_1514 xk_M hz (by omega) m2 dl_8 ?_
  refine l_dup C dl_11 rfl ?_
  refine l_callI (d := 2) (y := m_M_init) (As := []) (st := [.ref 325]) (E1 := xF) (G := (326, gF (fun _ _ => true) 325)) C wd_1516 y_M_init wd_1517 rfl rfl rfl rfl (Nat.le_of_ble_eq_true rfl) dl_12 (by decide) (by decide) (by decide) xS_F (k_M (d := 0) (b := 325) (P := fun D' => lP κ p l e s mid below meth c0 b 15 [(1, .ref 0), (0, .ref 400000)] [.ref 325] xF D') xk_M hz (gE_full 325 43) ?_) (fun r D' ⟨hr, hp⟩ => by subst hr; exact hp)
  refine l_astore (i := 2) (L1 := [(2, .ref 325), (1, .ref 0), (0, .ref 400000)]) C dl_15 rfl (by decide) rfl ?_
  refine l_iconst (v := nI 0) C dl_16 rfl ?_
  refine l_istore (i := 3) (L1 := L0 0) C dl_17 rfl (by decide) rfl ?_
  refine lw_loop C 1000 0 _ g0 (by omega) (by omega) ⟨hc.cg (fun i hi => ?_), mI_0 (fun i h1 h2 => ?_) ?_⟩
  · exact xu_ne _ _ _ (by omega)
  · show xu D1.1 329 0 (-1) i = _
    rw [xu_ne _ _ _ h2]
    exact hz.1 i (by omega)
  · show xu D1.1 329 0 (-1) 329 0 = _
    rw [xu_self]
    rfl
end LAW3
