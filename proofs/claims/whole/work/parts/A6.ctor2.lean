/-! The reference's constructor. -/
set_option maxHeartbeats 4000000 in
set_option maxRecDepth 20000 in
theorem k_M {d b : Nat} {ρ ρ' : Nat → Nat → Bool} {D : xD} {P : xD → Prop} (k0 : xk b = 13) (hz : zF D b) (hE : gE ρ ρ' b 43) (h : P (xu D.1 (b + 4) 0 (-1), D.2)) : xCg (d + 2) m_M_init [.ref b] (b + 1, ρ) D (b + 43, ρ') P := by
  refine xCg_of y_M_init (Nat.le_of_ble_eq_true rfl) ?_
  show xP (d + 2) m_M_init 0 [(0, .ref b)] [] (b + 1, ρ) D (b + 43, ρ') _
  refine xb_start (fun ρ hB => ?_)
  refine x_aload_n rfl rfl ?_
  refine x_oinit wd_1519 wd_29 oinitC (by omega) (Nat.le_of_ble_eq_true rfl) rfl ?_
  refine x_aload_n rfl rfl ?_
  refine x_sipush (v := nI 2400) rfl rfl ?_
  refine xb_newa (a := b + 1) (t := 2) (N := 2400) wd_806 rfl (by decide) (ck_13_1 k0) (cl_13_1 k0) (nI_pos (by omega)) (nI_clamp (by omega)) (hz.up (by omega)) (by show _ < b + 43; omega) rfl ?_
  refine xb_putR (g := b + 2) (b := b) lp_M_7 rfl k0 rfl (by omega) hB (fun z => ⟨rfl, rfl⟩) rfl (fun ρ hB => ?_)
  refine x_aload_n rfl rfl ?_
  refine x_iconst (v := nI 4) rfl rfl ?_
  refine xb_newa (a := b + 2) (t := 0) (N := 4) wd_50 rfl (by decide) (ck_13_2 k0) (cl_13_2 k0) (nI_pos (by omega)) (nI_clamp (by omega)) (hz.up (by omega)) (by show _ < b + 43; omega) rfl ?_
  refine xb_putR (g := b + 3) (b := b) lp_M_13 rfl k0 rfl (by omega) hB (fun z => ⟨rfl, rfl⟩) rfl (fun ρ hB => ?_)
  refine x_aload_n rfl rfl ?_
  refine x_iconst (v := nI 4) rfl rfl ?_
  refine xb_newa (a := b + 3) (t := 0) (N := 4) wd_50 rfl (by decide) (ck_13_3 k0) (cl_13_3 k0) (nI_pos (by omega)) (nI_clamp (by omega)) (hz.up (by omega)) (by show _ < b + 43; omega) rfl ?_
  refine xb_putR (g := b + 4) (b := b) lp_M_17 rfl k0 rfl (by omega) hB (fun z => ⟨rfl, rfl⟩) rfl (fun ρ hB => ?_)
  refine x_aload_n rfl rfl ?_
  refine x_iconst (v := nI 4) rfl rfl ?_
  refine xb_newa (a := b + 4) (t := 0) (N := 4) wd_50 rfl (by decide) (ck_13_4 k0) (cl_13_4 k0) (nI_pos (by omega)) (nI_clamp (by omega)) (hz.up (by omega)) (by show _ < b + 43; omega) rfl ?_
  refine xb_putR (g := b + 5) (b := b) lp_M_20 rfl k0 rfl (by omega) hB (fun z => ⟨rfl, rfl⟩) rfl (fun ρ hB => ?_)
  refine x_aload_n rfl rfl ?_
  refine x_bipush (v := nI 20) rfl rfl ?_
  refine xb_newa (a := b + 5) (t := 0) (N := 20) wd_50 rfl (by decide) (ck_13_5 k0) (cl_13_5 k0) (nI_pos (by omega)) (nI_clamp (by omega)) (hz.up (by omega)) (by show _ < b + 43; omega) rfl ?_
  refine xb_putR (g := b + 6) (b := b) lp_M_23 rfl k0 rfl (by omega) hB (fun z => ⟨rfl, rfl⟩) rfl (fun ρ hB => ?_)
  refine x_aload_n rfl rfl ?_
  refine x_sipush (v := nI 384) rfl rfl ?_
  refine xb_newa (a := b + 6) (t := 0) (N := 384) wd_50 rfl (by decide) (ck_13_6 k0) (cl_13_6 k0) (nI_pos (by omega)) (nI_clamp (by omega)) (hz.up (by omega)) (by show _ < b + 43; omega) rfl ?_
  refine xb_putR (g := b + 7) (b := b) lp_M_26 rfl k0 rfl (by omega) hB (fun z => ⟨rfl, rfl⟩) rfl (fun ρ hB => ?_)
  refine x_aload_n rfl rfl ?_
  refine x_sipush (v := nI 424) rfl rfl ?_
  refine xb_newa (a := b + 7) (t := 0) (N := 424) wd_50 rfl (by decide) (ck_13_7 k0) (cl_13_7 k0) (nI_pos (by omega)) (nI_clamp (by omega)) (hz.up (by omega)) (by show _ < b + 43; omega) rfl ?_
  refine xb_putR (g := b + 8) (b := b) lp_M_29 rfl k0 rfl (by omega) hB (fun z => ⟨rfl, rfl⟩) rfl (fun ρ hB => ?_)
  refine x_aload_n rfl rfl ?_
  refine x_sipush (v := nI 968) rfl rfl ?_
  refine xb_newa (a := b + 8) (t := 0) (N := 968) wd_50 rfl (by decide) (ck_13_8 k0) (cl_13_8 k0) (nI_pos (by omega)) (nI_clamp (by omega)) (hz.up (by omega)) (by show _ < b + 43; omega) rfl ?_
  refine xb_putR (g := b + 9) (b := b) lp_M_32 rfl k0 rfl (by omega) hB (fun z => ⟨rfl, rfl⟩) rfl (fun ρ hB => ?_)
  refine x_aload_n rfl rfl ?_
  refine x_sipush (v := nI 432) rfl rfl ?_
  refine xb_newa (a := b + 9) (t := 0) (N := 432) wd_50 rfl (by decide) (ck_13_9 k0) (cl_13_9 k0) (nI_pos (by omega)) (nI_clamp (by omega)) (hz.up (by omega)) (by show _ < b + 43; omega) rfl ?_
  refine xb_putR (g := b + 10) (b := b) lp_M_35 rfl k0 rfl (by omega) hB (fun z => ⟨rfl, rfl⟩) rfl (fun ρ hB => ?_)
  refine x_aload_n rfl rfl ?_
  refine x_sipush (v := nI 168) rfl rfl ?_
  refine xb_newa (a := b + 10) (t := 0) (N := 168) wd_50 rfl (by decide) (ck_13_10 k0) (cl_13_10 k0) (nI_pos (by omega)) (nI_clamp (by omega)) (hz.up (by omega)) (by show _ < b + 43; omega) rfl ?_
  refine xb_putR (g := b + 11) (b := b) lp_M_38 rfl k0 rfl (by omega) hB (fun z => ⟨rfl, rfl⟩) rfl (fun ρ hB => ?_)
  refine x_aload_n rfl rfl ?_
  refine x_bipush (v := nI 121) rfl rfl ?_
  refine xb_newa (a := b + 11) (t := 0) (N := 121) wd_50 rfl (by decide) (ck_13_20 k0) (cl_13_20 k0) (nI_pos (by omega)) (nI_clamp (by omega)) (hz.up (by omega)) (by show _ < b + 43; omega) rfl ?_
  refine xb_putR (g := b + 12) (b := b) lp_M_41 rfl k0 rfl (by omega) hB (fun z => ⟨rfl, rfl⟩) rfl (fun ρ hB => ?_)
  refine x_aload_n rfl rfl ?_
  refine x_iconst (v := nI 4) rfl rfl ?_
  refine xb_newa (a := b + 12) (t := 0) (N := 4) wd_50 rfl (by decide) (ck_13_21 k0) (cl_13_21 k0) (nI_pos (by omega)) (nI_clamp (by omega)) (hz.up (by omega)) (by show _ < b + 43; omega) rfl ?_
  refine xb_putR (g := b + 13) (b := b) lp_M_44 rfl k0 rfl (by omega) hB (fun z => ⟨rfl, rfl⟩) rfl (fun ρ hB => ?_)
  refine x_aload_n rfl rfl ?_
  refine x_bipush (v := nI 6) rfl rfl ?_
  refine xb_newa (a := b + 13) (t := 0) (N := 6) wd_50 rfl (by decide) (ck_13_32 k0) (cl_13_32 k0) (nI_pos (by omega)) (nI_clamp (by omega)) (hz.up (by omega)) (by show _ < b + 43; omega) rfl ?_
  refine xb_putR (g := b + 14) (b := b) lp_M_47 rfl k0 rfl (by omega) hB (fun z => ⟨rfl, rfl⟩) rfl (fun ρ hB => ?_)
  refine x_aload_n rfl rfl ?_
  refine x_bipush (v := nI 6) rfl rfl ?_
  refine xb_newa (a := b + 14) (t := 0) (N := 6) wd_50 rfl (by decide) (ck_13_33 k0) (cl_13_33 k0) (nI_pos (by omega)) (nI_clamp (by omega)) (hz.up (by omega)) (by show _ < b + 43; omega) rfl ?_
  refine xb_putR (g := b + 15) (b := b) lp_M_50 rfl k0 rfl (by omega) hB (fun z => ⟨rfl, rfl⟩) rfl (fun ρ hB => ?_)
  refine x_aload_n rfl rfl ?_
  refine x_bipush (v := nI 6) rfl rfl ?_
  refine xb_newa (a := b + 15) (t := 0) (N := 6) wd_50 rfl (by decide) (ck_13_34 k0) (cl_13_34 k0) (nI_pos (by omega)) (nI_clamp (by omega)) (hz.up (by omega)) (by show _ < b + 43; omega) rfl ?_
  refine xb_putR (g := b + 16) (b := b) lp_M_53 rfl k0 rfl (by omega) hB (fun z => ⟨rfl, rfl⟩) rfl (fun ρ hB => ?_)
  refine x_aload_n rfl rfl ?_
  refine x_bipush (v := nI 6) rfl rfl ?_
  refine xb_newa (a := b + 16) (t := 0) (N := 6) wd_50 rfl (by decide) (ck_13_35 k0) (cl_13_35 k0) (nI_pos (by omega)) (nI_clamp (by omega)) (hz.up (by omega)) (by show _ < b + 43; omega) rfl ?_
  refine xb_putR (g := b + 17) (b := b) lp_M_56 rfl k0 rfl (by omega) hB (fun z => ⟨rfl, rfl⟩) rfl (fun ρ hB => ?_)
  refine x_aload_n rfl rfl ?_
  refine x_bipush (v := nI 6) rfl rfl ?_
  refine xb_newa (a := b + 17) (t := 0) (N := 6) wd_50 rfl (by decide) (ck_13_36 k0) (cl_13_36 k0) (nI_pos (by omega)) (nI_clamp (by omega)) (hz.up (by omega)) (by show _ < b + 43; omega) rfl ?_
  refine xb_putR (g := b + 18) (b := b) lp_M_59 rfl k0 rfl (by omega) hB (fun z => ⟨rfl, rfl⟩) rfl (fun ρ hB => ?_)
  refine x_aload_n rfl rfl ?_
  refine x_bipush (v := nI 6) rfl rfl ?_
  refine xb_newa (a := b + 18) (t := 0) (N := 6) wd_50 rfl (by decide) (ck_13_37 k0) (cl_13_37 k0) (nI_pos (by omega)) (nI_clamp (by omega)) (hz.up (by omega)) (by show _ < b + 43; omega) rfl ?_
  refine xb_putR (g := b + 19) (b := b) lp_M_62 rfl k0 rfl (by omega) hB (fun z => ⟨rfl, rfl⟩) rfl (fun ρ hB => ?_)
  refine x_aload_n rfl rfl ?_
  refine x_bipush (v := nI 6) rfl rfl ?_
  refine xb_newa (a := b + 19) (t := 0) (N := 6) wd_50 rfl (by decide) (ck_13_38 k0) (cl_13_38 k0) (nI_pos (by omega)) (nI_clamp (by omega)) (hz.up (by omega)) (by show _ < b + 43; omega) rfl ?_
  refine xb_putR (g := b + 20) (b := b) lp_M_65 rfl k0 rfl (by omega) hB (fun z => ⟨rfl, rfl⟩) rfl (fun ρ hB => ?_)
  refine x_aload_n rfl rfl ?_
  refine x_bipush (v := nI 52) rfl rfl ?_
  refine xb_newa (a := b + 20) (t := 0) (N := 52) wd_50 rfl (by decide) (ck_13_39 k0) (cl_13_39 k0) (nI_pos (by omega)) (nI_clamp (by omega)) (hz.up (by omega)) (by show _ < b + 43; omega) rfl ?_
  refine xb_putR (g := b + 21) (b := b) lp_M_68 rfl k0 rfl (by omega) hB (fun z => ⟨rfl, rfl⟩) rfl (fun ρ hB => ?_)
  refine x_aload_n rfl rfl ?_
  refine x_bipush (v := nI 78) rfl rfl ?_
  refine xb_newa (a := b + 21) (t := 0) (N := 78) wd_50 rfl (by decide) (ck_13_41 k0) (cl_13_41 k0) (nI_pos (by omega)) (nI_clamp (by omega)) (hz.up (by omega)) (by show _ < b + 43; omega) rfl ?_
  refine xb_putR (g := b + 22) (b := b) lp_M_71 rfl k0 rfl (by omega) hB (fun z => ⟨rfl, rfl⟩) rfl (fun ρ hB => ?_)
  refine x_aload_n rfl rfl ?_
  refine x_bipush (v := nI 6) rfl rfl ?_
  refine xb_newa (a := b + 22) (t := 0) (N := 6) wd_50 rfl (by decide) (ck_13_42 k0) (cl_13_42 k0) (nI_pos (by omega)) (nI_clamp (by omega)) (hz.up (by omega)) (by show _ < b + 43; omega) rfl ?_
  refine xb_putR (g := b + 23) (b := b) lp_M_74 rfl k0 rfl (by omega) hB (fun z => ⟨rfl, rfl⟩) rfl (fun ρ hB => ?_)
  refine x_aload_n rfl rfl ?_
  refine x_sipush (v := nI 448) rfl rfl ?_
  refine xb_newa (a := b + 23) (t := 0) (N := 448) wd_50 rfl (by decide) (ck_13_43 k0) (cl_13_43 k0) (nI_pos (by omega)) (nI_clamp (by omega)) (hz.up (by omega)) (by show _ < b + 43; omega) rfl ?_
  refine xb_putR (g := b + 24) (b := b) lp_M_77 rfl k0 rfl (by omega) hB (fun z => ⟨rfl, rfl⟩) rfl (fun ρ hB => ?_)
  refine x_aload_n rfl rfl ?_
  refine x_bipush (v := nI 7) rfl rfl ?_
  refine xb_newa (a := b + 24) (t := 0) (N := 7) wd_50 rfl (by decide) (ck_13_44 k0) (cl_13_44 k0) (nI_pos (by omega)) (nI_clamp (by omega)) (hz.up (by omega)) (by show _ < b + 43; omega) rfl ?_
  refine xb_putR (g := b + 25) (b := b) lp_M_80 rfl k0 rfl (by omega) hB (fun z => ⟨rfl, rfl⟩) rfl (fun ρ hB => ?_)
  refine x_aload_n rfl rfl ?_
  refine x_bipush (v := nI 7) rfl rfl ?_
  refine xb_newa (a := b + 25) (t := 0) (N := 7) wd_50 rfl (by decide) (ck_13_45 k0) (cl_13_45 k0) (nI_pos (by omega)) (nI_clamp (by omega)) (hz.up (by omega)) (by show _ < b + 43; omega) rfl ?_
  refine xb_putR (g := b + 26) (b := b) lp_M_83 rfl k0 rfl (by omega) hB (fun z => ⟨rfl, rfl⟩) rfl (fun ρ hB => ?_)
  refine x_aload_n rfl rfl ?_
  refine x_bipush (v := nI 6) rfl rfl ?_
  refine xb_newa (a := b + 26) (t := 0) (N := 6) wd_50 rfl (by decide) (ck_13_51 k0) (cl_13_51 k0) (nI_pos (by omega)) (nI_clamp (by omega)) (hz.up (by omega)) (by show _ < b + 43; omega) rfl ?_
  refine xb_putR (g := b + 27) (b := b) lp_M_86 rfl k0 rfl (by omega) hB (fun z => ⟨rfl, rfl⟩) rfl (fun ρ hB => ?_)
  refine x_aload_n rfl rfl ?_
  refine x_bipush (v := nI 6) rfl rfl ?_
  refine xb_newa (a := b + 27) (t := 0) (N := 6) wd_50 rfl (by decide) (ck_13_52 k0) (cl_13_52 k0) (nI_pos (by omega)) (nI_clamp (by omega)) (hz.up (by omega)) (by show _ < b + 43; omega) rfl ?_
  refine xb_putR (g := b + 28) (b := b) lp_M_89 rfl k0 rfl (by omega) hB (fun z => ⟨rfl, rfl⟩) rfl (fun ρ hB => ?_)
  refine x_aload_n rfl rfl ?_
  refine x_bipush (v := nI 6) rfl rfl ?_
  refine xb_newa (a := b + 28) (t := 0) (N := 6) wd_50 rfl (by decide) (ck_13_57 k0) (cl_13_57 k0) (nI_pos (by omega)) (nI_clamp (by omega)) (hz.up (by omega)) (by show _ < b + 43; omega) rfl ?_
  refine xb_putR (g := b + 29) (b := b) lp_M_92 rfl k0 rfl (by omega) hB (fun z => ⟨rfl, rfl⟩) rfl (fun ρ hB => ?_)
  refine x_aload_n rfl rfl ?_
  refine x_bipush (v := nI 6) rfl rfl ?_
  refine xb_newa (a := b + 29) (t := 0) (N := 6) wd_50 rfl (by decide) (ck_13_58 k0) (cl_13_58 k0) (nI_pos (by omega)) (nI_clamp (by omega)) (hz.up (by omega)) (by show _ < b + 43; omega) rfl ?_
  refine xb_putR (g := b + 30) (b := b) lp_M_95 rfl k0 rfl (by omega) hB (fun z => ⟨rfl, rfl⟩) rfl (fun ρ hB => ?_)
  refine x_aload_n rfl rfl ?_
  refine x_bipush (v := nI 6) rfl rfl ?_
  refine xb_newa (a := b + 30) (t := 0) (N := 6) wd_50 rfl (by decide) (ck_13_60 k0) (cl_13_60 k0) (nI_pos (by omega)) (nI_clamp (by omega)) (hz.up (by omega)) (by show _ < b + 43; omega) rfl ?_
  refine xb_putR (g := b + 31) (b := b) lp_M_98 rfl k0 rfl (by omega) hB (fun z => ⟨rfl, rfl⟩) rfl (fun ρ hB => ?_)
  refine x_aload_n rfl rfl ?_
  refine x_bipush (v := nI 6) rfl rfl ?_
  refine xb_newa (a := b + 31) (t := 0) (N := 6) wd_50 rfl (by decide) (ck_13_63 k0) (cl_13_63 k0) (nI_pos (by omega)) (nI_clamp (by omega)) (hz.up (by omega)) (by show _ < b + 43; omega) rfl ?_
  refine xb_putR (g := b + 32) (b := b) lp_M_101 rfl k0 rfl (by omega) hB (fun z => ⟨rfl, rfl⟩) rfl (fun ρ hB => ?_)
  refine x_aload_n rfl rfl ?_
  refine x_bipush (v := nI 6) rfl rfl ?_
  refine xb_newa (a := b + 32) (t := 0) (N := 6) wd_50 rfl (by decide) (ck_13_64 k0) (cl_13_64 k0) (nI_pos (by omega)) (nI_clamp (by omega)) (hz.up (by omega)) (by show _ < b + 43; omega) rfl ?_
  refine xb_putR (g := b + 33) (b := b) lp_M_104 rfl k0 rfl (by omega) hB (fun z => ⟨rfl, rfl⟩) rfl (fun ρ hB => ?_)
  refine x_aload_n rfl rfl ?_
  refine x_bipush (v := nI 13) rfl rfl ?_
  refine xb_newa (a := b + 33) (t := 0) (N := 13) wd_50 rfl (by decide) (ck_13_66 k0) (cl_13_66 k0) (nI_pos (by omega)) (nI_clamp (by omega)) (hz.up (by omega)) (by show _ < b + 43; omega) rfl ?_
  refine xb_putR (g := b + 34) (b := b) lp_M_107 rfl k0 rfl (by omega) hB (fun z => ⟨rfl, rfl⟩) rfl (fun ρ hB => ?_)
  refine x_aload_n rfl rfl ?_
  refine x_bipush (v := nI 13) rfl rfl ?_
  refine xb_newa (a := b + 34) (t := 0) (N := 13) wd_50 rfl (by decide) (ck_13_67 k0) (cl_13_67 k0) (nI_pos (by omega)) (nI_clamp (by omega)) (hz.up (by omega)) (by show _ < b + 43; omega) rfl ?_
  refine xb_putR (g := b + 35) (b := b) lp_M_110 rfl k0 rfl (by omega) hB (fun z => ⟨rfl, rfl⟩) rfl (fun ρ hB => ?_)
  refine x_aload_n rfl rfl ?_
  refine x_bipush (v := nI 35) rfl rfl ?_
  refine xb_newa (a := b + 35) (t := 0) (N := 35) wd_50 rfl (by decide) (ck_13_69 k0) (cl_13_69 k0) (nI_pos (by omega)) (nI_clamp (by omega)) (hz.up (by omega)) (by show _ < b + 43; omega) rfl ?_
  refine xb_putR (g := b + 36) (b := b) lp_M_113 rfl k0 rfl (by omega) hB (fun z => ⟨rfl, rfl⟩) rfl (fun ρ hB => ?_)
  refine x_aload_n rfl rfl ?_
  refine x_sipush (v := nI 625) rfl rfl ?_
  refine xb_newa (a := b + 36) (t := 0) (N := 625) wd_50 rfl (by decide) (ck_13_70 k0) (cl_13_70 k0) (nI_pos (by omega)) (nI_clamp (by omega)) (hz.up (by omega)) (by show _ < b + 43; omega) rfl ?_
  refine xb_putR (g := b + 37) (b := b) lp_M_116 rfl k0 rfl (by omega) hB (fun z => ⟨rfl, rfl⟩) rfl (fun ρ hB => ?_)
  refine x_aload_n rfl rfl ?_
  refine x_sipush (v := nI 21875) rfl rfl ?_
  refine xb_newa (a := b + 37) (t := 1) (N := 21875) wd_1764 rfl (by decide) (ck_13_71 k0) (cl_13_71 k0) (nI_pos (by omega)) (nI_clamp (by omega)) (hz.up (by omega)) (by show _ < b + 43; omega) rfl ?_
  refine xb_putR (g := b + 38) (b := b) lp_M_119 rfl k0 rfl (by omega) hB (fun z => ⟨rfl, rfl⟩) rfl (fun ρ hB => ?_)
  refine x_aload_n rfl rfl ?_
  refine x_iconst (v := nI 4) rfl rfl ?_
  refine xb_newa (a := b + 38) (t := 0) (N := 4) wd_50 rfl (by decide) (ck_13_72 k0) (cl_13_72 k0) (nI_pos (by omega)) (nI_clamp (by omega)) (hz.up (by omega)) (by show _ < b + 43; omega) rfl ?_
  refine xb_putR (g := b + 39) (b := b) lp_M_123 rfl k0 rfl (by omega) hB (fun z => ⟨rfl, rfl⟩) rfl (fun ρ hB => ?_)
  refine x_aload_n rfl rfl ?_
  refine x_iconst (v := nI 5) rfl rfl ?_
  refine xb_newa (a := b + 39) (t := 0) (N := 5) wd_50 rfl (by decide) (ck_13_75 k0) (cl_13_75 k0) (nI_pos (by omega)) (nI_clamp (by omega)) (hz.up (by omega)) (by show _ < b + 43; omega) rfl ?_
  refine xb_putR (g := b + 40) (b := b) lp_M_126 rfl k0 rfl (by omega) hB (fun z => ⟨rfl, rfl⟩) rfl (fun ρ hB => ?_)
  refine x_aload_n rfl rfl ?_
  refine x_bipush (v := nI 6) rfl rfl ?_
  refine xb_newa (a := b + 40) (t := 0) (N := 6) wd_50 rfl (by decide) (ck_13_77 k0) (cl_13_77 k0) (nI_pos (by omega)) (nI_clamp (by omega)) (hz.up (by omega)) (by show _ < b + 43; omega) rfl ?_
  refine xb_putR (g := b + 41) (b := b) lp_M_129 rfl k0 rfl (by omega) hB (fun z => ⟨rfl, rfl⟩) rfl (fun ρ hB => ?_)
  refine x_aload_n rfl rfl ?_
  refine x_bipush (v := nI 6) rfl rfl ?_
  refine xb_newa (a := b + 41) (t := 0) (N := 6) wd_50 rfl (by decide) (ck_13_78 k0) (cl_13_78 k0) (nI_pos (by omega)) (nI_clamp (by omega)) (hz.up (by omega)) (by show _ < b + 43; omega) rfl ?_
  refine xb_putR (g := b + 42) (b := b) lp_M_132 rfl k0 rfl (by omega) hB (fun z => ⟨rfl, rfl⟩) rfl (fun ρ hB => ?_)
  refine x_aload_n rfl rfl ?_
  refine x_iconst (v := nI 3) rfl rfl ?_
  refine xb_newa (a := b + 42) (t := 3) (N := 3) wd_1765 rfl (by decide) (ck_13_80 k0) (cl_13_80 k0) (nI_pos (by omega)) (nI_clamp (by omega)) (hz.up (by omega)) (by show _ < b + 43; omega) rfl ?_
  refine xb_putR (g := b + 43) (b := b) lp_M_135 rfl k0 rfl (by omega) hB (fun z => ⟨rfl, rfl⟩) rfl (fun ρ hB => ?_)
  refine xb_whole (N := 43) hB k0 (by decide) (by decide +kernel) hE ?_
  refine x_aload_n rfl rfl ?_
  refine x_gRg lf_M_20 k0 (hE.c (by omega) (by omega)) rfl rfl ?_
  refine x_iconst (v := nI 0) rfl rfl ?_
  refine x_iconst (v := (-1 : Int32)) rfl rfl ?_
  refine x_iastng (j := nI 0) (ck_13_4 k0) (hE.c (by omega) (by omega)) (by rw [cl_13_4 k0]; exact vp_in_nI (by omega) (by omega)) rfl (fun D1 e1 => ?_)
  refine x_vret rfl rfl ⟨rfl, ?_⟩
  rw [e1]
  exact h
