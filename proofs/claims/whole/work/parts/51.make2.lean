theorem XRE_frm {T : List Nat} {I I' : II} {R R' : RR} {r : Nat} (h : XR I R r ρE) (hf : frm T I I') (hr : r ∉ T) : XR I' R' r ρE := by
  obtain ⟨h5, h6, h7, h8, h9, h10, h11, h12, hp, hb, hs⟩ := h
  have gr := hf r hr
  refine ⟨(gr 5).trans h5, (gr 6).trans h6, (gr 7).trans h7, (gr 8).trans h8, (gr 9).trans h9, (gr 10).trans h10, (gr 11).trans h11, (gr 12).trans h12, fun p hpn => absurd hpn (Nat.not_lt_zero _), fun j p hj => ?_, fun j p hj => ?_⟩
  · have : (flt (S0 (rS ρE)) (rN ρE)) = [] := rfl
    rw [this] at hj; cases hj
  · have : (flt (S1 (rS ρE)) (rN ρE)) = [] := rfl
    rw [this] at hj; cases hj
abbrev I00 : II := fun _ _ => 0
abbrev R00 : RR := fun _ _ => 0
/-- the first room -/
def ρ1 : RM := pushP (pushP ρE 0 9 0) 1 1 0
def LX : List (Nat × Nat × Nat) := [(2, 0, 3), (1, 0, 2), (4, 0, 5), (1, 1, 4), (6, 0, 7), (6, 1, 8), (6, 2, 9), (6, 3, 10), (6, 4, 11), (1, 2, 6), (12, 0, 13), (12, 1, 14), (12, 2, 15), (12, 3, 16), (12, 4, 17), (1, 3, 12), (18, 0, 19), (18, 1, 20), (18, 2, 21), (18, 3, 22), (1, 4, 18), (1, 5, 23), (25, 1, 26), (25, 2, 27), (24, 0, 25), (28, 1, 29), (28, 2, 30), (24, 1, 28), (1, 7, 24), (32, 1, 33), (32, 2, 34), (31, 0, 32), (35, 1, 36), (35, 2, 37), (31, 1, 35), (1, 8, 31), (38, 0, 39), (38, 1, 40), (42, 1, 43), (42, 2, 44), (41, 0, 42), (45, 1, 46), (45, 2, 47), (41, 1, 45), (38, 2, 41), (1, 9, 38), (1, 10, 48), (49, 0, 50), (49, 1, 51), (49, 2, 52), (49, 3, 53), (1, 11, 49), (54, 0, 55), (56, 0, 57), (56, 1, 58), (56, 2, 59), (56, 3, 60), (54, 1, 56), (23, 0, 54), (61, 0, 62), (63, 0, 64), (63, 1, 65), (63, 2, 66), (63, 3, 67), (61, 1, 63), (23, 1, 61)]
set_option maxHeartbeats 16000000 in
set_option maxRecDepth 100000 in
theorem iX10 : Spec mX10_init [vR 1] I00 R00 1 67 (fun _ I' R' => R' = upL LX R00 ∧ Zr 67 I' R' ∧ XF I' ∧ I' 18 4 = 0 ∧ I' 2 1 = 0 ∧ I' 1 6 = 0 ∧ XR I' R' 6 ρ1) := by
  refine Spec_of_wp pyX10_init rfl (Nat.le_of_ble_eq_true rfl) (by decide) (by decide) ?_
  have hL0 : R00 = upL [] R00 := rfl
  have hz : Zr 1 I00 R00 := ⟨fun _ _ _ => rfl, fun _ _ _ => rfl, fun _ _ => Nat.zero_le _⟩
  have h0 : 0 < 1 := Nat.one_pos
  refine wp_aload_n (pc' := 1) (q := 0) (i := 0) rfl rfl dX10_init_0 rfl ?_
  refine wp_objInit (pc' := 4) dX10_init_1 h0 lkX10_1 oi_inst oi_code ⟨Nat.le_of_ble_eq_true rfl, Nat.le_of_ble_eq_true rfl⟩ rfl ?_
  refine wp_aload_n (pc' := 5) (q := 0) (i := 0) rfl rfl dX10_init_4 rfl ?_
  refine wp_new (pc' := 8) (c0 := 8) dX10_init_5 vc8 rfl llX10_7 iaX8 iiX8 (show 1 + 1 ≤ 67 by omega) (okP_cons (Or.inl (by omega)) (okP_cons trivial okP_nil)) (okP_cons (Or.inl (by omega)) okP_nil) hz.2.2 (fun j => hz.1 _ j (by omega)) (fun j => hz.2.1 _ j (by omega)) rfl ?_
  have hz1 : Zr 2 I00 R00 := Zr_n hz
  refine wp_dupR (pc' := 9) dX10_init_8 rfl ?_
  refine wp_callIN (pc' := 12) (as := []) (rest := [vR 2, vR 1]) (M' := 3) (iX8 (N := 2) (by omega) (by omega) rfl rfl hz1) dX10_init_9 rfl (by omega) lnX10_9 okX8_init inX8_init rfl rfl ⟨Nat.le_of_ble_eq_true rfl, Nat.le_of_ble_eq_true rfl⟩ (Nat.le_of_ble_eq_true rfl) (by omega) (show 3 ≤ 67 by omega) (okP_cons (Or.inl (by omega)) (okP_cons trivial okP_nil)) (okP_cons (Or.inl (by omega)) (okP_cons (Or.inl (by omega)) okP_nil)) rfl (fun I_2 R_2 hq2 => ?_)
  obtain ⟨eR2, hz2, f2, v2_0⟩ := hq2
  have hL1 := upL_more hL0 eR2
  obtain ⟨R_3, eR3⟩ : ∃ X : RR, X = up2 R_2 1 0 2 := ⟨_, rfl⟩
  refine wp_putFR (pc' := 15) (k := 0) (Or.inl ⟨_, rfl⟩) dX10_init_12 vc9 (by decide) rfl rfl rfl rfl (tyX10_ok 0 (by decide)) lfX10_10 ⟨by omega, by omega, rfl⟩ rfl eR3 ?_
  have hz4 : Zr 3 I_2 R_3 := Zr_R hz2 (by omega) (by omega) eR3
  have hL2 := upL_one hL1 eR3
  refine wp_aload_n (pc' := 16) (q := 0) (i := 0) rfl rfl dX10_init_15 rfl ?_
  refine wp_new (pc' := 19) (c0 := 5) dX10_init_16 vc5 rfl llX10_16 iaX5 iiX5 (show 3 + 1 ≤ 67 by omega) (okP_cons (Or.inl (by omega)) (okP_cons trivial okP_nil)) (okP_cons (Or.inl (by omega)) okP_nil) hz4.2.2 (fun j => hz4.1 _ j (by omega)) (fun j => hz4.2.1 _ j (by omega)) rfl ?_
  have hz5 : Zr 4 I_2 R_3 := Zr_n hz4
  refine wp_dupR (pc' := 20) dX10_init_19 rfl ?_
  refine wp_callIN (pc' := 23) (as := []) (rest := [vR 4, vR 1]) (M' := 5) (iX5 (N := 4) (by omega) (by omega) rfl rfl hz5) dX10_init_20 rfl (by omega) lnX10_18 okX5_init inX5_init rfl rfl ⟨Nat.le_of_ble_eq_true rfl, Nat.le_of_ble_eq_true rfl⟩ (Nat.le_of_ble_eq_true rfl) (by omega) (show 5 ≤ 67 by omega) (okP_cons (Or.inl (by omega)) (okP_cons trivial okP_nil)) (okP_cons (Or.inl (by omega)) (okP_cons (Or.inl (by omega)) okP_nil)) rfl (fun I_6 R_6 hq6 => ?_)
  obtain ⟨eR6, hz6, f6⟩ := hq6
  have hL3 := upL_more hL2 eR6
  obtain ⟨R_7, eR7⟩ : ∃ X : RR, X = up2 R_6 1 1 4 := ⟨_, rfl⟩
  refine wp_putFR (pc' := 26) (k := 1) (Or.inl ⟨_, rfl⟩) dX10_init_23 vc9 (by decide) rfl rfl rfl rfl (tyX10_ok 1 (by decide)) lfX10_19 ⟨by omega, by omega, rfl⟩ rfl eR7 ?_
  have hz8 : Zr 5 I_6 R_7 := Zr_R hz6 (by omega) (by omega) eR7
  have hL4 := upL_one hL3 eR7
  refine wp_aload_n (pc' := 27) (q := 0) (i := 0) rfl rfl dX10_init_26 rfl ?_
  refine wp_new (pc' := 30) (c0 := 6) dX10_init_27 vc6 rfl llX10_23 iaX6 iiX6 (show 5 + 1 ≤ 67 by omega) (okP_cons (Or.inl (by omega)) (okP_cons trivial okP_nil)) (okP_cons (Or.inl (by omega)) okP_nil) hz8.2.2 (fun j => hz8.1 _ j (by omega)) (fun j => hz8.2.1 _ j (by omega)) rfl ?_
  have hz9 : Zr 6 I_6 R_7 := Zr_n hz8
  refine wp_dupR (pc' := 31) dX10_init_30 rfl ?_
  refine wp_callI (pc' := 34) (as := []) (rest := [vR 6, vR 1]) (M' := 11) (iX6 (N := 6) (by omega) (by omega) rfl rfl rfl rfl rfl rfl hz9) dX10_init_31 rfl (by omega) lkX10_25 okX6_init inX6_init rfl rfl ⟨Nat.le_of_ble_eq_true rfl, Nat.le_of_ble_eq_true rfl⟩ (Nat.le_of_ble_eq_true rfl) (by omega) (show 11 ≤ 67 by omega) (okP_cons (Or.inl (by omega)) (okP_cons trivial okP_nil)) (okP_cons (Or.inl (by omega)) (okP_cons (Or.inl (by omega)) okP_nil)) rfl (fun I_10 R_10 hq10 => ?_)
  obtain ⟨eR10, hz10, f10, v10_0⟩ := hq10
  have hL5 := upL_more hL4 eR10
  obtain ⟨R_11, eR11⟩ : ∃ X : RR, X = up2 R_10 1 2 6 := ⟨_, rfl⟩
  refine wp_putR (pc' := 37) (k := 2) (Or.inl ⟨_, rfl⟩) dX10_init_34 vc9 (by decide) rfl rfl (tyX10_ok 2 (by decide)) lfX10_26 ⟨by omega, by omega, rfl⟩ rfl eR11 ?_
  have hz12 : Zr 11 I_10 R_11 := Zr_R hz10 (by omega) (by omega) eR11
  have hL6 := upL_one hL5 eR11
  refine wp_aload_n (pc' := 38) (q := 0) (i := 0) rfl rfl dX10_init_37 rfl ?_
  refine wp_new (pc' := 41) (c0 := 6) dX10_init_38 vc6 rfl llX10_23 iaX6 iiX6 (show 11 + 1 ≤ 67 by omega) (okP_cons (Or.inl (by omega)) (okP_cons trivial okP_nil)) (okP_cons (Or.inl (by omega)) okP_nil) hz12.2.2 (fun j => hz12.1 _ j (by omega)) (fun j => hz12.2.1 _ j (by omega)) rfl ?_
  have hz13 : Zr 12 I_10 R_11 := Zr_n hz12
  refine wp_dupR (pc' := 42) dX10_init_41 rfl ?_
  refine wp_callI (pc' := 45) (as := []) (rest := [vR 12, vR 1]) (M' := 17) (iX6 (N := 12) (by omega) (by omega) rfl rfl rfl rfl rfl rfl hz13) dX10_init_42 rfl (by omega) lkX10_25 okX6_init inX6_init rfl rfl ⟨Nat.le_of_ble_eq_true rfl, Nat.le_of_ble_eq_true rfl⟩ (Nat.le_of_ble_eq_true rfl) (by omega) (show 17 ≤ 67 by omega) (okP_cons (Or.inl (by omega)) (okP_cons trivial okP_nil)) (okP_cons (Or.inl (by omega)) (okP_cons (Or.inl (by omega)) okP_nil)) rfl (fun I_14 R_14 hq14 => ?_)
  obtain ⟨eR14, hz14, f14, v14_0⟩ := hq14
  have hL7 := upL_more hL6 eR14
  obtain ⟨R_15, eR15⟩ : ∃ X : RR, X = up2 R_14 1 3 12 := ⟨_, rfl⟩
  refine wp_putR (pc' := 48) (k := 3) (Or.inl ⟨_, rfl⟩) dX10_init_45 vc9 (by decide) rfl rfl (tyX10_ok 3 (by decide)) lfX10_30 ⟨by omega, by omega, rfl⟩ rfl eR15 ?_
  have hz16 : Zr 17 I_14 R_15 := Zr_R hz14 (by omega) (by omega) eR15
  have hL8 := upL_one hL7 eR15
  refine wp_aload_n (pc' := 49) (q := 0) (i := 0) rfl rfl dX10_init_48 rfl ?_
  refine wp_new (pc' := 52) (c0 := 4) dX10_init_49 vc4 rfl llX10_33 iaX4 iiX4 (show 17 + 1 ≤ 67 by omega) (okP_cons (Or.inl (by omega)) (okP_cons trivial okP_nil)) (okP_cons (Or.inl (by omega)) okP_nil) hz16.2.2 (fun j => hz16.1 _ j (by omega)) (fun j => hz16.2.1 _ j (by omega)) rfl ?_
  have hz17 : Zr 18 I_14 R_15 := Zr_n hz16
  refine wp_dupR (pc' := 53) dX10_init_52 rfl ?_
  refine wp_callIN (pc' := 56) (as := []) (rest := [vR 18, vR 1]) (M' := 22) (iX4 (N := 18) (by omega) (by omega) rfl rfl rfl rfl rfl hz17) dX10_init_53 rfl (by omega) lnX10_35 okX4_init inX4_init rfl rfl ⟨Nat.le_of_ble_eq_true rfl, Nat.le_of_ble_eq_true rfl⟩ (Nat.le_of_ble_eq_true rfl) (by omega) (show 22 ≤ 67 by omega) (okP_cons (Or.inl (by omega)) (okP_cons trivial okP_nil)) (okP_cons (Or.inl (by omega)) (okP_cons (Or.inl (by omega)) okP_nil)) rfl (fun I_18 R_18 hq18 => ?_)
  obtain ⟨eR18, hz18, f18, v18_0⟩ := hq18
  have hL9 := upL_more hL8 eR18
  obtain ⟨R_19, eR19⟩ : ∃ X : RR, X = up2 R_18 1 4 18 := ⟨_, rfl⟩
  refine wp_putFR (pc' := 59) (k := 4) (Or.inl ⟨_, rfl⟩) dX10_init_56 vc9 (by decide) rfl rfl rfl rfl (tyX10_ok 4 (by decide)) lfX10_36 ⟨by omega, by omega, rfl⟩ rfl eR19 ?_
  have hz20 : Zr 22 I_18 R_19 := Zr_R hz18 (by omega) (by omega) eR19
  have hL10 := upL_one hL9 eR19
  refine wp_aload_n (pc' := 60) (q := 0) (i := 0) rfl rfl dX10_init_59 rfl ?_
  refine wp_iconst (pc' := 61) dX10_init_60 rfl ?_
  refine wp_newq (pc' := 64) (n := 2) dX10_init_61 rfl rfl llX10_40 (show 22 + 1 ≤ 67 by omega) (okP_cons (Or.inl (by omega)) (okP_cons trivial okP_nil)) (okP_cons (Or.inl (by omega)) okP_nil) hz20.2.2 (fun j => hz20.2.1 _ j (by omega)) rfl ?_
  have hz21 : Zr 23 I_18 R_19 := Zr_n hz20
  obtain ⟨R_22, eR22⟩ : ∃ X : RR, X = up2 R_19 1 5 23 := ⟨_, rfl⟩
  refine wp_putFR (pc' := 67) (k := 5) (Or.inr ⟨_, rfl⟩) dX10_init_64 vc9 (by decide) rfl rfl rfl rfl (tyX10_ok 5 (by decide)) lfX10_42 ⟨by omega, by omega, rfl⟩ rfl eR22 ?_
  have hz23 : Zr 23 I_18 R_22 := Zr_R hz21 (by omega) (by omega) eR22
  have hL11 := upL_one hL10 eR22
  refine wp_aload_n (pc' := 68) (q := 0) (i := 0) rfl rfl dX10_init_67 rfl ?_
  refine wp_iconst (pc' := 69) dX10_init_68 rfl ?_
  obtain ⟨I_24, eI24⟩ : ∃ X : II, X = up2 I_18 1 6 0 := ⟨_, rfl⟩
  refine wp_putI (pc' := 72) (k := 6) dX10_init_69 vc9 (by decide) rfl rfl (tyX10_ok 6 (by decide)) lfX10_46 ⟨by omega, by omega, rfl⟩ rfl eI24 ?_
  have hz25 : Zr 23 I_24 R_22 := Zr_I hz23 (by omega) eI24
  have f25 : frm [1] I_18 I_24 := by rw [eI24]; exact frm_up (by simp)
  have v16 : I_24 1 6 = 0 := by rw [eI24, up2_self]
  refine wp_aload_n (pc' := 73) (q := 0) (i := 0) rfl rfl dX10_init_72 rfl ?_
  refine wp_new (pc' := 76) (c0 := 3) dX10_init_73 vc3 rfl llX10_50 iaX3 iiX3 (show 23 + 1 ≤ 67 by omega) (okP_cons (Or.inl (by omega)) (okP_cons trivial okP_nil)) (okP_cons (Or.inl (by omega)) okP_nil) hz25.2.2 (fun j => hz25.1 _ j (by omega)) (fun j => hz25.2.1 _ j (by omega)) rfl ?_
  have hz26 : Zr 24 I_24 R_22 := Zr_n hz25
  refine wp_dupR (pc' := 77) dX10_init_76 rfl ?_
  refine wp_callIN (pc' := 80) (as := []) (rest := [vR 24, vR 1]) (M' := 30) (iX3 (N := 24) (by omega) (by omega) rfl rfl rfl rfl rfl rfl rfl hz26) dX10_init_77 rfl (by omega) lnX10_52 okX3_init inX3_init rfl rfl ⟨Nat.le_of_ble_eq_true rfl, Nat.le_of_ble_eq_true rfl⟩ (Nat.le_of_ble_eq_true rfl) (by omega) (show 30 ≤ 67 by omega) (okP_cons (Or.inl (by omega)) (okP_cons trivial okP_nil)) (okP_cons (Or.inl (by omega)) (okP_cons (Or.inl (by omega)) okP_nil)) rfl (fun I_27 R_27 hq27 => ?_)
  obtain ⟨eR27, hz27, f27, v27_0, v27_1⟩ := hq27
  have hL12 := upL_more hL11 eR27
  obtain ⟨R_28, eR28⟩ : ∃ X : RR, X = up2 R_27 1 7 24 := ⟨_, rfl⟩
  refine wp_putFR (pc' := 83) (k := 7) (Or.inl ⟨_, rfl⟩) dX10_init_80 vc9 (by decide) rfl rfl rfl rfl (tyX10_ok 7 (by decide)) lfX10_53 ⟨by omega, by omega, rfl⟩ rfl eR28 ?_
  have hz29 : Zr 30 I_27 R_28 := Zr_R hz27 (by omega) (by omega) eR28
  have hL13 := upL_one hL12 eR28
  refine wp_aload_n (pc' := 84) (q := 0) (i := 0) rfl rfl dX10_init_83 rfl ?_
  refine wp_new (pc' := 87) (c0 := 3) dX10_init_84 vc3 rfl llX10_50 iaX3 iiX3 (show 30 + 1 ≤ 67 by omega) (okP_cons (Or.inl (by omega)) (okP_cons trivial okP_nil)) (okP_cons (Or.inl (by omega)) okP_nil) hz29.2.2 (fun j => hz29.1 _ j (by omega)) (fun j => hz29.2.1 _ j (by omega)) rfl ?_
  have hz30 : Zr 31 I_27 R_28 := Zr_n hz29
  refine wp_dupR (pc' := 88) dX10_init_87 rfl ?_
  refine wp_callIN (pc' := 91) (as := []) (rest := [vR 31, vR 1]) (M' := 37) (iX3 (N := 31) (by omega) (by omega) rfl rfl rfl rfl rfl rfl rfl hz30) dX10_init_88 rfl (by omega) lnX10_52 okX3_init inX3_init rfl rfl ⟨Nat.le_of_ble_eq_true rfl, Nat.le_of_ble_eq_true rfl⟩ (Nat.le_of_ble_eq_true rfl) (by omega) (show 37 ≤ 67 by omega) (okP_cons (Or.inl (by omega)) (okP_cons trivial okP_nil)) (okP_cons (Or.inl (by omega)) (okP_cons (Or.inl (by omega)) okP_nil)) rfl (fun I_31 R_31 hq31 => ?_)
  obtain ⟨eR31, hz31, f31, v31_0, v31_1⟩ := hq31
  have hL14 := upL_more hL13 eR31
  obtain ⟨R_32, eR32⟩ : ∃ X : RR, X = up2 R_31 1 8 31 := ⟨_, rfl⟩
  refine wp_putFR (pc' := 94) (k := 8) (Or.inl ⟨_, rfl⟩) dX10_init_91 vc9 (by decide) rfl rfl rfl rfl (tyX10_ok 8 (by decide)) lfX10_57 ⟨by omega, by omega, rfl⟩ rfl eR32 ?_
  have hz33 : Zr 37 I_31 R_32 := Zr_R hz31 (by omega) (by omega) eR32
  have hL15 := upL_one hL14 eR32
  refine wp_aload_n (pc' := 95) (q := 0) (i := 0) rfl rfl dX10_init_94 rfl ?_
  refine wp_new (pc' := 98) (c0 := 7) dX10_init_95 vc7 rfl llX10_60 iaX7 iiX7 (show 37 + 1 ≤ 67 by omega) (okP_cons (Or.inl (by omega)) (okP_cons trivial okP_nil)) (okP_cons (Or.inl (by omega)) okP_nil) hz33.2.2 (fun j => hz33.1 _ j (by omega)) (fun j => hz33.2.1 _ j (by omega)) rfl ?_
  have hz34 : Zr 38 I_31 R_32 := Zr_n hz33
  refine wp_dupR (pc' := 99) dX10_init_98 rfl ?_
  refine wp_callIN (pc' := 102) (as := []) (rest := [vR 38, vR 1]) (M' := 47) (iX7 (N := 38) (by omega) (by omega) rfl rfl rfl rfl rfl rfl rfl rfl rfl rfl hz34) dX10_init_99 rfl (by omega) lnX10_62 okX7_init inX7_init rfl rfl ⟨Nat.le_of_ble_eq_true rfl, Nat.le_of_ble_eq_true rfl⟩ (Nat.le_of_ble_eq_true rfl) (by omega) (show 47 ≤ 67 by omega) (okP_cons (Or.inl (by omega)) (okP_cons trivial okP_nil)) (okP_cons (Or.inl (by omega)) (okP_cons (Or.inl (by omega)) okP_nil)) rfl (fun I_35 R_35 hq35 => ?_)
  obtain ⟨eR35, hz35, f35, v35_0, v35_1⟩ := hq35
  have hL16 := upL_more hL15 eR35
  obtain ⟨R_36, eR36⟩ : ∃ X : RR, X = up2 R_35 1 9 38 := ⟨_, rfl⟩
  refine wp_putFR (pc' := 105) (k := 9) (Or.inl ⟨_, rfl⟩) dX10_init_102 vc9 (by decide) rfl rfl rfl rfl (tyX10_ok 9 (by decide)) lfX10_63 ⟨by omega, by omega, rfl⟩ rfl eR36 ?_
  have hz37 : Zr 47 I_35 R_36 := Zr_R hz35 (by omega) (by omega) eR36
  have hL17 := upL_one hL16 eR36
  refine wp_aload_n (pc' := 106) (q := 0) (i := 0) rfl rfl dX10_init_105 rfl ?_
  refine wp_new (pc' := 109) (c0 := 0) dX10_init_106 vc0 rfl llX10_67 iaX0 iiX0 (show 47 + 1 ≤ 67 by omega) (okP_cons (Or.inl (by omega)) (okP_cons trivial okP_nil)) (okP_cons (Or.inl (by omega)) okP_nil) hz37.2.2 (fun j => hz37.1 _ j (by omega)) (fun j => hz37.2.1 _ j (by omega)) rfl ?_
  have hz38 : Zr 48 I_35 R_36 := Zr_n hz37
  refine wp_dupR (pc' := 110) dX10_init_109 rfl ?_
  refine wp_callIN (pc' := 113) (as := []) (rest := [vR 48, vR 1]) (M' := 48) (iX0 (N := 48) (by omega) (by omega) rfl hz38) dX10_init_110 rfl (by omega) lnX10_69 okX0_init inX0_init rfl rfl ⟨Nat.le_of_ble_eq_true rfl, Nat.le_of_ble_eq_true rfl⟩ (Nat.le_of_ble_eq_true rfl) (by omega) (show 48 ≤ 67 by omega) (okP_cons (Or.inl (by omega)) (okP_cons trivial okP_nil)) (okP_cons (Or.inl (by omega)) (okP_cons (Or.inl (by omega)) okP_nil)) rfl (fun I_39 R_39 hq39 => ?_)
  obtain ⟨eR39, hz39, f39⟩ := hq39
  have hL18 := upL_more hL17 eR39
  obtain ⟨R_40, eR40⟩ : ∃ X : RR, X = up2 R_39 1 10 48 := ⟨_, rfl⟩
  refine wp_putFR (pc' := 116) (k := 10) (Or.inl ⟨_, rfl⟩) dX10_init_113 vc9 (by decide) rfl rfl rfl rfl (tyX10_ok 10 (by decide)) lfX10_70 ⟨by omega, by omega, rfl⟩ rfl eR40 ?_
  have hz41 : Zr 48 I_39 R_40 := Zr_R hz39 (by omega) (by omega) eR40
  have hL19 := upL_one hL18 eR40
  refine wp_aload_n (pc' := 117) (q := 0) (i := 0) rfl rfl dX10_init_116 rfl ?_
  refine wp_iconst (pc' := 118) dX10_init_117 rfl ?_
  refine wp_iconst (pc' := 119) dX10_init_118 rfl ?_
  obtain ⟨R_42, eR42⟩ : ∃ X : RR, X = fun i j => if i = 49 ∧ j < 4 then 50 + j else R_40 i j := ⟨_, rfl⟩
  refine wp_mna (pc' := 123) (x0 := 3) (n0 := 300) dX10_init_119 rfl (fun j hj => (by decide : ∀ j, j < 4 → sh (50 + j) = (1, 3)) j hj) llX10_74 ay_int ⟨by decide, by decide, rfl⟩ (show 48 + 5 ≤ 67 by omega) (okP_cons (Or.inl (by omega)) (okP_cons trivial okP_nil)) (okP_cons (Or.inl (by omega)) okP_nil) hz41.2.2 hz41.1 hz41.2.1 rfl eR42 ?_
  have hz43 : Zr 53 I_39 R_42 := Zr_m hz41 eR42
  have hL20 := upL_more hL19 (upL_4 eR42)
  obtain ⟨R_44, eR44⟩ : ∃ X : RR, X = up2 R_42 1 11 49 := ⟨_, rfl⟩
  refine wp_putFR (pc' := 126) (k := 11) (Or.inr ⟨_, rfl⟩) dX10_init_123 vc9 (by decide) rfl rfl rfl rfl (tyX10_ok 11 (by decide)) lfX10_76 ⟨by omega, by omega, rfl⟩ rfl eR44 ?_
  have hz45 : Zr 53 I_39 R_44 := Zr_R hz43 (by omega) (by omega) eR44
  have hL21 := upL_one hL20 eR44
  refine wp_iconst (pc' := 127) dX10_init_126 rfl ?_
  refine wp_istore_n (pc' := 128) (q := 1) (i := 1) (L' := [vR 1, vI 0]) rfl (by decide) rfl dX10_init_127 rfl rfl ?_
  refine wp_iload_n (pc' := 129) (q := 1) (i := 1) rfl rfl dX10_init_128 rfl ?_
  refine wp_iconst (pc' := 130) dX10_init_129 rfl ?_
  refine wp_icmp_ge (pc' := 133) (tgt := 152) ⟨by decide, by decide⟩ ⟨by decide, by decide⟩ dX10_init_130 rfl rfl (fun hc => absurd hc (by decide)) (fun _ => ?_)
  refine wp_aload_n (pc' := 134) (q := 0) (i := 0) rfl rfl dX10_init_133 rfl ?_
  refine wp_getRc (pc' := 137) (k := 5) (j := 23) dX10_init_134 vc9 (by decide) rfl lfX10_42 ⟨by decide, by decide, rfl⟩ (by rw [hL21]; rfl) rfl ?_
  refine wp_iload_n (pc' := 138) (q := 1) (i := 1) rfl rfl dX10_init_137 rfl ?_
  refine wp_new (pc' := 141) (c0 := 1) dX10_init_138 vc1 rfl llX10_40 iaX1 iiX1 (show 53 + 1 ≤ 67 by omega) (okP_cons (Or.inl (by omega)) (okP_cons trivial okP_nil)) (okP_cons trivial (okP_cons (Or.inl (by omega)) okP_nil)) hz45.2.2 (fun j => hz45.1 _ j (by omega)) (fun j => hz45.2.1 _ j (by omega)) rfl ?_
  have hz46 : Zr 54 I_39 R_44 := Zr_n hz45
  refine wp_dupR (pc' := 142) dX10_init_141 rfl ?_
  refine wp_callIN (pc' := 145) (as := []) (rest := [vR 54, vI 0, vR 23]) (M' := 60) (iX1 (N := 54) (by omega) (by omega) rfl rfl rfl rfl rfl rfl rfl hz46) dX10_init_142 rfl (by omega) lnX10_79 okX1_init inX1_init rfl rfl ⟨Nat.le_of_ble_eq_true rfl, Nat.le_of_ble_eq_true rfl⟩ (Nat.le_of_ble_eq_true rfl) (by omega) (show 60 ≤ 67 by omega) (okP_cons (Or.inl (by omega)) (okP_cons trivial okP_nil)) (okP_cons (Or.inl (by omega)) (okP_cons trivial (okP_cons (Or.inl (by omega)) okP_nil))) rfl (fun I_47 R_47 hq47 => ?_)
  obtain ⟨eR47, hz47, f47⟩ := hq47
  have hL22 := upL_more hL21 eR47
  obtain ⟨R_48, eR48⟩ : ∃ X : RR, X = up2 R_47 23 0 54 := ⟨_, rfl⟩
  refine wp_aast (pc' := 146) (j := 0) dX10_init_145 ⟨by decide, by decide, rfl⟩ ⟨by decide, by decide, rfl⟩ ⟨by decide, by decide⟩ rfl rfl eR48 ?_
  have hz49 : Zr 60 I_47 R_48 := Zr_R hz47 (by omega) (by omega) eR48
  have hL23 := upL_one hL22 eR48
  refine wp_iinc (pc' := 149) (i := 1) (L' := [vR 1, vI 1]) rfl (by decide) rfl dX10_init_146 rfl rfl ?_
  refine wp_goto (tgt := 128) dX10_init_149 rfl ?_
  refine wp_iload_n (pc' := 129) (q := 1) (i := 1) rfl rfl dX10_init_128 rfl ?_
  refine wp_iconst (pc' := 130) dX10_init_129 rfl ?_
  refine wp_icmp_ge (pc' := 133) (tgt := 152) ⟨by decide, by decide⟩ ⟨by decide, by decide⟩ dX10_init_130 rfl rfl (fun hc => absurd hc (by decide)) (fun _ => ?_)
  refine wp_aload_n (pc' := 134) (q := 0) (i := 0) rfl rfl dX10_init_133 rfl ?_
  refine wp_getRc (pc' := 137) (k := 5) (j := 23) dX10_init_134 vc9 (by decide) rfl lfX10_42 ⟨by decide, by decide, rfl⟩ (by rw [hL23]; rfl) rfl ?_
  refine wp_iload_n (pc' := 138) (q := 1) (i := 1) rfl rfl dX10_init_137 rfl ?_
  refine wp_new (pc' := 141) (c0 := 1) dX10_init_138 vc1 rfl llX10_40 iaX1 iiX1 (show 60 + 1 ≤ 67 by omega) (okP_cons (Or.inl (by omega)) (okP_cons trivial okP_nil)) (okP_cons trivial (okP_cons (Or.inl (by omega)) okP_nil)) hz49.2.2 (fun j => hz49.1 _ j (by omega)) (fun j => hz49.2.1 _ j (by omega)) rfl ?_
  have hz50 : Zr 61 I_47 R_48 := Zr_n hz49
  refine wp_dupR (pc' := 142) dX10_init_141 rfl ?_
  refine wp_callIN (pc' := 145) (as := []) (rest := [vR 61, vI 1, vR 23]) (M' := 67) (iX1 (N := 61) (by omega) (by omega) rfl rfl rfl rfl rfl rfl rfl hz50) dX10_init_142 rfl (by omega) lnX10_79 okX1_init inX1_init rfl rfl ⟨Nat.le_of_ble_eq_true rfl, Nat.le_of_ble_eq_true rfl⟩ (Nat.le_of_ble_eq_true rfl) (by omega) (show 67 ≤ 67 by omega) (okP_cons (Or.inl (by omega)) (okP_cons trivial okP_nil)) (okP_cons (Or.inl (by omega)) (okP_cons trivial (okP_cons (Or.inl (by omega)) okP_nil))) rfl (fun I_51 R_51 hq51 => ?_)
  obtain ⟨eR51, hz51, f51⟩ := hq51
  have hL24 := upL_more hL23 eR51
  obtain ⟨R_52, eR52⟩ : ∃ X : RR, X = up2 R_51 23 1 61 := ⟨_, rfl⟩
  refine wp_aast (pc' := 146) (j := 1) dX10_init_145 ⟨by decide, by decide, rfl⟩ ⟨by decide, by decide, rfl⟩ ⟨by decide, by decide⟩ rfl rfl eR52 ?_
  have hz53 : Zr 67 I_51 R_52 := Zr_R hz51 (by omega) (by omega) eR52
  have hL25 := upL_one hL24 eR52
  refine wp_iinc (pc' := 149) (i := 1) (L' := [vR 1, vI 2]) rfl (by decide) rfl dX10_init_146 rfl rfl ?_
  refine wp_goto (tgt := 128) dX10_init_149 rfl ?_
  refine wp_iload_n (pc' := 129) (q := 1) (i := 1) rfl rfl dX10_init_128 rfl ?_
  refine wp_iconst (pc' := 130) dX10_init_129 rfl ?_
  refine wp_icmp_ge (pc' := 133) (tgt := 152) ⟨by decide, by decide⟩ ⟨by decide, by decide⟩ dX10_init_130 rfl rfl (fun _ => ?_) (fun hc => absurd (by decide) hc)
  refine wp_aload_n (pc' := 153) (q := 0) (i := 0) rfl rfl dX10_init_152 rfl ?_
  refine wp_getRc (pc' := 156) (k := 2) (j := 6) dX10_init_153 vc9 (by decide) rfl lfX10_26 ⟨by decide, by decide, rfl⟩ (by rw [hL25]; rfl) rfl ?_
  refine wp_iconst (pc' := 157) dX10_init_156 rfl ?_
  refine wp_bipush (pc' := 159) (by decide) dX10_init_157 rfl ?_
  refine wp_iconst (pc' := 160) dX10_init_159 rfl ?_
  have hA : roomAt 67 R_52 6 := ⟨⟨⟨by decide, by decide, rfl⟩, ⟨by decide, by decide, rfl⟩, ⟨by decide, by decide, rfl⟩, ⟨by decide, by decide, rfl⟩, ⟨by decide, by decide, rfl⟩, ⟨by decide, by decide, rfl⟩⟩, by rw [hL25]; rfl, by rw [hL25]; rfl, by rw [hL25]; rfl, by rw [hL25]; rfl, by rw [hL25]; rfl⟩
  have xE := v10_0
  have xE := XRE_frm (R' := R_52) xE f14 (by decide)
  have xE := XRE_frm (R' := R_52) xE f18 (by decide)
  have xE := XRE_frm (R' := R_52) xE f25 (by decide)
  have xE := XRE_frm (R' := R_52) xE f27 (by decide)
  have xE := XRE_frm (R' := R_52) xE f31 (by decide)
  have xE := XRE_frm (R' := R_52) xE f35 (by decide)
  have xE := XRE_frm (R' := R_52) xE f39 (by decide)
  have xE := XRE_frm (R' := R_52) xE f47 (by decide)
  have xE := XRE_frm (R' := R_52) xE f51 (by decide)
  have m1 : mayP ρE 0 9 0 := by decide
  have ok1 := okR0_push okR0_E (Or.inl rfl) (by decide) (by decide) m1
  refine wp_callV (pc' := 163) (as := [vI 0, vI 9, vI 0]) (rest := []) (aX6_addPerson (N := 67) (by decide) hA xE okR0_E (by decide) (by decide) (by decide)) dX10_init_160 rfl lkX10_80 okX6_addPerson inX6_addPerson seX6_addPerson ⟨by decide, by decide, rfl⟩ vc6 ⟨Nat.le_of_ble_eq_true rfl, Nat.le_of_ble_eq_true rfl⟩ (Nat.le_of_ble_eq_true rfl) (Nat.le_refl _) (Nat.le_refl _) okP_eq okP_eq rfl (rvZ rfl (fun x_1 J_1 S_1 hzz1 hqq1 => ?_))
  obtain ⟨er1, fr1, yy1, nn1⟩ := hqq1
  subst er1
  obtain ⟨-, xE⟩ := yy1 (pushP ρE 0 9 0) (by unfold addP; rw [if_pos m1])
  have hzq1 := Zr_f hz53 fr1 (by decide)
  refine wp_popI (pc' := 164) dX10_init_163 rfl ?_
  refine wp_aload_n (pc' := 165) (q := 0) (i := 0) rfl rfl dX10_init_164 rfl ?_
  refine wp_getRc (pc' := 168) (k := 2) (j := 6) dX10_init_165 vc9 (by decide) rfl lfX10_26 ⟨by decide, by decide, rfl⟩ (by rw [hL25]; rfl) rfl ?_
  refine wp_iconst (pc' := 169) dX10_init_168 rfl ?_
  refine wp_iconst (pc' := 170) dX10_init_169 rfl ?_
  refine wp_iconst (pc' := 171) dX10_init_170 rfl ?_
  have m2 : mayP (pushP ρE 0 9 0) 1 1 0 := by decide
  refine wp_callV (pc' := 174) (as := [vI 1, vI 1, vI 0]) (rest := []) (aX6_addPerson (N := 67) (by decide) hA xE ok1 (by decide) (by decide) (by decide)) dX10_init_171 rfl lkX10_80 okX6_addPerson inX6_addPerson seX6_addPerson ⟨by decide, by decide, rfl⟩ vc6 ⟨Nat.le_of_ble_eq_true rfl, Nat.le_of_ble_eq_true rfl⟩ (Nat.le_of_ble_eq_true rfl) (Nat.le_refl _) (Nat.le_refl _) okP_eq okP_eq rfl (rvZ rfl (fun x_2 J_2 S_2 hzz2 hqq2 => ?_))
  obtain ⟨er2, fr2, yy2, nn2⟩ := hqq2
  subst er2
  obtain ⟨-, xE⟩ := yy2 (pushP (pushP ρE 0 9 0) 1 1 0) (by unfold addP; rw [if_pos m2])
  have hzq2 := Zr_f hzq1 fr2 (by decide)
  refine wp_popI (pc' := 175) dX10_init_174 rfl ?_
  refine wp_vreturn dX10_init_175 rfl rfl ?_
  exact ⟨hL25, hzq2, ⟨(by rw [fr2 25 (by decide) 0, fr1 25 (by decide) 0, f51 25 (by decide) 0, f47 25 (by decide) 0, f39 25 (by decide) 0, f35 25 (by decide) 0, f31 25 (by decide) 0]; exact v27_0), (by rw [fr2 28 (by decide) 0, fr1 28 (by decide) 0, f51 28 (by decide) 0, f47 28 (by decide) 0, f39 28 (by decide) 0, f35 28 (by decide) 0, f31 28 (by decide) 0]; exact v27_1), (by rw [fr2 32 (by decide) 0, fr1 32 (by decide) 0, f51 32 (by decide) 0, f47 32 (by decide) 0, f39 32 (by decide) 0, f35 32 (by decide) 0]; exact v31_0), (by rw [fr2 35 (by decide) 0, fr1 35 (by decide) 0, f51 35 (by decide) 0, f47 35 (by decide) 0, f39 35 (by decide) 0, f35 35 (by decide) 0]; exact v31_1), (by rw [fr2 42 (by decide) 0, fr1 42 (by decide) 0, f51 42 (by decide) 0, f47 42 (by decide) 0, f39 42 (by decide) 0]; exact v35_0), (by rw [fr2 45 (by decide) 0, fr1 45 (by decide) 0, f51 45 (by decide) 0, f47 45 (by decide) 0, f39 45 (by decide) 0]; exact v35_1)⟩, (by rw [fr2 18 (by decide) 4, fr1 18 (by decide) 4, f51 18 (by decide) 4, f47 18 (by decide) 4, f39 18 (by decide) 4, f35 18 (by decide) 4, f31 18 (by decide) 4, f27 18 (by decide) 4, f25 18 (by decide) 4]; exact v18_0), (by rw [fr2 2 (by decide) 1, fr1 2 (by decide) 1, f51 2 (by decide) 1, f47 2 (by decide) 1, f39 2 (by decide) 1, f35 2 (by decide) 1, f31 2 (by decide) 1, f27 2 (by decide) 1, f25 2 (by decide) 1, f18 2 (by decide) 1, f14 2 (by decide) 1, f10 2 (by decide) 1, f6 2 (by decide) 1]; exact v2_0), (by rw [fr2 1 (by decide) 6, fr1 1 (by decide) 6, f51 1 (by decide) 6, f47 1 (by decide) 6, f39 1 (by decide) 6, f35 1 (by decide) 6, f31 1 (by decide) 6, f27 1 (by decide) 6]; exact v16), xE⟩
def LM : List (Nat × Nat × Nat) := [(68, 1, 69), (68, 2, 70), (68, 3, 71), (68, 4, 72), (68, 5, 73), (68, 6, 74), (68, 7, 75), (68, 8, 76), (68, 9, 77), (68, 10, 78), (68, 11, 79), (68, 12, 80), (68, 15, 81), (68, 16, 82), (68, 17, 83), (68, 18, 84), (68, 23, 85), (68, 30, 86), (68, 31, 87), (68, 32, 88), (68, 33, 89)]
theorem upL_out : ∀ (l : List (Nat × Nat × Nat)) (R : RR) (i k : Nat), (∀ e ∈ l, e.1 < 90 ∧ e.2.1 < 40) → (90 ≤ i ∨ 40 ≤ k) → upL l R i k = R i k
  | [], _, _, _, _, _ => rfl
  | e :: t, R, i, k, h, hik => by
    have h1 := h e List.mem_cons_self
    show upL t (up2 R e.1 e.2.1 e.2.2) i k = _
    rw [upL_out t _ i k (fun x hx => h x (List.mem_cons_of_mem _ hx)) hik]
    unfold up2
    rw [if_neg (by omega)]
theorem R0_out {i k : Nat} (h : 90 ≤ i ∨ 40 ≤ k) : R0 i k = 0 := by
  unfold R0
  split <;> first | rfl | omega
set_option maxRecDepth 100000 in
theorem SR_all : SR (upL (LX ++ LM) R00) := by
  intro i k h
  by_cases hik : i < 90 ∧ k < 40
  · have : ∀ a : Fin 90, ∀ b : Fin 40, ¬ (a.val = 1 ∧ (b.val = 2 ∨ b.val = 3)) → upL (LX ++ LM) R00 a.val b.val = R0 a.val b.val := by decide +kernel
    exact this ⟨i, hik.1⟩ ⟨k, hik.2⟩ h
  · rw [upL_out _ _ _ _ (by decide +kernel) (by omega), R0_out (by omega)]
theorem R12_all : upL (LX ++ LM) R00 1 2 = 6 ∧ upL (LX ++ LM) R00 1 3 = 12 := by decide +kernel
theorem aX11_noRoom0 {I : II} {R : RR} (hR : SR R) : Spec mX11_noRoom [vR 68, vI 0] I R 89 89 (fun _ I' R' => R = R' ∧ frm [70, 74] I I' ∧ I' 74 0 = 60 ∧ I' 74 1 = 0 ∧ I' 74 2 = 99 ∧ I' 74 3 = 5 ∧ I' 74 4 = 50) := by
  refine sX11_noRoom (gX11_noRoom_0 hR ⟨⟨by decide, by decide⟩, fun I2 q2 => ⟨⟨by decide, by decide⟩, fun I4 q4 => ⟨⟨by decide, by decide⟩, fun I6 q6 => ⟨⟨by decide, by decide⟩, fun I8 q8 => ⟨⟨by decide, by decide⟩, fun I10 q10 => ⟨⟨by decide, by decide⟩, fun I12 q12 => ⟨rfl, ?_, ?_, ?_, ?_, ?_, ?_⟩⟩⟩⟩⟩⟩⟩)
  all_goals (subst q12; subst q10; subst q8; subst q6; subst q4; subst q2)
  · exact frm_trans (frm_up (by decide)) (frm_trans (frm_up (by decide)) (frm_trans (frm_up (by decide)) (frm_trans (frm_up (by decide)) (frm_trans (frm_up (by decide)) (frm_up (by decide))))))
  · rw [up2_nj (by decide), up2_nj (by decide), up2_nj (by decide), up2_nj (by decide)]; exact up2_self
  · rw [up2_nj (by decide), up2_nj (by decide), up2_nj (by decide)]; exact up2_self
  · rw [up2_nj (by decide), up2_nj (by decide)]; exact up2_self
  · rw [up2_nj (by decide)]; exact up2_self
  · exact up2_self
set_option maxHeartbeats 16000000 in
set_option maxRecDepth 100000 in
theorem iX11 {I : II} {R : RR} (hz : Zr 68 I R) (hR0 : R = upL LX R00) : Spec mX11_init [vR 68] I R 68 89 (fun _ I' R' => R' = upL (LX ++ LM) R00 ∧ frm [70, 71, 72, 74] I I' ∧ MRo I' ρ1) := by
  refine Spec_of_wp pyX11_init rfl (Nat.le_of_ble_eq_true rfl) (by decide) (by decide) ?_
  have hL0 : R = upL [] R := rfl
  have h0 : 0 < 68 := by decide
  refine wp_aload_n (pc' := 1) (q := 0) (i := 0) rfl rfl dX11_init_0 rfl ?_
  refine wp_objInit (pc' := 4) dX11_init_1 h0 lkX11_1 oi_inst oi_code ⟨Nat.le_of_ble_eq_true rfl, Nat.le_of_ble_eq_true rfl⟩ rfl ?_
  refine wp_aload_n (pc' := 5) (q := 0) (i := 0) rfl rfl dX11_init_4 rfl ?_
  refine wp_sipush (pc' := 8) (by decide) dX11_init_5 rfl ?_
  refine wp_newa (pc' := 10) (k := 1) (n := 300) dX11_init_8 rfl (Or.inl ⟨rfl, rfl⟩) rfl ay_int (show 68 + 1 ≤ 89 by omega) (okP_cons (Or.inl (by omega)) okP_nil) (okP_cons (Or.inl (by omega)) okP_nil) hz.2.2 (fun j => hz.1 _ j (by omega)) rfl ?_
  have hz1 : Zr 69 I R := Zr_n hz
  obtain ⟨R_2, eR2⟩ : ∃ X : RR, X = up2 R 68 1 69 := ⟨_, rfl⟩
  refine wp_putFR (pc' := 13) (k := 1) (Or.inr ⟨_, rfl⟩) dX11_init_10 vc10 (by decide) rfl rfl rfl rfl (tyX11_ok 1 (by decide)) lfX11_7 ⟨by omega, by omega, rfl⟩ rfl eR2 ?_
  have hz3 : Zr 69 I R_2 := Zr_R hz1 (by omega) (by omega) eR2
  have hL1 := upL_one hL0 eR2
  refine wp_aload_n (pc' := 14) (q := 0) (i := 0) rfl rfl dX11_init_13 rfl ?_
  refine wp_iconst (pc' := 15) dX11_init_14 rfl ?_
  refine wp_newa (pc' := 17) (k := 1) (n := 2) dX11_init_15 rfl (Or.inl ⟨rfl, rfl⟩) rfl ay_int (show 69 + 1 ≤ 89 by omega) (okP_cons (Or.inl (by omega)) okP_nil) (okP_cons (Or.inl (by omega)) okP_nil) hz3.2.2 (fun j => hz3.1 _ j (by omega)) rfl ?_
  have hz4 : Zr 70 I R_2 := Zr_n hz3
  obtain ⟨R_5, eR5⟩ : ∃ X : RR, X = up2 R_2 68 2 70 := ⟨_, rfl⟩
  refine wp_putFR (pc' := 20) (k := 2) (Or.inr ⟨_, rfl⟩) dX11_init_17 vc10 (by decide) rfl rfl rfl rfl (tyX11_ok 2 (by decide)) lfX11_13 ⟨by omega, by omega, rfl⟩ rfl eR5 ?_
  have hz6 : Zr 70 I R_5 := Zr_R hz4 (by omega) (by omega) eR5
  have hL2 := upL_one hL1 eR5
  refine wp_aload_n (pc' := 21) (q := 0) (i := 0) rfl rfl dX11_init_20 rfl ?_
  refine wp_bipush (pc' := 23) (by decide) dX11_init_21 rfl ?_
  refine wp_newa (pc' := 25) (k := 1) (n := 40) dX11_init_23 rfl (Or.inl ⟨rfl, rfl⟩) rfl ay_int (show 70 + 1 ≤ 89 by omega) (okP_cons (Or.inl (by omega)) okP_nil) (okP_cons (Or.inl (by omega)) okP_nil) hz6.2.2 (fun j => hz6.1 _ j (by omega)) rfl ?_
  have hz7 : Zr 71 I R_5 := Zr_n hz6
  obtain ⟨R_8, eR8⟩ : ∃ X : RR, X = up2 R_5 68 3 71 := ⟨_, rfl⟩
  refine wp_putFR (pc' := 28) (k := 3) (Or.inr ⟨_, rfl⟩) dX11_init_25 vc10 (by decide) rfl rfl rfl rfl (tyX11_ok 3 (by decide)) lfX11_16 ⟨by omega, by omega, rfl⟩ rfl eR8 ?_
  have hz9 : Zr 71 I R_8 := Zr_R hz7 (by omega) (by omega) eR8
  have hL3 := upL_one hL2 eR8
  refine wp_aload_n (pc' := 29) (q := 0) (i := 0) rfl rfl dX11_init_28 rfl ?_
  refine wp_bipush (pc' := 31) (by decide) dX11_init_29 rfl ?_
  refine wp_newa (pc' := 33) (k := 1) (n := 40) dX11_init_31 rfl (Or.inl ⟨rfl, rfl⟩) rfl ay_int (show 71 + 1 ≤ 89 by omega) (okP_cons (Or.inl (by omega)) okP_nil) (okP_cons (Or.inl (by omega)) okP_nil) hz9.2.2 (fun j => hz9.1 _ j (by omega)) rfl ?_
  have hz10 : Zr 72 I R_8 := Zr_n hz9
  obtain ⟨R_11, eR11⟩ : ∃ X : RR, X = up2 R_8 68 4 72 := ⟨_, rfl⟩
  refine wp_putFR (pc' := 36) (k := 4) (Or.inr ⟨_, rfl⟩) dX11_init_33 vc10 (by decide) rfl rfl rfl rfl (tyX11_ok 4 (by decide)) lfX11_19 ⟨by omega, by omega, rfl⟩ rfl eR11 ?_
  have hz12 : Zr 72 I R_11 := Zr_R hz10 (by omega) (by omega) eR11
  have hL4 := upL_one hL3 eR11
  refine wp_aload_n (pc' := 37) (q := 0) (i := 0) rfl rfl dX11_init_36 rfl ?_
  refine wp_bipush (pc' := 39) (by decide) dX11_init_37 rfl ?_
  refine wp_newa (pc' := 41) (k := 1) (n := 40) dX11_init_39 rfl (Or.inl ⟨rfl, rfl⟩) rfl ay_int (show 72 + 1 ≤ 89 by omega) (okP_cons (Or.inl (by omega)) okP_nil) (okP_cons (Or.inl (by omega)) okP_nil) hz12.2.2 (fun j => hz12.1 _ j (by omega)) rfl ?_
  have hz13 : Zr 73 I R_11 := Zr_n hz12
  obtain ⟨R_14, eR14⟩ : ∃ X : RR, X = up2 R_11 68 5 73 := ⟨_, rfl⟩
  refine wp_putFR (pc' := 44) (k := 5) (Or.inr ⟨_, rfl⟩) dX11_init_41 vc10 (by decide) rfl rfl rfl rfl (tyX11_ok 5 (by decide)) lfX11_22 ⟨by omega, by omega, rfl⟩ rfl eR14 ?_
  have hz15 : Zr 73 I R_14 := Zr_R hz13 (by omega) (by omega) eR14
  have hL5 := upL_one hL4 eR14
  refine wp_aload_n (pc' := 45) (q := 0) (i := 0) rfl rfl dX11_init_44 rfl ?_
  refine wp_bipush (pc' := 47) (by decide) dX11_init_45 rfl ?_
  refine wp_newa (pc' := 49) (k := 1) (n := 10) dX11_init_47 rfl (Or.inl ⟨rfl, rfl⟩) rfl ay_int (show 73 + 1 ≤ 89 by omega) (okP_cons (Or.inl (by omega)) okP_nil) (okP_cons (Or.inl (by omega)) okP_nil) hz15.2.2 (fun j => hz15.1 _ j (by omega)) rfl ?_
  have hz16 : Zr 74 I R_14 := Zr_n hz15
  obtain ⟨R_17, eR17⟩ : ∃ X : RR, X = up2 R_14 68 6 74 := ⟨_, rfl⟩
  refine wp_putFR (pc' := 52) (k := 6) (Or.inr ⟨_, rfl⟩) dX11_init_49 vc10 (by decide) rfl rfl rfl rfl (tyX11_ok 6 (by decide)) lfX11_25 ⟨by omega, by omega, rfl⟩ rfl eR17 ?_
  have hz18 : Zr 74 I R_17 := Zr_R hz16 (by omega) (by omega) eR17
  have hL6 := upL_one hL5 eR17
  refine wp_aload_n (pc' := 53) (q := 0) (i := 0) rfl rfl dX11_init_52 rfl ?_
  refine wp_iconst (pc' := 54) dX11_init_53 rfl ?_
  refine wp_newa (pc' := 56) (k := 1) (n := 3) dX11_init_54 rfl (Or.inl ⟨rfl, rfl⟩) rfl ay_int (show 74 + 1 ≤ 89 by omega) (okP_cons (Or.inl (by omega)) okP_nil) (okP_cons (Or.inl (by omega)) okP_nil) hz18.2.2 (fun j => hz18.1 _ j (by omega)) rfl ?_
  have hz19 : Zr 75 I R_17 := Zr_n hz18
  obtain ⟨R_20, eR20⟩ : ∃ X : RR, X = up2 R_17 68 7 75 := ⟨_, rfl⟩
  refine wp_putFR (pc' := 59) (k := 7) (Or.inr ⟨_, rfl⟩) dX11_init_56 vc10 (by decide) rfl rfl rfl rfl (tyX11_ok 7 (by decide)) lfX11_28 ⟨by omega, by omega, rfl⟩ rfl eR20 ?_
  have hz21 : Zr 75 I R_20 := Zr_R hz19 (by omega) (by omega) eR20
  have hL7 := upL_one hL6 eR20
  refine wp_aload_n (pc' := 60) (q := 0) (i := 0) rfl rfl dX11_init_59 rfl ?_
  refine wp_sipush (pc' := 63) (by decide) dX11_init_60 rfl ?_
  refine wp_newa (pc' := 65) (k := 1) (n := 600) dX11_init_63 rfl (Or.inl ⟨rfl, rfl⟩) rfl ay_int (show 75 + 1 ≤ 89 by omega) (okP_cons (Or.inl (by omega)) okP_nil) (okP_cons (Or.inl (by omega)) okP_nil) hz21.2.2 (fun j => hz21.1 _ j (by omega)) rfl ?_
  have hz22 : Zr 76 I R_20 := Zr_n hz21
  obtain ⟨R_23, eR23⟩ : ∃ X : RR, X = up2 R_20 68 8 76 := ⟨_, rfl⟩
  refine wp_putFR (pc' := 68) (k := 8) (Or.inr ⟨_, rfl⟩) dX11_init_65 vc10 (by decide) rfl rfl rfl rfl (tyX11_ok 8 (by decide)) lfX11_31 ⟨by omega, by omega, rfl⟩ rfl eR23 ?_
  have hz24 : Zr 76 I R_23 := Zr_R hz22 (by omega) (by omega) eR23
  have hL8 := upL_one hL7 eR23
  refine wp_aload_n (pc' := 69) (q := 0) (i := 0) rfl rfl dX11_init_68 rfl ?_
  refine wp_sipush (pc' := 72) (by decide) dX11_init_69 rfl ?_
  refine wp_newa (pc' := 74) (k := 1) (n := 600) dX11_init_72 rfl (Or.inl ⟨rfl, rfl⟩) rfl ay_int (show 76 + 1 ≤ 89 by omega) (okP_cons (Or.inl (by omega)) okP_nil) (okP_cons (Or.inl (by omega)) okP_nil) hz24.2.2 (fun j => hz24.1 _ j (by omega)) rfl ?_
  have hz25 : Zr 77 I R_23 := Zr_n hz24
  obtain ⟨R_26, eR26⟩ : ∃ X : RR, X = up2 R_23 68 9 77 := ⟨_, rfl⟩
  refine wp_putFR (pc' := 77) (k := 9) (Or.inr ⟨_, rfl⟩) dX11_init_74 vc10 (by decide) rfl rfl rfl rfl (tyX11_ok 9 (by decide)) lfX11_34 ⟨by omega, by omega, rfl⟩ rfl eR26 ?_
  have hz27 : Zr 77 I R_26 := Zr_R hz25 (by omega) (by omega) eR26
  have hL9 := upL_one hL8 eR26
  refine wp_aload_n (pc' := 78) (q := 0) (i := 0) rfl rfl dX11_init_77 rfl ?_
  refine wp_sipush (pc' := 81) (by decide) dX11_init_78 rfl ?_
  refine wp_newa (pc' := 83) (k := 1) (n := 600) dX11_init_81 rfl (Or.inl ⟨rfl, rfl⟩) rfl ay_int (show 77 + 1 ≤ 89 by omega) (okP_cons (Or.inl (by omega)) okP_nil) (okP_cons (Or.inl (by omega)) okP_nil) hz27.2.2 (fun j => hz27.1 _ j (by omega)) rfl ?_
  have hz28 : Zr 78 I R_26 := Zr_n hz27
  obtain ⟨R_29, eR29⟩ : ∃ X : RR, X = up2 R_26 68 10 78 := ⟨_, rfl⟩
  refine wp_putFR (pc' := 86) (k := 10) (Or.inr ⟨_, rfl⟩) dX11_init_83 vc10 (by decide) rfl rfl rfl rfl (tyX11_ok 10 (by decide)) lfX11_37 ⟨by omega, by omega, rfl⟩ rfl eR29 ?_
  have hz30 : Zr 78 I R_29 := Zr_R hz28 (by omega) (by omega) eR29
  have hL10 := upL_one hL9 eR29
  refine wp_aload_n (pc' := 87) (q := 0) (i := 0) rfl rfl dX11_init_86 rfl ?_
  refine wp_sipush (pc' := 90) (by decide) dX11_init_87 rfl ?_
  refine wp_newa (pc' := 92) (k := 1) (n := 600) dX11_init_90 rfl (Or.inl ⟨rfl, rfl⟩) rfl ay_int (show 78 + 1 ≤ 89 by omega) (okP_cons (Or.inl (by omega)) okP_nil) (okP_cons (Or.inl (by omega)) okP_nil) hz30.2.2 (fun j => hz30.1 _ j (by omega)) rfl ?_
  have hz31 : Zr 79 I R_29 := Zr_n hz30
  obtain ⟨R_32, eR32⟩ : ∃ X : RR, X = up2 R_29 68 11 79 := ⟨_, rfl⟩
  refine wp_putFR (pc' := 95) (k := 11) (Or.inr ⟨_, rfl⟩) dX11_init_92 vc10 (by decide) rfl rfl rfl rfl (tyX11_ok 11 (by decide)) lfX11_40 ⟨by omega, by omega, rfl⟩ rfl eR32 ?_
  have hz33 : Zr 79 I R_32 := Zr_R hz31 (by omega) (by omega) eR32
  have hL11 := upL_one hL10 eR32
  refine wp_aload_n (pc' := 96) (q := 0) (i := 0) rfl rfl dX11_init_95 rfl ?_
  refine wp_bipush (pc' := 98) (by decide) dX11_init_96 rfl ?_
  refine wp_newa (pc' := 100) (k := 1) (n := 40) dX11_init_98 rfl (Or.inl ⟨rfl, rfl⟩) rfl ay_int (show 79 + 1 ≤ 89 by omega) (okP_cons (Or.inl (by omega)) okP_nil) (okP_cons (Or.inl (by omega)) okP_nil) hz33.2.2 (fun j => hz33.1 _ j (by omega)) rfl ?_
  have hz34 : Zr 80 I R_32 := Zr_n hz33
  obtain ⟨R_35, eR35⟩ : ∃ X : RR, X = up2 R_32 68 12 80 := ⟨_, rfl⟩
  refine wp_putFR (pc' := 103) (k := 12) (Or.inr ⟨_, rfl⟩) dX11_init_100 vc10 (by decide) rfl rfl rfl rfl (tyX11_ok 12 (by decide)) lfX11_43 ⟨by omega, by omega, rfl⟩ rfl eR35 ?_
  have hz36 : Zr 80 I R_35 := Zr_R hz34 (by omega) (by omega) eR35
  have hL12 := upL_one hL11 eR35
  refine wp_aload_n (pc' := 104) (q := 0) (i := 0) rfl rfl dX11_init_103 rfl ?_
  refine wp_iconst (pc' := 105) dX11_init_104 rfl ?_
  refine wp_newa (pc' := 107) (k := 1) (n := 2) dX11_init_105 rfl (Or.inl ⟨rfl, rfl⟩) rfl ay_int (show 80 + 1 ≤ 89 by omega) (okP_cons (Or.inl (by omega)) okP_nil) (okP_cons (Or.inl (by omega)) okP_nil) hz36.2.2 (fun j => hz36.1 _ j (by omega)) rfl ?_
  have hz37 : Zr 81 I R_35 := Zr_n hz36
  obtain ⟨R_38, eR38⟩ : ∃ X : RR, X = up2 R_35 68 15 81 := ⟨_, rfl⟩
  refine wp_putFR (pc' := 110) (k := 15) (Or.inr ⟨_, rfl⟩) dX11_init_107 vc10 (by decide) rfl rfl rfl rfl (tyX11_ok 15 (by decide)) lfX11_46 ⟨by omega, by omega, rfl⟩ rfl eR38 ?_
  have hz39 : Zr 81 I R_38 := Zr_R hz37 (by omega) (by omega) eR38
  have hL13 := upL_one hL12 eR38
  refine wp_aload_n (pc' := 111) (q := 0) (i := 0) rfl rfl dX11_init_110 rfl ?_
  refine wp_bipush (pc' := 113) (by decide) dX11_init_111 rfl ?_
  refine wp_newa (pc' := 115) (k := 1) (n := 20) dX11_init_113 rfl (Or.inl ⟨rfl, rfl⟩) rfl ay_int (show 81 + 1 ≤ 89 by omega) (okP_cons (Or.inl (by omega)) okP_nil) (okP_cons (Or.inl (by omega)) okP_nil) hz39.2.2 (fun j => hz39.1 _ j (by omega)) rfl ?_
  have hz40 : Zr 82 I R_38 := Zr_n hz39
  obtain ⟨R_41, eR41⟩ : ∃ X : RR, X = up2 R_38 68 16 82 := ⟨_, rfl⟩
  refine wp_putFR (pc' := 118) (k := 16) (Or.inr ⟨_, rfl⟩) dX11_init_115 vc10 (by decide) rfl rfl rfl rfl (tyX11_ok 16 (by decide)) lfX11_49 ⟨by omega, by omega, rfl⟩ rfl eR41 ?_
  have hz42 : Zr 82 I R_41 := Zr_R hz40 (by omega) (by omega) eR41
  have hL14 := upL_one hL13 eR41
  refine wp_aload_n (pc' := 119) (q := 0) (i := 0) rfl rfl dX11_init_118 rfl ?_
  refine wp_bipush (pc' := 121) (by decide) dX11_init_119 rfl ?_
  refine wp_newa (pc' := 123) (k := 1) (n := 10) dX11_init_121 rfl (Or.inl ⟨rfl, rfl⟩) rfl ay_int (show 82 + 1 ≤ 89 by omega) (okP_cons (Or.inl (by omega)) okP_nil) (okP_cons (Or.inl (by omega)) okP_nil) hz42.2.2 (fun j => hz42.1 _ j (by omega)) rfl ?_
  have hz43 : Zr 83 I R_41 := Zr_n hz42
  obtain ⟨R_44, eR44⟩ : ∃ X : RR, X = up2 R_41 68 17 83 := ⟨_, rfl⟩
  refine wp_putFR (pc' := 126) (k := 17) (Or.inr ⟨_, rfl⟩) dX11_init_123 vc10 (by decide) rfl rfl rfl rfl (tyX11_ok 17 (by decide)) lfX11_52 ⟨by omega, by omega, rfl⟩ rfl eR44 ?_
  have hz45 : Zr 83 I R_44 := Zr_R hz43 (by omega) (by omega) eR44
  have hL15 := upL_one hL14 eR44
  refine wp_aload_n (pc' := 127) (q := 0) (i := 0) rfl rfl dX11_init_126 rfl ?_
  refine wp_bipush (pc' := 129) (by decide) dX11_init_127 rfl ?_
  refine wp_newa (pc' := 131) (k := 1) (n := 10) dX11_init_129 rfl (Or.inl ⟨rfl, rfl⟩) rfl ay_int (show 83 + 1 ≤ 89 by omega) (okP_cons (Or.inl (by omega)) okP_nil) (okP_cons (Or.inl (by omega)) okP_nil) hz45.2.2 (fun j => hz45.1 _ j (by omega)) rfl ?_
  have hz46 : Zr 84 I R_44 := Zr_n hz45
  obtain ⟨R_47, eR47⟩ : ∃ X : RR, X = up2 R_44 68 18 84 := ⟨_, rfl⟩
  refine wp_putFR (pc' := 134) (k := 18) (Or.inr ⟨_, rfl⟩) dX11_init_131 vc10 (by decide) rfl rfl rfl rfl (tyX11_ok 18 (by decide)) lfX11_55 ⟨by omega, by omega, rfl⟩ rfl eR47 ?_
  have hz48 : Zr 84 I R_47 := Zr_R hz46 (by omega) (by omega) eR47
  have hL16 := upL_one hL15 eR47
  refine wp_aload_n (pc' := 135) (q := 0) (i := 0) rfl rfl dX11_init_134 rfl ?_
  refine wp_bipush (pc' := 137) (by decide) dX11_init_135 rfl ?_
  refine wp_newa (pc' := 139) (k := 1) (n := 20) dX11_init_137 rfl (Or.inl ⟨rfl, rfl⟩) rfl ay_int (show 84 + 1 ≤ 89 by omega) (okP_cons (Or.inl (by omega)) okP_nil) (okP_cons (Or.inl (by omega)) okP_nil) hz48.2.2 (fun j => hz48.1 _ j (by omega)) rfl ?_
  have hz49 : Zr 85 I R_47 := Zr_n hz48
  obtain ⟨R_50, eR50⟩ : ∃ X : RR, X = up2 R_47 68 23 85 := ⟨_, rfl⟩
  refine wp_putFR (pc' := 142) (k := 23) (Or.inr ⟨_, rfl⟩) dX11_init_139 vc10 (by decide) rfl rfl rfl rfl (tyX11_ok 23 (by decide)) lfX11_58 ⟨by omega, by omega, rfl⟩ rfl eR50 ?_
  have hz51 : Zr 85 I R_50 := Zr_R hz49 (by omega) (by omega) eR50
  have hL17 := upL_one hL16 eR50
  refine wp_aload_n (pc' := 143) (q := 0) (i := 0) rfl rfl dX11_init_142 rfl ?_
  refine wp_bipush (pc' := 145) (by decide) dX11_init_143 rfl ?_
  refine wp_newa (pc' := 147) (k := 1) (n := 20) dX11_init_145 rfl (Or.inl ⟨rfl, rfl⟩) rfl ay_int (show 85 + 1 ≤ 89 by omega) (okP_cons (Or.inl (by omega)) okP_nil) (okP_cons (Or.inl (by omega)) okP_nil) hz51.2.2 (fun j => hz51.1 _ j (by omega)) rfl ?_
  have hz52 : Zr 86 I R_50 := Zr_n hz51
  obtain ⟨R_53, eR53⟩ : ∃ X : RR, X = up2 R_50 68 30 86 := ⟨_, rfl⟩
  refine wp_putFR (pc' := 150) (k := 30) (Or.inr ⟨_, rfl⟩) dX11_init_147 vc10 (by decide) rfl rfl rfl rfl (tyX11_ok 30 (by decide)) lfX11_61 ⟨by omega, by omega, rfl⟩ rfl eR53 ?_
  have hz54 : Zr 86 I R_53 := Zr_R hz52 (by omega) (by omega) eR53
  have hL18 := upL_one hL17 eR53
  refine wp_aload_n (pc' := 151) (q := 0) (i := 0) rfl rfl dX11_init_150 rfl ?_
  refine wp_bipush (pc' := 153) (by decide) dX11_init_151 rfl ?_
  refine wp_newa (pc' := 155) (k := 1) (n := 12) dX11_init_153 rfl (Or.inl ⟨rfl, rfl⟩) rfl ay_int (show 86 + 1 ≤ 89 by omega) (okP_cons (Or.inl (by omega)) okP_nil) (okP_cons (Or.inl (by omega)) okP_nil) hz54.2.2 (fun j => hz54.1 _ j (by omega)) rfl ?_
  have hz55 : Zr 87 I R_53 := Zr_n hz54
  obtain ⟨R_56, eR56⟩ : ∃ X : RR, X = up2 R_53 68 31 87 := ⟨_, rfl⟩
  refine wp_putFR (pc' := 158) (k := 31) (Or.inr ⟨_, rfl⟩) dX11_init_155 vc10 (by decide) rfl rfl rfl rfl (tyX11_ok 31 (by decide)) lfX11_64 ⟨by omega, by omega, rfl⟩ rfl eR56 ?_
  have hz57 : Zr 87 I R_56 := Zr_R hz55 (by omega) (by omega) eR56
  have hL19 := upL_one hL18 eR56
  refine wp_aload_n (pc' := 159) (q := 0) (i := 0) rfl rfl dX11_init_158 rfl ?_
  refine wp_bipush (pc' := 161) (by decide) dX11_init_159 rfl ?_
  refine wp_newa (pc' := 163) (k := 1) (n := 44) dX11_init_161 rfl (Or.inl ⟨rfl, rfl⟩) rfl ay_int (show 87 + 1 ≤ 89 by omega) (okP_cons (Or.inl (by omega)) okP_nil) (okP_cons (Or.inl (by omega)) okP_nil) hz57.2.2 (fun j => hz57.1 _ j (by omega)) rfl ?_
  have hz58 : Zr 88 I R_56 := Zr_n hz57
  obtain ⟨R_59, eR59⟩ : ∃ X : RR, X = up2 R_56 68 32 88 := ⟨_, rfl⟩
  refine wp_putFR (pc' := 166) (k := 32) (Or.inr ⟨_, rfl⟩) dX11_init_163 vc10 (by decide) rfl rfl rfl rfl (tyX11_ok 32 (by decide)) lfX11_67 ⟨by omega, by omega, rfl⟩ rfl eR59 ?_
  have hz60 : Zr 88 I R_59 := Zr_R hz58 (by omega) (by omega) eR59
  have hL20 := upL_one hL19 eR59
  refine wp_aload_n (pc' := 167) (q := 0) (i := 0) rfl rfl dX11_init_166 rfl ?_
  refine wp_iconst (pc' := 168) dX11_init_167 rfl ?_
  refine wp_newa (pc' := 170) (k := 1) (n := 4) dX11_init_168 rfl (Or.inl ⟨rfl, rfl⟩) rfl ay_int (show 88 + 1 ≤ 89 by omega) (okP_cons (Or.inl (by omega)) okP_nil) (okP_cons (Or.inl (by omega)) okP_nil) hz60.2.2 (fun j => hz60.1 _ j (by omega)) rfl ?_
  have hz61 : Zr 89 I R_59 := Zr_n hz60
  obtain ⟨R_62, eR62⟩ : ∃ X : RR, X = up2 R_59 68 33 89 := ⟨_, rfl⟩
  refine wp_putFR (pc' := 173) (k := 33) (Or.inr ⟨_, rfl⟩) dX11_init_170 vc10 (by decide) rfl rfl rfl rfl (tyX11_ok 33 (by decide)) lfX11_70 ⟨by omega, by omega, rfl⟩ rfl eR62 ?_
  have hz63 : Zr 89 I R_62 := Zr_R hz61 (by omega) (by omega) eR62
  have hL21 := upL_one hL20 eR62
  refine wp_aload_n (pc' := 174) (q := 0) (i := 0) rfl rfl dX11_init_173 rfl ?_
  refine wp_iconst (pc' := 175) dX11_init_174 rfl ?_
  have hSR : SR R_62 := by rw [hL21, hR0, ← upL_app]; exact SR_all
  refine wp_callV (pc' := 178) (as := [vI 0]) (rest := []) (aX11_noRoom0 hSR) dX11_init_175 rfl lkX11_73 okX11_noRoom inX11_noRoom seX11_noRoom o_68 vc10 ⟨Nat.le_of_ble_eq_true rfl, Nat.le_of_ble_eq_true rfl⟩ (Nat.le_of_ble_eq_true rfl) (Nat.le_refl _) (Nat.le_refl _) okP_eq okP_eq rfl (rvV rfl (fun J_1 S_1 hqq => ?_))
  obtain ⟨er1, fr1, w0, w1, w2, w3, w4⟩ := hqq
  subst er1
  refine wp_aload_n (pc' := 179) (q := 0) (i := 0) rfl rfl dX11_init_178 rfl ?_
  refine wp_getRc (pc' := 182) (k := 2) (j := 70) dX11_init_179 vc10 (by decide) rfl lfX11_13 o_68 (r_68_2 hSR) rfl ?_
  refine wp_iconst (pc' := 183) dX11_init_182 rfl ?_
  refine wp_iconst (pc' := 184) dX11_init_183 rfl ?_
  obtain ⟨J_64, ej64⟩ : ∃ X : II, X = up2 J_1 70 0 2 := ⟨_, rfl⟩
  refine wp_iast (pc' := 185) (j := 0) (I' := J_64) dX11_init_184 a_70 ⟨by decide, by decide⟩ rfl rfl ej64 ?_
  refine wp_aload_n (pc' := 186) (q := 0) (i := 0) rfl rfl dX11_init_185 rfl ?_
  refine wp_getRc (pc' := 189) (k := 4) (j := 72) dX11_init_186 vc10 (by decide) rfl lfX11_19 o_68 (r_68_4 hSR) rfl ?_
  refine wp_iconst (pc' := 190) dX11_init_189 rfl ?_
  refine wp_bipush (pc' := 192) (by decide) dX11_init_190 rfl ?_
  obtain ⟨J_65, ej65⟩ : ∃ X : II, X = up2 J_64 72 0 9 := ⟨_, rfl⟩
  refine wp_iast (pc' := 193) (j := 0) (I' := J_65) dX11_init_192 a_72 ⟨by decide, by decide⟩ rfl rfl ej65 ?_
  refine wp_aload_n (pc' := 194) (q := 0) (i := 0) rfl rfl dX11_init_193 rfl ?_
  refine wp_getRc (pc' := 197) (k := 3) (j := 71) dX11_init_194 vc10 (by decide) rfl lfX11_16 o_68 (r_68_3 hSR) rfl ?_
  refine wp_iconst (pc' := 198) dX11_init_197 rfl ?_
  refine wp_iconst (pc' := 199) dX11_init_198 rfl ?_
  obtain ⟨J_66, ej66⟩ : ∃ X : II, X = up2 J_65 71 1 1 := ⟨_, rfl⟩
  refine wp_iast (pc' := 200) (j := 1) (I' := J_66) dX11_init_199 a_71 ⟨by decide, by decide⟩ rfl rfl ej66 ?_
  refine wp_aload_n (pc' := 201) (q := 0) (i := 0) rfl rfl dX11_init_200 rfl ?_
  refine wp_getRc (pc' := 204) (k := 4) (j := 72) dX11_init_201 vc10 (by decide) rfl lfX11_19 o_68 (r_68_4 hSR) rfl ?_
  refine wp_iconst (pc' := 205) dX11_init_204 rfl ?_
  refine wp_iconst (pc' := 206) dX11_init_205 rfl ?_
  obtain ⟨J_67, ej67⟩ : ∃ X : II, X = up2 J_66 72 1 1 := ⟨_, rfl⟩
  refine wp_iast (pc' := 207) (j := 1) (I' := J_67) dX11_init_206 a_72 ⟨by decide, by decide⟩ rfl rfl ej67 ?_
  refine wp_vreturn dX11_init_207 rfl rfl ?_
  have g1 : frm [70, 71, 72, 74] J_1 J_67 := by rw [ej67, ej66, ej65, ej64]; exact (frm_trans (frm_up (by decide)) (frm_trans (frm_up (by decide)) (frm_trans (frm_up (by decide)) (frm_up (by decide)))))
  refine ⟨by rw [hL21, hR0, ← upL_app]; rfl, frm_trans (frm_sub fr1 (by decide)) g1, ?_, fun p hp => ?_, fun k hk => ?_⟩
  · exact (by rw [ej67, up2_ne (by decide), ej66, up2_ne (by decide), ej65, up2_ne (by decide), ej64, up2_self]; rfl)
  · have hp2 : p = 0 ∨ p = 1 := by have hp : p < 2 := hp; omega
    rcases hp2 with rfl | rfl
    · exact ⟨(by rw [ej67, up2_ne (by decide), ej66, up2_nj (by decide), ej65, up2_ne (by decide), ej64, up2_ne (by decide)]; exact ((fr1 71 (by decide) 0).trans (hz.1 71 0 (by decide)))), (by rw [ej67, up2_nj (by decide), ej66, up2_ne (by decide), ej65, up2_self]; rfl), (by rw [ej67, up2_ne (by decide), ej66, up2_ne (by decide), ej65, up2_ne (by decide), ej64, up2_ne (by decide)]; exact ((fr1 73 (by decide) 0).trans (hz.1 73 0 (by decide))))⟩
    · exact ⟨(by rw [ej67, up2_ne (by decide), ej66, up2_self]; rfl), (by rw [ej67, up2_self]; rfl), (by rw [ej67, up2_ne (by decide), ej66, up2_ne (by decide), ej65, up2_ne (by decide), ej64, up2_ne (by decide)]; exact ((fr1 73 (by decide) 1).trans (hz.1 73 1 (by decide))))⟩
  · have hk5 : k = 0 ∨ k = 1 ∨ k = 2 ∨ k = 3 ∨ k = 4 := by omega
    rcases hk5 with rfl | rfl | rfl | rfl | rfl
    · exact (by rw [ej67, up2_ne (by decide), ej66, up2_ne (by decide), ej65, up2_ne (by decide), ej64, up2_ne (by decide)]; exact w0)
    · exact (by rw [ej67, up2_ne (by decide), ej66, up2_ne (by decide), ej65, up2_ne (by decide), ej64, up2_ne (by decide)]; exact w1)
    · exact (by rw [ej67, up2_ne (by decide), ej66, up2_ne (by decide), ej65, up2_ne (by decide), ej64, up2_ne (by decide)]; exact w2)
    · exact (by rw [ej67, up2_ne (by decide), ej66, up2_ne (by decide), ej65, up2_ne (by decide), ej64, up2_ne (by decide)]; exact w3)
    · exact (by rw [ej67, up2_ne (by decide), ej66, up2_ne (by decide), ej65, up2_ne (by decide), ej64, up2_ne (by decide)]; exact w4)
