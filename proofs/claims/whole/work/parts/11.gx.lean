theorem sX0_choose {Q : QT} {I : II} {R : RR} {a1 : Nat} {a2 : Nat} {a3 : Int} (h : wp (kN 89) mX0_choose Q 0 [vR 48, vR a1, vR a2, vI a3, none, none, none, none, none, none] [] I R 89) : Spec mX0_choose [vR 48, vR a1, vR a2, vI a3] I R 89 89 Q := Spec_of_wp pyX0_choose rfl (Nat.le_of_ble_eq_true rfl) (Nat.le_refl _) (by decide) h

set_option maxRecDepth 4000 in
theorem gX0_choose_0 {Q : QT} {I : II} {R : RR} (hR : SR R) {a1 : Nat} {a2 : Nat} {a3 : Int}
    (h : (∀ I1 : II, I1 = up2 I 48 0 0 →
      (∀ I2 : II, I2 = up2 I1 48 1 0 →
      wp (kN 89) mX0_choose Q 13 [vR 48, vR a1, vR a2, vI a3, vI 0, none, none, none, none, none] [] I2 R 89))) : wp (kN 89) mX0_choose Q 0 [vR 48, vR a1, vR a2, vI a3, none, none, none, none, none, none] [] I R 89 := by
  refine wp_aload_n (pc' := 1) (q := 0) (i := 0) rfl rfl dX0_choose_0 rfl ?_
  refine wp_iconst (pc' := 2) dX0_choose_1 rfl ?_
  obtain ⟨I1, eI1⟩ : ∃ z : II, z = up2 I 48 0 0 := ⟨_, rfl⟩
  have h := h I1 eI1
  refine wp_putI (pc' := 5) (k := 0) (I' := I1) dX0_choose_2 vc0 (by decide) rfl rfl (tyX0_ok 0 (by decide)) lfX0_7 o_48 rfl eI1 ?_
  refine wp_aload_n (pc' := 6) (q := 0) (i := 0) rfl rfl dX0_choose_5 rfl ?_
  refine wp_iconst (pc' := 7) dX0_choose_6 rfl ?_
  obtain ⟨I2, eI2⟩ : ∃ z : II, z = up2 I1 48 1 0 := ⟨_, rfl⟩
  have h := h I2 eI2
  refine wp_putI (pc' := 10) (k := 1) (I' := I2) dX0_choose_7 vc0 (by decide) rfl rfl (tyX0_ok 1 (by decide)) lfX0_13 o_48 rfl eI2 ?_
  refine wp_iconst (pc' := 11) dX0_choose_10 rfl ?_
  refine wp_istore (pc' := 13) (i := 4) (L' := [vR 48, vR a1, vR a2, vI a3, vI 0, none, none, none, none, none]) (by decide) rfl dX0_choose_11 rfl rfl ?_
  exact h

set_option maxRecDepth 4000 in
theorem gX0_choose_13 {Q : QT} {I : II} {R : RR} (hR : SR R) {a1 : Nat} {a2 : Nat} {a3 : Int} {a4 : Int}
    (h : (isO 89 a1 3) ∧
      (isO 89 (R a1 0) 2) ∧
      (InI a4) ∧
      (InI (I (R a1 0) 3)) ∧
      (((I (R a1 0) 3) < a4 →
      Q none I R) ∧ (¬ (I (R a1 0) 3) < a4 →
      wp (kN 89) mX0_choose Q 28 [vR 48, vR a1, vR a2, vI a3, vI a4, vI 0, none, none, none, none] [] I R 89))) : wp (kN 89) mX0_choose Q 13 [vR 48, vR a1, vR a2, vI a3, vI a4, none, none, none, none, none] [] I R 89 := by
  refine wp_iload (pc' := 15) (i := 4) rfl dX0_choose_13 rfl ?_
  refine wp_aload_n (pc' := 16) (q := 1) (i := 1) rfl rfl dX0_choose_15 rfl ?_
  obtain ⟨h1, h⟩ := h
  refine wp_getR (pc' := 19) (k := 0) dX0_choose_16 vc3 (by decide) rfl lfX0_16 h1 rfl ?_
  obtain ⟨h2, h⟩ := h
  refine wp_getI (pc' := 22) (k := 3) dX0_choose_19 vc2 (by decide) rfl lfX0_22 h2 rfl ?_
  obtain ⟨h3, h⟩ := h
  obtain ⟨h4, h⟩ := h
  refine wp_icmp_gt (pc' := 25) (tgt := 170) h3 h4 dX0_choose_22 rfl rfl (fun hc => ?_) (fun hc => ?_)
  · have h := h.1 hc
    exact wp_vreturn dX0_choose_170 rfl rfl h
  · have h := h.2 hc
    refine wp_iconst (pc' := 26) dX0_choose_25 rfl ?_
    refine wp_istore (pc' := 28) (i := 5) (L' := [vR 48, vR a1, vR a2, vI a3, vI a4, vI 0, none, none, none, none]) (by decide) rfl dX0_choose_26 rfl rfl ?_
    exact h

set_option maxRecDepth 4000 in
theorem gX0_choose_28 {Q : QT} {I : II} {R : RR} (hR : SR R) {a1 : Nat} {a2 : Nat} {a3 : Int} {a4 : Int} {a5 : Int}
    (h : (isO 89 a1 3) ∧
      (isO 89 (R a1 1) 2) ∧
      (InI a5) ∧
      (InI (I (R a1 1) 3)) ∧
      (((I (R a1 1) 3) < a5 →
      wp (kN 89) mX0_choose Q 13 [vR 48, vR a1, vR a2, vI a3, vI (a4 + 1), none, none, none, none, none] [] I R 89) ∧ (¬ (I (R a1 1) 3) < a5 →
      wp (kN 89) mX0_choose Q 43 [vR 48, vR a1, vR a2, vI a3, vI a4, vI a5, vI 0, none, none, none] [] I R 89))) : wp (kN 89) mX0_choose Q 28 [vR 48, vR a1, vR a2, vI a3, vI a4, vI a5, none, none, none, none] [] I R 89 := by
  refine wp_iload (pc' := 30) (i := 5) rfl dX0_choose_28 rfl ?_
  refine wp_aload_n (pc' := 31) (q := 1) (i := 1) rfl rfl dX0_choose_30 rfl ?_
  obtain ⟨h1, h⟩ := h
  refine wp_getR (pc' := 34) (k := 1) dX0_choose_31 vc3 (by decide) rfl lfX0_27 h1 rfl ?_
  obtain ⟨h2, h⟩ := h
  refine wp_getI (pc' := 37) (k := 3) dX0_choose_34 vc2 (by decide) rfl lfX0_22 h2 rfl ?_
  obtain ⟨h3, h⟩ := h
  obtain ⟨h4, h⟩ := h
  refine wp_icmp_gt (pc' := 40) (tgt := 164) h3 h4 dX0_choose_37 rfl rfl (fun hc => ?_) (fun hc => ?_)
  · have h := h.1 hc
    refine wp_iinc (pc' := 167) (i := 4) (L' := [vR 48, vR a1, vR a2, vI a3, vI (a4 + 1), vI a5, none, none, none, none]) rfl (by decide) rfl dX0_choose_164 rfl rfl ?_
    refine wp_goto (tgt := 13) dX0_choose_167 rfl ?_
    exact wp_dropP (leP_s (leP_s (leP_s (leP_s (leP_s (leP_d (leP_s (leP_s (leP_s (leP_s leP_n)))))))))) h
  · have h := h.2 hc
    refine wp_iconst (pc' := 41) dX0_choose_40 rfl ?_
    refine wp_istore (pc' := 43) (i := 6) (L' := [vR 48, vR a1, vR a2, vI a3, vI a4, vI a5, vI 0, none, none, none]) (by decide) rfl dX0_choose_41 rfl rfl ?_
    exact h

set_option maxRecDepth 4000 in
theorem gX0_choose_43 {Q : QT} {I : II} {R : RR} (hR : SR R) {a1 : Nat} {a2 : Nat} {a3 : Int} {a4 : Int} {a5 : Int} {a6 : Int}
    (h : (isO 89 a2 3) ∧
      (isO 89 (R a2 0) 2) ∧
      (InI a6) ∧
      (InI (I (R a2 0) 3)) ∧
      (((I (R a2 0) 3) < a6 →
      wp (kN 89) mX0_choose Q 28 [vR 48, vR a1, vR a2, vI a3, vI a4, vI (a5 + 1), none, none, none, none] [] I R 89) ∧ (¬ (I (R a2 0) 3) < a6 →
      (isO 89 (R a2 1) 2) ∧
      (InI ((a4 + a6) - a5)) ∧
      (InI (I (R a2 1) 3)) ∧
      (((0 : Int) ≤ ((a4 + a6) - a5) ∧ ((a4 + a6) - a5) ≤ (I (R a2 1) 3) →
      (isO 89 a1 3) ∧
      (isO 89 (R a1 0) 2) ∧
      (∃ Q10 : QT, Spec mX2_sum [vR (R a1 0), vI 0, vI a4] I R 89 89 Q10 ∧ (∀ x10 I10 R10, Q10 (vI x10) I10 R10 →
      R = R10 ∧ (∃ Q12 : QT, Spec mX2_sum [vR (R a2 0), vI 0, vI a6] I10 R 89 89 Q12 ∧ (∀ x12 I12 R12, Q12 (vI x12) I12 R12 →
      R = R12 ∧ (isO 89 (R a1 1) 2) ∧
      (∃ Q13 : QT, Spec mX2_sum [vR (R a1 1), vI 0, vI a5] I12 R 89 89 Q13 ∧ (∀ x13 I13 R13, Q13 (vI x13) I13 R13 →
      R = R13 ∧ (∃ Q15 : QT, Spec mX2_sum [vR (R a2 1), vI 0, vI ((a4 + a6) - a5)] I13 R 89 89 Q15 ∧ (∀ x15 I15 R15, Q15 (vI x15) I15 R15 →
      R = R15 ∧ (InI (a5 - a4)) ∧
      (∃ Q17 : QT, Spec mX0_offer [vR 48, vI (((x10 + x12) - (x13 + x15)) - (a3 * ((((a5 - a4)).natAbs : Nat) : Int))), vI (a5 - a4)] I15 R 89 89 Q17 ∧ (∀ I17 R17, Q17 none I17 R17 →
      R = R17 ∧ wp (kN 89) mX0_choose Q 152 [vR 48, vR a1, vR a2, vI a3, vI a4, vI a5, vI a6, none, none, none] [] I17 R 89))))))))))) ∧ (¬ ((0 : Int) ≤ ((a4 + a6) - a5) ∧ ((a4 + a6) - a5) ≤ (I (R a2 1) 3)) →
      wp (kN 89) mX0_choose Q 152 [vR 48, vR a1, vR a2, vI a3, vI a4, vI a5, vI a6, none, none, none] [] I R 89))))) : wp (kN 89) mX0_choose Q 43 [vR 48, vR a1, vR a2, vI a3, vI a4, vI a5, vI a6, none, none, none] [] I R 89 := by
  refine wp_iload (pc' := 45) (i := 6) rfl dX0_choose_43 rfl ?_
  refine wp_aload_n (pc' := 46) (q := 2) (i := 2) rfl rfl dX0_choose_45 rfl ?_
  obtain ⟨h1, h⟩ := h
  refine wp_getR (pc' := 49) (k := 0) dX0_choose_46 vc3 (by decide) rfl lfX0_16 h1 rfl ?_
  obtain ⟨h2, h⟩ := h
  refine wp_getI (pc' := 52) (k := 3) dX0_choose_49 vc2 (by decide) rfl lfX0_22 h2 rfl ?_
  obtain ⟨h3, h⟩ := h
  obtain ⟨h4, h⟩ := h
  refine wp_icmp_gt (pc' := 55) (tgt := 158) h3 h4 dX0_choose_52 rfl rfl (fun hc => ?_) (fun hc => ?_)
  · have h := h.1 hc
    refine wp_iinc (pc' := 161) (i := 5) (L' := [vR 48, vR a1, vR a2, vI a3, vI a4, vI (a5 + 1), vI a6, none, none, none]) rfl (by decide) rfl dX0_choose_158 rfl rfl ?_
    refine wp_goto (tgt := 28) dX0_choose_161 rfl ?_
    exact wp_dropP (leP_s (leP_s (leP_s (leP_s (leP_s (leP_s (leP_d (leP_s (leP_s (leP_s leP_n)))))))))) h
  · have h := h.2 hc
    refine wp_iload (pc' := 57) (i := 4) rfl dX0_choose_55 rfl ?_
    refine wp_iload (pc' := 59) (i := 6) rfl dX0_choose_57 rfl ?_
    refine wp_iadd (pc' := 60) dX0_choose_59 rfl ?_
    refine wp_iload (pc' := 62) (i := 5) rfl dX0_choose_60 rfl ?_
    refine wp_isub (pc' := 63) dX0_choose_62 rfl ?_
    refine wp_istore (pc' := 65) (i := 7) (L' := [vR 48, vR a1, vR a2, vI a3, vI a4, vI a5, vI a6, vI ((a4 + a6) - a5), none, none]) (by decide) rfl dX0_choose_63 rfl rfl ?_
    refine wp_iload (pc' := 67) (i := 7) rfl dX0_choose_65 rfl ?_
    refine wp_iconst (pc' := 68) dX0_choose_67 rfl ?_
    refine wp_aload_n (pc' := 69) (q := 2) (i := 2) rfl rfl dX0_choose_68 rfl ?_
    refine wp_getR (pc' := 72) (k := 1) dX0_choose_69 vc3 (by decide) rfl lfX0_27 h1 rfl ?_
    obtain ⟨h5, h⟩ := h
    refine wp_getI (pc' := 75) (k := 3) dX0_choose_72 vc2 (by decide) rfl lfX0_22 h5 rfl ?_
    obtain ⟨h7, h⟩ := h
    obtain ⟨h8, h⟩ := h
    refine wp_callSN (pc' := 78) (as := [vI ((a4 + a6) - a5), vI 0, vI (I (R a2 1) 3)]) (rest := []) (pX10_within (by decide) h7 ⟨by decide, by decide⟩ h8) dX0_choose_75 rfl lnX0_30 okX10_within stX10_within ⟨Nat.le_of_ble_eq_true rfl, Nat.le_of_ble_eq_true rfl⟩ (Nat.le_of_ble_eq_true rfl) (Nat.le_refl _) (Nat.le_refl _) okP_eq okP_eq rfl (rvZ rfl (fun x6 I6 R6 hz6 hq6 => ?_))
    obtain ⟨eR6, eI6, ex6⟩ := hq6; subst eR6; subst eI6; cases ex6
    by_cases hc : (0 : Int) ≤ ((a4 + a6) - a5) ∧ ((a4 + a6) - a5) ≤ (I (R a2 1) 3)
    · rw [if_pos hc]; have h := h.1 hc
      refine wp_if_eq (pc' := 81) (tgt := 152) ⟨by decide, by decide⟩ dX0_choose_78 rfl rfl (fun hc => by exfalso; revert hc; decide) (fun hc => ?_)
      refine wp_aload_n (pc' := 82) (q := 1) (i := 1) rfl rfl dX0_choose_81 rfl ?_
      obtain ⟨h9, h⟩ := h
      refine wp_getR (pc' := 85) (k := 0) dX0_choose_82 vc3 (by decide) rfl lfX0_16 h9 rfl ?_
      refine wp_iconst (pc' := 86) dX0_choose_85 rfl ?_
      refine wp_iload (pc' := 88) (i := 4) rfl dX0_choose_86 rfl ?_
      obtain ⟨h11, h⟩ := h
      obtain ⟨Q10, hs10, h⟩ := h
      refine wp_callV (pc' := 91) (as := [vI 0, vI a4]) (rest := []) hs10 dX0_choose_88 rfl lkX0_36 okX2_sum inX2_sum seX2_sum h11 vc2 ⟨Nat.le_of_ble_eq_true rfl, Nat.le_of_ble_eq_true rfl⟩ (Nat.le_of_ble_eq_true rfl) (Nat.le_refl _) (Nat.le_refl _) okP_eq okP_eq rfl (rvI rfl (fun x10 I10 R10 hq10 => ?_))
      obtain ⟨hRR10, h⟩ := h x10 I10 R10 hq10; subst hRR10
      refine wp_aload_n (pc' := 92) (q := 2) (i := 2) rfl rfl dX0_choose_91 rfl ?_
      refine wp_getR (pc' := 95) (k := 0) dX0_choose_92 vc3 (by decide) rfl lfX0_16 h1 rfl ?_
      refine wp_iconst (pc' := 96) dX0_choose_95 rfl ?_
      refine wp_iload (pc' := 98) (i := 6) rfl dX0_choose_96 rfl ?_
      obtain ⟨Q12, hs12, h⟩ := h
      refine wp_callV (pc' := 101) (as := [vI 0, vI a6]) (rest := [vI x10]) hs12 dX0_choose_98 rfl lkX0_36 okX2_sum inX2_sum seX2_sum h2 vc2 ⟨Nat.le_of_ble_eq_true rfl, Nat.le_of_ble_eq_true rfl⟩ (Nat.le_of_ble_eq_true rfl) (Nat.le_refl _) (Nat.le_refl _) okP_eq okP_eq rfl (rvI rfl (fun x12 I12 R12 hq12 => ?_))
      obtain ⟨hRR12, h⟩ := h x12 I12 R12 hq12; subst hRR12
      refine wp_iadd (pc' := 102) dX0_choose_101 rfl ?_
      refine wp_istore (pc' := 104) (i := 8) (L' := [vR 48, vR a1, vR a2, vI a3, vI a4, vI a5, vI a6, vI ((a4 + a6) - a5), vI (x10 + x12), none]) (by decide) rfl dX0_choose_102 rfl rfl ?_
      refine wp_aload_n (pc' := 105) (q := 1) (i := 1) rfl rfl dX0_choose_104 rfl ?_
      refine wp_getR (pc' := 108) (k := 1) dX0_choose_105 vc3 (by decide) rfl lfX0_27 h9 rfl ?_
      refine wp_iconst (pc' := 109) dX0_choose_108 rfl ?_
      refine wp_iload (pc' := 111) (i := 5) rfl dX0_choose_109 rfl ?_
      obtain ⟨h14, h⟩ := h
      obtain ⟨Q13, hs13, h⟩ := h
      refine wp_callV (pc' := 114) (as := [vI 0, vI a5]) (rest := []) hs13 dX0_choose_111 rfl lkX0_36 okX2_sum inX2_sum seX2_sum h14 vc2 ⟨Nat.le_of_ble_eq_true rfl, Nat.le_of_ble_eq_true rfl⟩ (Nat.le_of_ble_eq_true rfl) (Nat.le_refl _) (Nat.le_refl _) okP_eq okP_eq rfl (rvI rfl (fun x13 I13 R13 hq13 => ?_))
      obtain ⟨hRR13, h⟩ := h x13 I13 R13 hq13; subst hRR13
      refine wp_aload_n (pc' := 115) (q := 2) (i := 2) rfl rfl dX0_choose_114 rfl ?_
      refine wp_getR (pc' := 118) (k := 1) dX0_choose_115 vc3 (by decide) rfl lfX0_27 h1 rfl ?_
      refine wp_iconst (pc' := 119) dX0_choose_118 rfl ?_
      refine wp_iload (pc' := 121) (i := 7) rfl dX0_choose_119 rfl ?_
      obtain ⟨Q15, hs15, h⟩ := h
      refine wp_callV (pc' := 124) (as := [vI 0, vI ((a4 + a6) - a5)]) (rest := [vI x13]) hs15 dX0_choose_121 rfl lkX0_36 okX2_sum inX2_sum seX2_sum h5 vc2 ⟨Nat.le_of_ble_eq_true rfl, Nat.le_of_ble_eq_true rfl⟩ (Nat.le_of_ble_eq_true rfl) (Nat.le_refl _) (Nat.le_refl _) okP_eq okP_eq rfl (rvI rfl (fun x15 I15 R15 hq15 => ?_))
      obtain ⟨hRR15, h⟩ := h x15 I15 R15 hq15; subst hRR15
      refine wp_iadd (pc' := 125) dX0_choose_124 rfl ?_
      refine wp_istore (pc' := 127) (i := 9) (L' := [vR 48, vR a1, vR a2, vI a3, vI a4, vI a5, vI a6, vI ((a4 + a6) - a5), vI (x10 + x12), vI (x13 + x15)]) (by decide) rfl dX0_choose_125 rfl rfl ?_
      refine wp_aload_n (pc' := 128) (q := 0) (i := 0) rfl rfl dX0_choose_127 rfl ?_
      refine wp_iload (pc' := 130) (i := 8) rfl dX0_choose_128 rfl ?_
      refine wp_iload (pc' := 132) (i := 9) rfl dX0_choose_130 rfl ?_
      refine wp_isub (pc' := 133) dX0_choose_132 rfl ?_
      refine wp_iload_n (pc' := 134) (q := 3) (i := 3) rfl rfl dX0_choose_133 rfl ?_
      refine wp_iload (pc' := 136) (i := 5) rfl dX0_choose_134 rfl ?_
      refine wp_iload (pc' := 138) (i := 4) rfl dX0_choose_136 rfl ?_
      refine wp_isub (pc' := 139) dX0_choose_138 rfl ?_
      obtain ⟨h16, h⟩ := h
      refine wp_mabs (pc' := 142) h16 dX0_choose_139 lkX0_40 ms_abs iiMath mc_abs ⟨Nat.le_of_ble_eq_true rfl, Nat.le_of_ble_eq_true rfl⟩ (Nat.le_refl _) rfl ?_
      refine wp_imul (pc' := 143) dX0_choose_142 rfl ?_
      refine wp_isub (pc' := 144) dX0_choose_143 rfl ?_
      refine wp_iload (pc' := 146) (i := 5) rfl dX0_choose_144 rfl ?_
      refine wp_iload (pc' := 148) (i := 4) rfl dX0_choose_146 rfl ?_
      refine wp_isub (pc' := 149) dX0_choose_148 rfl ?_
      obtain ⟨Q17, hs17, h⟩ := h
      refine wp_callV (pc' := 152) (as := [vI (((x10 + x12) - (x13 + x15)) - (a3 * ((((a5 - a4)).natAbs : Nat) : Int))), vI (a5 - a4)]) (rest := []) hs17 dX0_choose_149 rfl lkX0_46 okX0_offer inX0_offer seX0_offer o_48 vc0 ⟨Nat.le_of_ble_eq_true rfl, Nat.le_of_ble_eq_true rfl⟩ (Nat.le_of_ble_eq_true rfl) (Nat.le_refl _) (Nat.le_refl _) okP_eq okP_eq rfl (rvV rfl (fun I17 R17 hq17 => ?_))
      obtain ⟨hRR17, h⟩ := h I17 R17 hq17; subst hRR17
      exact wp_dropP (leP_s (leP_s (leP_s (leP_s (leP_s (leP_s (leP_s (leP_d (leP_d (leP_d leP_n)))))))))) h
    · rw [if_neg hc]; have h := h.2 hc
      refine wp_if_eq (pc' := 81) (tgt := 152) ⟨by decide, by decide⟩ dX0_choose_78 rfl rfl (fun hc => ?_) (fun hc => by exfalso; revert hc; decide)
      exact wp_dropP (leP_s (leP_s (leP_s (leP_s (leP_s (leP_s (leP_s (leP_d (leP_s (leP_s leP_n)))))))))) h

set_option maxRecDepth 4000 in
theorem gX0_choose_152 {Q : QT} {I : II} {R : RR} (hR : SR R) {a1 : Nat} {a2 : Nat} {a3 : Int} {a4 : Int} {a5 : Int} {a6 : Int}
    (h : wp (kN 89) mX0_choose Q 43 [vR 48, vR a1, vR a2, vI a3, vI a4, vI a5, vI (a6 + 1), none, none, none] [] I R 89) : wp (kN 89) mX0_choose Q 152 [vR 48, vR a1, vR a2, vI a3, vI a4, vI a5, vI a6, none, none, none] [] I R 89 := by
  refine wp_iinc (pc' := 155) (i := 6) (L' := [vR 48, vR a1, vR a2, vI a3, vI a4, vI a5, vI (a6 + 1), none, none, none]) rfl (by decide) rfl dX0_choose_152 rfl rfl ?_
  refine wp_goto (tgt := 43) dX0_choose_155 rfl ?_
  exact h

theorem sX0_offer {Q : QT} {I : II} {R : RR} {a1 : Int} {a2 : Int} (h : wp (kN 89) mX0_offer Q 0 [vR 48, vI a1, vI a2, none] [] I R 89) : Spec mX0_offer [vR 48, vI a1, vI a2] I R 89 89 Q := Spec_of_wp pyX0_offer rfl (Nat.le_of_ble_eq_true rfl) (Nat.le_refl _) (by decide) h

set_option maxRecDepth 4000 in
theorem gX0_offer_0 {Q : QT} {I : II} {R : RR} (hR : SR R) {a1 : Int} {a2 : Int}
    (h : (InI (I 48 1)) ∧
      (InI a2) ∧
      (InI a1) ∧
      (InI (I 48 0)) ∧
      (((I 48 0) < a1 →
      wp (kN 89) mX0_offer Q 45 [vR 48, vI a1, vI a2, none] [] I R 89) ∧ (¬ (I 48 0) < a1 →
      ((¬ a1 = (I 48 0) →
      wp (kN 89) mX0_offer Q 55 [none, none, none, none] [] I R 89) ∧ (a1 = (I 48 0) →
      (InI (((((I 48 1)).natAbs : Nat) : Int) - (((a2).natAbs : Nat) : Int))) ∧
      ((0 < (((((I 48 1)).natAbs : Nat) : Int) - (((a2).natAbs : Nat) : Int)) →
      wp (kN 89) mX0_offer Q 45 [vR 48, vI a1, vI a2, none] [] I R 89) ∧ (¬ (0 < (((((I 48 1)).natAbs : Nat) : Int) - (((a2).natAbs : Nat) : Int))) →
      ((¬ (((((I 48 1)).natAbs : Nat) : Int) - (((a2).natAbs : Nat) : Int)) = 0 →
      wp (kN 89) mX0_offer Q 55 [none, none, none, none] [] I R 89) ∧ ((((((I 48 1)).natAbs : Nat) : Int) - (((a2).natAbs : Nat) : Int)) = 0 →
      ((a2 ≤ (I 48 1) →
      wp (kN 89) mX0_offer Q 55 [none, none, none, none] [] I R 89) ∧ (¬ (a2 ≤ (I 48 1)) →
      wp (kN 89) mX0_offer Q 45 [vR 48, vI a1, vI a2, none] [] I R 89))))))))))) : wp (kN 89) mX0_offer Q 0 [vR 48, vI a1, vI a2, none] [] I R 89 := by
  refine wp_aload_n (pc' := 1) (q := 0) (i := 0) rfl rfl dX0_offer_0 rfl ?_
  refine wp_getI (pc' := 4) (k := 1) dX0_offer_1 vc0 (by decide) rfl lfX0_13 o_48 rfl ?_
  obtain ⟨h1, h⟩ := h
  refine wp_mabs (pc' := 7) h1 dX0_offer_4 lkX0_40 ms_abs iiMath mc_abs ⟨Nat.le_of_ble_eq_true rfl, Nat.le_of_ble_eq_true rfl⟩ (Nat.le_refl _) rfl ?_
  refine wp_iload_n (pc' := 8) (q := 2) (i := 2) rfl rfl dX0_offer_7 rfl ?_
  obtain ⟨h2, h⟩ := h
  refine wp_mabs (pc' := 11) h2 dX0_offer_8 lkX0_40 ms_abs iiMath mc_abs ⟨Nat.le_of_ble_eq_true rfl, Nat.le_of_ble_eq_true rfl⟩ (Nat.le_refl _) rfl ?_
  refine wp_isub (pc' := 12) dX0_offer_11 rfl ?_
  refine wp_istore_n (pc' := 13) (q := 3) (i := 3) (L' := [vR 48, vI a1, vI a2, vI (((((I 48 1)).natAbs : Nat) : Int) - (((a2).natAbs : Nat) : Int))]) rfl (by decide) rfl dX0_offer_12 rfl rfl ?_
  refine wp_iload_n (pc' := 14) (q := 1) (i := 1) rfl rfl dX0_offer_13 rfl ?_
  refine wp_aload_n (pc' := 15) (q := 0) (i := 0) rfl rfl dX0_offer_14 rfl ?_
  refine wp_getI (pc' := 18) (k := 0) dX0_offer_15 vc0 (by decide) rfl lfX0_7 o_48 rfl ?_
  obtain ⟨h3, h⟩ := h
  obtain ⟨h4, h⟩ := h
  refine wp_icmp_gt (pc' := 21) (tgt := 45) h3 h4 dX0_offer_18 rfl rfl (fun hc => ?_) (fun hc => ?_)
  · have h := h.1 hc
    exact wp_dropP (leP_s (leP_s (leP_s (leP_d leP_n)))) h
  · have h := h.2 hc
    refine wp_iload_n (pc' := 22) (q := 1) (i := 1) rfl rfl dX0_offer_21 rfl ?_
    refine wp_aload_n (pc' := 23) (q := 0) (i := 0) rfl rfl dX0_offer_22 rfl ?_
    refine wp_getI (pc' := 26) (k := 0) dX0_offer_23 vc0 (by decide) rfl lfX0_7 o_48 rfl ?_
    refine wp_icmp_ne (pc' := 29) (tgt := 55) h3 h4 dX0_offer_26 rfl rfl (fun hc => ?_) (fun hc => ?_)
    · have h := h.1 hc
      exact wp_dropP (leP_d (leP_d (leP_d (leP_d leP_n)))) h
    · have h := h.2 hc
      refine wp_iload_n (pc' := 30) (q := 3) (i := 3) rfl rfl dX0_offer_29 rfl ?_
      obtain ⟨h5, h⟩ := h
      refine wp_if_gt (pc' := 33) (tgt := 45) h5 dX0_offer_30 rfl rfl (fun hc => ?_) (fun hc => ?_)
      · have h := h.1 hc
        exact wp_dropP (leP_s (leP_s (leP_s (leP_d leP_n)))) h
      · have h := h.2 hc
        refine wp_iload_n (pc' := 34) (q := 3) (i := 3) rfl rfl dX0_offer_33 rfl ?_
        refine wp_if_ne (pc' := 37) (tgt := 55) h5 dX0_offer_34 rfl rfl (fun hc => ?_) (fun hc => ?_)
        · have h := h.1 hc
          exact wp_dropP (leP_d (leP_d (leP_d (leP_d leP_n)))) h
        · have h := h.2 hc
          refine wp_iload_n (pc' := 38) (q := 2) (i := 2) rfl rfl dX0_offer_37 rfl ?_
          refine wp_aload_n (pc' := 39) (q := 0) (i := 0) rfl rfl dX0_offer_38 rfl ?_
          refine wp_getI (pc' := 42) (k := 1) dX0_offer_39 vc0 (by decide) rfl lfX0_13 o_48 rfl ?_
          refine wp_icmp_le (pc' := 45) (tgt := 55) h2 h1 dX0_offer_42 rfl rfl (fun hc => ?_) (fun hc => ?_)
          · have h := h.1 hc
            exact wp_dropP (leP_d (leP_d (leP_d (leP_d leP_n)))) h
          · have h := h.2 hc
            exact wp_dropP (leP_s (leP_s (leP_s (leP_d leP_n)))) h

set_option maxRecDepth 4000 in
theorem gX0_offer_45 {Q : QT} {I : II} {R : RR} (hR : SR R) {a1 : Int} {a2 : Int}
    (h : (∀ I1 : II, I1 = up2 I 48 0 a1 →
      (∀ I2 : II, I2 = up2 I1 48 1 a2 →
      wp (kN 89) mX0_offer Q 55 [none, none, none, none] [] I2 R 89))) : wp (kN 89) mX0_offer Q 45 [vR 48, vI a1, vI a2, none] [] I R 89 := by
  refine wp_aload_n (pc' := 46) (q := 0) (i := 0) rfl rfl dX0_offer_45 rfl ?_
  refine wp_iload_n (pc' := 47) (q := 1) (i := 1) rfl rfl dX0_offer_46 rfl ?_
  obtain ⟨I1, eI1⟩ : ∃ z : II, z = up2 I 48 0 a1 := ⟨_, rfl⟩
  have h := h I1 eI1
  refine wp_putI (pc' := 50) (k := 0) (I' := I1) dX0_offer_47 vc0 (by decide) rfl rfl (tyX0_ok 0 (by decide)) lfX0_7 o_48 rfl eI1 ?_
  refine wp_aload_n (pc' := 51) (q := 0) (i := 0) rfl rfl dX0_offer_50 rfl ?_
  refine wp_iload_n (pc' := 52) (q := 2) (i := 2) rfl rfl dX0_offer_51 rfl ?_
  obtain ⟨I2, eI2⟩ : ∃ z : II, z = up2 I1 48 1 a2 := ⟨_, rfl⟩
  have h := h I2 eI2
  refine wp_putI (pc' := 55) (k := 1) (I' := I2) dX0_offer_52 vc0 (by decide) rfl rfl (tyX0_ok 1 (by decide)) lfX0_13 o_48 rfl eI2 ?_
  exact wp_dropP (leP_d (leP_d (leP_d (leP_s leP_n)))) h

set_option maxRecDepth 4000 in
theorem gX0_offer_55 {Q : QT} {I : II} {R : RR} (hR : SR R) 
    (h : Q none I R) : wp (kN 89) mX0_offer Q 55 [none, none, none, none] [] I R 89 := by
  exact wp_vreturn dX0_offer_55 rfl rfl h

theorem sX1_hold {Q : QT} {I : II} {R : RR} {N : Nat} {a0 : Nat} {a1 : Nat} {a2 : Nat} (hN : N < 1000) (h : wp (kN N) mX1_hold Q 0 [vR a0, vR a1, vR a2] [] I R N) : Spec mX1_hold [vR a0, vR a1, vR a2] I R N N Q := Spec_of_wp pyX1_hold rfl (Nat.le_of_ble_eq_true rfl) (Nat.le_refl _) hN h

set_option maxRecDepth 4000 in
theorem gX1_hold_0 {Q : QT} {I : II} {R : RR} {N : Nat} {a0 : Nat} {a1 : Nat} {a2 : Nat}
    (h : (isO N a1 6) ∧
      (isO N a0 1) ∧
      (isA N (R a1 2) 1 20) ∧
      (isA N (R a0 0) 1 20) ∧
      (0 ≤ (0 : Int) ∧ 0 ≤ (0 : Int) ∧ 0 ≤ (20 : Int) ∧ (0 : Int) + (20 : Int) ≤ 20 ∧ (0 : Int) + (20 : Int) ≤ 20) ∧
      (∀ I6 : II, I6 = cpy2 I (R a1 2) (R a0 0) 0 0 20 →
      (isO N (R a0 1) 4) ∧
      (∃ Q7 : QT, Spec mX4_copy [vR (R a0 1), vR a2] I6 R N N Q7 ∧ (∀ I7 R7, Q7 none I7 R7 →
      Q none I7 R7)))) : wp (kN N) mX1_hold Q 0 [vR a0, vR a1, vR a2] [] I R N := by
  refine wp_aload_n (pc' := 1) (q := 1) (i := 1) rfl rfl dX1_hold_0 rfl ?_
  obtain ⟨h1, h⟩ := h
  refine wp_getR (pc' := 4) (k := 2) dX1_hold_1 vc6 (by decide) rfl lfX1_22 h1 rfl ?_
  refine wp_iconst (pc' := 5) dX1_hold_4 rfl ?_
  refine wp_aload_n (pc' := 6) (q := 0) (i := 0) rfl rfl dX1_hold_5 rfl ?_
  obtain ⟨h2, h⟩ := h
  refine wp_getR (pc' := 9) (k := 0) dX1_hold_6 vc1 (by decide) rfl lfX1_9 h2 rfl ?_
  refine wp_iconst (pc' := 10) dX1_hold_9 rfl ?_
  refine wp_bipush (pc' := 12) (by decide) dX1_hold_10 rfl ?_
  obtain ⟨h3, h⟩ := h
  obtain ⟨h4, h⟩ := h
  obtain ⟨h5, h⟩ := h
  obtain ⟨I6, eI6⟩ : ∃ z : II, z = cpy2 I (R a1 2) (R a0 0) 0 0 20 := ⟨_, rfl⟩
  have h := h I6 eI6
  refine wp_copy (pc' := 15) (I' := I6) dX1_hold_12 lkX1_25 ac_nat ac_st iiSystem h3 h4 h5 ⟨Nat.le_of_ble_eq_true rfl, Nat.le_of_ble_eq_true rfl⟩ rfl eI6 ?_
  refine wp_aload_n (pc' := 16) (q := 0) (i := 0) rfl rfl dX1_hold_15 rfl ?_
  refine wp_getR (pc' := 19) (k := 1) dX1_hold_16 vc1 (by decide) rfl lfX1_18 h2 rfl ?_
  refine wp_aload_n (pc' := 20) (q := 2) (i := 2) rfl rfl dX1_hold_19 rfl ?_
  obtain ⟨h8, h⟩ := h
  obtain ⟨Q7, hs7, h⟩ := h
  refine wp_callV (pc' := 23) (as := [vR a2]) (rest := []) hs7 dX1_hold_20 rfl lkX1_31 okX4_copy inX4_copy seX4_copy h8 vc4 ⟨Nat.le_of_ble_eq_true rfl, Nat.le_of_ble_eq_true rfl⟩ (Nat.le_of_ble_eq_true rfl) (Nat.le_refl _) (Nat.le_refl _) okP_eq okP_eq rfl (rvV rfl (fun I7 R7 hq7 => ?_))
  have h := h I7 R7 hq7
  exact wp_vreturn dX1_hold_23 rfl rfl h

theorem sX1_giveBack {Q : QT} {I : II} {R : RR} {N : Nat} {a0 : Nat} {a1 : Nat} {a2 : Nat} (hN : N < 1000) (h : wp (kN N) mX1_giveBack Q 0 [vR a0, vR a1, vR a2] [] I R N) : Spec mX1_giveBack [vR a0, vR a1, vR a2] I R N N Q := Spec_of_wp pyX1_giveBack rfl (Nat.le_of_ble_eq_true rfl) (Nat.le_refl _) hN h

set_option maxRecDepth 4000 in
theorem gX1_giveBack_0 {Q : QT} {I : II} {R : RR} {N : Nat} {a0 : Nat} {a1 : Nat} {a2 : Nat}
    (h : (isO N a0 1) ∧
      (isO N a1 6) ∧
      (isA N (R a0 0) 1 20) ∧
      (isA N (R a1 2) 1 20) ∧
      (0 ≤ (0 : Int) ∧ 0 ≤ (0 : Int) ∧ 0 ≤ (20 : Int) ∧ (0 : Int) + (20 : Int) ≤ 20 ∧ (0 : Int) + (20 : Int) ≤ 20) ∧
      (∀ I6 : II, I6 = cpy2 I (R a0 0) (R a1 2) 0 0 20 →
      (isO N a2 4) ∧
      (∃ Q7 : QT, Spec mX4_copy [vR a2, vR (R a0 1)] I6 R N N Q7 ∧ (∀ I7 R7, Q7 none I7 R7 →
      Q none I7 R7)))) : wp (kN N) mX1_giveBack Q 0 [vR a0, vR a1, vR a2] [] I R N := by
  refine wp_aload_n (pc' := 1) (q := 0) (i := 0) rfl rfl dX1_giveBack_0 rfl ?_
  obtain ⟨h1, h⟩ := h
  refine wp_getR (pc' := 4) (k := 0) dX1_giveBack_1 vc1 (by decide) rfl lfX1_9 h1 rfl ?_
  refine wp_iconst (pc' := 5) dX1_giveBack_4 rfl ?_
  refine wp_aload_n (pc' := 6) (q := 1) (i := 1) rfl rfl dX1_giveBack_5 rfl ?_
  obtain ⟨h2, h⟩ := h
  refine wp_getR (pc' := 9) (k := 2) dX1_giveBack_6 vc6 (by decide) rfl lfX1_22 h2 rfl ?_
  refine wp_iconst (pc' := 10) dX1_giveBack_9 rfl ?_
  refine wp_bipush (pc' := 12) (by decide) dX1_giveBack_10 rfl ?_
  obtain ⟨h3, h⟩ := h
  obtain ⟨h4, h⟩ := h
  obtain ⟨h5, h⟩ := h
  obtain ⟨I6, eI6⟩ : ∃ z : II, z = cpy2 I (R a0 0) (R a1 2) 0 0 20 := ⟨_, rfl⟩
  have h := h I6 eI6
  refine wp_copy (pc' := 15) (I' := I6) dX1_giveBack_12 lkX1_25 ac_nat ac_st iiSystem h3 h4 h5 ⟨Nat.le_of_ble_eq_true rfl, Nat.le_of_ble_eq_true rfl⟩ rfl eI6 ?_
  refine wp_aload_n (pc' := 16) (q := 2) (i := 2) rfl rfl dX1_giveBack_15 rfl ?_
  refine wp_aload_n (pc' := 17) (q := 0) (i := 0) rfl rfl dX1_giveBack_16 rfl ?_
  refine wp_getR (pc' := 20) (k := 1) dX1_giveBack_17 vc1 (by decide) rfl lfX1_18 h1 rfl ?_
  obtain ⟨h8, h⟩ := h
  obtain ⟨Q7, hs7, h⟩ := h
  refine wp_callV (pc' := 23) (as := [vR (R a0 1)]) (rest := []) hs7 dX1_giveBack_20 rfl lkX1_31 okX4_copy inX4_copy seX4_copy h8 vc4 ⟨Nat.le_of_ble_eq_true rfl, Nat.le_of_ble_eq_true rfl⟩ (Nat.le_of_ble_eq_true rfl) (Nat.le_refl _) (Nat.le_refl _) okP_eq okP_eq rfl (rvV rfl (fun I7 R7 hq7 => ?_))
  have h := h I7 R7 hq7
  exact wp_vreturn dX1_giveBack_23 rfl rfl h

theorem sX2_add {Q : QT} {I : II} {R : RR} {N : Nat} {a0 : Nat} {a1 : Int} {a2 : Int} (hN : N < 1000) (h : wp (kN N) mX2_add Q 0 [vR a0, vI a1, vI a2, none] [] I R N) : Spec mX2_add [vR a0, vI a1, vI a2] I R N N Q := Spec_of_wp pyX2_add rfl (Nat.le_of_ble_eq_true rfl) (Nat.le_refl _) hN h

set_option maxRecDepth 4000 in
theorem gX2_add_0 {Q : QT} {I : II} {R : RR} {N : Nat} {a0 : Nat} {a1 : Int} {a2 : Int}
    (h : (isO N a0 2) ∧
      (InI (I a0 3)) ∧
      (((I a0 3) < (10 : Int) →
      wp (kN N) mX2_add Q 15 [vR a0, vI a1, vI a2, vI (I a0 3)] [] I R N) ∧ (¬ (I a0 3) < (10 : Int) →
      Q none I R))) : wp (kN N) mX2_add Q 0 [vR a0, vI a1, vI a2, none] [] I R N := by
  refine wp_aload_n (pc' := 1) (q := 0) (i := 0) rfl rfl dX2_add_0 rfl ?_
  obtain ⟨h1, h⟩ := h
  refine wp_getI (pc' := 4) (k := 3) dX2_add_1 vc2 (by decide) rfl lfX2_18 h1 rfl ?_
  refine wp_bipush (pc' := 6) (by decide) dX2_add_4 rfl ?_
  obtain ⟨h2, h⟩ := h
  refine wp_icmp_lt (pc' := 9) (tgt := 10) h2 ⟨by decide, by decide⟩ dX2_add_6 rfl rfl (fun hc => ?_) (fun hc => ?_)
  · have h := h.1 hc
    refine wp_aload_n (pc' := 11) (q := 0) (i := 0) rfl rfl dX2_add_10 rfl ?_
    refine wp_getI (pc' := 14) (k := 3) dX2_add_11 vc2 (by decide) rfl lfX2_18 h1 rfl ?_
    refine wp_istore_n (pc' := 15) (q := 3) (i := 3) (L' := [vR a0, vI a1, vI a2, vI (I a0 3)]) rfl (by decide) rfl dX2_add_14 rfl rfl ?_
    exact h
  · have h := h.2 hc
    exact wp_vreturn dX2_add_9 rfl rfl h

set_option maxRecDepth 4000 in
theorem gX2_add_15 {Q : QT} {I : II} {R : RR} {N : Nat} {a0 : Nat} {a1 : Int} {a2 : Int} {a3 : Int}
    (h : (InI a3) ∧
      ((a3 ≤ 0 →
      wp (kN N) mX2_add Q 87 [vR a0, vI a1, vI a2, vI a3] [] I R N) ∧ (¬ (a3 ≤ 0) →
      (isO N a0 2) ∧
      (InI (I a0 0)) ∧
      (((I a0 0) = 0 →
      (isA N (R a0 2) 1 10) ∧
      (0 ≤ (a3 - 1) ∧ (a3 - 1) < 10) ∧
      (InI (I (R a0 2) (a3 - 1).toNat)) ∧
      (InI a2) ∧
      ((a2 ≤ (I (R a0 2) (a3 - 1).toNat) →
      wp (kN N) mX2_add Q 87 [vR a0, vI a1, vI a2, vI a3] [] I R N) ∧ (¬ (a2 ≤ (I (R a0 2) (a3 - 1).toNat)) →
      wp (kN N) mX2_add Q 53 [vR a0, vI a1, vI a2, vI a3] [] I R N))) ∧ (¬ (I a0 0) = 0 →
      (isA N (R a0 2) 1 10) ∧
      (0 ≤ (a3 - 1) ∧ (a3 - 1) < 10) ∧
      (InI (I (R a0 2) (a3 - 1).toNat)) ∧
      (InI a2) ∧
      (((I (R a0 2) (a3 - 1).toNat) ≤ a2 →
      wp (kN N) mX2_add Q 87 [vR a0, vI a1, vI a2, vI a3] [] I R N) ∧ (¬ (I (R a0 2) (a3 - 1).toNat) ≤ a2 →
      wp (kN N) mX2_add Q 53 [vR a0, vI a1, vI a2, vI a3] [] I R N))))))) : wp (kN N) mX2_add Q 15 [vR a0, vI a1, vI a2, vI a3] [] I R N := by
  refine wp_iload_n (pc' := 16) (q := 3) (i := 3) rfl rfl dX2_add_15 rfl ?_
  obtain ⟨h1, h⟩ := h
  refine wp_if_le (pc' := 19) (tgt := 87) h1 dX2_add_16 rfl rfl (fun hc => ?_) (fun hc => ?_)
  · have h := h.1 hc
    exact h
  · have h := h.2 hc
    refine wp_aload_n (pc' := 20) (q := 0) (i := 0) rfl rfl dX2_add_19 rfl ?_
    obtain ⟨h2, h⟩ := h
    refine wp_getI (pc' := 23) (k := 0) dX2_add_20 vc2 (by decide) rfl lfX2_22 h2 rfl ?_
    obtain ⟨h3, h⟩ := h
    refine wp_if_eq (pc' := 26) (tgt := 41) h3 dX2_add_23 rfl rfl (fun hc => ?_) (fun hc => ?_)
    · have h := h.1 hc
      refine wp_aload_n (pc' := 42) (q := 0) (i := 0) rfl rfl dX2_add_41 rfl ?_
      refine wp_getR (pc' := 45) (k := 2) dX2_add_42 vc2 (by decide) rfl lfX2_15 h2 rfl ?_
      refine wp_iload_n (pc' := 46) (q := 3) (i := 3) rfl rfl dX2_add_45 rfl ?_
      refine wp_iconst (pc' := 47) dX2_add_46 rfl ?_
      refine wp_isub (pc' := 48) dX2_add_47 rfl ?_
      obtain ⟨h4, h⟩ := h
      obtain ⟨h5, h⟩ := h
      refine wp_iald (pc' := 49) (j := (a3 - 1).toNat) dX2_add_48 h4 h5 rfl rfl ?_
      refine wp_iload_n (pc' := 50) (q := 2) (i := 2) rfl rfl dX2_add_49 rfl ?_
      obtain ⟨h6, h⟩ := h
      obtain ⟨h7, h⟩ := h
      refine wp_icmp_ge (pc' := 53) (tgt := 87) h6 h7 dX2_add_50 rfl rfl (fun hc => ?_) (fun hc => ?_)
      · have h := h.1 hc
        exact h
      · have h := h.2 hc
        exact h
    · have h := h.2 hc
      refine wp_aload_n (pc' := 27) (q := 0) (i := 0) rfl rfl dX2_add_26 rfl ?_
      refine wp_getR (pc' := 30) (k := 2) dX2_add_27 vc2 (by decide) rfl lfX2_15 h2 rfl ?_
      refine wp_iload_n (pc' := 31) (q := 3) (i := 3) rfl rfl dX2_add_30 rfl ?_
      refine wp_iconst (pc' := 32) dX2_add_31 rfl ?_
      refine wp_isub (pc' := 33) dX2_add_32 rfl ?_
      obtain ⟨h8, h⟩ := h
      obtain ⟨h9, h⟩ := h
      refine wp_iald (pc' := 34) (j := (a3 - 1).toNat) dX2_add_33 h8 h9 rfl rfl ?_
      refine wp_iload_n (pc' := 35) (q := 2) (i := 2) rfl rfl dX2_add_34 rfl ?_
      obtain ⟨h10, h⟩ := h
      obtain ⟨h11, h⟩ := h
      refine wp_icmp_le (pc' := 38) (tgt := 87) h10 h11 dX2_add_35 rfl rfl (fun hc => ?_) (fun hc => ?_)
      · have h := h.1 hc
        exact h
      · have h := h.2 hc
        refine wp_goto (tgt := 53) dX2_add_38 rfl ?_
        exact h

set_option maxRecDepth 4000 in
theorem gX2_add_53 {Q : QT} {I : II} {R : RR} {N : Nat} {a0 : Nat} {a1 : Int} {a2 : Int} {a3 : Int}
    (h : (isO N a0 2) ∧
      (isA N (R a0 2) 1 10) ∧
      (0 ≤ (a3 - 1) ∧ (a3 - 1) < 10) ∧
      (0 ≤ a3 ∧ a3 < 10) ∧
      (∀ I5 : II, I5 = up2 I (R a0 2) (a3.toNat) (I (R a0 2) (a3 - 1).toNat) →
      (isA N (R a0 1) 1 10) ∧
      (∀ I7 : II, I7 = up2 I5 (R a0 1) (a3.toNat) (I5 (R a0 1) (a3 - 1).toNat) →
      wp (kN N) mX2_add Q 15 [vR a0, vI a1, vI a2, vI (a3 + (-1))] [] I7 R N))) : wp (kN N) mX2_add Q 53 [vR a0, vI a1, vI a2, vI a3] [] I R N := by
  refine wp_aload_n (pc' := 54) (q := 0) (i := 0) rfl rfl dX2_add_53 rfl ?_
  obtain ⟨h1, h⟩ := h
  refine wp_getR (pc' := 57) (k := 2) dX2_add_54 vc2 (by decide) rfl lfX2_15 h1 rfl ?_
  refine wp_iload_n (pc' := 58) (q := 3) (i := 3) rfl rfl dX2_add_57 rfl ?_
  refine wp_aload_n (pc' := 59) (q := 0) (i := 0) rfl rfl dX2_add_58 rfl ?_
  refine wp_getR (pc' := 62) (k := 2) dX2_add_59 vc2 (by decide) rfl lfX2_15 h1 rfl ?_
  refine wp_iload_n (pc' := 63) (q := 3) (i := 3) rfl rfl dX2_add_62 rfl ?_
  refine wp_iconst (pc' := 64) dX2_add_63 rfl ?_
  refine wp_isub (pc' := 65) dX2_add_64 rfl ?_
  obtain ⟨h2, h⟩ := h
  obtain ⟨h3, h⟩ := h
  refine wp_iald (pc' := 66) (j := (a3 - 1).toNat) dX2_add_65 h2 h3 rfl rfl ?_
  obtain ⟨h4, h⟩ := h
  obtain ⟨I5, eI5⟩ : ∃ z : II, z = up2 I (R a0 2) (a3.toNat) (I (R a0 2) (a3 - 1).toNat) := ⟨_, rfl⟩
  have h := h I5 eI5
  refine wp_iast (pc' := 67) (j := a3.toNat) (I' := I5) dX2_add_66 h2 h4 rfl rfl eI5 ?_
  refine wp_aload_n (pc' := 68) (q := 0) (i := 0) rfl rfl dX2_add_67 rfl ?_
  refine wp_getR (pc' := 71) (k := 1) dX2_add_68 vc2 (by decide) rfl lfX2_9 h1 rfl ?_
  refine wp_iload_n (pc' := 72) (q := 3) (i := 3) rfl rfl dX2_add_71 rfl ?_
  refine wp_aload_n (pc' := 73) (q := 0) (i := 0) rfl rfl dX2_add_72 rfl ?_
  refine wp_getR (pc' := 76) (k := 1) dX2_add_73 vc2 (by decide) rfl lfX2_9 h1 rfl ?_
  refine wp_iload_n (pc' := 77) (q := 3) (i := 3) rfl rfl dX2_add_76 rfl ?_
  refine wp_iconst (pc' := 78) dX2_add_77 rfl ?_
  refine wp_isub (pc' := 79) dX2_add_78 rfl ?_
  obtain ⟨h6, h⟩ := h
  refine wp_iald (pc' := 80) (j := (a3 - 1).toNat) dX2_add_79 h6 h3 rfl rfl ?_
  obtain ⟨I7, eI7⟩ : ∃ z : II, z = up2 I5 (R a0 1) (a3.toNat) (I5 (R a0 1) (a3 - 1).toNat) := ⟨_, rfl⟩
  have h := h I7 eI7
  refine wp_iast (pc' := 81) (j := a3.toNat) (I' := I7) dX2_add_80 h6 h4 rfl rfl eI7 ?_
  refine wp_iinc (pc' := 84) (i := 3) (L' := [vR a0, vI a1, vI a2, vI (a3 + (-1))]) rfl (by decide) rfl dX2_add_81 rfl rfl ?_
  refine wp_goto (tgt := 15) dX2_add_84 rfl ?_
  exact h

set_option maxRecDepth 4000 in
theorem gX2_add_87 {Q : QT} {I : II} {R : RR} {N : Nat} {a0 : Nat} {a1 : Int} {a2 : Int} {a3 : Int}
    (h : (isO N a0 2) ∧
      (isA N (R a0 2) 1 10) ∧
      (0 ≤ a3 ∧ a3 < 10) ∧
      (∀ I4 : II, I4 = up2 I (R a0 2) (a3.toNat) a2 →
      (isA N (R a0 1) 1 10) ∧
      (∀ I6 : II, I6 = up2 I4 (R a0 1) (a3.toNat) a1 →
      (∀ I7 : II, I7 = up2 I6 a0 3 ((I6 a0 3) + 1) →
      Q none I7 R)))) : wp (kN N) mX2_add Q 87 [vR a0, vI a1, vI a2, vI a3] [] I R N := by
  refine wp_aload_n (pc' := 88) (q := 0) (i := 0) rfl rfl dX2_add_87 rfl ?_
  obtain ⟨h1, h⟩ := h
  refine wp_getR (pc' := 91) (k := 2) dX2_add_88 vc2 (by decide) rfl lfX2_15 h1 rfl ?_
  refine wp_iload_n (pc' := 92) (q := 3) (i := 3) rfl rfl dX2_add_91 rfl ?_
  refine wp_iload_n (pc' := 93) (q := 2) (i := 2) rfl rfl dX2_add_92 rfl ?_
  obtain ⟨h2, h⟩ := h
  obtain ⟨h3, h⟩ := h
  obtain ⟨I4, eI4⟩ : ∃ z : II, z = up2 I (R a0 2) (a3.toNat) a2 := ⟨_, rfl⟩
  have h := h I4 eI4
  refine wp_iast (pc' := 94) (j := a3.toNat) (I' := I4) dX2_add_93 h2 h3 rfl rfl eI4 ?_
  refine wp_aload_n (pc' := 95) (q := 0) (i := 0) rfl rfl dX2_add_94 rfl ?_
  refine wp_getR (pc' := 98) (k := 1) dX2_add_95 vc2 (by decide) rfl lfX2_9 h1 rfl ?_
  refine wp_iload_n (pc' := 99) (q := 3) (i := 3) rfl rfl dX2_add_98 rfl ?_
  refine wp_iload_n (pc' := 100) (q := 1) (i := 1) rfl rfl dX2_add_99 rfl ?_
  obtain ⟨h5, h⟩ := h
  obtain ⟨I6, eI6⟩ : ∃ z : II, z = up2 I4 (R a0 1) (a3.toNat) a1 := ⟨_, rfl⟩
  have h := h I6 eI6
  refine wp_iast (pc' := 101) (j := a3.toNat) (I' := I6) dX2_add_100 h5 h3 rfl rfl eI6 ?_
  refine wp_aload_n (pc' := 102) (q := 0) (i := 0) rfl rfl dX2_add_101 rfl ?_
  refine wp_dupR (pc' := 103) dX2_add_102 rfl ?_
  refine wp_getI (pc' := 106) (k := 3) dX2_add_103 vc2 (by decide) rfl lfX2_18 h1 rfl ?_
  refine wp_iconst (pc' := 107) dX2_add_106 rfl ?_
  refine wp_iadd (pc' := 108) dX2_add_107 rfl ?_
  obtain ⟨I7, eI7⟩ : ∃ z : II, z = up2 I6 a0 3 ((I6 a0 3) + 1) := ⟨_, rfl⟩
  have h := h I7 eI7
  refine wp_putI (pc' := 111) (k := 3) (I' := I7) dX2_add_108 vc2 (by decide) rfl rfl (tyX2_ok 3 (by decide)) lfX2_18 h1 rfl eI7 ?_
  exact wp_vreturn dX2_add_111 rfl rfl h

theorem sX2_ahead {Q : QT} {I : II} {R : RR} {N : Nat} {a0 : Nat} {a1 : Int} (hN : N < 1000) (h : wp (kN N) mX2_ahead Q 0 [vR a0, vI a1, none, none] [] I R N) : Spec mX2_ahead [vR a0, vI a1] I R N N Q := Spec_of_wp pyX2_ahead rfl (Nat.le_of_ble_eq_true rfl) (Nat.le_refl _) hN h

set_option maxRecDepth 4000 in
theorem gX2_ahead_0 {Q : QT} {I : II} {R : RR} {N : Nat} {a0 : Nat} {a1 : Int}
    (h : wp (kN N) mX2_ahead Q 4 [vR a0, vI a1, vI 0, vI 0] [] I R N) : wp (kN N) mX2_ahead Q 0 [vR a0, vI a1, none, none] [] I R N := by
  refine wp_iconst (pc' := 1) dX2_ahead_0 rfl ?_
  refine wp_istore_n (pc' := 2) (q := 2) (i := 2) (L' := [vR a0, vI a1, vI 0, none]) rfl (by decide) rfl dX2_ahead_1 rfl rfl ?_
  refine wp_iconst (pc' := 3) dX2_ahead_2 rfl ?_
  refine wp_istore_n (pc' := 4) (q := 3) (i := 3) (L' := [vR a0, vI a1, vI 0, vI 0]) rfl (by decide) rfl dX2_ahead_3 rfl rfl ?_
  exact h

set_option maxRecDepth 4000 in
theorem gX2_ahead_4 {Q : QT} {I : II} {R : RR} {N : Nat} {a0 : Nat} {a1 : Int} {a2 : Int} {a3 : Int}
    (h : (isO N a0 2) ∧
      (InI a3) ∧
      (InI (I a0 3)) ∧
      (((I a0 3) ≤ a3 →
      Q (vI a2) I R) ∧ (¬ (I a0 3) ≤ a3 →
      (InI (I a0 0)) ∧
      (((I a0 0) = 0 →
      (isA N (R a0 2) 1 10) ∧
      (0 ≤ a3 ∧ a3 < 10) ∧
      (InI (I (R a0 2) a3.toNat)) ∧
      (InI a1) ∧
      (((I (R a0 2) a3.toNat) < a1 →
      wp (kN N) mX2_ahead Q 45 [vR a0, vI a1, vI a2, vI a3] [] I R N) ∧ (¬ (I (R a0 2) a3.toNat) < a1 →
      wp (kN N) mX2_ahead Q 42 [vR a0, vI a1, vI a2, vI a3] [] I R N))) ∧ (¬ (I a0 0) = 0 →
      (isA N (R a0 2) 1 10) ∧
      (0 ≤ a3 ∧ a3 < 10) ∧
      (InI (I (R a0 2) a3.toNat)) ∧
      (InI a1) ∧
      ((a1 < (I (R a0 2) a3.toNat) →
      wp (kN N) mX2_ahead Q 45 [vR a0, vI a1, vI a2, vI a3] [] I R N) ∧ (¬ (a1 < (I (R a0 2) a3.toNat)) →
      wp (kN N) mX2_ahead Q 42 [vR a0, vI a1, vI a2, vI a3] [] I R N))))))) : wp (kN N) mX2_ahead Q 4 [vR a0, vI a1, vI a2, vI a3] [] I R N := by
  refine wp_iload_n (pc' := 5) (q := 3) (i := 3) rfl rfl dX2_ahead_4 rfl ?_
  refine wp_aload_n (pc' := 6) (q := 0) (i := 0) rfl rfl dX2_ahead_5 rfl ?_
  obtain ⟨h1, h⟩ := h
  refine wp_getI (pc' := 9) (k := 3) dX2_ahead_6 vc2 (by decide) rfl lfX2_18 h1 rfl ?_
  obtain ⟨h2, h⟩ := h
  obtain ⟨h3, h⟩ := h
  refine wp_icmp_ge (pc' := 12) (tgt := 51) h2 h3 dX2_ahead_9 rfl rfl (fun hc => ?_) (fun hc => ?_)
  · have h := h.1 hc
    refine wp_iload_n (pc' := 52) (q := 2) (i := 2) rfl rfl dX2_ahead_51 rfl ?_
    exact wp_ireturn dX2_ahead_52 rfl rfl h
  · have h := h.2 hc
    refine wp_aload_n (pc' := 13) (q := 0) (i := 0) rfl rfl dX2_ahead_12 rfl ?_
    refine wp_getI (pc' := 16) (k := 0) dX2_ahead_13 vc2 (by decide) rfl lfX2_22 h1 rfl ?_
    obtain ⟨h4, h⟩ := h
    refine wp_if_eq (pc' := 19) (tgt := 32) h4 dX2_ahead_16 rfl rfl (fun hc => ?_) (fun hc => ?_)
    · have h := h.1 hc
      refine wp_aload_n (pc' := 33) (q := 0) (i := 0) rfl rfl dX2_ahead_32 rfl ?_
      refine wp_getR (pc' := 36) (k := 2) dX2_ahead_33 vc2 (by decide) rfl lfX2_15 h1 rfl ?_
      refine wp_iload_n (pc' := 37) (q := 3) (i := 3) rfl rfl dX2_ahead_36 rfl ?_
      obtain ⟨h5, h⟩ := h
      obtain ⟨h6, h⟩ := h
      refine wp_iald (pc' := 38) (j := a3.toNat) dX2_ahead_37 h5 h6 rfl rfl ?_
      refine wp_iload_n (pc' := 39) (q := 1) (i := 1) rfl rfl dX2_ahead_38 rfl ?_
      obtain ⟨h7, h⟩ := h
      obtain ⟨h8, h⟩ := h
      refine wp_icmp_lt (pc' := 42) (tgt := 45) h7 h8 dX2_ahead_39 rfl rfl (fun hc => ?_) (fun hc => ?_)
      · have h := h.1 hc
        exact h
      · have h := h.2 hc
        exact h
    · have h := h.2 hc
      refine wp_aload_n (pc' := 20) (q := 0) (i := 0) rfl rfl dX2_ahead_19 rfl ?_
      refine wp_getR (pc' := 23) (k := 2) dX2_ahead_20 vc2 (by decide) rfl lfX2_15 h1 rfl ?_
      refine wp_iload_n (pc' := 24) (q := 3) (i := 3) rfl rfl dX2_ahead_23 rfl ?_
      obtain ⟨h9, h⟩ := h
      obtain ⟨h10, h⟩ := h
      refine wp_iald (pc' := 25) (j := a3.toNat) dX2_ahead_24 h9 h10 rfl rfl ?_
      refine wp_iload_n (pc' := 26) (q := 1) (i := 1) rfl rfl dX2_ahead_25 rfl ?_
      obtain ⟨h11, h⟩ := h
      obtain ⟨h12, h⟩ := h
      refine wp_icmp_gt (pc' := 29) (tgt := 45) h11 h12 dX2_ahead_26 rfl rfl (fun hc => ?_) (fun hc => ?_)
      · have h := h.1 hc
        exact h
      · have h := h.2 hc
        refine wp_goto (tgt := 42) dX2_ahead_29 rfl ?_
        exact h

set_option maxRecDepth 4000 in
theorem gX2_ahead_42 {Q : QT} {I : II} {R : RR} {N : Nat} {a0 : Nat} {a1 : Int} {a2 : Int} {a3 : Int}
    (h : wp (kN N) mX2_ahead Q 45 [vR a0, vI a1, vI (a2 + 1), vI a3] [] I R N) : wp (kN N) mX2_ahead Q 42 [vR a0, vI a1, vI a2, vI a3] [] I R N := by
  refine wp_iinc (pc' := 45) (i := 2) (L' := [vR a0, vI a1, vI (a2 + 1), vI a3]) rfl (by decide) rfl dX2_ahead_42 rfl rfl ?_
  exact h

set_option maxRecDepth 4000 in
theorem gX2_ahead_45 {Q : QT} {I : II} {R : RR} {N : Nat} {a0 : Nat} {a1 : Int} {a2 : Int} {a3 : Int}
    (h : wp (kN N) mX2_ahead Q 4 [vR a0, vI a1, vI a2, vI (a3 + 1)] [] I R N) : wp (kN N) mX2_ahead Q 45 [vR a0, vI a1, vI a2, vI a3] [] I R N := by
  refine wp_iinc (pc' := 48) (i := 3) (L' := [vR a0, vI a1, vI a2, vI (a3 + 1)]) rfl (by decide) rfl dX2_ahead_45 rfl rfl ?_
  refine wp_goto (tgt := 4) dX2_ahead_48 rfl ?_
  exact h

theorem sX2_sum {Q : QT} {I : II} {R : RR} {N : Nat} {a0 : Nat} {a1 : Int} {a2 : Int} (hN : N < 1000) (h : wp (kN N) mX2_sum Q 0 [vR a0, vI a1, vI a2, none, none] [] I R N) : Spec mX2_sum [vR a0, vI a1, vI a2] I R N N Q := Spec_of_wp pyX2_sum rfl (Nat.le_of_ble_eq_true rfl) (Nat.le_refl _) hN h

set_option maxRecDepth 4000 in
theorem gX2_sum_0 {Q : QT} {I : II} {R : RR} {N : Nat} {a0 : Nat} {a1 : Int} {a2 : Int}
    (h : (InI a1) ∧
      wp (kN N) mX2_sum Q 9 [vR a0, none, vI a2, vI 0, vI (max a1 0)] [] I R N) : wp (kN N) mX2_sum Q 0 [vR a0, vI a1, vI a2, none, none] [] I R N := by
  refine wp_iconst (pc' := 1) dX2_sum_0 rfl ?_
  refine wp_istore_n (pc' := 2) (q := 3) (i := 3) (L' := [vR a0, vI a1, vI a2, vI 0, none]) rfl (by decide) rfl dX2_sum_1 rfl rfl ?_
  refine wp_iload_n (pc' := 3) (q := 1) (i := 1) rfl rfl dX2_sum_2 rfl ?_
  refine wp_iconst (pc' := 4) dX2_sum_3 rfl ?_
  obtain ⟨h1, h⟩ := h
  refine wp_mmax (pc' := 7) h1 ⟨by decide, by decide⟩ dX2_sum_4 lkX2_26 ms_max iiMath mc_max ⟨Nat.le_of_ble_eq_true rfl, Nat.le_of_ble_eq_true rfl⟩ (Nat.le_refl _) rfl ?_
  refine wp_istore (pc' := 9) (i := 4) (L' := [vR a0, vI a1, vI a2, vI 0, vI (max a1 0)]) (by decide) rfl dX2_sum_7 rfl rfl ?_
  exact wp_dropP (leP_s (leP_d (leP_s (leP_s (leP_s leP_n))))) h

set_option maxRecDepth 4000 in
theorem gX2_sum_9 {Q : QT} {I : II} {R : RR} {N : Nat} {a0 : Nat} {a2 : Int} {a3 : Int} {a4 : Int}
    (h : (InI a4) ∧
      (InI a2) ∧
      ((a2 ≤ a4 →
      wp (kN N) mX2_sum Q 40 [none, none, none, vI a3, none] [] I R N) ∧ (¬ (a2 ≤ a4) →
      (isO N a0 2) ∧
      (InI (I a0 3)) ∧
      (((I a0 3) ≤ a4 →
      wp (kN N) mX2_sum Q 40 [none, none, none, vI a3, none] [] I R N) ∧ (¬ (I a0 3) ≤ a4 →
      (isA N (R a0 2) 1 10) ∧
      (0 ≤ a4 ∧ a4 < 10) ∧
      wp (kN N) mX2_sum Q 9 [vR a0, none, vI a2, vI (a3 + (I (R a0 2) a4.toNat)), vI (a4 + 1)] [] I R N))))) : wp (kN N) mX2_sum Q 9 [vR a0, none, vI a2, vI a3, vI a4] [] I R N := by
  refine wp_iload (pc' := 11) (i := 4) rfl dX2_sum_9 rfl ?_
  refine wp_iload_n (pc' := 12) (q := 2) (i := 2) rfl rfl dX2_sum_11 rfl ?_
  obtain ⟨h1, h⟩ := h
  obtain ⟨h2, h⟩ := h
  refine wp_icmp_ge (pc' := 15) (tgt := 40) h1 h2 dX2_sum_12 rfl rfl (fun hc => ?_) (fun hc => ?_)
  · have h := h.1 hc
    exact wp_dropP (leP_d (leP_s (leP_d (leP_s (leP_d leP_n))))) h
  · have h := h.2 hc
    refine wp_iload (pc' := 17) (i := 4) rfl dX2_sum_15 rfl ?_
    refine wp_aload_n (pc' := 18) (q := 0) (i := 0) rfl rfl dX2_sum_17 rfl ?_
    obtain ⟨h3, h⟩ := h
    refine wp_getI (pc' := 21) (k := 3) dX2_sum_18 vc2 (by decide) rfl lfX2_18 h3 rfl ?_
    obtain ⟨h4, h⟩ := h
    refine wp_icmp_ge (pc' := 24) (tgt := 40) h1 h4 dX2_sum_21 rfl rfl (fun hc => ?_) (fun hc => ?_)
    · have h := h.1 hc
      exact wp_dropP (leP_d (leP_s (leP_d (leP_s (leP_d leP_n))))) h
    · have h := h.2 hc
      refine wp_iload_n (pc' := 25) (q := 3) (i := 3) rfl rfl dX2_sum_24 rfl ?_
      refine wp_aload_n (pc' := 26) (q := 0) (i := 0) rfl rfl dX2_sum_25 rfl ?_
      refine wp_getR (pc' := 29) (k := 2) dX2_sum_26 vc2 (by decide) rfl lfX2_15 h3 rfl ?_
      refine wp_iload (pc' := 31) (i := 4) rfl dX2_sum_29 rfl ?_
      obtain ⟨h5, h⟩ := h
      obtain ⟨h6, h⟩ := h
      refine wp_iald (pc' := 32) (j := a4.toNat) dX2_sum_31 h5 h6 rfl rfl ?_
      refine wp_iadd (pc' := 33) dX2_sum_32 rfl ?_
      refine wp_istore_n (pc' := 34) (q := 3) (i := 3) (L' := [vR a0, none, vI a2, vI (a3 + (I (R a0 2) a4.toNat)), vI a4]) rfl (by decide) rfl dX2_sum_33 rfl rfl ?_
      refine wp_iinc (pc' := 37) (i := 4) (L' := [vR a0, none, vI a2, vI (a3 + (I (R a0 2) a4.toNat)), vI (a4 + 1)]) rfl (by decide) rfl dX2_sum_34 rfl rfl ?_
      refine wp_goto (tgt := 9) dX2_sum_37 rfl ?_
      exact h

set_option maxRecDepth 4000 in
theorem gX2_sum_40 {Q : QT} {I : II} {R : RR} {N : Nat} {a3 : Int}
    (h : Q (vI a3) I R) : wp (kN N) mX2_sum Q 40 [none, none, none, vI a3, none] [] I R N := by
  refine wp_iload_n (pc' := 41) (q := 3) (i := 3) rfl rfl dX2_sum_40 rfl ?_
  exact wp_ireturn dX2_sum_41 rfl rfl h

theorem sX2_holds {Q : QT} {I : II} {R : RR} {N : Nat} {a0 : Nat} {a1 : Int} {a2 : Int} (hN : N < 1000) (h : wp (kN N) mX2_holds Q 0 [vR a0, vI a1, vI a2, none] [] I R N) : Spec mX2_holds [vR a0, vI a1, vI a2] I R N N Q := Spec_of_wp pyX2_holds rfl (Nat.le_of_ble_eq_true rfl) (Nat.le_refl _) hN h

set_option maxRecDepth 4000 in
theorem gX2_holds_0 {Q : QT} {I : II} {R : RR} {N : Nat} {a0 : Nat} {a1 : Int} {a2 : Int}
    (h : wp (kN N) mX2_holds Q 2 [vR a0, vI a1, vI a2, vI 0] [] I R N) : wp (kN N) mX2_holds Q 0 [vR a0, vI a1, vI a2, none] [] I R N := by
  refine wp_iconst (pc' := 1) dX2_holds_0 rfl ?_
  refine wp_istore_n (pc' := 2) (q := 3) (i := 3) (L' := [vR a0, vI a1, vI a2, vI 0]) rfl (by decide) rfl dX2_holds_1 rfl rfl ?_
  exact h

set_option maxRecDepth 4000 in
theorem gX2_holds_2 {Q : QT} {I : II} {R : RR} {N : Nat} {a0 : Nat} {a1 : Int} {a2 : Int} {a3 : Int}
    (h : (InI a3) ∧
      (InI a2) ∧
      ((a2 ≤ a3 →
      wp (kN N) mX2_holds Q 33 [none, none, none, none] [] I R N) ∧ (¬ (a2 ≤ a3) →
      (isO N a0 2) ∧
      (InI (I a0 3)) ∧
      (((I a0 3) ≤ a3 →
      wp (kN N) mX2_holds Q 33 [none, none, none, none] [] I R N) ∧ (¬ (I a0 3) ≤ a3 →
      (isA N (R a0 1) 1 10) ∧
      (0 ≤ a3 ∧ a3 < 10) ∧
      (InI (I (R a0 1) a3.toNat)) ∧
      (InI a1) ∧
      ((¬ (I (R a0 1) a3.toNat) = a1 →
      wp (kN N) mX2_holds Q 2 [vR a0, vI a1, vI a2, vI (a3 + 1)] [] I R N) ∧ ((I (R a0 1) a3.toNat) = a1 →
      Q (vI 1) I R))))))) : wp (kN N) mX2_holds Q 2 [vR a0, vI a1, vI a2, vI a3] [] I R N := by
  refine wp_iload_n (pc' := 3) (q := 3) (i := 3) rfl rfl dX2_holds_2 rfl ?_
  refine wp_iload_n (pc' := 4) (q := 2) (i := 2) rfl rfl dX2_holds_3 rfl ?_
  obtain ⟨h1, h⟩ := h
  obtain ⟨h2, h⟩ := h
  refine wp_icmp_ge (pc' := 7) (tgt := 33) h1 h2 dX2_holds_4 rfl rfl (fun hc => ?_) (fun hc => ?_)
  · have h := h.1 hc
    exact wp_dropP (leP_d (leP_d (leP_d (leP_d leP_n)))) h
  · have h := h.2 hc
    refine wp_iload_n (pc' := 8) (q := 3) (i := 3) rfl rfl dX2_holds_7 rfl ?_
    refine wp_aload_n (pc' := 9) (q := 0) (i := 0) rfl rfl dX2_holds_8 rfl ?_
    obtain ⟨h3, h⟩ := h
    refine wp_getI (pc' := 12) (k := 3) dX2_holds_9 vc2 (by decide) rfl lfX2_18 h3 rfl ?_
    obtain ⟨h4, h⟩ := h
    refine wp_icmp_ge (pc' := 15) (tgt := 33) h1 h4 dX2_holds_12 rfl rfl (fun hc => ?_) (fun hc => ?_)
    · have h := h.1 hc
      exact wp_dropP (leP_d (leP_d (leP_d (leP_d leP_n)))) h
    · have h := h.2 hc
      refine wp_aload_n (pc' := 16) (q := 0) (i := 0) rfl rfl dX2_holds_15 rfl ?_
      refine wp_getR (pc' := 19) (k := 1) dX2_holds_16 vc2 (by decide) rfl lfX2_9 h3 rfl ?_
      refine wp_iload_n (pc' := 20) (q := 3) (i := 3) rfl rfl dX2_holds_19 rfl ?_
      obtain ⟨h5, h⟩ := h
      obtain ⟨h6, h⟩ := h
      refine wp_iald (pc' := 21) (j := a3.toNat) dX2_holds_20 h5 h6 rfl rfl ?_
      refine wp_iload_n (pc' := 22) (q := 1) (i := 1) rfl rfl dX2_holds_21 rfl ?_
      obtain ⟨h7, h⟩ := h
      obtain ⟨h8, h⟩ := h
      refine wp_icmp_ne (pc' := 25) (tgt := 27) h7 h8 dX2_holds_22 rfl rfl (fun hc => ?_) (fun hc => ?_)
      · have h := h.1 hc
        refine wp_iinc (pc' := 30) (i := 3) (L' := [vR a0, vI a1, vI a2, vI (a3 + 1)]) rfl (by decide) rfl dX2_holds_27 rfl rfl ?_
        refine wp_goto (tgt := 2) dX2_holds_30 rfl ?_
        exact h
      · have h := h.2 hc
        refine wp_iconst (pc' := 26) dX2_holds_25 rfl ?_
        exact wp_zreturn dX2_holds_26 rfl rfl (Or.inr rfl) h

set_option maxRecDepth 4000 in
theorem gX2_holds_33 {Q : QT} {I : II} {R : RR} {N : Nat} 
    (h : Q (vI 0) I R) : wp (kN N) mX2_holds Q 33 [none, none, none, none] [] I R N := by
  refine wp_iconst (pc' := 34) dX2_holds_33 rfl ?_
  exact wp_zreturn dX2_holds_34 rfl rfl (Or.inl rfl) h

theorem sX3_empty {Q : QT} {I : II} {R : RR} {N : Nat} {a0 : Nat} (hN : N < 1000) (h : wp (kN N) mX3_empty Q 0 [vR a0] [] I R N) : Spec mX3_empty [vR a0] I R N N Q := Spec_of_wp pyX3_empty rfl (Nat.le_of_ble_eq_true rfl) (Nat.le_refl _) hN h

set_option maxRecDepth 4000 in
theorem gX3_empty_0 {Q : QT} {I : II} {R : RR} {N : Nat} {a0 : Nat}
    (h : (isO N a0 3) ∧
      (isO N (R a0 0) 2) ∧
      (∀ I3 : II, I3 = up2 I (R a0 0) 3 0 →
      (isO N (R a0 1) 2) ∧
      (∀ I5 : II, I5 = up2 I3 (R a0 1) 3 0 →
      Q none I5 R))) : wp (kN N) mX3_empty Q 0 [vR a0] [] I R N := by
  refine wp_aload_n (pc' := 1) (q := 0) (i := 0) rfl rfl dX3_empty_0 rfl ?_
  obtain ⟨h1, h⟩ := h
  refine wp_getR (pc' := 4) (k := 0) dX3_empty_1 vc3 (by decide) rfl lfX3_14 h1 rfl ?_
  refine wp_iconst (pc' := 5) dX3_empty_4 rfl ?_
  obtain ⟨h2, h⟩ := h
  obtain ⟨I3, eI3⟩ : ∃ z : II, z = up2 I (R a0 0) 3 0 := ⟨_, rfl⟩
  have h := h I3 eI3
  refine wp_putI (pc' := 8) (k := 3) (I' := I3) dX3_empty_5 vc2 (by decide) rfl rfl (tyX2_ok 3 (by decide)) lfX3_23 h2 rfl eI3 ?_
  refine wp_aload_n (pc' := 9) (q := 0) (i := 0) rfl rfl dX3_empty_8 rfl ?_
  refine wp_getR (pc' := 12) (k := 1) dX3_empty_9 vc3 (by decide) rfl lfX3_20 h1 rfl ?_
  refine wp_iconst (pc' := 13) dX3_empty_12 rfl ?_
  obtain ⟨h4, h⟩ := h
  obtain ⟨I5, eI5⟩ : ∃ z : II, z = up2 I3 (R a0 1) 3 0 := ⟨_, rfl⟩
  have h := h I5 eI5
  refine wp_putI (pc' := 16) (k := 3) (I' := I5) dX3_empty_13 vc2 (by decide) rfl rfl (tyX2_ok 3 (by decide)) lfX3_23 h4 rfl eI5 ?_
  exact wp_vreturn dX3_empty_16 rfl rfl h

theorem sX3_put {Q : QT} {I : II} {R : RR} {N : Nat} {a0 : Nat} {a1 : Nat} {a2 : Int} {a3 : Int} (hN : N < 1000) (h : wp (kN N) mX3_put Q 0 [vR a0, vR a1, vI a2, vI a3] [] I R N) : Spec mX3_put [vR a0, vR a1, vI a2, vI a3] I R N N Q := Spec_of_wp pyX3_put rfl (Nat.le_of_ble_eq_true rfl) (Nat.le_refl _) hN h

set_option maxRecDepth 4000 in
theorem gX3_put_0 {Q : QT} {I : II} {R : RR} {N : Nat} {a0 : Nat} {a1 : Nat} {a2 : Int} {a3 : Int}
    (h : (isO N a1 6) ∧
      (isA N (R a1 0) 2 20) ∧
      (0 ≤ a2 ∧ a2 < 20) ∧
      (InI (I (R a1 0) a2.toNat)) ∧
      (((I (R a1 0) a2.toNat) = 0 →
      (isO N a0 3) ∧
      (isO N (R a0 0) 2) ∧
      (∃ Q6 : QT, Spec mX2_add [vR (R a0 0), vI a2, vI a3] I R N N Q6 ∧ (∀ I6 R6, Q6 none I6 R6 →
      wp (kN N) mX3_put Q 30 [none, none, none, none] [] I6 R6 N))) ∧ (¬ (I (R a1 0) a2.toNat) = 0 →
      (isO N a0 3) ∧
      (isO N (R a0 1) 2) ∧
      (∃ Q9 : QT, Spec mX2_add [vR (R a0 1), vI a2, vI a3] I R N N Q9 ∧ (∀ I9 R9, Q9 none I9 R9 →
      wp (kN N) mX3_put Q 30 [none, none, none, none] [] I9 R9 N))))) : wp (kN N) mX3_put Q 0 [vR a0, vR a1, vI a2, vI a3] [] I R N := by
  refine wp_aload_n (pc' := 1) (q := 1) (i := 1) rfl rfl dX3_put_0 rfl ?_
  obtain ⟨h1, h⟩ := h
  refine wp_getR (pc' := 4) (k := 0) dX3_put_1 vc6 (by decide) rfl lfX3_27 h1 rfl ?_
  refine wp_iload_n (pc' := 5) (q := 2) (i := 2) rfl rfl dX3_put_4 rfl ?_
  obtain ⟨h2, h⟩ := h
  obtain ⟨h3, h⟩ := h
  refine wp_zald (pc' := 6) (j := a2.toNat) dX3_put_5 h2 h3 rfl rfl ?_
  obtain ⟨h4, h⟩ := h
  refine wp_if_eq (pc' := 9) (tgt := 21) h4 dX3_put_6 rfl rfl (fun hc => ?_) (fun hc => ?_)
  · have h := h.1 hc
    refine wp_aload_n (pc' := 22) (q := 0) (i := 0) rfl rfl dX3_put_21 rfl ?_
    obtain ⟨h5, h⟩ := h
    refine wp_getR (pc' := 25) (k := 0) dX3_put_22 vc3 (by decide) rfl lfX3_14 h5 rfl ?_
    refine wp_iload_n (pc' := 26) (q := 2) (i := 2) rfl rfl dX3_put_25 rfl ?_
    refine wp_iload_n (pc' := 27) (q := 3) (i := 3) rfl rfl dX3_put_26 rfl ?_
    obtain ⟨h7, h⟩ := h
    obtain ⟨Q6, hs6, h⟩ := h
    refine wp_callV (pc' := 30) (as := [vI a2, vI a3]) (rest := []) hs6 dX3_put_27 rfl lkX3_33 okX2_add inX2_add seX2_add h7 vc2 ⟨Nat.le_of_ble_eq_true rfl, Nat.le_of_ble_eq_true rfl⟩ (Nat.le_of_ble_eq_true rfl) (Nat.le_refl _) (Nat.le_refl _) okP_eq okP_eq rfl (rvV rfl (fun I6 R6 hq6 => ?_))
    have h := h I6 R6 hq6
    exact wp_dropP (leP_d (leP_d (leP_d (leP_d leP_n)))) h
  · have h := h.2 hc
    refine wp_aload_n (pc' := 10) (q := 0) (i := 0) rfl rfl dX3_put_9 rfl ?_
    obtain ⟨h8, h⟩ := h
    refine wp_getR (pc' := 13) (k := 1) dX3_put_10 vc3 (by decide) rfl lfX3_20 h8 rfl ?_
    refine wp_iload_n (pc' := 14) (q := 2) (i := 2) rfl rfl dX3_put_13 rfl ?_
    refine wp_iload_n (pc' := 15) (q := 3) (i := 3) rfl rfl dX3_put_14 rfl ?_
    obtain ⟨h10, h⟩ := h
    obtain ⟨Q9, hs9, h⟩ := h
    refine wp_callV (pc' := 18) (as := [vI a2, vI a3]) (rest := []) hs9 dX3_put_15 rfl lkX3_33 okX2_add inX2_add seX2_add h10 vc2 ⟨Nat.le_of_ble_eq_true rfl, Nat.le_of_ble_eq_true rfl⟩ (Nat.le_of_ble_eq_true rfl) (Nat.le_refl _) (Nat.le_refl _) okP_eq okP_eq rfl (rvV rfl (fun I9 R9 hq9 => ?_))
    have h := h I9 R9 hq9
    refine wp_goto (tgt := 30) dX3_put_18 rfl ?_
    exact wp_dropP (leP_d (leP_d (leP_d (leP_d leP_n)))) h

set_option maxRecDepth 4000 in
theorem gX3_put_30 {Q : QT} {I : II} {R : RR} {N : Nat} 
    (h : Q none I R) : wp (kN N) mX3_put Q 30 [none, none, none, none] [] I R N := by
  exact wp_vreturn dX3_put_30 rfl rfl h

theorem sX3_meet {Q : QT} {I : II} {R : RR} {N : Nat} {a0 : Nat} {a1 : Nat} {a2 : Int} (hN : N < 1000) (h : wp (kN N) mX3_meet Q 0 [vR a0, vR a1, vI a2, none] [] I R N) : Spec mX3_meet [vR a0, vR a1, vI a2] I R N N Q := Spec_of_wp pyX3_meet rfl (Nat.le_of_ble_eq_true rfl) (Nat.le_refl _) hN h

set_option maxRecDepth 4000 in
theorem gX3_meet_0 {Q : QT} {I : II} {R : RR} {N : Nat} {a0 : Nat} {a1 : Nat} {a2 : Int}
    (h : (isO N a0 3) ∧
      (∃ Q1 : QT, Spec mX3_empty [vR a0] I R N N Q1 ∧ (∀ I1 R1, Q1 none I1 R1 →
      wp (kN N) mX3_meet Q 6 [vR a0, vR a1, vI a2, vI 0] [] I1 R1 N))) : wp (kN N) mX3_meet Q 0 [vR a0, vR a1, vI a2, none] [] I R N := by
  refine wp_aload_n (pc' := 1) (q := 0) (i := 0) rfl rfl dX3_meet_0 rfl ?_
  obtain ⟨h2, h⟩ := h
  obtain ⟨Q1, hs1, h⟩ := h
  refine wp_callV (pc' := 4) (as := []) (rest := []) hs1 dX3_meet_1 rfl lkX3_37 okX3_empty inX3_empty seX3_empty h2 vc3 ⟨Nat.le_of_ble_eq_true rfl, Nat.le_of_ble_eq_true rfl⟩ (Nat.le_of_ble_eq_true rfl) (Nat.le_refl _) (Nat.le_refl _) okP_eq okP_eq rfl (rvV rfl (fun I1 R1 hq1 => ?_))
  have h := h I1 R1 hq1
  refine wp_iconst (pc' := 5) dX3_meet_4 rfl ?_
  refine wp_istore_n (pc' := 6) (q := 3) (i := 3) (L' := [vR a0, vR a1, vI a2, vI 0]) rfl (by decide) rfl dX3_meet_5 rfl rfl ?_
  exact h

set_option maxRecDepth 4000 in
theorem gX3_meet_6 {Q : QT} {I : II} {R : RR} {N : Nat} {a0 : Nat} {a1 : Nat} {a2 : Int} {a3 : Int}
    (h : (isO N a1 6) ∧
      (InI a3) ∧
      (InI (I a1 5)) ∧
      (((I a1 5) ≤ a3 →
      (isO N a0 3) ∧
      (∃ Q4 : QT, Spec mX3_cross [vR a0, vI a2] I R N N Q4 ∧ (∀ I4 R4, Q4 none I4 R4 →
      Q none I4 R4))) ∧ (¬ (I a1 5) ≤ a3 →
      (isA N (R a1 1) 1 20) ∧
      (0 ≤ a3 ∧ a3 < 20) ∧
      (isO N a0 3) ∧
      (∃ Q8 : QT, Spec mX3_put [vR a0, vR a1, vI a3, vI (I (R a1 1) a3.toNat)] I R N N Q8 ∧ (∀ I8 R8, Q8 none I8 R8 →
      wp (kN N) mX3_meet Q 6 [vR a0, vR a1, vI a2, vI (a3 + 1)] [] I8 R8 N))))) : wp (kN N) mX3_meet Q 6 [vR a0, vR a1, vI a2, vI a3] [] I R N := by
  refine wp_iload_n (pc' := 7) (q := 3) (i := 3) rfl rfl dX3_meet_6 rfl ?_
  refine wp_aload_n (pc' := 8) (q := 1) (i := 1) rfl rfl dX3_meet_7 rfl ?_
  obtain ⟨h1, h⟩ := h
  refine wp_getI (pc' := 11) (k := 5) dX3_meet_8 vc6 (by decide) rfl lfX3_40 h1 rfl ?_
  obtain ⟨h2, h⟩ := h
  obtain ⟨h3, h⟩ := h
  refine wp_icmp_ge (pc' := 14) (tgt := 32) h2 h3 dX3_meet_11 rfl rfl (fun hc => ?_) (fun hc => ?_)
  · have h := h.1 hc
    refine wp_aload_n (pc' := 33) (q := 0) (i := 0) rfl rfl dX3_meet_32 rfl ?_
    refine wp_iload_n (pc' := 34) (q := 2) (i := 2) rfl rfl dX3_meet_33 rfl ?_
    obtain ⟨h5, h⟩ := h
    obtain ⟨Q4, hs4, h⟩ := h
    refine wp_callV (pc' := 37) (as := [vI a2]) (rest := []) hs4 dX3_meet_34 rfl lkX3_51 okX3_cross inX3_cross seX3_cross h5 vc3 ⟨Nat.le_of_ble_eq_true rfl, Nat.le_of_ble_eq_true rfl⟩ (Nat.le_of_ble_eq_true rfl) (Nat.le_refl _) (Nat.le_refl _) okP_eq okP_eq rfl (rvV rfl (fun I4 R4 hq4 => ?_))
    have h := h I4 R4 hq4
    exact wp_vreturn dX3_meet_37 rfl rfl h
  · have h := h.2 hc
    refine wp_aload_n (pc' := 15) (q := 0) (i := 0) rfl rfl dX3_meet_14 rfl ?_
    refine wp_aload_n (pc' := 16) (q := 1) (i := 1) rfl rfl dX3_meet_15 rfl ?_
    refine wp_iload_n (pc' := 17) (q := 3) (i := 3) rfl rfl dX3_meet_16 rfl ?_
    refine wp_aload_n (pc' := 18) (q := 1) (i := 1) rfl rfl dX3_meet_17 rfl ?_
    refine wp_getR (pc' := 21) (k := 1) dX3_meet_18 vc6 (by decide) rfl lfX3_43 h1 rfl ?_
    refine wp_iload_n (pc' := 22) (q := 3) (i := 3) rfl rfl dX3_meet_21 rfl ?_
    obtain ⟨h6, h⟩ := h
    obtain ⟨h7, h⟩ := h
    refine wp_iald (pc' := 23) (j := a3.toNat) dX3_meet_22 h6 h7 rfl rfl ?_
    obtain ⟨h9, h⟩ := h
    obtain ⟨Q8, hs8, h⟩ := h
    refine wp_callV (pc' := 26) (as := [vR a1, vI a3, vI (I (R a1 1) a3.toNat)]) (rest := []) hs8 dX3_meet_23 rfl lkX3_47 okX3_put inX3_put seX3_put h9 vc3 ⟨Nat.le_of_ble_eq_true rfl, Nat.le_of_ble_eq_true rfl⟩ (Nat.le_of_ble_eq_true rfl) (Nat.le_refl _) (Nat.le_refl _) okP_eq okP_eq rfl (rvV rfl (fun I8 R8 hq8 => ?_))
    have h := h I8 R8 hq8
    refine wp_iinc (pc' := 29) (i := 3) (L' := [vR a0, vR a1, vI a2, vI (a3 + 1)]) rfl (by decide) rfl dX3_meet_26 rfl rfl ?_
    refine wp_goto (tgt := 6) dX3_meet_29 rfl ?_
    exact h

theorem sX3_cross {Q : QT} {I : II} {R : RR} {N : Nat} {a0 : Nat} {a1 : Int} (hN : N < 1000) (h : wp (kN N) mX3_cross Q 0 [vR a0, vI a1, none] [] I R N) : Spec mX3_cross [vR a0, vI a1] I R N N Q := Spec_of_wp pyX3_cross rfl (Nat.le_of_ble_eq_true rfl) (Nat.le_refl _) hN h

set_option maxRecDepth 4000 in
theorem gX3_cross_0 {Q : QT} {I : II} {R : RR} {N : Nat} {a0 : Nat} {a1 : Int}
    (h : (isO N a0 3) ∧
      (isO N (R a0 0) 2) ∧
      (isO N (R a0 1) 2) ∧
      (InI (I (R a0 0) 3)) ∧
      (InI (I (R a0 1) 3)) ∧
      (∀ I6 : II, I6 = up2 I a0 2 0 →
      wp (kN N) mX3_cross Q 23 [vR a0, vI a1, vI (min (I (R a0 0) 3) (I (R a0 1) 3))] [] I6 R N)) : wp (kN N) mX3_cross Q 0 [vR a0, vI a1, none] [] I R N := by
  refine wp_aload_n (pc' := 1) (q := 0) (i := 0) rfl rfl dX3_cross_0 rfl ?_
  obtain ⟨h1, h⟩ := h
  refine wp_getR (pc' := 4) (k := 0) dX3_cross_1 vc3 (by decide) rfl lfX3_14 h1 rfl ?_
  obtain ⟨h2, h⟩ := h
  refine wp_getI (pc' := 7) (k := 3) dX3_cross_4 vc2 (by decide) rfl lfX3_23 h2 rfl ?_
  refine wp_aload_n (pc' := 8) (q := 0) (i := 0) rfl rfl dX3_cross_7 rfl ?_
  refine wp_getR (pc' := 11) (k := 1) dX3_cross_8 vc3 (by decide) rfl lfX3_20 h1 rfl ?_
  obtain ⟨h3, h⟩ := h
  refine wp_getI (pc' := 14) (k := 3) dX3_cross_11 vc2 (by decide) rfl lfX3_23 h3 rfl ?_
  obtain ⟨h4, h⟩ := h
  obtain ⟨h5, h⟩ := h
  refine wp_mmin (pc' := 17) h4 h5 dX3_cross_14 lkX3_55 ms_min iiMath mc_min ⟨Nat.le_of_ble_eq_true rfl, Nat.le_of_ble_eq_true rfl⟩ (Nat.le_refl _) rfl ?_
  refine wp_istore_n (pc' := 18) (q := 2) (i := 2) (L' := [vR a0, vI a1, vI (min (I (R a0 0) 3) (I (R a0 1) 3))]) rfl (by decide) rfl dX3_cross_17 rfl rfl ?_
  refine wp_aload_n (pc' := 19) (q := 0) (i := 0) rfl rfl dX3_cross_18 rfl ?_
  refine wp_iconst (pc' := 20) dX3_cross_19 rfl ?_
  obtain ⟨I6, eI6⟩ : ∃ z : II, z = up2 I a0 2 0 := ⟨_, rfl⟩
  have h := h I6 eI6
  refine wp_putI (pc' := 23) (k := 2) (I' := I6) dX3_cross_20 vc3 (by decide) rfl rfl (tyX3_ok 2 (by decide)) lfX3_61 h1 rfl eI6 ?_
  exact h

set_option maxRecDepth 4000 in
theorem gX3_cross_23 {Q : QT} {I : II} {R : RR} {N : Nat} {a0 : Nat} {a1 : Int} {a2 : Int}
    (h : (isO N a0 3) ∧
      (InI (I a0 2)) ∧
      (InI a2) ∧
      ((a2 ≤ (I a0 2) →
      wp (kN N) mX3_cross Q 73 [vR a0, vI a1, none] [] I R N) ∧ (¬ (a2 ≤ (I a0 2)) →
      (isO N (R a0 0) 2) ∧
      (isA N (R (R a0 0) 2) 1 10) ∧
      (0 ≤ (I a0 2) ∧ (I a0 2) < 10) ∧
      (isO N (R a0 1) 2) ∧
      (isA N (R (R a0 1) 2) 1 10) ∧
      (InI (I (R (R a0 0) 2) (I a0 2).toNat)) ∧
      (InI ((I (R (R a0 1) 2) (I a0 2).toNat) + a1)) ∧
      (((I (R (R a0 0) 2) (I a0 2).toNat) < ((I (R (R a0 1) 2) (I a0 2).toNat) + a1) →
      wp (kN N) mX3_cross Q 73 [vR a0, vI a1, none] [] I R N) ∧ (¬ (I (R (R a0 0) 2) (I a0 2).toNat) < ((I (R (R a0 1) 2) (I a0 2).toNat) + a1) →
      (∀ I11 : II, I11 = up2 I a0 2 ((I a0 2) + 1) →
      wp (kN N) mX3_cross Q 23 [vR a0, vI a1, vI a2] [] I11 R N)))))) : wp (kN N) mX3_cross Q 23 [vR a0, vI a1, vI a2] [] I R N := by
  refine wp_aload_n (pc' := 24) (q := 0) (i := 0) rfl rfl dX3_cross_23 rfl ?_
  obtain ⟨h1, h⟩ := h
  refine wp_getI (pc' := 27) (k := 2) dX3_cross_24 vc3 (by decide) rfl lfX3_61 h1 rfl ?_
  refine wp_iload_n (pc' := 28) (q := 2) (i := 2) rfl rfl dX3_cross_27 rfl ?_
  obtain ⟨h2, h⟩ := h
  obtain ⟨h3, h⟩ := h
  refine wp_icmp_ge (pc' := 31) (tgt := 73) h2 h3 dX3_cross_28 rfl rfl (fun hc => ?_) (fun hc => ?_)
  · have h := h.1 hc
    exact wp_dropP (leP_s (leP_s (leP_d leP_n))) h
  · have h := h.2 hc
    refine wp_aload_n (pc' := 32) (q := 0) (i := 0) rfl rfl dX3_cross_31 rfl ?_
    refine wp_getR (pc' := 35) (k := 0) dX3_cross_32 vc3 (by decide) rfl lfX3_14 h1 rfl ?_
    obtain ⟨h4, h⟩ := h
    refine wp_getR (pc' := 38) (k := 2) dX3_cross_35 vc2 (by decide) rfl lfX3_64 h4 rfl ?_
    refine wp_aload_n (pc' := 39) (q := 0) (i := 0) rfl rfl dX3_cross_38 rfl ?_
    refine wp_getI (pc' := 42) (k := 2) dX3_cross_39 vc3 (by decide) rfl lfX3_61 h1 rfl ?_
    obtain ⟨h5, h⟩ := h
    obtain ⟨h6, h⟩ := h
    refine wp_iald (pc' := 43) (j := (I a0 2).toNat) dX3_cross_42 h5 h6 rfl rfl ?_
    refine wp_aload_n (pc' := 44) (q := 0) (i := 0) rfl rfl dX3_cross_43 rfl ?_
    refine wp_getR (pc' := 47) (k := 1) dX3_cross_44 vc3 (by decide) rfl lfX3_20 h1 rfl ?_
    obtain ⟨h7, h⟩ := h
    refine wp_getR (pc' := 50) (k := 2) dX3_cross_47 vc2 (by decide) rfl lfX3_64 h7 rfl ?_
    refine wp_aload_n (pc' := 51) (q := 0) (i := 0) rfl rfl dX3_cross_50 rfl ?_
    refine wp_getI (pc' := 54) (k := 2) dX3_cross_51 vc3 (by decide) rfl lfX3_61 h1 rfl ?_
    obtain ⟨h8, h⟩ := h
    refine wp_iald (pc' := 55) (j := (I a0 2).toNat) dX3_cross_54 h8 h6 rfl rfl ?_
    refine wp_iload_n (pc' := 56) (q := 1) (i := 1) rfl rfl dX3_cross_55 rfl ?_
    refine wp_iadd (pc' := 57) dX3_cross_56 rfl ?_
    obtain ⟨h9, h⟩ := h
    obtain ⟨h10, h⟩ := h
    refine wp_icmp_lt (pc' := 60) (tgt := 73) h9 h10 dX3_cross_57 rfl rfl (fun hc => ?_) (fun hc => ?_)
    · have h := h.1 hc
      exact wp_dropP (leP_s (leP_s (leP_d leP_n))) h
    · have h := h.2 hc
      refine wp_aload_n (pc' := 61) (q := 0) (i := 0) rfl rfl dX3_cross_60 rfl ?_
      refine wp_dupR (pc' := 62) dX3_cross_61 rfl ?_
      refine wp_getI (pc' := 65) (k := 2) dX3_cross_62 vc3 (by decide) rfl lfX3_61 h1 rfl ?_
      refine wp_iconst (pc' := 66) dX3_cross_65 rfl ?_
      refine wp_iadd (pc' := 67) dX3_cross_66 rfl ?_
      obtain ⟨I11, eI11⟩ : ∃ z : II, z = up2 I a0 2 ((I a0 2) + 1) := ⟨_, rfl⟩
      have h := h I11 eI11
      refine wp_putI (pc' := 70) (k := 2) (I' := I11) dX3_cross_67 vc3 (by decide) rfl rfl (tyX3_ok 2 (by decide)) lfX3_61 h1 rfl eI11 ?_
      refine wp_goto (tgt := 23) dX3_cross_70 rfl ?_
      exact h

set_option maxRecDepth 4000 in
theorem gX3_cross_73 {Q : QT} {I : II} {R : RR} {N : Nat} {a0 : Nat} {a1 : Int}
    (h : (isO N a0 3) ∧
      (isO N (R a0 0) 2) ∧
      (∃ Q2 : QT, Spec mX2_sum [vR (R a0 0), vI 0, vI (I a0 2)] I R N N Q2 ∧ (∀ x2 I2 R2, Q2 (vI x2) I2 R2 →
      (isO N (R2 a0 1) 2) ∧
      (∃ Q4 : QT, Spec mX2_sum [vR (R2 a0 1), vI 0, vI (I2 a0 2)] I2 R2 N N Q4 ∧ (∀ x4 I4 R4, Q4 (vI x4) I4 R4 →
      (∀ I6 : II, I6 = up2 I4 a0 3 (x2 - x4) →
      (∀ I7 : II, I7 = up2 I6 a0 4 (-4) →
      (∀ I8 : II, I8 = up2 I7 a0 5 (-4) →
      (InI (I8 a0 2)) ∧
      (((I8 a0 2) ≤ 0 →
      wp (kN N) mX3_cross Q 126 [none, none, none] [] I8 R4 N) ∧ (¬ (I8 a0 2) ≤ 0 →
      (∃ Q10 : QT, Spec mX3_price [vR a0, vI a1] I8 R4 N N Q10 ∧ (∀ I10 R10, Q10 none I10 R10 →
      wp (kN N) mX3_cross Q 126 [none, none, none] [] I10 R10 N)))))))))))) : wp (kN N) mX3_cross Q 73 [vR a0, vI a1, none] [] I R N := by
  refine wp_aload_n (pc' := 74) (q := 0) (i := 0) rfl rfl dX3_cross_73 rfl ?_
  refine wp_aload_n (pc' := 75) (q := 0) (i := 0) rfl rfl dX3_cross_74 rfl ?_
  obtain ⟨h1, h⟩ := h
  refine wp_getR (pc' := 78) (k := 0) dX3_cross_75 vc3 (by decide) rfl lfX3_14 h1 rfl ?_
  refine wp_iconst (pc' := 79) dX3_cross_78 rfl ?_
  refine wp_aload_n (pc' := 80) (q := 0) (i := 0) rfl rfl dX3_cross_79 rfl ?_
  refine wp_getI (pc' := 83) (k := 2) dX3_cross_80 vc3 (by decide) rfl lfX3_61 h1 rfl ?_
  obtain ⟨h3, h⟩ := h
  obtain ⟨Q2, hs2, h⟩ := h
  refine wp_callV (pc' := 86) (as := [vI 0, vI (I a0 2)]) (rest := [vR a0]) hs2 dX3_cross_83 rfl lkX3_65 okX2_sum inX2_sum seX2_sum h3 vc2 ⟨Nat.le_of_ble_eq_true rfl, Nat.le_of_ble_eq_true rfl⟩ (Nat.le_of_ble_eq_true rfl) (Nat.le_refl _) (Nat.le_refl _) okP_eq okP_eq rfl (rvI rfl (fun x2 I2 R2 hq2 => ?_))
  have h := h x2 I2 R2 hq2
  refine wp_aload_n (pc' := 87) (q := 0) (i := 0) rfl rfl dX3_cross_86 rfl ?_
  refine wp_getR (pc' := 90) (k := 1) dX3_cross_87 vc3 (by decide) rfl lfX3_20 h1 rfl ?_
  refine wp_iconst (pc' := 91) dX3_cross_90 rfl ?_
  refine wp_aload_n (pc' := 92) (q := 0) (i := 0) rfl rfl dX3_cross_91 rfl ?_
  refine wp_getI (pc' := 95) (k := 2) dX3_cross_92 vc3 (by decide) rfl lfX3_61 h1 rfl ?_
  obtain ⟨h5, h⟩ := h
  obtain ⟨Q4, hs4, h⟩ := h
  refine wp_callV (pc' := 98) (as := [vI 0, vI (I2 a0 2)]) (rest := [vI x2, vR a0]) hs4 dX3_cross_95 rfl lkX3_65 okX2_sum inX2_sum seX2_sum h5 vc2 ⟨Nat.le_of_ble_eq_true rfl, Nat.le_of_ble_eq_true rfl⟩ (Nat.le_of_ble_eq_true rfl) (Nat.le_refl _) (Nat.le_refl _) okP_eq okP_eq rfl (rvI rfl (fun x4 I4 R4 hq4 => ?_))
  have h := h x4 I4 R4 hq4
  refine wp_isub (pc' := 99) dX3_cross_98 rfl ?_
  obtain ⟨I6, eI6⟩ : ∃ z : II, z = up2 I4 a0 3 (x2 - x4) := ⟨_, rfl⟩
  have h := h I6 eI6
  refine wp_putI (pc' := 102) (k := 3) (I' := I6) dX3_cross_99 vc3 (by decide) rfl rfl (tyX3_ok 3 (by decide)) lfX3_68 h1 rfl eI6 ?_
  refine wp_aload_n (pc' := 103) (q := 0) (i := 0) rfl rfl dX3_cross_102 rfl ?_
  refine wp_bipush (pc' := 105) (by decide) dX3_cross_103 rfl ?_
  obtain ⟨I7, eI7⟩ : ∃ z : II, z = up2 I6 a0 4 (-4) := ⟨_, rfl⟩
  have h := h I7 eI7
  refine wp_putI (pc' := 108) (k := 4) (I' := I7) dX3_cross_105 vc3 (by decide) rfl rfl (tyX3_ok 4 (by decide)) lfX3_71 h1 rfl eI7 ?_
  refine wp_aload_n (pc' := 109) (q := 0) (i := 0) rfl rfl dX3_cross_108 rfl ?_
  refine wp_bipush (pc' := 111) (by decide) dX3_cross_109 rfl ?_
  obtain ⟨I8, eI8⟩ : ∃ z : II, z = up2 I7 a0 5 (-4) := ⟨_, rfl⟩
  have h := h I8 eI8
  refine wp_putI (pc' := 114) (k := 5) (I' := I8) dX3_cross_111 vc3 (by decide) rfl rfl (tyX3_ok 5 (by decide)) lfX3_74 h1 rfl eI8 ?_
  refine wp_aload_n (pc' := 115) (q := 0) (i := 0) rfl rfl dX3_cross_114 rfl ?_
  refine wp_getI (pc' := 118) (k := 2) dX3_cross_115 vc3 (by decide) rfl lfX3_61 h1 rfl ?_
  obtain ⟨h9, h⟩ := h
  refine wp_if_le (pc' := 121) (tgt := 126) h9 dX3_cross_118 rfl rfl (fun hc => ?_) (fun hc => ?_)
  · have h := h.1 hc
    exact wp_dropP (leP_d (leP_d (leP_s leP_n))) h
  · have h := h.2 hc
    refine wp_aload_n (pc' := 122) (q := 0) (i := 0) rfl rfl dX3_cross_121 rfl ?_
    refine wp_iload_n (pc' := 123) (q := 1) (i := 1) rfl rfl dX3_cross_122 rfl ?_
    obtain ⟨Q10, hs10, h⟩ := h
    refine wp_callV (pc' := 126) (as := [vI a1]) (rest := []) hs10 dX3_cross_123 rfl lkX3_77 okX3_price inX3_price seX3_price h1 vc3 ⟨Nat.le_of_ble_eq_true rfl, Nat.le_of_ble_eq_true rfl⟩ (Nat.le_of_ble_eq_true rfl) (Nat.le_refl _) (Nat.le_refl _) okP_eq okP_eq rfl (rvV rfl (fun I10 R10 hq10 => ?_))
    have h := h I10 R10 hq10
    exact wp_dropP (leP_d (leP_d (leP_s leP_n))) h

set_option maxRecDepth 4000 in
theorem gX3_cross_126 {Q : QT} {I : II} {R : RR} {N : Nat} 
    (h : Q none I R) : wp (kN N) mX3_cross Q 126 [none, none, none] [] I R N := by
  exact wp_vreturn dX3_cross_126 rfl rfl h

theorem sX3_price {Q : QT} {I : II} {R : RR} {N : Nat} {a0 : Nat} {a1 : Int} (hN : N < 1000) (h : wp (kN N) mX3_price Q 0 [vR a0, vI a1] [] I R N) : Spec mX3_price [vR a0, vI a1] I R N N Q := Spec_of_wp pyX3_price rfl (Nat.le_of_ble_eq_true rfl) (Nat.le_refl _) hN h

set_option maxRecDepth 4000 in
theorem gX3_price_0 {Q : QT} {I : II} {R : RR} {N : Nat} {a0 : Nat} {a1 : Int}
    (h : (isO N a0 3) ∧
      (isO N (R a0 1) 2) ∧
      (isA N (R (R a0 1) 2) 1 10) ∧
      (0 ≤ ((I a0 2) - 1) ∧ ((I a0 2) - 1) < 10) ∧
      (∀ I5 : II, I5 = up2 I a0 4 ((I (R (R a0 1) 2) ((I a0 2) - 1).toNat) + a1) →
      (isO N (R a0 0) 2) ∧
      (isA N (R (R a0 0) 2) 1 10) ∧
      (0 ≤ ((I5 a0 2) - 1) ∧ ((I5 a0 2) - 1) < 10) ∧
      (∀ I9 : II, I9 = up2 I5 a0 5 (I5 (R (R a0 0) 2) ((I5 a0 2) - 1).toNat) →
      (InI (I9 a0 2)) ∧
      (InI (I9 (R a0 0) 3)) ∧
      (((I9 (R a0 0) 3) ≤ (I9 a0 2) →
      wp (kN N) mX3_price Q 75 [vR a0, vI a1] [] I9 R N) ∧ (¬ (I9 (R a0 0) 3) ≤ (I9 a0 2) →
      (0 ≤ (I9 a0 2) ∧ (I9 a0 2) < 10) ∧
      (InI (I9 a0 4)) ∧
      (InI (I9 (R (R a0 0) 2) (I9 a0 2).toNat)) ∧
      (∀ I15 : II, I15 = up2 I9 a0 4 (max (I9 a0 4) (I9 (R (R a0 0) 2) (I9 a0 2).toNat)) →
      wp (kN N) mX3_price Q 75 [vR a0, vI a1] [] I15 R N)))))) : wp (kN N) mX3_price Q 0 [vR a0, vI a1] [] I R N := by
  refine wp_aload_n (pc' := 1) (q := 0) (i := 0) rfl rfl dX3_price_0 rfl ?_
  refine wp_aload_n (pc' := 2) (q := 0) (i := 0) rfl rfl dX3_price_1 rfl ?_
  obtain ⟨h1, h⟩ := h
  refine wp_getR (pc' := 5) (k := 1) dX3_price_2 vc3 (by decide) rfl lfX3_20 h1 rfl ?_
  obtain ⟨h2, h⟩ := h
  refine wp_getR (pc' := 8) (k := 2) dX3_price_5 vc2 (by decide) rfl lfX3_64 h2 rfl ?_
  refine wp_aload_n (pc' := 9) (q := 0) (i := 0) rfl rfl dX3_price_8 rfl ?_
  refine wp_getI (pc' := 12) (k := 2) dX3_price_9 vc3 (by decide) rfl lfX3_61 h1 rfl ?_
  refine wp_iconst (pc' := 13) dX3_price_12 rfl ?_
  refine wp_isub (pc' := 14) dX3_price_13 rfl ?_
  obtain ⟨h3, h⟩ := h
  obtain ⟨h4, h⟩ := h
  refine wp_iald (pc' := 15) (j := ((I a0 2) - 1).toNat) dX3_price_14 h3 h4 rfl rfl ?_
  refine wp_iload_n (pc' := 16) (q := 1) (i := 1) rfl rfl dX3_price_15 rfl ?_
  refine wp_iadd (pc' := 17) dX3_price_16 rfl ?_
  obtain ⟨I5, eI5⟩ : ∃ z : II, z = up2 I a0 4 ((I (R (R a0 1) 2) ((I a0 2) - 1).toNat) + a1) := ⟨_, rfl⟩
  have h := h I5 eI5
  refine wp_putI (pc' := 20) (k := 4) (I' := I5) dX3_price_17 vc3 (by decide) rfl rfl (tyX3_ok 4 (by decide)) lfX3_71 h1 rfl eI5 ?_
  refine wp_aload_n (pc' := 21) (q := 0) (i := 0) rfl rfl dX3_price_20 rfl ?_
  refine wp_aload_n (pc' := 22) (q := 0) (i := 0) rfl rfl dX3_price_21 rfl ?_
  refine wp_getR (pc' := 25) (k := 0) dX3_price_22 vc3 (by decide) rfl lfX3_14 h1 rfl ?_
  obtain ⟨h6, h⟩ := h
  refine wp_getR (pc' := 28) (k := 2) dX3_price_25 vc2 (by decide) rfl lfX3_64 h6 rfl ?_
  refine wp_aload_n (pc' := 29) (q := 0) (i := 0) rfl rfl dX3_price_28 rfl ?_
  refine wp_getI (pc' := 32) (k := 2) dX3_price_29 vc3 (by decide) rfl lfX3_61 h1 rfl ?_
  refine wp_iconst (pc' := 33) dX3_price_32 rfl ?_
  refine wp_isub (pc' := 34) dX3_price_33 rfl ?_
  obtain ⟨h7, h⟩ := h
  obtain ⟨h8, h⟩ := h
  refine wp_iald (pc' := 35) (j := ((I5 a0 2) - 1).toNat) dX3_price_34 h7 h8 rfl rfl ?_
  obtain ⟨I9, eI9⟩ : ∃ z : II, z = up2 I5 a0 5 (I5 (R (R a0 0) 2) ((I5 a0 2) - 1).toNat) := ⟨_, rfl⟩
  have h := h I9 eI9
  refine wp_putI (pc' := 38) (k := 5) (I' := I9) dX3_price_35 vc3 (by decide) rfl rfl (tyX3_ok 5 (by decide)) lfX3_74 h1 rfl eI9 ?_
  refine wp_aload_n (pc' := 39) (q := 0) (i := 0) rfl rfl dX3_price_38 rfl ?_
  refine wp_getI (pc' := 42) (k := 2) dX3_price_39 vc3 (by decide) rfl lfX3_61 h1 rfl ?_
  refine wp_aload_n (pc' := 43) (q := 0) (i := 0) rfl rfl dX3_price_42 rfl ?_
  refine wp_getR (pc' := 46) (k := 0) dX3_price_43 vc3 (by decide) rfl lfX3_14 h1 rfl ?_
  refine wp_getI (pc' := 49) (k := 3) dX3_price_46 vc2 (by decide) rfl lfX3_23 h6 rfl ?_
  obtain ⟨h10, h⟩ := h
  obtain ⟨h11, h⟩ := h
  refine wp_icmp_ge (pc' := 52) (tgt := 75) h10 h11 dX3_price_49 rfl rfl (fun hc => ?_) (fun hc => ?_)
  · have h := h.1 hc
    exact h
  · have h := h.2 hc
    refine wp_aload_n (pc' := 53) (q := 0) (i := 0) rfl rfl dX3_price_52 rfl ?_
    refine wp_aload_n (pc' := 54) (q := 0) (i := 0) rfl rfl dX3_price_53 rfl ?_
    refine wp_getI (pc' := 57) (k := 4) dX3_price_54 vc3 (by decide) rfl lfX3_71 h1 rfl ?_
    refine wp_aload_n (pc' := 58) (q := 0) (i := 0) rfl rfl dX3_price_57 rfl ?_
    refine wp_getR (pc' := 61) (k := 0) dX3_price_58 vc3 (by decide) rfl lfX3_14 h1 rfl ?_
    refine wp_getR (pc' := 64) (k := 2) dX3_price_61 vc2 (by decide) rfl lfX3_64 h6 rfl ?_
    refine wp_aload_n (pc' := 65) (q := 0) (i := 0) rfl rfl dX3_price_64 rfl ?_
    refine wp_getI (pc' := 68) (k := 2) dX3_price_65 vc3 (by decide) rfl lfX3_61 h1 rfl ?_
    obtain ⟨h12, h⟩ := h
    refine wp_iald (pc' := 69) (j := (I9 a0 2).toNat) dX3_price_68 h7 h12 rfl rfl ?_
    obtain ⟨h13, h⟩ := h
    obtain ⟨h14, h⟩ := h
    refine wp_mmax (pc' := 72) h13 h14 dX3_price_69 lkX3_80 ms_max iiMath mc_max ⟨Nat.le_of_ble_eq_true rfl, Nat.le_of_ble_eq_true rfl⟩ (Nat.le_refl _) rfl ?_
    obtain ⟨I15, eI15⟩ : ∃ z : II, z = up2 I9 a0 4 (max (I9 a0 4) (I9 (R (R a0 0) 2) (I9 a0 2).toNat)) := ⟨_, rfl⟩
    have h := h I15 eI15
    refine wp_putI (pc' := 75) (k := 4) (I' := I15) dX3_price_72 vc3 (by decide) rfl rfl (tyX3_ok 4 (by decide)) lfX3_71 h1 rfl eI15 ?_
    exact h

set_option maxRecDepth 4000 in
theorem gX3_price_75 {Q : QT} {I : II} {R : RR} {N : Nat} {a0 : Nat} {a1 : Int}
    (h : (isO N a0 3) ∧
      (isO N (R a0 1) 2) ∧
      (InI (I a0 2)) ∧
      (InI (I (R a0 1) 3)) ∧
      (((I (R a0 1) 3) ≤ (I a0 2) →
      wp (kN N) mX3_price Q 114 [none, none] [] I R N) ∧ (¬ (I (R a0 1) 3) ≤ (I a0 2) →
      (isA N (R (R a0 1) 2) 1 10) ∧
      (0 ≤ (I a0 2) ∧ (I a0 2) < 10) ∧
      (InI (I a0 5)) ∧
      (InI ((I (R (R a0 1) 2) (I a0 2).toNat) + a1)) ∧
      (∀ I9 : II, I9 = up2 I a0 5 (min (I a0 5) ((I (R (R a0 1) 2) (I a0 2).toNat) + a1)) →
      wp (kN N) mX3_price Q 114 [none, none] [] I9 R N)))) : wp (kN N) mX3_price Q 75 [vR a0, vI a1] [] I R N := by
  refine wp_aload_n (pc' := 76) (q := 0) (i := 0) rfl rfl dX3_price_75 rfl ?_
  obtain ⟨h1, h⟩ := h
  refine wp_getI (pc' := 79) (k := 2) dX3_price_76 vc3 (by decide) rfl lfX3_61 h1 rfl ?_
  refine wp_aload_n (pc' := 80) (q := 0) (i := 0) rfl rfl dX3_price_79 rfl ?_
  refine wp_getR (pc' := 83) (k := 1) dX3_price_80 vc3 (by decide) rfl lfX3_20 h1 rfl ?_
  obtain ⟨h2, h⟩ := h
  refine wp_getI (pc' := 86) (k := 3) dX3_price_83 vc2 (by decide) rfl lfX3_23 h2 rfl ?_
  obtain ⟨h3, h⟩ := h
  obtain ⟨h4, h⟩ := h
  refine wp_icmp_ge (pc' := 89) (tgt := 114) h3 h4 dX3_price_86 rfl rfl (fun hc => ?_) (fun hc => ?_)
  · have h := h.1 hc
    exact wp_dropP (leP_d (leP_d leP_n)) h
  · have h := h.2 hc
    refine wp_aload_n (pc' := 90) (q := 0) (i := 0) rfl rfl dX3_price_89 rfl ?_
    refine wp_aload_n (pc' := 91) (q := 0) (i := 0) rfl rfl dX3_price_90 rfl ?_
    refine wp_getI (pc' := 94) (k := 5) dX3_price_91 vc3 (by decide) rfl lfX3_74 h1 rfl ?_
    refine wp_aload_n (pc' := 95) (q := 0) (i := 0) rfl rfl dX3_price_94 rfl ?_
    refine wp_getR (pc' := 98) (k := 1) dX3_price_95 vc3 (by decide) rfl lfX3_20 h1 rfl ?_
    refine wp_getR (pc' := 101) (k := 2) dX3_price_98 vc2 (by decide) rfl lfX3_64 h2 rfl ?_
    refine wp_aload_n (pc' := 102) (q := 0) (i := 0) rfl rfl dX3_price_101 rfl ?_
    refine wp_getI (pc' := 105) (k := 2) dX3_price_102 vc3 (by decide) rfl lfX3_61 h1 rfl ?_
    obtain ⟨h5, h⟩ := h
    obtain ⟨h6, h⟩ := h
    refine wp_iald (pc' := 106) (j := (I a0 2).toNat) dX3_price_105 h5 h6 rfl rfl ?_
    refine wp_iload_n (pc' := 107) (q := 1) (i := 1) rfl rfl dX3_price_106 rfl ?_
    refine wp_iadd (pc' := 108) dX3_price_107 rfl ?_
    obtain ⟨h7, h⟩ := h
    obtain ⟨h8, h⟩ := h
    refine wp_mmin (pc' := 111) h7 h8 dX3_price_108 lkX3_55 ms_min iiMath mc_min ⟨Nat.le_of_ble_eq_true rfl, Nat.le_of_ble_eq_true rfl⟩ (Nat.le_refl _) rfl ?_
    obtain ⟨I9, eI9⟩ : ∃ z : II, z = up2 I a0 5 (min (I a0 5) ((I (R (R a0 1) 2) (I a0 2).toNat) + a1)) := ⟨_, rfl⟩
    have h := h I9 eI9
    refine wp_putI (pc' := 114) (k := 5) (I' := I9) dX3_price_111 vc3 (by decide) rfl rfl (tyX3_ok 5 (by decide)) lfX3_74 h1 rfl eI9 ?_
    exact wp_dropP (leP_d (leP_d leP_n)) h

set_option maxRecDepth 4000 in
theorem gX3_price_114 {Q : QT} {I : II} {R : RR} {N : Nat} 
    (h : Q none I R) : wp (kN N) mX3_price Q 114 [none, none] [] I R N := by
  exact wp_vreturn dX3_price_114 rfl rfl h

theorem sX3_trades {Q : QT} {I : II} {R : RR} {N : Nat} {a0 : Nat} {a1 : Int} {a2 : Int} (hN : N < 1000) (h : wp (kN N) mX3_trades Q 0 [vR a0, vI a1, vI a2] [] I R N) : Spec mX3_trades [vR a0, vI a1, vI a2] I R N N Q := Spec_of_wp pyX3_trades rfl (Nat.le_of_ble_eq_true rfl) (Nat.le_refl _) hN h

set_option maxRecDepth 4000 in
theorem gX3_trades_0 {Q : QT} {I : II} {R : RR} {N : Nat} {a0 : Nat} {a1 : Int} {a2 : Int}
    (h : (InI a1) ∧
      ((a1 = 0 →
      (isO N a0 3) ∧
      (isO N (R a0 0) 2) ∧
      (∃ Q3 : QT, Spec mX2_holds [vR (R a0 0), vI a2, vI (I a0 2)] I R N N Q3 ∧ (∀ x3 I3 R3, (x3 = 0 ∨ x3 = 1) → Q3 (vI x3) I3 R3 →
      Q (vI x3) I3 R3))) ∧ (¬ (a1 = 0) →
      (isO N a0 3) ∧
      (isO N (R a0 1) 2) ∧
      (∃ Q6 : QT, Spec mX2_holds [vR (R a0 1), vI a2, vI (I a0 2)] I R N N Q6 ∧ (∀ x6 I6 R6, (x6 = 0 ∨ x6 = 1) → Q6 (vI x6) I6 R6 →
      Q (vI x6) I6 R6))))) : wp (kN N) mX3_trades Q 0 [vR a0, vI a1, vI a2] [] I R N := by
  refine wp_iload_n (pc' := 1) (q := 1) (i := 1) rfl rfl dX3_trades_0 rfl ?_
  obtain ⟨h1, h⟩ := h
  refine wp_if_eq (pc' := 4) (tgt := 19) h1 dX3_trades_1 rfl rfl (fun hc => ?_) (fun hc => ?_)
  · have h := h.1 hc
    refine wp_aload_n (pc' := 20) (q := 0) (i := 0) rfl rfl dX3_trades_19 rfl ?_
    obtain ⟨h2, h⟩ := h
    refine wp_getR (pc' := 23) (k := 0) dX3_trades_20 vc3 (by decide) rfl lfX3_14 h2 rfl ?_
    refine wp_iload_n (pc' := 24) (q := 2) (i := 2) rfl rfl dX3_trades_23 rfl ?_
    refine wp_aload_n (pc' := 25) (q := 0) (i := 0) rfl rfl dX3_trades_24 rfl ?_
    refine wp_getI (pc' := 28) (k := 2) dX3_trades_25 vc3 (by decide) rfl lfX3_61 h2 rfl ?_
    obtain ⟨h4, h⟩ := h
    obtain ⟨Q3, hs3, h⟩ := h
    refine wp_callV (pc' := 31) (as := [vI a2, vI (I a0 2)]) (rest := []) hs3 dX3_trades_28 rfl lkX3_83 okX2_holds inX2_holds seX2_holds h4 vc2 ⟨Nat.le_of_ble_eq_true rfl, Nat.le_of_ble_eq_true rfl⟩ (Nat.le_of_ble_eq_true rfl) (Nat.le_refl _) (Nat.le_refl _) okP_eq okP_eq rfl (rvZ rfl (fun x3 I3 R3 hz3 hq3 => ?_))
    have h := h x3 I3 R3 hz3 hq3
    exact wp_zreturn dX3_trades_31 rfl rfl hz3 h
  · have h := h.2 hc
    refine wp_aload_n (pc' := 5) (q := 0) (i := 0) rfl rfl dX3_trades_4 rfl ?_
    obtain ⟨h5, h⟩ := h
    refine wp_getR (pc' := 8) (k := 1) dX3_trades_5 vc3 (by decide) rfl lfX3_20 h5 rfl ?_
    refine wp_iload_n (pc' := 9) (q := 2) (i := 2) rfl rfl dX3_trades_8 rfl ?_
    refine wp_aload_n (pc' := 10) (q := 0) (i := 0) rfl rfl dX3_trades_9 rfl ?_
    refine wp_getI (pc' := 13) (k := 2) dX3_trades_10 vc3 (by decide) rfl lfX3_61 h5 rfl ?_
    obtain ⟨h7, h⟩ := h
    obtain ⟨Q6, hs6, h⟩ := h
    refine wp_callV (pc' := 16) (as := [vI a2, vI (I a0 2)]) (rest := []) hs6 dX3_trades_13 rfl lkX3_83 okX2_holds inX2_holds seX2_holds h7 vc2 ⟨Nat.le_of_ble_eq_true rfl, Nat.le_of_ble_eq_true rfl⟩ (Nat.le_of_ble_eq_true rfl) (Nat.le_refl _) (Nat.le_refl _) okP_eq okP_eq rfl (rvZ rfl (fun x6 I6 R6 hz6 hq6 => ?_))
    have h := h x6 I6 R6 hz6 hq6
    refine wp_goto (tgt := 31) dX3_trades_16 rfl ?_
    exact wp_zreturn dX3_trades_31 rfl rfl hz6 h

theorem sX4_add {Q : QT} {I : II} {R : RR} {N : Nat} {a0 : Nat} {a1 : Int} {a2 : Int} {a3 : Int} {a4 : Int} (hN : N < 1000) (h : wp (kN N) mX4_add Q 0 [vR a0, vI a1, vI a2, vI a3, vI a4] [] I R N) : Spec mX4_add [vR a0, vI a1, vI a2, vI a3, vI a4] I R N N Q := Spec_of_wp pyX4_add rfl (Nat.le_of_ble_eq_true rfl) (Nat.le_refl _) hN h

set_option maxRecDepth 4000 in
theorem gX4_add_0 {Q : QT} {I : II} {R : RR} {N : Nat} {a0 : Nat} {a1 : Int} {a2 : Int} {a3 : Int} {a4 : Int}
    (h : (isO N a0 4) ∧
      (InI (I a0 4)) ∧
      (((200 : Int) ≤ (I a0 4) →
      wp (kN N) mX4_add Q 61 [none, none, none, none, none] [] I R N) ∧ (¬ (200 : Int) ≤ (I a0 4) →
      (isA N (R a0 0) 1 200) ∧
      (0 ≤ (I a0 4) ∧ (I a0 4) < 200) ∧
      (∀ I5 : II, I5 = up2 I (R a0 0) ((I a0 4).toNat) a1 →
      (isA N (R a0 1) 1 200) ∧
      (0 ≤ (I5 a0 4) ∧ (I5 a0 4) < 200) ∧
      (∀ I8 : II, I8 = up2 I5 (R a0 1) ((I5 a0 4).toNat) a2 →
      (isA N (R a0 2) 1 200) ∧
      (0 ≤ (I8 a0 4) ∧ (I8 a0 4) < 200) ∧
      (∀ I11 : II, I11 = up2 I8 (R a0 2) ((I8 a0 4).toNat) a3 →
      (isA N (R a0 3) 1 200) ∧
      (0 ≤ (I11 a0 4) ∧ (I11 a0 4) < 200) ∧
      (∀ I14 : II, I14 = up2 I11 (R a0 3) ((I11 a0 4).toNat) a4 →
      (∀ I15 : II, I15 = up2 I14 a0 4 ((I14 a0 4) + 1) →
      wp (kN N) mX4_add Q 61 [none, none, none, none, none] [] I15 R N)))))))) : wp (kN N) mX4_add Q 0 [vR a0, vI a1, vI a2, vI a3, vI a4] [] I R N := by
  refine wp_aload_n (pc' := 1) (q := 0) (i := 0) rfl rfl dX4_add_0 rfl ?_
  obtain ⟨h1, h⟩ := h
  refine wp_getI (pc' := 4) (k := 4) dX4_add_1 vc4 (by decide) rfl lfX4_24 h1 rfl ?_
  refine wp_sipush (pc' := 7) (by decide) dX4_add_4 rfl ?_
  obtain ⟨h2, h⟩ := h
  refine wp_icmp_ge (pc' := 10) (tgt := 61) h2 ⟨by decide, by decide⟩ dX4_add_7 rfl rfl (fun hc => ?_) (fun hc => ?_)
  · have h := h.1 hc
    exact wp_dropP (leP_d (leP_d (leP_d (leP_d (leP_d leP_n))))) h
  · have h := h.2 hc
    refine wp_aload_n (pc' := 11) (q := 0) (i := 0) rfl rfl dX4_add_10 rfl ?_
    refine wp_getR (pc' := 14) (k := 0) dX4_add_11 vc4 (by decide) rfl lfX4_9 h1 rfl ?_
    refine wp_aload_n (pc' := 15) (q := 0) (i := 0) rfl rfl dX4_add_14 rfl ?_
    refine wp_getI (pc' := 18) (k := 4) dX4_add_15 vc4 (by decide) rfl lfX4_24 h1 rfl ?_
    refine wp_iload_n (pc' := 19) (q := 1) (i := 1) rfl rfl dX4_add_18 rfl ?_
    obtain ⟨h3, h⟩ := h
    obtain ⟨h4, h⟩ := h
    obtain ⟨I5, eI5⟩ : ∃ z : II, z = up2 I (R a0 0) ((I a0 4).toNat) a1 := ⟨_, rfl⟩
    have h := h I5 eI5
    refine wp_iast (pc' := 20) (j := (I a0 4).toNat) (I' := I5) dX4_add_19 h3 h4 rfl rfl eI5 ?_
    refine wp_aload_n (pc' := 21) (q := 0) (i := 0) rfl rfl dX4_add_20 rfl ?_
    refine wp_getR (pc' := 24) (k := 1) dX4_add_21 vc4 (by decide) rfl lfX4_15 h1 rfl ?_
    refine wp_aload_n (pc' := 25) (q := 0) (i := 0) rfl rfl dX4_add_24 rfl ?_
    refine wp_getI (pc' := 28) (k := 4) dX4_add_25 vc4 (by decide) rfl lfX4_24 h1 rfl ?_
    refine wp_iload_n (pc' := 29) (q := 2) (i := 2) rfl rfl dX4_add_28 rfl ?_
    obtain ⟨h6, h⟩ := h
    obtain ⟨h7, h⟩ := h
    obtain ⟨I8, eI8⟩ : ∃ z : II, z = up2 I5 (R a0 1) ((I5 a0 4).toNat) a2 := ⟨_, rfl⟩
    have h := h I8 eI8
    refine wp_iast (pc' := 30) (j := (I5 a0 4).toNat) (I' := I8) dX4_add_29 h6 h7 rfl rfl eI8 ?_
    refine wp_aload_n (pc' := 31) (q := 0) (i := 0) rfl rfl dX4_add_30 rfl ?_
    refine wp_getR (pc' := 34) (k := 2) dX4_add_31 vc4 (by decide) rfl lfX4_18 h1 rfl ?_
    refine wp_aload_n (pc' := 35) (q := 0) (i := 0) rfl rfl dX4_add_34 rfl ?_
    refine wp_getI (pc' := 38) (k := 4) dX4_add_35 vc4 (by decide) rfl lfX4_24 h1 rfl ?_
    refine wp_iload_n (pc' := 39) (q := 3) (i := 3) rfl rfl dX4_add_38 rfl ?_
    obtain ⟨h9, h⟩ := h
    obtain ⟨h10, h⟩ := h
    obtain ⟨I11, eI11⟩ : ∃ z : II, z = up2 I8 (R a0 2) ((I8 a0 4).toNat) a3 := ⟨_, rfl⟩
    have h := h I11 eI11
    refine wp_iast (pc' := 40) (j := (I8 a0 4).toNat) (I' := I11) dX4_add_39 h9 h10 rfl rfl eI11 ?_
    refine wp_aload_n (pc' := 41) (q := 0) (i := 0) rfl rfl dX4_add_40 rfl ?_
    refine wp_getR (pc' := 44) (k := 3) dX4_add_41 vc4 (by decide) rfl lfX4_21 h1 rfl ?_
    refine wp_aload_n (pc' := 45) (q := 0) (i := 0) rfl rfl dX4_add_44 rfl ?_
    refine wp_getI (pc' := 48) (k := 4) dX4_add_45 vc4 (by decide) rfl lfX4_24 h1 rfl ?_
    refine wp_iload (pc' := 50) (i := 4) rfl dX4_add_48 rfl ?_
    obtain ⟨h12, h⟩ := h
    obtain ⟨h13, h⟩ := h
    obtain ⟨I14, eI14⟩ : ∃ z : II, z = up2 I11 (R a0 3) ((I11 a0 4).toNat) a4 := ⟨_, rfl⟩
    have h := h I14 eI14
    refine wp_iast (pc' := 51) (j := (I11 a0 4).toNat) (I' := I14) dX4_add_50 h12 h13 rfl rfl eI14 ?_
    refine wp_aload_n (pc' := 52) (q := 0) (i := 0) rfl rfl dX4_add_51 rfl ?_
    refine wp_dupR (pc' := 53) dX4_add_52 rfl ?_
    refine wp_getI (pc' := 56) (k := 4) dX4_add_53 vc4 (by decide) rfl lfX4_24 h1 rfl ?_
    refine wp_iconst (pc' := 57) dX4_add_56 rfl ?_
    refine wp_iadd (pc' := 58) dX4_add_57 rfl ?_
    obtain ⟨I15, eI15⟩ : ∃ z : II, z = up2 I14 a0 4 ((I14 a0 4) + 1) := ⟨_, rfl⟩
    have h := h I15 eI15
    refine wp_putI (pc' := 61) (k := 4) (I' := I15) dX4_add_58 vc4 (by decide) rfl rfl (tyX4_ok 4 (by decide)) lfX4_24 h1 rfl eI15 ?_
    exact wp_dropP (leP_d (leP_d (leP_d (leP_d (leP_d leP_n))))) h

set_option maxRecDepth 4000 in
theorem gX4_add_61 {Q : QT} {I : II} {R : RR} {N : Nat} 
    (h : Q none I R) : wp (kN N) mX4_add Q 61 [none, none, none, none, none] [] I R N := by
  exact wp_vreturn dX4_add_61 rfl rfl h

theorem sX4_copy {Q : QT} {I : II} {R : RR} {N : Nat} {a0 : Nat} {a1 : Nat} (hN : N < 1000) (h : wp (kN N) mX4_copy Q 0 [vR a0, vR a1] [] I R N) : Spec mX4_copy [vR a0, vR a1] I R N N Q := Spec_of_wp pyX4_copy rfl (Nat.le_of_ble_eq_true rfl) (Nat.le_refl _) hN h

set_option maxRecDepth 4000 in
theorem gX4_copy_0 {Q : QT} {I : II} {R : RR} {N : Nat} {a0 : Nat} {a1 : Nat}
    (h : (isO N a1 4) ∧
      (isO N a0 4) ∧
      (isA N (R a1 0) 1 200) ∧
      (isA N (R a0 0) 1 200) ∧
      (0 ≤ (0 : Int) ∧ 0 ≤ (0 : Int) ∧ 0 ≤ (I a1 4) ∧ (0 : Int) + (I a1 4) ≤ 200 ∧ (0 : Int) + (I a1 4) ≤ 200) ∧
      (∀ I6 : II, I6 = cpy2 I (R a1 0) (R a0 0) 0 0 ((I a1 4).toNat) →
      (isA N (R a1 1) 1 200) ∧
      (isA N (R a0 1) 1 200) ∧
      (0 ≤ (0 : Int) ∧ 0 ≤ (0 : Int) ∧ 0 ≤ (I6 a1 4) ∧ (0 : Int) + (I6 a1 4) ≤ 200 ∧ (0 : Int) + (I6 a1 4) ≤ 200) ∧
      (∀ I10 : II, I10 = cpy2 I6 (R a1 1) (R a0 1) 0 0 ((I6 a1 4).toNat) →
      (isA N (R a1 2) 1 200) ∧
      (isA N (R a0 2) 1 200) ∧
      (0 ≤ (0 : Int) ∧ 0 ≤ (0 : Int) ∧ 0 ≤ (I10 a1 4) ∧ (0 : Int) + (I10 a1 4) ≤ 200 ∧ (0 : Int) + (I10 a1 4) ≤ 200) ∧
      (∀ I14 : II, I14 = cpy2 I10 (R a1 2) (R a0 2) 0 0 ((I10 a1 4).toNat) →
      (isA N (R a1 3) 1 200) ∧
      (isA N (R a0 3) 1 200) ∧
      (0 ≤ (0 : Int) ∧ 0 ≤ (0 : Int) ∧ 0 ≤ (I14 a1 4) ∧ (0 : Int) + (I14 a1 4) ≤ 200 ∧ (0 : Int) + (I14 a1 4) ≤ 200) ∧
      (∀ I18 : II, I18 = cpy2 I14 (R a1 3) (R a0 3) 0 0 ((I14 a1 4).toNat) →
      (∀ I19 : II, I19 = up2 I18 a0 4 (I18 a1 4) →
      Q none I19 R)))))) : wp (kN N) mX4_copy Q 0 [vR a0, vR a1] [] I R N := by
  refine wp_aload_n (pc' := 1) (q := 1) (i := 1) rfl rfl dX4_copy_0 rfl ?_
  obtain ⟨h1, h⟩ := h
  refine wp_getR (pc' := 4) (k := 0) dX4_copy_1 vc4 (by decide) rfl lfX4_9 h1 rfl ?_
  refine wp_iconst (pc' := 5) dX4_copy_4 rfl ?_
  refine wp_aload_n (pc' := 6) (q := 0) (i := 0) rfl rfl dX4_copy_5 rfl ?_
  obtain ⟨h2, h⟩ := h
  refine wp_getR (pc' := 9) (k := 0) dX4_copy_6 vc4 (by decide) rfl lfX4_9 h2 rfl ?_
  refine wp_iconst (pc' := 10) dX4_copy_9 rfl ?_
  refine wp_aload_n (pc' := 11) (q := 1) (i := 1) rfl rfl dX4_copy_10 rfl ?_
  refine wp_getI (pc' := 14) (k := 4) dX4_copy_11 vc4 (by decide) rfl lfX4_24 h1 rfl ?_
  obtain ⟨h3, h⟩ := h
  obtain ⟨h4, h⟩ := h
  obtain ⟨h5, h⟩ := h
  obtain ⟨I6, eI6⟩ : ∃ z : II, z = cpy2 I (R a1 0) (R a0 0) 0 0 ((I a1 4).toNat) := ⟨_, rfl⟩
  have h := h I6 eI6
  refine wp_copy (pc' := 17) (I' := I6) dX4_copy_14 lkX4_28 ac_nat ac_st iiSystem h3 h4 h5 ⟨Nat.le_of_ble_eq_true rfl, Nat.le_of_ble_eq_true rfl⟩ rfl eI6 ?_
  refine wp_aload_n (pc' := 18) (q := 1) (i := 1) rfl rfl dX4_copy_17 rfl ?_
  refine wp_getR (pc' := 21) (k := 1) dX4_copy_18 vc4 (by decide) rfl lfX4_15 h1 rfl ?_
  refine wp_iconst (pc' := 22) dX4_copy_21 rfl ?_
  refine wp_aload_n (pc' := 23) (q := 0) (i := 0) rfl rfl dX4_copy_22 rfl ?_
  refine wp_getR (pc' := 26) (k := 1) dX4_copy_23 vc4 (by decide) rfl lfX4_15 h2 rfl ?_
  refine wp_iconst (pc' := 27) dX4_copy_26 rfl ?_
  refine wp_aload_n (pc' := 28) (q := 1) (i := 1) rfl rfl dX4_copy_27 rfl ?_
  refine wp_getI (pc' := 31) (k := 4) dX4_copy_28 vc4 (by decide) rfl lfX4_24 h1 rfl ?_
  obtain ⟨h7, h⟩ := h
  obtain ⟨h8, h⟩ := h
  obtain ⟨h9, h⟩ := h
  obtain ⟨I10, eI10⟩ : ∃ z : II, z = cpy2 I6 (R a1 1) (R a0 1) 0 0 ((I6 a1 4).toNat) := ⟨_, rfl⟩
  have h := h I10 eI10
  refine wp_copy (pc' := 34) (I' := I10) dX4_copy_31 lkX4_28 ac_nat ac_st iiSystem h7 h8 h9 ⟨Nat.le_of_ble_eq_true rfl, Nat.le_of_ble_eq_true rfl⟩ rfl eI10 ?_
  refine wp_aload_n (pc' := 35) (q := 1) (i := 1) rfl rfl dX4_copy_34 rfl ?_
  refine wp_getR (pc' := 38) (k := 2) dX4_copy_35 vc4 (by decide) rfl lfX4_18 h1 rfl ?_
  refine wp_iconst (pc' := 39) dX4_copy_38 rfl ?_
  refine wp_aload_n (pc' := 40) (q := 0) (i := 0) rfl rfl dX4_copy_39 rfl ?_
  refine wp_getR (pc' := 43) (k := 2) dX4_copy_40 vc4 (by decide) rfl lfX4_18 h2 rfl ?_
  refine wp_iconst (pc' := 44) dX4_copy_43 rfl ?_
  refine wp_aload_n (pc' := 45) (q := 1) (i := 1) rfl rfl dX4_copy_44 rfl ?_
  refine wp_getI (pc' := 48) (k := 4) dX4_copy_45 vc4 (by decide) rfl lfX4_24 h1 rfl ?_
  obtain ⟨h11, h⟩ := h
  obtain ⟨h12, h⟩ := h
  obtain ⟨h13, h⟩ := h
  obtain ⟨I14, eI14⟩ : ∃ z : II, z = cpy2 I10 (R a1 2) (R a0 2) 0 0 ((I10 a1 4).toNat) := ⟨_, rfl⟩
  have h := h I14 eI14
  refine wp_copy (pc' := 51) (I' := I14) dX4_copy_48 lkX4_28 ac_nat ac_st iiSystem h11 h12 h13 ⟨Nat.le_of_ble_eq_true rfl, Nat.le_of_ble_eq_true rfl⟩ rfl eI14 ?_
  refine wp_aload_n (pc' := 52) (q := 1) (i := 1) rfl rfl dX4_copy_51 rfl ?_
  refine wp_getR (pc' := 55) (k := 3) dX4_copy_52 vc4 (by decide) rfl lfX4_21 h1 rfl ?_
  refine wp_iconst (pc' := 56) dX4_copy_55 rfl ?_
  refine wp_aload_n (pc' := 57) (q := 0) (i := 0) rfl rfl dX4_copy_56 rfl ?_
  refine wp_getR (pc' := 60) (k := 3) dX4_copy_57 vc4 (by decide) rfl lfX4_21 h2 rfl ?_
  refine wp_iconst (pc' := 61) dX4_copy_60 rfl ?_
  refine wp_aload_n (pc' := 62) (q := 1) (i := 1) rfl rfl dX4_copy_61 rfl ?_
  refine wp_getI (pc' := 65) (k := 4) dX4_copy_62 vc4 (by decide) rfl lfX4_24 h1 rfl ?_
  obtain ⟨h15, h⟩ := h
  obtain ⟨h16, h⟩ := h
  obtain ⟨h17, h⟩ := h
  obtain ⟨I18, eI18⟩ : ∃ z : II, z = cpy2 I14 (R a1 3) (R a0 3) 0 0 ((I14 a1 4).toNat) := ⟨_, rfl⟩
  have h := h I18 eI18
  refine wp_copy (pc' := 68) (I' := I18) dX4_copy_65 lkX4_28 ac_nat ac_st iiSystem h15 h16 h17 ⟨Nat.le_of_ble_eq_true rfl, Nat.le_of_ble_eq_true rfl⟩ rfl eI18 ?_
  refine wp_aload_n (pc' := 69) (q := 0) (i := 0) rfl rfl dX4_copy_68 rfl ?_
  refine wp_aload_n (pc' := 70) (q := 1) (i := 1) rfl rfl dX4_copy_69 rfl ?_
  refine wp_getI (pc' := 73) (k := 4) dX4_copy_70 vc4 (by decide) rfl lfX4_24 h1 rfl ?_
  obtain ⟨I19, eI19⟩ : ∃ z : II, z = up2 I18 a0 4 (I18 a1 4) := ⟨_, rfl⟩
  have h := h I19 eI19
  refine wp_putI (pc' := 76) (k := 4) (I' := I19) dX4_copy_73 vc4 (by decide) rfl rfl (tyX4_ok 4 (by decide)) lfX4_24 h2 rfl eI19 ?_
  exact wp_vreturn dX4_copy_76 rfl rfl h

theorem sX4_seenOf {Q : QT} {I : II} {R : RR} {N : Nat} {a0 : Nat} {a1 : Nat} {a2 : Int} (hN : N < 1000) (h : wp (kN N) mX4_seenOf Q 0 [vR a0, vR a1, vI a2, none, none, none] [] I R N) : Spec mX4_seenOf [vR a0, vR a1, vI a2] I R N N Q := Spec_of_wp pyX4_seenOf rfl (Nat.le_of_ble_eq_true rfl) (Nat.le_refl _) hN h

set_option maxRecDepth 4000 in
theorem gX4_seenOf_0 {Q : QT} {I : II} {R : RR} {N : Nat} {a0 : Nat} {a1 : Nat} {a2 : Int}
    (h : (isO N a1 6) ∧
      (isA N (R a1 0) 2 20) ∧
      (0 ≤ a2 ∧ a2 < 20) ∧
      (InI (I (R a1 0) a2.toNat)) ∧
      (((I (R a1 0) a2.toNat) = 0 →
      wp (kN N) mX4_seenOf Q 22 [vR a0, none, vI a2, vI (I (R a1 0) a2.toNat), vI 0, vI 0] [] I R N) ∧ (¬ (I (R a1 0) a2.toNat) = 0 →
      wp (kN N) mX4_seenOf Q 22 [vR a0, none, vI a2, vI (I (R a1 0) a2.toNat), vI 99, vI 0] [] I R N))) : wp (kN N) mX4_seenOf Q 0 [vR a0, vR a1, vI a2, none, none, none] [] I R N := by
  refine wp_aload_n (pc' := 1) (q := 1) (i := 1) rfl rfl dX4_seenOf_0 rfl ?_
  obtain ⟨h1, h⟩ := h
  refine wp_getR (pc' := 4) (k := 0) dX4_seenOf_1 vc6 (by decide) rfl lfX4_34 h1 rfl ?_
  refine wp_iload_n (pc' := 5) (q := 2) (i := 2) rfl rfl dX4_seenOf_4 rfl ?_
  obtain ⟨h2, h⟩ := h
  obtain ⟨h3, h⟩ := h
  refine wp_zald (pc' := 6) (j := a2.toNat) dX4_seenOf_5 h2 h3 rfl rfl ?_
  refine wp_istore_n (pc' := 7) (q := 3) (i := 3) (L' := [vR a0, vR a1, vI a2, vI (I (R a1 0) a2.toNat), none, none]) rfl (by decide) rfl dX4_seenOf_6 rfl rfl ?_
  refine wp_iload_n (pc' := 8) (q := 3) (i := 3) rfl rfl dX4_seenOf_7 rfl ?_
  obtain ⟨h4, h⟩ := h
  refine wp_if_eq (pc' := 11) (tgt := 16) h4 dX4_seenOf_8 rfl rfl (fun hc => ?_) (fun hc => ?_)
  · have h := h.1 hc
    refine wp_iconst (pc' := 17) dX4_seenOf_16 rfl ?_
    refine wp_istore (pc' := 19) (i := 4) (L' := [vR a0, vR a1, vI a2, vI (I (R a1 0) a2.toNat), vI 0, none]) (by decide) rfl dX4_seenOf_17 rfl rfl ?_
    refine wp_iconst (pc' := 20) dX4_seenOf_19 rfl ?_
    refine wp_istore (pc' := 22) (i := 5) (L' := [vR a0, vR a1, vI a2, vI (I (R a1 0) a2.toNat), vI 0, vI 0]) (by decide) rfl dX4_seenOf_20 rfl rfl ?_
    exact wp_dropP (leP_s (leP_d (leP_s (leP_s (leP_s (leP_s leP_n)))))) h
  · have h := h.2 hc
    refine wp_bipush (pc' := 13) (by decide) dX4_seenOf_11 rfl ?_
    refine wp_goto (tgt := 17) dX4_seenOf_13 rfl ?_
    refine wp_istore (pc' := 19) (i := 4) (L' := [vR a0, vR a1, vI a2, vI (I (R a1 0) a2.toNat), vI 99, none]) (by decide) rfl dX4_seenOf_17 rfl rfl ?_
    refine wp_iconst (pc' := 20) dX4_seenOf_19 rfl ?_
    refine wp_istore (pc' := 22) (i := 5) (L' := [vR a0, vR a1, vI a2, vI (I (R a1 0) a2.toNat), vI 99, vI 0]) (by decide) rfl dX4_seenOf_20 rfl rfl ?_
    exact wp_dropP (leP_s (leP_d (leP_s (leP_s (leP_s (leP_s leP_n)))))) h

set_option maxRecDepth 4000 in
theorem gX4_seenOf_22 {Q : QT} {I : II} {R : RR} {N : Nat} {a0 : Nat} {a2 : Int} {a3 : Int} {a4 : Int} {a5 : Int}
    (h : (isO N a0 4) ∧
      (InI a5) ∧
      (InI (I a0 4)) ∧
      (((I a0 4) ≤ a5 →
      Q (vI a4) I R) ∧ (¬ (I a0 4) ≤ a5 →
      (isA N (R a0 0) 1 200) ∧
      (0 ≤ a5 ∧ a5 < 200) ∧
      (InI (I (R a0 0) a5.toNat)) ∧
      (InI a2) ∧
      ((¬ (I (R a0 0) a5.toNat) = a2 →
      wp (kN N) mX4_seenOf Q 75 [vR a0, none, vI a2, vI a3, vI a4, vI a5] [] I R N) ∧ ((I (R a0 0) a5.toNat) = a2 →
      (InI a3) ∧
      ((a3 = 0 →
      (isA N (R a0 1) 1 200) ∧
      (InI a4) ∧
      (InI (I (R a0 1) a5.toNat)) ∧
      wp (kN N) mX4_seenOf Q 75 [vR a0, none, vI a2, vI a3, vI (max a4 (I (R a0 1) a5.toNat)), vI a5] [] I R N) ∧ (¬ (a3 = 0) →
      (isA N (R a0 1) 1 200) ∧
      (InI a4) ∧
      (InI (I (R a0 1) a5.toNat)) ∧
      wp (kN N) mX4_seenOf Q 75 [vR a0, none, vI a2, vI a3, vI (min a4 (I (R a0 1) a5.toNat)), vI a5] [] I R N))))))) : wp (kN N) mX4_seenOf Q 22 [vR a0, none, vI a2, vI a3, vI a4, vI a5] [] I R N := by
  refine wp_iload (pc' := 24) (i := 5) rfl dX4_seenOf_22 rfl ?_
  refine wp_aload_n (pc' := 25) (q := 0) (i := 0) rfl rfl dX4_seenOf_24 rfl ?_
  obtain ⟨h1, h⟩ := h
  refine wp_getI (pc' := 28) (k := 4) dX4_seenOf_25 vc4 (by decide) rfl lfX4_24 h1 rfl ?_
  obtain ⟨h2, h⟩ := h
  obtain ⟨h3, h⟩ := h
  refine wp_icmp_ge (pc' := 31) (tgt := 81) h2 h3 dX4_seenOf_28 rfl rfl (fun hc => ?_) (fun hc => ?_)
  · have h := h.1 hc
    refine wp_iload (pc' := 83) (i := 4) rfl dX4_seenOf_81 rfl ?_
    exact wp_ireturn dX4_seenOf_83 rfl rfl h
  · have h := h.2 hc
    refine wp_aload_n (pc' := 32) (q := 0) (i := 0) rfl rfl dX4_seenOf_31 rfl ?_
    refine wp_getR (pc' := 35) (k := 0) dX4_seenOf_32 vc4 (by decide) rfl lfX4_9 h1 rfl ?_
    refine wp_iload (pc' := 37) (i := 5) rfl dX4_seenOf_35 rfl ?_
    obtain ⟨h4, h⟩ := h
    obtain ⟨h5, h⟩ := h
    refine wp_iald (pc' := 38) (j := a5.toNat) dX4_seenOf_37 h4 h5 rfl rfl ?_
    refine wp_iload_n (pc' := 39) (q := 2) (i := 2) rfl rfl dX4_seenOf_38 rfl ?_
    obtain ⟨h6, h⟩ := h
    obtain ⟨h7, h⟩ := h
    refine wp_icmp_ne (pc' := 42) (tgt := 75) h6 h7 dX4_seenOf_39 rfl rfl (fun hc => ?_) (fun hc => ?_)
    · have h := h.1 hc
      exact h
    · have h := h.2 hc
      refine wp_iload_n (pc' := 43) (q := 3) (i := 3) rfl rfl dX4_seenOf_42 rfl ?_
      obtain ⟨h8, h⟩ := h
      refine wp_if_eq (pc' := 46) (tgt := 61) h8 dX4_seenOf_43 rfl rfl (fun hc => ?_) (fun hc => ?_)
      · have h := h.1 hc
        refine wp_iload (pc' := 63) (i := 4) rfl dX4_seenOf_61 rfl ?_
        refine wp_aload_n (pc' := 64) (q := 0) (i := 0) rfl rfl dX4_seenOf_63 rfl ?_
        refine wp_getR (pc' := 67) (k := 1) dX4_seenOf_64 vc4 (by decide) rfl lfX4_15 h1 rfl ?_
        refine wp_iload (pc' := 69) (i := 5) rfl dX4_seenOf_67 rfl ?_
        obtain ⟨h9, h⟩ := h
        refine wp_iald (pc' := 70) (j := a5.toNat) dX4_seenOf_69 h9 h5 rfl rfl ?_
        obtain ⟨h10, h⟩ := h
        obtain ⟨h11, h⟩ := h
        refine wp_mmax (pc' := 73) h10 h11 dX4_seenOf_70 lkX4_46 ms_max iiMath mc_max ⟨Nat.le_of_ble_eq_true rfl, Nat.le_of_ble_eq_true rfl⟩ (Nat.le_refl _) rfl ?_
        refine wp_istore (pc' := 75) (i := 4) (L' := [vR a0, none, vI a2, vI a3, vI (max a4 (I (R a0 1) a5.toNat)), vI a5]) (by decide) rfl dX4_seenOf_73 rfl rfl ?_
        exact h
      · have h := h.2 hc
        refine wp_iload (pc' := 48) (i := 4) rfl dX4_seenOf_46 rfl ?_
        refine wp_aload_n (pc' := 49) (q := 0) (i := 0) rfl rfl dX4_seenOf_48 rfl ?_
        refine wp_getR (pc' := 52) (k := 1) dX4_seenOf_49 vc4 (by decide) rfl lfX4_15 h1 rfl ?_
        refine wp_iload (pc' := 54) (i := 5) rfl dX4_seenOf_52 rfl ?_
        obtain ⟨h12, h⟩ := h
        refine wp_iald (pc' := 55) (j := a5.toNat) dX4_seenOf_54 h12 h5 rfl rfl ?_
        obtain ⟨h13, h⟩ := h
        obtain ⟨h14, h⟩ := h
        refine wp_mmin (pc' := 58) h13 h14 dX4_seenOf_55 lkX4_40 ms_min iiMath mc_min ⟨Nat.le_of_ble_eq_true rfl, Nat.le_of_ble_eq_true rfl⟩ (Nat.le_refl _) rfl ?_
        refine wp_goto (tgt := 73) dX4_seenOf_58 rfl ?_
        refine wp_istore (pc' := 75) (i := 4) (L' := [vR a0, none, vI a2, vI a3, vI (min a4 (I (R a0 1) a5.toNat)), vI a5]) (by decide) rfl dX4_seenOf_73 rfl rfl ?_
        exact h

set_option maxRecDepth 4000 in
theorem gX4_seenOf_75 {Q : QT} {I : II} {R : RR} {N : Nat} {a0 : Nat} {a2 : Int} {a3 : Int} {a4 : Int} {a5 : Int}
    (h : wp (kN N) mX4_seenOf Q 22 [vR a0, none, vI a2, vI a3, vI a4, vI (a5 + 1)] [] I R N) : wp (kN N) mX4_seenOf Q 75 [vR a0, none, vI a2, vI a3, vI a4, vI a5] [] I R N := by
  refine wp_iinc (pc' := 78) (i := 5) (L' := [vR a0, none, vI a2, vI a3, vI a4, vI (a5 + 1)]) rfl (by decide) rfl dX4_seenOf_75 rfl rfl ?_
  refine wp_goto (tgt := 22) dX4_seenOf_78 rfl ?_
  exact h

theorem sX4_mayBeBy {Q : QT} {I : II} {R : RR} {N : Nat} {a0 : Nat} {a1 : Nat} {a2 : Int} {a3 : Int} (hN : N < 1000) (h : wp (kN N) mX4_mayBeBy Q 0 [vR a0, vR a1, vI a2, vI a3, none, none, none, none] [] I R N) : Spec mX4_mayBeBy [vR a0, vR a1, vI a2, vI a3] I R N N Q := Spec_of_wp pyX4_mayBeBy rfl (Nat.le_of_ble_eq_true rfl) (Nat.le_refl _) hN h

set_option maxRecDepth 4000 in
theorem gX4_mayBeBy_0 {Q : QT} {I : II} {R : RR} {N : Nat} {a0 : Nat} {a1 : Nat} {a2 : Int} {a3 : Int}
    (h : wp (kN N) mX4_mayBeBy Q 3 [vR a0, vR a1, vI a2, vI a3, vI 0, none, none, none] [] I R N) : wp (kN N) mX4_mayBeBy Q 0 [vR a0, vR a1, vI a2, vI a3, none, none, none, none] [] I R N := by
  refine wp_iconst (pc' := 1) dX4_mayBeBy_0 rfl ?_
  refine wp_istore (pc' := 3) (i := 4) (L' := [vR a0, vR a1, vI a2, vI a3, vI 0, none, none, none]) (by decide) rfl dX4_mayBeBy_1 rfl rfl ?_
  exact h

set_option maxRecDepth 4000 in
theorem gX4_mayBeBy_3 {Q : QT} {I : II} {R : RR} {N : Nat} {a0 : Nat} {a1 : Nat} {a2 : Int} {a3 : Int} {a4 : Int}
    (h : (isO N a0 4) ∧
      (InI a4) ∧
      (InI (I a0 4)) ∧
      (((I a0 4) ≤ a4 →
      Q (vI 1) I R) ∧ (¬ (I a0 4) ≤ a4 →
      (isA N (R a0 0) 1 200) ∧
      (0 ≤ a4 ∧ a4 < 200) ∧
      (InI (I (R a0 0) a4.toNat)) ∧
      (InI a2) ∧
      (((I (R a0 0) a4.toNat) = a2 →
      (isA N (R a0 3) 1 200) ∧
      (∃ Q9 : QT, Spec mX9_span [vR a1, vI a2, vI a3, vI (I (R a0 3) a4.toNat)] I R N N Q9 ∧ (∀ x9 I9 R9, Q9 (vI x9) I9 R9 →
      (isA N (R9 a0 2) 1 200) ∧
      (isA N (R9 a0 3) 1 200) ∧
      (∃ Q12 : QT, Spec mX9_by [vR a1, vI a2, vI a3, vI (I9 (R9 a0 2) a4.toNat), vI (I9 (R9 a0 3) a4.toNat), vI 0] I9 R9 N N Q12 ∧ (∀ x12 I12 R12, Q12 (vI x12) I12 R12 →
      (isA N (R12 a0 2) 1 200) ∧
      (isA N (R12 a0 3) 1 200) ∧
      (∃ Q15 : QT, Spec mX9_by [vR a1, vI a2, vI a3, vI (I12 (R12 a0 2) a4.toNat), vI (I12 (R12 a0 3) a4.toNat), vI (x9 - 1)] I12 R12 N N Q15 ∧ (∀ x15 I15 R15, Q15 (vI x15) I15 R15 →
      (isA N (R15 a0 1) 1 200) ∧
      (isO N a1 6) ∧
      (isA N (R15 a1 0) 2 20) ∧
      (0 ≤ a2 ∧ a2 < 20) ∧
      (I15 (R15 a1 0) a2.toNat = 0 ∨ I15 (R15 a1 0) a2.toNat = 1) ∧
      (InI x12) ∧
      (InI (I15 a1 10)) ∧
      (N < 1000) ∧
      (InI x15) ∧
      (InI (I15 (R15 a0 1) a4.toNat)) ∧
      (InI (if I15 (R15 a1 0) a2.toNat = 0 then min x12 (I15 a1 10) else x12)) ∧
      (InI (if I15 (R15 a1 0) a2.toNat = 0 then min x15 (I15 a1 10) else x15)) ∧
      (((if I15 (R15 a1 0) a2.toNat = 0 then min x12 (I15 a1 10) else x12) ≤ (I15 (R15 a0 1) a4.toNat) ∧ (I15 (R15 a0 1) a4.toNat) ≤ (if I15 (R15 a1 0) a2.toNat = 0 then min x15 (I15 a1 10) else x15) →
      wp (kN N) mX4_mayBeBy Q 119 [vR a0, vR a1, vI a2, vI a3, vI a4, none, none, none] [] I15 R15 N) ∧ (¬ ((if I15 (R15 a1 0) a2.toNat = 0 then min x12 (I15 a1 10) else x12) ≤ (I15 (R15 a0 1) a4.toNat) ∧ (I15 (R15 a0 1) a4.toNat) ≤ (if I15 (R15 a1 0) a2.toNat = 0 then min x15 (I15 a1 10) else x15)) →
      Q (vI 0) I15 R15))))))))) ∧ (¬ (I (R a0 0) a4.toNat) = a2 →
      wp (kN N) mX4_mayBeBy Q 119 [vR a0, vR a1, vI a2, vI a3, vI a4, none, none, none] [] I R N))))) : wp (kN N) mX4_mayBeBy Q 3 [vR a0, vR a1, vI a2, vI a3, vI a4, none, none, none] [] I R N := by
  refine wp_iload (pc' := 5) (i := 4) rfl dX4_mayBeBy_3 rfl ?_
  refine wp_aload_n (pc' := 6) (q := 0) (i := 0) rfl rfl dX4_mayBeBy_5 rfl ?_
  obtain ⟨h1, h⟩ := h
  refine wp_getI (pc' := 9) (k := 4) dX4_mayBeBy_6 vc4 (by decide) rfl lfX4_24 h1 rfl ?_
  obtain ⟨h2, h⟩ := h
  obtain ⟨h3, h⟩ := h
  refine wp_icmp_ge (pc' := 12) (tgt := 125) h2 h3 dX4_mayBeBy_9 rfl rfl (fun hc => ?_) (fun hc => ?_)
  · have h := h.1 hc
    refine wp_iconst (pc' := 126) dX4_mayBeBy_125 rfl ?_
    exact wp_zreturn dX4_mayBeBy_126 rfl rfl (Or.inr rfl) h
  · have h := h.2 hc
    refine wp_aload_n (pc' := 13) (q := 0) (i := 0) rfl rfl dX4_mayBeBy_12 rfl ?_
    refine wp_getR (pc' := 16) (k := 0) dX4_mayBeBy_13 vc4 (by decide) rfl lfX4_9 h1 rfl ?_
    refine wp_iload (pc' := 18) (i := 4) rfl dX4_mayBeBy_16 rfl ?_
    obtain ⟨h4, h⟩ := h
    obtain ⟨h5, h⟩ := h
    refine wp_iald (pc' := 19) (j := a4.toNat) dX4_mayBeBy_18 h4 h5 rfl rfl ?_
    refine wp_iload_n (pc' := 20) (q := 2) (i := 2) rfl rfl dX4_mayBeBy_19 rfl ?_
    obtain ⟨h6, h⟩ := h
    obtain ⟨h7, h⟩ := h
    refine wp_icmp_eq (pc' := 23) (tgt := 26) h6 h7 dX4_mayBeBy_20 rfl rfl (fun hc => ?_) (fun hc => ?_)
    · have h := h.1 hc
      refine wp_aload_n (pc' := 27) (q := 1) (i := 1) rfl rfl dX4_mayBeBy_26 rfl ?_
      refine wp_iload_n (pc' := 28) (q := 2) (i := 2) rfl rfl dX4_mayBeBy_27 rfl ?_
      refine wp_iload_n (pc' := 29) (q := 3) (i := 3) rfl rfl dX4_mayBeBy_28 rfl ?_
      refine wp_aload_n (pc' := 30) (q := 0) (i := 0) rfl rfl dX4_mayBeBy_29 rfl ?_
      refine wp_getR (pc' := 33) (k := 3) dX4_mayBeBy_30 vc4 (by decide) rfl lfX4_21 h1 rfl ?_
      refine wp_iload (pc' := 35) (i := 4) rfl dX4_mayBeBy_33 rfl ?_
      obtain ⟨h8, h⟩ := h
      refine wp_iald (pc' := 36) (j := a4.toNat) dX4_mayBeBy_35 h8 h5 rfl rfl ?_
      obtain ⟨Q9, hs9, h⟩ := h
      refine wp_callS (pc' := 39) (as := [vR a1, vI a2, vI a3, vI (I (R a0 3) a4.toNat)]) (rest := []) hs9 dX4_mayBeBy_36 rfl lkX4_49 okX9_span stX9_span ⟨Nat.le_of_ble_eq_true rfl, Nat.le_of_ble_eq_true rfl⟩ (Nat.le_of_ble_eq_true rfl) (Nat.le_refl _) (Nat.le_refl _) okP_eq okP_eq rfl (rvI rfl (fun x9 I9 R9 hq9 => ?_))
      have h := h x9 I9 R9 hq9
      refine wp_iconst (pc' := 40) dX4_mayBeBy_39 rfl ?_
      refine wp_isub (pc' := 41) dX4_mayBeBy_40 rfl ?_
      refine wp_istore (pc' := 43) (i := 5) (L' := [vR a0, vR a1, vI a2, vI a3, vI a4, vI (x9 - 1), none, none]) (by decide) rfl dX4_mayBeBy_41 rfl rfl ?_
      refine wp_aload_n (pc' := 44) (q := 1) (i := 1) rfl rfl dX4_mayBeBy_43 rfl ?_
      refine wp_iload_n (pc' := 45) (q := 2) (i := 2) rfl rfl dX4_mayBeBy_44 rfl ?_
      refine wp_iload_n (pc' := 46) (q := 3) (i := 3) rfl rfl dX4_mayBeBy_45 rfl ?_
      refine wp_aload_n (pc' := 47) (q := 0) (i := 0) rfl rfl dX4_mayBeBy_46 rfl ?_
      refine wp_getR (pc' := 50) (k := 2) dX4_mayBeBy_47 vc4 (by decide) rfl lfX4_18 h1 rfl ?_
      refine wp_iload (pc' := 52) (i := 4) rfl dX4_mayBeBy_50 rfl ?_
      obtain ⟨h10, h⟩ := h
      refine wp_iald (pc' := 53) (j := a4.toNat) dX4_mayBeBy_52 h10 h5 rfl rfl ?_
      refine wp_aload_n (pc' := 54) (q := 0) (i := 0) rfl rfl dX4_mayBeBy_53 rfl ?_
      refine wp_getR (pc' := 57) (k := 3) dX4_mayBeBy_54 vc4 (by decide) rfl lfX4_21 h1 rfl ?_
      refine wp_iload (pc' := 59) (i := 4) rfl dX4_mayBeBy_57 rfl ?_
      obtain ⟨h11, h⟩ := h
      refine wp_iald (pc' := 60) (j := a4.toNat) dX4_mayBeBy_59 h11 h5 rfl rfl ?_
      refine wp_iconst (pc' := 61) dX4_mayBeBy_60 rfl ?_
      obtain ⟨Q12, hs12, h⟩ := h
      refine wp_callS (pc' := 64) (as := [vR a1, vI a2, vI a3, vI (I9 (R9 a0 2) a4.toNat), vI (I9 (R9 a0 3) a4.toNat), vI 0]) (rest := []) hs12 dX4_mayBeBy_61 rfl lkX4_55 okX9_by stX9_by ⟨Nat.le_of_ble_eq_true rfl, Nat.le_of_ble_eq_true rfl⟩ (Nat.le_of_ble_eq_true rfl) (Nat.le_refl _) (Nat.le_refl _) okP_eq okP_eq rfl (rvI rfl (fun x12 I12 R12 hq12 => ?_))
      have h := h x12 I12 R12 hq12
      refine wp_istore (pc' := 66) (i := 6) (L' := [vR a0, vR a1, vI a2, vI a3, vI a4, vI (x9 - 1), vI x12, none]) (by decide) rfl dX4_mayBeBy_64 rfl rfl ?_
      refine wp_aload_n (pc' := 67) (q := 1) (i := 1) rfl rfl dX4_mayBeBy_66 rfl ?_
      refine wp_iload_n (pc' := 68) (q := 2) (i := 2) rfl rfl dX4_mayBeBy_67 rfl ?_
      refine wp_iload_n (pc' := 69) (q := 3) (i := 3) rfl rfl dX4_mayBeBy_68 rfl ?_
      refine wp_aload_n (pc' := 70) (q := 0) (i := 0) rfl rfl dX4_mayBeBy_69 rfl ?_
      refine wp_getR (pc' := 73) (k := 2) dX4_mayBeBy_70 vc4 (by decide) rfl lfX4_18 h1 rfl ?_
      refine wp_iload (pc' := 75) (i := 4) rfl dX4_mayBeBy_73 rfl ?_
      obtain ⟨h13, h⟩ := h
      refine wp_iald (pc' := 76) (j := a4.toNat) dX4_mayBeBy_75 h13 h5 rfl rfl ?_
      refine wp_aload_n (pc' := 77) (q := 0) (i := 0) rfl rfl dX4_mayBeBy_76 rfl ?_
      refine wp_getR (pc' := 80) (k := 3) dX4_mayBeBy_77 vc4 (by decide) rfl lfX4_21 h1 rfl ?_
      refine wp_iload (pc' := 82) (i := 4) rfl dX4_mayBeBy_80 rfl ?_
      obtain ⟨h14, h⟩ := h
      refine wp_iald (pc' := 83) (j := a4.toNat) dX4_mayBeBy_82 h14 h5 rfl rfl ?_
      refine wp_iload (pc' := 85) (i := 5) rfl dX4_mayBeBy_83 rfl ?_
      obtain ⟨Q15, hs15, h⟩ := h
      refine wp_callS (pc' := 88) (as := [vR a1, vI a2, vI a3, vI (I12 (R12 a0 2) a4.toNat), vI (I12 (R12 a0 3) a4.toNat), vI (x9 - 1)]) (rest := []) hs15 dX4_mayBeBy_85 rfl lkX4_55 okX9_by stX9_by ⟨Nat.le_of_ble_eq_true rfl, Nat.le_of_ble_eq_true rfl⟩ (Nat.le_of_ble_eq_true rfl) (Nat.le_refl _) (Nat.le_refl _) okP_eq okP_eq rfl (rvI rfl (fun x15 I15 R15 hq15 => ?_))
      have h := h x15 I15 R15 hq15
      refine wp_istore (pc' := 90) (i := 7) (L' := [vR a0, vR a1, vI a2, vI a3, vI a4, vI (x9 - 1), vI x12, vI x15]) (by decide) rfl dX4_mayBeBy_88 rfl rfl ?_
      refine wp_aload_n (pc' := 91) (q := 0) (i := 0) rfl rfl dX4_mayBeBy_90 rfl ?_
      refine wp_getR (pc' := 94) (k := 1) dX4_mayBeBy_91 vc4 (by decide) rfl lfX4_15 h1 rfl ?_
      refine wp_iload (pc' := 96) (i := 4) rfl dX4_mayBeBy_94 rfl ?_
      obtain ⟨h16, h⟩ := h
      refine wp_iald (pc' := 97) (j := a4.toNat) dX4_mayBeBy_96 h16 h5 rfl rfl ?_
      refine wp_aload_n (pc' := 98) (q := 1) (i := 1) rfl rfl dX4_mayBeBy_97 rfl ?_
      refine wp_iload_n (pc' := 99) (q := 2) (i := 2) rfl rfl dX4_mayBeBy_98 rfl ?_
      refine wp_iload (pc' := 101) (i := 6) rfl dX4_mayBeBy_99 rfl ?_
      obtain ⟨h18, h⟩ := h
      obtain ⟨h19, h⟩ := h
      obtain ⟨h20, h⟩ := h
      obtain ⟨h21, h⟩ := h
      obtain ⟨h22, h⟩ := h
      obtain ⟨h23, h⟩ := h
      obtain ⟨h24, h⟩ := h
      refine wp_callS (pc' := 104) (as := [vR a1, vI a2, vI x12]) (rest := [vI (I15 (R15 a0 1) a4.toNat)]) (pX9_underLid h24 h18 h19 h20 h21 h22 h23) dX4_mayBeBy_101 rfl lkX4_59 okX9_underLid stX9_underLid ⟨Nat.le_of_ble_eq_true rfl, Nat.le_of_ble_eq_true rfl⟩ (Nat.le_of_ble_eq_true rfl) (Nat.le_refl _) (Nat.le_refl _) okP_eq okP_eq rfl (rvI rfl (fun x17 I17 R17 hq17 => ?_))
      obtain ⟨eR17, eI17, ex17⟩ := hq17; subst eR17; subst eI17; cases ex17
      refine wp_aload_n (pc' := 105) (q := 1) (i := 1) rfl rfl dX4_mayBeBy_104 rfl ?_
      refine wp_iload_n (pc' := 106) (q := 2) (i := 2) rfl rfl dX4_mayBeBy_105 rfl ?_
      refine wp_iload (pc' := 108) (i := 7) rfl dX4_mayBeBy_106 rfl ?_
      obtain ⟨h26, h⟩ := h
      refine wp_callS (pc' := 111) (as := [vR a1, vI a2, vI x15]) (rest := [vI (if I15 (R15 a1 0) a2.toNat = 0 then min x12 (I15 a1 10) else x12), vI (I15 (R15 a0 1) a4.toNat)]) (pX9_underLid h24 h18 h19 h20 h21 h26 h23) dX4_mayBeBy_108 rfl lkX4_59 okX9_underLid stX9_underLid ⟨Nat.le_of_ble_eq_true rfl, Nat.le_of_ble_eq_true rfl⟩ (Nat.le_of_ble_eq_true rfl) (Nat.le_refl _) (Nat.le_refl _) okP_eq okP_eq rfl (rvI rfl (fun x25 I25 R25 hq25 => ?_))
      obtain ⟨eR25, eI25, ex25⟩ := hq25; subst eR25; subst eI25; cases ex25
      obtain ⟨h28, h⟩ := h
      obtain ⟨h29, h⟩ := h
      obtain ⟨h30, h⟩ := h
      refine wp_callSN (pc' := 114) (as := [vI (I15 (R15 a0 1) a4.toNat), vI (if I15 (R15 a1 0) a2.toNat = 0 then min x12 (I15 a1 10) else x12), vI (if I15 (R15 a1 0) a2.toNat = 0 then min x15 (I15 a1 10) else x15)]) (rest := []) (pX10_within h24 h28 h29 h30) dX4_mayBeBy_111 rfl lnX4_63 okX10_within stX10_within ⟨Nat.le_of_ble_eq_true rfl, Nat.le_of_ble_eq_true rfl⟩ (Nat.le_of_ble_eq_true rfl) (Nat.le_refl _) (Nat.le_refl _) okP_eq okP_eq rfl (rvZ rfl (fun x27 I27 R27 hz27 hq27 => ?_))
      obtain ⟨eR27, eI27, ex27⟩ := hq27; subst eR27; subst eI27; cases ex27
      by_cases hc : (if I15 (R15 a1 0) a2.toNat = 0 then min x12 (I15 a1 10) else x12) ≤ (I15 (R15 a0 1) a4.toNat) ∧ (I15 (R15 a0 1) a4.toNat) ≤ (if I15 (R15 a1 0) a2.toNat = 0 then min x15 (I15 a1 10) else x15)
      · rw [if_pos hc]; have h := h.1 hc
        refine wp_if_ne (pc' := 117) (tgt := 119) ⟨by decide, by decide⟩ dX4_mayBeBy_114 rfl rfl (fun hc => ?_) (fun hc => by exfalso; revert hc; decide)
        exact wp_dropP (leP_s (leP_s (leP_s (leP_s (leP_s (leP_d (leP_d (leP_d leP_n)))))))) h
      · rw [if_neg hc]; have h := h.2 hc
        refine wp_if_ne (pc' := 117) (tgt := 119) ⟨by decide, by decide⟩ dX4_mayBeBy_114 rfl rfl (fun hc => by exfalso; revert hc; decide) (fun hc => ?_)
        refine wp_iconst (pc' := 118) dX4_mayBeBy_117 rfl ?_
        exact wp_zreturn dX4_mayBeBy_118 rfl rfl (Or.inl rfl) h
    · have h := h.2 hc
      refine wp_goto (tgt := 119) dX4_mayBeBy_23 rfl ?_
      exact h

set_option maxRecDepth 4000 in
theorem gX4_mayBeBy_119 {Q : QT} {I : II} {R : RR} {N : Nat} {a0 : Nat} {a1 : Nat} {a2 : Int} {a3 : Int} {a4 : Int}
    (h : wp (kN N) mX4_mayBeBy Q 3 [vR a0, vR a1, vI a2, vI a3, vI (a4 + 1), none, none, none] [] I R N) : wp (kN N) mX4_mayBeBy Q 119 [vR a0, vR a1, vI a2, vI a3, vI a4, none, none, none] [] I R N := by
  refine wp_iinc (pc' := 122) (i := 4) (L' := [vR a0, vR a1, vI a2, vI a3, vI (a4 + 1), none, none, none]) rfl (by decide) rfl dX4_mayBeBy_119 rfl rfl ?_
  refine wp_goto (tgt := 3) dX4_mayBeBy_122 rfl ?_
  exact h

theorem sX5_read {Q : QT} {I : II} {R : RR} {a1 : Nat} {a2 : Nat} (h : wp (kN 89) mX5_read Q 0 [vR 4, vR a1, vR a2, none, none] [] I R 89) : Spec mX5_read [vR 4, vR a1, vR a2] I R 89 89 Q := Spec_of_wp pyX5_read rfl (Nat.le_of_ble_eq_true rfl) (Nat.le_refl _) (by decide) h

set_option maxRecDepth 4000 in
theorem gX5_read_0 {Q : QT} {I : II} {R : RR} (hR : SR R) {a1 : Nat} {a2 : Nat}
    (h : (isO 89 a2 6) ∧
      (∃ Q1 : QT, Spec mX6_empty [vR a2] I R 89 89 Q1 ∧ (∀ I1 R1, Q1 none I1 R1 →
      R = R1 ∧ wp (kN 89) mX5_read Q 9 [vR 4, vR a1, vR a2, vI 0, vI 0] [] I1 R 89))) : wp (kN 89) mX5_read Q 0 [vR 4, vR a1, vR a2, none, none] [] I R 89 := by
  refine wp_aload_n (pc' := 1) (q := 2) (i := 2) rfl rfl dX5_read_0 rfl ?_
  obtain ⟨h2, h⟩ := h
  obtain ⟨Q1, hs1, h⟩ := h
  refine wp_callV (pc' := 4) (as := []) (rest := []) hs1 dX5_read_1 rfl lkX5_22 okX6_empty inX6_empty seX6_empty h2 vc6 ⟨Nat.le_of_ble_eq_true rfl, Nat.le_of_ble_eq_true rfl⟩ (Nat.le_of_ble_eq_true rfl) (Nat.le_refl _) (Nat.le_refl _) okP_eq okP_eq rfl (rvV rfl (fun I1 R1 hq1 => ?_))
  obtain ⟨hRR1, h⟩ := h I1 R1 hq1; subst hRR1
  refine wp_iconst (pc' := 5) dX5_read_4 rfl ?_
  refine wp_istore_n (pc' := 6) (q := 3) (i := 3) (L' := [vR 4, vR a1, vR a2, vI 0, none]) rfl (by decide) rfl dX5_read_5 rfl rfl ?_
  refine wp_iconst (pc' := 7) dX5_read_6 rfl ?_
  refine wp_istore (pc' := 9) (i := 4) (L' := [vR 4, vR a1, vR a2, vI 0, vI 0]) (by decide) rfl dX5_read_7 rfl rfl ?_
  exact h

set_option maxRecDepth 4000 in
theorem gX5_read_9 {Q : QT} {I : II} {R : RR} (hR : SR R) {a1 : Nat} {a2 : Nat} {a3 : Int} {a4 : Int}
    (h : (InI a4) ∧
      (((300 : Int) ≤ a4 →
      wp (kN 89) mX5_read Q 61 [none, none, none, none, none] [] I R 89) ∧ (¬ (300 : Int) ≤ a4 →
      (isO 89 a1 8) ∧
      (InI a3) ∧
      (InI (I a1 1)) ∧
      (((I a1 1) ≤ a3 →
      wp (kN 89) mX5_read Q 61 [none, none, none, none, none] [] I R 89) ∧ (¬ (I a1 1) ≤ a3 →
      (∃ Q5 : QT, Spec mX5_split [vR 4, vR a1, vI a3] I R 89 89 Q5 ∧ (∀ x5 I5 R5, (x5 = 0 ∨ x5 = 1) → Q5 (vI x5) I5 R5 →
      R = R5 ∧ (InI x5) ∧
      ((x5 = 0 →
      wp (kN 89) mX5_read Q 48 [none, none, none, vI a3, none] [] I5 R 89) ∧ (¬ (x5 = 0) →
      (isA 89 (R a1 0) 1 300) ∧
      (0 ≤ a3 ∧ a3 < 300) ∧
      (∃ Q9 : QT, Spec mX5_take [vR 4, vI (I5 (R a1 0) a3.toNat), vR a2] I5 R 89 89 Q9 ∧ (∀ x9 I9 R9, (x9 = 0 ∨ x9 = 1) → Q9 (vI x9) I9 R9 →
      R = R9 ∧ (InI x9) ∧
      ((¬ x9 = 0 →
      wp (kN 89) mX5_read Q 9 [vR 4, vR a1, vR a2, vI (I9 4 2), vI (a4 + 1)] [] I9 R 89) ∧ (x9 = 0 →
      wp (kN 89) mX5_read Q 48 [none, none, none, vI a3, none] [] I9 R 89))))))))))))) : wp (kN 89) mX5_read Q 9 [vR 4, vR a1, vR a2, vI a3, vI a4] [] I R 89 := by
  refine wp_iload (pc' := 11) (i := 4) rfl dX5_read_9 rfl ?_
  refine wp_sipush (pc' := 14) (by decide) dX5_read_11 rfl ?_
  obtain ⟨h1, h⟩ := h
  refine wp_icmp_ge (pc' := 17) (tgt := 61) h1 ⟨by decide, by decide⟩ dX5_read_14 rfl rfl (fun hc => ?_) (fun hc => ?_)
  · have h := h.1 hc
    exact wp_dropP (leP_d (leP_d (leP_d (leP_d (leP_d leP_n))))) h
  · have h := h.2 hc
    refine wp_iload_n (pc' := 18) (q := 3) (i := 3) rfl rfl dX5_read_17 rfl ?_
    refine wp_aload_n (pc' := 19) (q := 1) (i := 1) rfl rfl dX5_read_18 rfl ?_
    obtain ⟨h2, h⟩ := h
    refine wp_getI (pc' := 22) (k := 1) dX5_read_19 vc8 (by decide) rfl lfX5_27 h2 rfl ?_
    obtain ⟨h3, h⟩ := h
    obtain ⟨h4, h⟩ := h
    refine wp_icmp_ge (pc' := 25) (tgt := 61) h3 h4 dX5_read_22 rfl rfl (fun hc => ?_) (fun hc => ?_)
    · have h := h.1 hc
      exact wp_dropP (leP_d (leP_d (leP_d (leP_d (leP_d leP_n))))) h
    · have h := h.2 hc
      refine wp_aload_n (pc' := 26) (q := 0) (i := 0) rfl rfl dX5_read_25 rfl ?_
      refine wp_aload_n (pc' := 27) (q := 1) (i := 1) rfl rfl dX5_read_26 rfl ?_
      refine wp_iload_n (pc' := 28) (q := 3) (i := 3) rfl rfl dX5_read_27 rfl ?_
      obtain ⟨Q5, hs5, h⟩ := h
      refine wp_callV (pc' := 31) (as := [vR a1, vI a3]) (rest := []) hs5 dX5_read_28 rfl lkX5_32 okX5_split inX5_split seX5_split o_4 vc5 ⟨Nat.le_of_ble_eq_true rfl, Nat.le_of_ble_eq_true rfl⟩ (Nat.le_of_ble_eq_true rfl) (Nat.le_refl _) (Nat.le_refl _) okP_eq okP_eq rfl (rvZ rfl (fun x5 I5 R5 hz5 hq5 => ?_))
      obtain ⟨hRR5, h⟩ := h x5 I5 R5 hz5 hq5; subst hRR5
      obtain ⟨h6, h⟩ := h
      refine wp_if_eq (pc' := 34) (tgt := 48) h6 dX5_read_31 rfl rfl (fun hc => ?_) (fun hc => ?_)
      · have h := h.1 hc
        exact wp_dropP (leP_d (leP_d (leP_d (leP_s (leP_d leP_n))))) h
      · have h := h.2 hc
        refine wp_aload_n (pc' := 35) (q := 0) (i := 0) rfl rfl dX5_read_34 rfl ?_
        refine wp_aload_n (pc' := 36) (q := 1) (i := 1) rfl rfl dX5_read_35 rfl ?_
        refine wp_getR (pc' := 39) (k := 0) dX5_read_36 vc8 (by decide) rfl lfX5_36 h2 rfl ?_
        refine wp_iload_n (pc' := 40) (q := 3) (i := 3) rfl rfl dX5_read_39 rfl ?_
        obtain ⟨h7, h⟩ := h
        obtain ⟨h8, h⟩ := h
        refine wp_iald (pc' := 41) (j := a3.toNat) dX5_read_40 h7 h8 rfl rfl ?_
        refine wp_aload_n (pc' := 42) (q := 2) (i := 2) rfl rfl dX5_read_41 rfl ?_
        obtain ⟨Q9, hs9, h⟩ := h
        refine wp_callV (pc' := 45) (as := [vI (I5 (R a1 0) a3.toNat), vR a2]) (rest := []) hs9 dX5_read_42 rfl lkX5_39 okX5_take inX5_take seX5_take o_4 vc5 ⟨Nat.le_of_ble_eq_true rfl, Nat.le_of_ble_eq_true rfl⟩ (Nat.le_of_ble_eq_true rfl) (Nat.le_refl _) (Nat.le_refl _) okP_eq okP_eq rfl (rvZ rfl (fun x9 I9 R9 hz9 hq9 => ?_))
        obtain ⟨hRR9, h⟩ := h x9 I9 R9 hz9 hq9; subst hRR9
        obtain ⟨h10, h⟩ := h
        refine wp_if_ne (pc' := 48) (tgt := 50) h10 dX5_read_45 rfl rfl (fun hc => ?_) (fun hc => ?_)
        · have h := h.1 hc
          refine wp_aload_n (pc' := 51) (q := 0) (i := 0) rfl rfl dX5_read_50 rfl ?_
          refine wp_getI (pc' := 54) (k := 2) dX5_read_51 vc5 (by decide) rfl lfX5_19 o_4 rfl ?_
          refine wp_istore_n (pc' := 55) (q := 3) (i := 3) (L' := [vR 4, vR a1, vR a2, vI (I9 4 2), vI a4]) rfl (by decide) rfl dX5_read_54 rfl rfl ?_
          refine wp_iinc (pc' := 58) (i := 4) (L' := [vR 4, vR a1, vR a2, vI (I9 4 2), vI (a4 + 1)]) rfl (by decide) rfl dX5_read_55 rfl rfl ?_
          refine wp_goto (tgt := 9) dX5_read_58 rfl ?_
          exact h
        · have h := h.2 hc
          exact wp_dropP (leP_d (leP_d (leP_d (leP_s (leP_d leP_n))))) h

set_option maxRecDepth 4000 in
theorem gX5_read_48 {Q : QT} {I : II} {R : RR} (hR : SR R) {a3 : Int}
    (h : Q (vI a3) I R) : wp (kN 89) mX5_read Q 48 [none, none, none, vI a3, none] [] I R 89 := by
  refine wp_iload_n (pc' := 49) (q := 3) (i := 3) rfl rfl dX5_read_48 rfl ?_
  exact wp_ireturn dX5_read_49 rfl rfl h

set_option maxRecDepth 4000 in
theorem gX5_read_61 {Q : QT} {I : II} {R : RR} (hR : SR R) 
    (h : Q (vI (-4)) I R) : wp (kN 89) mX5_read Q 61 [none, none, none, none, none] [] I R 89 := by
  refine wp_bipush (pc' := 63) (by decide) dX5_read_61 rfl ?_
  exact wp_ireturn dX5_read_63 rfl rfl h

theorem sX5_split {Q : QT} {I : II} {R : RR} {a1 : Nat} {a2 : Int} (h : wp (kN 89) mX5_split Q 0 [vR 4, vR a1, vI a2, none, none, none, none] [] I R 89) : Spec mX5_split [vR 4, vR a1, vI a2] I R 89 89 Q := Spec_of_wp pyX5_split rfl (Nat.le_of_ble_eq_true rfl) (Nat.le_refl _) (by decide) h

set_option maxRecDepth 4000 in
theorem gX5_split_0 {Q : QT} {I : II} {R : RR} (hR : SR R) {a1 : Nat} {a2 : Int}
    (h : (∀ I1 : II, I1 = up2 I 4 1 0 →
      wp (kN 89) mX5_split Q 15 [vR 4, vR a1, none, vI 0, vI 0, vI (a2 + 1), none] [] I1 R 89)) : wp (kN 89) mX5_split Q 0 [vR 4, vR a1, vI a2, none, none, none, none] [] I R 89 := by
  refine wp_aload_n (pc' := 1) (q := 0) (i := 0) rfl rfl dX5_split_0 rfl ?_
  refine wp_iconst (pc' := 2) dX5_split_1 rfl ?_
  obtain ⟨I1, eI1⟩ : ∃ z : II, z = up2 I 4 1 0 := ⟨_, rfl⟩
  have h := h I1 eI1
  refine wp_putI (pc' := 5) (k := 1) (I' := I1) dX5_split_2 vc5 (by decide) rfl rfl (tyX5_ok 1 (by decide)) lfX5_15 o_4 rfl eI1 ?_
  refine wp_iconst (pc' := 6) dX5_split_5 rfl ?_
  refine wp_istore_n (pc' := 7) (q := 3) (i := 3) (L' := [vR 4, vR a1, vI a2, vI 0, none, none, none]) rfl (by decide) rfl dX5_split_6 rfl rfl ?_
  refine wp_iconst (pc' := 8) dX5_split_7 rfl ?_
  refine wp_istore (pc' := 10) (i := 4) (L' := [vR 4, vR a1, vI a2, vI 0, vI 0, none, none]) (by decide) rfl dX5_split_8 rfl rfl ?_
  refine wp_iload_n (pc' := 11) (q := 2) (i := 2) rfl rfl dX5_split_10 rfl ?_
  refine wp_iconst (pc' := 12) dX5_split_11 rfl ?_
  refine wp_iadd (pc' := 13) dX5_split_12 rfl ?_
  refine wp_istore (pc' := 15) (i := 5) (L' := [vR 4, vR a1, vI a2, vI 0, vI 0, vI (a2 + 1), none]) (by decide) rfl dX5_split_13 rfl rfl ?_
  exact wp_dropP (leP_s (leP_s (leP_d (leP_s (leP_s (leP_s (leP_s leP_n))))))) h

set_option maxRecDepth 4000 in
theorem gX5_split_15 {Q : QT} {I : II} {R : RR} (hR : SR R) {a1 : Nat} {a3 : Int} {a4 : Int} {a5 : Int}
    (h : (isO 89 a1 8) ∧
      (InI a5) ∧
      (InI (I a1 1)) ∧
      (((I a1 1) ≤ a5 →
      Q (vI 0) I R) ∧ (¬ (I a1 1) ≤ a5 →
      (isA 89 (R a1 0) 1 300) ∧
      (0 ≤ a5 ∧ a5 < 300) ∧
      (InI (I (R a1 0) a5.toNat)) ∧
      (((I (R a1 0) a5.toNat) < (48 : Int) →
      wp (kN 89) mX5_split Q 71 [vR 4, vR a1, none, vI a3, vI a4, vI a5, vI (I (R a1 0) a5.toNat)] [] I R 89) ∧ (¬ (I (R a1 0) a5.toNat) < (48 : Int) →
      (((57 : Int) < (I (R a1 0) a5.toNat) →
      wp (kN 89) mX5_split Q 71 [vR 4, vR a1, none, vI a3, vI a4, vI a5, vI (I (R a1 0) a5.toNat)] [] I R 89) ∧ (¬ (57 : Int) < (I (R a1 0) a5.toNat) →
      (InI a3) ∧
      (((3 : Int) ≤ a3 →
      wp (kN 89) mX5_split Q 71 [vR 4, vR a1, none, vI a3, vI a4, vI a5, vI (I (R a1 0) a5.toNat)] [] I R 89) ∧ (¬ (3 : Int) ≤ a3 →
      wp (kN 89) mX5_split Q 145 [vR 4, vR a1, none, vI (a3 + 1), vI (((10 * a4) + (I (R a1 0) a5.toNat)) - 48), vI a5, none] [] I R 89))))))))) : wp (kN 89) mX5_split Q 15 [vR 4, vR a1, none, vI a3, vI a4, vI a5, none] [] I R 89 := by
  refine wp_iload (pc' := 17) (i := 5) rfl dX5_split_15 rfl ?_
  refine wp_aload_n (pc' := 18) (q := 1) (i := 1) rfl rfl dX5_split_17 rfl ?_
  obtain ⟨h1, h⟩ := h
  refine wp_getI (pc' := 21) (k := 1) dX5_split_18 vc8 (by decide) rfl lfX5_27 h1 rfl ?_
  obtain ⟨h2, h⟩ := h
  obtain ⟨h3, h⟩ := h
  refine wp_icmp_ge (pc' := 24) (tgt := 151) h2 h3 dX5_split_21 rfl rfl (fun hc => ?_) (fun hc => ?_)
  · have h := h.1 hc
    refine wp_iconst (pc' := 152) dX5_split_151 rfl ?_
    exact wp_zreturn dX5_split_152 rfl rfl (Or.inl rfl) h
  · have h := h.2 hc
    refine wp_aload_n (pc' := 25) (q := 1) (i := 1) rfl rfl dX5_split_24 rfl ?_
    refine wp_getR (pc' := 28) (k := 0) dX5_split_25 vc8 (by decide) rfl lfX5_36 h1 rfl ?_
    refine wp_iload (pc' := 30) (i := 5) rfl dX5_split_28 rfl ?_
    obtain ⟨h4, h⟩ := h
    obtain ⟨h5, h⟩ := h
    refine wp_iald (pc' := 31) (j := a5.toNat) dX5_split_30 h4 h5 rfl rfl ?_
    refine wp_istore (pc' := 33) (i := 6) (L' := [vR 4, vR a1, none, vI a3, vI a4, vI a5, vI (I (R a1 0) a5.toNat)]) (by decide) rfl dX5_split_31 rfl rfl ?_
    refine wp_iload (pc' := 35) (i := 6) rfl dX5_split_33 rfl ?_
    refine wp_bipush (pc' := 37) (by decide) dX5_split_35 rfl ?_
    obtain ⟨h6, h⟩ := h
    refine wp_icmp_lt (pc' := 40) (tgt := 71) h6 ⟨by decide, by decide⟩ dX5_split_37 rfl rfl (fun hc => ?_) (fun hc => ?_)
    · have h := h.1 hc
      exact h
    · have h := h.2 hc
      refine wp_iload (pc' := 42) (i := 6) rfl dX5_split_40 rfl ?_
      refine wp_bipush (pc' := 44) (by decide) dX5_split_42 rfl ?_
      refine wp_icmp_gt (pc' := 47) (tgt := 71) h6 ⟨by decide, by decide⟩ dX5_split_44 rfl rfl (fun hc => ?_) (fun hc => ?_)
      · have h := h.1 hc
        exact h
      · have h := h.2 hc
        refine wp_iload_n (pc' := 48) (q := 3) (i := 3) rfl rfl dX5_split_47 rfl ?_
        refine wp_iconst (pc' := 49) dX5_split_48 rfl ?_
        obtain ⟨h7, h⟩ := h
        refine wp_icmp_ge (pc' := 52) (tgt := 71) h7 ⟨by decide, by decide⟩ dX5_split_49 rfl rfl (fun hc => ?_) (fun hc => ?_)
        · have h := h.1 hc
          exact h
        · have h := h.2 hc
          refine wp_bipush (pc' := 54) (by decide) dX5_split_52 rfl ?_
          refine wp_iload (pc' := 56) (i := 4) rfl dX5_split_54 rfl ?_
          refine wp_imul (pc' := 57) dX5_split_56 rfl ?_
          refine wp_iload (pc' := 59) (i := 6) rfl dX5_split_57 rfl ?_
          refine wp_iadd (pc' := 60) dX5_split_59 rfl ?_
          refine wp_bipush (pc' := 62) (by decide) dX5_split_60 rfl ?_
          refine wp_isub (pc' := 63) dX5_split_62 rfl ?_
          refine wp_istore (pc' := 65) (i := 4) (L' := [vR 4, vR a1, none, vI a3, vI (((10 * a4) + (I (R a1 0) a5.toNat)) - 48), vI a5, vI (I (R a1 0) a5.toNat)]) (by decide) rfl dX5_split_63 rfl rfl ?_
          refine wp_iinc (pc' := 68) (i := 3) (L' := [vR 4, vR a1, none, vI (a3 + 1), vI (((10 * a4) + (I (R a1 0) a5.toNat)) - 48), vI a5, vI (I (R a1 0) a5.toNat)]) rfl (by decide) rfl dX5_split_65 rfl rfl ?_
          refine wp_goto (tgt := 145) dX5_split_68 rfl ?_
          exact wp_dropP (leP_s (leP_s (leP_s (leP_s (leP_s (leP_s (leP_d leP_n))))))) h

set_option maxRecDepth 4000 in
theorem gX5_split_71 {Q : QT} {I : II} {R : RR} (hR : SR R) {a1 : Nat} {a3 : Int} {a4 : Int} {a5 : Int} {a6 : Int}
    (h : (InI a6) ∧
      ((a6 = (44 : Int) →
      wp (kN 89) mX5_split Q 85 [vR 4, vR a1, none, vI a3, vI a4, vI a5, vI a6] [] I R 89) ∧ (¬ (a6 = (44 : Int)) →
      ((¬ a6 = (59 : Int) →
      wp (kN 89) mX5_split Q 143 [none, none, none, none, none, none, none] [] I R 89) ∧ (a6 = (59 : Int) →
      wp (kN 89) mX5_split Q 85 [vR 4, vR a1, none, vI a3, vI a4, vI a5, vI a6] [] I R 89))))) : wp (kN 89) mX5_split Q 71 [vR 4, vR a1, none, vI a3, vI a4, vI a5, vI a6] [] I R 89 := by
  refine wp_iload (pc' := 73) (i := 6) rfl dX5_split_71 rfl ?_
  refine wp_bipush (pc' := 75) (by decide) dX5_split_73 rfl ?_
  obtain ⟨h1, h⟩ := h
  refine wp_icmp_eq (pc' := 78) (tgt := 85) h1 ⟨by decide, by decide⟩ dX5_split_75 rfl rfl (fun hc => ?_) (fun hc => ?_)
  · have h := h.1 hc
    exact h
  · have h := h.2 hc
    refine wp_iload (pc' := 80) (i := 6) rfl dX5_split_78 rfl ?_
    refine wp_bipush (pc' := 82) (by decide) dX5_split_80 rfl ?_
    refine wp_icmp_ne (pc' := 85) (tgt := 143) h1 ⟨by decide, by decide⟩ dX5_split_82 rfl rfl (fun hc => ?_) (fun hc => ?_)
    · have h := h.1 hc
      exact wp_dropP (leP_d (leP_d (leP_s (leP_d (leP_d (leP_d (leP_d leP_n))))))) h
    · have h := h.2 hc
      exact h

set_option maxRecDepth 4000 in
theorem gX5_split_85 {Q : QT} {I : II} {R : RR} (hR : SR R) {a1 : Nat} {a3 : Int} {a4 : Int} {a5 : Int} {a6 : Int}
    (h : (InI a3) ∧
      ((a3 ≤ 0 →
      wp (kN 89) mX5_split Q 143 [none, none, none, none, none, none, none] [] I R 89) ∧ (¬ (a3 ≤ 0) →
      (InI (I 4 1)) ∧
      (((2 : Int) ≤ (I 4 1) →
      wp (kN 89) mX5_split Q 143 [none, none, none, none, none, none, none] [] I R 89) ∧ (¬ (2 : Int) ≤ (I 4 1) →
      (0 ≤ (I 4 1) ∧ (I 4 1) < 2) ∧
      (∀ I4 : II, I4 = up2 I 5 ((I 4 1).toNat) a4 →
      (∀ I5 : II, I5 = up2 I4 4 1 ((I4 4 1) + 1) →
      (InI a6) ∧
      ((¬ a6 = (59 : Int) →
      wp (kN 89) mX5_split Q 145 [vR 4, vR a1, none, vI 0, vI 0, vI a5, none] [] I5 R 89) ∧ (a6 = (59 : Int) →
      (∀ I7 : II, I7 = up2 I5 4 2 (a5 + 1) →
      Q (vI 1) I7 R)))))))))) : wp (kN 89) mX5_split Q 85 [vR 4, vR a1, none, vI a3, vI a4, vI a5, vI a6] [] I R 89 := by
  refine wp_iload_n (pc' := 86) (q := 3) (i := 3) rfl rfl dX5_split_85 rfl ?_
  obtain ⟨h1, h⟩ := h
  refine wp_if_le (pc' := 89) (tgt := 143) h1 dX5_split_86 rfl rfl (fun hc => ?_) (fun hc => ?_)
  · have h := h.1 hc
    exact wp_dropP (leP_d (leP_d (leP_s (leP_d (leP_d (leP_d (leP_d leP_n))))))) h
  · have h := h.2 hc
    refine wp_aload_n (pc' := 90) (q := 0) (i := 0) rfl rfl dX5_split_89 rfl ?_
    refine wp_getI (pc' := 93) (k := 1) dX5_split_90 vc5 (by decide) rfl lfX5_15 o_4 rfl ?_
    refine wp_iconst (pc' := 94) dX5_split_93 rfl ?_
    obtain ⟨h2, h⟩ := h
    refine wp_icmp_ge (pc' := 97) (tgt := 143) h2 ⟨by decide, by decide⟩ dX5_split_94 rfl rfl (fun hc => ?_) (fun hc => ?_)
    · have h := h.1 hc
      exact wp_dropP (leP_d (leP_d (leP_s (leP_d (leP_d (leP_d (leP_d leP_n))))))) h
    · have h := h.2 hc
      refine wp_aload_n (pc' := 98) (q := 0) (i := 0) rfl rfl dX5_split_97 rfl ?_
      refine wp_getRc (pc' := 101) (k := 0) (j := 5) dX5_split_98 vc5 (by decide) rfl lfX5_11 o_4 (r_4_0 hR) rfl ?_
      refine wp_aload_n (pc' := 102) (q := 0) (i := 0) rfl rfl dX5_split_101 rfl ?_
      refine wp_getI (pc' := 105) (k := 1) dX5_split_102 vc5 (by decide) rfl lfX5_15 o_4 rfl ?_
      refine wp_iload (pc' := 107) (i := 4) rfl dX5_split_105 rfl ?_
      obtain ⟨h3, h⟩ := h
      obtain ⟨I4, eI4⟩ : ∃ z : II, z = up2 I 5 ((I 4 1).toNat) a4 := ⟨_, rfl⟩
      have h := h I4 eI4
      refine wp_iast (pc' := 108) (j := (I 4 1).toNat) (I' := I4) dX5_split_107 a_5 h3 rfl rfl eI4 ?_
      refine wp_aload_n (pc' := 109) (q := 0) (i := 0) rfl rfl dX5_split_108 rfl ?_
      refine wp_dupR (pc' := 110) dX5_split_109 rfl ?_
      refine wp_getI (pc' := 113) (k := 1) dX5_split_110 vc5 (by decide) rfl lfX5_15 o_4 rfl ?_
      refine wp_iconst (pc' := 114) dX5_split_113 rfl ?_
      refine wp_iadd (pc' := 115) dX5_split_114 rfl ?_
      obtain ⟨I5, eI5⟩ : ∃ z : II, z = up2 I4 4 1 ((I4 4 1) + 1) := ⟨_, rfl⟩
      have h := h I5 eI5
      refine wp_putI (pc' := 118) (k := 1) (I' := I5) dX5_split_115 vc5 (by decide) rfl rfl (tyX5_ok 1 (by decide)) lfX5_15 o_4 rfl eI5 ?_
      refine wp_iload (pc' := 120) (i := 6) rfl dX5_split_118 rfl ?_
      refine wp_bipush (pc' := 122) (by decide) dX5_split_120 rfl ?_
      obtain ⟨h6, h⟩ := h
      refine wp_icmp_ne (pc' := 125) (tgt := 135) h6 ⟨by decide, by decide⟩ dX5_split_122 rfl rfl (fun hc => ?_) (fun hc => ?_)
      · have h := h.1 hc
        refine wp_iconst (pc' := 136) dX5_split_135 rfl ?_
        refine wp_istore_n (pc' := 137) (q := 3) (i := 3) (L' := [vR 4, vR a1, none, vI 0, vI a4, vI a5, vI a6]) rfl (by decide) rfl dX5_split_136 rfl rfl ?_
        refine wp_iconst (pc' := 138) dX5_split_137 rfl ?_
        refine wp_istore (pc' := 140) (i := 4) (L' := [vR 4, vR a1, none, vI 0, vI 0, vI a5, vI a6]) (by decide) rfl dX5_split_138 rfl rfl ?_
        refine wp_goto (tgt := 145) dX5_split_140 rfl ?_
        exact wp_dropP (leP_s (leP_s (leP_s (leP_s (leP_s (leP_s (leP_d leP_n))))))) h
      · have h := h.2 hc
        refine wp_aload_n (pc' := 126) (q := 0) (i := 0) rfl rfl dX5_split_125 rfl ?_
        refine wp_iload (pc' := 128) (i := 5) rfl dX5_split_126 rfl ?_
        refine wp_iconst (pc' := 129) dX5_split_128 rfl ?_
        refine wp_iadd (pc' := 130) dX5_split_129 rfl ?_
        obtain ⟨I7, eI7⟩ : ∃ z : II, z = up2 I5 4 2 (a5 + 1) := ⟨_, rfl⟩
        have h := h I7 eI7
        refine wp_putI (pc' := 133) (k := 2) (I' := I7) dX5_split_130 vc5 (by decide) rfl rfl (tyX5_ok 2 (by decide)) lfX5_19 o_4 rfl eI7 ?_
        refine wp_iconst (pc' := 134) dX5_split_133 rfl ?_
        exact wp_zreturn dX5_split_134 rfl rfl (Or.inr rfl) h

set_option maxRecDepth 4000 in
theorem gX5_split_143 {Q : QT} {I : II} {R : RR} (hR : SR R) 
    (h : Q (vI 0) I R) : wp (kN 89) mX5_split Q 143 [none, none, none, none, none, none, none] [] I R 89 := by
  refine wp_iconst (pc' := 144) dX5_split_143 rfl ?_
  exact wp_zreturn dX5_split_144 rfl rfl (Or.inl rfl) h

set_option maxRecDepth 4000 in
theorem gX5_split_145 {Q : QT} {I : II} {R : RR} (hR : SR R) {a1 : Nat} {a3 : Int} {a4 : Int} {a5 : Int}
    (h : wp (kN 89) mX5_split Q 15 [vR 4, vR a1, none, vI a3, vI a4, vI (a5 + 1), none] [] I R 89) : wp (kN 89) mX5_split Q 145 [vR 4, vR a1, none, vI a3, vI a4, vI a5, none] [] I R 89 := by
  refine wp_iinc (pc' := 148) (i := 5) (L' := [vR 4, vR a1, none, vI a3, vI a4, vI (a5 + 1), none]) rfl (by decide) rfl dX5_split_145 rfl rfl ?_
  refine wp_goto (tgt := 15) dX5_split_148 rfl ?_
  exact h

theorem sX5_take {Q : QT} {I : II} {R : RR} {a1 : Int} {a2 : Nat} (h : wp (kN 89) mX5_take Q 0 [vR 4, vI a1, vR a2] [] I R 89) : Spec mX5_take [vR 4, vI a1, vR a2] I R 89 89 Q := Spec_of_wp pyX5_take rfl (Nat.le_of_ble_eq_true rfl) (Nat.le_refl _) (by decide) h

set_option maxRecDepth 4000 in
theorem gX5_take_0 {Q : QT} {I : II} {R : RR} (hR : SR R) {a1 : Int} {a2 : Nat}
    (h : (InI a1) ∧
      ((a1 = (118 : Int) →
      wp (kN 89) mX5_take Q 12 [vR 4, vI a1, vR a2] [] I R 89) ∧ (¬ (a1 = (118 : Int)) →
      ((¬ a1 = (99 : Int) →
      (InI (I 4 1)) ∧
      ((¬ (I 4 1) = (1 : Int) →
      wp (kN 89) mX5_take Q 82 [none, none, none] [] I R 89) ∧ ((I 4 1) = (1 : Int) →
      (isO 89 a2 6) ∧
      (∃ Q3 : QT, Spec mX6_set [vR a2, vI a1, vI (I 5 0)] I R 89 89 Q3 ∧ (∀ x3 I3 R3, (x3 = 0 ∨ x3 = 1) → Q3 (vI x3) I3 R3 →
      R = R3 ∧ (InI x3) ∧
      ((x3 = 0 →
      wp (kN 89) mX5_take Q 82 [none, none, none] [] I3 R 89) ∧ (¬ (x3 = 0) →
      Q (vI 1) I3 R))))))) ∧ (a1 = (99 : Int) →
      wp (kN 89) mX5_take Q 12 [vR 4, vI a1, vR a2] [] I R 89))))) : wp (kN 89) mX5_take Q 0 [vR 4, vI a1, vR a2] [] I R 89 := by
  refine wp_iload_n (pc' := 1) (q := 1) (i := 1) rfl rfl dX5_take_0 rfl ?_
  refine wp_bipush (pc' := 3) (by decide) dX5_take_1 rfl ?_
  obtain ⟨h1, h⟩ := h
  refine wp_icmp_eq (pc' := 6) (tgt := 12) h1 ⟨by decide, by decide⟩ dX5_take_3 rfl rfl (fun hc => ?_) (fun hc => ?_)
  · have h := h.1 hc
    exact h
  · have h := h.2 hc
    refine wp_iload_n (pc' := 7) (q := 1) (i := 1) rfl rfl dX5_take_6 rfl ?_
    refine wp_bipush (pc' := 9) (by decide) dX5_take_7 rfl ?_
    refine wp_icmp_ne (pc' := 12) (tgt := 56) h1 ⟨by decide, by decide⟩ dX5_take_9 rfl rfl (fun hc => ?_) (fun hc => ?_)
    · have h := h.1 hc
      refine wp_aload_n (pc' := 57) (q := 0) (i := 0) rfl rfl dX5_take_56 rfl ?_
      refine wp_getI (pc' := 60) (k := 1) dX5_take_57 vc5 (by decide) rfl lfX5_15 o_4 rfl ?_
      refine wp_iconst (pc' := 61) dX5_take_60 rfl ?_
      obtain ⟨h2, h⟩ := h
      refine wp_icmp_ne (pc' := 64) (tgt := 82) h2 ⟨by decide, by decide⟩ dX5_take_61 rfl rfl (fun hc => ?_) (fun hc => ?_)
      · have h := h.1 hc
        exact wp_dropP (leP_d (leP_d (leP_d leP_n))) h
      · have h := h.2 hc
        refine wp_aload_n (pc' := 65) (q := 2) (i := 2) rfl rfl dX5_take_64 rfl ?_
        refine wp_iload_n (pc' := 66) (q := 1) (i := 1) rfl rfl dX5_take_65 rfl ?_
        refine wp_aload_n (pc' := 67) (q := 0) (i := 0) rfl rfl dX5_take_66 rfl ?_
        refine wp_getRc (pc' := 70) (k := 0) (j := 5) dX5_take_67 vc5 (by decide) rfl lfX5_11 o_4 (r_4_0 hR) rfl ?_
        refine wp_iconst (pc' := 71) dX5_take_70 rfl ?_
        refine wp_iald (pc' := 72) (j := 0) dX5_take_71 a_5 ⟨by decide, by decide⟩ rfl rfl ?_
        obtain ⟨h4, h⟩ := h
        obtain ⟨Q3, hs3, h⟩ := h
        refine wp_callV (pc' := 75) (as := [vI a1, vI (I 5 0)]) (rest := []) hs3 dX5_take_72 rfl lkX5_47 okX6_set inX6_set seX6_set h4 vc6 ⟨Nat.le_of_ble_eq_true rfl, Nat.le_of_ble_eq_true rfl⟩ (Nat.le_of_ble_eq_true rfl) (Nat.le_refl _) (Nat.le_refl _) okP_eq okP_eq rfl (rvZ rfl (fun x3 I3 R3 hz3 hq3 => ?_))
        obtain ⟨hRR3, h⟩ := h x3 I3 R3 hz3 hq3; subst hRR3
        obtain ⟨h5, h⟩ := h
        refine wp_if_eq (pc' := 78) (tgt := 82) h5 dX5_take_75 rfl rfl (fun hc => ?_) (fun hc => ?_)
        · have h := h.1 hc
          exact wp_dropP (leP_d (leP_d (leP_d leP_n))) h
        · have h := h.2 hc
          refine wp_iconst (pc' := 79) dX5_take_78 rfl ?_
          refine wp_goto (tgt := 83) dX5_take_79 rfl ?_
          exact wp_zreturn dX5_take_83 rfl rfl (Or.inr rfl) h
    · have h := h.2 hc
      exact h

set_option maxRecDepth 4000 in
theorem gX5_take_12 {Q : QT} {I : II} {R : RR} (hR : SR R) {a1 : Int} {a2 : Nat}
    (h : (InI (I 4 1)) ∧
      ((¬ (I 4 1) = (2 : Int) →
      wp (kN 89) mX5_take Q 54 [none, none, none] [] I R 89) ∧ ((I 4 1) = (2 : Int) →
      (InI a1) ∧
      ((¬ a1 = (99 : Int) →
      (isO 89 a2 6) ∧
      (∃ Q3 : QT, Spec mX6_addPerson [vR a2, vI 0, vI (I 5 0), vI (I 5 1)] I R 89 89 Q3 ∧ (∀ x3 I3 R3, (x3 = 0 ∨ x3 = 1) → Q3 (vI x3) I3 R3 →
      R = R3 ∧ (InI x3) ∧
      ((x3 = 0 →
      wp (kN 89) mX5_take Q 54 [none, none, none] [] I3 R 89) ∧ (¬ (x3 = 0) →
      Q (vI 1) I3 R))))) ∧ (a1 = (99 : Int) →
      (isO 89 a2 6) ∧
      (∃ Q6 : QT, Spec mX6_addPerson [vR a2, vI 1, vI (I 5 0), vI (I 5 1)] I R 89 89 Q6 ∧ (∀ x6 I6 R6, (x6 = 0 ∨ x6 = 1) → Q6 (vI x6) I6 R6 →
      R = R6 ∧ (InI x6) ∧
      ((x6 = 0 →
      wp (kN 89) mX5_take Q 54 [none, none, none] [] I6 R 89) ∧ (¬ (x6 = 0) →
      Q (vI 1) I6 R))))))))) : wp (kN 89) mX5_take Q 12 [vR 4, vI a1, vR a2] [] I R 89 := by
  refine wp_aload_n (pc' := 13) (q := 0) (i := 0) rfl rfl dX5_take_12 rfl ?_
  refine wp_getI (pc' := 16) (k := 1) dX5_take_13 vc5 (by decide) rfl lfX5_15 o_4 rfl ?_
  refine wp_iconst (pc' := 17) dX5_take_16 rfl ?_
  obtain ⟨h1, h⟩ := h
  refine wp_icmp_ne (pc' := 20) (tgt := 54) h1 ⟨by decide, by decide⟩ dX5_take_17 rfl rfl (fun hc => ?_) (fun hc => ?_)
  · have h := h.1 hc
    exact wp_dropP (leP_d (leP_d (leP_d leP_n))) h
  · have h := h.2 hc
    refine wp_aload_n (pc' := 21) (q := 2) (i := 2) rfl rfl dX5_take_20 rfl ?_
    refine wp_iload_n (pc' := 22) (q := 1) (i := 1) rfl rfl dX5_take_21 rfl ?_
    refine wp_bipush (pc' := 24) (by decide) dX5_take_22 rfl ?_
    obtain ⟨h2, h⟩ := h
    refine wp_icmp_ne (pc' := 27) (tgt := 31) h2 ⟨by decide, by decide⟩ dX5_take_24 rfl rfl (fun hc => ?_) (fun hc => ?_)
    · have h := h.1 hc
      refine wp_iconst (pc' := 32) dX5_take_31 rfl ?_
      refine wp_aload_n (pc' := 33) (q := 0) (i := 0) rfl rfl dX5_take_32 rfl ?_
      refine wp_getRc (pc' := 36) (k := 0) (j := 5) dX5_take_33 vc5 (by decide) rfl lfX5_11 o_4 (r_4_0 hR) rfl ?_
      refine wp_iconst (pc' := 37) dX5_take_36 rfl ?_
      refine wp_iald (pc' := 38) (j := 0) dX5_take_37 a_5 ⟨by decide, by decide⟩ rfl rfl ?_
      refine wp_aload_n (pc' := 39) (q := 0) (i := 0) rfl rfl dX5_take_38 rfl ?_
      refine wp_getRc (pc' := 42) (k := 0) (j := 5) dX5_take_39 vc5 (by decide) rfl lfX5_11 o_4 (r_4_0 hR) rfl ?_
      refine wp_iconst (pc' := 43) dX5_take_42 rfl ?_
      refine wp_iald (pc' := 44) (j := 1) dX5_take_43 a_5 ⟨by decide, by decide⟩ rfl rfl ?_
      obtain ⟨h4, h⟩ := h
      obtain ⟨Q3, hs3, h⟩ := h
      refine wp_callV (pc' := 47) (as := [vI 0, vI (I 5 0), vI (I 5 1)]) (rest := []) hs3 dX5_take_44 rfl lkX5_43 okX6_addPerson inX6_addPerson seX6_addPerson h4 vc6 ⟨Nat.le_of_ble_eq_true rfl, Nat.le_of_ble_eq_true rfl⟩ (Nat.le_of_ble_eq_true rfl) (Nat.le_refl _) (Nat.le_refl _) okP_eq okP_eq rfl (rvZ rfl (fun x3 I3 R3 hz3 hq3 => ?_))
      obtain ⟨hRR3, h⟩ := h x3 I3 R3 hz3 hq3; subst hRR3
      obtain ⟨h5, h⟩ := h
      refine wp_if_eq (pc' := 50) (tgt := 54) h5 dX5_take_47 rfl rfl (fun hc => ?_) (fun hc => ?_)
      · have h := h.1 hc
        exact wp_dropP (leP_d (leP_d (leP_d leP_n))) h
      · have h := h.2 hc
        refine wp_iconst (pc' := 51) dX5_take_50 rfl ?_
        refine wp_goto (tgt := 55) dX5_take_51 rfl ?_
        exact wp_zreturn dX5_take_55 rfl rfl (Or.inr rfl) h
    · have h := h.2 hc
      refine wp_iconst (pc' := 28) dX5_take_27 rfl ?_
      refine wp_goto (tgt := 32) dX5_take_28 rfl ?_
      refine wp_aload_n (pc' := 33) (q := 0) (i := 0) rfl rfl dX5_take_32 rfl ?_
      refine wp_getRc (pc' := 36) (k := 0) (j := 5) dX5_take_33 vc5 (by decide) rfl lfX5_11 o_4 (r_4_0 hR) rfl ?_
      refine wp_iconst (pc' := 37) dX5_take_36 rfl ?_
      refine wp_iald (pc' := 38) (j := 0) dX5_take_37 a_5 ⟨by decide, by decide⟩ rfl rfl ?_
      refine wp_aload_n (pc' := 39) (q := 0) (i := 0) rfl rfl dX5_take_38 rfl ?_
      refine wp_getRc (pc' := 42) (k := 0) (j := 5) dX5_take_39 vc5 (by decide) rfl lfX5_11 o_4 (r_4_0 hR) rfl ?_
      refine wp_iconst (pc' := 43) dX5_take_42 rfl ?_
      refine wp_iald (pc' := 44) (j := 1) dX5_take_43 a_5 ⟨by decide, by decide⟩ rfl rfl ?_
      obtain ⟨h7, h⟩ := h
      obtain ⟨Q6, hs6, h⟩ := h
      refine wp_callV (pc' := 47) (as := [vI 1, vI (I 5 0), vI (I 5 1)]) (rest := []) hs6 dX5_take_44 rfl lkX5_43 okX6_addPerson inX6_addPerson seX6_addPerson h7 vc6 ⟨Nat.le_of_ble_eq_true rfl, Nat.le_of_ble_eq_true rfl⟩ (Nat.le_of_ble_eq_true rfl) (Nat.le_refl _) (Nat.le_refl _) okP_eq okP_eq rfl (rvZ rfl (fun x6 I6 R6 hz6 hq6 => ?_))
      obtain ⟨hRR6, h⟩ := h x6 I6 R6 hz6 hq6; subst hRR6
      obtain ⟨h8, h⟩ := h
      refine wp_if_eq (pc' := 50) (tgt := 54) h8 dX5_take_47 rfl rfl (fun hc => ?_) (fun hc => ?_)
      · have h := h.1 hc
        exact wp_dropP (leP_d (leP_d (leP_d leP_n))) h
      · have h := h.2 hc
        refine wp_iconst (pc' := 51) dX5_take_50 rfl ?_
        refine wp_goto (tgt := 55) dX5_take_51 rfl ?_
        exact wp_zreturn dX5_take_55 rfl rfl (Or.inr rfl) h

set_option maxRecDepth 4000 in
theorem gX5_take_54 {Q : QT} {I : II} {R : RR} (hR : SR R) 
    (h : Q (vI 0) I R) : wp (kN 89) mX5_take Q 54 [none, none, none] [] I R 89 := by
  refine wp_iconst (pc' := 55) dX5_take_54 rfl ?_
  exact wp_zreturn dX5_take_55 rfl rfl (Or.inl rfl) h

set_option maxRecDepth 4000 in
theorem gX5_take_82 {Q : QT} {I : II} {R : RR} (hR : SR R) 
    (h : Q (vI 0) I R) : wp (kN 89) mX5_take Q 82 [none, none, none] [] I R 89 := by
  refine wp_iconst (pc' := 83) dX5_take_82 rfl ?_
  exact wp_zreturn dX5_take_83 rfl rfl (Or.inl rfl) h

theorem sX6_empty {Q : QT} {I : II} {R : RR} {N : Nat} {a0 : Nat} (hN : N < 1000) (h : wp (kN N) mX6_empty Q 0 [vR a0] [] I R N) : Spec mX6_empty [vR a0] I R N N Q := Spec_of_wp pyX6_empty rfl (Nat.le_of_ble_eq_true rfl) (Nat.le_refl _) hN h

set_option maxRecDepth 4000 in
theorem gX6_empty_0 {Q : QT} {I : II} {R : RR} {N : Nat} {a0 : Nat}
    (h : (isO N a0 6) ∧
      (∀ I2 : II, I2 = up2 I a0 5 0 →
      (∀ I3 : II, I3 = up2 I2 a0 6 0 →
      (∀ I4 : II, I4 = up2 I3 a0 7 0 →
      (∀ I5 : II, I5 = up2 I4 a0 8 60 →
      (∀ I6 : II, I6 = up2 I5 a0 9 0 →
      (∀ I7 : II, I7 = up2 I6 a0 10 99 →
      (∀ I8 : II, I8 = up2 I7 a0 11 5 →
      (∀ I9 : II, I9 = up2 I8 a0 12 50 →
      Q none I9 R))))))))) : wp (kN N) mX6_empty Q 0 [vR a0] [] I R N := by
  refine wp_aload_n (pc' := 1) (q := 0) (i := 0) rfl rfl dX6_empty_0 rfl ?_
  refine wp_iconst (pc' := 2) dX6_empty_1 rfl ?_
  obtain ⟨h1, h⟩ := h
  obtain ⟨I2, eI2⟩ : ∃ z : II, z = up2 I a0 5 0 := ⟨_, rfl⟩
  have h := h I2 eI2
  refine wp_putI (pc' := 5) (k := 5) (I' := I2) dX6_empty_2 vc6 (by decide) rfl rfl (tyX6_ok 5 (by decide)) lfX6_31 h1 rfl eI2 ?_
  refine wp_aload_n (pc' := 6) (q := 0) (i := 0) rfl rfl dX6_empty_5 rfl ?_
  refine wp_iconst (pc' := 7) dX6_empty_6 rfl ?_
  obtain ⟨I3, eI3⟩ : ∃ z : II, z = up2 I2 a0 6 0 := ⟨_, rfl⟩
  have h := h I3 eI3
  refine wp_putI (pc' := 10) (k := 6) (I' := I3) dX6_empty_7 vc6 (by decide) rfl rfl (tyX6_ok 6 (by decide)) lfX6_35 h1 rfl eI3 ?_
  refine wp_aload_n (pc' := 11) (q := 0) (i := 0) rfl rfl dX6_empty_10 rfl ?_
  refine wp_iconst (pc' := 12) dX6_empty_11 rfl ?_
  obtain ⟨I4, eI4⟩ : ∃ z : II, z = up2 I3 a0 7 0 := ⟨_, rfl⟩
  have h := h I4 eI4
  refine wp_putI (pc' := 15) (k := 7) (I' := I4) dX6_empty_12 vc6 (by decide) rfl rfl (tyX6_ok 7 (by decide)) lfX6_38 h1 rfl eI4 ?_
  refine wp_aload_n (pc' := 16) (q := 0) (i := 0) rfl rfl dX6_empty_15 rfl ?_
  refine wp_bipush (pc' := 18) (by decide) dX6_empty_16 rfl ?_
  obtain ⟨I5, eI5⟩ : ∃ z : II, z = up2 I4 a0 8 60 := ⟨_, rfl⟩
  have h := h I5 eI5
  refine wp_putI (pc' := 21) (k := 8) (I' := I5) dX6_empty_18 vc6 (by decide) rfl rfl (tyX6_ok 8 (by decide)) lfX6_41 h1 rfl eI5 ?_
  refine wp_aload_n (pc' := 22) (q := 0) (i := 0) rfl rfl dX6_empty_21 rfl ?_
  refine wp_iconst (pc' := 23) dX6_empty_22 rfl ?_
  obtain ⟨I6, eI6⟩ : ∃ z : II, z = up2 I5 a0 9 0 := ⟨_, rfl⟩
  have h := h I6 eI6
  refine wp_putI (pc' := 26) (k := 9) (I' := I6) dX6_empty_23 vc6 (by decide) rfl rfl (tyX6_ok 9 (by decide)) lfX6_44 h1 rfl eI6 ?_
  refine wp_aload_n (pc' := 27) (q := 0) (i := 0) rfl rfl dX6_empty_26 rfl ?_
  refine wp_bipush (pc' := 29) (by decide) dX6_empty_27 rfl ?_
  obtain ⟨I7, eI7⟩ : ∃ z : II, z = up2 I6 a0 10 99 := ⟨_, rfl⟩
  have h := h I7 eI7
  refine wp_putI (pc' := 32) (k := 10) (I' := I7) dX6_empty_29 vc6 (by decide) rfl rfl (tyX6_ok 10 (by decide)) lfX6_47 h1 rfl eI7 ?_
  refine wp_aload_n (pc' := 33) (q := 0) (i := 0) rfl rfl dX6_empty_32 rfl ?_
  refine wp_iconst (pc' := 34) dX6_empty_33 rfl ?_
  obtain ⟨I8, eI8⟩ : ∃ z : II, z = up2 I7 a0 11 5 := ⟨_, rfl⟩
  have h := h I8 eI8
  refine wp_putI (pc' := 37) (k := 11) (I' := I8) dX6_empty_34 vc6 (by decide) rfl rfl (tyX6_ok 11 (by decide)) lfX6_50 h1 rfl eI8 ?_
  refine wp_aload_n (pc' := 38) (q := 0) (i := 0) rfl rfl dX6_empty_37 rfl ?_
  refine wp_bipush (pc' := 40) (by decide) dX6_empty_38 rfl ?_
  obtain ⟨I9, eI9⟩ : ∃ z : II, z = up2 I8 a0 12 50 := ⟨_, rfl⟩
  have h := h I9 eI9
  refine wp_putI (pc' := 43) (k := 12) (I' := I9) dX6_empty_40 vc6 (by decide) rfl rfl (tyX6_ok 12 (by decide)) lfX6_53 h1 rfl eI9 ?_
  exact wp_vreturn dX6_empty_43 rfl rfl h

theorem sX6_addPerson {Q : QT} {I : II} {R : RR} {N : Nat} {a0 : Nat} {a1 : Int} {a2 : Int} {a3 : Int} (hN : N < 1000) (h : wp (kN N) mX6_addPerson Q 0 [vR a0, vI a1, vI a2, vI a3, none] [] I R N) : Spec mX6_addPerson [vR a0, vI a1, vI a2, vI a3] I R N N Q := Spec_of_wp pyX6_addPerson rfl (Nat.le_of_ble_eq_true rfl) (Nat.le_refl _) hN h

set_option maxRecDepth 4000 in
theorem gX6_addPerson_0 {Q : QT} {I : II} {R : RR} {N : Nat} {a0 : Nat} {a1 : Int} {a2 : Int} {a3 : Int}
    (h : (InI a1) ∧
      ((a1 = 0 →
      (isO N a0 6) ∧
      (InI (I a0 6)) ∧
      (((10 : Int) ≤ (I a0 6) →
      wp (kN N) mX6_addPerson Q 43 [none, none, none, none, none] [] I R N) ∧ (¬ (10 : Int) ≤ (I a0 6) →
      (InI a2) ∧
      (N < 1000) ∧
      (((0 : Int) ≤ a2 ∧ a2 ≤ (99 : Int) →
      (InI a3) ∧
      (((0 : Int) ≤ a3 ∧ a3 ≤ (5 : Int) →
      ((a1 = 0 →
      (isA N (R a0 3) 1 10) ∧
      (0 ≤ (I a0 6) ∧ (I a0 6) < 10) ∧
      (∀ I11 : II, I11 = up2 I (R a0 3) ((I a0 6).toNat) (I a0 5) →
      (∀ I12 : II, I12 = up2 I11 a0 6 ((I11 a0 6) + 1) →
      wp (kN N) mX6_addPerson Q 98 [vR a0, vI a1, vI a2, vI a3, none] [] I12 R N))) ∧ (¬ (a1 = 0) →
      (isA N (R a0 4) 1 10) ∧
      (0 ≤ (I a0 7) ∧ (I a0 7) < 10) ∧
      (∀ I15 : II, I15 = up2 I (R a0 4) ((I a0 7).toNat) (I a0 5) →
      (∀ I16 : II, I16 = up2 I15 a0 7 ((I15 a0 7) + 1) →
      wp (kN N) mX6_addPerson Q 98 [vR a0, vI a1, vI a2, vI a3, none] [] I16 R N))))) ∧ (¬ ((0 : Int) ≤ a3 ∧ a3 ≤ (5 : Int)) →
      wp (kN N) mX6_addPerson Q 43 [none, none, none, none, none] [] I R N))) ∧ (¬ ((0 : Int) ≤ a2 ∧ a2 ≤ (99 : Int)) →
      wp (kN N) mX6_addPerson Q 43 [none, none, none, none, none] [] I R N))))) ∧ (¬ (a1 = 0) →
      (isO N a0 6) ∧
      (InI (I a0 7)) ∧
      (((10 : Int) ≤ (I a0 7) →
      wp (kN N) mX6_addPerson Q 43 [none, none, none, none, none] [] I R N) ∧ (¬ (10 : Int) ≤ (I a0 7) →
      (InI a2) ∧
      (N < 1000) ∧
      (((0 : Int) ≤ a2 ∧ a2 ≤ (99 : Int) →
      (InI a3) ∧
      (((0 : Int) ≤ a3 ∧ a3 ≤ (5 : Int) →
      ((a1 = 0 →
      (isA N (R a0 3) 1 10) ∧
      (0 ≤ (I a0 6) ∧ (I a0 6) < 10) ∧
      (∀ I26 : II, I26 = up2 I (R a0 3) ((I a0 6).toNat) (I a0 5) →
      (∀ I27 : II, I27 = up2 I26 a0 6 ((I26 a0 6) + 1) →
      wp (kN N) mX6_addPerson Q 98 [vR a0, vI a1, vI a2, vI a3, none] [] I27 R N))) ∧ (¬ (a1 = 0) →
      (isA N (R a0 4) 1 10) ∧
      (0 ≤ (I a0 7) ∧ (I a0 7) < 10) ∧
      (∀ I30 : II, I30 = up2 I (R a0 4) ((I a0 7).toNat) (I a0 5) →
      (∀ I31 : II, I31 = up2 I30 a0 7 ((I30 a0 7) + 1) →
      wp (kN N) mX6_addPerson Q 98 [vR a0, vI a1, vI a2, vI a3, none] [] I31 R N))))) ∧ (¬ ((0 : Int) ≤ a3 ∧ a3 ≤ (5 : Int)) →
      wp (kN N) mX6_addPerson Q 43 [none, none, none, none, none] [] I R N))) ∧ (¬ ((0 : Int) ≤ a2 ∧ a2 ≤ (99 : Int)) →
      wp (kN N) mX6_addPerson Q 43 [none, none, none, none, none] [] I R N))))))) : wp (kN N) mX6_addPerson Q 0 [vR a0, vI a1, vI a2, vI a3, none] [] I R N := by
  refine wp_iload_n (pc' := 1) (q := 1) (i := 1) rfl rfl dX6_addPerson_0 rfl ?_
  obtain ⟨h1, h⟩ := h
  refine wp_if_eq (pc' := 4) (tgt := 11) h1 dX6_addPerson_1 rfl rfl (fun hc => ?_) (fun hc => ?_)
  · have h := h.1 hc
    refine wp_aload_n (pc' := 12) (q := 0) (i := 0) rfl rfl dX6_addPerson_11 rfl ?_
    obtain ⟨h2, h⟩ := h
    refine wp_getI (pc' := 15) (k := 6) dX6_addPerson_12 vc6 (by decide) rfl lfX6_35 h2 rfl ?_
    refine wp_istore (pc' := 17) (i := 4) (L' := [vR a0, vI a1, vI a2, vI a3, vI (I a0 6)]) (by decide) rfl dX6_addPerson_15 rfl rfl ?_
    refine wp_iload (pc' := 19) (i := 4) rfl dX6_addPerson_17 rfl ?_
    refine wp_bipush (pc' := 21) (by decide) dX6_addPerson_19 rfl ?_
    obtain ⟨h3, h⟩ := h
    refine wp_icmp_ge (pc' := 24) (tgt := 43) h3 ⟨by decide, by decide⟩ dX6_addPerson_21 rfl rfl (fun hc => ?_) (fun hc => ?_)
    · have h := h.1 hc
      exact wp_dropP (leP_d (leP_d (leP_d (leP_d (leP_d leP_n))))) h
    · have h := h.2 hc
      refine wp_iload_n (pc' := 25) (q := 2) (i := 2) rfl rfl dX6_addPerson_24 rfl ?_
      refine wp_iconst (pc' := 26) dX6_addPerson_25 rfl ?_
      refine wp_bipush (pc' := 28) (by decide) dX6_addPerson_26 rfl ?_
      obtain ⟨h5, h⟩ := h
      obtain ⟨h6, h⟩ := h
      refine wp_callSN (pc' := 31) (as := [vI a2, vI 0, vI 99]) (rest := []) (pX10_within h6 h5 ⟨by decide, by decide⟩ ⟨by decide, by decide⟩) dX6_addPerson_28 rfl lnX6_56 okX10_within stX10_within ⟨Nat.le_of_ble_eq_true rfl, Nat.le_of_ble_eq_true rfl⟩ (Nat.le_of_ble_eq_true rfl) (Nat.le_refl _) (Nat.le_refl _) okP_eq okP_eq rfl (rvZ rfl (fun x4 I4 R4 hz4 hq4 => ?_))
      obtain ⟨eR4, eI4, ex4⟩ := hq4; subst eR4; subst eI4; cases ex4
      by_cases hc : (0 : Int) ≤ a2 ∧ a2 ≤ (99 : Int)
      · rw [if_pos hc]; have h := h.1 hc
        refine wp_if_eq (pc' := 34) (tgt := 43) ⟨by decide, by decide⟩ dX6_addPerson_31 rfl rfl (fun hc => by exfalso; revert hc; decide) (fun hc => ?_)
        refine wp_iload_n (pc' := 35) (q := 3) (i := 3) rfl rfl dX6_addPerson_34 rfl ?_
        refine wp_iconst (pc' := 36) dX6_addPerson_35 rfl ?_
        refine wp_iconst (pc' := 37) dX6_addPerson_36 rfl ?_
        obtain ⟨h8, h⟩ := h
        refine wp_callSN (pc' := 40) (as := [vI a3, vI 0, vI 5]) (rest := []) (pX10_within h6 h8 ⟨by decide, by decide⟩ ⟨by decide, by decide⟩) dX6_addPerson_37 rfl lnX6_56 okX10_within stX10_within ⟨Nat.le_of_ble_eq_true rfl, Nat.le_of_ble_eq_true rfl⟩ (Nat.le_of_ble_eq_true rfl) (Nat.le_refl _) (Nat.le_refl _) okP_eq okP_eq rfl (rvZ rfl (fun x7 I7 R7 hz7 hq7 => ?_))
        obtain ⟨eR7, eI7, ex7⟩ := hq7; subst eR7; subst eI7; cases ex7
        by_cases hc : (0 : Int) ≤ a3 ∧ a3 ≤ (5 : Int)
        · rw [if_pos hc]; have h := h.1 hc
          refine wp_if_ne (pc' := 43) (tgt := 45) ⟨by decide, by decide⟩ dX6_addPerson_40 rfl rfl (fun hc => ?_) (fun hc => by exfalso; revert hc; decide)
          refine wp_iload_n (pc' := 46) (q := 1) (i := 1) rfl rfl dX6_addPerson_45 rfl ?_
          refine wp_if_eq (pc' := 49) (tgt := 75) h1 dX6_addPerson_46 rfl rfl (fun hc => ?_) (fun hc => ?_)
          · have h := h.1 hc
            refine wp_aload_n (pc' := 76) (q := 0) (i := 0) rfl rfl dX6_addPerson_75 rfl ?_
            refine wp_getR (pc' := 79) (k := 3) dX6_addPerson_76 vc6 (by decide) rfl lfX6_22 h2 rfl ?_
            refine wp_aload_n (pc' := 80) (q := 0) (i := 0) rfl rfl dX6_addPerson_79 rfl ?_
            refine wp_getI (pc' := 83) (k := 6) dX6_addPerson_80 vc6 (by decide) rfl lfX6_35 h2 rfl ?_
            refine wp_aload_n (pc' := 84) (q := 0) (i := 0) rfl rfl dX6_addPerson_83 rfl ?_
            refine wp_getI (pc' := 87) (k := 5) dX6_addPerson_84 vc6 (by decide) rfl lfX6_31 h2 rfl ?_
            obtain ⟨h9, h⟩ := h
            obtain ⟨h10, h⟩ := h
            obtain ⟨I11, eI11⟩ : ∃ z : II, z = up2 I (R a0 3) ((I a0 6).toNat) (I a0 5) := ⟨_, rfl⟩
            have h := h I11 eI11
            refine wp_iast (pc' := 88) (j := (I a0 6).toNat) (I' := I11) dX6_addPerson_87 h9 h10 rfl rfl eI11 ?_
            refine wp_aload_n (pc' := 89) (q := 0) (i := 0) rfl rfl dX6_addPerson_88 rfl ?_
            refine wp_dupR (pc' := 90) dX6_addPerson_89 rfl ?_
            refine wp_getI (pc' := 93) (k := 6) dX6_addPerson_90 vc6 (by decide) rfl lfX6_35 h2 rfl ?_
            refine wp_iconst (pc' := 94) dX6_addPerson_93 rfl ?_
            refine wp_iadd (pc' := 95) dX6_addPerson_94 rfl ?_
            obtain ⟨I12, eI12⟩ : ∃ z : II, z = up2 I11 a0 6 ((I11 a0 6) + 1) := ⟨_, rfl⟩
            have h := h I12 eI12
            refine wp_putI (pc' := 98) (k := 6) (I' := I12) dX6_addPerson_95 vc6 (by decide) rfl rfl (tyX6_ok 6 (by decide)) lfX6_35 h2 rfl eI12 ?_
            exact wp_dropP (leP_s (leP_s (leP_s (leP_s (leP_d leP_n))))) h
          · have h := h.2 hc
            refine wp_aload_n (pc' := 50) (q := 0) (i := 0) rfl rfl dX6_addPerson_49 rfl ?_
            refine wp_getR (pc' := 53) (k := 4) dX6_addPerson_50 vc6 (by decide) rfl lfX6_25 h2 rfl ?_
            refine wp_aload_n (pc' := 54) (q := 0) (i := 0) rfl rfl dX6_addPerson_53 rfl ?_
            refine wp_getI (pc' := 57) (k := 7) dX6_addPerson_54 vc6 (by decide) rfl lfX6_38 h2 rfl ?_
            refine wp_aload_n (pc' := 58) (q := 0) (i := 0) rfl rfl dX6_addPerson_57 rfl ?_
            refine wp_getI (pc' := 61) (k := 5) dX6_addPerson_58 vc6 (by decide) rfl lfX6_31 h2 rfl ?_
            obtain ⟨h13, h⟩ := h
            obtain ⟨h14, h⟩ := h
            obtain ⟨I15, eI15⟩ : ∃ z : II, z = up2 I (R a0 4) ((I a0 7).toNat) (I a0 5) := ⟨_, rfl⟩
            have h := h I15 eI15
            refine wp_iast (pc' := 62) (j := (I a0 7).toNat) (I' := I15) dX6_addPerson_61 h13 h14 rfl rfl eI15 ?_
            refine wp_aload_n (pc' := 63) (q := 0) (i := 0) rfl rfl dX6_addPerson_62 rfl ?_
            refine wp_dupR (pc' := 64) dX6_addPerson_63 rfl ?_
            refine wp_getI (pc' := 67) (k := 7) dX6_addPerson_64 vc6 (by decide) rfl lfX6_38 h2 rfl ?_
            refine wp_iconst (pc' := 68) dX6_addPerson_67 rfl ?_
            refine wp_iadd (pc' := 69) dX6_addPerson_68 rfl ?_
            obtain ⟨I16, eI16⟩ : ∃ z : II, z = up2 I15 a0 7 ((I15 a0 7) + 1) := ⟨_, rfl⟩
            have h := h I16 eI16
            refine wp_putI (pc' := 72) (k := 7) (I' := I16) dX6_addPerson_69 vc6 (by decide) rfl rfl (tyX6_ok 7 (by decide)) lfX6_38 h2 rfl eI16 ?_
            refine wp_goto (tgt := 98) dX6_addPerson_72 rfl ?_
            exact wp_dropP (leP_s (leP_s (leP_s (leP_s (leP_d leP_n))))) h
        · rw [if_neg hc]; have h := h.2 hc
          refine wp_if_ne (pc' := 43) (tgt := 45) ⟨by decide, by decide⟩ dX6_addPerson_40 rfl rfl (fun hc => by exfalso; revert hc; decide) (fun hc => ?_)
          exact wp_dropP (leP_d (leP_d (leP_d (leP_d (leP_d leP_n))))) h
      · rw [if_neg hc]; have h := h.2 hc
        refine wp_if_eq (pc' := 34) (tgt := 43) ⟨by decide, by decide⟩ dX6_addPerson_31 rfl rfl (fun hc => ?_) (fun hc => by exfalso; revert hc; decide)
        exact wp_dropP (leP_d (leP_d (leP_d (leP_d (leP_d leP_n))))) h
  · have h := h.2 hc
    refine wp_aload_n (pc' := 5) (q := 0) (i := 0) rfl rfl dX6_addPerson_4 rfl ?_
    obtain ⟨h17, h⟩ := h
    refine wp_getI (pc' := 8) (k := 7) dX6_addPerson_5 vc6 (by decide) rfl lfX6_38 h17 rfl ?_
    refine wp_goto (tgt := 15) dX6_addPerson_8 rfl ?_
    refine wp_istore (pc' := 17) (i := 4) (L' := [vR a0, vI a1, vI a2, vI a3, vI (I a0 7)]) (by decide) rfl dX6_addPerson_15 rfl rfl ?_
    refine wp_iload (pc' := 19) (i := 4) rfl dX6_addPerson_17 rfl ?_
    refine wp_bipush (pc' := 21) (by decide) dX6_addPerson_19 rfl ?_
    obtain ⟨h18, h⟩ := h
    refine wp_icmp_ge (pc' := 24) (tgt := 43) h18 ⟨by decide, by decide⟩ dX6_addPerson_21 rfl rfl (fun hc => ?_) (fun hc => ?_)
    · have h := h.1 hc
      exact wp_dropP (leP_d (leP_d (leP_d (leP_d (leP_d leP_n))))) h
    · have h := h.2 hc
      refine wp_iload_n (pc' := 25) (q := 2) (i := 2) rfl rfl dX6_addPerson_24 rfl ?_
      refine wp_iconst (pc' := 26) dX6_addPerson_25 rfl ?_
      refine wp_bipush (pc' := 28) (by decide) dX6_addPerson_26 rfl ?_
      obtain ⟨h20, h⟩ := h
      obtain ⟨h21, h⟩ := h
      refine wp_callSN (pc' := 31) (as := [vI a2, vI 0, vI 99]) (rest := []) (pX10_within h21 h20 ⟨by decide, by decide⟩ ⟨by decide, by decide⟩) dX6_addPerson_28 rfl lnX6_56 okX10_within stX10_within ⟨Nat.le_of_ble_eq_true rfl, Nat.le_of_ble_eq_true rfl⟩ (Nat.le_of_ble_eq_true rfl) (Nat.le_refl _) (Nat.le_refl _) okP_eq okP_eq rfl (rvZ rfl (fun x19 I19 R19 hz19 hq19 => ?_))
      obtain ⟨eR19, eI19, ex19⟩ := hq19; subst eR19; subst eI19; cases ex19
      by_cases hc : (0 : Int) ≤ a2 ∧ a2 ≤ (99 : Int)
      · rw [if_pos hc]; have h := h.1 hc
        refine wp_if_eq (pc' := 34) (tgt := 43) ⟨by decide, by decide⟩ dX6_addPerson_31 rfl rfl (fun hc => by exfalso; revert hc; decide) (fun hc => ?_)
        refine wp_iload_n (pc' := 35) (q := 3) (i := 3) rfl rfl dX6_addPerson_34 rfl ?_
        refine wp_iconst (pc' := 36) dX6_addPerson_35 rfl ?_
        refine wp_iconst (pc' := 37) dX6_addPerson_36 rfl ?_
        obtain ⟨h23, h⟩ := h
        refine wp_callSN (pc' := 40) (as := [vI a3, vI 0, vI 5]) (rest := []) (pX10_within h21 h23 ⟨by decide, by decide⟩ ⟨by decide, by decide⟩) dX6_addPerson_37 rfl lnX6_56 okX10_within stX10_within ⟨Nat.le_of_ble_eq_true rfl, Nat.le_of_ble_eq_true rfl⟩ (Nat.le_of_ble_eq_true rfl) (Nat.le_refl _) (Nat.le_refl _) okP_eq okP_eq rfl (rvZ rfl (fun x22 I22 R22 hz22 hq22 => ?_))
        obtain ⟨eR22, eI22, ex22⟩ := hq22; subst eR22; subst eI22; cases ex22
        by_cases hc : (0 : Int) ≤ a3 ∧ a3 ≤ (5 : Int)
        · rw [if_pos hc]; have h := h.1 hc
          refine wp_if_ne (pc' := 43) (tgt := 45) ⟨by decide, by decide⟩ dX6_addPerson_40 rfl rfl (fun hc => ?_) (fun hc => by exfalso; revert hc; decide)
          refine wp_iload_n (pc' := 46) (q := 1) (i := 1) rfl rfl dX6_addPerson_45 rfl ?_
          refine wp_if_eq (pc' := 49) (tgt := 75) h1 dX6_addPerson_46 rfl rfl (fun hc => ?_) (fun hc => ?_)
          · have h := h.1 hc
            refine wp_aload_n (pc' := 76) (q := 0) (i := 0) rfl rfl dX6_addPerson_75 rfl ?_
            refine wp_getR (pc' := 79) (k := 3) dX6_addPerson_76 vc6 (by decide) rfl lfX6_22 h17 rfl ?_
            refine wp_aload_n (pc' := 80) (q := 0) (i := 0) rfl rfl dX6_addPerson_79 rfl ?_
            refine wp_getI (pc' := 83) (k := 6) dX6_addPerson_80 vc6 (by decide) rfl lfX6_35 h17 rfl ?_
            refine wp_aload_n (pc' := 84) (q := 0) (i := 0) rfl rfl dX6_addPerson_83 rfl ?_
            refine wp_getI (pc' := 87) (k := 5) dX6_addPerson_84 vc6 (by decide) rfl lfX6_31 h17 rfl ?_
            obtain ⟨h24, h⟩ := h
            obtain ⟨h25, h⟩ := h
            obtain ⟨I26, eI26⟩ : ∃ z : II, z = up2 I (R a0 3) ((I a0 6).toNat) (I a0 5) := ⟨_, rfl⟩
            have h := h I26 eI26
            refine wp_iast (pc' := 88) (j := (I a0 6).toNat) (I' := I26) dX6_addPerson_87 h24 h25 rfl rfl eI26 ?_
            refine wp_aload_n (pc' := 89) (q := 0) (i := 0) rfl rfl dX6_addPerson_88 rfl ?_
            refine wp_dupR (pc' := 90) dX6_addPerson_89 rfl ?_
            refine wp_getI (pc' := 93) (k := 6) dX6_addPerson_90 vc6 (by decide) rfl lfX6_35 h17 rfl ?_
            refine wp_iconst (pc' := 94) dX6_addPerson_93 rfl ?_
            refine wp_iadd (pc' := 95) dX6_addPerson_94 rfl ?_
            obtain ⟨I27, eI27⟩ : ∃ z : II, z = up2 I26 a0 6 ((I26 a0 6) + 1) := ⟨_, rfl⟩
            have h := h I27 eI27
            refine wp_putI (pc' := 98) (k := 6) (I' := I27) dX6_addPerson_95 vc6 (by decide) rfl rfl (tyX6_ok 6 (by decide)) lfX6_35 h17 rfl eI27 ?_
            exact wp_dropP (leP_s (leP_s (leP_s (leP_s (leP_d leP_n))))) h
          · have h := h.2 hc
            refine wp_aload_n (pc' := 50) (q := 0) (i := 0) rfl rfl dX6_addPerson_49 rfl ?_
            refine wp_getR (pc' := 53) (k := 4) dX6_addPerson_50 vc6 (by decide) rfl lfX6_25 h17 rfl ?_
            refine wp_aload_n (pc' := 54) (q := 0) (i := 0) rfl rfl dX6_addPerson_53 rfl ?_
            refine wp_getI (pc' := 57) (k := 7) dX6_addPerson_54 vc6 (by decide) rfl lfX6_38 h17 rfl ?_
            refine wp_aload_n (pc' := 58) (q := 0) (i := 0) rfl rfl dX6_addPerson_57 rfl ?_
            refine wp_getI (pc' := 61) (k := 5) dX6_addPerson_58 vc6 (by decide) rfl lfX6_31 h17 rfl ?_
            obtain ⟨h28, h⟩ := h
            obtain ⟨h29, h⟩ := h
            obtain ⟨I30, eI30⟩ : ∃ z : II, z = up2 I (R a0 4) ((I a0 7).toNat) (I a0 5) := ⟨_, rfl⟩
            have h := h I30 eI30
            refine wp_iast (pc' := 62) (j := (I a0 7).toNat) (I' := I30) dX6_addPerson_61 h28 h29 rfl rfl eI30 ?_
            refine wp_aload_n (pc' := 63) (q := 0) (i := 0) rfl rfl dX6_addPerson_62 rfl ?_
            refine wp_dupR (pc' := 64) dX6_addPerson_63 rfl ?_
            refine wp_getI (pc' := 67) (k := 7) dX6_addPerson_64 vc6 (by decide) rfl lfX6_38 h17 rfl ?_
            refine wp_iconst (pc' := 68) dX6_addPerson_67 rfl ?_
            refine wp_iadd (pc' := 69) dX6_addPerson_68 rfl ?_
            obtain ⟨I31, eI31⟩ : ∃ z : II, z = up2 I30 a0 7 ((I30 a0 7) + 1) := ⟨_, rfl⟩
            have h := h I31 eI31
            refine wp_putI (pc' := 72) (k := 7) (I' := I31) dX6_addPerson_69 vc6 (by decide) rfl rfl (tyX6_ok 7 (by decide)) lfX6_38 h17 rfl eI31 ?_
            refine wp_goto (tgt := 98) dX6_addPerson_72 rfl ?_
            exact wp_dropP (leP_s (leP_s (leP_s (leP_s (leP_d leP_n))))) h
        · rw [if_neg hc]; have h := h.2 hc
          refine wp_if_ne (pc' := 43) (tgt := 45) ⟨by decide, by decide⟩ dX6_addPerson_40 rfl rfl (fun hc => by exfalso; revert hc; decide) (fun hc => ?_)
          exact wp_dropP (leP_d (leP_d (leP_d (leP_d (leP_d leP_n))))) h
      · rw [if_neg hc]; have h := h.2 hc
        refine wp_if_eq (pc' := 34) (tgt := 43) ⟨by decide, by decide⟩ dX6_addPerson_31 rfl rfl (fun hc => ?_) (fun hc => by exfalso; revert hc; decide)
        exact wp_dropP (leP_d (leP_d (leP_d (leP_d (leP_d leP_n))))) h

set_option maxRecDepth 4000 in
theorem gX6_addPerson_43 {Q : QT} {I : II} {R : RR} {N : Nat} 
    (h : Q (vI 0) I R) : wp (kN N) mX6_addPerson Q 43 [none, none, none, none, none] [] I R N := by
  refine wp_iconst (pc' := 44) dX6_addPerson_43 rfl ?_
  exact wp_zreturn dX6_addPerson_44 rfl rfl (Or.inl rfl) h

set_option maxRecDepth 4000 in
theorem gX6_addPerson_98 {Q : QT} {I : II} {R : RR} {N : Nat} {a0 : Nat} {a1 : Int} {a2 : Int} {a3 : Int}
    (h : (isO N a0 6) ∧
      (isA N (R a0 0) 2 20) ∧
      (0 ≤ (I a0 5) ∧ (I a0 5) < 20) ∧
      (a1 = 0 ∨ a1 = 1) ∧
      (∀ I5 : II, I5 = up2 I (R a0 0) ((I a0 5).toNat) a1 →
      (isA N (R a0 1) 1 20) ∧
      (0 ≤ (I5 a0 5) ∧ (I5 a0 5) < 20) ∧
      (∀ I8 : II, I8 = up2 I5 (R a0 1) ((I5 a0 5).toNat) a2 →
      (isA N (R a0 2) 1 20) ∧
      (0 ≤ (I8 a0 5) ∧ (I8 a0 5) < 20) ∧
      (∀ I11 : II, I11 = up2 I8 (R a0 2) ((I8 a0 5).toNat) a3 →
      (∀ I12 : II, I12 = up2 I11 a0 5 ((I11 a0 5) + 1) →
      Q (vI 1) I12 R))))) : wp (kN N) mX6_addPerson Q 98 [vR a0, vI a1, vI a2, vI a3, none] [] I R N := by
  refine wp_aload_n (pc' := 99) (q := 0) (i := 0) rfl rfl dX6_addPerson_98 rfl ?_
  obtain ⟨h1, h⟩ := h
  refine wp_getR (pc' := 102) (k := 0) dX6_addPerson_99 vc6 (by decide) rfl lfX6_9 h1 rfl ?_
  refine wp_aload_n (pc' := 103) (q := 0) (i := 0) rfl rfl dX6_addPerson_102 rfl ?_
  refine wp_getI (pc' := 106) (k := 5) dX6_addPerson_103 vc6 (by decide) rfl lfX6_31 h1 rfl ?_
  refine wp_iload_n (pc' := 107) (q := 1) (i := 1) rfl rfl dX6_addPerson_106 rfl ?_
  obtain ⟨h2, h⟩ := h
  obtain ⟨h3, h⟩ := h
  obtain ⟨h4, h⟩ := h
  obtain ⟨I5, eI5⟩ : ∃ z : II, z = up2 I (R a0 0) ((I a0 5).toNat) a1 := ⟨_, rfl⟩
  have h := h I5 eI5
  refine wp_zast (pc' := 108) (j := (I a0 5).toNat) (I' := I5) dX6_addPerson_107 h2 h3 h4 rfl rfl eI5 ?_
  refine wp_aload_n (pc' := 109) (q := 0) (i := 0) rfl rfl dX6_addPerson_108 rfl ?_
  refine wp_getR (pc' := 112) (k := 1) dX6_addPerson_109 vc6 (by decide) rfl lfX6_15 h1 rfl ?_
  refine wp_aload_n (pc' := 113) (q := 0) (i := 0) rfl rfl dX6_addPerson_112 rfl ?_
  refine wp_getI (pc' := 116) (k := 5) dX6_addPerson_113 vc6 (by decide) rfl lfX6_31 h1 rfl ?_
  refine wp_iload_n (pc' := 117) (q := 2) (i := 2) rfl rfl dX6_addPerson_116 rfl ?_
  obtain ⟨h6, h⟩ := h
  obtain ⟨h7, h⟩ := h
  obtain ⟨I8, eI8⟩ : ∃ z : II, z = up2 I5 (R a0 1) ((I5 a0 5).toNat) a2 := ⟨_, rfl⟩
  have h := h I8 eI8
  refine wp_iast (pc' := 118) (j := (I5 a0 5).toNat) (I' := I8) dX6_addPerson_117 h6 h7 rfl rfl eI8 ?_
  refine wp_aload_n (pc' := 119) (q := 0) (i := 0) rfl rfl dX6_addPerson_118 rfl ?_
  refine wp_getR (pc' := 122) (k := 2) dX6_addPerson_119 vc6 (by decide) rfl lfX6_19 h1 rfl ?_
  refine wp_aload_n (pc' := 123) (q := 0) (i := 0) rfl rfl dX6_addPerson_122 rfl ?_
  refine wp_getI (pc' := 126) (k := 5) dX6_addPerson_123 vc6 (by decide) rfl lfX6_31 h1 rfl ?_
  refine wp_iload_n (pc' := 127) (q := 3) (i := 3) rfl rfl dX6_addPerson_126 rfl ?_
  obtain ⟨h9, h⟩ := h
  obtain ⟨h10, h⟩ := h
  obtain ⟨I11, eI11⟩ : ∃ z : II, z = up2 I8 (R a0 2) ((I8 a0 5).toNat) a3 := ⟨_, rfl⟩
  have h := h I11 eI11
  refine wp_iast (pc' := 128) (j := (I8 a0 5).toNat) (I' := I11) dX6_addPerson_127 h9 h10 rfl rfl eI11 ?_
  refine wp_aload_n (pc' := 129) (q := 0) (i := 0) rfl rfl dX6_addPerson_128 rfl ?_
  refine wp_dupR (pc' := 130) dX6_addPerson_129 rfl ?_
  refine wp_getI (pc' := 133) (k := 5) dX6_addPerson_130 vc6 (by decide) rfl lfX6_31 h1 rfl ?_
  refine wp_iconst (pc' := 134) dX6_addPerson_133 rfl ?_
  refine wp_iadd (pc' := 135) dX6_addPerson_134 rfl ?_
  obtain ⟨I12, eI12⟩ : ∃ z : II, z = up2 I11 a0 5 ((I11 a0 5) + 1) := ⟨_, rfl⟩
  have h := h I12 eI12
  refine wp_putI (pc' := 138) (k := 5) (I' := I12) dX6_addPerson_135 vc6 (by decide) rfl rfl (tyX6_ok 5 (by decide)) lfX6_31 h1 rfl eI12 ?_
  refine wp_iconst (pc' := 139) dX6_addPerson_138 rfl ?_
  exact wp_zreturn dX6_addPerson_139 rfl rfl (Or.inr rfl) h

theorem sX6_set {Q : QT} {I : II} {R : RR} {N : Nat} {a0 : Nat} {a1 : Int} {a2 : Int} (hN : N < 1000) (h : wp (kN N) mX6_set Q 0 [vR a0, vI a1, vI a2] [] I R N) : Spec mX6_set [vR a0, vI a1, vI a2] I R N N Q := Spec_of_wp pyX6_set rfl (Nat.le_of_ble_eq_true rfl) (Nat.le_refl _) hN h

set_option maxRecDepth 4000 in
theorem gX6_set_0 {Q : QT} {I : II} {R : RR} {N : Nat} {a0 : Nat} {a1 : Int} {a2 : Int}
    (h : (InI a1) ∧
      ((a1 = 104 →
      (isO N a0 6) ∧
      (∀ I3 : II, I3 = up2 I a0 12 a2 →
      (InI a2) ∧
      (N < 1000) ∧
      (((0 : Int) ≤ a2 ∧ a2 ≤ (99 : Int) →
      Q (vI 1) I3 R) ∧ (¬ ((0 : Int) ≤ a2 ∧ a2 ≤ (99 : Int)) →
      Q (vI 0) I3 R)))) ∧ (a1 = 108 →
      (isO N a0 6) ∧
      (∀ I8 : II, I8 = up2 I a0 10 a2 →
      (InI a2) ∧
      (N < 1000) ∧
      (((0 : Int) ≤ a2 ∧ a2 ≤ (99 : Int) →
      Q (vI 1) I8 R) ∧ (¬ ((0 : Int) ≤ a2 ∧ a2 ≤ (99 : Int)) →
      Q (vI 0) I8 R)))) ∧ (a1 = 110 →
      (isO N a0 6) ∧
      (∀ I13 : II, I13 = up2 I a0 8 a2 →
      (InI a2) ∧
      (N < 1000) ∧
      (((1 : Int) ≤ a2 ∧ a2 ≤ (200 : Int) →
      Q (vI 1) I13 R) ∧ (¬ ((1 : Int) ≤ a2 ∧ a2 ≤ (200 : Int)) →
      Q (vI 0) I13 R)))) ∧ (a1 = 116 →
      (isO N a0 6) ∧
      (∀ I18 : II, I18 = up2 I a0 9 a2 →
      (InI a2) ∧
      (N < 1000) ∧
      (((0 : Int) ≤ a2 ∧ a2 ≤ (50 : Int) →
      Q (vI 1) I18 R) ∧ (¬ ((0 : Int) ≤ a2 ∧ a2 ≤ (50 : Int)) →
      Q (vI 0) I18 R)))) ∧ (a1 = 120 →
      (isO N a0 6) ∧
      (∀ I23 : II, I23 = up2 I a0 11 a2 →
      (InI a2) ∧
      (N < 1000) ∧
      (((0 : Int) ≤ a2 ∧ a2 ≤ (50 : Int) →
      Q (vI 1) I23 R) ∧ (¬ ((0 : Int) ≤ a2 ∧ a2 ≤ (50 : Int)) →
      Q (vI 0) I23 R)))) ∧ (¬ a1 = 104 ∧ ¬ a1 = 108 ∧ ¬ a1 = 110 ∧ ¬ a1 = 116 ∧ ¬ a1 = 120 →
      Q (vI 0) I R))) : wp (kN N) mX6_set Q 0 [vR a0, vI a1, vI a2] [] I R N := by
  refine wp_iload_n (pc' := 1) (q := 1) (i := 1) rfl rfl dX6_set_0 rfl ?_
  obtain ⟨h1, h⟩ := h
  by_cases hc0 : a1 = 104
  · have h := h.1 hc0
    refine wp_lookup (off := 104) (tgt := 105) h1 dX6_set_1 rfl (by rw [hc0]; rfl) rfl ?_
    refine wp_aload_n (pc' := 106) (q := 0) (i := 0) rfl rfl dX6_set_105 rfl ?_
    refine wp_iload_n (pc' := 107) (q := 2) (i := 2) rfl rfl dX6_set_106 rfl ?_
    obtain ⟨h2, h⟩ := h
    obtain ⟨I3, eI3⟩ : ∃ z : II, z = up2 I a0 12 a2 := ⟨_, rfl⟩
    have h := h I3 eI3
    refine wp_putI (pc' := 110) (k := 12) (I' := I3) dX6_set_107 vc6 (by decide) rfl rfl (tyX6_ok 12 (by decide)) lfX6_53 h2 rfl eI3 ?_
    refine wp_iload_n (pc' := 111) (q := 2) (i := 2) rfl rfl dX6_set_110 rfl ?_
    refine wp_iconst (pc' := 112) dX6_set_111 rfl ?_
    refine wp_bipush (pc' := 114) (by decide) dX6_set_112 rfl ?_
    obtain ⟨h5, h⟩ := h
    obtain ⟨h6, h⟩ := h
    refine wp_callSN (pc' := 117) (as := [vI a2, vI 0, vI 99]) (rest := []) (pX10_within h6 h5 ⟨by decide, by decide⟩ ⟨by decide, by decide⟩) dX6_set_114 rfl lnX6_56 okX10_within stX10_within ⟨Nat.le_of_ble_eq_true rfl, Nat.le_of_ble_eq_true rfl⟩ (Nat.le_of_ble_eq_true rfl) (Nat.le_refl _) (Nat.le_refl _) okP_eq okP_eq rfl (rvZ rfl (fun x4 I4 R4 hz4 hq4 => ?_))
    obtain ⟨eR4, eI4, ex4⟩ := hq4; subst eR4; subst eI4; cases ex4
    by_cases hc : (0 : Int) ≤ a2 ∧ a2 ≤ (99 : Int)
    · rw [if_pos hc]; have h := h.1 hc
      exact wp_zreturn dX6_set_117 rfl rfl (Or.inr rfl) h
    · rw [if_neg hc]; have h := h.2 hc
      exact wp_zreturn dX6_set_117 rfl rfl (Or.inl rfl) h
  by_cases hc1 : a1 = 108
  · have h := h.2.1 hc1
    refine wp_lookup (off := 78) (tgt := 79) h1 dX6_set_1 rfl (by rw [hc1]; rfl) rfl ?_
    refine wp_aload_n (pc' := 80) (q := 0) (i := 0) rfl rfl dX6_set_79 rfl ?_
    refine wp_iload_n (pc' := 81) (q := 2) (i := 2) rfl rfl dX6_set_80 rfl ?_
    obtain ⟨h7, h⟩ := h
    obtain ⟨I8, eI8⟩ : ∃ z : II, z = up2 I a0 10 a2 := ⟨_, rfl⟩
    have h := h I8 eI8
    refine wp_putI (pc' := 84) (k := 10) (I' := I8) dX6_set_81 vc6 (by decide) rfl rfl (tyX6_ok 10 (by decide)) lfX6_47 h7 rfl eI8 ?_
    refine wp_iload_n (pc' := 85) (q := 2) (i := 2) rfl rfl dX6_set_84 rfl ?_
    refine wp_iconst (pc' := 86) dX6_set_85 rfl ?_
    refine wp_bipush (pc' := 88) (by decide) dX6_set_86 rfl ?_
    obtain ⟨h10, h⟩ := h
    obtain ⟨h11, h⟩ := h
    refine wp_callSN (pc' := 91) (as := [vI a2, vI 0, vI 99]) (rest := []) (pX10_within h11 h10 ⟨by decide, by decide⟩ ⟨by decide, by decide⟩) dX6_set_88 rfl lnX6_56 okX10_within stX10_within ⟨Nat.le_of_ble_eq_true rfl, Nat.le_of_ble_eq_true rfl⟩ (Nat.le_of_ble_eq_true rfl) (Nat.le_refl _) (Nat.le_refl _) okP_eq okP_eq rfl (rvZ rfl (fun x9 I9 R9 hz9 hq9 => ?_))
    obtain ⟨eR9, eI9, ex9⟩ := hq9; subst eR9; subst eI9; cases ex9
    by_cases hc : (0 : Int) ≤ a2 ∧ a2 ≤ (99 : Int)
    · rw [if_pos hc]; have h := h.1 hc
      exact wp_zreturn dX6_set_91 rfl rfl (Or.inr rfl) h
    · rw [if_neg hc]; have h := h.2 hc
      exact wp_zreturn dX6_set_91 rfl rfl (Or.inl rfl) h
  by_cases hc2 : a1 = 110
  · have h := h.2.2.1 hc2
    refine wp_lookup (off := 51) (tgt := 52) h1 dX6_set_1 rfl (by rw [hc2]; rfl) rfl ?_
    refine wp_aload_n (pc' := 53) (q := 0) (i := 0) rfl rfl dX6_set_52 rfl ?_
    refine wp_iload_n (pc' := 54) (q := 2) (i := 2) rfl rfl dX6_set_53 rfl ?_
    obtain ⟨h12, h⟩ := h
    obtain ⟨I13, eI13⟩ : ∃ z : II, z = up2 I a0 8 a2 := ⟨_, rfl⟩
    have h := h I13 eI13
    refine wp_putI (pc' := 57) (k := 8) (I' := I13) dX6_set_54 vc6 (by decide) rfl rfl (tyX6_ok 8 (by decide)) lfX6_41 h12 rfl eI13 ?_
    refine wp_iload_n (pc' := 58) (q := 2) (i := 2) rfl rfl dX6_set_57 rfl ?_
    refine wp_iconst (pc' := 59) dX6_set_58 rfl ?_
    refine wp_sipush (pc' := 62) (by decide) dX6_set_59 rfl ?_
    obtain ⟨h15, h⟩ := h
    obtain ⟨h16, h⟩ := h
    refine wp_callSN (pc' := 65) (as := [vI a2, vI 1, vI 200]) (rest := []) (pX10_within h16 h15 ⟨by decide, by decide⟩ ⟨by decide, by decide⟩) dX6_set_62 rfl lnX6_56 okX10_within stX10_within ⟨Nat.le_of_ble_eq_true rfl, Nat.le_of_ble_eq_true rfl⟩ (Nat.le_of_ble_eq_true rfl) (Nat.le_refl _) (Nat.le_refl _) okP_eq okP_eq rfl (rvZ rfl (fun x14 I14 R14 hz14 hq14 => ?_))
    obtain ⟨eR14, eI14, ex14⟩ := hq14; subst eR14; subst eI14; cases ex14
    by_cases hc : (1 : Int) ≤ a2 ∧ a2 ≤ (200 : Int)
    · rw [if_pos hc]; have h := h.1 hc
      exact wp_zreturn dX6_set_65 rfl rfl (Or.inr rfl) h
    · rw [if_neg hc]; have h := h.2 hc
      exact wp_zreturn dX6_set_65 rfl rfl (Or.inl rfl) h
  by_cases hc3 : a1 = 116
  · have h := h.2.2.2.1 hc3
    refine wp_lookup (off := 65) (tgt := 66) h1 dX6_set_1 rfl (by rw [hc3]; rfl) rfl ?_
    refine wp_aload_n (pc' := 67) (q := 0) (i := 0) rfl rfl dX6_set_66 rfl ?_
    refine wp_iload_n (pc' := 68) (q := 2) (i := 2) rfl rfl dX6_set_67 rfl ?_
    obtain ⟨h17, h⟩ := h
    obtain ⟨I18, eI18⟩ : ∃ z : II, z = up2 I a0 9 a2 := ⟨_, rfl⟩
    have h := h I18 eI18
    refine wp_putI (pc' := 71) (k := 9) (I' := I18) dX6_set_68 vc6 (by decide) rfl rfl (tyX6_ok 9 (by decide)) lfX6_44 h17 rfl eI18 ?_
    refine wp_iload_n (pc' := 72) (q := 2) (i := 2) rfl rfl dX6_set_71 rfl ?_
    refine wp_iconst (pc' := 73) dX6_set_72 rfl ?_
    refine wp_bipush (pc' := 75) (by decide) dX6_set_73 rfl ?_
    obtain ⟨h20, h⟩ := h
    obtain ⟨h21, h⟩ := h
    refine wp_callSN (pc' := 78) (as := [vI a2, vI 0, vI 50]) (rest := []) (pX10_within h21 h20 ⟨by decide, by decide⟩ ⟨by decide, by decide⟩) dX6_set_75 rfl lnX6_56 okX10_within stX10_within ⟨Nat.le_of_ble_eq_true rfl, Nat.le_of_ble_eq_true rfl⟩ (Nat.le_of_ble_eq_true rfl) (Nat.le_refl _) (Nat.le_refl _) okP_eq okP_eq rfl (rvZ rfl (fun x19 I19 R19 hz19 hq19 => ?_))
    obtain ⟨eR19, eI19, ex19⟩ := hq19; subst eR19; subst eI19; cases ex19
    by_cases hc : (0 : Int) ≤ a2 ∧ a2 ≤ (50 : Int)
    · rw [if_pos hc]; have h := h.1 hc
      exact wp_zreturn dX6_set_78 rfl rfl (Or.inr rfl) h
    · rw [if_neg hc]; have h := h.2 hc
      exact wp_zreturn dX6_set_78 rfl rfl (Or.inl rfl) h
  by_cases hc4 : a1 = 120
  · have h := h.2.2.2.2.1 hc4
    refine wp_lookup (off := 91) (tgt := 92) h1 dX6_set_1 rfl (by rw [hc4]; rfl) rfl ?_
    refine wp_aload_n (pc' := 93) (q := 0) (i := 0) rfl rfl dX6_set_92 rfl ?_
    refine wp_iload_n (pc' := 94) (q := 2) (i := 2) rfl rfl dX6_set_93 rfl ?_
    obtain ⟨h22, h⟩ := h
    obtain ⟨I23, eI23⟩ : ∃ z : II, z = up2 I a0 11 a2 := ⟨_, rfl⟩
    have h := h I23 eI23
    refine wp_putI (pc' := 97) (k := 11) (I' := I23) dX6_set_94 vc6 (by decide) rfl rfl (tyX6_ok 11 (by decide)) lfX6_50 h22 rfl eI23 ?_
    refine wp_iload_n (pc' := 98) (q := 2) (i := 2) rfl rfl dX6_set_97 rfl ?_
    refine wp_iconst (pc' := 99) dX6_set_98 rfl ?_
    refine wp_bipush (pc' := 101) (by decide) dX6_set_99 rfl ?_
    obtain ⟨h25, h⟩ := h
    obtain ⟨h26, h⟩ := h
    refine wp_callSN (pc' := 104) (as := [vI a2, vI 0, vI 50]) (rest := []) (pX10_within h26 h25 ⟨by decide, by decide⟩ ⟨by decide, by decide⟩) dX6_set_101 rfl lnX6_56 okX10_within stX10_within ⟨Nat.le_of_ble_eq_true rfl, Nat.le_of_ble_eq_true rfl⟩ (Nat.le_of_ble_eq_true rfl) (Nat.le_refl _) (Nat.le_refl _) okP_eq okP_eq rfl (rvZ rfl (fun x24 I24 R24 hz24 hq24 => ?_))
    obtain ⟨eR24, eI24, ex24⟩ := hq24; subst eR24; subst eI24; cases ex24
    by_cases hc : (0 : Int) ≤ a2 ∧ a2 ≤ (50 : Int)
    · rw [if_pos hc]; have h := h.1 hc
      exact wp_zreturn dX6_set_104 rfl rfl (Or.inr rfl) h
    · rw [if_neg hc]; have h := h.2 hc
      exact wp_zreturn dX6_set_104 rfl rfl (Or.inl rfl) h
  have h := h.2.2.2.2.2 ⟨hc0, hc1, hc2, hc3, hc4⟩
  refine wp_lookup (off := 117) (tgt := 118) h1 dX6_set_1 rfl (by simp [Op.lookupswitch.offset, hc0, Ne.symm hc0, hc1, Ne.symm hc1, hc2, Ne.symm hc2, hc3, Ne.symm hc3, hc4, Ne.symm hc4]) rfl ?_
  refine wp_iconst (pc' := 119) dX6_set_118 rfl ?_
  exact wp_zreturn dX6_set_119 rfl rfl (Or.inl rfl) h

theorem sX7_play {Q : QT} {I : II} {R : RR} {a1 : Nat} {a2 : Int} {a3 : Int} {a4 : Nat} (h : wp (kN 89) mX7_play Q 0 [vR 38, vR a1, vI a2, vI a3, vR a4, none] [] I R 89) : Spec mX7_play [vR 38, vR a1, vI a2, vI a3, vR a4] I R 89 89 Q := Spec_of_wp pyX7_play rfl (Nat.le_of_ble_eq_true rfl) (Nat.le_refl _) (by decide) h

set_option maxRecDepth 4000 in
theorem gX7_play_0 {Q : QT} {I : II} {R : RR} (hR : SR R) {a1 : Nat} {a2 : Int} {a3 : Int} {a4 : Nat}
    (h : (∀ I1 : II, I1 = up2 I 38 3 a3 →
      (∀ I2 : II, I2 = up2 I1 38 4 (-4) →
      (∀ I3 : II, I3 = up2 I2 38 5 0 →
      (∀ I4 : II, I4 = up2 I3 38 6 0 →
      (∀ I5 : II, I5 = up2 I4 38 7 0 →
      (∀ I6 : II, I6 = up2 I5 38 8 0 →
      (∀ I7 : II, I7 = up2 I6 38 9 0 →
      wp (kN 89) mX7_play Q 39 [vR 38, vR a1, vI a2, none, vR a4, vI 0] [] I7 R 89)))))))) : wp (kN 89) mX7_play Q 0 [vR 38, vR a1, vI a2, vI a3, vR a4, none] [] I R 89 := by
  refine wp_aload_n (pc' := 1) (q := 0) (i := 0) rfl rfl dX7_play_0 rfl ?_
  refine wp_iload_n (pc' := 2) (q := 3) (i := 3) rfl rfl dX7_play_1 rfl ?_
  obtain ⟨I1, eI1⟩ : ∃ z : II, z = up2 I 38 3 a3 := ⟨_, rfl⟩
  have h := h I1 eI1
  refine wp_putI (pc' := 5) (k := 3) (I' := I1) dX7_play_2 vc7 (by decide) rfl rfl (tyX7_ok 3 (by decide)) lfX7_25 o_38 rfl eI1 ?_
  refine wp_aload_n (pc' := 6) (q := 0) (i := 0) rfl rfl dX7_play_5 rfl ?_
  refine wp_bipush (pc' := 8) (by decide) dX7_play_6 rfl ?_
  obtain ⟨I2, eI2⟩ : ∃ z : II, z = up2 I1 38 4 (-4) := ⟨_, rfl⟩
  have h := h I2 eI2
  refine wp_putI (pc' := 11) (k := 4) (I' := I2) dX7_play_8 vc7 (by decide) rfl rfl (tyX7_ok 4 (by decide)) lfX7_29 o_38 rfl eI2 ?_
  refine wp_aload_n (pc' := 12) (q := 0) (i := 0) rfl rfl dX7_play_11 rfl ?_
  refine wp_iconst (pc' := 13) dX7_play_12 rfl ?_
  obtain ⟨I3, eI3⟩ : ∃ z : II, z = up2 I2 38 5 0 := ⟨_, rfl⟩
  have h := h I3 eI3
  refine wp_putI (pc' := 16) (k := 5) (I' := I3) dX7_play_13 vc7 (by decide) rfl rfl (tyX7_ok 5 (by decide)) lfX7_32 o_38 rfl eI3 ?_
  refine wp_aload_n (pc' := 17) (q := 0) (i := 0) rfl rfl dX7_play_16 rfl ?_
  refine wp_iconst (pc' := 18) dX7_play_17 rfl ?_
  obtain ⟨I4, eI4⟩ : ∃ z : II, z = up2 I3 38 6 0 := ⟨_, rfl⟩
  have h := h I4 eI4
  refine wp_putI (pc' := 21) (k := 6) (I' := I4) dX7_play_18 vc7 (by decide) rfl rfl (tyX7_ok 6 (by decide)) lfX7_35 o_38 rfl eI4 ?_
  refine wp_aload_n (pc' := 22) (q := 0) (i := 0) rfl rfl dX7_play_21 rfl ?_
  refine wp_iconst (pc' := 23) dX7_play_22 rfl ?_
  obtain ⟨I5, eI5⟩ : ∃ z : II, z = up2 I4 38 7 0 := ⟨_, rfl⟩
  have h := h I5 eI5
  refine wp_putI (pc' := 26) (k := 7) (I' := I5) dX7_play_23 vc7 (by decide) rfl rfl (tyX7_ok 7 (by decide)) lfX7_38 o_38 rfl eI5 ?_
  refine wp_aload_n (pc' := 27) (q := 0) (i := 0) rfl rfl dX7_play_26 rfl ?_
  refine wp_iconst (pc' := 28) dX7_play_27 rfl ?_
  obtain ⟨I6, eI6⟩ : ∃ z : II, z = up2 I5 38 8 0 := ⟨_, rfl⟩
  have h := h I6 eI6
  refine wp_putI (pc' := 31) (k := 8) (I' := I6) dX7_play_28 vc7 (by decide) rfl rfl (tyX7_ok 8 (by decide)) lfX7_41 o_38 rfl eI6 ?_
  refine wp_aload_n (pc' := 32) (q := 0) (i := 0) rfl rfl dX7_play_31 rfl ?_
  refine wp_iconst (pc' := 33) dX7_play_32 rfl ?_
  obtain ⟨I7, eI7⟩ : ∃ z : II, z = up2 I6 38 9 0 := ⟨_, rfl⟩
  have h := h I7 eI7
  refine wp_putI (pc' := 36) (k := 9) (I' := I7) dX7_play_33 vc7 (by decide) rfl rfl (tyX7_ok 9 (by decide)) lfX7_44 o_38 rfl eI7 ?_
  refine wp_iconst (pc' := 37) dX7_play_36 rfl ?_
  refine wp_istore (pc' := 39) (i := 5) (L' := [vR 38, vR a1, vI a2, vI a3, vR a4, vI 0]) (by decide) rfl dX7_play_37 rfl rfl ?_
  exact wp_dropP (leP_s (leP_s (leP_s (leP_d (leP_s (leP_s leP_n)))))) h

set_option maxRecDepth 4000 in
theorem gX7_play_39 {Q : QT} {I : II} {R : RR} (hR : SR R) {a1 : Nat} {a2 : Int} {a4 : Nat} {a5 : Int}
    (h : (InI a5) ∧
      (((20 : Int) ≤ a5 →
      (InI a2) ∧
      ((¬ a2 = 0 →
      ((¬ a2 = (1 : Int) →
      ((¬ a2 = (2 : Int) →
      (∃ Q3 : QT, Spec mX7_playBell [vR 38, vR a1] I R 89 89 Q3 ∧ (∀ I3 R3, Q3 none I3 R3 →
      R = R3 ∧ wp (kN 89) mX7_play Q 106 [none, none, none, none, none, none] [] I3 R 89))) ∧ (a2 = (2 : Int) →
      (∃ Q4 : QT, Spec mX7_playPosted [vR 38, vR a1] I R 89 89 Q4 ∧ (∀ I4 R4, Q4 none I4 R4 →
      R = R4 ∧ wp (kN 89) mX7_play Q 106 [none, none, none, none, none, none] [] I4 R 89))))) ∧ (a2 = (1 : Int) →
      (∃ Q5 : QT, Spec mX7_playPairs [vR 38, vR a1] I R 89 89 Q5 ∧ (∀ I5 R5, Q5 none I5 R5 →
      R = R5 ∧ wp (kN 89) mX7_play Q 106 [none, none, none, none, none, none] [] I5 R 89))))) ∧ (a2 = 0 →
      (∃ Q6 : QT, Spec mX7_playShouts [vR 38, vR a1, vR a4] I R 89 89 Q6 ∧ (∀ I6 R6, Q6 none I6 R6 →
      R = R6 ∧ wp (kN 89) mX7_play Q 106 [none, none, none, none, none, none] [] I6 R 89))))) ∧ (¬ (20 : Int) ≤ a5 →
      (0 ≤ a5 ∧ a5 < 20) ∧
      (∀ I8 : II, I8 = up2 I 39 (a5.toNat) (-4) →
      wp (kN 89) mX7_play Q 39 [vR 38, vR a1, vI a2, none, vR a4, vI (a5 + 1)] [] I8 R 89)))) : wp (kN 89) mX7_play Q 39 [vR 38, vR a1, vI a2, none, vR a4, vI a5] [] I R 89 := by
  refine wp_iload (pc' := 41) (i := 5) rfl dX7_play_39 rfl ?_
  refine wp_bipush (pc' := 43) (by decide) dX7_play_41 rfl ?_
  obtain ⟨h1, h⟩ := h
  refine wp_icmp_ge (pc' := 46) (tgt := 61) h1 ⟨by decide, by decide⟩ dX7_play_43 rfl rfl (fun hc => ?_) (fun hc => ?_)
  · have h := h.1 hc
    refine wp_iload_n (pc' := 62) (q := 2) (i := 2) rfl rfl dX7_play_61 rfl ?_
    obtain ⟨h2, h⟩ := h
    refine wp_if_ne (pc' := 65) (tgt := 75) h2 dX7_play_62 rfl rfl (fun hc => ?_) (fun hc => ?_)
    · have h := h.1 hc
      refine wp_iload_n (pc' := 76) (q := 2) (i := 2) rfl rfl dX7_play_75 rfl ?_
      refine wp_iconst (pc' := 77) dX7_play_76 rfl ?_
      refine wp_icmp_ne (pc' := 80) (tgt := 88) h2 ⟨by decide, by decide⟩ dX7_play_77 rfl rfl (fun hc => ?_) (fun hc => ?_)
      · have h := h.1 hc
        refine wp_iload_n (pc' := 89) (q := 2) (i := 2) rfl rfl dX7_play_88 rfl ?_
        refine wp_iconst (pc' := 90) dX7_play_89 rfl ?_
        refine wp_icmp_ne (pc' := 93) (tgt := 101) h2 ⟨by decide, by decide⟩ dX7_play_90 rfl rfl (fun hc => ?_) (fun hc => ?_)
        · have h := h.1 hc
          refine wp_aload_n (pc' := 102) (q := 0) (i := 0) rfl rfl dX7_play_101 rfl ?_
          refine wp_aload_n (pc' := 103) (q := 1) (i := 1) rfl rfl dX7_play_102 rfl ?_
          obtain ⟨Q3, hs3, h⟩ := h
          refine wp_callV (pc' := 106) (as := [vR a1]) (rest := []) hs3 dX7_play_103 rfl lkX7_58 okX7_playBell inX7_playBell seX7_playBell o_38 vc7 ⟨Nat.le_of_ble_eq_true rfl, Nat.le_of_ble_eq_true rfl⟩ (Nat.le_of_ble_eq_true rfl) (Nat.le_refl _) (Nat.le_refl _) okP_eq okP_eq rfl (rvV rfl (fun I3 R3 hq3 => ?_))
          obtain ⟨hRR3, h⟩ := h I3 R3 hq3; subst hRR3
          exact wp_dropP (leP_d (leP_d (leP_d (leP_s (leP_d (leP_d leP_n)))))) h
        · have h := h.2 hc
          refine wp_aload_n (pc' := 94) (q := 0) (i := 0) rfl rfl dX7_play_93 rfl ?_
          refine wp_aload_n (pc' := 95) (q := 1) (i := 1) rfl rfl dX7_play_94 rfl ?_
          obtain ⟨Q4, hs4, h⟩ := h
          refine wp_callV (pc' := 98) (as := [vR a1]) (rest := []) hs4 dX7_play_95 rfl lkX7_55 okX7_playPosted inX7_playPosted seX7_playPosted o_38 vc7 ⟨Nat.le_of_ble_eq_true rfl, Nat.le_of_ble_eq_true rfl⟩ (Nat.le_of_ble_eq_true rfl) (Nat.le_refl _) (Nat.le_refl _) okP_eq okP_eq rfl (rvV rfl (fun I4 R4 hq4 => ?_))
          obtain ⟨hRR4, h⟩ := h I4 R4 hq4; subst hRR4
          refine wp_goto (tgt := 106) dX7_play_98 rfl ?_
          exact wp_dropP (leP_d (leP_d (leP_d (leP_s (leP_d (leP_d leP_n)))))) h
      · have h := h.2 hc
        refine wp_aload_n (pc' := 81) (q := 0) (i := 0) rfl rfl dX7_play_80 rfl ?_
        refine wp_aload_n (pc' := 82) (q := 1) (i := 1) rfl rfl dX7_play_81 rfl ?_
        obtain ⟨Q5, hs5, h⟩ := h
        refine wp_callV (pc' := 85) (as := [vR a1]) (rest := []) hs5 dX7_play_82 rfl lkX7_51 okX7_playPairs inX7_playPairs seX7_playPairs o_38 vc7 ⟨Nat.le_of_ble_eq_true rfl, Nat.le_of_ble_eq_true rfl⟩ (Nat.le_of_ble_eq_true rfl) (Nat.le_refl _) (Nat.le_refl _) okP_eq okP_eq rfl (rvV rfl (fun I5 R5 hq5 => ?_))
        obtain ⟨hRR5, h⟩ := h I5 R5 hq5; subst hRR5
        refine wp_goto (tgt := 106) dX7_play_85 rfl ?_
        exact wp_dropP (leP_d (leP_d (leP_d (leP_s (leP_d (leP_d leP_n)))))) h
    · have h := h.2 hc
      refine wp_aload_n (pc' := 66) (q := 0) (i := 0) rfl rfl dX7_play_65 rfl ?_
      refine wp_aload_n (pc' := 67) (q := 1) (i := 1) rfl rfl dX7_play_66 rfl ?_
      refine wp_aload (pc' := 69) (i := 4) rfl dX7_play_67 rfl ?_
      obtain ⟨Q6, hs6, h⟩ := h
      refine wp_callV (pc' := 72) (as := [vR a1, vR a4]) (rest := []) hs6 dX7_play_69 rfl lkX7_47 okX7_playShouts inX7_playShouts seX7_playShouts o_38 vc7 ⟨Nat.le_of_ble_eq_true rfl, Nat.le_of_ble_eq_true rfl⟩ (Nat.le_of_ble_eq_true rfl) (Nat.le_refl _) (Nat.le_refl _) okP_eq okP_eq rfl (rvV rfl (fun I6 R6 hq6 => ?_))
      obtain ⟨hRR6, h⟩ := h I6 R6 hq6; subst hRR6
      refine wp_goto (tgt := 106) dX7_play_72 rfl ?_
      exact wp_dropP (leP_d (leP_d (leP_d (leP_s (leP_d (leP_d leP_n)))))) h
  · have h := h.2 hc
    refine wp_aload_n (pc' := 47) (q := 0) (i := 0) rfl rfl dX7_play_46 rfl ?_
    refine wp_getRc (pc' := 50) (k := 0) (j := 39) dX7_play_47 vc7 (by decide) rfl lfX7_9 o_38 (r_38_0 hR) rfl ?_
    refine wp_iload (pc' := 52) (i := 5) rfl dX7_play_50 rfl ?_
    refine wp_bipush (pc' := 54) (by decide) dX7_play_52 rfl ?_
    obtain ⟨h7, h⟩ := h
    obtain ⟨I8, eI8⟩ : ∃ z : II, z = up2 I 39 (a5.toNat) (-4) := ⟨_, rfl⟩
    have h := h I8 eI8
    refine wp_iast (pc' := 55) (j := a5.toNat) (I' := I8) dX7_play_54 a_39 h7 rfl rfl eI8 ?_
    refine wp_iinc (pc' := 58) (i := 5) (L' := [vR 38, vR a1, vI a2, none, vR a4, vI (a5 + 1)]) rfl (by decide) rfl dX7_play_55 rfl rfl ?_
    refine wp_goto (tgt := 39) dX7_play_58 rfl ?_
    exact h

set_option maxRecDepth 4000 in
theorem gX7_play_106 {Q : QT} {I : II} {R : RR} (hR : SR R) 
    (h : Q none I R) : wp (kN 89) mX7_play Q 106 [none, none, none, none, none, none] [] I R 89 := by
  exact wp_vreturn dX7_play_106 rfl rfl h

theorem sX7_tells {Q : QT} {I : II} {R : RR} {a1 : Nat} {a2 : Int} {a3 : Int} {a4 : Int} (h : wp (kN 89) mX7_tells Q 0 [vR 38, vR a1, vI a2, vI a3, vI a4, none, none] [] I R 89) : Spec mX7_tells [vR 38, vR a1, vI a2, vI a3, vI a4] I R 89 89 Q := Spec_of_wp pyX7_tells rfl (Nat.le_of_ble_eq_true rfl) (Nat.le_refl _) (by decide) h

set_option maxRecDepth 4000 in
theorem gX7_tells_0 {Q : QT} {I : II} {R : RR} (hR : SR R) {a1 : Nat} {a2 : Int} {a3 : Int} {a4 : Int}
    (h : (isO 89 a1 6) ∧
      (isA 89 (R a1 2) 1 20) ∧
      (0 ≤ a2 ∧ a2 < 20) ∧
      (∃ Q4 : QT, Spec mX9_span [vR a1, vI a2, vI (I (R a1 2) a2.toNat), vI (I 38 4)] I R 89 89 Q4 ∧ (∀ x4 I4 R4, Q4 (vI x4) I4 R4 →
      R = R4 ∧ (InI x4) ∧
      (0 ≤ a4 ∧ a4 ≤ 2147483647) ∧
      (∃ Q8 : QT, Spec mX9_by [vR a1, vI a2, vI (I (R a1 2) a2.toNat), vI a3, vI (I4 38 4), vI (if 0 < x4 then a4 % x4 else 0)] I4 R 89 89 Q8 ∧ (∀ x8 I8 R8, Q8 (vI x8) I8 R8 →
      R = R8 ∧ (isA 89 (R a1 0) 2 20) ∧
      (I8 (R a1 0) a2.toNat = 0 ∨ I8 (R a1 0) a2.toNat = 1) ∧
      (InI x8) ∧
      (InI (I8 a1 10)) ∧
      Q (vI (if I8 (R a1 0) a2.toNat = 0 then min x8 (I8 a1 10) else x8)) I8 R))))) : wp (kN 89) mX7_tells Q 0 [vR 38, vR a1, vI a2, vI a3, vI a4, none, none] [] I R 89 := by
  refine wp_aload_n (pc' := 1) (q := 1) (i := 1) rfl rfl dX7_tells_0 rfl ?_
  obtain ⟨h1, h⟩ := h
  refine wp_getR (pc' := 4) (k := 2) dX7_tells_1 vc6 (by decide) rfl lfX7_69 h1 rfl ?_
  refine wp_iload_n (pc' := 5) (q := 2) (i := 2) rfl rfl dX7_tells_4 rfl ?_
  obtain ⟨h2, h⟩ := h
  obtain ⟨h3, h⟩ := h
  refine wp_iald (pc' := 6) (j := a2.toNat) dX7_tells_5 h2 h3 rfl rfl ?_
  refine wp_istore (pc' := 8) (i := 5) (L' := [vR 38, vR a1, vI a2, vI a3, vI a4, vI (I (R a1 2) a2.toNat), none]) (by decide) rfl dX7_tells_6 rfl rfl ?_
  refine wp_iload (pc' := 10) (i := 4) rfl dX7_tells_8 rfl ?_
  refine wp_aload_n (pc' := 11) (q := 1) (i := 1) rfl rfl dX7_tells_10 rfl ?_
  refine wp_iload_n (pc' := 12) (q := 2) (i := 2) rfl rfl dX7_tells_11 rfl ?_
  refine wp_iload (pc' := 14) (i := 5) rfl dX7_tells_12 rfl ?_
  refine wp_aload_n (pc' := 15) (q := 0) (i := 0) rfl rfl dX7_tells_14 rfl ?_
  refine wp_getI (pc' := 18) (k := 4) dX7_tells_15 vc7 (by decide) rfl lfX7_29 o_38 rfl ?_
  obtain ⟨Q4, hs4, h⟩ := h
  refine wp_callS (pc' := 21) (as := [vR a1, vI a2, vI (I (R a1 2) a2.toNat), vI (I 38 4)]) (rest := [vI a4]) hs4 dX7_tells_18 rfl lkX7_74 okX9_span stX9_span ⟨Nat.le_of_ble_eq_true rfl, Nat.le_of_ble_eq_true rfl⟩ (Nat.le_of_ble_eq_true rfl) (Nat.le_refl _) (Nat.le_refl _) okP_eq okP_eq rfl (rvI rfl (fun x4 I4 R4 hq4 => ?_))
  obtain ⟨hRR4, h⟩ := h x4 I4 R4 hq4; subst hRR4
  obtain ⟨h6, h⟩ := h
  obtain ⟨h7, h⟩ := h
  refine wp_callS (pc' := 24) (as := [vI a4, vI x4]) (rest := []) (pX7_rest (by decide) h6 h7) dX7_tells_21 rfl lkX7_80 okX7_rest stX7_rest ⟨Nat.le_of_ble_eq_true rfl, Nat.le_of_ble_eq_true rfl⟩ (Nat.le_of_ble_eq_true rfl) (Nat.le_refl _) (Nat.le_refl _) okP_eq okP_eq rfl (rvI rfl (fun x5 I5 R5 hq5 => ?_))
  obtain ⟨eR5, eI5, ex5⟩ := hq5; subst eR5; subst eI5; cases ex5
  refine wp_istore (pc' := 26) (i := 6) (L' := [vR 38, vR a1, vI a2, vI a3, vI a4, vI (I (R a1 2) a2.toNat), vI (if 0 < x4 then a4 % x4 else 0)]) (by decide) rfl dX7_tells_24 rfl rfl ?_
  refine wp_aload_n (pc' := 27) (q := 1) (i := 1) rfl rfl dX7_tells_26 rfl ?_
  refine wp_iload_n (pc' := 28) (q := 2) (i := 2) rfl rfl dX7_tells_27 rfl ?_
  refine wp_aload_n (pc' := 29) (q := 1) (i := 1) rfl rfl dX7_tells_28 rfl ?_
  refine wp_iload_n (pc' := 30) (q := 2) (i := 2) rfl rfl dX7_tells_29 rfl ?_
  refine wp_iload (pc' := 32) (i := 5) rfl dX7_tells_30 rfl ?_
  refine wp_iload_n (pc' := 33) (q := 3) (i := 3) rfl rfl dX7_tells_32 rfl ?_
  refine wp_aload_n (pc' := 34) (q := 0) (i := 0) rfl rfl dX7_tells_33 rfl ?_
  refine wp_getI (pc' := 37) (k := 4) dX7_tells_34 vc7 (by decide) rfl lfX7_29 o_38 rfl ?_
  refine wp_iload (pc' := 39) (i := 6) rfl dX7_tells_37 rfl ?_
  obtain ⟨Q8, hs8, h⟩ := h
  refine wp_callS (pc' := 42) (as := [vR a1, vI a2, vI (I (R a1 2) a2.toNat), vI a3, vI (I4 38 4), vI (if 0 < x4 then a4 % x4 else 0)]) (rest := [vI a2, vR a1]) hs8 dX7_tells_39 rfl lkX7_84 okX9_by stX9_by ⟨Nat.le_of_ble_eq_true rfl, Nat.le_of_ble_eq_true rfl⟩ (Nat.le_of_ble_eq_true rfl) (Nat.le_refl _) (Nat.le_refl _) okP_eq okP_eq rfl (rvI rfl (fun x8 I8 R8 hq8 => ?_))
  obtain ⟨hRR8, h⟩ := h x8 I8 R8 hq8; subst hRR8
  obtain ⟨h10, h⟩ := h
  obtain ⟨h11, h⟩ := h
  obtain ⟨h12, h⟩ := h
  obtain ⟨h13, h⟩ := h
  refine wp_callS (pc' := 45) (as := [vR a1, vI a2, vI x8]) (rest := []) (pX9_underLid (by decide) h1 h10 h3 h11 h12 h13) dX7_tells_42 rfl lkX7_88 okX9_underLid stX9_underLid ⟨Nat.le_of_ble_eq_true rfl, Nat.le_of_ble_eq_true rfl⟩ (Nat.le_of_ble_eq_true rfl) (Nat.le_refl _) (Nat.le_refl _) okP_eq okP_eq rfl (rvI rfl (fun x9 I9 R9 hq9 => ?_))
  obtain ⟨eR9, eI9, ex9⟩ := hq9; subst eR9; subst eI9; cases ex9
  exact wp_ireturn dX7_tells_45 rfl rfl h

theorem sX7_trade {Q : QT} {I : II} {R : RR} {a1 : Nat} {a2 : Int} {a3 : Int} {a4 : Int} {a5 : Int} (h : wp (kN 89) mX7_trade Q 0 [vR 38, vR a1, vI a2, vI a3, vI a4, vI a5] [] I R 89) : Spec mX7_trade [vR 38, vR a1, vI a2, vI a3, vI a4, vI a5] I R 89 89 Q := Spec_of_wp pyX7_trade rfl (Nat.le_of_ble_eq_true rfl) (Nat.le_refl _) (by decide) h

set_option maxRecDepth 4000 in
theorem gX7_trade_0 {Q : QT} {I : II} {R : RR} (hR : SR R) {a1 : Nat} {a2 : Int} {a3 : Int} {a4 : Int} {a5 : Int}
    (h : (0 ≤ a2 ∧ a2 < 20) ∧
      (∀ I2 : II, I2 = up2 I 39 (a2.toNat) a4 →
      (0 ≤ a3 ∧ a3 < 20) ∧
      (∀ I4 : II, I4 = up2 I2 39 (a3.toNat) a4 →
      (InI (I4 38 7)) ∧
      ((¬ (I4 38 7) = 0 →
      (InI (I4 38 5)) ∧
      (InI a4) ∧
      (∀ I8 : II, I8 = up2 I4 38 5 (min (I4 38 5) a4) →
      (InI (I8 38 7)) ∧
      ((¬ (I8 38 7) = 0 →
      (InI (I8 38 6)) ∧
      (∀ I11 : II, I11 = up2 I8 38 6 (max (I8 38 6) a4) →
      (∀ I12 : II, I12 = up2 I11 38 7 ((I11 38 7) + 1) →
      (isO 89 a1 6) ∧
      (isA 89 (R a1 1) 1 20) ∧
      (∀ I15 : II, I15 = up2 I12 38 8 ((I12 38 8) + ((I12 (R a1 1) a2.toNat) - (I12 (R a1 1) a3.toNat))) →
      (∀ I16 : II, I16 = up2 I15 38 9 (a5 + 1) →
      (∀ I17 : II, I17 = up2 I16 38 4 a4 →
      Q none I17 R)))))) ∧ ((I8 38 7) = 0 →
      (∀ I18 : II, I18 = up2 I8 38 6 a4 →
      (∀ I19 : II, I19 = up2 I18 38 7 ((I18 38 7) + 1) →
      (isO 89 a1 6) ∧
      (isA 89 (R a1 1) 1 20) ∧
      (∀ I22 : II, I22 = up2 I19 38 8 ((I19 38 8) + ((I19 (R a1 1) a2.toNat) - (I19 (R a1 1) a3.toNat))) →
      (∀ I23 : II, I23 = up2 I22 38 9 (a5 + 1) →
      (∀ I24 : II, I24 = up2 I23 38 4 a4 →
      Q none I24 R))))))))) ∧ ((I4 38 7) = 0 →
      (∀ I25 : II, I25 = up2 I4 38 5 a4 →
      (InI (I25 38 7)) ∧
      ((¬ (I25 38 7) = 0 →
      (InI (I25 38 6)) ∧
      (InI a4) ∧
      (∀ I29 : II, I29 = up2 I25 38 6 (max (I25 38 6) a4) →
      (∀ I30 : II, I30 = up2 I29 38 7 ((I29 38 7) + 1) →
      (isO 89 a1 6) ∧
      (isA 89 (R a1 1) 1 20) ∧
      (∀ I33 : II, I33 = up2 I30 38 8 ((I30 38 8) + ((I30 (R a1 1) a2.toNat) - (I30 (R a1 1) a3.toNat))) →
      (∀ I34 : II, I34 = up2 I33 38 9 (a5 + 1) →
      (∀ I35 : II, I35 = up2 I34 38 4 a4 →
      Q none I35 R)))))) ∧ ((I25 38 7) = 0 →
      (∀ I36 : II, I36 = up2 I25 38 6 a4 →
      (∀ I37 : II, I37 = up2 I36 38 7 ((I36 38 7) + 1) →
      (isO 89 a1 6) ∧
      (isA 89 (R a1 1) 1 20) ∧
      (∀ I40 : II, I40 = up2 I37 38 8 ((I37 38 8) + ((I37 (R a1 1) a2.toNat) - (I37 (R a1 1) a3.toNat))) →
      (∀ I41 : II, I41 = up2 I40 38 9 (a5 + 1) →
      (∀ I42 : II, I42 = up2 I41 38 4 a4 →
      Q none I42 R))))))))))))) : wp (kN 89) mX7_trade Q 0 [vR 38, vR a1, vI a2, vI a3, vI a4, vI a5] [] I R 89 := by
  refine wp_aload_n (pc' := 1) (q := 0) (i := 0) rfl rfl dX7_trade_0 rfl ?_
  refine wp_getRc (pc' := 4) (k := 0) (j := 39) dX7_trade_1 vc7 (by decide) rfl lfX7_9 o_38 (r_38_0 hR) rfl ?_
  refine wp_iload_n (pc' := 5) (q := 2) (i := 2) rfl rfl dX7_trade_4 rfl ?_
  refine wp_iload (pc' := 7) (i := 4) rfl dX7_trade_5 rfl ?_
  obtain ⟨h1, h⟩ := h
  obtain ⟨I2, eI2⟩ : ∃ z : II, z = up2 I 39 (a2.toNat) a4 := ⟨_, rfl⟩
  have h := h I2 eI2
  refine wp_iast (pc' := 8) (j := a2.toNat) (I' := I2) dX7_trade_7 a_39 h1 rfl rfl eI2 ?_
  refine wp_aload_n (pc' := 9) (q := 0) (i := 0) rfl rfl dX7_trade_8 rfl ?_
  refine wp_getRc (pc' := 12) (k := 0) (j := 39) dX7_trade_9 vc7 (by decide) rfl lfX7_9 o_38 (r_38_0 hR) rfl ?_
  refine wp_iload_n (pc' := 13) (q := 3) (i := 3) rfl rfl dX7_trade_12 rfl ?_
  refine wp_iload (pc' := 15) (i := 4) rfl dX7_trade_13 rfl ?_
  obtain ⟨h3, h⟩ := h
  obtain ⟨I4, eI4⟩ : ∃ z : II, z = up2 I2 39 (a3.toNat) a4 := ⟨_, rfl⟩
  have h := h I4 eI4
  refine wp_iast (pc' := 16) (j := a3.toNat) (I' := I4) dX7_trade_15 a_39 h3 rfl rfl eI4 ?_
  refine wp_aload_n (pc' := 17) (q := 0) (i := 0) rfl rfl dX7_trade_16 rfl ?_
  refine wp_aload_n (pc' := 18) (q := 0) (i := 0) rfl rfl dX7_trade_17 rfl ?_
  refine wp_getI (pc' := 21) (k := 7) dX7_trade_18 vc7 (by decide) rfl lfX7_38 o_38 rfl ?_
  obtain ⟨h5, h⟩ := h
  refine wp_if_ne (pc' := 24) (tgt := 29) h5 dX7_trade_21 rfl rfl (fun hc => ?_) (fun hc => ?_)
  · have h := h.1 hc
    refine wp_aload_n (pc' := 30) (q := 0) (i := 0) rfl rfl dX7_trade_29 rfl ?_
    refine wp_getI (pc' := 33) (k := 5) dX7_trade_30 vc7 (by decide) rfl lfX7_32 o_38 rfl ?_
    refine wp_iload (pc' := 35) (i := 4) rfl dX7_trade_33 rfl ?_
    obtain ⟨h6, h⟩ := h
    obtain ⟨h7, h⟩ := h
    refine wp_mmin (pc' := 38) h6 h7 dX7_trade_35 lkX7_92 ms_min iiMath mc_min ⟨Nat.le_of_ble_eq_true rfl, Nat.le_of_ble_eq_true rfl⟩ (Nat.le_refl _) rfl ?_
    obtain ⟨I8, eI8⟩ : ∃ z : II, z = up2 I4 38 5 (min (I4 38 5) a4) := ⟨_, rfl⟩
    have h := h I8 eI8
    refine wp_putI (pc' := 41) (k := 5) (I' := I8) dX7_trade_38 vc7 (by decide) rfl rfl (tyX7_ok 5 (by decide)) lfX7_32 o_38 rfl eI8 ?_
    refine wp_aload_n (pc' := 42) (q := 0) (i := 0) rfl rfl dX7_trade_41 rfl ?_
    refine wp_aload_n (pc' := 43) (q := 0) (i := 0) rfl rfl dX7_trade_42 rfl ?_
    refine wp_getI (pc' := 46) (k := 7) dX7_trade_43 vc7 (by decide) rfl lfX7_38 o_38 rfl ?_
    obtain ⟨h9, h⟩ := h
    refine wp_if_ne (pc' := 49) (tgt := 54) h9 dX7_trade_46 rfl rfl (fun hc => ?_) (fun hc => ?_)
    · have h := h.1 hc
      refine wp_aload_n (pc' := 55) (q := 0) (i := 0) rfl rfl dX7_trade_54 rfl ?_
      refine wp_getI (pc' := 58) (k := 6) dX7_trade_55 vc7 (by decide) rfl lfX7_35 o_38 rfl ?_
      refine wp_iload (pc' := 60) (i := 4) rfl dX7_trade_58 rfl ?_
      obtain ⟨h10, h⟩ := h
      refine wp_mmax (pc' := 63) h10 h7 dX7_trade_60 lkX7_97 ms_max iiMath mc_max ⟨Nat.le_of_ble_eq_true rfl, Nat.le_of_ble_eq_true rfl⟩ (Nat.le_refl _) rfl ?_
      obtain ⟨I11, eI11⟩ : ∃ z : II, z = up2 I8 38 6 (max (I8 38 6) a4) := ⟨_, rfl⟩
      have h := h I11 eI11
      refine wp_putI (pc' := 66) (k := 6) (I' := I11) dX7_trade_63 vc7 (by decide) rfl rfl (tyX7_ok 6 (by decide)) lfX7_35 o_38 rfl eI11 ?_
      refine wp_aload_n (pc' := 67) (q := 0) (i := 0) rfl rfl dX7_trade_66 rfl ?_
      refine wp_dupR (pc' := 68) dX7_trade_67 rfl ?_
      refine wp_getI (pc' := 71) (k := 7) dX7_trade_68 vc7 (by decide) rfl lfX7_38 o_38 rfl ?_
      refine wp_iconst (pc' := 72) dX7_trade_71 rfl ?_
      refine wp_iadd (pc' := 73) dX7_trade_72 rfl ?_
      obtain ⟨I12, eI12⟩ : ∃ z : II, z = up2 I11 38 7 ((I11 38 7) + 1) := ⟨_, rfl⟩
      have h := h I12 eI12
      refine wp_putI (pc' := 76) (k := 7) (I' := I12) dX7_trade_73 vc7 (by decide) rfl rfl (tyX7_ok 7 (by decide)) lfX7_38 o_38 rfl eI12 ?_
      refine wp_aload_n (pc' := 77) (q := 0) (i := 0) rfl rfl dX7_trade_76 rfl ?_
      refine wp_dupR (pc' := 78) dX7_trade_77 rfl ?_
      refine wp_getI (pc' := 81) (k := 8) dX7_trade_78 vc7 (by decide) rfl lfX7_41 o_38 rfl ?_
      refine wp_aload_n (pc' := 82) (q := 1) (i := 1) rfl rfl dX7_trade_81 rfl ?_
      obtain ⟨h13, h⟩ := h
      refine wp_getR (pc' := 85) (k := 1) dX7_trade_82 vc6 (by decide) rfl lfX7_100 h13 rfl ?_
      refine wp_iload_n (pc' := 86) (q := 2) (i := 2) rfl rfl dX7_trade_85 rfl ?_
      obtain ⟨h14, h⟩ := h
      refine wp_iald (pc' := 87) (j := a2.toNat) dX7_trade_86 h14 h1 rfl rfl ?_
      refine wp_aload_n (pc' := 88) (q := 1) (i := 1) rfl rfl dX7_trade_87 rfl ?_
      refine wp_getR (pc' := 91) (k := 1) dX7_trade_88 vc6 (by decide) rfl lfX7_100 h13 rfl ?_
      refine wp_iload_n (pc' := 92) (q := 3) (i := 3) rfl rfl dX7_trade_91 rfl ?_
      refine wp_iald (pc' := 93) (j := a3.toNat) dX7_trade_92 h14 h3 rfl rfl ?_
      refine wp_isub (pc' := 94) dX7_trade_93 rfl ?_
      refine wp_iadd (pc' := 95) dX7_trade_94 rfl ?_
      obtain ⟨I15, eI15⟩ : ∃ z : II, z = up2 I12 38 8 ((I12 38 8) + ((I12 (R a1 1) a2.toNat) - (I12 (R a1 1) a3.toNat))) := ⟨_, rfl⟩
      have h := h I15 eI15
      refine wp_putI (pc' := 98) (k := 8) (I' := I15) dX7_trade_95 vc7 (by decide) rfl rfl (tyX7_ok 8 (by decide)) lfX7_41 o_38 rfl eI15 ?_
      refine wp_aload_n (pc' := 99) (q := 0) (i := 0) rfl rfl dX7_trade_98 rfl ?_
      refine wp_iload (pc' := 101) (i := 5) rfl dX7_trade_99 rfl ?_
      refine wp_iconst (pc' := 102) dX7_trade_101 rfl ?_
      refine wp_iadd (pc' := 103) dX7_trade_102 rfl ?_
      obtain ⟨I16, eI16⟩ : ∃ z : II, z = up2 I15 38 9 (a5 + 1) := ⟨_, rfl⟩
      have h := h I16 eI16
      refine wp_putI (pc' := 106) (k := 9) (I' := I16) dX7_trade_103 vc7 (by decide) rfl rfl (tyX7_ok 9 (by decide)) lfX7_44 o_38 rfl eI16 ?_
      refine wp_aload_n (pc' := 107) (q := 0) (i := 0) rfl rfl dX7_trade_106 rfl ?_
      refine wp_iload (pc' := 109) (i := 4) rfl dX7_trade_107 rfl ?_
      obtain ⟨I17, eI17⟩ : ∃ z : II, z = up2 I16 38 4 a4 := ⟨_, rfl⟩
      have h := h I17 eI17
      refine wp_putI (pc' := 112) (k := 4) (I' := I17) dX7_trade_109 vc7 (by decide) rfl rfl (tyX7_ok 4 (by decide)) lfX7_29 o_38 rfl eI17 ?_
      exact wp_vreturn dX7_trade_112 rfl rfl h
    · have h := h.2 hc
      refine wp_iload (pc' := 51) (i := 4) rfl dX7_trade_49 rfl ?_
      refine wp_goto (tgt := 63) dX7_trade_51 rfl ?_
      obtain ⟨I18, eI18⟩ : ∃ z : II, z = up2 I8 38 6 a4 := ⟨_, rfl⟩
      have h := h I18 eI18
      refine wp_putI (pc' := 66) (k := 6) (I' := I18) dX7_trade_63 vc7 (by decide) rfl rfl (tyX7_ok 6 (by decide)) lfX7_35 o_38 rfl eI18 ?_
      refine wp_aload_n (pc' := 67) (q := 0) (i := 0) rfl rfl dX7_trade_66 rfl ?_
      refine wp_dupR (pc' := 68) dX7_trade_67 rfl ?_
      refine wp_getI (pc' := 71) (k := 7) dX7_trade_68 vc7 (by decide) rfl lfX7_38 o_38 rfl ?_
      refine wp_iconst (pc' := 72) dX7_trade_71 rfl ?_
      refine wp_iadd (pc' := 73) dX7_trade_72 rfl ?_
      obtain ⟨I19, eI19⟩ : ∃ z : II, z = up2 I18 38 7 ((I18 38 7) + 1) := ⟨_, rfl⟩
      have h := h I19 eI19
      refine wp_putI (pc' := 76) (k := 7) (I' := I19) dX7_trade_73 vc7 (by decide) rfl rfl (tyX7_ok 7 (by decide)) lfX7_38 o_38 rfl eI19 ?_
      refine wp_aload_n (pc' := 77) (q := 0) (i := 0) rfl rfl dX7_trade_76 rfl ?_
      refine wp_dupR (pc' := 78) dX7_trade_77 rfl ?_
      refine wp_getI (pc' := 81) (k := 8) dX7_trade_78 vc7 (by decide) rfl lfX7_41 o_38 rfl ?_
      refine wp_aload_n (pc' := 82) (q := 1) (i := 1) rfl rfl dX7_trade_81 rfl ?_
      obtain ⟨h20, h⟩ := h
      refine wp_getR (pc' := 85) (k := 1) dX7_trade_82 vc6 (by decide) rfl lfX7_100 h20 rfl ?_
      refine wp_iload_n (pc' := 86) (q := 2) (i := 2) rfl rfl dX7_trade_85 rfl ?_
      obtain ⟨h21, h⟩ := h
      refine wp_iald (pc' := 87) (j := a2.toNat) dX7_trade_86 h21 h1 rfl rfl ?_
      refine wp_aload_n (pc' := 88) (q := 1) (i := 1) rfl rfl dX7_trade_87 rfl ?_
      refine wp_getR (pc' := 91) (k := 1) dX7_trade_88 vc6 (by decide) rfl lfX7_100 h20 rfl ?_
      refine wp_iload_n (pc' := 92) (q := 3) (i := 3) rfl rfl dX7_trade_91 rfl ?_
      refine wp_iald (pc' := 93) (j := a3.toNat) dX7_trade_92 h21 h3 rfl rfl ?_
      refine wp_isub (pc' := 94) dX7_trade_93 rfl ?_
      refine wp_iadd (pc' := 95) dX7_trade_94 rfl ?_
      obtain ⟨I22, eI22⟩ : ∃ z : II, z = up2 I19 38 8 ((I19 38 8) + ((I19 (R a1 1) a2.toNat) - (I19 (R a1 1) a3.toNat))) := ⟨_, rfl⟩
      have h := h I22 eI22
      refine wp_putI (pc' := 98) (k := 8) (I' := I22) dX7_trade_95 vc7 (by decide) rfl rfl (tyX7_ok 8 (by decide)) lfX7_41 o_38 rfl eI22 ?_
      refine wp_aload_n (pc' := 99) (q := 0) (i := 0) rfl rfl dX7_trade_98 rfl ?_
      refine wp_iload (pc' := 101) (i := 5) rfl dX7_trade_99 rfl ?_
      refine wp_iconst (pc' := 102) dX7_trade_101 rfl ?_
      refine wp_iadd (pc' := 103) dX7_trade_102 rfl ?_
      obtain ⟨I23, eI23⟩ : ∃ z : II, z = up2 I22 38 9 (a5 + 1) := ⟨_, rfl⟩
      have h := h I23 eI23
      refine wp_putI (pc' := 106) (k := 9) (I' := I23) dX7_trade_103 vc7 (by decide) rfl rfl (tyX7_ok 9 (by decide)) lfX7_44 o_38 rfl eI23 ?_
      refine wp_aload_n (pc' := 107) (q := 0) (i := 0) rfl rfl dX7_trade_106 rfl ?_
      refine wp_iload (pc' := 109) (i := 4) rfl dX7_trade_107 rfl ?_
      obtain ⟨I24, eI24⟩ : ∃ z : II, z = up2 I23 38 4 a4 := ⟨_, rfl⟩
      have h := h I24 eI24
      refine wp_putI (pc' := 112) (k := 4) (I' := I24) dX7_trade_109 vc7 (by decide) rfl rfl (tyX7_ok 4 (by decide)) lfX7_29 o_38 rfl eI24 ?_
      exact wp_vreturn dX7_trade_112 rfl rfl h
  · have h := h.2 hc
    refine wp_iload (pc' := 26) (i := 4) rfl dX7_trade_24 rfl ?_
    refine wp_goto (tgt := 38) dX7_trade_26 rfl ?_
    obtain ⟨I25, eI25⟩ : ∃ z : II, z = up2 I4 38 5 a4 := ⟨_, rfl⟩
    have h := h I25 eI25
    refine wp_putI (pc' := 41) (k := 5) (I' := I25) dX7_trade_38 vc7 (by decide) rfl rfl (tyX7_ok 5 (by decide)) lfX7_32 o_38 rfl eI25 ?_
    refine wp_aload_n (pc' := 42) (q := 0) (i := 0) rfl rfl dX7_trade_41 rfl ?_
    refine wp_aload_n (pc' := 43) (q := 0) (i := 0) rfl rfl dX7_trade_42 rfl ?_
    refine wp_getI (pc' := 46) (k := 7) dX7_trade_43 vc7 (by decide) rfl lfX7_38 o_38 rfl ?_
    obtain ⟨h26, h⟩ := h
    refine wp_if_ne (pc' := 49) (tgt := 54) h26 dX7_trade_46 rfl rfl (fun hc => ?_) (fun hc => ?_)
    · have h := h.1 hc
      refine wp_aload_n (pc' := 55) (q := 0) (i := 0) rfl rfl dX7_trade_54 rfl ?_
      refine wp_getI (pc' := 58) (k := 6) dX7_trade_55 vc7 (by decide) rfl lfX7_35 o_38 rfl ?_
      refine wp_iload (pc' := 60) (i := 4) rfl dX7_trade_58 rfl ?_
      obtain ⟨h27, h⟩ := h
      obtain ⟨h28, h⟩ := h
      refine wp_mmax (pc' := 63) h27 h28 dX7_trade_60 lkX7_97 ms_max iiMath mc_max ⟨Nat.le_of_ble_eq_true rfl, Nat.le_of_ble_eq_true rfl⟩ (Nat.le_refl _) rfl ?_
      obtain ⟨I29, eI29⟩ : ∃ z : II, z = up2 I25 38 6 (max (I25 38 6) a4) := ⟨_, rfl⟩
      have h := h I29 eI29
      refine wp_putI (pc' := 66) (k := 6) (I' := I29) dX7_trade_63 vc7 (by decide) rfl rfl (tyX7_ok 6 (by decide)) lfX7_35 o_38 rfl eI29 ?_
      refine wp_aload_n (pc' := 67) (q := 0) (i := 0) rfl rfl dX7_trade_66 rfl ?_
      refine wp_dupR (pc' := 68) dX7_trade_67 rfl ?_
      refine wp_getI (pc' := 71) (k := 7) dX7_trade_68 vc7 (by decide) rfl lfX7_38 o_38 rfl ?_
      refine wp_iconst (pc' := 72) dX7_trade_71 rfl ?_
      refine wp_iadd (pc' := 73) dX7_trade_72 rfl ?_
      obtain ⟨I30, eI30⟩ : ∃ z : II, z = up2 I29 38 7 ((I29 38 7) + 1) := ⟨_, rfl⟩
      have h := h I30 eI30
      refine wp_putI (pc' := 76) (k := 7) (I' := I30) dX7_trade_73 vc7 (by decide) rfl rfl (tyX7_ok 7 (by decide)) lfX7_38 o_38 rfl eI30 ?_
      refine wp_aload_n (pc' := 77) (q := 0) (i := 0) rfl rfl dX7_trade_76 rfl ?_
      refine wp_dupR (pc' := 78) dX7_trade_77 rfl ?_
      refine wp_getI (pc' := 81) (k := 8) dX7_trade_78 vc7 (by decide) rfl lfX7_41 o_38 rfl ?_
      refine wp_aload_n (pc' := 82) (q := 1) (i := 1) rfl rfl dX7_trade_81 rfl ?_
      obtain ⟨h31, h⟩ := h
      refine wp_getR (pc' := 85) (k := 1) dX7_trade_82 vc6 (by decide) rfl lfX7_100 h31 rfl ?_
      refine wp_iload_n (pc' := 86) (q := 2) (i := 2) rfl rfl dX7_trade_85 rfl ?_
      obtain ⟨h32, h⟩ := h
      refine wp_iald (pc' := 87) (j := a2.toNat) dX7_trade_86 h32 h1 rfl rfl ?_
      refine wp_aload_n (pc' := 88) (q := 1) (i := 1) rfl rfl dX7_trade_87 rfl ?_
      refine wp_getR (pc' := 91) (k := 1) dX7_trade_88 vc6 (by decide) rfl lfX7_100 h31 rfl ?_
      refine wp_iload_n (pc' := 92) (q := 3) (i := 3) rfl rfl dX7_trade_91 rfl ?_
      refine wp_iald (pc' := 93) (j := a3.toNat) dX7_trade_92 h32 h3 rfl rfl ?_
      refine wp_isub (pc' := 94) dX7_trade_93 rfl ?_
      refine wp_iadd (pc' := 95) dX7_trade_94 rfl ?_
      obtain ⟨I33, eI33⟩ : ∃ z : II, z = up2 I30 38 8 ((I30 38 8) + ((I30 (R a1 1) a2.toNat) - (I30 (R a1 1) a3.toNat))) := ⟨_, rfl⟩
      have h := h I33 eI33
      refine wp_putI (pc' := 98) (k := 8) (I' := I33) dX7_trade_95 vc7 (by decide) rfl rfl (tyX7_ok 8 (by decide)) lfX7_41 o_38 rfl eI33 ?_
      refine wp_aload_n (pc' := 99) (q := 0) (i := 0) rfl rfl dX7_trade_98 rfl ?_
      refine wp_iload (pc' := 101) (i := 5) rfl dX7_trade_99 rfl ?_
      refine wp_iconst (pc' := 102) dX7_trade_101 rfl ?_
      refine wp_iadd (pc' := 103) dX7_trade_102 rfl ?_
      obtain ⟨I34, eI34⟩ : ∃ z : II, z = up2 I33 38 9 (a5 + 1) := ⟨_, rfl⟩
      have h := h I34 eI34
      refine wp_putI (pc' := 106) (k := 9) (I' := I34) dX7_trade_103 vc7 (by decide) rfl rfl (tyX7_ok 9 (by decide)) lfX7_44 o_38 rfl eI34 ?_
      refine wp_aload_n (pc' := 107) (q := 0) (i := 0) rfl rfl dX7_trade_106 rfl ?_
      refine wp_iload (pc' := 109) (i := 4) rfl dX7_trade_107 rfl ?_
      obtain ⟨I35, eI35⟩ : ∃ z : II, z = up2 I34 38 4 a4 := ⟨_, rfl⟩
      have h := h I35 eI35
      refine wp_putI (pc' := 112) (k := 4) (I' := I35) dX7_trade_109 vc7 (by decide) rfl rfl (tyX7_ok 4 (by decide)) lfX7_29 o_38 rfl eI35 ?_
      exact wp_vreturn dX7_trade_112 rfl rfl h
    · have h := h.2 hc
      refine wp_iload (pc' := 51) (i := 4) rfl dX7_trade_49 rfl ?_
      refine wp_goto (tgt := 63) dX7_trade_51 rfl ?_
      obtain ⟨I36, eI36⟩ : ∃ z : II, z = up2 I25 38 6 a4 := ⟨_, rfl⟩
      have h := h I36 eI36
      refine wp_putI (pc' := 66) (k := 6) (I' := I36) dX7_trade_63 vc7 (by decide) rfl rfl (tyX7_ok 6 (by decide)) lfX7_35 o_38 rfl eI36 ?_
      refine wp_aload_n (pc' := 67) (q := 0) (i := 0) rfl rfl dX7_trade_66 rfl ?_
      refine wp_dupR (pc' := 68) dX7_trade_67 rfl ?_
      refine wp_getI (pc' := 71) (k := 7) dX7_trade_68 vc7 (by decide) rfl lfX7_38 o_38 rfl ?_
      refine wp_iconst (pc' := 72) dX7_trade_71 rfl ?_
      refine wp_iadd (pc' := 73) dX7_trade_72 rfl ?_
      obtain ⟨I37, eI37⟩ : ∃ z : II, z = up2 I36 38 7 ((I36 38 7) + 1) := ⟨_, rfl⟩
      have h := h I37 eI37
      refine wp_putI (pc' := 76) (k := 7) (I' := I37) dX7_trade_73 vc7 (by decide) rfl rfl (tyX7_ok 7 (by decide)) lfX7_38 o_38 rfl eI37 ?_
      refine wp_aload_n (pc' := 77) (q := 0) (i := 0) rfl rfl dX7_trade_76 rfl ?_
      refine wp_dupR (pc' := 78) dX7_trade_77 rfl ?_
      refine wp_getI (pc' := 81) (k := 8) dX7_trade_78 vc7 (by decide) rfl lfX7_41 o_38 rfl ?_
      refine wp_aload_n (pc' := 82) (q := 1) (i := 1) rfl rfl dX7_trade_81 rfl ?_
      obtain ⟨h38, h⟩ := h
      refine wp_getR (pc' := 85) (k := 1) dX7_trade_82 vc6 (by decide) rfl lfX7_100 h38 rfl ?_
      refine wp_iload_n (pc' := 86) (q := 2) (i := 2) rfl rfl dX7_trade_85 rfl ?_
      obtain ⟨h39, h⟩ := h
      refine wp_iald (pc' := 87) (j := a2.toNat) dX7_trade_86 h39 h1 rfl rfl ?_
      refine wp_aload_n (pc' := 88) (q := 1) (i := 1) rfl rfl dX7_trade_87 rfl ?_
      refine wp_getR (pc' := 91) (k := 1) dX7_trade_88 vc6 (by decide) rfl lfX7_100 h38 rfl ?_
      refine wp_iload_n (pc' := 92) (q := 3) (i := 3) rfl rfl dX7_trade_91 rfl ?_
      refine wp_iald (pc' := 93) (j := a3.toNat) dX7_trade_92 h39 h3 rfl rfl ?_
      refine wp_isub (pc' := 94) dX7_trade_93 rfl ?_
      refine wp_iadd (pc' := 95) dX7_trade_94 rfl ?_
      obtain ⟨I40, eI40⟩ : ∃ z : II, z = up2 I37 38 8 ((I37 38 8) + ((I37 (R a1 1) a2.toNat) - (I37 (R a1 1) a3.toNat))) := ⟨_, rfl⟩
      have h := h I40 eI40
      refine wp_putI (pc' := 98) (k := 8) (I' := I40) dX7_trade_95 vc7 (by decide) rfl rfl (tyX7_ok 8 (by decide)) lfX7_41 o_38 rfl eI40 ?_
      refine wp_aload_n (pc' := 99) (q := 0) (i := 0) rfl rfl dX7_trade_98 rfl ?_
      refine wp_iload (pc' := 101) (i := 5) rfl dX7_trade_99 rfl ?_
      refine wp_iconst (pc' := 102) dX7_trade_101 rfl ?_
      refine wp_iadd (pc' := 103) dX7_trade_102 rfl ?_
      obtain ⟨I41, eI41⟩ : ∃ z : II, z = up2 I40 38 9 (a5 + 1) := ⟨_, rfl⟩
      have h := h I41 eI41
      refine wp_putI (pc' := 106) (k := 9) (I' := I41) dX7_trade_103 vc7 (by decide) rfl rfl (tyX7_ok 9 (by decide)) lfX7_44 o_38 rfl eI41 ?_
      refine wp_aload_n (pc' := 107) (q := 0) (i := 0) rfl rfl dX7_trade_106 rfl ?_
      refine wp_iload (pc' := 109) (i := 4) rfl dX7_trade_107 rfl ?_
      obtain ⟨I42, eI42⟩ : ∃ z : II, z = up2 I41 38 4 a4 := ⟨_, rfl⟩
      have h := h I42 eI42
      refine wp_putI (pc' := 112) (k := 4) (I' := I42) dX7_trade_109 vc7 (by decide) rfl rfl (tyX7_ok 4 (by decide)) lfX7_29 o_38 rfl eI42 ?_
      exact wp_vreturn dX7_trade_112 rfl rfl h

theorem sX7_playShouts {Q : QT} {I : II} {R : RR} {a1 : Nat} {a2 : Nat} (h : wp (kN 89) mX7_playShouts Q 0 [vR 38, vR a1, vR a2, none, none, none] [] I R 89) : Spec mX7_playShouts [vR 38, vR a1, vR a2] I R 89 89 Q := Spec_of_wp pyX7_playShouts rfl (Nat.le_of_ble_eq_true rfl) (Nat.le_refl _) (by decide) h

set_option maxRecDepth 4000 in
theorem gX7_playShouts_0 {Q : QT} {I : II} {R : RR} (hR : SR R) {a1 : Nat} {a2 : Nat}
    (h : ((a2 = 0 →
      wp (kN 89) mX7_playShouts Q 9 [vR 38, vR a1, vR a2, none, none, none] [] I R 89) ∧ (0 < a2 →
      (isO 89 a2 4) ∧
      (∀ I2 : II, I2 = up2 I a2 4 0 →
      wp (kN 89) mX7_playShouts Q 9 [vR 38, vR a1, vR a2, none, none, none] [] I2 R 89)))) : wp (kN 89) mX7_playShouts Q 0 [vR 38, vR a1, vR a2, none, none, none] [] I R 89 := by
  refine wp_aload_n (pc' := 1) (q := 2) (i := 2) rfl rfl dX7_playShouts_0 rfl ?_
  rcases Nat.eq_zero_or_pos a2 with hc | hc
  · have h := h.1 hc
    refine wp_ifnull0' hc (tgt := 9) dX7_playShouts_1 rfl ?_
    exact h
  · have h := h.2 hc
    refine wp_ifnull1 (pc' := 4) hc dX7_playShouts_1 rfl ?_
    refine wp_aload_n (pc' := 5) (q := 2) (i := 2) rfl rfl dX7_playShouts_4 rfl ?_
    refine wp_iconst (pc' := 6) dX7_playShouts_5 rfl ?_
    obtain ⟨h1, h⟩ := h
    obtain ⟨I2, eI2⟩ : ∃ z : II, z = up2 I a2 4 0 := ⟨_, rfl⟩
    have h := h I2 eI2
    refine wp_putI (pc' := 9) (k := 4) (I' := I2) dX7_playShouts_6 vc4 (by decide) rfl rfl (tyX4_ok 4 (by decide)) lfX7_103 h1 rfl eI2 ?_
    exact h

set_option maxRecDepth 4000 in
theorem gX7_playShouts_9 {Q : QT} {I : II} {R : RR} (hR : SR R) {a1 : Nat} {a2 : Nat}
    (h : (∀ I1 : II, I1 = up2 I 38 10 (-4) →
      (∀ I2 : II, I2 = up2 I1 38 11 (-4) →
      wp (kN 89) mX7_playShouts Q 23 [vR 38, vR a1, vR a2, vI 0, none, none] [] I2 R 89))) : wp (kN 89) mX7_playShouts Q 9 [vR 38, vR a1, vR a2, none, none, none] [] I R 89 := by
  refine wp_aload_n (pc' := 10) (q := 0) (i := 0) rfl rfl dX7_playShouts_9 rfl ?_
  refine wp_bipush (pc' := 12) (by decide) dX7_playShouts_10 rfl ?_
  obtain ⟨I1, eI1⟩ : ∃ z : II, z = up2 I 38 10 (-4) := ⟨_, rfl⟩
  have h := h I1 eI1
  refine wp_putI (pc' := 15) (k := 10) (I' := I1) dX7_playShouts_12 vc7 (by decide) rfl rfl (tyX7_ok 10 (by decide)) lfX7_108 o_38 rfl eI1 ?_
  refine wp_aload_n (pc' := 16) (q := 0) (i := 0) rfl rfl dX7_playShouts_15 rfl ?_
  refine wp_bipush (pc' := 18) (by decide) dX7_playShouts_16 rfl ?_
  obtain ⟨I2, eI2⟩ : ∃ z : II, z = up2 I1 38 11 (-4) := ⟨_, rfl⟩
  have h := h I2 eI2
  refine wp_putI (pc' := 21) (k := 11) (I' := I2) dX7_playShouts_18 vc7 (by decide) rfl rfl (tyX7_ok 11 (by decide)) lfX7_111 o_38 rfl eI2 ?_
  refine wp_iconst (pc' := 22) dX7_playShouts_21 rfl ?_
  refine wp_istore_n (pc' := 23) (q := 3) (i := 3) (L' := [vR 38, vR a1, vR a2, vI 0, none, none]) rfl (by decide) rfl dX7_playShouts_22 rfl rfl ?_
  exact h

set_option maxRecDepth 4000 in
theorem gX7_playShouts_23 {Q : QT} {I : II} {R : RR} (hR : SR R) {a1 : Nat} {a2 : Nat} {a3 : Int}
    (h : (isO 89 a1 6) ∧
      (InI a3) ∧
      (InI (I a1 8)) ∧
      (((I a1 8) ≤ a3 →
      Q none I R) ∧ (¬ (I a1 8) ≤ a3 →
      (0 ≤ I 38 3 ∧ I 38 3 ≤ 9999 ∧ 0 ≤ a3 ∧ a3 ≤ 300 ∧ 0 ≤ (0 : Int) ∧ (0 : Int) ≤ 5) ∧
      (InI (I a1 5)) ∧
      (0 ≤ (drw (I 38 3) a3 0) ∧ (drw (I 38 3) a3 0) ≤ 2147483647) ∧
      (0 ≤ (if 0 < (I a1 5) then (drw (I 38 3) a3 0) % (I a1 5) else 0) ∧ (if 0 < (I a1 5) then (drw (I 38 3) a3 0) % (I a1 5) else 0) < 20) ∧
      (InI (I 39 (if 0 < (I a1 5) then (drw (I 38 3) a3 0) % (I a1 5) else 0).toNat)) ∧
      (((I 39 (if 0 < (I a1 5) then (drw (I 38 3) a3 0) % (I a1 5) else 0).toNat) = (-4 : Int) →
      (0 ≤ I 38 3 ∧ I 38 3 ≤ 9999 ∧ 0 ≤ a3 ∧ a3 ≤ 300 ∧ 0 ≤ (1 : Int) ∧ (1 : Int) ≤ 5) ∧
      (∃ Q13 : QT, Spec mX7_tells [vR 38, vR a1, vI (if 0 < (I a1 5) then (drw (I 38 3) a3 0) % (I a1 5) else 0), vI a3, vI (drw (I 38 3) a3 1)] I R 89 89 Q13 ∧ (∀ x13 I13 R13, Q13 (vI x13) I13 R13 →
      R = R13 ∧ (isA 89 (R a1 0) 2 20) ∧
      (I13 (R a1 0) (if 0 < (I a1 5) then (drw (I 38 3) a3 0) % (I a1 5) else 0).toNat = 0 ∨ I13 (R a1 0) (if 0 < (I a1 5) then (drw (I 38 3) a3 0) % (I a1 5) else 0).toNat = 1) ∧
      (InI (x13 + I13 a1 9)) ∧
      (InI (I13 a1 10)) ∧
      ((I13 (R a1 0) (if 0 < (I a1 5) then (drw (I 38 3) a3 0) % (I a1 5) else 0).toNat = 0 ∨ x13 + I13 a1 9 ≤ I13 a1 10 →
      ((a2 = 0 →
      wp (kN 89) mX7_playShouts Q 108 [vR 38, vR a1, vR a2, vI a3, vI (if 0 < (I a1 5) then (drw (I 38 3) a3 0) % (I a1 5) else 0), vI x13] [] I13 R 89) ∧ (0 < a2 →
      (isO 89 a2 4) ∧
      (∃ Q19 : QT, Spec mX4_add [vR a2, vI (if 0 < (I a1 5) then (drw (I 38 3) a3 0) % (I a1 5) else 0), vI x13, vI a3, vI (I13 38 4)] I13 R 89 89 Q19 ∧ (∀ I19 R19, Q19 none I19 R19 →
      R = R19 ∧ wp (kN 89) mX7_playShouts Q 108 [vR 38, vR a1, vR a2, vI a3, vI (if 0 < (I a1 5) then (drw (I 38 3) a3 0) % (I a1 5) else 0), vI x13] [] I19 R 89))))) ∧ (¬ (I13 (R a1 0) (if 0 < (I a1 5) then (drw (I 38 3) a3 0) % (I a1 5) else 0).toNat = 0 ∨ x13 + I13 a1 9 ≤ I13 a1 10) →
      wp (kN 89) mX7_playShouts Q 141 [vR 38, vR a1, vR a2, vI a3, none, none] [] I13 R 89))))) ∧ (¬ (I 39 (if 0 < (I a1 5) then (drw (I 38 3) a3 0) % (I a1 5) else 0).toNat) = (-4 : Int) →
      wp (kN 89) mX7_playShouts Q 141 [vR 38, vR a1, vR a2, vI a3, none, none] [] I R 89))))) : wp (kN 89) mX7_playShouts Q 23 [vR 38, vR a1, vR a2, vI a3, none, none] [] I R 89 := by
  refine wp_iload_n (pc' := 24) (q := 3) (i := 3) rfl rfl dX7_playShouts_23 rfl ?_
  refine wp_aload_n (pc' := 25) (q := 1) (i := 1) rfl rfl dX7_playShouts_24 rfl ?_
  obtain ⟨h1, h⟩ := h
  refine wp_getI (pc' := 28) (k := 8) dX7_playShouts_25 vc6 (by decide) rfl lfX7_114 h1 rfl ?_
  obtain ⟨h2, h⟩ := h
  obtain ⟨h3, h⟩ := h
  refine wp_icmp_ge (pc' := 31) (tgt := 147) h2 h3 dX7_playShouts_28 rfl rfl (fun hc => ?_) (fun hc => ?_)
  · have h := h.1 hc
    exact wp_vreturn dX7_playShouts_147 rfl rfl h
  · have h := h.2 hc
    refine wp_aload_n (pc' := 32) (q := 0) (i := 0) rfl rfl dX7_playShouts_31 rfl ?_
    refine wp_iload_n (pc' := 33) (q := 3) (i := 3) rfl rfl dX7_playShouts_32 rfl ?_
    refine wp_iconst (pc' := 34) dX7_playShouts_33 rfl ?_
    obtain ⟨h5, h⟩ := h
    refine wp_callV (pc' := 37) (as := [vI a3, vI 0]) (rest := []) (pX7_draw hR h5) dX7_playShouts_34 rfl lkX7_117 okX7_draw inX7_draw seX7_draw o_38 vc7 ⟨Nat.le_of_ble_eq_true rfl, Nat.le_of_ble_eq_true rfl⟩ (Nat.le_of_ble_eq_true rfl) (Nat.le_refl _) (Nat.le_refl _) okP_eq okP_eq rfl (rvI rfl (fun x4 I4 R4 hq4 => ?_))
    obtain ⟨eR4, eI4, ex4⟩ := hq4; subst eR4; subst eI4; cases ex4
    refine wp_aload_n (pc' := 38) (q := 1) (i := 1) rfl rfl dX7_playShouts_37 rfl ?_
    refine wp_getI (pc' := 41) (k := 5) dX7_playShouts_38 vc6 (by decide) rfl lfX7_120 h1 rfl ?_
    obtain ⟨h7, h⟩ := h
    obtain ⟨h8, h⟩ := h
    refine wp_callS (pc' := 44) (as := [vI (drw (I 38 3) a3 0), vI (I a1 5)]) (rest := []) (pX7_rest (by decide) h7 h8) dX7_playShouts_41 rfl lkX7_80 okX7_rest stX7_rest ⟨Nat.le_of_ble_eq_true rfl, Nat.le_of_ble_eq_true rfl⟩ (Nat.le_of_ble_eq_true rfl) (Nat.le_refl _) (Nat.le_refl _) okP_eq okP_eq rfl (rvI rfl (fun x6 I6 R6 hq6 => ?_))
    obtain ⟨eR6, eI6, ex6⟩ := hq6; subst eR6; subst eI6; cases ex6
    refine wp_istore (pc' := 46) (i := 4) (L' := [vR 38, vR a1, vR a2, vI a3, vI (if 0 < (I a1 5) then (drw (I 38 3) a3 0) % (I a1 5) else 0), none]) (by decide) rfl dX7_playShouts_44 rfl rfl ?_
    refine wp_aload_n (pc' := 47) (q := 0) (i := 0) rfl rfl dX7_playShouts_46 rfl ?_
    refine wp_getRc (pc' := 50) (k := 0) (j := 39) dX7_playShouts_47 vc7 (by decide) rfl lfX7_9 o_38 (r_38_0 hR) rfl ?_
    refine wp_iload (pc' := 52) (i := 4) rfl dX7_playShouts_50 rfl ?_
    obtain ⟨h9, h⟩ := h
    refine wp_iald (pc' := 53) (j := (if 0 < (I a1 5) then (drw (I 38 3) a3 0) % (I a1 5) else 0).toNat) dX7_playShouts_52 a_39 h9 rfl rfl ?_
    refine wp_bipush (pc' := 55) (by decide) dX7_playShouts_53 rfl ?_
    obtain ⟨h10, h⟩ := h
    refine wp_icmp_eq (pc' := 58) (tgt := 61) h10 ⟨by decide, by decide⟩ dX7_playShouts_55 rfl rfl (fun hc => ?_) (fun hc => ?_)
    · have h := h.1 hc
      refine wp_aload_n (pc' := 62) (q := 0) (i := 0) rfl rfl dX7_playShouts_61 rfl ?_
      refine wp_aload_n (pc' := 63) (q := 1) (i := 1) rfl rfl dX7_playShouts_62 rfl ?_
      refine wp_iload (pc' := 65) (i := 4) rfl dX7_playShouts_63 rfl ?_
      refine wp_iload_n (pc' := 66) (q := 3) (i := 3) rfl rfl dX7_playShouts_65 rfl ?_
      refine wp_aload_n (pc' := 67) (q := 0) (i := 0) rfl rfl dX7_playShouts_66 rfl ?_
      refine wp_iload_n (pc' := 68) (q := 3) (i := 3) rfl rfl dX7_playShouts_67 rfl ?_
      refine wp_iconst (pc' := 69) dX7_playShouts_68 rfl ?_
      obtain ⟨h12, h⟩ := h
      refine wp_callV (pc' := 72) (as := [vI a3, vI 1]) (rest := [vI a3, vI (if 0 < (I a1 5) then (drw (I 38 3) a3 0) % (I a1 5) else 0), vR a1, vR 38]) (pX7_draw hR h12) dX7_playShouts_69 rfl lkX7_117 okX7_draw inX7_draw seX7_draw o_38 vc7 ⟨Nat.le_of_ble_eq_true rfl, Nat.le_of_ble_eq_true rfl⟩ (Nat.le_of_ble_eq_true rfl) (Nat.le_refl _) (Nat.le_refl _) okP_eq okP_eq rfl (rvI rfl (fun x11 I11 R11 hq11 => ?_))
      obtain ⟨eR11, eI11, ex11⟩ := hq11; subst eR11; subst eI11; cases ex11
      obtain ⟨Q13, hs13, h⟩ := h
      refine wp_callV (pc' := 75) (as := [vR a1, vI (if 0 < (I a1 5) then (drw (I 38 3) a3 0) % (I a1 5) else 0), vI a3, vI (drw (I 38 3) a3 1)]) (rest := []) hs13 dX7_playShouts_72 rfl lkX7_123 okX7_tells inX7_tells seX7_tells o_38 vc7 ⟨Nat.le_of_ble_eq_true rfl, Nat.le_of_ble_eq_true rfl⟩ (Nat.le_of_ble_eq_true rfl) (Nat.le_refl _) (Nat.le_refl _) okP_eq okP_eq rfl (rvI rfl (fun x13 I13 R13 hq13 => ?_))
      obtain ⟨hRR13, h⟩ := h x13 I13 R13 hq13; subst hRR13
      refine wp_istore (pc' := 77) (i := 5) (L' := [vR 38, vR a1, vR a2, vI a3, vI (if 0 < (I a1 5) then (drw (I 38 3) a3 0) % (I a1 5) else 0), vI x13]) (by decide) rfl dX7_playShouts_75 rfl rfl ?_
      refine wp_aload_n (pc' := 78) (q := 1) (i := 1) rfl rfl dX7_playShouts_77 rfl ?_
      refine wp_iload (pc' := 80) (i := 4) rfl dX7_playShouts_78 rfl ?_
      refine wp_iload (pc' := 82) (i := 5) rfl dX7_playShouts_80 rfl ?_
      obtain ⟨h15, h⟩ := h
      obtain ⟨h16, h⟩ := h
      obtain ⟨h17, h⟩ := h
      obtain ⟨h18, h⟩ := h
      refine wp_callS (pc' := 85) (as := [vR a1, vI (if 0 < (I a1 5) then (drw (I 38 3) a3 0) % (I a1 5) else 0), vI x13]) (rest := []) (pX9_isHeard (by decide) h1 h15 h9 h16 h17 h18) dX7_playShouts_82 rfl lkX7_126 okX9_isHeard stX9_isHeard ⟨Nat.le_of_ble_eq_true rfl, Nat.le_of_ble_eq_true rfl⟩ (Nat.le_of_ble_eq_true rfl) (Nat.le_refl _) (Nat.le_refl _) okP_eq okP_eq rfl (rvZ rfl (fun x14 I14 R14 hz14 hq14 => ?_))
      obtain ⟨eR14, eI14, ex14⟩ := hq14; subst eR14; subst eI14; cases ex14
      by_cases hc : I13 (R a1 0) (if 0 < (I a1 5) then (drw (I 38 3) a3 0) % (I a1 5) else 0).toNat = 0 ∨ x13 + I13 a1 9 ≤ I13 a1 10
      · rw [if_pos hc]; have h := h.1 hc
        refine wp_if_ne (pc' := 88) (tgt := 91) ⟨by decide, by decide⟩ dX7_playShouts_85 rfl rfl (fun hc => ?_) (fun hc => by exfalso; revert hc; decide)
        refine wp_aload_n (pc' := 92) (q := 2) (i := 2) rfl rfl dX7_playShouts_91 rfl ?_
        rcases Nat.eq_zero_or_pos a2 with hc | hc
        · have h := h.1 hc
          refine wp_ifnull0' hc (tgt := 108) dX7_playShouts_92 rfl ?_
          exact h
        · have h := h.2 hc
          refine wp_ifnull1 (pc' := 95) hc dX7_playShouts_92 rfl ?_
          refine wp_aload_n (pc' := 96) (q := 2) (i := 2) rfl rfl dX7_playShouts_95 rfl ?_
          refine wp_iload (pc' := 98) (i := 4) rfl dX7_playShouts_96 rfl ?_
          refine wp_iload (pc' := 100) (i := 5) rfl dX7_playShouts_98 rfl ?_
          refine wp_iload_n (pc' := 101) (q := 3) (i := 3) rfl rfl dX7_playShouts_100 rfl ?_
          refine wp_aload_n (pc' := 102) (q := 0) (i := 0) rfl rfl dX7_playShouts_101 rfl ?_
          refine wp_getI (pc' := 105) (k := 4) dX7_playShouts_102 vc7 (by decide) rfl lfX7_29 o_38 rfl ?_
          obtain ⟨h20, h⟩ := h
          obtain ⟨Q19, hs19, h⟩ := h
          refine wp_callV (pc' := 108) (as := [vI (if 0 < (I a1 5) then (drw (I 38 3) a3 0) % (I a1 5) else 0), vI x13, vI a3, vI (I13 38 4)]) (rest := []) hs19 dX7_playShouts_105 rfl lkX7_130 okX4_add inX4_add seX4_add h20 vc4 ⟨Nat.le_of_ble_eq_true rfl, Nat.le_of_ble_eq_true rfl⟩ (Nat.le_of_ble_eq_true rfl) (Nat.le_refl _) (Nat.le_refl _) okP_eq okP_eq rfl (rvV rfl (fun I19 R19 hq19 => ?_))
          obtain ⟨hRR19, h⟩ := h I19 R19 hq19; subst hRR19
          exact h
      · rw [if_neg hc]; have h := h.2 hc
        refine wp_if_ne (pc' := 88) (tgt := 91) ⟨by decide, by decide⟩ dX7_playShouts_85 rfl rfl (fun hc => by exfalso; revert hc; decide) (fun hc => ?_)
        refine wp_goto (tgt := 141) dX7_playShouts_88 rfl ?_
        exact wp_dropP (leP_s (leP_s (leP_s (leP_s (leP_d (leP_d leP_n)))))) h
    · have h := h.2 hc
      refine wp_goto (tgt := 141) dX7_playShouts_58 rfl ?_
      exact wp_dropP (leP_s (leP_s (leP_s (leP_s (leP_d (leP_s leP_n)))))) h

set_option maxRecDepth 4000 in
theorem gX7_playShouts_108 {Q : QT} {I : II} {R : RR} (hR : SR R) {a1 : Nat} {a2 : Nat} {a3 : Int} {a4 : Int} {a5 : Int}
    (h : (isO 89 a1 6) ∧
      (isA 89 (R a1 0) 2 20) ∧
      (0 ≤ a4 ∧ a4 < 20) ∧
      (InI (I (R a1 0) a4.toNat)) ∧
      (((I (R a1 0) a4.toNat) = 0 →
      (∃ Q5 : QT, Spec mX7_hearBid [vR 38, vR a1, vI a4, vI a5, vI a3] I R 89 89 Q5 ∧ (∀ I5 R5, Q5 none I5 R5 →
      R = R5 ∧ wp (kN 89) mX7_playShouts Q 141 [vR 38, vR a1, vR a2, vI a3, none, none] [] I5 R 89))) ∧ (¬ (I (R a1 0) a4.toNat) = 0 →
      (∃ Q6 : QT, Spec mX7_hearOffer [vR 38, vR a1, vI a4, vI a5, vI a3] I R 89 89 Q6 ∧ (∀ I6 R6, Q6 none I6 R6 →
      R = R6 ∧ wp (kN 89) mX7_playShouts Q 141 [vR 38, vR a1, vR a2, vI a3, none, none] [] I6 R 89))))) : wp (kN 89) mX7_playShouts Q 108 [vR 38, vR a1, vR a2, vI a3, vI a4, vI a5] [] I R 89 := by
  refine wp_aload_n (pc' := 109) (q := 1) (i := 1) rfl rfl dX7_playShouts_108 rfl ?_
  obtain ⟨h1, h⟩ := h
  refine wp_getR (pc' := 112) (k := 0) dX7_playShouts_109 vc6 (by decide) rfl lfX7_134 h1 rfl ?_
  refine wp_iload (pc' := 114) (i := 4) rfl dX7_playShouts_112 rfl ?_
  obtain ⟨h2, h⟩ := h
  obtain ⟨h3, h⟩ := h
  refine wp_zald (pc' := 115) (j := a4.toNat) dX7_playShouts_114 h2 h3 rfl rfl ?_
  obtain ⟨h4, h⟩ := h
  refine wp_if_eq (pc' := 118) (tgt := 131) h4 dX7_playShouts_115 rfl rfl (fun hc => ?_) (fun hc => ?_)
  · have h := h.1 hc
    refine wp_aload_n (pc' := 132) (q := 0) (i := 0) rfl rfl dX7_playShouts_131 rfl ?_
    refine wp_aload_n (pc' := 133) (q := 1) (i := 1) rfl rfl dX7_playShouts_132 rfl ?_
    refine wp_iload (pc' := 135) (i := 4) rfl dX7_playShouts_133 rfl ?_
    refine wp_iload (pc' := 137) (i := 5) rfl dX7_playShouts_135 rfl ?_
    refine wp_iload_n (pc' := 138) (q := 3) (i := 3) rfl rfl dX7_playShouts_137 rfl ?_
    obtain ⟨Q5, hs5, h⟩ := h
    refine wp_callV (pc' := 141) (as := [vR a1, vI a4, vI a5, vI a3]) (rest := []) hs5 dX7_playShouts_138 rfl lkX7_142 okX7_hearBid inX7_hearBid seX7_hearBid o_38 vc7 ⟨Nat.le_of_ble_eq_true rfl, Nat.le_of_ble_eq_true rfl⟩ (Nat.le_of_ble_eq_true rfl) (Nat.le_refl _) (Nat.le_refl _) okP_eq okP_eq rfl (rvV rfl (fun I5 R5 hq5 => ?_))
    obtain ⟨hRR5, h⟩ := h I5 R5 hq5; subst hRR5
    exact wp_dropP (leP_s (leP_s (leP_s (leP_s (leP_d (leP_d leP_n)))))) h
  · have h := h.2 hc
    refine wp_aload_n (pc' := 119) (q := 0) (i := 0) rfl rfl dX7_playShouts_118 rfl ?_
    refine wp_aload_n (pc' := 120) (q := 1) (i := 1) rfl rfl dX7_playShouts_119 rfl ?_
    refine wp_iload (pc' := 122) (i := 4) rfl dX7_playShouts_120 rfl ?_
    refine wp_iload (pc' := 124) (i := 5) rfl dX7_playShouts_122 rfl ?_
    refine wp_iload_n (pc' := 125) (q := 3) (i := 3) rfl rfl dX7_playShouts_124 rfl ?_
    obtain ⟨Q6, hs6, h⟩ := h
    refine wp_callV (pc' := 128) (as := [vR a1, vI a4, vI a5, vI a3]) (rest := []) hs6 dX7_playShouts_125 rfl lkX7_138 okX7_hearOffer inX7_hearOffer seX7_hearOffer o_38 vc7 ⟨Nat.le_of_ble_eq_true rfl, Nat.le_of_ble_eq_true rfl⟩ (Nat.le_of_ble_eq_true rfl) (Nat.le_refl _) (Nat.le_refl _) okP_eq okP_eq rfl (rvV rfl (fun I6 R6 hq6 => ?_))
    obtain ⟨hRR6, h⟩ := h I6 R6 hq6; subst hRR6
    refine wp_goto (tgt := 141) dX7_playShouts_128 rfl ?_
    exact wp_dropP (leP_s (leP_s (leP_s (leP_s (leP_d (leP_d leP_n)))))) h

set_option maxRecDepth 4000 in
theorem gX7_playShouts_141 {Q : QT} {I : II} {R : RR} (hR : SR R) {a1 : Nat} {a2 : Nat} {a3 : Int}
    (h : wp (kN 89) mX7_playShouts Q 23 [vR 38, vR a1, vR a2, vI (a3 + 1), none, none] [] I R 89) : wp (kN 89) mX7_playShouts Q 141 [vR 38, vR a1, vR a2, vI a3, none, none] [] I R 89 := by
  refine wp_iinc (pc' := 144) (i := 3) (L' := [vR 38, vR a1, vR a2, vI (a3 + 1), none, none]) rfl (by decide) rfl dX7_playShouts_141 rfl rfl ?_
  refine wp_goto (tgt := 23) dX7_playShouts_144 rfl ?_
  exact h

theorem sX7_hearBid {Q : QT} {I : II} {R : RR} {a1 : Nat} {a2 : Int} {a3 : Int} {a4 : Int} (h : wp (kN 89) mX7_hearBid Q 0 [vR 38, vR a1, vI a2, vI a3, vI a4] [] I R 89) : Spec mX7_hearBid [vR 38, vR a1, vI a2, vI a3, vI a4] I R 89 89 Q := Spec_of_wp pyX7_hearBid rfl (Nat.le_of_ble_eq_true rfl) (Nat.le_refl _) (by decide) h

set_option maxRecDepth 4000 in
theorem gX7_hearBid_0 {Q : QT} {I : II} {R : RR} (hR : SR R) {a1 : Nat} {a2 : Int} {a3 : Int} {a4 : Int}
    (h : (InI (I 38 11)) ∧
      (((I 38 11) = (-4 : Int) →
      wp (kN 89) mX7_hearBid Q 58 [vR 38, none, vI a2, vI a3, none] [] I R 89) ∧ (¬ (I 38 11) = (-4 : Int) →
      (isO 89 a1 6) ∧
      (InI a3) ∧
      (InI ((I 38 13) + (I a1 9))) ∧
      ((a3 < ((I 38 13) + (I a1 9)) →
      wp (kN 89) mX7_hearBid Q 58 [vR 38, none, vI a2, vI a3, none] [] I R 89) ∧ (¬ (a3 < ((I 38 13) + (I a1 9))) →
      (∃ Q5 : QT, Spec mX7_trade [vR 38, vR a1, vI a2, vI (I 38 11), vI ((I 38 13) + (I a1 9)), vI a4] I R 89 89 Q5 ∧ (∀ I5 R5, Q5 none I5 R5 →
      R = R5 ∧ (∀ I6 : II, I6 = up2 I5 38 10 (-4) →
      (∀ I7 : II, I7 = up2 I6 38 11 (-4) →
      wp (kN 89) mX7_hearBid Q 85 [none, none, none, none, none] [] I7 R 89))))))))) : wp (kN 89) mX7_hearBid Q 0 [vR 38, vR a1, vI a2, vI a3, vI a4] [] I R 89 := by
  refine wp_aload_n (pc' := 1) (q := 0) (i := 0) rfl rfl dX7_hearBid_0 rfl ?_
  refine wp_getI (pc' := 4) (k := 11) dX7_hearBid_1 vc7 (by decide) rfl lfX7_111 o_38 rfl ?_
  refine wp_bipush (pc' := 6) (by decide) dX7_hearBid_4 rfl ?_
  obtain ⟨h1, h⟩ := h
  refine wp_icmp_eq (pc' := 9) (tgt := 58) h1 ⟨by decide, by decide⟩ dX7_hearBid_6 rfl rfl (fun hc => ?_) (fun hc => ?_)
  · have h := h.1 hc
    exact wp_dropP (leP_s (leP_d (leP_s (leP_s (leP_d leP_n))))) h
  · have h := h.2 hc
    refine wp_iload_n (pc' := 10) (q := 3) (i := 3) rfl rfl dX7_hearBid_9 rfl ?_
    refine wp_aload_n (pc' := 11) (q := 0) (i := 0) rfl rfl dX7_hearBid_10 rfl ?_
    refine wp_getI (pc' := 14) (k := 13) dX7_hearBid_11 vc7 (by decide) rfl lfX7_145 o_38 rfl ?_
    refine wp_aload_n (pc' := 15) (q := 1) (i := 1) rfl rfl dX7_hearBid_14 rfl ?_
    obtain ⟨h2, h⟩ := h
    refine wp_getI (pc' := 18) (k := 9) dX7_hearBid_15 vc6 (by decide) rfl lfX7_148 h2 rfl ?_
    refine wp_iadd (pc' := 19) dX7_hearBid_18 rfl ?_
    obtain ⟨h3, h⟩ := h
    obtain ⟨h4, h⟩ := h
    refine wp_icmp_lt (pc' := 22) (tgt := 58) h3 h4 dX7_hearBid_19 rfl rfl (fun hc => ?_) (fun hc => ?_)
    · have h := h.1 hc
      exact wp_dropP (leP_s (leP_d (leP_s (leP_s (leP_d leP_n))))) h
    · have h := h.2 hc
      refine wp_aload_n (pc' := 23) (q := 0) (i := 0) rfl rfl dX7_hearBid_22 rfl ?_
      refine wp_aload_n (pc' := 24) (q := 1) (i := 1) rfl rfl dX7_hearBid_23 rfl ?_
      refine wp_iload_n (pc' := 25) (q := 2) (i := 2) rfl rfl dX7_hearBid_24 rfl ?_
      refine wp_aload_n (pc' := 26) (q := 0) (i := 0) rfl rfl dX7_hearBid_25 rfl ?_
      refine wp_getI (pc' := 29) (k := 11) dX7_hearBid_26 vc7 (by decide) rfl lfX7_111 o_38 rfl ?_
      refine wp_aload_n (pc' := 30) (q := 0) (i := 0) rfl rfl dX7_hearBid_29 rfl ?_
      refine wp_getI (pc' := 33) (k := 13) dX7_hearBid_30 vc7 (by decide) rfl lfX7_145 o_38 rfl ?_
      refine wp_aload_n (pc' := 34) (q := 1) (i := 1) rfl rfl dX7_hearBid_33 rfl ?_
      refine wp_getI (pc' := 37) (k := 9) dX7_hearBid_34 vc6 (by decide) rfl lfX7_148 h2 rfl ?_
      refine wp_iadd (pc' := 38) dX7_hearBid_37 rfl ?_
      refine wp_iload (pc' := 40) (i := 4) rfl dX7_hearBid_38 rfl ?_
      obtain ⟨Q5, hs5, h⟩ := h
      refine wp_callV (pc' := 43) (as := [vR a1, vI a2, vI (I 38 11), vI ((I 38 13) + (I a1 9)), vI a4]) (rest := []) hs5 dX7_hearBid_40 rfl lkX7_151 okX7_trade inX7_trade seX7_trade o_38 vc7 ⟨Nat.le_of_ble_eq_true rfl, Nat.le_of_ble_eq_true rfl⟩ (Nat.le_of_ble_eq_true rfl) (Nat.le_refl _) (Nat.le_refl _) okP_eq okP_eq rfl (rvV rfl (fun I5 R5 hq5 => ?_))
      obtain ⟨hRR5, h⟩ := h I5 R5 hq5; subst hRR5
      refine wp_aload_n (pc' := 44) (q := 0) (i := 0) rfl rfl dX7_hearBid_43 rfl ?_
      refine wp_bipush (pc' := 46) (by decide) dX7_hearBid_44 rfl ?_
      obtain ⟨I6, eI6⟩ : ∃ z : II, z = up2 I5 38 10 (-4) := ⟨_, rfl⟩
      have h := h I6 eI6
      refine wp_putI (pc' := 49) (k := 10) (I' := I6) dX7_hearBid_46 vc7 (by decide) rfl rfl (tyX7_ok 10 (by decide)) lfX7_108 o_38 rfl eI6 ?_
      refine wp_aload_n (pc' := 50) (q := 0) (i := 0) rfl rfl dX7_hearBid_49 rfl ?_
      refine wp_bipush (pc' := 52) (by decide) dX7_hearBid_50 rfl ?_
      obtain ⟨I7, eI7⟩ : ∃ z : II, z = up2 I6 38 11 (-4) := ⟨_, rfl⟩
      have h := h I7 eI7
      refine wp_putI (pc' := 55) (k := 11) (I' := I7) dX7_hearBid_52 vc7 (by decide) rfl rfl (tyX7_ok 11 (by decide)) lfX7_111 o_38 rfl eI7 ?_
      refine wp_goto (tgt := 85) dX7_hearBid_55 rfl ?_
      exact wp_dropP (leP_d (leP_d (leP_d (leP_d (leP_d leP_n))))) h

set_option maxRecDepth 4000 in
theorem gX7_hearBid_58 {Q : QT} {I : II} {R : RR} (hR : SR R) {a2 : Int} {a3 : Int}
    (h : (InI (I 38 10)) ∧
      (((I 38 10) = (-4 : Int) →
      wp (kN 89) mX7_hearBid Q 75 [vR 38, none, vI a2, vI a3, none] [] I R 89) ∧ (¬ (I 38 10) = (-4 : Int) →
      (InI a3) ∧
      (InI (I 38 12)) ∧
      ((a3 ≤ (I 38 12) →
      wp (kN 89) mX7_hearBid Q 85 [none, none, none, none, none] [] I R 89) ∧ (¬ (a3 ≤ (I 38 12)) →
      wp (kN 89) mX7_hearBid Q 75 [vR 38, none, vI a2, vI a3, none] [] I R 89))))) : wp (kN 89) mX7_hearBid Q 58 [vR 38, none, vI a2, vI a3, none] [] I R 89 := by
  refine wp_aload_n (pc' := 59) (q := 0) (i := 0) rfl rfl dX7_hearBid_58 rfl ?_
  refine wp_getI (pc' := 62) (k := 10) dX7_hearBid_59 vc7 (by decide) rfl lfX7_108 o_38 rfl ?_
  refine wp_bipush (pc' := 64) (by decide) dX7_hearBid_62 rfl ?_
  obtain ⟨h1, h⟩ := h
  refine wp_icmp_eq (pc' := 67) (tgt := 75) h1 ⟨by decide, by decide⟩ dX7_hearBid_64 rfl rfl (fun hc => ?_) (fun hc => ?_)
  · have h := h.1 hc
    exact h
  · have h := h.2 hc
    refine wp_iload_n (pc' := 68) (q := 3) (i := 3) rfl rfl dX7_hearBid_67 rfl ?_
    refine wp_aload_n (pc' := 69) (q := 0) (i := 0) rfl rfl dX7_hearBid_68 rfl ?_
    refine wp_getI (pc' := 72) (k := 12) dX7_hearBid_69 vc7 (by decide) rfl lfX7_155 o_38 rfl ?_
    obtain ⟨h2, h⟩ := h
    obtain ⟨h3, h⟩ := h
    refine wp_icmp_le (pc' := 75) (tgt := 85) h2 h3 dX7_hearBid_72 rfl rfl (fun hc => ?_) (fun hc => ?_)
    · have h := h.1 hc
      exact wp_dropP (leP_d (leP_s (leP_d (leP_d (leP_s leP_n))))) h
    · have h := h.2 hc
      exact h

set_option maxRecDepth 4000 in
theorem gX7_hearBid_75 {Q : QT} {I : II} {R : RR} (hR : SR R) {a2 : Int} {a3 : Int}
    (h : (∀ I1 : II, I1 = up2 I 38 10 a2 →
      (∀ I2 : II, I2 = up2 I1 38 12 a3 →
      wp (kN 89) mX7_hearBid Q 85 [none, none, none, none, none] [] I2 R 89))) : wp (kN 89) mX7_hearBid Q 75 [vR 38, none, vI a2, vI a3, none] [] I R 89 := by
  refine wp_aload_n (pc' := 76) (q := 0) (i := 0) rfl rfl dX7_hearBid_75 rfl ?_
  refine wp_iload_n (pc' := 77) (q := 2) (i := 2) rfl rfl dX7_hearBid_76 rfl ?_
  obtain ⟨I1, eI1⟩ : ∃ z : II, z = up2 I 38 10 a2 := ⟨_, rfl⟩
  have h := h I1 eI1
  refine wp_putI (pc' := 80) (k := 10) (I' := I1) dX7_hearBid_77 vc7 (by decide) rfl rfl (tyX7_ok 10 (by decide)) lfX7_108 o_38 rfl eI1 ?_
  refine wp_aload_n (pc' := 81) (q := 0) (i := 0) rfl rfl dX7_hearBid_80 rfl ?_
  refine wp_iload_n (pc' := 82) (q := 3) (i := 3) rfl rfl dX7_hearBid_81 rfl ?_
  obtain ⟨I2, eI2⟩ : ∃ z : II, z = up2 I1 38 12 a3 := ⟨_, rfl⟩
  have h := h I2 eI2
  refine wp_putI (pc' := 85) (k := 12) (I' := I2) dX7_hearBid_82 vc7 (by decide) rfl rfl (tyX7_ok 12 (by decide)) lfX7_155 o_38 rfl eI2 ?_
  exact wp_dropP (leP_d (leP_s (leP_d (leP_d (leP_s leP_n))))) h

set_option maxRecDepth 4000 in
theorem gX7_hearBid_85 {Q : QT} {I : II} {R : RR} (hR : SR R) 
    (h : Q none I R) : wp (kN 89) mX7_hearBid Q 85 [none, none, none, none, none] [] I R 89 := by
  exact wp_vreturn dX7_hearBid_85 rfl rfl h

theorem sX7_hearOffer {Q : QT} {I : II} {R : RR} {a1 : Nat} {a2 : Int} {a3 : Int} {a4 : Int} (h : wp (kN 89) mX7_hearOffer Q 0 [vR 38, vR a1, vI a2, vI a3, vI a4] [] I R 89) : Spec mX7_hearOffer [vR 38, vR a1, vI a2, vI a3, vI a4] I R 89 89 Q := Spec_of_wp pyX7_hearOffer rfl (Nat.le_of_ble_eq_true rfl) (Nat.le_refl _) (by decide) h

set_option maxRecDepth 4000 in
theorem gX7_hearOffer_0 {Q : QT} {I : II} {R : RR} (hR : SR R) {a1 : Nat} {a2 : Int} {a3 : Int} {a4 : Int}
    (h : (InI (I 38 10)) ∧
      (((I 38 10) = (-4 : Int) →
      wp (kN 89) mX7_hearOffer Q 53 [vR 38, none, vI a2, vI a3, none] [] I R 89) ∧ (¬ (I 38 10) = (-4 : Int) →
      (isO 89 a1 6) ∧
      (InI (a3 + (I a1 9))) ∧
      (InI (I 38 12)) ∧
      (((I 38 12) < (a3 + (I a1 9)) →
      wp (kN 89) mX7_hearOffer Q 53 [vR 38, none, vI a2, vI a3, none] [] I R 89) ∧ (¬ (I 38 12) < (a3 + (I a1 9)) →
      (∃ Q5 : QT, Spec mX7_trade [vR 38, vR a1, vI (I 38 10), vI a2, vI (I 38 12), vI a4] I R 89 89 Q5 ∧ (∀ I5 R5, Q5 none I5 R5 →
      R = R5 ∧ (∀ I6 : II, I6 = up2 I5 38 10 (-4) →
      (∀ I7 : II, I7 = up2 I6 38 11 (-4) →
      wp (kN 89) mX7_hearOffer Q 80 [none, none, none, none, none] [] I7 R 89))))))))) : wp (kN 89) mX7_hearOffer Q 0 [vR 38, vR a1, vI a2, vI a3, vI a4] [] I R 89 := by
  refine wp_aload_n (pc' := 1) (q := 0) (i := 0) rfl rfl dX7_hearOffer_0 rfl ?_
  refine wp_getI (pc' := 4) (k := 10) dX7_hearOffer_1 vc7 (by decide) rfl lfX7_108 o_38 rfl ?_
  refine wp_bipush (pc' := 6) (by decide) dX7_hearOffer_4 rfl ?_
  obtain ⟨h1, h⟩ := h
  refine wp_icmp_eq (pc' := 9) (tgt := 53) h1 ⟨by decide, by decide⟩ dX7_hearOffer_6 rfl rfl (fun hc => ?_) (fun hc => ?_)
  · have h := h.1 hc
    exact wp_dropP (leP_s (leP_d (leP_s (leP_s (leP_d leP_n))))) h
  · have h := h.2 hc
    refine wp_iload_n (pc' := 10) (q := 3) (i := 3) rfl rfl dX7_hearOffer_9 rfl ?_
    refine wp_aload_n (pc' := 11) (q := 1) (i := 1) rfl rfl dX7_hearOffer_10 rfl ?_
    obtain ⟨h2, h⟩ := h
    refine wp_getI (pc' := 14) (k := 9) dX7_hearOffer_11 vc6 (by decide) rfl lfX7_148 h2 rfl ?_
    refine wp_iadd (pc' := 15) dX7_hearOffer_14 rfl ?_
    refine wp_aload_n (pc' := 16) (q := 0) (i := 0) rfl rfl dX7_hearOffer_15 rfl ?_
    refine wp_getI (pc' := 19) (k := 12) dX7_hearOffer_16 vc7 (by decide) rfl lfX7_155 o_38 rfl ?_
    obtain ⟨h3, h⟩ := h
    obtain ⟨h4, h⟩ := h
    refine wp_icmp_gt (pc' := 22) (tgt := 53) h3 h4 dX7_hearOffer_19 rfl rfl (fun hc => ?_) (fun hc => ?_)
    · have h := h.1 hc
      exact wp_dropP (leP_s (leP_d (leP_s (leP_s (leP_d leP_n))))) h
    · have h := h.2 hc
      refine wp_aload_n (pc' := 23) (q := 0) (i := 0) rfl rfl dX7_hearOffer_22 rfl ?_
      refine wp_aload_n (pc' := 24) (q := 1) (i := 1) rfl rfl dX7_hearOffer_23 rfl ?_
      refine wp_aload_n (pc' := 25) (q := 0) (i := 0) rfl rfl dX7_hearOffer_24 rfl ?_
      refine wp_getI (pc' := 28) (k := 10) dX7_hearOffer_25 vc7 (by decide) rfl lfX7_108 o_38 rfl ?_
      refine wp_iload_n (pc' := 29) (q := 2) (i := 2) rfl rfl dX7_hearOffer_28 rfl ?_
      refine wp_aload_n (pc' := 30) (q := 0) (i := 0) rfl rfl dX7_hearOffer_29 rfl ?_
      refine wp_getI (pc' := 33) (k := 12) dX7_hearOffer_30 vc7 (by decide) rfl lfX7_155 o_38 rfl ?_
      refine wp_iload (pc' := 35) (i := 4) rfl dX7_hearOffer_33 rfl ?_
      obtain ⟨Q5, hs5, h⟩ := h
      refine wp_callV (pc' := 38) (as := [vR a1, vI (I 38 10), vI a2, vI (I 38 12), vI a4]) (rest := []) hs5 dX7_hearOffer_35 rfl lkX7_151 okX7_trade inX7_trade seX7_trade o_38 vc7 ⟨Nat.le_of_ble_eq_true rfl, Nat.le_of_ble_eq_true rfl⟩ (Nat.le_of_ble_eq_true rfl) (Nat.le_refl _) (Nat.le_refl _) okP_eq okP_eq rfl (rvV rfl (fun I5 R5 hq5 => ?_))
      obtain ⟨hRR5, h⟩ := h I5 R5 hq5; subst hRR5
      refine wp_aload_n (pc' := 39) (q := 0) (i := 0) rfl rfl dX7_hearOffer_38 rfl ?_
      refine wp_bipush (pc' := 41) (by decide) dX7_hearOffer_39 rfl ?_
      obtain ⟨I6, eI6⟩ : ∃ z : II, z = up2 I5 38 10 (-4) := ⟨_, rfl⟩
      have h := h I6 eI6
      refine wp_putI (pc' := 44) (k := 10) (I' := I6) dX7_hearOffer_41 vc7 (by decide) rfl rfl (tyX7_ok 10 (by decide)) lfX7_108 o_38 rfl eI6 ?_
      refine wp_aload_n (pc' := 45) (q := 0) (i := 0) rfl rfl dX7_hearOffer_44 rfl ?_
      refine wp_bipush (pc' := 47) (by decide) dX7_hearOffer_45 rfl ?_
      obtain ⟨I7, eI7⟩ : ∃ z : II, z = up2 I6 38 11 (-4) := ⟨_, rfl⟩
      have h := h I7 eI7
      refine wp_putI (pc' := 50) (k := 11) (I' := I7) dX7_hearOffer_47 vc7 (by decide) rfl rfl (tyX7_ok 11 (by decide)) lfX7_111 o_38 rfl eI7 ?_
      refine wp_goto (tgt := 80) dX7_hearOffer_50 rfl ?_
      exact wp_dropP (leP_d (leP_d (leP_d (leP_d (leP_d leP_n))))) h

set_option maxRecDepth 4000 in
theorem gX7_hearOffer_53 {Q : QT} {I : II} {R : RR} (hR : SR R) {a2 : Int} {a3 : Int}
    (h : (InI (I 38 11)) ∧
      (((I 38 11) = (-4 : Int) →
      wp (kN 89) mX7_hearOffer Q 70 [vR 38, none, vI a2, vI a3, none] [] I R 89) ∧ (¬ (I 38 11) = (-4 : Int) →
      (InI a3) ∧
      (InI (I 38 13)) ∧
      (((I 38 13) ≤ a3 →
      wp (kN 89) mX7_hearOffer Q 80 [none, none, none, none, none] [] I R 89) ∧ (¬ (I 38 13) ≤ a3 →
      wp (kN 89) mX7_hearOffer Q 70 [vR 38, none, vI a2, vI a3, none] [] I R 89))))) : wp (kN 89) mX7_hearOffer Q 53 [vR 38, none, vI a2, vI a3, none] [] I R 89 := by
  refine wp_aload_n (pc' := 54) (q := 0) (i := 0) rfl rfl dX7_hearOffer_53 rfl ?_
  refine wp_getI (pc' := 57) (k := 11) dX7_hearOffer_54 vc7 (by decide) rfl lfX7_111 o_38 rfl ?_
  refine wp_bipush (pc' := 59) (by decide) dX7_hearOffer_57 rfl ?_
  obtain ⟨h1, h⟩ := h
  refine wp_icmp_eq (pc' := 62) (tgt := 70) h1 ⟨by decide, by decide⟩ dX7_hearOffer_59 rfl rfl (fun hc => ?_) (fun hc => ?_)
  · have h := h.1 hc
    exact h
  · have h := h.2 hc
    refine wp_iload_n (pc' := 63) (q := 3) (i := 3) rfl rfl dX7_hearOffer_62 rfl ?_
    refine wp_aload_n (pc' := 64) (q := 0) (i := 0) rfl rfl dX7_hearOffer_63 rfl ?_
    refine wp_getI (pc' := 67) (k := 13) dX7_hearOffer_64 vc7 (by decide) rfl lfX7_145 o_38 rfl ?_
    obtain ⟨h2, h⟩ := h
    obtain ⟨h3, h⟩ := h
    refine wp_icmp_ge (pc' := 70) (tgt := 80) h2 h3 dX7_hearOffer_67 rfl rfl (fun hc => ?_) (fun hc => ?_)
    · have h := h.1 hc
      exact wp_dropP (leP_d (leP_s (leP_d (leP_d (leP_s leP_n))))) h
    · have h := h.2 hc
      exact h

set_option maxRecDepth 4000 in
theorem gX7_hearOffer_70 {Q : QT} {I : II} {R : RR} (hR : SR R) {a2 : Int} {a3 : Int}
    (h : (∀ I1 : II, I1 = up2 I 38 11 a2 →
      (∀ I2 : II, I2 = up2 I1 38 13 a3 →
      wp (kN 89) mX7_hearOffer Q 80 [none, none, none, none, none] [] I2 R 89))) : wp (kN 89) mX7_hearOffer Q 70 [vR 38, none, vI a2, vI a3, none] [] I R 89 := by
  refine wp_aload_n (pc' := 71) (q := 0) (i := 0) rfl rfl dX7_hearOffer_70 rfl ?_
  refine wp_iload_n (pc' := 72) (q := 2) (i := 2) rfl rfl dX7_hearOffer_71 rfl ?_
  obtain ⟨I1, eI1⟩ : ∃ z : II, z = up2 I 38 11 a2 := ⟨_, rfl⟩
  have h := h I1 eI1
  refine wp_putI (pc' := 75) (k := 11) (I' := I1) dX7_hearOffer_72 vc7 (by decide) rfl rfl (tyX7_ok 11 (by decide)) lfX7_111 o_38 rfl eI1 ?_
  refine wp_aload_n (pc' := 76) (q := 0) (i := 0) rfl rfl dX7_hearOffer_75 rfl ?_
  refine wp_iload_n (pc' := 77) (q := 3) (i := 3) rfl rfl dX7_hearOffer_76 rfl ?_
  obtain ⟨I2, eI2⟩ : ∃ z : II, z = up2 I1 38 13 a3 := ⟨_, rfl⟩
  have h := h I2 eI2
  refine wp_putI (pc' := 80) (k := 13) (I' := I2) dX7_hearOffer_77 vc7 (by decide) rfl rfl (tyX7_ok 13 (by decide)) lfX7_145 o_38 rfl eI2 ?_
  exact wp_dropP (leP_d (leP_s (leP_d (leP_d (leP_s leP_n))))) h

set_option maxRecDepth 4000 in
theorem gX7_hearOffer_80 {Q : QT} {I : II} {R : RR} (hR : SR R) 
    (h : Q none I R) : wp (kN 89) mX7_hearOffer Q 80 [none, none, none, none, none] [] I R 89 := by
  exact wp_vreturn dX7_hearOffer_80 rfl rfl h

theorem sX7_playPairs {Q : QT} {I : II} {R : RR} {a1 : Nat} (h : wp (kN 89) mX7_playPairs Q 0 [vR 38, vR a1, none, none, none, none, none] [] I R 89) : Spec mX7_playPairs [vR 38, vR a1] I R 89 89 Q := Spec_of_wp pyX7_playPairs rfl (Nat.le_of_ble_eq_true rfl) (Nat.le_refl _) (by decide) h

set_option maxRecDepth 4000 in
theorem gX7_playPairs_0 {Q : QT} {I : II} {R : RR} (hR : SR R) {a1 : Nat}
    (h : wp (kN 89) mX7_playPairs Q 2 [vR 38, vR a1, vI 0, none, none, none, none] [] I R 89) : wp (kN 89) mX7_playPairs Q 0 [vR 38, vR a1, none, none, none, none, none] [] I R 89 := by
  refine wp_iconst (pc' := 1) dX7_playPairs_0 rfl ?_
  refine wp_istore_n (pc' := 2) (q := 2) (i := 2) (L' := [vR 38, vR a1, vI 0, none, none, none, none]) rfl (by decide) rfl dX7_playPairs_1 rfl rfl ?_
  exact h

set_option maxRecDepth 4000 in
theorem gX7_playPairs_2 {Q : QT} {I : II} {R : RR} (hR : SR R) {a1 : Nat} {a2 : Int}
    (h : (isO 89 a1 6) ∧
      (InI a2) ∧
      (InI (I a1 8)) ∧
      (((I a1 8) ≤ a2 →
      Q none I R) ∧ (¬ (I a1 8) ≤ a2 →
      (0 ≤ I 38 3 ∧ I 38 3 ≤ 9999 ∧ 0 ≤ a2 ∧ a2 ≤ 300 ∧ 0 ≤ (0 : Int) ∧ (0 : Int) ≤ 5) ∧
      (InI (I a1 6)) ∧
      (0 ≤ (drw (I 38 3) a2 0) ∧ (drw (I 38 3) a2 0) ≤ 2147483647) ∧
      (isA 89 (R a1 3) 1 10) ∧
      (0 ≤ (if 0 < (I a1 6) then (drw (I 38 3) a2 0) % (I a1 6) else 0) ∧ (if 0 < (I a1 6) then (drw (I 38 3) a2 0) % (I a1 6) else 0) < 10) ∧
      (0 ≤ I 38 3 ∧ I 38 3 ≤ 9999 ∧ 0 ≤ a2 ∧ a2 ≤ 300 ∧ 0 ≤ (2 : Int) ∧ (2 : Int) ≤ 5) ∧
      (InI (I a1 7)) ∧
      (0 ≤ (drw (I 38 3) a2 2) ∧ (drw (I 38 3) a2 2) ≤ 2147483647) ∧
      (isA 89 (R a1 4) 1 10) ∧
      (0 ≤ (if 0 < (I a1 7) then (drw (I 38 3) a2 2) % (I a1 7) else 0) ∧ (if 0 < (I a1 7) then (drw (I 38 3) a2 2) % (I a1 7) else 0) < 10) ∧
      (0 ≤ (I (R a1 3) (if 0 < (I a1 6) then (drw (I 38 3) a2 0) % (I a1 6) else 0).toNat) ∧ (I (R a1 3) (if 0 < (I a1 6) then (drw (I 38 3) a2 0) % (I a1 6) else 0).toNat) < 20) ∧
      (InI (I 39 (I (R a1 3) (if 0 < (I a1 6) then (drw (I 38 3) a2 0) % (I a1 6) else 0).toNat).toNat)) ∧
      ((¬ (I 39 (I (R a1 3) (if 0 < (I a1 6) then (drw (I 38 3) a2 0) % (I a1 6) else 0).toNat).toNat) = (-4 : Int) →
      wp (kN 89) mX7_playPairs Q 145 [vR 38, vR a1, vI a2, none, none, none, none] [] I R 89) ∧ ((I 39 (I (R a1 3) (if 0 < (I a1 6) then (drw (I 38 3) a2 0) % (I a1 6) else 0).toNat).toNat) = (-4 : Int) →
      (0 ≤ (I (R a1 4) (if 0 < (I a1 7) then (drw (I 38 3) a2 2) % (I a1 7) else 0).toNat) ∧ (I (R a1 4) (if 0 < (I a1 7) then (drw (I 38 3) a2 2) % (I a1 7) else 0).toNat) < 20) ∧
      (InI (I 39 (I (R a1 4) (if 0 < (I a1 7) then (drw (I 38 3) a2 2) % (I a1 7) else 0).toNat).toNat)) ∧
      (((I 39 (I (R a1 4) (if 0 < (I a1 7) then (drw (I 38 3) a2 2) % (I a1 7) else 0).toNat).toNat) = (-4 : Int) →
      (0 ≤ I 38 3 ∧ I 38 3 ≤ 9999 ∧ 0 ≤ a2 ∧ a2 ≤ 300 ∧ 0 ≤ (1 : Int) ∧ (1 : Int) ≤ 5) ∧
      (∃ Q24 : QT, Spec mX7_tells [vR 38, vR a1, vI (I (R a1 3) (if 0 < (I a1 6) then (drw (I 38 3) a2 0) % (I a1 6) else 0).toNat), vI a2, vI (drw (I 38 3) a2 1)] I R 89 89 Q24 ∧ (∀ x24 I24 R24, Q24 (vI x24) I24 R24 →
      R = R24 ∧ (0 ≤ I24 38 3 ∧ I24 38 3 ≤ 9999 ∧ 0 ≤ a2 ∧ a2 ≤ 300 ∧ 0 ≤ (3 : Int) ∧ (3 : Int) ≤ 5) ∧
      (∃ Q27 : QT, Spec mX7_tells [vR 38, vR a1, vI (I (R a1 4) (if 0 < (I a1 7) then (drw (I 38 3) a2 2) % (I a1 7) else 0).toNat), vI a2, vI (drw (I24 38 3) a2 3)] I24 R 89 89 Q27 ∧ (∀ x27 I27 R27, Q27 (vI x27) I27 R27 →
      R = R27 ∧ (isA 89 (R a1 0) 2 20) ∧
      (I27 (R a1 0) (I (R a1 4) (if 0 < (I a1 7) then (drw (I 38 3) a2 2) % (I a1 7) else 0).toNat).toNat = 0 ∨ I27 (R a1 0) (I (R a1 4) (if 0 < (I a1 7) then (drw (I 38 3) a2 2) % (I a1 7) else 0).toNat).toNat = 1) ∧
      (InI (x27 + I27 a1 9)) ∧
      (InI (I27 a1 10)) ∧
      ((I27 (R a1 0) (I (R a1 4) (if 0 < (I a1 7) then (drw (I 38 3) a2 2) % (I a1 7) else 0).toNat).toNat = 0 ∨ x27 + I27 a1 9 ≤ I27 a1 10 →
      (InI x24) ∧
      (InI (x27 + (I27 a1 9))) ∧
      ((x24 < (x27 + (I27 a1 9)) →
      wp (kN 89) mX7_playPairs Q 145 [vR 38, vR a1, vI a2, none, none, none, none] [] I27 R 89) ∧ (¬ (x24 < (x27 + (I27 a1 9))) →
      (∃ Q35 : QT, Spec mX7_trade [vR 38, vR a1, vI (I (R a1 3) (if 0 < (I a1 6) then (drw (I 38 3) a2 0) % (I a1 6) else 0).toNat), vI (I (R a1 4) (if 0 < (I a1 7) then (drw (I 38 3) a2 2) % (I a1 7) else 0).toNat), vI (x27 + (I27 a1 9)), vI a2] I27 R 89 89 Q35 ∧ (∀ I35 R35, Q35 none I35 R35 →
      R = R35 ∧ wp (kN 89) mX7_playPairs Q 145 [vR 38, vR a1, vI a2, none, none, none, none] [] I35 R 89))))) ∧ (¬ (I27 (R a1 0) (I (R a1 4) (if 0 < (I a1 7) then (drw (I 38 3) a2 2) % (I a1 7) else 0).toNat).toNat = 0 ∨ x27 + I27 a1 9 ≤ I27 a1 10) →
      wp (kN 89) mX7_playPairs Q 145 [vR 38, vR a1, vI a2, none, none, none, none] [] I27 R 89))))))) ∧ (¬ (I 39 (I (R a1 4) (if 0 < (I a1 7) then (drw (I 38 3) a2 2) % (I a1 7) else 0).toNat).toNat) = (-4 : Int) →
      wp (kN 89) mX7_playPairs Q 145 [vR 38, vR a1, vI a2, none, none, none, none] [] I R 89))))))) : wp (kN 89) mX7_playPairs Q 2 [vR 38, vR a1, vI a2, none, none, none, none] [] I R 89 := by
  refine wp_iload_n (pc' := 3) (q := 2) (i := 2) rfl rfl dX7_playPairs_2 rfl ?_
  refine wp_aload_n (pc' := 4) (q := 1) (i := 1) rfl rfl dX7_playPairs_3 rfl ?_
  obtain ⟨h1, h⟩ := h
  refine wp_getI (pc' := 7) (k := 8) dX7_playPairs_4 vc6 (by decide) rfl lfX7_114 h1 rfl ?_
  obtain ⟨h2, h⟩ := h
  obtain ⟨h3, h⟩ := h
  refine wp_icmp_ge (pc' := 10) (tgt := 151) h2 h3 dX7_playPairs_7 rfl rfl (fun hc => ?_) (fun hc => ?_)
  · have h := h.1 hc
    exact wp_vreturn dX7_playPairs_151 rfl rfl h
  · have h := h.2 hc
    refine wp_aload_n (pc' := 11) (q := 1) (i := 1) rfl rfl dX7_playPairs_10 rfl ?_
    refine wp_getR (pc' := 14) (k := 3) dX7_playPairs_11 vc6 (by decide) rfl lfX7_158 h1 rfl ?_
    refine wp_aload_n (pc' := 15) (q := 0) (i := 0) rfl rfl dX7_playPairs_14 rfl ?_
    refine wp_iload_n (pc' := 16) (q := 2) (i := 2) rfl rfl dX7_playPairs_15 rfl ?_
    refine wp_iconst (pc' := 17) dX7_playPairs_16 rfl ?_
    obtain ⟨h5, h⟩ := h
    refine wp_callV (pc' := 20) (as := [vI a2, vI 0]) (rest := [vR (R a1 3)]) (pX7_draw hR h5) dX7_playPairs_17 rfl lkX7_117 okX7_draw inX7_draw seX7_draw o_38 vc7 ⟨Nat.le_of_ble_eq_true rfl, Nat.le_of_ble_eq_true rfl⟩ (Nat.le_of_ble_eq_true rfl) (Nat.le_refl _) (Nat.le_refl _) okP_eq okP_eq rfl (rvI rfl (fun x4 I4 R4 hq4 => ?_))
    obtain ⟨eR4, eI4, ex4⟩ := hq4; subst eR4; subst eI4; cases ex4
    refine wp_aload_n (pc' := 21) (q := 1) (i := 1) rfl rfl dX7_playPairs_20 rfl ?_
    refine wp_getI (pc' := 24) (k := 6) dX7_playPairs_21 vc6 (by decide) rfl lfX7_161 h1 rfl ?_
    obtain ⟨h7, h⟩ := h
    obtain ⟨h8, h⟩ := h
    refine wp_callS (pc' := 27) (as := [vI (drw (I 38 3) a2 0), vI (I a1 6)]) (rest := [vR (R a1 3)]) (pX7_rest (by decide) h7 h8) dX7_playPairs_24 rfl lkX7_80 okX7_rest stX7_rest ⟨Nat.le_of_ble_eq_true rfl, Nat.le_of_ble_eq_true rfl⟩ (Nat.le_of_ble_eq_true rfl) (Nat.le_refl _) (Nat.le_refl _) okP_eq okP_eq rfl (rvI rfl (fun x6 I6 R6 hq6 => ?_))
    obtain ⟨eR6, eI6, ex6⟩ := hq6; subst eR6; subst eI6; cases ex6
    obtain ⟨h9, h⟩ := h
    obtain ⟨h10, h⟩ := h
    refine wp_iald (pc' := 28) (j := (if 0 < (I a1 6) then (drw (I 38 3) a2 0) % (I a1 6) else 0).toNat) dX7_playPairs_27 h9 h10 rfl rfl ?_
    refine wp_istore_n (pc' := 29) (q := 3) (i := 3) (L' := [vR 38, vR a1, vI a2, vI (I (R a1 3) (if 0 < (I a1 6) then (drw (I 38 3) a2 0) % (I a1 6) else 0).toNat), none, none, none]) rfl (by decide) rfl dX7_playPairs_28 rfl rfl ?_
    refine wp_aload_n (pc' := 30) (q := 1) (i := 1) rfl rfl dX7_playPairs_29 rfl ?_
    refine wp_getR (pc' := 33) (k := 4) dX7_playPairs_30 vc6 (by decide) rfl lfX7_164 h1 rfl ?_
    refine wp_aload_n (pc' := 34) (q := 0) (i := 0) rfl rfl dX7_playPairs_33 rfl ?_
    refine wp_iload_n (pc' := 35) (q := 2) (i := 2) rfl rfl dX7_playPairs_34 rfl ?_
    refine wp_iconst (pc' := 36) dX7_playPairs_35 rfl ?_
    obtain ⟨h12, h⟩ := h
    refine wp_callV (pc' := 39) (as := [vI a2, vI 2]) (rest := [vR (R a1 4)]) (pX7_draw hR h12) dX7_playPairs_36 rfl lkX7_117 okX7_draw inX7_draw seX7_draw o_38 vc7 ⟨Nat.le_of_ble_eq_true rfl, Nat.le_of_ble_eq_true rfl⟩ (Nat.le_of_ble_eq_true rfl) (Nat.le_refl _) (Nat.le_refl _) okP_eq okP_eq rfl (rvI rfl (fun x11 I11 R11 hq11 => ?_))
    obtain ⟨eR11, eI11, ex11⟩ := hq11; subst eR11; subst eI11; cases ex11
    refine wp_aload_n (pc' := 40) (q := 1) (i := 1) rfl rfl dX7_playPairs_39 rfl ?_
    refine wp_getI (pc' := 43) (k := 7) dX7_playPairs_40 vc6 (by decide) rfl lfX7_167 h1 rfl ?_
    obtain ⟨h14, h⟩ := h
    obtain ⟨h15, h⟩ := h
    refine wp_callS (pc' := 46) (as := [vI (drw (I 38 3) a2 2), vI (I a1 7)]) (rest := [vR (R a1 4)]) (pX7_rest (by decide) h14 h15) dX7_playPairs_43 rfl lkX7_80 okX7_rest stX7_rest ⟨Nat.le_of_ble_eq_true rfl, Nat.le_of_ble_eq_true rfl⟩ (Nat.le_of_ble_eq_true rfl) (Nat.le_refl _) (Nat.le_refl _) okP_eq okP_eq rfl (rvI rfl (fun x13 I13 R13 hq13 => ?_))
    obtain ⟨eR13, eI13, ex13⟩ := hq13; subst eR13; subst eI13; cases ex13
    obtain ⟨h16, h⟩ := h
    obtain ⟨h17, h⟩ := h
    refine wp_iald (pc' := 47) (j := (if 0 < (I a1 7) then (drw (I 38 3) a2 2) % (I a1 7) else 0).toNat) dX7_playPairs_46 h16 h17 rfl rfl ?_
    refine wp_istore (pc' := 49) (i := 4) (L' := [vR 38, vR a1, vI a2, vI (I (R a1 3) (if 0 < (I a1 6) then (drw (I 38 3) a2 0) % (I a1 6) else 0).toNat), vI (I (R a1 4) (if 0 < (I a1 7) then (drw (I 38 3) a2 2) % (I a1 7) else 0).toNat), none, none]) (by decide) rfl dX7_playPairs_47 rfl rfl ?_
    refine wp_aload_n (pc' := 50) (q := 0) (i := 0) rfl rfl dX7_playPairs_49 rfl ?_
    refine wp_getRc (pc' := 53) (k := 0) (j := 39) dX7_playPairs_50 vc7 (by decide) rfl lfX7_9 o_38 (r_38_0 hR) rfl ?_
    refine wp_iload_n (pc' := 54) (q := 3) (i := 3) rfl rfl dX7_playPairs_53 rfl ?_
    obtain ⟨h18, h⟩ := h
    refine wp_iald (pc' := 55) (j := (I (R a1 3) (if 0 < (I a1 6) then (drw (I 38 3) a2 0) % (I a1 6) else 0).toNat).toNat) dX7_playPairs_54 a_39 h18 rfl rfl ?_
    refine wp_bipush (pc' := 57) (by decide) dX7_playPairs_55 rfl ?_
    obtain ⟨h19, h⟩ := h
    refine wp_icmp_ne (pc' := 60) (tgt := 145) h19 ⟨by decide, by decide⟩ dX7_playPairs_57 rfl rfl (fun hc => ?_) (fun hc => ?_)
    · have h := h.1 hc
      exact wp_dropP (leP_s (leP_s (leP_s (leP_d (leP_d (leP_s (leP_s leP_n))))))) h
    · have h := h.2 hc
      refine wp_aload_n (pc' := 61) (q := 0) (i := 0) rfl rfl dX7_playPairs_60 rfl ?_
      refine wp_getRc (pc' := 64) (k := 0) (j := 39) dX7_playPairs_61 vc7 (by decide) rfl lfX7_9 o_38 (r_38_0 hR) rfl ?_
      refine wp_iload (pc' := 66) (i := 4) rfl dX7_playPairs_64 rfl ?_
      obtain ⟨h20, h⟩ := h
      refine wp_iald (pc' := 67) (j := (I (R a1 4) (if 0 < (I a1 7) then (drw (I 38 3) a2 2) % (I a1 7) else 0).toNat).toNat) dX7_playPairs_66 a_39 h20 rfl rfl ?_
      refine wp_bipush (pc' := 69) (by decide) dX7_playPairs_67 rfl ?_
      obtain ⟨h21, h⟩ := h
      refine wp_icmp_eq (pc' := 72) (tgt := 75) h21 ⟨by decide, by decide⟩ dX7_playPairs_69 rfl rfl (fun hc => ?_) (fun hc => ?_)
      · have h := h.1 hc
        refine wp_aload_n (pc' := 76) (q := 0) (i := 0) rfl rfl dX7_playPairs_75 rfl ?_
        refine wp_aload_n (pc' := 77) (q := 1) (i := 1) rfl rfl dX7_playPairs_76 rfl ?_
        refine wp_iload_n (pc' := 78) (q := 3) (i := 3) rfl rfl dX7_playPairs_77 rfl ?_
        refine wp_iload_n (pc' := 79) (q := 2) (i := 2) rfl rfl dX7_playPairs_78 rfl ?_
        refine wp_aload_n (pc' := 80) (q := 0) (i := 0) rfl rfl dX7_playPairs_79 rfl ?_
        refine wp_iload_n (pc' := 81) (q := 2) (i := 2) rfl rfl dX7_playPairs_80 rfl ?_
        refine wp_iconst (pc' := 82) dX7_playPairs_81 rfl ?_
        obtain ⟨h23, h⟩ := h
        refine wp_callV (pc' := 85) (as := [vI a2, vI 1]) (rest := [vI a2, vI (I (R a1 3) (if 0 < (I a1 6) then (drw (I 38 3) a2 0) % (I a1 6) else 0).toNat), vR a1, vR 38]) (pX7_draw hR h23) dX7_playPairs_82 rfl lkX7_117 okX7_draw inX7_draw seX7_draw o_38 vc7 ⟨Nat.le_of_ble_eq_true rfl, Nat.le_of_ble_eq_true rfl⟩ (Nat.le_of_ble_eq_true rfl) (Nat.le_refl _) (Nat.le_refl _) okP_eq okP_eq rfl (rvI rfl (fun x22 I22 R22 hq22 => ?_))
        obtain ⟨eR22, eI22, ex22⟩ := hq22; subst eR22; subst eI22; cases ex22
        obtain ⟨Q24, hs24, h⟩ := h
        refine wp_callV (pc' := 88) (as := [vR a1, vI (I (R a1 3) (if 0 < (I a1 6) then (drw (I 38 3) a2 0) % (I a1 6) else 0).toNat), vI a2, vI (drw (I 38 3) a2 1)]) (rest := []) hs24 dX7_playPairs_85 rfl lkX7_123 okX7_tells inX7_tells seX7_tells o_38 vc7 ⟨Nat.le_of_ble_eq_true rfl, Nat.le_of_ble_eq_true rfl⟩ (Nat.le_of_ble_eq_true rfl) (Nat.le_refl _) (Nat.le_refl _) okP_eq okP_eq rfl (rvI rfl (fun x24 I24 R24 hq24 => ?_))
        obtain ⟨hRR24, h⟩ := h x24 I24 R24 hq24; subst hRR24
        refine wp_istore (pc' := 90) (i := 5) (L' := [vR 38, vR a1, vI a2, vI (I (R a1 3) (if 0 < (I a1 6) then (drw (I 38 3) a2 0) % (I a1 6) else 0).toNat), vI (I (R a1 4) (if 0 < (I a1 7) then (drw (I 38 3) a2 2) % (I a1 7) else 0).toNat), vI x24, none]) (by decide) rfl dX7_playPairs_88 rfl rfl ?_
        refine wp_aload_n (pc' := 91) (q := 0) (i := 0) rfl rfl dX7_playPairs_90 rfl ?_
        refine wp_aload_n (pc' := 92) (q := 1) (i := 1) rfl rfl dX7_playPairs_91 rfl ?_
        refine wp_iload (pc' := 94) (i := 4) rfl dX7_playPairs_92 rfl ?_
        refine wp_iload_n (pc' := 95) (q := 2) (i := 2) rfl rfl dX7_playPairs_94 rfl ?_
        refine wp_aload_n (pc' := 96) (q := 0) (i := 0) rfl rfl dX7_playPairs_95 rfl ?_
        refine wp_iload_n (pc' := 97) (q := 2) (i := 2) rfl rfl dX7_playPairs_96 rfl ?_
        refine wp_iconst (pc' := 98) dX7_playPairs_97 rfl ?_
        obtain ⟨h26, h⟩ := h
        refine wp_callV (pc' := 101) (as := [vI a2, vI 3]) (rest := [vI a2, vI (I (R a1 4) (if 0 < (I a1 7) then (drw (I 38 3) a2 2) % (I a1 7) else 0).toNat), vR a1, vR 38]) (pX7_draw hR h26) dX7_playPairs_98 rfl lkX7_117 okX7_draw inX7_draw seX7_draw o_38 vc7 ⟨Nat.le_of_ble_eq_true rfl, Nat.le_of_ble_eq_true rfl⟩ (Nat.le_of_ble_eq_true rfl) (Nat.le_refl _) (Nat.le_refl _) okP_eq okP_eq rfl (rvI rfl (fun x25 I25 R25 hq25 => ?_))
        obtain ⟨eR25, eI25, ex25⟩ := hq25; subst eR25; subst eI25; cases ex25
        obtain ⟨Q27, hs27, h⟩ := h
        refine wp_callV (pc' := 104) (as := [vR a1, vI (I (R a1 4) (if 0 < (I a1 7) then (drw (I 38 3) a2 2) % (I a1 7) else 0).toNat), vI a2, vI (drw (I24 38 3) a2 3)]) (rest := []) hs27 dX7_playPairs_101 rfl lkX7_123 okX7_tells inX7_tells seX7_tells o_38 vc7 ⟨Nat.le_of_ble_eq_true rfl, Nat.le_of_ble_eq_true rfl⟩ (Nat.le_of_ble_eq_true rfl) (Nat.le_refl _) (Nat.le_refl _) okP_eq okP_eq rfl (rvI rfl (fun x27 I27 R27 hq27 => ?_))
        obtain ⟨hRR27, h⟩ := h x27 I27 R27 hq27; subst hRR27
        refine wp_istore (pc' := 106) (i := 6) (L' := [vR 38, vR a1, vI a2, vI (I (R a1 3) (if 0 < (I a1 6) then (drw (I 38 3) a2 0) % (I a1 6) else 0).toNat), vI (I (R a1 4) (if 0 < (I a1 7) then (drw (I 38 3) a2 2) % (I a1 7) else 0).toNat), vI x24, vI x27]) (by decide) rfl dX7_playPairs_104 rfl rfl ?_
        refine wp_aload_n (pc' := 107) (q := 1) (i := 1) rfl rfl dX7_playPairs_106 rfl ?_
        refine wp_iload (pc' := 109) (i := 4) rfl dX7_playPairs_107 rfl ?_
        refine wp_iload (pc' := 111) (i := 6) rfl dX7_playPairs_109 rfl ?_
        obtain ⟨h29, h⟩ := h
        obtain ⟨h30, h⟩ := h
        obtain ⟨h31, h⟩ := h
        obtain ⟨h32, h⟩ := h
        refine wp_callS (pc' := 114) (as := [vR a1, vI (I (R a1 4) (if 0 < (I a1 7) then (drw (I 38 3) a2 2) % (I a1 7) else 0).toNat), vI x27]) (rest := []) (pX9_isHeard (by decide) h1 h29 h20 h30 h31 h32) dX7_playPairs_111 rfl lkX7_126 okX9_isHeard stX9_isHeard ⟨Nat.le_of_ble_eq_true rfl, Nat.le_of_ble_eq_true rfl⟩ (Nat.le_of_ble_eq_true rfl) (Nat.le_refl _) (Nat.le_refl _) okP_eq okP_eq rfl (rvZ rfl (fun x28 I28 R28 hz28 hq28 => ?_))
        obtain ⟨eR28, eI28, ex28⟩ := hq28; subst eR28; subst eI28; cases ex28
        by_cases hc : I27 (R a1 0) (I (R a1 4) (if 0 < (I a1 7) then (drw (I 38 3) a2 2) % (I a1 7) else 0).toNat).toNat = 0 ∨ x27 + I27 a1 9 ≤ I27 a1 10
        · rw [if_pos hc]; have h := h.1 hc
          refine wp_if_eq (pc' := 117) (tgt := 145) ⟨by decide, by decide⟩ dX7_playPairs_114 rfl rfl (fun hc => by exfalso; revert hc; decide) (fun hc => ?_)
          refine wp_iload (pc' := 119) (i := 5) rfl dX7_playPairs_117 rfl ?_
          refine wp_iload (pc' := 121) (i := 6) rfl dX7_playPairs_119 rfl ?_
          refine wp_aload_n (pc' := 122) (q := 1) (i := 1) rfl rfl dX7_playPairs_121 rfl ?_
          refine wp_getI (pc' := 125) (k := 9) dX7_playPairs_122 vc6 (by decide) rfl lfX7_148 h1 rfl ?_
          refine wp_iadd (pc' := 126) dX7_playPairs_125 rfl ?_
          obtain ⟨h33, h⟩ := h
          obtain ⟨h34, h⟩ := h
          refine wp_icmp_lt (pc' := 129) (tgt := 145) h33 h34 dX7_playPairs_126 rfl rfl (fun hc => ?_) (fun hc => ?_)
          · have h := h.1 hc
            exact wp_dropP (leP_s (leP_s (leP_s (leP_d (leP_d (leP_d (leP_d leP_n))))))) h
          · have h := h.2 hc
            refine wp_aload_n (pc' := 130) (q := 0) (i := 0) rfl rfl dX7_playPairs_129 rfl ?_
            refine wp_aload_n (pc' := 131) (q := 1) (i := 1) rfl rfl dX7_playPairs_130 rfl ?_
            refine wp_iload_n (pc' := 132) (q := 3) (i := 3) rfl rfl dX7_playPairs_131 rfl ?_
            refine wp_iload (pc' := 134) (i := 4) rfl dX7_playPairs_132 rfl ?_
            refine wp_iload (pc' := 136) (i := 6) rfl dX7_playPairs_134 rfl ?_
            refine wp_aload_n (pc' := 137) (q := 1) (i := 1) rfl rfl dX7_playPairs_136 rfl ?_
            refine wp_getI (pc' := 140) (k := 9) dX7_playPairs_137 vc6 (by decide) rfl lfX7_148 h1 rfl ?_
            refine wp_iadd (pc' := 141) dX7_playPairs_140 rfl ?_
            refine wp_iload_n (pc' := 142) (q := 2) (i := 2) rfl rfl dX7_playPairs_141 rfl ?_
            obtain ⟨Q35, hs35, h⟩ := h
            refine wp_callV (pc' := 145) (as := [vR a1, vI (I (R a1 3) (if 0 < (I a1 6) then (drw (I 38 3) a2 0) % (I a1 6) else 0).toNat), vI (I (R a1 4) (if 0 < (I a1 7) then (drw (I 38 3) a2 2) % (I a1 7) else 0).toNat), vI (x27 + (I27 a1 9)), vI a2]) (rest := []) hs35 dX7_playPairs_142 rfl lkX7_151 okX7_trade inX7_trade seX7_trade o_38 vc7 ⟨Nat.le_of_ble_eq_true rfl, Nat.le_of_ble_eq_true rfl⟩ (Nat.le_of_ble_eq_true rfl) (Nat.le_refl _) (Nat.le_refl _) okP_eq okP_eq rfl (rvV rfl (fun I35 R35 hq35 => ?_))
            obtain ⟨hRR35, h⟩ := h I35 R35 hq35; subst hRR35
            exact wp_dropP (leP_s (leP_s (leP_s (leP_d (leP_d (leP_d (leP_d leP_n))))))) h
        · rw [if_neg hc]; have h := h.2 hc
          refine wp_if_eq (pc' := 117) (tgt := 145) ⟨by decide, by decide⟩ dX7_playPairs_114 rfl rfl (fun hc => ?_) (fun hc => by exfalso; revert hc; decide)
          exact wp_dropP (leP_s (leP_s (leP_s (leP_d (leP_d (leP_d (leP_d leP_n))))))) h
      · have h := h.2 hc
        refine wp_goto (tgt := 145) dX7_playPairs_72 rfl ?_
        exact wp_dropP (leP_s (leP_s (leP_s (leP_d (leP_d (leP_s (leP_s leP_n))))))) h

set_option maxRecDepth 4000 in
theorem gX7_playPairs_145 {Q : QT} {I : II} {R : RR} (hR : SR R) {a1 : Nat} {a2 : Int}
    (h : wp (kN 89) mX7_playPairs Q 2 [vR 38, vR a1, vI (a2 + 1), none, none, none, none] [] I R 89) : wp (kN 89) mX7_playPairs Q 145 [vR 38, vR a1, vI a2, none, none, none, none] [] I R 89 := by
  refine wp_iinc (pc' := 148) (i := 2) (L' := [vR 38, vR a1, vI (a2 + 1), none, none, none, none]) rfl (by decide) rfl dX7_playPairs_145 rfl rfl ?_
  refine wp_goto (tgt := 2) dX7_playPairs_148 rfl ?_
  exact h

theorem sX7_playPosted {Q : QT} {I : II} {R : RR} {a1 : Nat} (h : wp (kN 89) mX7_playPosted Q 0 [vR 38, vR a1, none, none, none] [] I R 89) : Spec mX7_playPosted [vR 38, vR a1] I R 89 89 Q := Spec_of_wp pyX7_playPosted rfl (Nat.le_of_ble_eq_true rfl) (Nat.le_refl _) (by decide) h

set_option maxRecDepth 4000 in
theorem gX7_playPosted_0 {Q : QT} {I : II} {R : RR} (hR : SR R) {a1 : Nat}
    (h : wp (kN 89) mX7_playPosted Q 2 [vR 38, vR a1, vI 0, none, none] [] I R 89) : wp (kN 89) mX7_playPosted Q 0 [vR 38, vR a1, none, none, none] [] I R 89 := by
  refine wp_iconst (pc' := 1) dX7_playPosted_0 rfl ?_
  refine wp_istore_n (pc' := 2) (q := 2) (i := 2) (L' := [vR 38, vR a1, vI 0, none, none]) rfl (by decide) rfl dX7_playPosted_1 rfl rfl ?_
  exact h

set_option maxRecDepth 4000 in
theorem gX7_playPosted_2 {Q : QT} {I : II} {R : RR} (hR : SR R) {a1 : Nat} {a2 : Int}
    (h : (isO 89 a1 6) ∧
      (InI a2) ∧
      (InI (I a1 7)) ∧
      (((I a1 7) ≤ a2 →
      wp (kN 89) mX7_playPosted Q 44 [vR 38, vR a1, vI 0, none, none] [] I R 89) ∧ (¬ (I a1 7) ≤ a2 →
      (isA 89 (R a1 4) 1 10) ∧
      (0 ≤ a2 ∧ a2 < 10) ∧
      (0 ≤ I 38 3 ∧ I 38 3 ≤ 9999 ∧ 0 ≤ (I (R a1 4) a2.toNat) ∧ (I (R a1 4) a2.toNat) ≤ 300 ∧ 0 ≤ (1 : Int) ∧ (1 : Int) ≤ 5) ∧
      (∃ Q8 : QT, Spec mX7_tells [vR 38, vR a1, vI (I (R a1 4) a2.toNat), vI 0, vI (drw (I 38 3) (I (R a1 4) a2.toNat) 1)] I R 89 89 Q8 ∧ (∀ x8 I8 R8, Q8 (vI x8) I8 R8 →
      R = R8 ∧ (0 ≤ (I (R a1 4) a2.toNat) ∧ (I (R a1 4) a2.toNat) < 20) ∧
      (∀ I10 : II, I10 = up2 I8 40 ((I (R a1 4) a2.toNat).toNat) x8 →
      wp (kN 89) mX7_playPosted Q 2 [vR 38, vR a1, vI (a2 + 1), none, none] [] I10 R 89)))))) : wp (kN 89) mX7_playPosted Q 2 [vR 38, vR a1, vI a2, none, none] [] I R 89 := by
  refine wp_iload_n (pc' := 3) (q := 2) (i := 2) rfl rfl dX7_playPosted_2 rfl ?_
  refine wp_aload_n (pc' := 4) (q := 1) (i := 1) rfl rfl dX7_playPosted_3 rfl ?_
  obtain ⟨h1, h⟩ := h
  refine wp_getI (pc' := 7) (k := 7) dX7_playPosted_4 vc6 (by decide) rfl lfX7_167 h1 rfl ?_
  obtain ⟨h2, h⟩ := h
  obtain ⟨h3, h⟩ := h
  refine wp_icmp_ge (pc' := 10) (tgt := 42) h2 h3 dX7_playPosted_7 rfl rfl (fun hc => ?_) (fun hc => ?_)
  · have h := h.1 hc
    refine wp_iconst (pc' := 43) dX7_playPosted_42 rfl ?_
    refine wp_istore_n (pc' := 44) (q := 2) (i := 2) (L' := [vR 38, vR a1, vI 0, none, none]) rfl (by decide) rfl dX7_playPosted_43 rfl rfl ?_
    exact h
  · have h := h.2 hc
    refine wp_aload_n (pc' := 11) (q := 1) (i := 1) rfl rfl dX7_playPosted_10 rfl ?_
    refine wp_getR (pc' := 14) (k := 4) dX7_playPosted_11 vc6 (by decide) rfl lfX7_164 h1 rfl ?_
    refine wp_iload_n (pc' := 15) (q := 2) (i := 2) rfl rfl dX7_playPosted_14 rfl ?_
    obtain ⟨h4, h⟩ := h
    obtain ⟨h5, h⟩ := h
    refine wp_iald (pc' := 16) (j := a2.toNat) dX7_playPosted_15 h4 h5 rfl rfl ?_
    refine wp_istore_n (pc' := 17) (q := 3) (i := 3) (L' := [vR 38, vR a1, vI a2, vI (I (R a1 4) a2.toNat), none]) rfl (by decide) rfl dX7_playPosted_16 rfl rfl ?_
    refine wp_aload_n (pc' := 18) (q := 0) (i := 0) rfl rfl dX7_playPosted_17 rfl ?_
    refine wp_getRc (pc' := 21) (k := 1) (j := 40) dX7_playPosted_18 vc7 (by decide) rfl lfX7_15 o_38 (r_38_1 hR) rfl ?_
    refine wp_iload_n (pc' := 22) (q := 3) (i := 3) rfl rfl dX7_playPosted_21 rfl ?_
    refine wp_aload_n (pc' := 23) (q := 0) (i := 0) rfl rfl dX7_playPosted_22 rfl ?_
    refine wp_aload_n (pc' := 24) (q := 1) (i := 1) rfl rfl dX7_playPosted_23 rfl ?_
    refine wp_iload_n (pc' := 25) (q := 3) (i := 3) rfl rfl dX7_playPosted_24 rfl ?_
    refine wp_iconst (pc' := 26) dX7_playPosted_25 rfl ?_
    refine wp_aload_n (pc' := 27) (q := 0) (i := 0) rfl rfl dX7_playPosted_26 rfl ?_
    refine wp_iload_n (pc' := 28) (q := 3) (i := 3) rfl rfl dX7_playPosted_27 rfl ?_
    refine wp_iconst (pc' := 29) dX7_playPosted_28 rfl ?_
    obtain ⟨h7, h⟩ := h
    refine wp_callV (pc' := 32) (as := [vI (I (R a1 4) a2.toNat), vI 1]) (rest := [vI 0, vI (I (R a1 4) a2.toNat), vR a1, vR 38, vI (I (R a1 4) a2.toNat), vR 40]) (pX7_draw hR h7) dX7_playPosted_29 rfl lkX7_117 okX7_draw inX7_draw seX7_draw o_38 vc7 ⟨Nat.le_of_ble_eq_true rfl, Nat.le_of_ble_eq_true rfl⟩ (Nat.le_of_ble_eq_true rfl) (Nat.le_refl _) (Nat.le_refl _) okP_eq okP_eq rfl (rvI rfl (fun x6 I6 R6 hq6 => ?_))
    obtain ⟨eR6, eI6, ex6⟩ := hq6; subst eR6; subst eI6; cases ex6
    obtain ⟨Q8, hs8, h⟩ := h
    refine wp_callV (pc' := 35) (as := [vR a1, vI (I (R a1 4) a2.toNat), vI 0, vI (drw (I 38 3) (I (R a1 4) a2.toNat) 1)]) (rest := [vI (I (R a1 4) a2.toNat), vR 40]) hs8 dX7_playPosted_32 rfl lkX7_123 okX7_tells inX7_tells seX7_tells o_38 vc7 ⟨Nat.le_of_ble_eq_true rfl, Nat.le_of_ble_eq_true rfl⟩ (Nat.le_of_ble_eq_true rfl) (Nat.le_refl _) (Nat.le_refl _) okP_eq okP_eq rfl (rvI rfl (fun x8 I8 R8 hq8 => ?_))
    obtain ⟨hRR8, h⟩ := h x8 I8 R8 hq8; subst hRR8
    obtain ⟨h9, h⟩ := h
    obtain ⟨I10, eI10⟩ : ∃ z : II, z = up2 I8 40 ((I (R a1 4) a2.toNat).toNat) x8 := ⟨_, rfl⟩
    have h := h I10 eI10
    refine wp_iast (pc' := 36) (j := (I (R a1 4) a2.toNat).toNat) (I' := I10) dX7_playPosted_35 a_40 h9 rfl rfl eI10 ?_
    refine wp_iinc (pc' := 39) (i := 2) (L' := [vR 38, vR a1, vI (a2 + 1), vI (I (R a1 4) a2.toNat), none]) rfl (by decide) rfl dX7_playPosted_36 rfl rfl ?_
    refine wp_goto (tgt := 2) dX7_playPosted_39 rfl ?_
    exact wp_dropP (leP_s (leP_s (leP_s (leP_d (leP_s leP_n))))) h

set_option maxRecDepth 4000 in
theorem gX7_playPosted_44 {Q : QT} {I : II} {R : RR} (hR : SR R) {a1 : Nat} {a2 : Int}
    (h : (isO 89 a1 6) ∧
      (InI a2) ∧
      (InI (I a1 8)) ∧
      (((I a1 8) ≤ a2 →
      Q none I R) ∧ (¬ (I a1 8) ≤ a2 →
      (0 ≤ I 38 3 ∧ I 38 3 ≤ 9999 ∧ 0 ≤ a2 ∧ a2 ≤ 300 ∧ 0 ≤ (0 : Int) ∧ (0 : Int) ≤ 5) ∧
      (InI (I a1 6)) ∧
      (0 ≤ (drw (I 38 3) a2 0) ∧ (drw (I 38 3) a2 0) ≤ 2147483647) ∧
      (isA 89 (R a1 3) 1 10) ∧
      (0 ≤ (if 0 < (I a1 6) then (drw (I 38 3) a2 0) % (I a1 6) else 0) ∧ (if 0 < (I a1 6) then (drw (I 38 3) a2 0) % (I a1 6) else 0) < 10) ∧
      (0 ≤ (I (R a1 3) (if 0 < (I a1 6) then (drw (I 38 3) a2 0) % (I a1 6) else 0).toNat) ∧ (I (R a1 3) (if 0 < (I a1 6) then (drw (I 38 3) a2 0) % (I a1 6) else 0).toNat) < 20) ∧
      (InI (I 39 (I (R a1 3) (if 0 < (I a1 6) then (drw (I 38 3) a2 0) % (I a1 6) else 0).toNat).toNat)) ∧
      (((I 39 (I (R a1 3) (if 0 < (I a1 6) then (drw (I 38 3) a2 0) % (I a1 6) else 0).toNat).toNat) = (-4 : Int) →
      (∃ Q13 : QT, Spec mX7_cheapestLeft [vR 38, vR a1] I R 89 89 Q13 ∧ (∀ x13 I13 R13, Q13 (vI x13) I13 R13 →
      R = R13 ∧ (InI x13) ∧
      ((x13 = (-4 : Int) →
      wp (kN 89) mX7_playPosted Q 141 [vR 38, vR a1, vI a2, none, none] [] I13 R 89) ∧ (¬ (x13 = (-4 : Int)) →
      (0 ≤ x13 ∧ x13 < 20) ∧
      (isA 89 (R a1 1) 1 20) ∧
      (InI ((I13 40 x13.toNat) + (I13 a1 9))) ∧
      (InI (I13 (R a1 1) (I (R a1 3) (if 0 < (I a1 6) then (drw (I 38 3) a2 0) % (I a1 6) else 0).toNat).toNat)) ∧
      (((I13 (R a1 1) (I (R a1 3) (if 0 < (I a1 6) then (drw (I 38 3) a2 0) % (I a1 6) else 0).toNat).toNat) < ((I13 40 x13.toNat) + (I13 a1 9)) →
      wp (kN 89) mX7_playPosted Q 141 [vR 38, vR a1, vI a2, none, none] [] I13 R 89) ∧ (¬ (I13 (R a1 1) (I (R a1 3) (if 0 < (I a1 6) then (drw (I 38 3) a2 0) % (I a1 6) else 0).toNat).toNat) < ((I13 40 x13.toNat) + (I13 a1 9)) →
      (∃ Q19 : QT, Spec mX7_trade [vR 38, vR a1, vI (I (R a1 3) (if 0 < (I a1 6) then (drw (I 38 3) a2 0) % (I a1 6) else 0).toNat), vI x13, vI ((I13 40 x13.toNat) + (I13 a1 9)), vI a2] I13 R 89 89 Q19 ∧ (∀ I19 R19, Q19 none I19 R19 →
      R = R19 ∧ wp (kN 89) mX7_playPosted Q 141 [vR 38, vR a1, vI a2, none, none] [] I19 R 89))))))))) ∧ (¬ (I 39 (I (R a1 3) (if 0 < (I a1 6) then (drw (I 38 3) a2 0) % (I a1 6) else 0).toNat).toNat) = (-4 : Int) →
      wp (kN 89) mX7_playPosted Q 141 [vR 38, vR a1, vI a2, none, none] [] I R 89))))) : wp (kN 89) mX7_playPosted Q 44 [vR 38, vR a1, vI a2, none, none] [] I R 89 := by
  refine wp_iload_n (pc' := 45) (q := 2) (i := 2) rfl rfl dX7_playPosted_44 rfl ?_
  refine wp_aload_n (pc' := 46) (q := 1) (i := 1) rfl rfl dX7_playPosted_45 rfl ?_
  obtain ⟨h1, h⟩ := h
  refine wp_getI (pc' := 49) (k := 8) dX7_playPosted_46 vc6 (by decide) rfl lfX7_114 h1 rfl ?_
  obtain ⟨h2, h⟩ := h
  obtain ⟨h3, h⟩ := h
  refine wp_icmp_ge (pc' := 52) (tgt := 147) h2 h3 dX7_playPosted_49 rfl rfl (fun hc => ?_) (fun hc => ?_)
  · have h := h.1 hc
    exact wp_vreturn dX7_playPosted_147 rfl rfl h
  · have h := h.2 hc
    refine wp_aload_n (pc' := 53) (q := 1) (i := 1) rfl rfl dX7_playPosted_52 rfl ?_
    refine wp_getR (pc' := 56) (k := 3) dX7_playPosted_53 vc6 (by decide) rfl lfX7_158 h1 rfl ?_
    refine wp_aload_n (pc' := 57) (q := 0) (i := 0) rfl rfl dX7_playPosted_56 rfl ?_
    refine wp_iload_n (pc' := 58) (q := 2) (i := 2) rfl rfl dX7_playPosted_57 rfl ?_
    refine wp_iconst (pc' := 59) dX7_playPosted_58 rfl ?_
    obtain ⟨h5, h⟩ := h
    refine wp_callV (pc' := 62) (as := [vI a2, vI 0]) (rest := [vR (R a1 3)]) (pX7_draw hR h5) dX7_playPosted_59 rfl lkX7_117 okX7_draw inX7_draw seX7_draw o_38 vc7 ⟨Nat.le_of_ble_eq_true rfl, Nat.le_of_ble_eq_true rfl⟩ (Nat.le_of_ble_eq_true rfl) (Nat.le_refl _) (Nat.le_refl _) okP_eq okP_eq rfl (rvI rfl (fun x4 I4 R4 hq4 => ?_))
    obtain ⟨eR4, eI4, ex4⟩ := hq4; subst eR4; subst eI4; cases ex4
    refine wp_aload_n (pc' := 63) (q := 1) (i := 1) rfl rfl dX7_playPosted_62 rfl ?_
    refine wp_getI (pc' := 66) (k := 6) dX7_playPosted_63 vc6 (by decide) rfl lfX7_161 h1 rfl ?_
    obtain ⟨h7, h⟩ := h
    obtain ⟨h8, h⟩ := h
    refine wp_callS (pc' := 69) (as := [vI (drw (I 38 3) a2 0), vI (I a1 6)]) (rest := [vR (R a1 3)]) (pX7_rest (by decide) h7 h8) dX7_playPosted_66 rfl lkX7_80 okX7_rest stX7_rest ⟨Nat.le_of_ble_eq_true rfl, Nat.le_of_ble_eq_true rfl⟩ (Nat.le_of_ble_eq_true rfl) (Nat.le_refl _) (Nat.le_refl _) okP_eq okP_eq rfl (rvI rfl (fun x6 I6 R6 hq6 => ?_))
    obtain ⟨eR6, eI6, ex6⟩ := hq6; subst eR6; subst eI6; cases ex6
    obtain ⟨h9, h⟩ := h
    obtain ⟨h10, h⟩ := h
    refine wp_iald (pc' := 70) (j := (if 0 < (I a1 6) then (drw (I 38 3) a2 0) % (I a1 6) else 0).toNat) dX7_playPosted_69 h9 h10 rfl rfl ?_
    refine wp_istore_n (pc' := 71) (q := 3) (i := 3) (L' := [vR 38, vR a1, vI a2, vI (I (R a1 3) (if 0 < (I a1 6) then (drw (I 38 3) a2 0) % (I a1 6) else 0).toNat), none]) rfl (by decide) rfl dX7_playPosted_70 rfl rfl ?_
    refine wp_aload_n (pc' := 72) (q := 0) (i := 0) rfl rfl dX7_playPosted_71 rfl ?_
    refine wp_getRc (pc' := 75) (k := 0) (j := 39) dX7_playPosted_72 vc7 (by decide) rfl lfX7_9 o_38 (r_38_0 hR) rfl ?_
    refine wp_iload_n (pc' := 76) (q := 3) (i := 3) rfl rfl dX7_playPosted_75 rfl ?_
    obtain ⟨h11, h⟩ := h
    refine wp_iald (pc' := 77) (j := (I (R a1 3) (if 0 < (I a1 6) then (drw (I 38 3) a2 0) % (I a1 6) else 0).toNat).toNat) dX7_playPosted_76 a_39 h11 rfl rfl ?_
    refine wp_bipush (pc' := 79) (by decide) dX7_playPosted_77 rfl ?_
    obtain ⟨h12, h⟩ := h
    refine wp_icmp_eq (pc' := 82) (tgt := 85) h12 ⟨by decide, by decide⟩ dX7_playPosted_79 rfl rfl (fun hc => ?_) (fun hc => ?_)
    · have h := h.1 hc
      refine wp_aload_n (pc' := 86) (q := 0) (i := 0) rfl rfl dX7_playPosted_85 rfl ?_
      refine wp_aload_n (pc' := 87) (q := 1) (i := 1) rfl rfl dX7_playPosted_86 rfl ?_
      obtain ⟨Q13, hs13, h⟩ := h
      refine wp_callV (pc' := 90) (as := [vR a1]) (rest := []) hs13 dX7_playPosted_87 rfl lkX7_170 okX7_cheapestLeft inX7_cheapestLeft seX7_cheapestLeft o_38 vc7 ⟨Nat.le_of_ble_eq_true rfl, Nat.le_of_ble_eq_true rfl⟩ (Nat.le_of_ble_eq_true rfl) (Nat.le_refl _) (Nat.le_refl _) okP_eq okP_eq rfl (rvI rfl (fun x13 I13 R13 hq13 => ?_))
      obtain ⟨hRR13, h⟩ := h x13 I13 R13 hq13; subst hRR13
      refine wp_istore (pc' := 92) (i := 4) (L' := [vR 38, vR a1, vI a2, vI (I (R a1 3) (if 0 < (I a1 6) then (drw (I 38 3) a2 0) % (I a1 6) else 0).toNat), vI x13]) (by decide) rfl dX7_playPosted_90 rfl rfl ?_
      refine wp_iload (pc' := 94) (i := 4) rfl dX7_playPosted_92 rfl ?_
      refine wp_bipush (pc' := 96) (by decide) dX7_playPosted_94 rfl ?_
      obtain ⟨h14, h⟩ := h
      refine wp_icmp_eq (pc' := 99) (tgt := 141) h14 ⟨by decide, by decide⟩ dX7_playPosted_96 rfl rfl (fun hc => ?_) (fun hc => ?_)
      · have h := h.1 hc
        exact wp_dropP (leP_s (leP_s (leP_s (leP_d (leP_d leP_n))))) h
      · have h := h.2 hc
        refine wp_aload_n (pc' := 100) (q := 0) (i := 0) rfl rfl dX7_playPosted_99 rfl ?_
        refine wp_getRc (pc' := 103) (k := 1) (j := 40) dX7_playPosted_100 vc7 (by decide) rfl lfX7_15 o_38 (r_38_1 hR) rfl ?_
        refine wp_iload (pc' := 105) (i := 4) rfl dX7_playPosted_103 rfl ?_
        obtain ⟨h15, h⟩ := h
        refine wp_iald (pc' := 106) (j := x13.toNat) dX7_playPosted_105 a_40 h15 rfl rfl ?_
        refine wp_aload_n (pc' := 107) (q := 1) (i := 1) rfl rfl dX7_playPosted_106 rfl ?_
        refine wp_getI (pc' := 110) (k := 9) dX7_playPosted_107 vc6 (by decide) rfl lfX7_148 h1 rfl ?_
        refine wp_iadd (pc' := 111) dX7_playPosted_110 rfl ?_
        refine wp_aload_n (pc' := 112) (q := 1) (i := 1) rfl rfl dX7_playPosted_111 rfl ?_
        refine wp_getR (pc' := 115) (k := 1) dX7_playPosted_112 vc6 (by decide) rfl lfX7_100 h1 rfl ?_
        refine wp_iload_n (pc' := 116) (q := 3) (i := 3) rfl rfl dX7_playPosted_115 rfl ?_
        obtain ⟨h16, h⟩ := h
        refine wp_iald (pc' := 117) (j := (I (R a1 3) (if 0 < (I a1 6) then (drw (I 38 3) a2 0) % (I a1 6) else 0).toNat).toNat) dX7_playPosted_116 h16 h11 rfl rfl ?_
        obtain ⟨h17, h⟩ := h
        obtain ⟨h18, h⟩ := h
        refine wp_icmp_gt (pc' := 120) (tgt := 141) h17 h18 dX7_playPosted_117 rfl rfl (fun hc => ?_) (fun hc => ?_)
        · have h := h.1 hc
          exact wp_dropP (leP_s (leP_s (leP_s (leP_d (leP_d leP_n))))) h
        · have h := h.2 hc
          refine wp_aload_n (pc' := 121) (q := 0) (i := 0) rfl rfl dX7_playPosted_120 rfl ?_
          refine wp_aload_n (pc' := 122) (q := 1) (i := 1) rfl rfl dX7_playPosted_121 rfl ?_
          refine wp_iload_n (pc' := 123) (q := 3) (i := 3) rfl rfl dX7_playPosted_122 rfl ?_
          refine wp_iload (pc' := 125) (i := 4) rfl dX7_playPosted_123 rfl ?_
          refine wp_aload_n (pc' := 126) (q := 0) (i := 0) rfl rfl dX7_playPosted_125 rfl ?_
          refine wp_getRc (pc' := 129) (k := 1) (j := 40) dX7_playPosted_126 vc7 (by decide) rfl lfX7_15 o_38 (r_38_1 hR) rfl ?_
          refine wp_iload (pc' := 131) (i := 4) rfl dX7_playPosted_129 rfl ?_
          refine wp_iald (pc' := 132) (j := x13.toNat) dX7_playPosted_131 a_40 h15 rfl rfl ?_
          refine wp_aload_n (pc' := 133) (q := 1) (i := 1) rfl rfl dX7_playPosted_132 rfl ?_
          refine wp_getI (pc' := 136) (k := 9) dX7_playPosted_133 vc6 (by decide) rfl lfX7_148 h1 rfl ?_
          refine wp_iadd (pc' := 137) dX7_playPosted_136 rfl ?_
          refine wp_iload_n (pc' := 138) (q := 2) (i := 2) rfl rfl dX7_playPosted_137 rfl ?_
          obtain ⟨Q19, hs19, h⟩ := h
          refine wp_callV (pc' := 141) (as := [vR a1, vI (I (R a1 3) (if 0 < (I a1 6) then (drw (I 38 3) a2 0) % (I a1 6) else 0).toNat), vI x13, vI ((I13 40 x13.toNat) + (I13 a1 9)), vI a2]) (rest := []) hs19 dX7_playPosted_138 rfl lkX7_151 okX7_trade inX7_trade seX7_trade o_38 vc7 ⟨Nat.le_of_ble_eq_true rfl, Nat.le_of_ble_eq_true rfl⟩ (Nat.le_of_ble_eq_true rfl) (Nat.le_refl _) (Nat.le_refl _) okP_eq okP_eq rfl (rvV rfl (fun I19 R19 hq19 => ?_))
          obtain ⟨hRR19, h⟩ := h I19 R19 hq19; subst hRR19
          exact wp_dropP (leP_s (leP_s (leP_s (leP_d (leP_d leP_n))))) h
    · have h := h.2 hc
      refine wp_goto (tgt := 141) dX7_playPosted_82 rfl ?_
      exact wp_dropP (leP_s (leP_s (leP_s (leP_d (leP_s leP_n))))) h

set_option maxRecDepth 4000 in
theorem gX7_playPosted_141 {Q : QT} {I : II} {R : RR} (hR : SR R) {a1 : Nat} {a2 : Int}
    (h : wp (kN 89) mX7_playPosted Q 44 [vR 38, vR a1, vI (a2 + 1), none, none] [] I R 89) : wp (kN 89) mX7_playPosted Q 141 [vR 38, vR a1, vI a2, none, none] [] I R 89 := by
  refine wp_iinc (pc' := 144) (i := 2) (L' := [vR 38, vR a1, vI (a2 + 1), none, none]) rfl (by decide) rfl dX7_playPosted_141 rfl rfl ?_
  refine wp_goto (tgt := 44) dX7_playPosted_144 rfl ?_
  exact h

theorem sX7_cheapestLeft {Q : QT} {I : II} {R : RR} {a1 : Nat} (h : wp (kN 89) mX7_cheapestLeft Q 0 [vR 38, vR a1, none, none, none, none] [] I R 89) : Spec mX7_cheapestLeft [vR 38, vR a1] I R 89 89 Q := Spec_of_wp pyX7_cheapestLeft rfl (Nat.le_of_ble_eq_true rfl) (Nat.le_refl _) (by decide) h

set_option maxRecDepth 4000 in
theorem gX7_cheapestLeft_0 {Q : QT} {I : II} {R : RR} (hR : SR R) {a1 : Nat}
    (h : wp (kN 89) mX7_cheapestLeft Q 5 [vR 38, vR a1, vI (-4), vI 0, none, none] [] I R 89) : wp (kN 89) mX7_cheapestLeft Q 0 [vR 38, vR a1, none, none, none, none] [] I R 89 := by
  refine wp_bipush (pc' := 2) (by decide) dX7_cheapestLeft_0 rfl ?_
  refine wp_istore_n (pc' := 3) (q := 2) (i := 2) (L' := [vR 38, vR a1, vI (-4), none, none, none]) rfl (by decide) rfl dX7_cheapestLeft_2 rfl rfl ?_
  refine wp_iconst (pc' := 4) dX7_cheapestLeft_3 rfl ?_
  refine wp_istore_n (pc' := 5) (q := 3) (i := 3) (L' := [vR 38, vR a1, vI (-4), vI 0, none, none]) rfl (by decide) rfl dX7_cheapestLeft_4 rfl rfl ?_
  exact h

set_option maxRecDepth 4000 in
theorem gX7_cheapestLeft_5 {Q : QT} {I : II} {R : RR} (hR : SR R) {a1 : Nat} {a2 : Int} {a3 : Int}
    (h : (isO 89 a1 6) ∧
      (InI a3) ∧
      (InI (I a1 7)) ∧
      (((I a1 7) ≤ a3 →
      Q (vI a2) I R) ∧ (¬ (I a1 7) ≤ a3 →
      (isA 89 (R a1 4) 1 10) ∧
      (0 ≤ a3 ∧ a3 < 10) ∧
      (0 ≤ (I (R a1 4) a3.toNat) ∧ (I (R a1 4) a3.toNat) < 20) ∧
      (InI (I 39 (I (R a1 4) a3.toNat).toNat)) ∧
      ((¬ (I 39 (I (R a1 4) a3.toNat).toNat) = (-4 : Int) →
      wp (kN 89) mX7_cheapestLeft Q 53 [vR 38, vR a1, vI a2, vI a3, vI (I (R a1 4) a3.toNat), none] [] I R 89) ∧ ((I 39 (I (R a1 4) a3.toNat).toNat) = (-4 : Int) →
      (isA 89 (R a1 0) 2 20) ∧
      (I (R a1 0) (I (R a1 4) a3.toNat).toNat = 0 ∨ I (R a1 0) (I (R a1 4) a3.toNat).toNat = 1) ∧
      (InI ((I 40 (I (R a1 4) a3.toNat).toNat) + I a1 9)) ∧
      (InI (I a1 10)) ∧
      ((I (R a1 0) (I (R a1 4) a3.toNat).toNat = 0 ∨ (I 40 (I (R a1 4) a3.toNat).toNat) + I a1 9 ≤ I a1 10 →
      (InI a2) ∧
      ((a2 = (-4 : Int) →
      wp (kN 89) mX7_cheapestLeft Q 83 [vR 38, vR a1, none, vI a3, vI (I (R a1 4) a3.toNat), none] [] I R 89) ∧ (¬ (a2 = (-4 : Int)) →
      (0 ≤ a2 ∧ a2 < 20) ∧
      (InI (I 40 (I (R a1 4) a3.toNat).toNat)) ∧
      (InI (I 40 a2.toNat)) ∧
      (((I 40 a2.toNat) ≤ (I 40 (I (R a1 4) a3.toNat).toNat) →
      wp (kN 89) mX7_cheapestLeft Q 86 [vR 38, vR a1, vI a2, vI a3, none, none] [] I R 89) ∧ (¬ (I 40 a2.toNat) ≤ (I 40 (I (R a1 4) a3.toNat).toNat) →
      wp (kN 89) mX7_cheapestLeft Q 83 [vR 38, vR a1, none, vI a3, vI (I (R a1 4) a3.toNat), none] [] I R 89))))) ∧ (¬ (I (R a1 0) (I (R a1 4) a3.toNat).toNat = 0 ∨ (I 40 (I (R a1 4) a3.toNat).toNat) + I a1 9 ≤ I a1 10) →
      wp (kN 89) mX7_cheapestLeft Q 53 [vR 38, vR a1, vI a2, vI a3, vI (I (R a1 4) a3.toNat), none] [] I R 89))))))) : wp (kN 89) mX7_cheapestLeft Q 5 [vR 38, vR a1, vI a2, vI a3, none, none] [] I R 89 := by
  refine wp_iload_n (pc' := 6) (q := 3) (i := 3) rfl rfl dX7_cheapestLeft_5 rfl ?_
  refine wp_aload_n (pc' := 7) (q := 1) (i := 1) rfl rfl dX7_cheapestLeft_6 rfl ?_
  obtain ⟨h1, h⟩ := h
  refine wp_getI (pc' := 10) (k := 7) dX7_cheapestLeft_7 vc6 (by decide) rfl lfX7_167 h1 rfl ?_
  obtain ⟨h2, h⟩ := h
  obtain ⟨h3, h⟩ := h
  refine wp_icmp_ge (pc' := 13) (tgt := 92) h2 h3 dX7_cheapestLeft_10 rfl rfl (fun hc => ?_) (fun hc => ?_)
  · have h := h.1 hc
    refine wp_iload_n (pc' := 93) (q := 2) (i := 2) rfl rfl dX7_cheapestLeft_92 rfl ?_
    exact wp_ireturn dX7_cheapestLeft_93 rfl rfl h
  · have h := h.2 hc
    refine wp_aload_n (pc' := 14) (q := 1) (i := 1) rfl rfl dX7_cheapestLeft_13 rfl ?_
    refine wp_getR (pc' := 17) (k := 4) dX7_cheapestLeft_14 vc6 (by decide) rfl lfX7_164 h1 rfl ?_
    refine wp_iload_n (pc' := 18) (q := 3) (i := 3) rfl rfl dX7_cheapestLeft_17 rfl ?_
    obtain ⟨h4, h⟩ := h
    obtain ⟨h5, h⟩ := h
    refine wp_iald (pc' := 19) (j := a3.toNat) dX7_cheapestLeft_18 h4 h5 rfl rfl ?_
    refine wp_istore (pc' := 21) (i := 4) (L' := [vR 38, vR a1, vI a2, vI a3, vI (I (R a1 4) a3.toNat), none]) (by decide) rfl dX7_cheapestLeft_19 rfl rfl ?_
    refine wp_aload_n (pc' := 22) (q := 0) (i := 0) rfl rfl dX7_cheapestLeft_21 rfl ?_
    refine wp_getRc (pc' := 25) (k := 0) (j := 39) dX7_cheapestLeft_22 vc7 (by decide) rfl lfX7_9 o_38 (r_38_0 hR) rfl ?_
    refine wp_iload (pc' := 27) (i := 4) rfl dX7_cheapestLeft_25 rfl ?_
    obtain ⟨h6, h⟩ := h
    refine wp_iald (pc' := 28) (j := (I (R a1 4) a3.toNat).toNat) dX7_cheapestLeft_27 a_39 h6 rfl rfl ?_
    refine wp_bipush (pc' := 30) (by decide) dX7_cheapestLeft_28 rfl ?_
    obtain ⟨h7, h⟩ := h
    refine wp_icmp_ne (pc' := 33) (tgt := 53) h7 ⟨by decide, by decide⟩ dX7_cheapestLeft_30 rfl rfl (fun hc => ?_) (fun hc => ?_)
    · have h := h.1 hc
      exact h
    · have h := h.2 hc
      refine wp_aload_n (pc' := 34) (q := 1) (i := 1) rfl rfl dX7_cheapestLeft_33 rfl ?_
      refine wp_iload (pc' := 36) (i := 4) rfl dX7_cheapestLeft_34 rfl ?_
      refine wp_aload_n (pc' := 37) (q := 0) (i := 0) rfl rfl dX7_cheapestLeft_36 rfl ?_
      refine wp_getRc (pc' := 40) (k := 1) (j := 40) dX7_cheapestLeft_37 vc7 (by decide) rfl lfX7_15 o_38 (r_38_1 hR) rfl ?_
      refine wp_iload (pc' := 42) (i := 4) rfl dX7_cheapestLeft_40 rfl ?_
      refine wp_iald (pc' := 43) (j := (I (R a1 4) a3.toNat).toNat) dX7_cheapestLeft_42 a_40 h6 rfl rfl ?_
      obtain ⟨h9, h⟩ := h
      obtain ⟨h10, h⟩ := h
      obtain ⟨h11, h⟩ := h
      obtain ⟨h12, h⟩ := h
      refine wp_callS (pc' := 46) (as := [vR a1, vI (I (R a1 4) a3.toNat), vI (I 40 (I (R a1 4) a3.toNat).toNat)]) (rest := []) (pX9_isHeard (by decide) h1 h9 h6 h10 h11 h12) dX7_cheapestLeft_43 rfl lkX7_126 okX9_isHeard stX9_isHeard ⟨Nat.le_of_ble_eq_true rfl, Nat.le_of_ble_eq_true rfl⟩ (Nat.le_of_ble_eq_true rfl) (Nat.le_refl _) (Nat.le_refl _) okP_eq okP_eq rfl (rvZ rfl (fun x8 I8 R8 hz8 hq8 => ?_))
      obtain ⟨eR8, eI8, ex8⟩ := hq8; subst eR8; subst eI8; cases ex8
      by_cases hc : I (R a1 0) (I (R a1 4) a3.toNat).toNat = 0 ∨ (I 40 (I (R a1 4) a3.toNat).toNat) + I a1 9 ≤ I a1 10
      · rw [if_pos hc]; have h := h.1 hc
        refine wp_if_eq (pc' := 49) (tgt := 53) ⟨by decide, by decide⟩ dX7_cheapestLeft_46 rfl rfl (fun hc => by exfalso; revert hc; decide) (fun hc => ?_)
        refine wp_iconst (pc' := 50) dX7_cheapestLeft_49 rfl ?_
        refine wp_goto (tgt := 54) dX7_cheapestLeft_50 rfl ?_
        refine wp_istore (pc' := 56) (i := 5) (L' := [vR 38, vR a1, vI a2, vI a3, vI (I (R a1 4) a3.toNat), vI 1]) (by decide) rfl dX7_cheapestLeft_54 rfl rfl ?_
        refine wp_iload (pc' := 58) (i := 5) rfl dX7_cheapestLeft_56 rfl ?_
        refine wp_if_eq (pc' := 61) (tgt := 86) ⟨by decide, by decide⟩ dX7_cheapestLeft_58 rfl rfl (fun hc => by exfalso; revert hc; decide) (fun hc => ?_)
        refine wp_iload_n (pc' := 62) (q := 2) (i := 2) rfl rfl dX7_cheapestLeft_61 rfl ?_
        refine wp_bipush (pc' := 64) (by decide) dX7_cheapestLeft_62 rfl ?_
        obtain ⟨h13, h⟩ := h
        refine wp_icmp_eq (pc' := 67) (tgt := 83) h13 ⟨by decide, by decide⟩ dX7_cheapestLeft_64 rfl rfl (fun hc => ?_) (fun hc => ?_)
        · have h := h.1 hc
          exact wp_dropP (leP_s (leP_s (leP_d (leP_s (leP_s (leP_d leP_n)))))) h
        · have h := h.2 hc
          refine wp_aload_n (pc' := 68) (q := 0) (i := 0) rfl rfl dX7_cheapestLeft_67 rfl ?_
          refine wp_getRc (pc' := 71) (k := 1) (j := 40) dX7_cheapestLeft_68 vc7 (by decide) rfl lfX7_15 o_38 (r_38_1 hR) rfl ?_
          refine wp_iload (pc' := 73) (i := 4) rfl dX7_cheapestLeft_71 rfl ?_
          refine wp_iald (pc' := 74) (j := (I (R a1 4) a3.toNat).toNat) dX7_cheapestLeft_73 a_40 h6 rfl rfl ?_
          refine wp_aload_n (pc' := 75) (q := 0) (i := 0) rfl rfl dX7_cheapestLeft_74 rfl ?_
          refine wp_getRc (pc' := 78) (k := 1) (j := 40) dX7_cheapestLeft_75 vc7 (by decide) rfl lfX7_15 o_38 (r_38_1 hR) rfl ?_
          refine wp_iload_n (pc' := 79) (q := 2) (i := 2) rfl rfl dX7_cheapestLeft_78 rfl ?_
          obtain ⟨h14, h⟩ := h
          refine wp_iald (pc' := 80) (j := a2.toNat) dX7_cheapestLeft_79 a_40 h14 rfl rfl ?_
          obtain ⟨h15, h⟩ := h
          obtain ⟨h16, h⟩ := h
          refine wp_icmp_ge (pc' := 83) (tgt := 86) h15 h16 dX7_cheapestLeft_80 rfl rfl (fun hc => ?_) (fun hc => ?_)
          · have h := h.1 hc
            exact wp_dropP (leP_s (leP_s (leP_s (leP_s (leP_d (leP_d leP_n)))))) h
          · have h := h.2 hc
            exact wp_dropP (leP_s (leP_s (leP_d (leP_s (leP_s (leP_d leP_n)))))) h
      · rw [if_neg hc]; have h := h.2 hc
        refine wp_if_eq (pc' := 49) (tgt := 53) ⟨by decide, by decide⟩ dX7_cheapestLeft_46 rfl rfl (fun hc => ?_) (fun hc => by exfalso; revert hc; decide)
        exact h

set_option maxRecDepth 4000 in
theorem gX7_cheapestLeft_53 {Q : QT} {I : II} {R : RR} (hR : SR R) {a1 : Nat} {a2 : Int} {a3 : Int} {a4 : Int}
    (h : wp (kN 89) mX7_cheapestLeft Q 86 [vR 38, vR a1, vI a2, vI a3, none, none] [] I R 89) : wp (kN 89) mX7_cheapestLeft Q 53 [vR 38, vR a1, vI a2, vI a3, vI a4, none] [] I R 89 := by
  refine wp_iconst (pc' := 54) dX7_cheapestLeft_53 rfl ?_
  refine wp_istore (pc' := 56) (i := 5) (L' := [vR 38, vR a1, vI a2, vI a3, vI a4, vI 0]) (by decide) rfl dX7_cheapestLeft_54 rfl rfl ?_
  refine wp_iload (pc' := 58) (i := 5) rfl dX7_cheapestLeft_56 rfl ?_
  refine wp_if_eq (pc' := 61) (tgt := 86) ⟨by decide, by decide⟩ dX7_cheapestLeft_58 rfl rfl (fun hc => ?_) (fun hc => by exfalso; revert hc; decide)
  exact wp_dropP (leP_s (leP_s (leP_s (leP_s (leP_d (leP_d leP_n)))))) h

set_option maxRecDepth 4000 in
theorem gX7_cheapestLeft_83 {Q : QT} {I : II} {R : RR} (hR : SR R) {a1 : Nat} {a3 : Int} {a4 : Int}
    (h : wp (kN 89) mX7_cheapestLeft Q 86 [vR 38, vR a1, vI a4, vI a3, none, none] [] I R 89) : wp (kN 89) mX7_cheapestLeft Q 83 [vR 38, vR a1, none, vI a3, vI a4, none] [] I R 89 := by
  refine wp_iload (pc' := 85) (i := 4) rfl dX7_cheapestLeft_83 rfl ?_
  refine wp_istore_n (pc' := 86) (q := 2) (i := 2) (L' := [vR 38, vR a1, vI a4, vI a3, vI a4, none]) rfl (by decide) rfl dX7_cheapestLeft_85 rfl rfl ?_
  exact wp_dropP (leP_s (leP_s (leP_s (leP_s (leP_d (leP_s leP_n)))))) h

set_option maxRecDepth 4000 in
theorem gX7_cheapestLeft_86 {Q : QT} {I : II} {R : RR} (hR : SR R) {a1 : Nat} {a2 : Int} {a3 : Int}
    (h : wp (kN 89) mX7_cheapestLeft Q 5 [vR 38, vR a1, vI a2, vI (a3 + 1), none, none] [] I R 89) : wp (kN 89) mX7_cheapestLeft Q 86 [vR 38, vR a1, vI a2, vI a3, none, none] [] I R 89 := by
  refine wp_iinc (pc' := 89) (i := 3) (L' := [vR 38, vR a1, vI a2, vI (a3 + 1), none, none]) rfl (by decide) rfl dX7_cheapestLeft_86 rfl rfl ?_
  refine wp_goto (tgt := 5) dX7_cheapestLeft_89 rfl ?_
  exact h

theorem sX7_playBell {Q : QT} {I : II} {R : RR} {a1 : Nat} (h : wp (kN 89) mX7_playBell Q 0 [vR 38, vR a1, none, none] [] I R 89) : Spec mX7_playBell [vR 38, vR a1] I R 89 89 Q := Spec_of_wp pyX7_playBell rfl (Nat.le_of_ble_eq_true rfl) (Nat.le_refl _) (by decide) h

set_option maxRecDepth 4000 in
theorem gX7_playBell_0 {Q : QT} {I : II} {R : RR} (hR : SR R) {a1 : Nat}
    (h : (∃ Q1 : QT, Spec mX3_empty [vR 41] I R 89 89 Q1 ∧ (∀ I1 R1, Q1 none I1 R1 →
      R = R1 ∧ wp (kN 89) mX7_playBell Q 9 [vR 38, vR a1, vI 0, none] [] I1 R 89))) : wp (kN 89) mX7_playBell Q 0 [vR 38, vR a1, none, none] [] I R 89 := by
  refine wp_aload_n (pc' := 1) (q := 0) (i := 0) rfl rfl dX7_playBell_0 rfl ?_
  refine wp_getRc (pc' := 4) (k := 2) (j := 41) dX7_playBell_1 vc7 (by decide) rfl lfX7_21 o_38 (r_38_2 hR) rfl ?_
  obtain ⟨Q1, hs1, h⟩ := h
  refine wp_callV (pc' := 7) (as := []) (rest := []) hs1 dX7_playBell_4 rfl lkX7_174 okX3_empty inX3_empty seX3_empty o_41 vc3 ⟨Nat.le_of_ble_eq_true rfl, Nat.le_of_ble_eq_true rfl⟩ (Nat.le_of_ble_eq_true rfl) (Nat.le_refl _) (Nat.le_refl _) okP_eq okP_eq rfl (rvV rfl (fun I1 R1 hq1 => ?_))
  obtain ⟨hRR1, h⟩ := h I1 R1 hq1; subst hRR1
  refine wp_iconst (pc' := 8) dX7_playBell_7 rfl ?_
  refine wp_istore_n (pc' := 9) (q := 2) (i := 2) (L' := [vR 38, vR a1, vI 0, none]) rfl (by decide) rfl dX7_playBell_8 rfl rfl ?_
  exact h

set_option maxRecDepth 4000 in
theorem gX7_playBell_9 {Q : QT} {I : II} {R : RR} (hR : SR R) {a1 : Nat} {a2 : Int}
    (h : (isO 89 a1 6) ∧
      (InI a2) ∧
      (InI (I a1 5)) ∧
      (((I a1 5) ≤ a2 →
      (∃ Q4 : QT, Spec mX3_cross [vR 41, vI (I a1 9)] I R 89 89 Q4 ∧ (∀ I4 R4, Q4 none I4 R4 →
      R = R4 ∧ wp (kN 89) mX7_playBell Q 74 [vR 38, vR a1, vI 0, none] [] I4 R 89))) ∧ (¬ (I a1 5) ≤ a2 →
      (0 ≤ I 38 3 ∧ I 38 3 ≤ 9999 ∧ 0 ≤ a2 ∧ a2 ≤ 300 ∧ 0 ≤ (1 : Int) ∧ (1 : Int) ≤ 5) ∧
      (∃ Q7 : QT, Spec mX7_tells [vR 38, vR a1, vI a2, vI ((I a1 8) - 1), vI (drw (I 38 3) a2 1)] I R 89 89 Q7 ∧ (∀ x7 I7 R7, Q7 (vI x7) I7 R7 →
      R = R7 ∧ (isA 89 (R a1 0) 2 20) ∧
      (0 ≤ a2 ∧ a2 < 20) ∧
      (I7 (R a1 0) a2.toNat = 0 ∨ I7 (R a1 0) a2.toNat = 1) ∧
      (InI (x7 + I7 a1 9)) ∧
      (InI (I7 a1 10)) ∧
      ((I7 (R a1 0) a2.toNat = 0 ∨ x7 + I7 a1 9 ≤ I7 a1 10 →
      (∃ Q14 : QT, Spec mX3_put [vR 41, vR a1, vI a2, vI x7] I7 R 89 89 Q14 ∧ (∀ I14 R14, Q14 none I14 R14 →
      R = R14 ∧ wp (kN 89) mX7_playBell Q 55 [vR 38, vR a1, vI a2, none] [] I14 R 89))) ∧ (¬ (I7 (R a1 0) a2.toNat = 0 ∨ x7 + I7 a1 9 ≤ I7 a1 10) →
      wp (kN 89) mX7_playBell Q 55 [vR 38, vR a1, vI a2, none] [] I7 R 89))))))) : wp (kN 89) mX7_playBell Q 9 [vR 38, vR a1, vI a2, none] [] I R 89 := by
  refine wp_iload_n (pc' := 10) (q := 2) (i := 2) rfl rfl dX7_playBell_9 rfl ?_
  refine wp_aload_n (pc' := 11) (q := 1) (i := 1) rfl rfl dX7_playBell_10 rfl ?_
  obtain ⟨h1, h⟩ := h
  refine wp_getI (pc' := 14) (k := 5) dX7_playBell_11 vc6 (by decide) rfl lfX7_120 h1 rfl ?_
  obtain ⟨h2, h⟩ := h
  obtain ⟨h3, h⟩ := h
  refine wp_icmp_ge (pc' := 17) (tgt := 61) h2 h3 dX7_playBell_14 rfl rfl (fun hc => ?_) (fun hc => ?_)
  · have h := h.1 hc
    refine wp_aload_n (pc' := 62) (q := 0) (i := 0) rfl rfl dX7_playBell_61 rfl ?_
    refine wp_getRc (pc' := 65) (k := 2) (j := 41) dX7_playBell_62 vc7 (by decide) rfl lfX7_21 o_38 (r_38_2 hR) rfl ?_
    refine wp_aload_n (pc' := 66) (q := 1) (i := 1) rfl rfl dX7_playBell_65 rfl ?_
    refine wp_getI (pc' := 69) (k := 9) dX7_playBell_66 vc6 (by decide) rfl lfX7_148 h1 rfl ?_
    obtain ⟨Q4, hs4, h⟩ := h
    refine wp_callV (pc' := 72) (as := [vI (I a1 9)]) (rest := []) hs4 dX7_playBell_69 rfl lkX7_181 okX3_cross inX3_cross seX3_cross o_41 vc3 ⟨Nat.le_of_ble_eq_true rfl, Nat.le_of_ble_eq_true rfl⟩ (Nat.le_of_ble_eq_true rfl) (Nat.le_refl _) (Nat.le_refl _) okP_eq okP_eq rfl (rvV rfl (fun I4 R4 hq4 => ?_))
    obtain ⟨hRR4, h⟩ := h I4 R4 hq4; subst hRR4
    refine wp_iconst (pc' := 73) dX7_playBell_72 rfl ?_
    refine wp_istore_n (pc' := 74) (q := 2) (i := 2) (L' := [vR 38, vR a1, vI 0, none]) rfl (by decide) rfl dX7_playBell_73 rfl rfl ?_
    exact h
  · have h := h.2 hc
    refine wp_aload_n (pc' := 18) (q := 0) (i := 0) rfl rfl dX7_playBell_17 rfl ?_
    refine wp_aload_n (pc' := 19) (q := 1) (i := 1) rfl rfl dX7_playBell_18 rfl ?_
    refine wp_iload_n (pc' := 20) (q := 2) (i := 2) rfl rfl dX7_playBell_19 rfl ?_
    refine wp_aload_n (pc' := 21) (q := 1) (i := 1) rfl rfl dX7_playBell_20 rfl ?_
    refine wp_getI (pc' := 24) (k := 8) dX7_playBell_21 vc6 (by decide) rfl lfX7_114 h1 rfl ?_
    refine wp_iconst (pc' := 25) dX7_playBell_24 rfl ?_
    refine wp_isub (pc' := 26) dX7_playBell_25 rfl ?_
    refine wp_aload_n (pc' := 27) (q := 0) (i := 0) rfl rfl dX7_playBell_26 rfl ?_
    refine wp_iload_n (pc' := 28) (q := 2) (i := 2) rfl rfl dX7_playBell_27 rfl ?_
    refine wp_iconst (pc' := 29) dX7_playBell_28 rfl ?_
    obtain ⟨h6, h⟩ := h
    refine wp_callV (pc' := 32) (as := [vI a2, vI 1]) (rest := [vI ((I a1 8) - 1), vI a2, vR a1, vR 38]) (pX7_draw hR h6) dX7_playBell_29 rfl lkX7_117 okX7_draw inX7_draw seX7_draw o_38 vc7 ⟨Nat.le_of_ble_eq_true rfl, Nat.le_of_ble_eq_true rfl⟩ (Nat.le_of_ble_eq_true rfl) (Nat.le_refl _) (Nat.le_refl _) okP_eq okP_eq rfl (rvI rfl (fun x5 I5 R5 hq5 => ?_))
    obtain ⟨eR5, eI5, ex5⟩ := hq5; subst eR5; subst eI5; cases ex5
    obtain ⟨Q7, hs7, h⟩ := h
    refine wp_callV (pc' := 35) (as := [vR a1, vI a2, vI ((I a1 8) - 1), vI (drw (I 38 3) a2 1)]) (rest := []) hs7 dX7_playBell_32 rfl lkX7_123 okX7_tells inX7_tells seX7_tells o_38 vc7 ⟨Nat.le_of_ble_eq_true rfl, Nat.le_of_ble_eq_true rfl⟩ (Nat.le_of_ble_eq_true rfl) (Nat.le_refl _) (Nat.le_refl _) okP_eq okP_eq rfl (rvI rfl (fun x7 I7 R7 hq7 => ?_))
    obtain ⟨hRR7, h⟩ := h x7 I7 R7 hq7; subst hRR7
    refine wp_istore_n (pc' := 36) (q := 3) (i := 3) (L' := [vR 38, vR a1, vI a2, vI x7]) rfl (by decide) rfl dX7_playBell_35 rfl rfl ?_
    refine wp_aload_n (pc' := 37) (q := 1) (i := 1) rfl rfl dX7_playBell_36 rfl ?_
    refine wp_iload_n (pc' := 38) (q := 2) (i := 2) rfl rfl dX7_playBell_37 rfl ?_
    refine wp_iload_n (pc' := 39) (q := 3) (i := 3) rfl rfl dX7_playBell_38 rfl ?_
    obtain ⟨h9, h⟩ := h
    obtain ⟨h10, h⟩ := h
    obtain ⟨h11, h⟩ := h
    obtain ⟨h12, h⟩ := h
    obtain ⟨h13, h⟩ := h
    refine wp_callS (pc' := 42) (as := [vR a1, vI a2, vI x7]) (rest := []) (pX9_isHeard (by decide) h1 h9 h10 h11 h12 h13) dX7_playBell_39 rfl lkX7_126 okX9_isHeard stX9_isHeard ⟨Nat.le_of_ble_eq_true rfl, Nat.le_of_ble_eq_true rfl⟩ (Nat.le_of_ble_eq_true rfl) (Nat.le_refl _) (Nat.le_refl _) okP_eq okP_eq rfl (rvZ rfl (fun x8 I8 R8 hz8 hq8 => ?_))
    obtain ⟨eR8, eI8, ex8⟩ := hq8; subst eR8; subst eI8; cases ex8
    by_cases hc : I7 (R a1 0) a2.toNat = 0 ∨ x7 + I7 a1 9 ≤ I7 a1 10
    · rw [if_pos hc]; have h := h.1 hc
      refine wp_if_eq (pc' := 45) (tgt := 55) ⟨by decide, by decide⟩ dX7_playBell_42 rfl rfl (fun hc => by exfalso; revert hc; decide) (fun hc => ?_)
      refine wp_aload_n (pc' := 46) (q := 0) (i := 0) rfl rfl dX7_playBell_45 rfl ?_
      refine wp_getRc (pc' := 49) (k := 2) (j := 41) dX7_playBell_46 vc7 (by decide) rfl lfX7_21 o_38 (r_38_2 hR) rfl ?_
      refine wp_aload_n (pc' := 50) (q := 1) (i := 1) rfl rfl dX7_playBell_49 rfl ?_
      refine wp_iload_n (pc' := 51) (q := 2) (i := 2) rfl rfl dX7_playBell_50 rfl ?_
      refine wp_iload_n (pc' := 52) (q := 3) (i := 3) rfl rfl dX7_playBell_51 rfl ?_
      obtain ⟨Q14, hs14, h⟩ := h
      refine wp_callV (pc' := 55) (as := [vR a1, vI a2, vI x7]) (rest := []) hs14 dX7_playBell_52 rfl lkX7_177 okX3_put inX3_put seX3_put o_41 vc3 ⟨Nat.le_of_ble_eq_true rfl, Nat.le_of_ble_eq_true rfl⟩ (Nat.le_of_ble_eq_true rfl) (Nat.le_refl _) (Nat.le_refl _) okP_eq okP_eq rfl (rvV rfl (fun I14 R14 hq14 => ?_))
      obtain ⟨hRR14, h⟩ := h I14 R14 hq14; subst hRR14
      exact wp_dropP (leP_s (leP_s (leP_s (leP_d leP_n)))) h
    · rw [if_neg hc]; have h := h.2 hc
      refine wp_if_eq (pc' := 45) (tgt := 55) ⟨by decide, by decide⟩ dX7_playBell_42 rfl rfl (fun hc => ?_) (fun hc => by exfalso; revert hc; decide)
      exact wp_dropP (leP_s (leP_s (leP_s (leP_d leP_n)))) h

set_option maxRecDepth 4000 in
theorem gX7_playBell_55 {Q : QT} {I : II} {R : RR} (hR : SR R) {a1 : Nat} {a2 : Int}
    (h : wp (kN 89) mX7_playBell Q 9 [vR 38, vR a1, vI (a2 + 1), none] [] I R 89) : wp (kN 89) mX7_playBell Q 55 [vR 38, vR a1, vI a2, none] [] I R 89 := by
  refine wp_iinc (pc' := 58) (i := 2) (L' := [vR 38, vR a1, vI (a2 + 1), none]) rfl (by decide) rfl dX7_playBell_55 rfl rfl ?_
  refine wp_goto (tgt := 9) dX7_playBell_58 rfl ?_
  exact h

set_option maxRecDepth 4000 in
theorem gX7_playBell_74 {Q : QT} {I : II} {R : RR} (hR : SR R) {a1 : Nat} {a2 : Int}
    (h : (InI a2) ∧
      (InI (I 41 2)) ∧
      (((I 41 2) ≤ a2 →
      Q none I R) ∧ (¬ (I 41 2) ≤ a2 →
      (0 ≤ a2 ∧ a2 < 10) ∧
      (∃ Q4 : QT, Spec mX7_trade [vR 38, vR a1, vI (I 43 a2.toNat), vI (I 46 a2.toNat), vI (I 41 4), vI 0] I R 89 89 Q4 ∧ (∀ I4 R4, Q4 none I4 R4 →
      R = R4 ∧ wp (kN 89) mX7_playBell Q 74 [vR 38, vR a1, vI (a2 + 1), none] [] I4 R 89))))) : wp (kN 89) mX7_playBell Q 74 [vR 38, vR a1, vI a2, none] [] I R 89 := by
  refine wp_iload_n (pc' := 75) (q := 2) (i := 2) rfl rfl dX7_playBell_74 rfl ?_
  refine wp_aload_n (pc' := 76) (q := 0) (i := 0) rfl rfl dX7_playBell_75 rfl ?_
  refine wp_getRc (pc' := 79) (k := 2) (j := 41) dX7_playBell_76 vc7 (by decide) rfl lfX7_21 o_38 (r_38_2 hR) rfl ?_
  refine wp_getI (pc' := 82) (k := 2) dX7_playBell_79 vc3 (by decide) rfl lfX7_185 o_41 rfl ?_
  obtain ⟨h1, h⟩ := h
  obtain ⟨h2, h⟩ := h
  refine wp_icmp_ge (pc' := 85) (tgt := 128) h1 h2 dX7_playBell_82 rfl rfl (fun hc => ?_) (fun hc => ?_)
  · have h := h.1 hc
    exact wp_vreturn dX7_playBell_128 rfl rfl h
  · have h := h.2 hc
    refine wp_aload_n (pc' := 86) (q := 0) (i := 0) rfl rfl dX7_playBell_85 rfl ?_
    refine wp_aload_n (pc' := 87) (q := 1) (i := 1) rfl rfl dX7_playBell_86 rfl ?_
    refine wp_aload_n (pc' := 88) (q := 0) (i := 0) rfl rfl dX7_playBell_87 rfl ?_
    refine wp_getRc (pc' := 91) (k := 2) (j := 41) dX7_playBell_88 vc7 (by decide) rfl lfX7_21 o_38 (r_38_2 hR) rfl ?_
    refine wp_getRc (pc' := 94) (k := 0) (j := 42) dX7_playBell_91 vc3 (by decide) rfl lfX7_188 o_41 (r_41_0 hR) rfl ?_
    refine wp_getRc (pc' := 97) (k := 1) (j := 43) dX7_playBell_94 vc2 (by decide) rfl lfX7_191 o_42 (r_42_1 hR) rfl ?_
    refine wp_iload_n (pc' := 98) (q := 2) (i := 2) rfl rfl dX7_playBell_97 rfl ?_
    obtain ⟨h3, h⟩ := h
    refine wp_iald (pc' := 99) (j := a2.toNat) dX7_playBell_98 a_43 h3 rfl rfl ?_
    refine wp_aload_n (pc' := 100) (q := 0) (i := 0) rfl rfl dX7_playBell_99 rfl ?_
    refine wp_getRc (pc' := 103) (k := 2) (j := 41) dX7_playBell_100 vc7 (by decide) rfl lfX7_21 o_38 (r_38_2 hR) rfl ?_
    refine wp_getRc (pc' := 106) (k := 1) (j := 45) dX7_playBell_103 vc3 (by decide) rfl lfX7_196 o_41 (r_41_1 hR) rfl ?_
    refine wp_getRc (pc' := 109) (k := 1) (j := 46) dX7_playBell_106 vc2 (by decide) rfl lfX7_191 o_45 (r_45_1 hR) rfl ?_
    refine wp_iload_n (pc' := 110) (q := 2) (i := 2) rfl rfl dX7_playBell_109 rfl ?_
    refine wp_iald (pc' := 111) (j := a2.toNat) dX7_playBell_110 a_46 h3 rfl rfl ?_
    refine wp_aload_n (pc' := 112) (q := 0) (i := 0) rfl rfl dX7_playBell_111 rfl ?_
    refine wp_getRc (pc' := 115) (k := 2) (j := 41) dX7_playBell_112 vc7 (by decide) rfl lfX7_21 o_38 (r_38_2 hR) rfl ?_
    refine wp_getI (pc' := 118) (k := 4) dX7_playBell_115 vc3 (by decide) rfl lfX7_198 o_41 rfl ?_
    refine wp_iconst (pc' := 119) dX7_playBell_118 rfl ?_
    obtain ⟨Q4, hs4, h⟩ := h
    refine wp_callV (pc' := 122) (as := [vR a1, vI (I 43 a2.toNat), vI (I 46 a2.toNat), vI (I 41 4), vI 0]) (rest := []) hs4 dX7_playBell_119 rfl lkX7_151 okX7_trade inX7_trade seX7_trade o_38 vc7 ⟨Nat.le_of_ble_eq_true rfl, Nat.le_of_ble_eq_true rfl⟩ (Nat.le_of_ble_eq_true rfl) (Nat.le_refl _) (Nat.le_refl _) okP_eq okP_eq rfl (rvV rfl (fun I4 R4 hq4 => ?_))
    obtain ⟨hRR4, h⟩ := h I4 R4 hq4; subst hRR4
    refine wp_iinc (pc' := 125) (i := 2) (L' := [vR 38, vR a1, vI (a2 + 1), none]) rfl (by decide) rfl dX7_playBell_122 rfl rfl ?_
    refine wp_goto (tgt := 74) dX7_playBell_125 rfl ?_
    exact h

theorem sX8_add {Q : QT} {I : II} {R : RR} {a1 : Int} (h : wp (kN 89) mX8_add Q 0 [vR 2, vI a1] [] I R 89) : Spec mX8_add [vR 2, vI a1] I R 89 89 Q := Spec_of_wp pyX8_add rfl (Nat.le_of_ble_eq_true rfl) (Nat.le_refl _) (by decide) h

set_option maxRecDepth 4000 in
theorem gX8_add_0 {Q : QT} {I : II} {R : RR} (hR : SR R) {a1 : Int}
    (h : (InI (I 2 1)) ∧
      (((300 : Int) ≤ (I 2 1) →
      wp (kN 89) mX8_add Q 30 [none, none] [] I R 89) ∧ (¬ (300 : Int) ≤ (I 2 1) →
      (0 ≤ (I 2 1) ∧ (I 2 1) < 300) ∧
      (∀ I3 : II, I3 = up2 I 3 ((I 2 1).toNat) a1 →
      (∀ I4 : II, I4 = up2 I3 2 1 ((I3 2 1) + 1) →
      wp (kN 89) mX8_add Q 30 [none, none] [] I4 R 89))))) : wp (kN 89) mX8_add Q 0 [vR 2, vI a1] [] I R 89 := by
  refine wp_aload_n (pc' := 1) (q := 0) (i := 0) rfl rfl dX8_add_0 rfl ?_
  refine wp_getI (pc' := 4) (k := 1) dX8_add_1 vc8 (by decide) rfl lfX8_15 o_2 rfl ?_
  refine wp_sipush (pc' := 7) (by decide) dX8_add_4 rfl ?_
  obtain ⟨h1, h⟩ := h
  refine wp_icmp_ge (pc' := 10) (tgt := 30) h1 ⟨by decide, by decide⟩ dX8_add_7 rfl rfl (fun hc => ?_) (fun hc => ?_)
  · have h := h.1 hc
    exact wp_dropP (leP_d (leP_d leP_n)) h
  · have h := h.2 hc
    refine wp_aload_n (pc' := 11) (q := 0) (i := 0) rfl rfl dX8_add_10 rfl ?_
    refine wp_getRc (pc' := 14) (k := 0) (j := 3) dX8_add_11 vc8 (by decide) rfl lfX8_9 o_2 (r_2_0 hR) rfl ?_
    refine wp_aload_n (pc' := 15) (q := 0) (i := 0) rfl rfl dX8_add_14 rfl ?_
    refine wp_getI (pc' := 18) (k := 1) dX8_add_15 vc8 (by decide) rfl lfX8_15 o_2 rfl ?_
    refine wp_iload_n (pc' := 19) (q := 1) (i := 1) rfl rfl dX8_add_18 rfl ?_
    obtain ⟨h2, h⟩ := h
    obtain ⟨I3, eI3⟩ : ∃ z : II, z = up2 I 3 ((I 2 1).toNat) a1 := ⟨_, rfl⟩
    have h := h I3 eI3
    refine wp_iast (pc' := 20) (j := (I 2 1).toNat) (I' := I3) dX8_add_19 a_3 h2 rfl rfl eI3 ?_
    refine wp_aload_n (pc' := 21) (q := 0) (i := 0) rfl rfl dX8_add_20 rfl ?_
    refine wp_dupR (pc' := 22) dX8_add_21 rfl ?_
    refine wp_getI (pc' := 25) (k := 1) dX8_add_22 vc8 (by decide) rfl lfX8_15 o_2 rfl ?_
    refine wp_iconst (pc' := 26) dX8_add_25 rfl ?_
    refine wp_iadd (pc' := 27) dX8_add_26 rfl ?_
    obtain ⟨I4, eI4⟩ : ∃ z : II, z = up2 I3 2 1 ((I3 2 1) + 1) := ⟨_, rfl⟩
    have h := h I4 eI4
    refine wp_putI (pc' := 30) (k := 1) (I' := I4) dX8_add_27 vc8 (by decide) rfl rfl (tyX8_ok 1 (by decide)) lfX8_15 o_2 rfl eI4 ?_
    exact wp_dropP (leP_d (leP_d leP_n)) h

set_option maxRecDepth 4000 in
theorem gX8_add_30 {Q : QT} {I : II} {R : RR} (hR : SR R) 
    (h : Q none I R) : wp (kN 89) mX8_add Q 30 [none, none] [] I R 89 := by
  exact wp_vreturn dX8_add_30 rfl rfl h

theorem sX9_span {Q : QT} {I : II} {R : RR} {N : Nat} {a0 : Nat} {a1 : Int} {a2 : Int} {a3 : Int} (hN : N < 1000) (h : wp (kN N) mX9_span Q 0 [vR a0, vI a1, vI a2, vI a3] [] I R N) : Spec mX9_span [vR a0, vI a1, vI a2, vI a3] I R N N Q := Spec_of_wp pyX9_span rfl (Nat.le_of_ble_eq_true rfl) (Nat.le_refl _) hN h

set_option maxRecDepth 4000 in
theorem gX9_span_0 {Q : QT} {I : II} {R : RR} {N : Nat} {a0 : Nat} {a1 : Int} {a2 : Int} {a3 : Int}
    (h : (InI a2) ∧
      ((¬ a2 = (5 : Int) →
      (InI a3) ∧
      ((a3 = (-4 : Int) →
      wp (kN N) mX9_span Q 33 [vR a0, vI a1, none, none] [] I R N) ∧ (¬ (a3 = (-4 : Int)) →
      ((a2 = (1 : Int) →
      wp (kN N) mX9_span Q 24 [vR a0, none, none, none] [] I R N) ∧ (¬ (a2 = (1 : Int)) →
      ((¬ a2 = (3 : Int) →
      wp (kN N) mX9_span Q 33 [vR a0, vI a1, none, none] [] I R N) ∧ (a2 = (3 : Int) →
      wp (kN N) mX9_span Q 24 [vR a0, none, none, none] [] I R N))))))) ∧ (a2 = (5 : Int) →
      Q (vI 100) I R))) : wp (kN N) mX9_span Q 0 [vR a0, vI a1, vI a2, vI a3] [] I R N := by
  refine wp_iload_n (pc' := 1) (q := 2) (i := 2) rfl rfl dX9_span_0 rfl ?_
  refine wp_iconst (pc' := 2) dX9_span_1 rfl ?_
  obtain ⟨h1, h⟩ := h
  refine wp_icmp_ne (pc' := 5) (tgt := 8) h1 ⟨by decide, by decide⟩ dX9_span_2 rfl rfl (fun hc => ?_) (fun hc => ?_)
  · have h := h.1 hc
    refine wp_iload_n (pc' := 9) (q := 3) (i := 3) rfl rfl dX9_span_8 rfl ?_
    refine wp_bipush (pc' := 11) (by decide) dX9_span_9 rfl ?_
    obtain ⟨h2, h⟩ := h
    refine wp_icmp_eq (pc' := 14) (tgt := 33) h2 ⟨by decide, by decide⟩ dX9_span_11 rfl rfl (fun hc => ?_) (fun hc => ?_)
    · have h := h.1 hc
      exact wp_dropP (leP_s (leP_s (leP_d (leP_d leP_n)))) h
    · have h := h.2 hc
      refine wp_iload_n (pc' := 15) (q := 2) (i := 2) rfl rfl dX9_span_14 rfl ?_
      refine wp_iconst (pc' := 16) dX9_span_15 rfl ?_
      refine wp_icmp_eq (pc' := 19) (tgt := 24) h1 ⟨by decide, by decide⟩ dX9_span_16 rfl rfl (fun hc => ?_) (fun hc => ?_)
      · have h := h.1 hc
        exact wp_dropP (leP_s (leP_d (leP_d (leP_d leP_n)))) h
      · have h := h.2 hc
        refine wp_iload_n (pc' := 20) (q := 2) (i := 2) rfl rfl dX9_span_19 rfl ?_
        refine wp_iconst (pc' := 21) dX9_span_20 rfl ?_
        refine wp_icmp_ne (pc' := 24) (tgt := 33) h1 ⟨by decide, by decide⟩ dX9_span_21 rfl rfl (fun hc => ?_) (fun hc => ?_)
        · have h := h.1 hc
          exact wp_dropP (leP_s (leP_s (leP_d (leP_d leP_n)))) h
        · have h := h.2 hc
          exact wp_dropP (leP_s (leP_d (leP_d (leP_d leP_n)))) h
  · have h := h.2 hc
    refine wp_bipush (pc' := 7) (by decide) dX9_span_5 rfl ?_
    exact wp_ireturn dX9_span_7 rfl rfl h

set_option maxRecDepth 4000 in
theorem gX9_span_24 {Q : QT} {I : II} {R : RR} {N : Nat} {a0 : Nat}
    (h : (isO N a0 6) ∧
      Q (vI ((2 * (I a0 11)) + 1)) I R) : wp (kN N) mX9_span Q 24 [vR a0, none, none, none] [] I R N := by
  refine wp_iconst (pc' := 25) dX9_span_24 rfl ?_
  refine wp_aload_n (pc' := 26) (q := 0) (i := 0) rfl rfl dX9_span_25 rfl ?_
  obtain ⟨h1, h⟩ := h
  refine wp_getI (pc' := 29) (k := 11) dX9_span_26 vc6 (by decide) rfl lfX9_9 h1 rfl ?_
  refine wp_imul (pc' := 30) dX9_span_29 rfl ?_
  refine wp_iconst (pc' := 31) dX9_span_30 rfl ?_
  refine wp_iadd (pc' := 32) dX9_span_31 rfl ?_
  exact wp_ireturn dX9_span_32 rfl rfl h

set_option maxRecDepth 4000 in
theorem gX9_span_33 {Q : QT} {I : II} {R : RR} {N : Nat} {a0 : Nat} {a1 : Int}
    (h : (isO N a0 6) ∧
      (isA N (R a0 0) 2 20) ∧
      (0 ≤ a1 ∧ a1 < 20) ∧
      (InI (I (R a0 0) a1.toNat)) ∧
      (((I (R a0 0) a1.toNat) = 0 →
      (isA N (R a0 1) 1 20) ∧
      Q (vI ((I (R a0 1) a1.toNat) + 1)) I R) ∧ (¬ (I (R a0 0) a1.toNat) = 0 →
      (isA N (R a0 1) 1 20) ∧
      Q (vI (100 - (I (R a0 1) a1.toNat))) I R))) : wp (kN N) mX9_span Q 33 [vR a0, vI a1, none, none] [] I R N := by
  refine wp_aload_n (pc' := 34) (q := 0) (i := 0) rfl rfl dX9_span_33 rfl ?_
  obtain ⟨h1, h⟩ := h
  refine wp_getR (pc' := 37) (k := 0) dX9_span_34 vc6 (by decide) rfl lfX9_15 h1 rfl ?_
  refine wp_iload_n (pc' := 38) (q := 1) (i := 1) rfl rfl dX9_span_37 rfl ?_
  obtain ⟨h2, h⟩ := h
  obtain ⟨h3, h⟩ := h
  refine wp_zald (pc' := 39) (j := a1.toNat) dX9_span_38 h2 h3 rfl rfl ?_
  obtain ⟨h4, h⟩ := h
  refine wp_if_eq (pc' := 42) (tgt := 54) h4 dX9_span_39 rfl rfl (fun hc => ?_) (fun hc => ?_)
  · have h := h.1 hc
    refine wp_aload_n (pc' := 55) (q := 0) (i := 0) rfl rfl dX9_span_54 rfl ?_
    refine wp_getR (pc' := 58) (k := 1) dX9_span_55 vc6 (by decide) rfl lfX9_19 h1 rfl ?_
    refine wp_iload_n (pc' := 59) (q := 1) (i := 1) rfl rfl dX9_span_58 rfl ?_
    obtain ⟨h5, h⟩ := h
    refine wp_iald (pc' := 60) (j := a1.toNat) dX9_span_59 h5 h3 rfl rfl ?_
    refine wp_iconst (pc' := 61) dX9_span_60 rfl ?_
    refine wp_iadd (pc' := 62) dX9_span_61 rfl ?_
    exact wp_ireturn dX9_span_62 rfl rfl h
  · have h := h.2 hc
    refine wp_bipush (pc' := 44) (by decide) dX9_span_42 rfl ?_
    refine wp_aload_n (pc' := 45) (q := 0) (i := 0) rfl rfl dX9_span_44 rfl ?_
    refine wp_getR (pc' := 48) (k := 1) dX9_span_45 vc6 (by decide) rfl lfX9_19 h1 rfl ?_
    refine wp_iload_n (pc' := 49) (q := 1) (i := 1) rfl rfl dX9_span_48 rfl ?_
    obtain ⟨h6, h⟩ := h
    refine wp_iald (pc' := 50) (j := a1.toNat) dX9_span_49 h6 h3 rfl rfl ?_
    refine wp_isub (pc' := 51) dX9_span_50 rfl ?_
    refine wp_goto (tgt := 62) dX9_span_51 rfl ?_
    exact wp_ireturn dX9_span_62 rfl rfl h

theorem sX9_by {Q : QT} {I : II} {R : RR} {N : Nat} {a0 : Nat} {a1 : Int} {a2 : Int} {a3 : Int} {a4 : Int} {a5 : Int} (hN : N < 1000) (h : wp (kN N) mX9_by Q 0 [vR a0, vI a1, vI a2, vI a3, vI a4, vI a5, none, none, none] [] I R N) : Spec mX9_by [vR a0, vI a1, vI a2, vI a3, vI a4, vI a5] I R N N Q := Spec_of_wp pyX9_by rfl (Nat.le_of_ble_eq_true rfl) (Nat.le_refl _) hN h

set_option maxRecDepth 4000 in
theorem gX9_by_0 {Q : QT} {I : II} {R : RR} {N : Nat} {a0 : Nat} {a1 : Int} {a2 : Int} {a3 : Int} {a4 : Int} {a5 : Int}
    (h : (isO N a0 6) ∧
      (isA N (R a0 0) 2 20) ∧
      (0 ≤ a1 ∧ a1 < 20) ∧
      (isA N (R a0 1) 1 20) ∧
      (InI (I (R a0 0) a1.toNat)) ∧
      (((I (R a0 0) a1.toNat) = 0 →
      (InI a2) ∧
      ((¬ a2 = (3 : Int) →
      wp (kN N) mX9_by Q 53 [vR a0, vI a1, vI a2, vI a3, vI a4, vI a5, vI (I (R a0 0) a1.toNat), vI (I (R a0 1) a1.toNat), vI a5] [] I R N) ∧ (a2 = (3 : Int) →
      (InI (4 * a3)) ∧
      (InI (3 * (I a0 8))) ∧
      (((4 * a3) < (3 * (I a0 8)) →
      wp (kN N) mX9_by Q 53 [vR a0, vI a1, vI a2, vI a3, vI a4, vI a5, vI (I (R a0 0) a1.toNat), vI (I (R a0 1) a1.toNat), vI a5] [] I R N) ∧ (¬ (4 * a3) < (3 * (I a0 8)) →
      Q (vI (I (R a0 1) a1.toNat)) I R))))) ∧ (¬ (I (R a0 0) a1.toNat) = 0 →
      (InI a2) ∧
      ((¬ a2 = (3 : Int) →
      wp (kN N) mX9_by Q 53 [vR a0, vI a1, vI a2, vI a3, vI a4, vI a5, vI (I (R a0 0) a1.toNat), vI (I (R a0 1) a1.toNat), vI ((I (R a0 1) a1.toNat) + a5)] [] I R N) ∧ (a2 = (3 : Int) →
      (InI (4 * a3)) ∧
      (InI (3 * (I a0 8))) ∧
      (((4 * a3) < (3 * (I a0 8)) →
      wp (kN N) mX9_by Q 53 [vR a0, vI a1, vI a2, vI a3, vI a4, vI a5, vI (I (R a0 0) a1.toNat), vI (I (R a0 1) a1.toNat), vI ((I (R a0 1) a1.toNat) + a5)] [] I R N) ∧ (¬ (4 * a3) < (3 * (I a0 8)) →
      Q (vI (I (R a0 1) a1.toNat)) I R))))))) : wp (kN N) mX9_by Q 0 [vR a0, vI a1, vI a2, vI a3, vI a4, vI a5, none, none, none] [] I R N := by
  refine wp_aload_n (pc' := 1) (q := 0) (i := 0) rfl rfl dX9_by_0 rfl ?_
  obtain ⟨h1, h⟩ := h
  refine wp_getR (pc' := 4) (k := 0) dX9_by_1 vc6 (by decide) rfl lfX9_15 h1 rfl ?_
  refine wp_iload_n (pc' := 5) (q := 1) (i := 1) rfl rfl dX9_by_4 rfl ?_
  obtain ⟨h2, h⟩ := h
  obtain ⟨h3, h⟩ := h
  refine wp_zald (pc' := 6) (j := a1.toNat) dX9_by_5 h2 h3 rfl rfl ?_
  refine wp_istore (pc' := 8) (i := 6) (L' := [vR a0, vI a1, vI a2, vI a3, vI a4, vI a5, vI (I (R a0 0) a1.toNat), none, none]) (by decide) rfl dX9_by_6 rfl rfl ?_
  refine wp_aload_n (pc' := 9) (q := 0) (i := 0) rfl rfl dX9_by_8 rfl ?_
  refine wp_getR (pc' := 12) (k := 1) dX9_by_9 vc6 (by decide) rfl lfX9_19 h1 rfl ?_
  refine wp_iload_n (pc' := 13) (q := 1) (i := 1) rfl rfl dX9_by_12 rfl ?_
  obtain ⟨h4, h⟩ := h
  refine wp_iald (pc' := 14) (j := a1.toNat) dX9_by_13 h4 h3 rfl rfl ?_
  refine wp_istore (pc' := 16) (i := 7) (L' := [vR a0, vI a1, vI a2, vI a3, vI a4, vI a5, vI (I (R a0 0) a1.toNat), vI (I (R a0 1) a1.toNat), none]) (by decide) rfl dX9_by_14 rfl rfl ?_
  refine wp_iload (pc' := 18) (i := 6) rfl dX9_by_16 rfl ?_
  obtain ⟨h5, h⟩ := h
  refine wp_if_eq (pc' := 21) (tgt := 29) h5 dX9_by_18 rfl rfl (fun hc => ?_) (fun hc => ?_)
  · have h := h.1 hc
    refine wp_iload (pc' := 31) (i := 5) rfl dX9_by_29 rfl ?_
    refine wp_istore (pc' := 33) (i := 8) (L' := [vR a0, vI a1, vI a2, vI a3, vI a4, vI a5, vI (I (R a0 0) a1.toNat), vI (I (R a0 1) a1.toNat), vI a5]) (by decide) rfl dX9_by_31 rfl rfl ?_
    refine wp_iload_n (pc' := 34) (q := 2) (i := 2) rfl rfl dX9_by_33 rfl ?_
    refine wp_iconst (pc' := 35) dX9_by_34 rfl ?_
    obtain ⟨h6, h⟩ := h
    refine wp_icmp_ne (pc' := 38) (tgt := 53) h6 ⟨by decide, by decide⟩ dX9_by_35 rfl rfl (fun hc => ?_) (fun hc => ?_)
    · have h := h.1 hc
      exact h
    · have h := h.2 hc
      refine wp_iconst (pc' := 39) dX9_by_38 rfl ?_
      refine wp_iload_n (pc' := 40) (q := 3) (i := 3) rfl rfl dX9_by_39 rfl ?_
      refine wp_imul (pc' := 41) dX9_by_40 rfl ?_
      refine wp_iconst (pc' := 42) dX9_by_41 rfl ?_
      refine wp_aload_n (pc' := 43) (q := 0) (i := 0) rfl rfl dX9_by_42 rfl ?_
      refine wp_getI (pc' := 46) (k := 8) dX9_by_43 vc6 (by decide) rfl lfX9_23 h1 rfl ?_
      refine wp_imul (pc' := 47) dX9_by_46 rfl ?_
      obtain ⟨h7, h⟩ := h
      obtain ⟨h8, h⟩ := h
      refine wp_icmp_lt (pc' := 50) (tgt := 53) h7 h8 dX9_by_47 rfl rfl (fun hc => ?_) (fun hc => ?_)
      · have h := h.1 hc
        exact h
      · have h := h.2 hc
        refine wp_iload (pc' := 52) (i := 7) rfl dX9_by_50 rfl ?_
        exact wp_ireturn dX9_by_52 rfl rfl h
  · have h := h.2 hc
    refine wp_iload (pc' := 23) (i := 7) rfl dX9_by_21 rfl ?_
    refine wp_iload (pc' := 25) (i := 5) rfl dX9_by_23 rfl ?_
    refine wp_iadd (pc' := 26) dX9_by_25 rfl ?_
    refine wp_goto (tgt := 31) dX9_by_26 rfl ?_
    refine wp_istore (pc' := 33) (i := 8) (L' := [vR a0, vI a1, vI a2, vI a3, vI a4, vI a5, vI (I (R a0 0) a1.toNat), vI (I (R a0 1) a1.toNat), vI ((I (R a0 1) a1.toNat) + a5)]) (by decide) rfl dX9_by_31 rfl rfl ?_
    refine wp_iload_n (pc' := 34) (q := 2) (i := 2) rfl rfl dX9_by_33 rfl ?_
    refine wp_iconst (pc' := 35) dX9_by_34 rfl ?_
    obtain ⟨h9, h⟩ := h
    refine wp_icmp_ne (pc' := 38) (tgt := 53) h9 ⟨by decide, by decide⟩ dX9_by_35 rfl rfl (fun hc => ?_) (fun hc => ?_)
    · have h := h.1 hc
      exact h
    · have h := h.2 hc
      refine wp_iconst (pc' := 39) dX9_by_38 rfl ?_
      refine wp_iload_n (pc' := 40) (q := 3) (i := 3) rfl rfl dX9_by_39 rfl ?_
      refine wp_imul (pc' := 41) dX9_by_40 rfl ?_
      refine wp_iconst (pc' := 42) dX9_by_41 rfl ?_
      refine wp_aload_n (pc' := 43) (q := 0) (i := 0) rfl rfl dX9_by_42 rfl ?_
      refine wp_getI (pc' := 46) (k := 8) dX9_by_43 vc6 (by decide) rfl lfX9_23 h1 rfl ?_
      refine wp_imul (pc' := 47) dX9_by_46 rfl ?_
      obtain ⟨h10, h⟩ := h
      obtain ⟨h11, h⟩ := h
      refine wp_icmp_lt (pc' := 50) (tgt := 53) h10 h11 dX9_by_47 rfl rfl (fun hc => ?_) (fun hc => ?_)
      · have h := h.1 hc
        exact h
      · have h := h.2 hc
        refine wp_iload (pc' := 52) (i := 7) rfl dX9_by_50 rfl ?_
        exact wp_ireturn dX9_by_52 rfl rfl h

set_option maxRecDepth 4000 in
theorem gX9_by_53 {Q : QT} {I : II} {R : RR} {N : Nat} {a0 : Nat} {a1 : Int} {a2 : Int} {a3 : Int} {a4 : Int} {a5 : Int} {a6 : Int} {a7 : Int} {a8 : Int}
    (h : (InI a2) ∧
      ((a2 < 1 ∨ 5 < a2 →
      Q (vI a8) I R) ∧ (a2 = 1 →
      (InI a4) ∧
      ((¬ a4 = (-4 : Int) →
      (∃ Q3 : QT, Spec mX9_near [vR a0, vI a1, vI a4, vI a5] I R N N Q3 ∧ (∀ x3 I3 R3, Q3 (vI x3) I3 R3 →
      Q (vI x3) I3 R3))) ∧ (a4 = (-4 : Int) →
      Q (vI a8) I R))) ∧ (a2 = 2 →
      (InI a6) ∧
      ((a6 = 0 →
      (∃ Q5 : QT, Spec mX9_share [vR a0, vI a7, vI a3] I R N N Q5 ∧ (∀ x5 I5 R5, Q5 (vI x5) I5 R5 →
      Q (vI x5) I5 R5))) ∧ (¬ (a6 = 0) →
      (∃ Q6 : QT, Spec mX9_share [vR a0, vI (99 - a7), vI a3] I R N N Q6 ∧ (∀ x6 I6 R6, Q6 (vI x6) I6 R6 →
      Q (vI (99 - x6)) I6 R6))))) ∧ (a2 = 3 →
      (InI a4) ∧
      ((¬ a4 = (-4 : Int) →
      (∃ Q8 : QT, Spec mX9_near [vR a0, vI a1, vI a4, vI a5] I R N N Q8 ∧ (∀ x8 I8 R8, Q8 (vI x8) I8 R8 →
      Q (vI x8) I8 R8))) ∧ (a4 = (-4 : Int) →
      Q (vI a8) I R))) ∧ (a2 = 4 →
      (InI a6) ∧
      ((a6 = 0 →
      (isO N a0 6) ∧
      (InI a8) ∧
      (InI (I a0 12)) ∧
      Q (vI (min a8 (I a0 12))) I R) ∧ (¬ (a6 = 0) →
      (isO N a0 6) ∧
      (InI a8) ∧
      (InI (I a0 12)) ∧
      Q (vI (max a8 (I a0 12))) I R))) ∧ (a2 = 5 →
      Q (vI a5) I R))) : wp (kN N) mX9_by Q 53 [vR a0, vI a1, vI a2, vI a3, vI a4, vI a5, vI a6, vI a7, vI a8] [] I R N := by
  refine wp_iload_n (pc' := 54) (q := 2) (i := 2) rfl rfl dX9_by_53 rfl ?_
  obtain ⟨h1, h⟩ := h
  refine wp_table (tgtD := 169) h1 dX9_by_54 rfl (fun hc => ?_) (fun j hj hle => ?_)
  · have h := h.1 hc
    refine wp_iload (pc' := 171) (i := 8) rfl dX9_by_169 rfl ?_
    exact wp_ireturn dX9_by_171 rfl rfl h
  · have hj9 : j = 0 ∨ j = 1 ∨ j = 2 ∨ j = 3 ∨ j = 4 := by omega
    rcases hj9 with rfl | rfl | rfl | rfl | rfl
    · refine ⟨34, 88, rfl, rfl, ?_⟩
      have h := h.2.1 (by omega)
      refine wp_iload (pc' := 90) (i := 4) rfl dX9_by_88 rfl ?_
      refine wp_bipush (pc' := 92) (by decide) dX9_by_90 rfl ?_
      obtain ⟨h2, h⟩ := h
      refine wp_icmp_ne (pc' := 95) (tgt := 100) h2 ⟨by decide, by decide⟩ dX9_by_92 rfl rfl (fun hc => ?_) (fun hc => ?_)
      · have h := h.1 hc
        refine wp_aload_n (pc' := 101) (q := 0) (i := 0) rfl rfl dX9_by_100 rfl ?_
        refine wp_iload_n (pc' := 102) (q := 1) (i := 1) rfl rfl dX9_by_101 rfl ?_
        refine wp_iload (pc' := 104) (i := 4) rfl dX9_by_102 rfl ?_
        refine wp_iload (pc' := 106) (i := 5) rfl dX9_by_104 rfl ?_
        obtain ⟨Q3, hs3, h⟩ := h
        refine wp_callS (pc' := 109) (as := [vR a0, vI a1, vI a4, vI a5]) (rest := []) hs3 dX9_by_106 rfl lkX9_26 okX9_near stX9_near ⟨Nat.le_of_ble_eq_true rfl, Nat.le_of_ble_eq_true rfl⟩ (Nat.le_of_ble_eq_true rfl) (Nat.le_refl _) (Nat.le_refl _) okP_eq okP_eq rfl (rvI rfl (fun x3 I3 R3 hq3 => ?_))
        have h := h x3 I3 R3 hq3
        exact wp_ireturn dX9_by_109 rfl rfl h
      · have h := h.2 hc
        refine wp_iload (pc' := 97) (i := 8) rfl dX9_by_95 rfl ?_
        refine wp_goto (tgt := 109) dX9_by_97 rfl ?_
        exact wp_ireturn dX9_by_109 rfl rfl h
    · refine ⟨56, 110, rfl, rfl, ?_⟩
      have h := h.2.2.1 (by omega)
      refine wp_iload (pc' := 112) (i := 6) rfl dX9_by_110 rfl ?_
      obtain ⟨h4, h⟩ := h
      refine wp_if_eq (pc' := 115) (tgt := 131) h4 dX9_by_112 rfl rfl (fun hc => ?_) (fun hc => ?_)
      · have h := h.1 hc
        refine wp_aload_n (pc' := 132) (q := 0) (i := 0) rfl rfl dX9_by_131 rfl ?_
        refine wp_iload (pc' := 134) (i := 7) rfl dX9_by_132 rfl ?_
        refine wp_iload_n (pc' := 135) (q := 3) (i := 3) rfl rfl dX9_by_134 rfl ?_
        obtain ⟨Q5, hs5, h⟩ := h
        refine wp_callS (pc' := 138) (as := [vR a0, vI a7, vI a3]) (rest := []) hs5 dX9_by_135 rfl lkX9_31 okX9_share stX9_share ⟨Nat.le_of_ble_eq_true rfl, Nat.le_of_ble_eq_true rfl⟩ (Nat.le_of_ble_eq_true rfl) (Nat.le_refl _) (Nat.le_refl _) okP_eq okP_eq rfl (rvI rfl (fun x5 I5 R5 hq5 => ?_))
        have h := h x5 I5 R5 hq5
        exact wp_ireturn dX9_by_138 rfl rfl h
      · have h := h.2 hc
        refine wp_bipush (pc' := 117) (by decide) dX9_by_115 rfl ?_
        refine wp_aload_n (pc' := 118) (q := 0) (i := 0) rfl rfl dX9_by_117 rfl ?_
        refine wp_bipush (pc' := 120) (by decide) dX9_by_118 rfl ?_
        refine wp_iload (pc' := 122) (i := 7) rfl dX9_by_120 rfl ?_
        refine wp_isub (pc' := 123) dX9_by_122 rfl ?_
        refine wp_iload_n (pc' := 124) (q := 3) (i := 3) rfl rfl dX9_by_123 rfl ?_
        obtain ⟨Q6, hs6, h⟩ := h
        refine wp_callS (pc' := 127) (as := [vR a0, vI (99 - a7), vI a3]) (rest := [vI 99]) hs6 dX9_by_124 rfl lkX9_31 okX9_share stX9_share ⟨Nat.le_of_ble_eq_true rfl, Nat.le_of_ble_eq_true rfl⟩ (Nat.le_of_ble_eq_true rfl) (Nat.le_refl _) (Nat.le_refl _) okP_eq okP_eq rfl (rvI rfl (fun x6 I6 R6 hq6 => ?_))
        have h := h x6 I6 R6 hq6
        refine wp_isub (pc' := 128) dX9_by_127 rfl ?_
        refine wp_goto (tgt := 138) dX9_by_128 rfl ?_
        exact wp_ireturn dX9_by_138 rfl rfl h
    · refine ⟨34, 88, rfl, rfl, ?_⟩
      have h := h.2.2.2.1 (by omega)
      refine wp_iload (pc' := 90) (i := 4) rfl dX9_by_88 rfl ?_
      refine wp_bipush (pc' := 92) (by decide) dX9_by_90 rfl ?_
      obtain ⟨h7, h⟩ := h
      refine wp_icmp_ne (pc' := 95) (tgt := 100) h7 ⟨by decide, by decide⟩ dX9_by_92 rfl rfl (fun hc => ?_) (fun hc => ?_)
      · have h := h.1 hc
        refine wp_aload_n (pc' := 101) (q := 0) (i := 0) rfl rfl dX9_by_100 rfl ?_
        refine wp_iload_n (pc' := 102) (q := 1) (i := 1) rfl rfl dX9_by_101 rfl ?_
        refine wp_iload (pc' := 104) (i := 4) rfl dX9_by_102 rfl ?_
        refine wp_iload (pc' := 106) (i := 5) rfl dX9_by_104 rfl ?_
        obtain ⟨Q8, hs8, h⟩ := h
        refine wp_callS (pc' := 109) (as := [vR a0, vI a1, vI a4, vI a5]) (rest := []) hs8 dX9_by_106 rfl lkX9_26 okX9_near stX9_near ⟨Nat.le_of_ble_eq_true rfl, Nat.le_of_ble_eq_true rfl⟩ (Nat.le_of_ble_eq_true rfl) (Nat.le_refl _) (Nat.le_refl _) okP_eq okP_eq rfl (rvI rfl (fun x8 I8 R8 hq8 => ?_))
        have h := h x8 I8 R8 hq8
        exact wp_ireturn dX9_by_109 rfl rfl h
      · have h := h.2 hc
        refine wp_iload (pc' := 97) (i := 8) rfl dX9_by_95 rfl ?_
        refine wp_goto (tgt := 109) dX9_by_97 rfl ?_
        exact wp_ireturn dX9_by_109 rfl rfl h
    · refine ⟨85, 139, rfl, rfl, ?_⟩
      have h := h.2.2.2.2.1 (by omega)
      refine wp_iload (pc' := 141) (i := 6) rfl dX9_by_139 rfl ?_
      obtain ⟨h9, h⟩ := h
      refine wp_if_eq (pc' := 144) (tgt := 156) h9 dX9_by_141 rfl rfl (fun hc => ?_) (fun hc => ?_)
      · have h := h.1 hc
        refine wp_iload (pc' := 158) (i := 8) rfl dX9_by_156 rfl ?_
        refine wp_aload_n (pc' := 159) (q := 0) (i := 0) rfl rfl dX9_by_158 rfl ?_
        obtain ⟨h10, h⟩ := h
        refine wp_getI (pc' := 162) (k := 12) dX9_by_159 vc6 (by decide) rfl lfX9_35 h10 rfl ?_
        obtain ⟨h11, h⟩ := h
        obtain ⟨h12, h⟩ := h
        refine wp_mmin (pc' := 165) h11 h12 dX9_by_162 lkX9_44 ms_min iiMath mc_min ⟨Nat.le_of_ble_eq_true rfl, Nat.le_of_ble_eq_true rfl⟩ (Nat.le_refl _) rfl ?_
        exact wp_ireturn dX9_by_165 rfl rfl h
      · have h := h.2 hc
        refine wp_iload (pc' := 146) (i := 8) rfl dX9_by_144 rfl ?_
        refine wp_aload_n (pc' := 147) (q := 0) (i := 0) rfl rfl dX9_by_146 rfl ?_
        obtain ⟨h13, h⟩ := h
        refine wp_getI (pc' := 150) (k := 12) dX9_by_147 vc6 (by decide) rfl lfX9_35 h13 rfl ?_
        obtain ⟨h14, h⟩ := h
        obtain ⟨h15, h⟩ := h
        refine wp_mmax (pc' := 153) h14 h15 dX9_by_150 lkX9_38 ms_max iiMath mc_max ⟨Nat.le_of_ble_eq_true rfl, Nat.le_of_ble_eq_true rfl⟩ (Nat.le_refl _) rfl ?_
        refine wp_goto (tgt := 165) dX9_by_153 rfl ?_
        exact wp_ireturn dX9_by_165 rfl rfl h
    · refine ⟨112, 166, rfl, rfl, ?_⟩
      have h := h.2.2.2.2.2 (by omega)
      refine wp_iload (pc' := 168) (i := 5) rfl dX9_by_166 rfl ?_
      exact wp_ireturn dX9_by_168 rfl rfl h

theorem sX9_near {Q : QT} {I : II} {R : RR} {N : Nat} {a0 : Nat} {a1 : Int} {a2 : Int} {a3 : Int} (hN : N < 1000) (h : wp (kN N) mX9_near Q 0 [vR a0, vI a1, vI a2, vI a3, none, none] [] I R N) : Spec mX9_near [vR a0, vI a1, vI a2, vI a3] I R N N Q := Spec_of_wp pyX9_near rfl (Nat.le_of_ble_eq_true rfl) (Nat.le_refl _) hN h

set_option maxRecDepth 4000 in
theorem gX9_near_0 {Q : QT} {I : II} {R : RR} {N : Nat} {a0 : Nat} {a1 : Int} {a2 : Int} {a3 : Int}
    (h : (isO N a0 6) ∧
      (InI ((a2 - (I a0 11)) + a3)) ∧
      (InI (max ((a2 - (I a0 11)) + a3) 0)) ∧
      (isA N (R a0 1) 1 20) ∧
      (0 ≤ a1 ∧ a1 < 20) ∧
      (isA N (R a0 0) 2 20) ∧
      (InI (I (R a0 0) a1.toNat)) ∧
      (((I (R a0 0) a1.toNat) = 0 →
      (InI (min (max ((a2 - (I a0 11)) + a3) 0) 99)) ∧
      (InI (I (R a0 1) a1.toNat)) ∧
      Q (vI (min (min (max ((a2 - (I a0 11)) + a3) 0) 99) (I (R a0 1) a1.toNat))) I R) ∧ (¬ (I (R a0 0) a1.toNat) = 0 →
      (InI (min (max ((a2 - (I a0 11)) + a3) 0) 99)) ∧
      (InI (I (R a0 1) a1.toNat)) ∧
      Q (vI (max (min (max ((a2 - (I a0 11)) + a3) 0) 99) (I (R a0 1) a1.toNat))) I R))) : wp (kN N) mX9_near Q 0 [vR a0, vI a1, vI a2, vI a3, none, none] [] I R N := by
  refine wp_iload_n (pc' := 1) (q := 2) (i := 2) rfl rfl dX9_near_0 rfl ?_
  refine wp_aload_n (pc' := 2) (q := 0) (i := 0) rfl rfl dX9_near_1 rfl ?_
  obtain ⟨h1, h⟩ := h
  refine wp_getI (pc' := 5) (k := 11) dX9_near_2 vc6 (by decide) rfl lfX9_9 h1 rfl ?_
  refine wp_isub (pc' := 6) dX9_near_5 rfl ?_
  refine wp_iload_n (pc' := 7) (q := 3) (i := 3) rfl rfl dX9_near_6 rfl ?_
  refine wp_iadd (pc' := 8) dX9_near_7 rfl ?_
  refine wp_iconst (pc' := 9) dX9_near_8 rfl ?_
  obtain ⟨h2, h⟩ := h
  refine wp_mmax (pc' := 12) h2 ⟨by decide, by decide⟩ dX9_near_9 lkX9_38 ms_max iiMath mc_max ⟨Nat.le_of_ble_eq_true rfl, Nat.le_of_ble_eq_true rfl⟩ (Nat.le_refl _) rfl ?_
  refine wp_bipush (pc' := 14) (by decide) dX9_near_12 rfl ?_
  obtain ⟨h3, h⟩ := h
  refine wp_mmin (pc' := 17) h3 ⟨by decide, by decide⟩ dX9_near_14 lkX9_44 ms_min iiMath mc_min ⟨Nat.le_of_ble_eq_true rfl, Nat.le_of_ble_eq_true rfl⟩ (Nat.le_refl _) rfl ?_
  refine wp_istore (pc' := 19) (i := 4) (L' := [vR a0, vI a1, vI a2, vI a3, vI (min (max ((a2 - (I a0 11)) + a3) 0) 99), none]) (by decide) rfl dX9_near_17 rfl rfl ?_
  refine wp_aload_n (pc' := 20) (q := 0) (i := 0) rfl rfl dX9_near_19 rfl ?_
  refine wp_getR (pc' := 23) (k := 1) dX9_near_20 vc6 (by decide) rfl lfX9_19 h1 rfl ?_
  refine wp_iload_n (pc' := 24) (q := 1) (i := 1) rfl rfl dX9_near_23 rfl ?_
  obtain ⟨h4, h⟩ := h
  obtain ⟨h5, h⟩ := h
  refine wp_iald (pc' := 25) (j := a1.toNat) dX9_near_24 h4 h5 rfl rfl ?_
  refine wp_istore (pc' := 27) (i := 5) (L' := [vR a0, vI a1, vI a2, vI a3, vI (min (max ((a2 - (I a0 11)) + a3) 0) 99), vI (I (R a0 1) a1.toNat)]) (by decide) rfl dX9_near_25 rfl rfl ?_
  refine wp_aload_n (pc' := 28) (q := 0) (i := 0) rfl rfl dX9_near_27 rfl ?_
  refine wp_getR (pc' := 31) (k := 0) dX9_near_28 vc6 (by decide) rfl lfX9_15 h1 rfl ?_
  refine wp_iload_n (pc' := 32) (q := 1) (i := 1) rfl rfl dX9_near_31 rfl ?_
  obtain ⟨h6, h⟩ := h
  refine wp_zald (pc' := 33) (j := a1.toNat) dX9_near_32 h6 h5 rfl rfl ?_
  obtain ⟨h7, h⟩ := h
  refine wp_if_eq (pc' := 36) (tgt := 46) h7 dX9_near_33 rfl rfl (fun hc => ?_) (fun hc => ?_)
  · have h := h.1 hc
    refine wp_iload (pc' := 48) (i := 4) rfl dX9_near_46 rfl ?_
    refine wp_iload (pc' := 50) (i := 5) rfl dX9_near_48 rfl ?_
    obtain ⟨h8, h⟩ := h
    obtain ⟨h9, h⟩ := h
    refine wp_mmin (pc' := 53) h8 h9 dX9_near_50 lkX9_44 ms_min iiMath mc_min ⟨Nat.le_of_ble_eq_true rfl, Nat.le_of_ble_eq_true rfl⟩ (Nat.le_refl _) rfl ?_
    exact wp_ireturn dX9_near_53 rfl rfl h
  · have h := h.2 hc
    refine wp_iload (pc' := 38) (i := 4) rfl dX9_near_36 rfl ?_
    refine wp_iload (pc' := 40) (i := 5) rfl dX9_near_38 rfl ?_
    obtain ⟨h10, h⟩ := h
    obtain ⟨h11, h⟩ := h
    refine wp_mmax (pc' := 43) h10 h11 dX9_near_40 lkX9_38 ms_max iiMath mc_max ⟨Nat.le_of_ble_eq_true rfl, Nat.le_of_ble_eq_true rfl⟩ (Nat.le_refl _) rfl ?_
    refine wp_goto (tgt := 53) dX9_near_43 rfl ?_
    exact wp_ireturn dX9_near_53 rfl rfl h

theorem sX9_share {Q : QT} {I : II} {R : RR} {N : Nat} {a0 : Nat} {a1 : Int} {a2 : Int} (hN : N < 1000) (h : wp (kN N) mX9_share Q 0 [vR a0, vI a1, vI a2] [] I R N) : Spec mX9_share [vR a0, vI a1, vI a2] I R N N Q := Spec_of_wp pyX9_share rfl (Nat.le_of_ble_eq_true rfl) (Nat.le_refl _) hN h

set_option maxRecDepth 4000 in
theorem gX9_share_0 {Q : QT} {I : II} {R : RR} {N : Nat} {a0 : Nat} {a1 : Int} {a2 : Int}
    (h : (isO N a0 6) ∧
      (InI (I a0 8)) ∧
      (((I a0 8) ≤ 0 →
      Q (vI a1) I R) ∧ (¬ (I a0 8) ≤ 0 →
      (0 ≤ (a1 * (a2 + 1)) ∧ (a1 * (a2 + 1)) ≤ 2147483647 ∧ 0 < (I a0 8) ∧ (I a0 8) ≤ 2147483647) ∧
      Q (vI ((a1 * (a2 + 1)) / (I a0 8))) I R))) : wp (kN N) mX9_share Q 0 [vR a0, vI a1, vI a2] [] I R N := by
  refine wp_aload_n (pc' := 1) (q := 0) (i := 0) rfl rfl dX9_share_0 rfl ?_
  obtain ⟨h1, h⟩ := h
  refine wp_getI (pc' := 4) (k := 8) dX9_share_1 vc6 (by decide) rfl lfX9_23 h1 rfl ?_
  obtain ⟨h2, h⟩ := h
  refine wp_if_le (pc' := 7) (tgt := 20) h2 dX9_share_4 rfl rfl (fun hc => ?_) (fun hc => ?_)
  · have h := h.1 hc
    refine wp_iload_n (pc' := 21) (q := 1) (i := 1) rfl rfl dX9_share_20 rfl ?_
    exact wp_ireturn dX9_share_21 rfl rfl h
  · have h := h.2 hc
    refine wp_iload_n (pc' := 8) (q := 1) (i := 1) rfl rfl dX9_share_7 rfl ?_
    refine wp_iload_n (pc' := 9) (q := 2) (i := 2) rfl rfl dX9_share_8 rfl ?_
    refine wp_iconst (pc' := 10) dX9_share_9 rfl ?_
    refine wp_iadd (pc' := 11) dX9_share_10 rfl ?_
    refine wp_imul (pc' := 12) dX9_share_11 rfl ?_
    refine wp_aload_n (pc' := 13) (q := 0) (i := 0) rfl rfl dX9_share_12 rfl ?_
    refine wp_getI (pc' := 16) (k := 8) dX9_share_13 vc6 (by decide) rfl lfX9_23 h1 rfl ?_
    obtain ⟨h3, h⟩ := h
    refine wp_idiv (pc' := 17) h3 dX9_share_16 rfl ?_
    refine wp_goto (tgt := 21) dX9_share_17 rfl ?_
    exact wp_ireturn dX9_share_21 rfl rfl h

