theorem sX11_noRoom {Q : QT} {I : II} {R : RR} {a1 : Int} (h : wp (kN 89) mX11_noRoom Q 0 [vR 68, vI a1] [] I R 89) : Spec mX11_noRoom [vR 68, vI a1] I R 89 89 Q := Spec_of_wp pyX11_noRoom rfl (Nat.le_of_ble_eq_true rfl) (Nat.le_refl _) (by decide) h

set_option maxRecDepth 4000 in
theorem gX11_noRoom_0 {Q : QT} {I : II} {R : RR} (hR : SR R) {a1 : Int}
    (h : (0 ≤ a1 ∧ a1 < 2) ∧
      (∀ I2 : II, I2 = up2 I 70 (a1.toNat) 0 →
      (0 ≤ (5 * a1) ∧ (5 * a1) < 10) ∧
      (∀ I4 : II, I4 = up2 I2 74 ((5 * a1).toNat) 60 →
      (0 ≤ ((5 * a1) + 1) ∧ ((5 * a1) + 1) < 10) ∧
      (∀ I6 : II, I6 = up2 I4 74 (((5 * a1) + 1).toNat) 0 →
      (0 ≤ ((5 * a1) + 2) ∧ ((5 * a1) + 2) < 10) ∧
      (∀ I8 : II, I8 = up2 I6 74 (((5 * a1) + 2).toNat) 99 →
      (0 ≤ ((5 * a1) + 3) ∧ ((5 * a1) + 3) < 10) ∧
      (∀ I10 : II, I10 = up2 I8 74 (((5 * a1) + 3).toNat) 5 →
      (0 ≤ ((5 * a1) + 4) ∧ ((5 * a1) + 4) < 10) ∧
      (∀ I12 : II, I12 = up2 I10 74 (((5 * a1) + 4).toNat) 50 →
      Q none I12 R))))))) : wp (kN 89) mX11_noRoom Q 0 [vR 68, vI a1] [] I R 89 := by
  refine wp_aload_n (pc' := 1) (q := 0) (i := 0) rfl rfl dX11_noRoom_0 rfl ?_
  refine wp_getRc (pc' := 4) (k := 2) (j := 70) dX11_noRoom_1 vc10 (by decide) rfl lfX11_13 o_68 (r_68_2 hR) rfl ?_
  refine wp_iload_n (pc' := 5) (q := 1) (i := 1) rfl rfl dX11_noRoom_4 rfl ?_
  refine wp_iconst (pc' := 6) dX11_noRoom_5 rfl ?_
  obtain ⟨h1, h⟩ := h
  obtain ⟨I2, eI2⟩ : ∃ z : II, z = up2 I 70 (a1.toNat) 0 := ⟨_, rfl⟩
  have h := h I2 eI2
  refine wp_iast (pc' := 7) (j := a1.toNat) (I' := I2) dX11_noRoom_6 a_70 h1 rfl rfl eI2 ?_
  refine wp_aload_n (pc' := 8) (q := 0) (i := 0) rfl rfl dX11_noRoom_7 rfl ?_
  refine wp_getRc (pc' := 11) (k := 6) (j := 74) dX11_noRoom_8 vc10 (by decide) rfl lfX11_25 o_68 (r_68_6 hR) rfl ?_
  refine wp_iconst (pc' := 12) dX11_noRoom_11 rfl ?_
  refine wp_iload_n (pc' := 13) (q := 1) (i := 1) rfl rfl dX11_noRoom_12 rfl ?_
  refine wp_imul (pc' := 14) dX11_noRoom_13 rfl ?_
  refine wp_bipush (pc' := 16) (by decide) dX11_noRoom_14 rfl ?_
  obtain ⟨h3, h⟩ := h
  obtain ⟨I4, eI4⟩ : ∃ z : II, z = up2 I2 74 ((5 * a1).toNat) 60 := ⟨_, rfl⟩
  have h := h I4 eI4
  refine wp_iast (pc' := 17) (j := (5 * a1).toNat) (I' := I4) dX11_noRoom_16 a_74 h3 rfl rfl eI4 ?_
  refine wp_aload_n (pc' := 18) (q := 0) (i := 0) rfl rfl dX11_noRoom_17 rfl ?_
  refine wp_getRc (pc' := 21) (k := 6) (j := 74) dX11_noRoom_18 vc10 (by decide) rfl lfX11_25 o_68 (r_68_6 hR) rfl ?_
  refine wp_iconst (pc' := 22) dX11_noRoom_21 rfl ?_
  refine wp_iload_n (pc' := 23) (q := 1) (i := 1) rfl rfl dX11_noRoom_22 rfl ?_
  refine wp_imul (pc' := 24) dX11_noRoom_23 rfl ?_
  refine wp_iconst (pc' := 25) dX11_noRoom_24 rfl ?_
  refine wp_iadd (pc' := 26) dX11_noRoom_25 rfl ?_
  refine wp_iconst (pc' := 27) dX11_noRoom_26 rfl ?_
  obtain ⟨h5, h⟩ := h
  obtain ⟨I6, eI6⟩ : ∃ z : II, z = up2 I4 74 (((5 * a1) + 1).toNat) 0 := ⟨_, rfl⟩
  have h := h I6 eI6
  refine wp_iast (pc' := 28) (j := ((5 * a1) + 1).toNat) (I' := I6) dX11_noRoom_27 a_74 h5 rfl rfl eI6 ?_
  refine wp_aload_n (pc' := 29) (q := 0) (i := 0) rfl rfl dX11_noRoom_28 rfl ?_
  refine wp_getRc (pc' := 32) (k := 6) (j := 74) dX11_noRoom_29 vc10 (by decide) rfl lfX11_25 o_68 (r_68_6 hR) rfl ?_
  refine wp_iconst (pc' := 33) dX11_noRoom_32 rfl ?_
  refine wp_iload_n (pc' := 34) (q := 1) (i := 1) rfl rfl dX11_noRoom_33 rfl ?_
  refine wp_imul (pc' := 35) dX11_noRoom_34 rfl ?_
  refine wp_iconst (pc' := 36) dX11_noRoom_35 rfl ?_
  refine wp_iadd (pc' := 37) dX11_noRoom_36 rfl ?_
  refine wp_bipush (pc' := 39) (by decide) dX11_noRoom_37 rfl ?_
  obtain ⟨h7, h⟩ := h
  obtain ⟨I8, eI8⟩ : ∃ z : II, z = up2 I6 74 (((5 * a1) + 2).toNat) 99 := ⟨_, rfl⟩
  have h := h I8 eI8
  refine wp_iast (pc' := 40) (j := ((5 * a1) + 2).toNat) (I' := I8) dX11_noRoom_39 a_74 h7 rfl rfl eI8 ?_
  refine wp_aload_n (pc' := 41) (q := 0) (i := 0) rfl rfl dX11_noRoom_40 rfl ?_
  refine wp_getRc (pc' := 44) (k := 6) (j := 74) dX11_noRoom_41 vc10 (by decide) rfl lfX11_25 o_68 (r_68_6 hR) rfl ?_
  refine wp_iconst (pc' := 45) dX11_noRoom_44 rfl ?_
  refine wp_iload_n (pc' := 46) (q := 1) (i := 1) rfl rfl dX11_noRoom_45 rfl ?_
  refine wp_imul (pc' := 47) dX11_noRoom_46 rfl ?_
  refine wp_iconst (pc' := 48) dX11_noRoom_47 rfl ?_
  refine wp_iadd (pc' := 49) dX11_noRoom_48 rfl ?_
  refine wp_iconst (pc' := 50) dX11_noRoom_49 rfl ?_
  obtain ⟨h9, h⟩ := h
  obtain ⟨I10, eI10⟩ : ∃ z : II, z = up2 I8 74 (((5 * a1) + 3).toNat) 5 := ⟨_, rfl⟩
  have h := h I10 eI10
  refine wp_iast (pc' := 51) (j := ((5 * a1) + 3).toNat) (I' := I10) dX11_noRoom_50 a_74 h9 rfl rfl eI10 ?_
  refine wp_aload_n (pc' := 52) (q := 0) (i := 0) rfl rfl dX11_noRoom_51 rfl ?_
  refine wp_getRc (pc' := 55) (k := 6) (j := 74) dX11_noRoom_52 vc10 (by decide) rfl lfX11_25 o_68 (r_68_6 hR) rfl ?_
  refine wp_iconst (pc' := 56) dX11_noRoom_55 rfl ?_
  refine wp_iload_n (pc' := 57) (q := 1) (i := 1) rfl rfl dX11_noRoom_56 rfl ?_
  refine wp_imul (pc' := 58) dX11_noRoom_57 rfl ?_
  refine wp_iconst (pc' := 59) dX11_noRoom_58 rfl ?_
  refine wp_iadd (pc' := 60) dX11_noRoom_59 rfl ?_
  refine wp_bipush (pc' := 62) (by decide) dX11_noRoom_60 rfl ?_
  obtain ⟨h11, h⟩ := h
  obtain ⟨I12, eI12⟩ : ∃ z : II, z = up2 I10 74 (((5 * a1) + 4).toNat) 50 := ⟨_, rfl⟩
  have h := h I12 eI12
  refine wp_iast (pc' := 63) (j := ((5 * a1) + 4).toNat) (I' := I12) dX11_noRoom_62 a_74 h11 rfl rfl eI12 ?_
  exact wp_vreturn dX11_noRoom_63 rfl rfl h

theorem sX11_write {Q : QT} {I : II} {R : RR} {a1 : Int} {a2 : Int} (h : wp (kN 89) mX11_write Q 0 [vR 68, vI a1, vL a2, none, none] [] I R 89) : Spec mX11_write [vR 68, vI a1, vL a2] I R 89 89 Q := Spec_of_wp pyX11_write rfl (Nat.le_of_ble_eq_true rfl) (Nat.le_refl _) (by decide) h

set_option maxRecDepth 4000 in
theorem gX11_write_0 {Q : QT} {I : II} {R : RR} (hR : SR R) {a1 : Int} {a2 : Int}
    (h : (InI a1) ∧
      (((1 : Int) ≤ a1 ∧ a1 ≤ (8 : Int) →
      (InI ((I 68 0) + a1)) ∧
      ((((I 68 0) + a1) ≤ (300 : Int) →
      wp (kN 89) mX11_write Q 34 [vR 68, none, vL a2, none, vI (a1 - 1)] [] I R 89) ∧ (¬ ((I 68 0) + a1) ≤ (300 : Int) →
      Q (vI (-3)) I R))) ∧ (¬ ((1 : Int) ≤ a1 ∧ a1 ≤ (8 : Int)) →
      Q (vI (-1)) I R))) : wp (kN 89) mX11_write Q 0 [vR 68, vI a1, vL a2, none, none] [] I R 89 := by
  refine wp_iload_n (pc' := 1) (q := 1) (i := 1) rfl rfl dX11_write_0 rfl ?_
  obtain ⟨h1, h⟩ := h
  refine wp_i2l (pc' := 2) h1 dX11_write_1 rfl ?_
  refine wp_lconst (pc' := 3) dX11_write_2 rfl ?_
  refine wp_ldc2 (pc' := 6) (x := 8) lcX11_77 (by decide +kernel) dX11_write_3 rfl ?_
  refine wp_callS (pc' := 9) (as := [vL a1, vL 1, vL 8]) (rest := []) (pX11_in (by decide) (inL_of h1) ⟨by decide, by decide⟩ ⟨by decide, by decide⟩) dX11_write_6 rfl lkX11_79 okX11_in stX11_in ⟨Nat.le_of_ble_eq_true rfl, Nat.le_of_ble_eq_true rfl⟩ (Nat.le_of_ble_eq_true rfl) (Nat.le_refl _) (Nat.le_refl _) okP_eq okP_eq rfl (rvZ rfl (fun x2 I2 R2 hz2 hq2 => ?_))
  obtain ⟨eR2, eI2, ex2⟩ := hq2; subst eR2; subst eI2; cases ex2
  by_cases hc : (1 : Int) ≤ a1 ∧ a1 ≤ (8 : Int)
  · rw [if_pos hc]; have h := h.1 hc
    refine wp_if_ne (pc' := 12) (tgt := 14) ⟨by decide, by decide⟩ dX11_write_9 rfl rfl (fun hc => ?_) (fun hc => by exfalso; revert hc; decide)
    refine wp_aload_n (pc' := 15) (q := 0) (i := 0) rfl rfl dX11_write_14 rfl ?_
    refine wp_getI (pc' := 18) (k := 0) dX11_write_15 vc10 (by decide) rfl lfX11_83 o_68 rfl ?_
    refine wp_iload_n (pc' := 19) (q := 1) (i := 1) rfl rfl dX11_write_18 rfl ?_
    refine wp_iadd (pc' := 20) dX11_write_19 rfl ?_
    refine wp_sipush (pc' := 23) (by decide) dX11_write_20 rfl ?_
    obtain ⟨h3, h⟩ := h
    refine wp_icmp_le (pc' := 26) (tgt := 29) h3 ⟨by decide, by decide⟩ dX11_write_23 rfl rfl (fun hc => ?_) (fun hc => ?_)
    · have h := h.1 hc
      refine wp_iload_n (pc' := 30) (q := 1) (i := 1) rfl rfl dX11_write_29 rfl ?_
      refine wp_iconst (pc' := 31) dX11_write_30 rfl ?_
      refine wp_isub (pc' := 32) dX11_write_31 rfl ?_
      refine wp_istore (pc' := 34) (i := 4) (L' := [vR 68, vI a1, vL a2, none, vI (a1 - 1)]) (by decide) rfl dX11_write_32 rfl rfl ?_
      exact wp_dropP (leP_s (leP_d (leP_s (leP_s (leP_s leP_n))))) h
    · have h := h.2 hc
      refine wp_bipush (pc' := 28) (by decide) dX11_write_26 rfl ?_
      exact wp_ireturn dX11_write_28 rfl rfl h
  · rw [if_neg hc]; have h := h.2 hc
    refine wp_if_ne (pc' := 12) (tgt := 14) ⟨by decide, by decide⟩ dX11_write_9 rfl rfl (fun hc => by exfalso; revert hc; decide) (fun hc => ?_)
    refine wp_iconst (pc' := 13) dX11_write_12 rfl ?_
    exact wp_ireturn dX11_write_13 rfl rfl h

set_option maxRecDepth 4000 in
theorem gX11_write_34 {Q : QT} {I : II} {R : RR} (hR : SR R) {a2 : Int} {a4 : Int}
    (h : (InI a4) ∧
      ((a4 < 0 →
      Q (vI (I 68 0)) I R) ∧ (¬ (a4 < 0) →
      (0 ≤ (I 68 0) ∧ (I 68 0) < 300) ∧
      (∀ I3 : II, I3 = up2 I 69 ((I 68 0).toNat) ((i64 ((i64 a2 >>> ((i32 (8 * a4)).toInt64 &&& 63)).toInt) &&& i64 255).toInt) →
      (∀ I4 : II, I4 = up2 I3 68 0 ((I3 68 0) + 1) →
      wp (kN 89) mX11_write Q 34 [vR 68, none, vL a2, none, vI (a4 + (-1))] [] I4 R 89))))) : wp (kN 89) mX11_write Q 34 [vR 68, none, vL a2, none, vI a4] [] I R 89 := by
  refine wp_iload (pc' := 36) (i := 4) rfl dX11_write_34 rfl ?_
  obtain ⟨h1, h⟩ := h
  refine wp_if_lt (pc' := 39) (tgt := 76) h1 dX11_write_36 rfl rfl (fun hc => ?_) (fun hc => ?_)
  · have h := h.1 hc
    refine wp_aload_n (pc' := 77) (q := 0) (i := 0) rfl rfl dX11_write_76 rfl ?_
    refine wp_getI (pc' := 80) (k := 0) dX11_write_77 vc10 (by decide) rfl lfX11_83 o_68 rfl ?_
    exact wp_ireturn dX11_write_80 rfl rfl h
  · have h := h.2 hc
    refine wp_aload_n (pc' := 40) (q := 0) (i := 0) rfl rfl dX11_write_39 rfl ?_
    refine wp_getRc (pc' := 43) (k := 1) (j := 69) dX11_write_40 vc10 (by decide) rfl lfX11_7 o_68 (r_68_1 hR) rfl ?_
    refine wp_aload_n (pc' := 44) (q := 0) (i := 0) rfl rfl dX11_write_43 rfl ?_
    refine wp_getI (pc' := 47) (k := 0) dX11_write_44 vc10 (by decide) rfl lfX11_83 o_68 rfl ?_
    refine wp_lload_n (pc' := 48) (q := 2) (i := 2) rfl rfl dX11_write_47 rfl ?_
    refine wp_bipush (pc' := 50) (by decide) dX11_write_48 rfl ?_
    refine wp_iload (pc' := 52) (i := 4) rfl dX11_write_50 rfl ?_
    refine wp_imul (pc' := 53) dX11_write_52 rfl ?_
    refine wp_lshr (pc' := 54) dX11_write_53 rfl ?_
    refine wp_ldc2 (pc' := 57) (x := 255) lcX11_87 (by decide +kernel) dX11_write_54 rfl ?_
    refine wp_land (pc' := 58) dX11_write_57 rfl ?_
    refine wp_l2i (pc' := 59) dX11_write_58 rfl ?_
    obtain ⟨h2, h⟩ := h
    obtain ⟨I3, eI3⟩ : ∃ z : II, z = up2 I 69 ((I 68 0).toNat) ((i64 ((i64 a2 >>> ((i32 (8 * a4)).toInt64 &&& 63)).toInt) &&& i64 255).toInt) := ⟨_, rfl⟩
    have h := h I3 eI3
    refine wp_iast (pc' := 60) (j := (I 68 0).toNat) (I' := I3) dX11_write_59 a_69 h2 rfl rfl eI3 ?_
    refine wp_aload_n (pc' := 61) (q := 0) (i := 0) rfl rfl dX11_write_60 rfl ?_
    refine wp_dupR (pc' := 62) dX11_write_61 rfl ?_
    refine wp_getI (pc' := 65) (k := 0) dX11_write_62 vc10 (by decide) rfl lfX11_83 o_68 rfl ?_
    refine wp_iconst (pc' := 66) dX11_write_65 rfl ?_
    refine wp_iadd (pc' := 67) dX11_write_66 rfl ?_
    obtain ⟨I4, eI4⟩ : ∃ z : II, z = up2 I3 68 0 ((I3 68 0) + 1) := ⟨_, rfl⟩
    have h := h I4 eI4
    refine wp_putI (pc' := 70) (k := 0) (I' := I4) dX11_write_67 vc10 (by decide) rfl rfl (tyX11_ok 0 (by decide)) lfX11_83 o_68 rfl eI4 ?_
    refine wp_iinc (pc' := 73) (i := 4) (L' := [vR 68, none, vL a2, none, vI (a4 + (-1))]) rfl (by decide) rfl dX11_write_70 rfl rfl ?_
    refine wp_goto (tgt := 34) dX11_write_73 rfl ?_
    exact h

theorem sX11_wipe {Q : QT} {I : II} {R : RR}  (h : wp (kN 89) mX11_wipe Q 0 [vR 68, none] [] I R 89) : Spec mX11_wipe [vR 68] I R 89 89 Q := Spec_of_wp pyX11_wipe rfl (Nat.le_of_ble_eq_true rfl) (Nat.le_refl _) (by decide) h

set_option maxRecDepth 4000 in
theorem gX11_wipe_0 {Q : QT} {I : II} {R : RR} (hR : SR R) 
    (h : (∀ I1 : II, I1 = up2 I 68 0 0 →
      Q (vI (I 68 0)) I1 R)) : wp (kN 89) mX11_wipe Q 0 [vR 68, none] [] I R 89 := by
  refine wp_aload_n (pc' := 1) (q := 0) (i := 0) rfl rfl dX11_wipe_0 rfl ?_
  refine wp_getI (pc' := 4) (k := 0) dX11_wipe_1 vc10 (by decide) rfl lfX11_83 o_68 rfl ?_
  refine wp_istore_n (pc' := 5) (q := 1) (i := 1) (L' := [vR 68, vI (I 68 0)]) rfl (by decide) rfl dX11_wipe_4 rfl rfl ?_
  refine wp_aload_n (pc' := 6) (q := 0) (i := 0) rfl rfl dX11_wipe_5 rfl ?_
  refine wp_iconst (pc' := 7) dX11_wipe_6 rfl ?_
  obtain ⟨I1, eI1⟩ : ∃ z : II, z = up2 I 68 0 0 := ⟨_, rfl⟩
  have h := h I1 eI1
  refine wp_putI (pc' := 10) (k := 0) (I' := I1) dX11_wipe_7 vc10 (by decide) rfl rfl (tyX11_ok 0 (by decide)) lfX11_83 o_68 rfl eI1 ?_
  refine wp_iload_n (pc' := 11) (q := 1) (i := 1) rfl rfl dX11_wipe_10 rfl ?_
  exact wp_ireturn dX11_wipe_11 rfl rfl h

theorem sX11_figures {Q : QT} {I : II} {R : RR} {a1 : Int} (h : wp (kN 89) mX11_figures Q 0 [vR 68, vI a1, none, none, none] [] I R 89) : Spec mX11_figures [vR 68, vI a1] I R 89 89 Q := Spec_of_wp pyX11_figures rfl (Nat.le_of_ble_eq_true rfl) (Nat.le_refl _) (by decide) h

set_option maxRecDepth 4000 in
theorem gX11_figures_0 {Q : QT} {I : II} {R : RR} (hR : SR R) {a1 : Int}
    (h : wp (kN 89) mX11_figures Q 2 [vR 68, vI a1, vI 0, none, none] [] I R 89) : wp (kN 89) mX11_figures Q 0 [vR 68, vI a1, none, none, none] [] I R 89 := by
  refine wp_iconst (pc' := 1) dX11_figures_0 rfl ?_
  refine wp_istore_n (pc' := 2) (q := 2) (i := 2) (L' := [vR 68, vI a1, vI 0, none, none]) rfl (by decide) rfl dX11_figures_1 rfl rfl ?_
  exact h

set_option maxRecDepth 4000 in
theorem gX11_figures_2 {Q : QT} {I : II} {R : RR} (hR : SR R) {a1 : Int} {a2 : Int}
    (h : (InI a2) ∧
      (InI a1) ∧
      ((a1 ≤ a2 →
      Q (vI 1) I R) ∧ (¬ (a1 ≤ a2) →
      wp (kN 89) mX11_figures Q 12 [vR 68, vI a1, vI a2, vI 0, vI 0] [] I R 89))) : wp (kN 89) mX11_figures Q 2 [vR 68, vI a1, vI a2, none, none] [] I R 89 := by
  refine wp_iload_n (pc' := 3) (q := 2) (i := 2) rfl rfl dX11_figures_2 rfl ?_
  refine wp_iload_n (pc' := 4) (q := 1) (i := 1) rfl rfl dX11_figures_3 rfl ?_
  obtain ⟨h1, h⟩ := h
  obtain ⟨h2, h⟩ := h
  refine wp_icmp_ge (pc' := 7) (tgt := 136) h1 h2 dX11_figures_4 rfl rfl (fun hc => ?_) (fun hc => ?_)
  · have h := h.1 hc
    refine wp_iconst (pc' := 137) dX11_figures_136 rfl ?_
    exact wp_zreturn dX11_figures_137 rfl rfl (Or.inr rfl) h
  · have h := h.2 hc
    refine wp_iconst (pc' := 8) dX11_figures_7 rfl ?_
    refine wp_istore_n (pc' := 9) (q := 3) (i := 3) (L' := [vR 68, vI a1, vI a2, vI 0, none]) rfl (by decide) rfl dX11_figures_8 rfl rfl ?_
    refine wp_iconst (pc' := 10) dX11_figures_9 rfl ?_
    refine wp_istore (pc' := 12) (i := 4) (L' := [vR 68, vI a1, vI a2, vI 0, vI 0]) (by decide) rfl dX11_figures_10 rfl rfl ?_
    exact h

set_option maxRecDepth 4000 in
theorem gX11_figures_12 {Q : QT} {I : II} {R : RR} (hR : SR R) {a1 : Int} {a2 : Int} {a3 : Int} {a4 : Int}
    (h : (InI (I 68 14)) ∧
      (InI (I 68 0)) ∧
      (0 ≤ (I 68 14) ∧ ((I 68 14) < I 68 0 → (I 68 14) < 300)) ∧
      (InI (if (I 68 14) < I 68 0 then I 69 ((I 68 14)).toNat else 0)) ∧
      (((48 : Int) ≤ (if (I 68 14) < I 68 0 then I 69 ((I 68 14)).toNat else 0) ∧ (if (I 68 14) < I 68 0 then I 69 ((I 68 14)).toNat else 0) ≤ (57 : Int) →
      (InI a3) ∧
      (((4 : Int) ≤ a3 →
      wp (kN 89) mX11_figures Q 73 [vR 68, vI a1, vI a2, vI a3, vI a4] [] I R 89) ∧ (¬ (4 : Int) ≤ a3 →
      (∀ I9 : II, I9 = up2 I 68 14 ((I 68 14) + 1) →
      wp (kN 89) mX11_figures Q 12 [vR 68, vI a1, vI a2, vI (a3 + 1), vI (((10 * a4) + (if (I 68 14) < I 68 0 then I 69 ((I 68 14)).toNat else 0)) - 48)] [] I9 R 89)))) ∧ (¬ ((48 : Int) ≤ (if (I 68 14) < I 68 0 then I 69 ((I 68 14)).toNat else 0) ∧ (if (I 68 14) < I 68 0 then I 69 ((I 68 14)).toNat else 0) ≤ (57 : Int)) →
      wp (kN 89) mX11_figures Q 73 [vR 68, vI a1, vI a2, vI a3, vI a4] [] I R 89))) : wp (kN 89) mX11_figures Q 12 [vR 68, vI a1, vI a2, vI a3, vI a4] [] I R 89 := by
  refine wp_aload_n (pc' := 13) (q := 0) (i := 0) rfl rfl dX11_figures_12 rfl ?_
  refine wp_aload_n (pc' := 14) (q := 0) (i := 0) rfl rfl dX11_figures_13 rfl ?_
  refine wp_getI (pc' := 17) (k := 14) dX11_figures_14 vc10 (by decide) rfl lfX11_89 o_68 rfl ?_
  obtain ⟨h2, h⟩ := h
  obtain ⟨h3, h⟩ := h
  obtain ⟨h4, h⟩ := h
  refine wp_callV (pc' := 20) (as := [vI (I 68 14)]) (rest := []) (pX11_byteAt hR h2 h3 h4) dX11_figures_17 rfl lkX11_92 okX11_byteAt inX11_byteAt seX11_byteAt o_68 vc10 ⟨Nat.le_of_ble_eq_true rfl, Nat.le_of_ble_eq_true rfl⟩ (Nat.le_of_ble_eq_true rfl) (Nat.le_refl _) (Nat.le_refl _) okP_eq okP_eq rfl (rvI rfl (fun x1 I1 R1 hq1 => ?_))
  obtain ⟨eR1, eI1, ex1⟩ := hq1; subst eR1; subst eI1; cases ex1
  obtain ⟨h5, h⟩ := h
  refine wp_i2l (pc' := 21) h5 dX11_figures_20 rfl ?_
  refine wp_ldc2 (pc' := 24) (x := 48) lcX11_96 (by decide +kernel) dX11_figures_21 rfl ?_
  refine wp_ldc2 (pc' := 27) (x := 57) lcX11_98 (by decide +kernel) dX11_figures_24 rfl ?_
  refine wp_callS (pc' := 30) (as := [vL (if (I 68 14) < I 68 0 then I 69 ((I 68 14)).toNat else 0), vL 48, vL 57]) (rest := []) (pX11_in (by decide) (inL_of h5) ⟨by decide, by decide⟩ ⟨by decide, by decide⟩) dX11_figures_27 rfl lkX11_79 okX11_in stX11_in ⟨Nat.le_of_ble_eq_true rfl, Nat.le_of_ble_eq_true rfl⟩ (Nat.le_of_ble_eq_true rfl) (Nat.le_refl _) (Nat.le_refl _) okP_eq okP_eq rfl (rvZ rfl (fun x6 I6 R6 hz6 hq6 => ?_))
  obtain ⟨eR6, eI6, ex6⟩ := hq6; subst eR6; subst eI6; cases ex6
  by_cases hc : (48 : Int) ≤ (if (I 68 14) < I 68 0 then I 69 ((I 68 14)).toNat else 0) ∧ (if (I 68 14) < I 68 0 then I 69 ((I 68 14)).toNat else 0) ≤ (57 : Int)
  · rw [if_pos hc]; have h := h.1 hc
    refine wp_if_eq (pc' := 33) (tgt := 73) ⟨by decide, by decide⟩ dX11_figures_30 rfl rfl (fun hc => by exfalso; revert hc; decide) (fun hc => ?_)
    refine wp_iload_n (pc' := 34) (q := 3) (i := 3) rfl rfl dX11_figures_33 rfl ?_
    refine wp_iconst (pc' := 35) dX11_figures_34 rfl ?_
    obtain ⟨h7, h⟩ := h
    refine wp_icmp_ge (pc' := 38) (tgt := 73) h7 ⟨by decide, by decide⟩ dX11_figures_35 rfl rfl (fun hc => ?_) (fun hc => ?_)
    · have h := h.1 hc
      exact h
    · have h := h.2 hc
      refine wp_bipush (pc' := 40) (by decide) dX11_figures_38 rfl ?_
      refine wp_iload (pc' := 42) (i := 4) rfl dX11_figures_40 rfl ?_
      refine wp_imul (pc' := 43) dX11_figures_42 rfl ?_
      refine wp_aload_n (pc' := 44) (q := 0) (i := 0) rfl rfl dX11_figures_43 rfl ?_
      refine wp_aload_n (pc' := 45) (q := 0) (i := 0) rfl rfl dX11_figures_44 rfl ?_
      refine wp_getI (pc' := 48) (k := 14) dX11_figures_45 vc10 (by decide) rfl lfX11_89 o_68 rfl ?_
      refine wp_callV (pc' := 51) (as := [vI (I 68 14)]) (rest := [vI (10 * a4)]) (pX11_byteAt hR h2 h3 h4) dX11_figures_48 rfl lkX11_92 okX11_byteAt inX11_byteAt seX11_byteAt o_68 vc10 ⟨Nat.le_of_ble_eq_true rfl, Nat.le_of_ble_eq_true rfl⟩ (Nat.le_of_ble_eq_true rfl) (Nat.le_refl _) (Nat.le_refl _) okP_eq okP_eq rfl (rvI rfl (fun x8 I8 R8 hq8 => ?_))
      obtain ⟨eR8, eI8, ex8⟩ := hq8; subst eR8; subst eI8; cases ex8
      refine wp_iadd (pc' := 52) dX11_figures_51 rfl ?_
      refine wp_bipush (pc' := 54) (by decide) dX11_figures_52 rfl ?_
      refine wp_isub (pc' := 55) dX11_figures_54 rfl ?_
      refine wp_istore (pc' := 57) (i := 4) (L' := [vR 68, vI a1, vI a2, vI a3, vI (((10 * a4) + (if (I 68 14) < I 68 0 then I 69 ((I 68 14)).toNat else 0)) - 48)]) (by decide) rfl dX11_figures_55 rfl rfl ?_
      refine wp_iinc (pc' := 60) (i := 3) (L' := [vR 68, vI a1, vI a2, vI (a3 + 1), vI (((10 * a4) + (if (I 68 14) < I 68 0 then I 69 ((I 68 14)).toNat else 0)) - 48)]) rfl (by decide) rfl dX11_figures_57 rfl rfl ?_
      refine wp_aload_n (pc' := 61) (q := 0) (i := 0) rfl rfl dX11_figures_60 rfl ?_
      refine wp_dupR (pc' := 62) dX11_figures_61 rfl ?_
      refine wp_getI (pc' := 65) (k := 14) dX11_figures_62 vc10 (by decide) rfl lfX11_89 o_68 rfl ?_
      refine wp_iconst (pc' := 66) dX11_figures_65 rfl ?_
      refine wp_iadd (pc' := 67) dX11_figures_66 rfl ?_
      obtain ⟨I9, eI9⟩ : ∃ z : II, z = up2 I 68 14 ((I 68 14) + 1) := ⟨_, rfl⟩
      have h := h I9 eI9
      refine wp_putI (pc' := 70) (k := 14) (I' := I9) dX11_figures_67 vc10 (by decide) rfl rfl (tyX11_ok 14 (by decide)) lfX11_89 o_68 rfl eI9 ?_
      refine wp_goto (tgt := 12) dX11_figures_70 rfl ?_
      exact h
  · rw [if_neg hc]; have h := h.2 hc
    refine wp_if_eq (pc' := 33) (tgt := 73) ⟨by decide, by decide⟩ dX11_figures_30 rfl rfl (fun hc => ?_) (fun hc => by exfalso; revert hc; decide)
    exact h

set_option maxRecDepth 4000 in
theorem gX11_figures_73 {Q : QT} {I : II} {R : RR} (hR : SR R) {a1 : Int} {a2 : Int} {a3 : Int} {a4 : Int}
    (h : (InI a3) ∧
      (((1 : Int) ≤ a3 ∧ a3 ≤ (3 : Int) →
      (InI (I 68 14)) ∧
      (InI (I 68 0)) ∧
      (0 ≤ (I 68 14) ∧ ((I 68 14) < I 68 0 → (I 68 14) < 300)) ∧
      (InI a2) ∧
      (InI (a1 - 1)) ∧
      (((a1 - 1) ≤ a2 →
      (InI (if (I 68 14) < I 68 0 then I 69 ((I 68 14)).toNat else 0)) ∧
      (((if (I 68 14) < I 68 0 then I 69 ((I 68 14)).toNat else 0) = (59 : Int) →
      (0 ≤ a2 ∧ a2 < 2) ∧
      (∀ I11 : II, I11 = up2 I 81 (a2.toNat) a4 →
      (∀ I12 : II, I12 = up2 I11 68 14 ((I11 68 14) + 1) →
      wp (kN 89) mX11_figures Q 2 [vR 68, vI a1, vI (a2 + 1), none, none] [] I12 R 89))) ∧ (¬ (if (I 68 14) < I 68 0 then I 69 ((I 68 14)).toNat else 0) = (59 : Int) →
      wp (kN 89) mX11_figures Q 110 [none, none, none, none, none] [] I R 89))) ∧ (¬ (a1 - 1) ≤ a2 →
      (InI (if (I 68 14) < I 68 0 then I 69 ((I 68 14)).toNat else 0)) ∧
      (((if (I 68 14) < I 68 0 then I 69 ((I 68 14)).toNat else 0) = (44 : Int) →
      (0 ≤ a2 ∧ a2 < 2) ∧
      (∀ I15 : II, I15 = up2 I 81 (a2.toNat) a4 →
      (∀ I16 : II, I16 = up2 I15 68 14 ((I15 68 14) + 1) →
      wp (kN 89) mX11_figures Q 2 [vR 68, vI a1, vI (a2 + 1), none, none] [] I16 R 89))) ∧ (¬ (if (I 68 14) < I 68 0 then I 69 ((I 68 14)).toNat else 0) = (44 : Int) →
      wp (kN 89) mX11_figures Q 110 [none, none, none, none, none] [] I R 89))))) ∧ (¬ ((1 : Int) ≤ a3 ∧ a3 ≤ (3 : Int)) →
      wp (kN 89) mX11_figures Q 110 [none, none, none, none, none] [] I R 89))) : wp (kN 89) mX11_figures Q 73 [vR 68, vI a1, vI a2, vI a3, vI a4] [] I R 89 := by
  refine wp_iload_n (pc' := 74) (q := 3) (i := 3) rfl rfl dX11_figures_73 rfl ?_
  obtain ⟨h1, h⟩ := h
  refine wp_i2l (pc' := 75) h1 dX11_figures_74 rfl ?_
  refine wp_lconst (pc' := 76) dX11_figures_75 rfl ?_
  refine wp_ldc2 (pc' := 79) (x := 3) lcX11_100 (by decide +kernel) dX11_figures_76 rfl ?_
  refine wp_callS (pc' := 82) (as := [vL a3, vL 1, vL 3]) (rest := []) (pX11_in (by decide) (inL_of h1) ⟨by decide, by decide⟩ ⟨by decide, by decide⟩) dX11_figures_79 rfl lkX11_79 okX11_in stX11_in ⟨Nat.le_of_ble_eq_true rfl, Nat.le_of_ble_eq_true rfl⟩ (Nat.le_of_ble_eq_true rfl) (Nat.le_refl _) (Nat.le_refl _) okP_eq okP_eq rfl (rvZ rfl (fun x2 I2 R2 hz2 hq2 => ?_))
  obtain ⟨eR2, eI2, ex2⟩ := hq2; subst eR2; subst eI2; cases ex2
  by_cases hc : (1 : Int) ≤ a3 ∧ a3 ≤ (3 : Int)
  · rw [if_pos hc]; have h := h.1 hc
    refine wp_if_eq (pc' := 85) (tgt := 110) ⟨by decide, by decide⟩ dX11_figures_82 rfl rfl (fun hc => by exfalso; revert hc; decide) (fun hc => ?_)
    refine wp_aload_n (pc' := 86) (q := 0) (i := 0) rfl rfl dX11_figures_85 rfl ?_
    refine wp_aload_n (pc' := 87) (q := 0) (i := 0) rfl rfl dX11_figures_86 rfl ?_
    refine wp_getI (pc' := 90) (k := 14) dX11_figures_87 vc10 (by decide) rfl lfX11_89 o_68 rfl ?_
    obtain ⟨h4, h⟩ := h
    obtain ⟨h5, h⟩ := h
    obtain ⟨h6, h⟩ := h
    refine wp_callV (pc' := 93) (as := [vI (I 68 14)]) (rest := []) (pX11_byteAt hR h4 h5 h6) dX11_figures_90 rfl lkX11_92 okX11_byteAt inX11_byteAt seX11_byteAt o_68 vc10 ⟨Nat.le_of_ble_eq_true rfl, Nat.le_of_ble_eq_true rfl⟩ (Nat.le_of_ble_eq_true rfl) (Nat.le_refl _) (Nat.le_refl _) okP_eq okP_eq rfl (rvI rfl (fun x3 I3 R3 hq3 => ?_))
    obtain ⟨eR3, eI3, ex3⟩ := hq3; subst eR3; subst eI3; cases ex3
    refine wp_iload_n (pc' := 94) (q := 2) (i := 2) rfl rfl dX11_figures_93 rfl ?_
    refine wp_iload_n (pc' := 95) (q := 1) (i := 1) rfl rfl dX11_figures_94 rfl ?_
    refine wp_iconst (pc' := 96) dX11_figures_95 rfl ?_
    refine wp_isub (pc' := 97) dX11_figures_96 rfl ?_
    obtain ⟨h7, h⟩ := h
    obtain ⟨h8, h⟩ := h
    refine wp_icmp_ge (pc' := 100) (tgt := 105) h7 h8 dX11_figures_97 rfl rfl (fun hc => ?_) (fun hc => ?_)
    · have h := h.1 hc
      refine wp_bipush (pc' := 107) (by decide) dX11_figures_105 rfl ?_
      obtain ⟨h9, h⟩ := h
      refine wp_icmp_eq (pc' := 110) (tgt := 112) h9 ⟨by decide, by decide⟩ dX11_figures_107 rfl rfl (fun hc => ?_) (fun hc => ?_)
      · have h := h.1 hc
        refine wp_aload_n (pc' := 113) (q := 0) (i := 0) rfl rfl dX11_figures_112 rfl ?_
        refine wp_getRc (pc' := 116) (k := 15) (j := 81) dX11_figures_113 vc10 (by decide) rfl lfX11_46 o_68 (r_68_15 hR) rfl ?_
        refine wp_iload_n (pc' := 117) (q := 2) (i := 2) rfl rfl dX11_figures_116 rfl ?_
        refine wp_iload (pc' := 119) (i := 4) rfl dX11_figures_117 rfl ?_
        obtain ⟨h10, h⟩ := h
        obtain ⟨I11, eI11⟩ : ∃ z : II, z = up2 I 81 (a2.toNat) a4 := ⟨_, rfl⟩
        have h := h I11 eI11
        refine wp_iast (pc' := 120) (j := a2.toNat) (I' := I11) dX11_figures_119 a_81 h10 rfl rfl eI11 ?_
        refine wp_aload_n (pc' := 121) (q := 0) (i := 0) rfl rfl dX11_figures_120 rfl ?_
        refine wp_dupR (pc' := 122) dX11_figures_121 rfl ?_
        refine wp_getI (pc' := 125) (k := 14) dX11_figures_122 vc10 (by decide) rfl lfX11_89 o_68 rfl ?_
        refine wp_iconst (pc' := 126) dX11_figures_125 rfl ?_
        refine wp_iadd (pc' := 127) dX11_figures_126 rfl ?_
        obtain ⟨I12, eI12⟩ : ∃ z : II, z = up2 I11 68 14 ((I11 68 14) + 1) := ⟨_, rfl⟩
        have h := h I12 eI12
        refine wp_putI (pc' := 130) (k := 14) (I' := I12) dX11_figures_127 vc10 (by decide) rfl rfl (tyX11_ok 14 (by decide)) lfX11_89 o_68 rfl eI12 ?_
        refine wp_iinc (pc' := 133) (i := 2) (L' := [vR 68, vI a1, vI (a2 + 1), vI a3, vI a4]) rfl (by decide) rfl dX11_figures_130 rfl rfl ?_
        refine wp_goto (tgt := 2) dX11_figures_133 rfl ?_
        exact wp_dropP (leP_s (leP_s (leP_s (leP_d (leP_d leP_n))))) h
      · have h := h.2 hc
        exact wp_dropP (leP_d (leP_d (leP_d (leP_d (leP_d leP_n))))) h
    · have h := h.2 hc
      refine wp_bipush (pc' := 102) (by decide) dX11_figures_100 rfl ?_
      refine wp_goto (tgt := 107) dX11_figures_102 rfl ?_
      obtain ⟨h13, h⟩ := h
      refine wp_icmp_eq (pc' := 110) (tgt := 112) h13 ⟨by decide, by decide⟩ dX11_figures_107 rfl rfl (fun hc => ?_) (fun hc => ?_)
      · have h := h.1 hc
        refine wp_aload_n (pc' := 113) (q := 0) (i := 0) rfl rfl dX11_figures_112 rfl ?_
        refine wp_getRc (pc' := 116) (k := 15) (j := 81) dX11_figures_113 vc10 (by decide) rfl lfX11_46 o_68 (r_68_15 hR) rfl ?_
        refine wp_iload_n (pc' := 117) (q := 2) (i := 2) rfl rfl dX11_figures_116 rfl ?_
        refine wp_iload (pc' := 119) (i := 4) rfl dX11_figures_117 rfl ?_
        obtain ⟨h14, h⟩ := h
        obtain ⟨I15, eI15⟩ : ∃ z : II, z = up2 I 81 (a2.toNat) a4 := ⟨_, rfl⟩
        have h := h I15 eI15
        refine wp_iast (pc' := 120) (j := a2.toNat) (I' := I15) dX11_figures_119 a_81 h14 rfl rfl eI15 ?_
        refine wp_aload_n (pc' := 121) (q := 0) (i := 0) rfl rfl dX11_figures_120 rfl ?_
        refine wp_dupR (pc' := 122) dX11_figures_121 rfl ?_
        refine wp_getI (pc' := 125) (k := 14) dX11_figures_122 vc10 (by decide) rfl lfX11_89 o_68 rfl ?_
        refine wp_iconst (pc' := 126) dX11_figures_125 rfl ?_
        refine wp_iadd (pc' := 127) dX11_figures_126 rfl ?_
        obtain ⟨I16, eI16⟩ : ∃ z : II, z = up2 I15 68 14 ((I15 68 14) + 1) := ⟨_, rfl⟩
        have h := h I16 eI16
        refine wp_putI (pc' := 130) (k := 14) (I' := I16) dX11_figures_127 vc10 (by decide) rfl rfl (tyX11_ok 14 (by decide)) lfX11_89 o_68 rfl eI16 ?_
        refine wp_iinc (pc' := 133) (i := 2) (L' := [vR 68, vI a1, vI (a2 + 1), vI a3, vI a4]) rfl (by decide) rfl dX11_figures_130 rfl rfl ?_
        refine wp_goto (tgt := 2) dX11_figures_133 rfl ?_
        exact wp_dropP (leP_s (leP_s (leP_s (leP_d (leP_d leP_n))))) h
      · have h := h.2 hc
        exact wp_dropP (leP_d (leP_d (leP_d (leP_d (leP_d leP_n))))) h
  · rw [if_neg hc]; have h := h.2 hc
    refine wp_if_eq (pc' := 85) (tgt := 110) ⟨by decide, by decide⟩ dX11_figures_82 rfl rfl (fun hc => ?_) (fun hc => by exfalso; revert hc; decide)
    exact wp_dropP (leP_d (leP_d (leP_d (leP_d (leP_d leP_n))))) h

set_option maxRecDepth 4000 in
theorem gX11_figures_110 {Q : QT} {I : II} {R : RR} (hR : SR R) 
    (h : Q (vI 0) I R) : wp (kN 89) mX11_figures Q 110 [none, none, none, none, none] [] I R 89 := by
  refine wp_iconst (pc' := 111) dX11_figures_110 rfl ?_
  exact wp_zreturn dX11_figures_111 rfl rfl (Or.inl rfl) h

theorem sX11_readMany {Q : QT} {I : II} {R : RR} {a1 : Int} (h : wp (kN 89) mX11_readMany Q 0 [vR 68, vI a1, none, none] [] I R 89) : Spec mX11_readMany [vR 68, vI a1] I R 89 89 Q := Spec_of_wp pyX11_readMany rfl (Nat.le_of_ble_eq_true rfl) (Nat.le_refl _) (by decide) h

set_option maxRecDepth 4000 in
theorem gX11_readMany_0 {Q : QT} {I : II} {R : RR} (hR : SR R) {a1 : Int}
    (h : wp (kN 89) mX11_readMany Q 4 [vR 68, vI a1, vI 0, vI 0] [] I R 89) : wp (kN 89) mX11_readMany Q 0 [vR 68, vI a1, none, none] [] I R 89 := by
  refine wp_iconst (pc' := 1) dX11_readMany_0 rfl ?_
  refine wp_istore_n (pc' := 2) (q := 2) (i := 2) (L' := [vR 68, vI a1, vI 0, none]) rfl (by decide) rfl dX11_readMany_1 rfl rfl ?_
  refine wp_iconst (pc' := 3) dX11_readMany_2 rfl ?_
  refine wp_istore_n (pc' := 4) (q := 3) (i := 3) (L' := [vR 68, vI a1, vI 0, vI 0]) rfl (by decide) rfl dX11_readMany_3 rfl rfl ?_
  exact h

set_option maxRecDepth 4000 in
theorem gX11_readMany_4 {Q : QT} {I : II} {R : RR} (hR : SR R) {a1 : Int} {a2 : Int} {a3 : Int}
    (h : (InI a3) ∧
      (InI (I 70 1)) ∧
      (((I 70 1) ≤ a3 →
      Q (vI a2) I R) ∧ (¬ (I 70 1) ≤ a3 →
      (0 ≤ (20 + a3) ∧ (20 + a3) < 40) ∧
      (InI (I 71 (20 + a3).toNat)) ∧
      (InI a1) ∧
      ((¬ (I 71 (20 + a3).toNat) = a1 →
      wp (kN 89) mX11_readMany Q 4 [vR 68, vI a1, vI (a2 + 0), vI (a3 + 1)] [] I R 89) ∧ ((I 71 (20 + a3).toNat) = a1 →
      wp (kN 89) mX11_readMany Q 4 [vR 68, vI a1, vI (a2 + 1), vI (a3 + 1)] [] I R 89))))) : wp (kN 89) mX11_readMany Q 4 [vR 68, vI a1, vI a2, vI a3] [] I R 89 := by
  refine wp_iload_n (pc' := 5) (q := 3) (i := 3) rfl rfl dX11_readMany_4 rfl ?_
  refine wp_aload_n (pc' := 6) (q := 0) (i := 0) rfl rfl dX11_readMany_5 rfl ?_
  refine wp_getRc (pc' := 9) (k := 2) (j := 70) dX11_readMany_6 vc10 (by decide) rfl lfX11_13 o_68 (r_68_2 hR) rfl ?_
  refine wp_iconst (pc' := 10) dX11_readMany_9 rfl ?_
  refine wp_iald (pc' := 11) (j := 1) dX11_readMany_10 a_70 ⟨by decide, by decide⟩ rfl rfl ?_
  obtain ⟨h1, h⟩ := h
  obtain ⟨h2, h⟩ := h
  refine wp_icmp_ge (pc' := 14) (tgt := 41) h1 h2 dX11_readMany_11 rfl rfl (fun hc => ?_) (fun hc => ?_)
  · have h := h.1 hc
    refine wp_iload_n (pc' := 42) (q := 2) (i := 2) rfl rfl dX11_readMany_41 rfl ?_
    exact wp_ireturn dX11_readMany_42 rfl rfl h
  · have h := h.2 hc
    refine wp_iload_n (pc' := 15) (q := 2) (i := 2) rfl rfl dX11_readMany_14 rfl ?_
    refine wp_aload_n (pc' := 16) (q := 0) (i := 0) rfl rfl dX11_readMany_15 rfl ?_
    refine wp_getRc (pc' := 19) (k := 3) (j := 71) dX11_readMany_16 vc10 (by decide) rfl lfX11_16 o_68 (r_68_3 hR) rfl ?_
    refine wp_bipush (pc' := 21) (by decide) dX11_readMany_19 rfl ?_
    refine wp_iload_n (pc' := 22) (q := 3) (i := 3) rfl rfl dX11_readMany_21 rfl ?_
    refine wp_iadd (pc' := 23) dX11_readMany_22 rfl ?_
    obtain ⟨h3, h⟩ := h
    refine wp_iald (pc' := 24) (j := (20 + a3).toNat) dX11_readMany_23 a_71 h3 rfl rfl ?_
    refine wp_iload_n (pc' := 25) (q := 1) (i := 1) rfl rfl dX11_readMany_24 rfl ?_
    obtain ⟨h4, h⟩ := h
    obtain ⟨h5, h⟩ := h
    refine wp_icmp_ne (pc' := 28) (tgt := 32) h4 h5 dX11_readMany_25 rfl rfl (fun hc => ?_) (fun hc => ?_)
    · have h := h.1 hc
      refine wp_iconst (pc' := 33) dX11_readMany_32 rfl ?_
      refine wp_iadd (pc' := 34) dX11_readMany_33 rfl ?_
      refine wp_istore_n (pc' := 35) (q := 2) (i := 2) (L' := [vR 68, vI a1, vI (a2 + 0), vI a3]) rfl (by decide) rfl dX11_readMany_34 rfl rfl ?_
      refine wp_iinc (pc' := 38) (i := 3) (L' := [vR 68, vI a1, vI (a2 + 0), vI (a3 + 1)]) rfl (by decide) rfl dX11_readMany_35 rfl rfl ?_
      refine wp_goto (tgt := 4) dX11_readMany_38 rfl ?_
      exact h
    · have h := h.2 hc
      refine wp_iconst (pc' := 29) dX11_readMany_28 rfl ?_
      refine wp_goto (tgt := 33) dX11_readMany_29 rfl ?_
      refine wp_iadd (pc' := 34) dX11_readMany_33 rfl ?_
      refine wp_istore_n (pc' := 35) (q := 2) (i := 2) (L' := [vR 68, vI a1, vI (a2 + 1), vI a3]) rfl (by decide) rfl dX11_readMany_34 rfl rfl ?_
      refine wp_iinc (pc' := 38) (i := 3) (L' := [vR 68, vI a1, vI (a2 + 1), vI (a3 + 1)]) rfl (by decide) rfl dX11_readMany_35 rfl rfl ?_
      refine wp_goto (tgt := 4) dX11_readMany_38 rfl ?_
      exact h

theorem sX11_personItem {Q : QT} {I : II} {R : RR} {a1 : Int} (h : wp (kN 89) mX11_personItem Q 0 [vR 68, vI a1] [] I R 89) : Spec mX11_personItem [vR 68, vI a1] I R 89 89 Q := Spec_of_wp pyX11_personItem rfl (Nat.le_of_ble_eq_true rfl) (Nat.le_refl _) (by decide) h

set_option maxRecDepth 4000 in
theorem gX11_personItem_0 {Q : QT} {I : II} {R : RR} (hR : SR R) {a1 : Int}
    (h : (∃ Q1 : QT, Spec mX11_figures [vR 68, vI 2] I R 89 89 Q1 ∧ (∀ x1 I1 R1, (x1 = 0 ∨ x1 = 1) → Q1 (vI x1) I1 R1 →
      R = R1 ∧ (InI x1) ∧
      ((x1 = 0 →
      wp (kN 89) mX11_personItem Q 39 [none, none] [] I1 R 89) ∧ (¬ (x1 = 0) →
      (∃ Q3 : QT, Spec mX11_readMany [vR 68, vI a1] I1 R 89 89 Q3 ∧ (∀ x3 I3 R3, Q3 (vI x3) I3 R3 →
      R = R3 ∧ (InI x3) ∧
      ((x3 = (10 : Int) →
      wp (kN 89) mX11_personItem Q 39 [none, none] [] I3 R 89) ∧ (¬ (x3 = (10 : Int)) →
      (InI (I3 81 0)) ∧
      (((99 : Int) < (I3 81 0) →
      wp (kN 89) mX11_personItem Q 39 [none, none] [] I3 R 89) ∧ (¬ (99 : Int) < (I3 81 0) →
      (InI (I3 81 1)) ∧
      (((I3 81 1) ≤ (5 : Int) →
      (0 ≤ (20 + (I3 70 1)) ∧ (20 + (I3 70 1)) < 40) ∧
      (∀ I8 : II, I8 = up2 I3 71 ((20 + (I3 70 1)).toNat) a1 →
      (0 ≤ (20 + (I8 70 1)) ∧ (20 + (I8 70 1)) < 40) ∧
      (∀ I10 : II, I10 = up2 I8 72 ((20 + (I8 70 1)).toNat) (I8 81 0) →
      (0 ≤ (20 + (I10 70 1)) ∧ (20 + (I10 70 1)) < 40) ∧
      (∀ I12 : II, I12 = up2 I10 73 ((20 + (I10 70 1)).toNat) (I10 81 1) →
      (∀ I13 : II, I13 = up2 I12 70 1 ((I12 70 1) + 1) →
      Q (vI 1) I13 R))))) ∧ (¬ (I3 81 1) ≤ (5 : Int) →
      wp (kN 89) mX11_personItem Q 39 [none, none] [] I3 R 89))))))))))))) : wp (kN 89) mX11_personItem Q 0 [vR 68, vI a1] [] I R 89 := by
  refine wp_aload_n (pc' := 1) (q := 0) (i := 0) rfl rfl dX11_personItem_0 rfl ?_
  refine wp_iconst (pc' := 2) dX11_personItem_1 rfl ?_
  obtain ⟨Q1, hs1, h⟩ := h
  refine wp_callV (pc' := 5) (as := [vI 2]) (rest := []) hs1 dX11_personItem_2 rfl lkX11_102 okX11_figures inX11_figures seX11_figures o_68 vc10 ⟨Nat.le_of_ble_eq_true rfl, Nat.le_of_ble_eq_true rfl⟩ (Nat.le_of_ble_eq_true rfl) (Nat.le_refl _) (Nat.le_refl _) okP_eq okP_eq rfl (rvZ rfl (fun x1 I1 R1 hz1 hq1 => ?_))
  obtain ⟨hRR1, h⟩ := h x1 I1 R1 hz1 hq1; subst hRR1
  obtain ⟨h2, h⟩ := h
  refine wp_if_eq (pc' := 8) (tgt := 39) h2 dX11_personItem_5 rfl rfl (fun hc => ?_) (fun hc => ?_)
  · have h := h.1 hc
    exact wp_dropP (leP_d (leP_d leP_n)) h
  · have h := h.2 hc
    refine wp_aload_n (pc' := 9) (q := 0) (i := 0) rfl rfl dX11_personItem_8 rfl ?_
    refine wp_iload_n (pc' := 10) (q := 1) (i := 1) rfl rfl dX11_personItem_9 rfl ?_
    obtain ⟨Q3, hs3, h⟩ := h
    refine wp_callV (pc' := 13) (as := [vI a1]) (rest := []) hs3 dX11_personItem_10 rfl lkX11_106 okX11_readMany inX11_readMany seX11_readMany o_68 vc10 ⟨Nat.le_of_ble_eq_true rfl, Nat.le_of_ble_eq_true rfl⟩ (Nat.le_of_ble_eq_true rfl) (Nat.le_refl _) (Nat.le_refl _) okP_eq okP_eq rfl (rvI rfl (fun x3 I3 R3 hq3 => ?_))
    obtain ⟨hRR3, h⟩ := h x3 I3 R3 hq3; subst hRR3
    refine wp_bipush (pc' := 15) (by decide) dX11_personItem_13 rfl ?_
    obtain ⟨h4, h⟩ := h
    refine wp_icmp_eq (pc' := 18) (tgt := 39) h4 ⟨by decide, by decide⟩ dX11_personItem_15 rfl rfl (fun hc => ?_) (fun hc => ?_)
    · have h := h.1 hc
      exact wp_dropP (leP_d (leP_d leP_n)) h
    · have h := h.2 hc
      refine wp_aload_n (pc' := 19) (q := 0) (i := 0) rfl rfl dX11_personItem_18 rfl ?_
      refine wp_getRc (pc' := 22) (k := 15) (j := 81) dX11_personItem_19 vc10 (by decide) rfl lfX11_46 o_68 (r_68_15 hR) rfl ?_
      refine wp_iconst (pc' := 23) dX11_personItem_22 rfl ?_
      refine wp_iald (pc' := 24) (j := 0) dX11_personItem_23 a_81 ⟨by decide, by decide⟩ rfl rfl ?_
      refine wp_bipush (pc' := 26) (by decide) dX11_personItem_24 rfl ?_
      obtain ⟨h5, h⟩ := h
      refine wp_icmp_gt (pc' := 29) (tgt := 39) h5 ⟨by decide, by decide⟩ dX11_personItem_26 rfl rfl (fun hc => ?_) (fun hc => ?_)
      · have h := h.1 hc
        exact wp_dropP (leP_d (leP_d leP_n)) h
      · have h := h.2 hc
        refine wp_aload_n (pc' := 30) (q := 0) (i := 0) rfl rfl dX11_personItem_29 rfl ?_
        refine wp_getRc (pc' := 33) (k := 15) (j := 81) dX11_personItem_30 vc10 (by decide) rfl lfX11_46 o_68 (r_68_15 hR) rfl ?_
        refine wp_iconst (pc' := 34) dX11_personItem_33 rfl ?_
        refine wp_iald (pc' := 35) (j := 1) dX11_personItem_34 a_81 ⟨by decide, by decide⟩ rfl rfl ?_
        refine wp_iconst (pc' := 36) dX11_personItem_35 rfl ?_
        obtain ⟨h6, h⟩ := h
        refine wp_icmp_le (pc' := 39) (tgt := 41) h6 ⟨by decide, by decide⟩ dX11_personItem_36 rfl rfl (fun hc => ?_) (fun hc => ?_)
        · have h := h.1 hc
          refine wp_aload_n (pc' := 42) (q := 0) (i := 0) rfl rfl dX11_personItem_41 rfl ?_
          refine wp_getRc (pc' := 45) (k := 3) (j := 71) dX11_personItem_42 vc10 (by decide) rfl lfX11_16 o_68 (r_68_3 hR) rfl ?_
          refine wp_bipush (pc' := 47) (by decide) dX11_personItem_45 rfl ?_
          refine wp_aload_n (pc' := 48) (q := 0) (i := 0) rfl rfl dX11_personItem_47 rfl ?_
          refine wp_getRc (pc' := 51) (k := 2) (j := 70) dX11_personItem_48 vc10 (by decide) rfl lfX11_13 o_68 (r_68_2 hR) rfl ?_
          refine wp_iconst (pc' := 52) dX11_personItem_51 rfl ?_
          refine wp_iald (pc' := 53) (j := 1) dX11_personItem_52 a_70 ⟨by decide, by decide⟩ rfl rfl ?_
          refine wp_iadd (pc' := 54) dX11_personItem_53 rfl ?_
          refine wp_iload_n (pc' := 55) (q := 1) (i := 1) rfl rfl dX11_personItem_54 rfl ?_
          obtain ⟨h7, h⟩ := h
          obtain ⟨I8, eI8⟩ : ∃ z : II, z = up2 I3 71 ((20 + (I3 70 1)).toNat) a1 := ⟨_, rfl⟩
          have h := h I8 eI8
          refine wp_iast (pc' := 56) (j := (20 + (I3 70 1)).toNat) (I' := I8) dX11_personItem_55 a_71 h7 rfl rfl eI8 ?_
          refine wp_aload_n (pc' := 57) (q := 0) (i := 0) rfl rfl dX11_personItem_56 rfl ?_
          refine wp_getRc (pc' := 60) (k := 4) (j := 72) dX11_personItem_57 vc10 (by decide) rfl lfX11_19 o_68 (r_68_4 hR) rfl ?_
          refine wp_bipush (pc' := 62) (by decide) dX11_personItem_60 rfl ?_
          refine wp_aload_n (pc' := 63) (q := 0) (i := 0) rfl rfl dX11_personItem_62 rfl ?_
          refine wp_getRc (pc' := 66) (k := 2) (j := 70) dX11_personItem_63 vc10 (by decide) rfl lfX11_13 o_68 (r_68_2 hR) rfl ?_
          refine wp_iconst (pc' := 67) dX11_personItem_66 rfl ?_
          refine wp_iald (pc' := 68) (j := 1) dX11_personItem_67 a_70 ⟨by decide, by decide⟩ rfl rfl ?_
          refine wp_iadd (pc' := 69) dX11_personItem_68 rfl ?_
          refine wp_aload_n (pc' := 70) (q := 0) (i := 0) rfl rfl dX11_personItem_69 rfl ?_
          refine wp_getRc (pc' := 73) (k := 15) (j := 81) dX11_personItem_70 vc10 (by decide) rfl lfX11_46 o_68 (r_68_15 hR) rfl ?_
          refine wp_iconst (pc' := 74) dX11_personItem_73 rfl ?_
          refine wp_iald (pc' := 75) (j := 0) dX11_personItem_74 a_81 ⟨by decide, by decide⟩ rfl rfl ?_
          obtain ⟨h9, h⟩ := h
          obtain ⟨I10, eI10⟩ : ∃ z : II, z = up2 I8 72 ((20 + (I8 70 1)).toNat) (I8 81 0) := ⟨_, rfl⟩
          have h := h I10 eI10
          refine wp_iast (pc' := 76) (j := (20 + (I8 70 1)).toNat) (I' := I10) dX11_personItem_75 a_72 h9 rfl rfl eI10 ?_
          refine wp_aload_n (pc' := 77) (q := 0) (i := 0) rfl rfl dX11_personItem_76 rfl ?_
          refine wp_getRc (pc' := 80) (k := 5) (j := 73) dX11_personItem_77 vc10 (by decide) rfl lfX11_22 o_68 (r_68_5 hR) rfl ?_
          refine wp_bipush (pc' := 82) (by decide) dX11_personItem_80 rfl ?_
          refine wp_aload_n (pc' := 83) (q := 0) (i := 0) rfl rfl dX11_personItem_82 rfl ?_
          refine wp_getRc (pc' := 86) (k := 2) (j := 70) dX11_personItem_83 vc10 (by decide) rfl lfX11_13 o_68 (r_68_2 hR) rfl ?_
          refine wp_iconst (pc' := 87) dX11_personItem_86 rfl ?_
          refine wp_iald (pc' := 88) (j := 1) dX11_personItem_87 a_70 ⟨by decide, by decide⟩ rfl rfl ?_
          refine wp_iadd (pc' := 89) dX11_personItem_88 rfl ?_
          refine wp_aload_n (pc' := 90) (q := 0) (i := 0) rfl rfl dX11_personItem_89 rfl ?_
          refine wp_getRc (pc' := 93) (k := 15) (j := 81) dX11_personItem_90 vc10 (by decide) rfl lfX11_46 o_68 (r_68_15 hR) rfl ?_
          refine wp_iconst (pc' := 94) dX11_personItem_93 rfl ?_
          refine wp_iald (pc' := 95) (j := 1) dX11_personItem_94 a_81 ⟨by decide, by decide⟩ rfl rfl ?_
          obtain ⟨h11, h⟩ := h
          obtain ⟨I12, eI12⟩ : ∃ z : II, z = up2 I10 73 ((20 + (I10 70 1)).toNat) (I10 81 1) := ⟨_, rfl⟩
          have h := h I12 eI12
          refine wp_iast (pc' := 96) (j := (20 + (I10 70 1)).toNat) (I' := I12) dX11_personItem_95 a_73 h11 rfl rfl eI12 ?_
          refine wp_aload_n (pc' := 97) (q := 0) (i := 0) rfl rfl dX11_personItem_96 rfl ?_
          refine wp_getRc (pc' := 100) (k := 2) (j := 70) dX11_personItem_97 vc10 (by decide) rfl lfX11_13 o_68 (r_68_2 hR) rfl ?_
          refine wp_iconst (pc' := 101) dX11_personItem_100 rfl ?_
          refine wp_dup2 (pc' := 102) dX11_personItem_101 rfl ?_
          refine wp_iald (pc' := 103) (j := 1) dX11_personItem_102 a_70 ⟨by decide, by decide⟩ rfl rfl ?_
          refine wp_iconst (pc' := 104) dX11_personItem_103 rfl ?_
          refine wp_iadd (pc' := 105) dX11_personItem_104 rfl ?_
          obtain ⟨I13, eI13⟩ : ∃ z : II, z = up2 I12 70 1 ((I12 70 1) + 1) := ⟨_, rfl⟩
          have h := h I13 eI13
          refine wp_iast (pc' := 106) (j := 1) (I' := I13) dX11_personItem_105 a_70 ⟨by decide, by decide⟩ rfl rfl eI13 ?_
          refine wp_iconst (pc' := 107) dX11_personItem_106 rfl ?_
          exact wp_zreturn dX11_personItem_107 rfl rfl (Or.inr rfl) h
        · have h := h.2 hc
          exact wp_dropP (leP_d (leP_d leP_n)) h

set_option maxRecDepth 4000 in
theorem gX11_personItem_39 {Q : QT} {I : II} {R : RR} (hR : SR R) 
    (h : Q (vI 0) I R) : wp (kN 89) mX11_personItem Q 39 [none, none] [] I R 89 := by
  refine wp_iconst (pc' := 40) dX11_personItem_39 rfl ?_
  exact wp_zreturn dX11_personItem_40 rfl rfl (Or.inl rfl) h

theorem sX11_numberItem {Q : QT} {I : II} {R : RR} {a1 : Int} {a2 : Int} {a3 : Int} (h : wp (kN 89) mX11_numberItem Q 0 [vR 68, vI a1, vI a2, vI a3] [] I R 89) : Spec mX11_numberItem [vR 68, vI a1, vI a2, vI a3] I R 89 89 Q := Spec_of_wp pyX11_numberItem rfl (Nat.le_of_ble_eq_true rfl) (Nat.le_refl _) (by decide) h

set_option maxRecDepth 4000 in
theorem gX11_numberItem_0 {Q : QT} {I : II} {R : RR} (hR : SR R) {a1 : Int} {a2 : Int} {a3 : Int}
    (h : (∃ Q1 : QT, Spec mX11_figures [vR 68, vI 1] I R 89 89 Q1 ∧ (∀ x1 I1 R1, (x1 = 0 ∨ x1 = 1) → Q1 (vI x1) I1 R1 →
      R = R1 ∧ (InI x1) ∧
      ((x1 = 0 →
      wp (kN 89) mX11_numberItem Q 25 [none, none, none, none] [] I1 R 89) ∧ (¬ (x1 = 0) →
      (InI (I1 81 0)) ∧
      (InI a2) ∧
      (InI a3) ∧
      ((a2 ≤ (I1 81 0) ∧ (I1 81 0) ≤ a3 →
      (0 ≤ (5 + a1) ∧ (5 + a1) < 10) ∧
      (∀ I8 : II, I8 = up2 I1 74 ((5 + a1).toNat) (I1 81 0) →
      Q (vI 1) I8 R)) ∧ (¬ (a2 ≤ (I1 81 0) ∧ (I1 81 0) ≤ a3) →
      wp (kN 89) mX11_numberItem Q 25 [none, none, none, none] [] I1 R 89))))))) : wp (kN 89) mX11_numberItem Q 0 [vR 68, vI a1, vI a2, vI a3] [] I R 89 := by
  refine wp_aload_n (pc' := 1) (q := 0) (i := 0) rfl rfl dX11_numberItem_0 rfl ?_
  refine wp_iconst (pc' := 2) dX11_numberItem_1 rfl ?_
  obtain ⟨Q1, hs1, h⟩ := h
  refine wp_callV (pc' := 5) (as := [vI 1]) (rest := []) hs1 dX11_numberItem_2 rfl lkX11_102 okX11_figures inX11_figures seX11_figures o_68 vc10 ⟨Nat.le_of_ble_eq_true rfl, Nat.le_of_ble_eq_true rfl⟩ (Nat.le_of_ble_eq_true rfl) (Nat.le_refl _) (Nat.le_refl _) okP_eq okP_eq rfl (rvZ rfl (fun x1 I1 R1 hz1 hq1 => ?_))
  obtain ⟨hRR1, h⟩ := h x1 I1 R1 hz1 hq1; subst hRR1
  obtain ⟨h2, h⟩ := h
  refine wp_if_eq (pc' := 8) (tgt := 25) h2 dX11_numberItem_5 rfl rfl (fun hc => ?_) (fun hc => ?_)
  · have h := h.1 hc
    exact wp_dropP (leP_d (leP_d (leP_d (leP_d leP_n)))) h
  · have h := h.2 hc
    refine wp_aload_n (pc' := 9) (q := 0) (i := 0) rfl rfl dX11_numberItem_8 rfl ?_
    refine wp_getRc (pc' := 12) (k := 15) (j := 81) dX11_numberItem_9 vc10 (by decide) rfl lfX11_46 o_68 (r_68_15 hR) rfl ?_
    refine wp_iconst (pc' := 13) dX11_numberItem_12 rfl ?_
    refine wp_iald (pc' := 14) (j := 0) dX11_numberItem_13 a_81 ⟨by decide, by decide⟩ rfl rfl ?_
    obtain ⟨h3, h⟩ := h
    refine wp_i2l (pc' := 15) h3 dX11_numberItem_14 rfl ?_
    refine wp_iload_n (pc' := 16) (q := 2) (i := 2) rfl rfl dX11_numberItem_15 rfl ?_
    obtain ⟨h4, h⟩ := h
    refine wp_i2l (pc' := 17) h4 dX11_numberItem_16 rfl ?_
    refine wp_iload_n (pc' := 18) (q := 3) (i := 3) rfl rfl dX11_numberItem_17 rfl ?_
    obtain ⟨h5, h⟩ := h
    refine wp_i2l (pc' := 19) h5 dX11_numberItem_18 rfl ?_
    refine wp_callS (pc' := 22) (as := [vL (I1 81 0), vL a2, vL a3]) (rest := []) (pX11_in (by decide) (inL_of h3) (inL_of h4) (inL_of h5)) dX11_numberItem_19 rfl lkX11_79 okX11_in stX11_in ⟨Nat.le_of_ble_eq_true rfl, Nat.le_of_ble_eq_true rfl⟩ (Nat.le_of_ble_eq_true rfl) (Nat.le_refl _) (Nat.le_refl _) okP_eq okP_eq rfl (rvZ rfl (fun x6 I6 R6 hz6 hq6 => ?_))
    obtain ⟨eR6, eI6, ex6⟩ := hq6; subst eR6; subst eI6; cases ex6
    by_cases hc : a2 ≤ (I1 81 0) ∧ (I1 81 0) ≤ a3
    · rw [if_pos hc]; have h := h.1 hc
      refine wp_if_ne (pc' := 25) (tgt := 27) ⟨by decide, by decide⟩ dX11_numberItem_22 rfl rfl (fun hc => ?_) (fun hc => by exfalso; revert hc; decide)
      refine wp_aload_n (pc' := 28) (q := 0) (i := 0) rfl rfl dX11_numberItem_27 rfl ?_
      refine wp_getRc (pc' := 31) (k := 6) (j := 74) dX11_numberItem_28 vc10 (by decide) rfl lfX11_25 o_68 (r_68_6 hR) rfl ?_
      refine wp_iconst (pc' := 32) dX11_numberItem_31 rfl ?_
      refine wp_iload_n (pc' := 33) (q := 1) (i := 1) rfl rfl dX11_numberItem_32 rfl ?_
      refine wp_iadd (pc' := 34) dX11_numberItem_33 rfl ?_
      refine wp_aload_n (pc' := 35) (q := 0) (i := 0) rfl rfl dX11_numberItem_34 rfl ?_
      refine wp_getRc (pc' := 38) (k := 15) (j := 81) dX11_numberItem_35 vc10 (by decide) rfl lfX11_46 o_68 (r_68_15 hR) rfl ?_
      refine wp_iconst (pc' := 39) dX11_numberItem_38 rfl ?_
      refine wp_iald (pc' := 40) (j := 0) dX11_numberItem_39 a_81 ⟨by decide, by decide⟩ rfl rfl ?_
      obtain ⟨h7, h⟩ := h
      obtain ⟨I8, eI8⟩ : ∃ z : II, z = up2 I1 74 ((5 + a1).toNat) (I1 81 0) := ⟨_, rfl⟩
      have h := h I8 eI8
      refine wp_iast (pc' := 41) (j := (5 + a1).toNat) (I' := I8) dX11_numberItem_40 a_74 h7 rfl rfl eI8 ?_
      refine wp_iconst (pc' := 42) dX11_numberItem_41 rfl ?_
      exact wp_zreturn dX11_numberItem_42 rfl rfl (Or.inr rfl) h
    · rw [if_neg hc]; have h := h.2 hc
      refine wp_if_ne (pc' := 25) (tgt := 27) ⟨by decide, by decide⟩ dX11_numberItem_22 rfl rfl (fun hc => by exfalso; revert hc; decide) (fun hc => ?_)
      exact wp_dropP (leP_d (leP_d (leP_d (leP_d leP_n)))) h

set_option maxRecDepth 4000 in
theorem gX11_numberItem_25 {Q : QT} {I : II} {R : RR} (hR : SR R) 
    (h : Q (vI 0) I R) : wp (kN 89) mX11_numberItem Q 25 [none, none, none, none] [] I R 89 := by
  refine wp_iconst (pc' := 26) dX11_numberItem_25 rfl ?_
  exact wp_zreturn dX11_numberItem_26 rfl rfl (Or.inl rfl) h

theorem sX11_item {Q : QT} {I : II} {R : RR}  (h : wp (kN 89) mX11_item Q 0 [vR 68, none] [] I R 89) : Spec mX11_item [vR 68] I R 89 89 Q := Spec_of_wp pyX11_item rfl (Nat.le_of_ble_eq_true rfl) (Nat.le_refl _) (by decide) h

set_option maxRecDepth 4000 in
theorem gX11_item_0 {Q : QT} {I : II} {R : RR} (hR : SR R) 
    (h : (InI (I 68 14)) ∧
      (InI (I 68 0)) ∧
      (0 ≤ (I 68 14) ∧ ((I 68 14) < I 68 0 → (I 68 14) < 300)) ∧
      (∀ I5 : II, I5 = up2 I 68 14 ((I 68 14) + 1) →
      (InI (if (I 68 14) < I 68 0 then I 69 ((I 68 14)).toNat else 0)) ∧
      (((if (I 68 14) < I 68 0 then I 69 ((I 68 14)).toNat else 0) < 99 ∨ 120 < (if (I 68 14) < I 68 0 then I 69 ((I 68 14)).toNat else 0) →
      Q (vI 0) I5 R) ∧ ((if (I 68 14) < I 68 0 then I 69 ((I 68 14)).toNat else 0) = 99 →
      (∃ Q7 : QT, Spec mX11_personItem [vR 68, vI 1] I5 R 89 89 Q7 ∧ (∀ x7 I7 R7, (x7 = 0 ∨ x7 = 1) → Q7 (vI x7) I7 R7 →
      R = R7 ∧ Q (vI x7) I7 R))) ∧ ((if (I 68 14) < I 68 0 then I 69 ((I 68 14)).toNat else 0) = 100 →
      Q (vI 0) I5 R) ∧ ((if (I 68 14) < I 68 0 then I 69 ((I 68 14)).toNat else 0) = 101 →
      Q (vI 0) I5 R) ∧ ((if (I 68 14) < I 68 0 then I 69 ((I 68 14)).toNat else 0) = 102 →
      Q (vI 0) I5 R) ∧ ((if (I 68 14) < I 68 0 then I 69 ((I 68 14)).toNat else 0) = 103 →
      Q (vI 0) I5 R) ∧ ((if (I 68 14) < I 68 0 then I 69 ((I 68 14)).toNat else 0) = 104 →
      (∃ Q8 : QT, Spec mX11_numberItem [vR 68, vI 4, vI 0, vI 99] I5 R 89 89 Q8 ∧ (∀ x8 I8 R8, (x8 = 0 ∨ x8 = 1) → Q8 (vI x8) I8 R8 →
      R = R8 ∧ Q (vI x8) I8 R))) ∧ ((if (I 68 14) < I 68 0 then I 69 ((I 68 14)).toNat else 0) = 105 →
      Q (vI 0) I5 R) ∧ ((if (I 68 14) < I 68 0 then I 69 ((I 68 14)).toNat else 0) = 106 →
      Q (vI 0) I5 R) ∧ ((if (I 68 14) < I 68 0 then I 69 ((I 68 14)).toNat else 0) = 107 →
      Q (vI 0) I5 R) ∧ ((if (I 68 14) < I 68 0 then I 69 ((I 68 14)).toNat else 0) = 108 →
      (∃ Q9 : QT, Spec mX11_numberItem [vR 68, vI 2, vI 0, vI 99] I5 R 89 89 Q9 ∧ (∀ x9 I9 R9, (x9 = 0 ∨ x9 = 1) → Q9 (vI x9) I9 R9 →
      R = R9 ∧ Q (vI x9) I9 R))) ∧ ((if (I 68 14) < I 68 0 then I 69 ((I 68 14)).toNat else 0) = 109 →
      Q (vI 0) I5 R) ∧ ((if (I 68 14) < I 68 0 then I 69 ((I 68 14)).toNat else 0) = 110 →
      (∃ Q10 : QT, Spec mX11_numberItem [vR 68, vI 0, vI 1, vI 200] I5 R 89 89 Q10 ∧ (∀ x10 I10 R10, (x10 = 0 ∨ x10 = 1) → Q10 (vI x10) I10 R10 →
      R = R10 ∧ Q (vI x10) I10 R))) ∧ ((if (I 68 14) < I 68 0 then I 69 ((I 68 14)).toNat else 0) = 111 →
      Q (vI 0) I5 R) ∧ ((if (I 68 14) < I 68 0 then I 69 ((I 68 14)).toNat else 0) = 112 →
      Q (vI 0) I5 R) ∧ ((if (I 68 14) < I 68 0 then I 69 ((I 68 14)).toNat else 0) = 113 →
      Q (vI 0) I5 R) ∧ ((if (I 68 14) < I 68 0 then I 69 ((I 68 14)).toNat else 0) = 114 →
      Q (vI 0) I5 R) ∧ ((if (I 68 14) < I 68 0 then I 69 ((I 68 14)).toNat else 0) = 115 →
      Q (vI 0) I5 R) ∧ ((if (I 68 14) < I 68 0 then I 69 ((I 68 14)).toNat else 0) = 116 →
      (∃ Q11 : QT, Spec mX11_numberItem [vR 68, vI 1, vI 0, vI 50] I5 R 89 89 Q11 ∧ (∀ x11 I11 R11, (x11 = 0 ∨ x11 = 1) → Q11 (vI x11) I11 R11 →
      R = R11 ∧ Q (vI x11) I11 R))) ∧ ((if (I 68 14) < I 68 0 then I 69 ((I 68 14)).toNat else 0) = 117 →
      Q (vI 0) I5 R) ∧ ((if (I 68 14) < I 68 0 then I 69 ((I 68 14)).toNat else 0) = 118 →
      (∃ Q12 : QT, Spec mX11_personItem [vR 68, vI 0] I5 R 89 89 Q12 ∧ (∀ x12 I12 R12, (x12 = 0 ∨ x12 = 1) → Q12 (vI x12) I12 R12 →
      R = R12 ∧ Q (vI x12) I12 R))) ∧ ((if (I 68 14) < I 68 0 then I 69 ((I 68 14)).toNat else 0) = 119 →
      Q (vI 0) I5 R) ∧ ((if (I 68 14) < I 68 0 then I 69 ((I 68 14)).toNat else 0) = 120 →
      (∃ Q13 : QT, Spec mX11_numberItem [vR 68, vI 3, vI 0, vI 50] I5 R 89 89 Q13 ∧ (∀ x13 I13 R13, (x13 = 0 ∨ x13 = 1) → Q13 (vI x13) I13 R13 →
      R = R13 ∧ Q (vI x13) I13 R)))))) : wp (kN 89) mX11_item Q 0 [vR 68, none] [] I R 89 := by
  refine wp_aload_n (pc' := 1) (q := 0) (i := 0) rfl rfl dX11_item_0 rfl ?_
  refine wp_aload_n (pc' := 2) (q := 0) (i := 0) rfl rfl dX11_item_1 rfl ?_
  refine wp_getI (pc' := 5) (k := 14) dX11_item_2 vc10 (by decide) rfl lfX11_89 o_68 rfl ?_
  obtain ⟨h2, h⟩ := h
  obtain ⟨h3, h⟩ := h
  obtain ⟨h4, h⟩ := h
  refine wp_callV (pc' := 8) (as := [vI (I 68 14)]) (rest := []) (pX11_byteAt hR h2 h3 h4) dX11_item_5 rfl lkX11_92 okX11_byteAt inX11_byteAt seX11_byteAt o_68 vc10 ⟨Nat.le_of_ble_eq_true rfl, Nat.le_of_ble_eq_true rfl⟩ (Nat.le_of_ble_eq_true rfl) (Nat.le_refl _) (Nat.le_refl _) okP_eq okP_eq rfl (rvI rfl (fun x1 I1 R1 hq1 => ?_))
  obtain ⟨eR1, eI1, ex1⟩ := hq1; subst eR1; subst eI1; cases ex1
  refine wp_istore_n (pc' := 9) (q := 1) (i := 1) (L' := [vR 68, vI (if (I 68 14) < I 68 0 then I 69 ((I 68 14)).toNat else 0)]) rfl (by decide) rfl dX11_item_8 rfl rfl ?_
  refine wp_aload_n (pc' := 10) (q := 0) (i := 0) rfl rfl dX11_item_9 rfl ?_
  refine wp_dupR (pc' := 11) dX11_item_10 rfl ?_
  refine wp_getI (pc' := 14) (k := 14) dX11_item_11 vc10 (by decide) rfl lfX11_89 o_68 rfl ?_
  refine wp_iconst (pc' := 15) dX11_item_14 rfl ?_
  refine wp_iadd (pc' := 16) dX11_item_15 rfl ?_
  obtain ⟨I5, eI5⟩ : ∃ z : II, z = up2 I 68 14 ((I 68 14) + 1) := ⟨_, rfl⟩
  have h := h I5 eI5
  refine wp_putI (pc' := 19) (k := 14) (I' := I5) dX11_item_16 vc10 (by decide) rfl rfl (tyX11_ok 14 (by decide)) lfX11_89 o_68 rfl eI5 ?_
  refine wp_iload_n (pc' := 20) (q := 1) (i := 1) rfl rfl dX11_item_19 rfl ?_
  obtain ⟨h6, h⟩ := h
  refine wp_table (tgtD := 182) h6 dX11_item_20 rfl (fun hc => ?_) (fun j hj hle => ?_)
  · have h := h.1 hc
    refine wp_iconst (pc' := 183) dX11_item_182 rfl ?_
    exact wp_zreturn dX11_item_183 rfl rfl (Or.inl rfl) h
  · have hj9 : j = 0 ∨ j = 1 ∨ j = 2 ∨ j = 3 ∨ j = 4 ∨ j = 5 ∨ j = 6 ∨ j = 7 ∨ j = 8 ∨ j = 9 ∨ j = 10 ∨ j = 11 ∨ j = 12 ∨ j = 13 ∨ j = 14 ∨ j = 15 ∨ j = 16 ∨ j = 17 ∨ j = 18 ∨ j = 19 ∨ j = 20 ∨ j = 21 := by omega
    rcases hj9 with rfl | rfl | rfl | rfl | rfl | rfl | rfl | rfl | rfl | rfl | rfl | rfl | rfl | rfl | rfl | rfl | rfl | rfl | rfl | rfl | rfl | rfl
    · refine ⟨110, 130, rfl, rfl, ?_⟩
      have h := h.2.1 (by omega)
      refine wp_aload_n (pc' := 131) (q := 0) (i := 0) rfl rfl dX11_item_130 rfl ?_
      refine wp_iconst (pc' := 132) dX11_item_131 rfl ?_
      obtain ⟨Q7, hs7, h⟩ := h
      refine wp_callV (pc' := 135) (as := [vI 1]) (rest := []) hs7 dX11_item_132 rfl lkX11_109 okX11_personItem inX11_personItem seX11_personItem o_68 vc10 ⟨Nat.le_of_ble_eq_true rfl, Nat.le_of_ble_eq_true rfl⟩ (Nat.le_of_ble_eq_true rfl) (Nat.le_refl _) (Nat.le_refl _) okP_eq okP_eq rfl (rvZ rfl (fun x7 I7 R7 hz7 hq7 => ?_))
      obtain ⟨hRR7, h⟩ := h x7 I7 R7 hz7 hq7; subst hRR7
      exact wp_zreturn dX11_item_135 rfl rfl hz7 h
    · refine ⟨162, 182, rfl, rfl, ?_⟩
      have h := h.2.2.1 (by omega)
      refine wp_iconst (pc' := 183) dX11_item_182 rfl ?_
      exact wp_zreturn dX11_item_183 rfl rfl (Or.inl rfl) h
    · refine ⟨162, 182, rfl, rfl, ?_⟩
      have h := h.2.2.2.1 (by omega)
      refine wp_iconst (pc' := 183) dX11_item_182 rfl ?_
      exact wp_zreturn dX11_item_183 rfl rfl (Or.inl rfl) h
    · refine ⟨162, 182, rfl, rfl, ?_⟩
      have h := h.2.2.2.2.1 (by omega)
      refine wp_iconst (pc' := 183) dX11_item_182 rfl ?_
      exact wp_zreturn dX11_item_183 rfl rfl (Or.inl rfl) h
    · refine ⟨162, 182, rfl, rfl, ?_⟩
      have h := h.2.2.2.2.2.1 (by omega)
      refine wp_iconst (pc' := 183) dX11_item_182 rfl ?_
      exact wp_zreturn dX11_item_183 rfl rfl (Or.inl rfl) h
    · refine ⟨153, 173, rfl, rfl, ?_⟩
      have h := h.2.2.2.2.2.2.1 (by omega)
      refine wp_aload_n (pc' := 174) (q := 0) (i := 0) rfl rfl dX11_item_173 rfl ?_
      refine wp_iconst (pc' := 175) dX11_item_174 rfl ?_
      refine wp_iconst (pc' := 176) dX11_item_175 rfl ?_
      refine wp_bipush (pc' := 178) (by decide) dX11_item_176 rfl ?_
      obtain ⟨Q8, hs8, h⟩ := h
      refine wp_callV (pc' := 181) (as := [vI 4, vI 0, vI 99]) (rest := []) hs8 dX11_item_178 rfl lkX11_112 okX11_numberItem inX11_numberItem seX11_numberItem o_68 vc10 ⟨Nat.le_of_ble_eq_true rfl, Nat.le_of_ble_eq_true rfl⟩ (Nat.le_of_ble_eq_true rfl) (Nat.le_refl _) (Nat.le_refl _) okP_eq okP_eq rfl (rvZ rfl (fun x8 I8 R8 hz8 hq8 => ?_))
      obtain ⟨hRR8, h⟩ := h x8 I8 R8 hz8 hq8; subst hRR8
      exact wp_zreturn dX11_item_181 rfl rfl hz8 h
    · refine ⟨162, 182, rfl, rfl, ?_⟩
      have h := h.2.2.2.2.2.2.2.1 (by omega)
      refine wp_iconst (pc' := 183) dX11_item_182 rfl ?_
      exact wp_zreturn dX11_item_183 rfl rfl (Or.inl rfl) h
    · refine ⟨162, 182, rfl, rfl, ?_⟩
      have h := h.2.2.2.2.2.2.2.2.1 (by omega)
      refine wp_iconst (pc' := 183) dX11_item_182 rfl ?_
      exact wp_zreturn dX11_item_183 rfl rfl (Or.inl rfl) h
    · refine ⟨162, 182, rfl, rfl, ?_⟩
      have h := h.2.2.2.2.2.2.2.2.2.1 (by omega)
      refine wp_iconst (pc' := 183) dX11_item_182 rfl ?_
      exact wp_zreturn dX11_item_183 rfl rfl (Or.inl rfl) h
    · refine ⟨135, 155, rfl, rfl, ?_⟩
      have h := h.2.2.2.2.2.2.2.2.2.2.1 (by omega)
      refine wp_aload_n (pc' := 156) (q := 0) (i := 0) rfl rfl dX11_item_155 rfl ?_
      refine wp_iconst (pc' := 157) dX11_item_156 rfl ?_
      refine wp_iconst (pc' := 158) dX11_item_157 rfl ?_
      refine wp_bipush (pc' := 160) (by decide) dX11_item_158 rfl ?_
      obtain ⟨Q9, hs9, h⟩ := h
      refine wp_callV (pc' := 163) (as := [vI 2, vI 0, vI 99]) (rest := []) hs9 dX11_item_160 rfl lkX11_112 okX11_numberItem inX11_numberItem seX11_numberItem o_68 vc10 ⟨Nat.le_of_ble_eq_true rfl, Nat.le_of_ble_eq_true rfl⟩ (Nat.le_of_ble_eq_true rfl) (Nat.le_refl _) (Nat.le_refl _) okP_eq okP_eq rfl (rvZ rfl (fun x9 I9 R9 hz9 hq9 => ?_))
      obtain ⟨hRR9, h⟩ := h x9 I9 R9 hz9 hq9; subst hRR9
      exact wp_zreturn dX11_item_163 rfl rfl hz9 h
    · refine ⟨162, 182, rfl, rfl, ?_⟩
      have h := h.2.2.2.2.2.2.2.2.2.2.2.1 (by omega)
      refine wp_iconst (pc' := 183) dX11_item_182 rfl ?_
      exact wp_zreturn dX11_item_183 rfl rfl (Or.inl rfl) h
    · refine ⟨116, 136, rfl, rfl, ?_⟩
      have h := h.2.2.2.2.2.2.2.2.2.2.2.2.1 (by omega)
      refine wp_aload_n (pc' := 137) (q := 0) (i := 0) rfl rfl dX11_item_136 rfl ?_
      refine wp_iconst (pc' := 138) dX11_item_137 rfl ?_
      refine wp_iconst (pc' := 139) dX11_item_138 rfl ?_
      refine wp_sipush (pc' := 142) (by decide) dX11_item_139 rfl ?_
      obtain ⟨Q10, hs10, h⟩ := h
      refine wp_callV (pc' := 145) (as := [vI 0, vI 1, vI 200]) (rest := []) hs10 dX11_item_142 rfl lkX11_112 okX11_numberItem inX11_numberItem seX11_numberItem o_68 vc10 ⟨Nat.le_of_ble_eq_true rfl, Nat.le_of_ble_eq_true rfl⟩ (Nat.le_of_ble_eq_true rfl) (Nat.le_refl _) (Nat.le_refl _) okP_eq okP_eq rfl (rvZ rfl (fun x10 I10 R10 hz10 hq10 => ?_))
      obtain ⟨hRR10, h⟩ := h x10 I10 R10 hz10 hq10; subst hRR10
      exact wp_zreturn dX11_item_145 rfl rfl hz10 h
    · refine ⟨162, 182, rfl, rfl, ?_⟩
      have h := h.2.2.2.2.2.2.2.2.2.2.2.2.2.1 (by omega)
      refine wp_iconst (pc' := 183) dX11_item_182 rfl ?_
      exact wp_zreturn dX11_item_183 rfl rfl (Or.inl rfl) h
    · refine ⟨162, 182, rfl, rfl, ?_⟩
      have h := h.2.2.2.2.2.2.2.2.2.2.2.2.2.2.1 (by omega)
      refine wp_iconst (pc' := 183) dX11_item_182 rfl ?_
      exact wp_zreturn dX11_item_183 rfl rfl (Or.inl rfl) h
    · refine ⟨162, 182, rfl, rfl, ?_⟩
      have h := h.2.2.2.2.2.2.2.2.2.2.2.2.2.2.2.1 (by omega)
      refine wp_iconst (pc' := 183) dX11_item_182 rfl ?_
      exact wp_zreturn dX11_item_183 rfl rfl (Or.inl rfl) h
    · refine ⟨162, 182, rfl, rfl, ?_⟩
      have h := h.2.2.2.2.2.2.2.2.2.2.2.2.2.2.2.2.1 (by omega)
      refine wp_iconst (pc' := 183) dX11_item_182 rfl ?_
      exact wp_zreturn dX11_item_183 rfl rfl (Or.inl rfl) h
    · refine ⟨162, 182, rfl, rfl, ?_⟩
      have h := h.2.2.2.2.2.2.2.2.2.2.2.2.2.2.2.2.2.1 (by omega)
      refine wp_iconst (pc' := 183) dX11_item_182 rfl ?_
      exact wp_zreturn dX11_item_183 rfl rfl (Or.inl rfl) h
    · refine ⟨126, 146, rfl, rfl, ?_⟩
      have h := h.2.2.2.2.2.2.2.2.2.2.2.2.2.2.2.2.2.2.1 (by omega)
      refine wp_aload_n (pc' := 147) (q := 0) (i := 0) rfl rfl dX11_item_146 rfl ?_
      refine wp_iconst (pc' := 148) dX11_item_147 rfl ?_
      refine wp_iconst (pc' := 149) dX11_item_148 rfl ?_
      refine wp_bipush (pc' := 151) (by decide) dX11_item_149 rfl ?_
      obtain ⟨Q11, hs11, h⟩ := h
      refine wp_callV (pc' := 154) (as := [vI 1, vI 0, vI 50]) (rest := []) hs11 dX11_item_151 rfl lkX11_112 okX11_numberItem inX11_numberItem seX11_numberItem o_68 vc10 ⟨Nat.le_of_ble_eq_true rfl, Nat.le_of_ble_eq_true rfl⟩ (Nat.le_of_ble_eq_true rfl) (Nat.le_refl _) (Nat.le_refl _) okP_eq okP_eq rfl (rvZ rfl (fun x11 I11 R11 hz11 hq11 => ?_))
      obtain ⟨hRR11, h⟩ := h x11 I11 R11 hz11 hq11; subst hRR11
      exact wp_zreturn dX11_item_154 rfl rfl hz11 h
    · refine ⟨162, 182, rfl, rfl, ?_⟩
      have h := h.2.2.2.2.2.2.2.2.2.2.2.2.2.2.2.2.2.2.2.1 (by omega)
      refine wp_iconst (pc' := 183) dX11_item_182 rfl ?_
      exact wp_zreturn dX11_item_183 rfl rfl (Or.inl rfl) h
    · refine ⟨104, 124, rfl, rfl, ?_⟩
      have h := h.2.2.2.2.2.2.2.2.2.2.2.2.2.2.2.2.2.2.2.2.1 (by omega)
      refine wp_aload_n (pc' := 125) (q := 0) (i := 0) rfl rfl dX11_item_124 rfl ?_
      refine wp_iconst (pc' := 126) dX11_item_125 rfl ?_
      obtain ⟨Q12, hs12, h⟩ := h
      refine wp_callV (pc' := 129) (as := [vI 0]) (rest := []) hs12 dX11_item_126 rfl lkX11_109 okX11_personItem inX11_personItem seX11_personItem o_68 vc10 ⟨Nat.le_of_ble_eq_true rfl, Nat.le_of_ble_eq_true rfl⟩ (Nat.le_of_ble_eq_true rfl) (Nat.le_refl _) (Nat.le_refl _) okP_eq okP_eq rfl (rvZ rfl (fun x12 I12 R12 hz12 hq12 => ?_))
      obtain ⟨hRR12, h⟩ := h x12 I12 R12 hz12 hq12; subst hRR12
      exact wp_zreturn dX11_item_129 rfl rfl hz12 h
    · refine ⟨162, 182, rfl, rfl, ?_⟩
      have h := h.2.2.2.2.2.2.2.2.2.2.2.2.2.2.2.2.2.2.2.2.2.1 (by omega)
      refine wp_iconst (pc' := 183) dX11_item_182 rfl ?_
      exact wp_zreturn dX11_item_183 rfl rfl (Or.inl rfl) h
    · refine ⟨144, 164, rfl, rfl, ?_⟩
      have h := h.2.2.2.2.2.2.2.2.2.2.2.2.2.2.2.2.2.2.2.2.2.2 (by omega)
      refine wp_aload_n (pc' := 165) (q := 0) (i := 0) rfl rfl dX11_item_164 rfl ?_
      refine wp_iconst (pc' := 166) dX11_item_165 rfl ?_
      refine wp_iconst (pc' := 167) dX11_item_166 rfl ?_
      refine wp_bipush (pc' := 169) (by decide) dX11_item_167 rfl ?_
      obtain ⟨Q13, hs13, h⟩ := h
      refine wp_callV (pc' := 172) (as := [vI 3, vI 0, vI 50]) (rest := []) hs13 dX11_item_169 rfl lkX11_112 okX11_numberItem inX11_numberItem seX11_numberItem o_68 vc10 ⟨Nat.le_of_ble_eq_true rfl, Nat.le_of_ble_eq_true rfl⟩ (Nat.le_of_ble_eq_true rfl) (Nat.le_refl _) (Nat.le_refl _) okP_eq okP_eq rfl (rvZ rfl (fun x13 I13 R13 hz13 hq13 => ?_))
      obtain ⟨hRR13, h⟩ := h x13 I13 R13 hz13 hq13; subst hRR13
      exact wp_zreturn dX11_item_172 rfl rfl hz13 h

theorem sX11_readAll {Q : QT} {I : II} {R : RR}  (h : wp (kN 89) mX11_readAll Q 0 [vR 68, none] [] I R 89) : Spec mX11_readAll [vR 68] I R 89 89 Q := Spec_of_wp pyX11_readAll rfl (Nat.le_of_ble_eq_true rfl) (Nat.le_refl _) (by decide) h

set_option maxRecDepth 4000 in
theorem gX11_readAll_0 {Q : QT} {I : II} {R : RR} (hR : SR R) 
    (h : (∃ Q1 : QT, Spec mX11_noRoom [vR 68, vI 1] I R 89 89 Q1 ∧ (∀ I1 R1, Q1 none I1 R1 →
      R = R1 ∧ (∀ I2 : II, I2 = up2 I1 68 14 0 →
      wp (kN 89) mX11_readAll Q 10 [vR 68, none] [] I2 R 89)))) : wp (kN 89) mX11_readAll Q 0 [vR 68, none] [] I R 89 := by
  refine wp_aload_n (pc' := 1) (q := 0) (i := 0) rfl rfl dX11_readAll_0 rfl ?_
  refine wp_iconst (pc' := 2) dX11_readAll_1 rfl ?_
  obtain ⟨Q1, hs1, h⟩ := h
  refine wp_callV (pc' := 5) (as := [vI 1]) (rest := []) hs1 dX11_readAll_2 rfl lkX11_73 okX11_noRoom inX11_noRoom seX11_noRoom o_68 vc10 ⟨Nat.le_of_ble_eq_true rfl, Nat.le_of_ble_eq_true rfl⟩ (Nat.le_of_ble_eq_true rfl) (Nat.le_refl _) (Nat.le_refl _) okP_eq okP_eq rfl (rvV rfl (fun I1 R1 hq1 => ?_))
  obtain ⟨hRR1, h⟩ := h I1 R1 hq1; subst hRR1
  refine wp_aload_n (pc' := 6) (q := 0) (i := 0) rfl rfl dX11_readAll_5 rfl ?_
  refine wp_iconst (pc' := 7) dX11_readAll_6 rfl ?_
  obtain ⟨I2, eI2⟩ : ∃ z : II, z = up2 I1 68 14 0 := ⟨_, rfl⟩
  have h := h I2 eI2
  refine wp_putI (pc' := 10) (k := 14) (I' := I2) dX11_readAll_7 vc10 (by decide) rfl rfl (tyX11_ok 14 (by decide)) lfX11_89 o_68 rfl eI2 ?_
  exact h

set_option maxRecDepth 4000 in
theorem gX11_readAll_10 {Q : QT} {I : II} {R : RR} (hR : SR R) 
    (h : (InI (I 68 14)) ∧
      (InI (I 68 0)) ∧
      (((I 68 0) ≤ (I 68 14) →
      Q (vI (-4)) I R) ∧ (¬ (I 68 0) ≤ (I 68 14) →
      (∃ Q3 : QT, Spec mX11_item [vR 68] I R 89 89 Q3 ∧ (∀ x3 I3 R3, (x3 = 0 ∨ x3 = 1) → Q3 (vI x3) I3 R3 →
      R = R3 ∧ (InI x3) ∧
      ((¬ x3 = 0 →
      wp (kN 89) mX11_readAll Q 10 [vR 68, none] [] I3 R 89) ∧ (x3 = 0 →
      Q (vI (I 68 14)) I3 R))))))) : wp (kN 89) mX11_readAll Q 10 [vR 68, none] [] I R 89 := by
  refine wp_aload_n (pc' := 11) (q := 0) (i := 0) rfl rfl dX11_readAll_10 rfl ?_
  refine wp_getI (pc' := 14) (k := 14) dX11_readAll_11 vc10 (by decide) rfl lfX11_89 o_68 rfl ?_
  refine wp_aload_n (pc' := 15) (q := 0) (i := 0) rfl rfl dX11_readAll_14 rfl ?_
  refine wp_getI (pc' := 18) (k := 0) dX11_readAll_15 vc10 (by decide) rfl lfX11_83 o_68 rfl ?_
  obtain ⟨h1, h⟩ := h
  obtain ⟨h2, h⟩ := h
  refine wp_icmp_ge (pc' := 21) (tgt := 38) h1 h2 dX11_readAll_18 rfl rfl (fun hc => ?_) (fun hc => ?_)
  · have h := h.1 hc
    refine wp_bipush (pc' := 40) (by decide) dX11_readAll_38 rfl ?_
    exact wp_ireturn dX11_readAll_40 rfl rfl h
  · have h := h.2 hc
    refine wp_aload_n (pc' := 22) (q := 0) (i := 0) rfl rfl dX11_readAll_21 rfl ?_
    refine wp_getI (pc' := 25) (k := 14) dX11_readAll_22 vc10 (by decide) rfl lfX11_89 o_68 rfl ?_
    refine wp_istore_n (pc' := 26) (q := 1) (i := 1) (L' := [vR 68, vI (I 68 14)]) rfl (by decide) rfl dX11_readAll_25 rfl rfl ?_
    refine wp_aload_n (pc' := 27) (q := 0) (i := 0) rfl rfl dX11_readAll_26 rfl ?_
    obtain ⟨Q3, hs3, h⟩ := h
    refine wp_callV (pc' := 30) (as := []) (rest := []) hs3 dX11_readAll_27 rfl lkX11_116 okX11_item inX11_item seX11_item o_68 vc10 ⟨Nat.le_of_ble_eq_true rfl, Nat.le_of_ble_eq_true rfl⟩ (Nat.le_of_ble_eq_true rfl) (Nat.le_refl _) (Nat.le_refl _) okP_eq okP_eq rfl (rvZ rfl (fun x3 I3 R3 hz3 hq3 => ?_))
    obtain ⟨hRR3, h⟩ := h x3 I3 R3 hz3 hq3; subst hRR3
    obtain ⟨h4, h⟩ := h
    refine wp_if_ne (pc' := 33) (tgt := 35) h4 dX11_readAll_30 rfl rfl (fun hc => ?_) (fun hc => ?_)
    · have h := h.1 hc
      refine wp_goto (tgt := 10) dX11_readAll_35 rfl ?_
      exact wp_dropP (leP_s (leP_d leP_n)) h
    · have h := h.2 hc
      refine wp_iload_n (pc' := 34) (q := 1) (i := 1) rfl rfl dX11_readAll_33 rfl ?_
      exact wp_ireturn dX11_readAll_34 rfl rfl h

theorem sX11_fault {Q : QT} {I : II} {R : RR}  (h : wp (kN 89) mX11_fault Q 0 [vR 68] [] I R 89) : Spec mX11_fault [vR 68] I R 89 89 Q := Spec_of_wp pyX11_fault rfl (Nat.le_of_ble_eq_true rfl) (Nat.le_refl _) (by decide) h

set_option maxRecDepth 4000 in
theorem gX11_fault_0 {Q : QT} {I : II} {R : RR} (hR : SR R) 
    (h : (∃ Q1 : QT, Spec mX11_readAll [vR 68] I R 89 89 Q1 ∧ (∀ x1 I1 R1, Q1 (vI x1) I1 R1 →
      R = R1 ∧ Q (vI x1) I1 R))) : wp (kN 89) mX11_fault Q 0 [vR 68] [] I R 89 := by
  refine wp_aload_n (pc' := 1) (q := 0) (i := 0) rfl rfl dX11_fault_0 rfl ?_
  obtain ⟨Q1, hs1, h⟩ := h
  refine wp_callV (pc' := 4) (as := []) (rest := []) hs1 dX11_fault_1 rfl lkX11_120 okX11_readAll inX11_readAll seX11_readAll o_68 vc10 ⟨Nat.le_of_ble_eq_true rfl, Nat.le_of_ble_eq_true rfl⟩ (Nat.le_of_ble_eq_true rfl) (Nat.le_refl _) (Nat.le_refl _) okP_eq okP_eq rfl (rvI rfl (fun x1 I1 R1 hq1 => ?_))
  obtain ⟨hRR1, h⟩ := h x1 I1 R1 hq1; subst hRR1
  exact wp_ireturn dX11_fault_4 rfl rfl h

theorem sX11_lay {Q : QT} {I : II} {R : RR}  (h : wp (kN 89) mX11_lay Q 0 [vR 68, none] [] I R 89) : Spec mX11_lay [vR 68] I R 89 89 Q := Spec_of_wp pyX11_lay rfl (Nat.le_of_ble_eq_true rfl) (Nat.le_refl _) (by decide) h

set_option maxRecDepth 4000 in
theorem gX11_lay_0 {Q : QT} {I : II} {R : RR} (hR : SR R) 
    (h : (∃ Q1 : QT, Spec mX11_readAll [vR 68] I R 89 89 Q1 ∧ (∀ x1 I1 R1, Q1 (vI x1) I1 R1 →
      R = R1 ∧ (InI x1) ∧
      ((¬ x1 = (-4 : Int) →
      wp (kN 89) mX11_lay Q 25 [none, none] [] I1 R 89) ∧ (x1 = (-4 : Int) →
      (∃ Q3 : QT, Spec mX11_readMany [vR 68, vI 0] I1 R 89 89 Q3 ∧ (∀ x3 I3 R3, Q3 (vI x3) I3 R3 →
      R = R3 ∧ (InI x3) ∧
      ((x3 = 0 →
      wp (kN 89) mX11_lay Q 25 [none, none] [] I3 R 89) ∧ (¬ (x3 = 0) →
      (∃ Q5 : QT, Spec mX11_readMany [vR 68, vI 1] I3 R 89 89 Q5 ∧ (∀ x5 I5 R5, Q5 (vI x5) I5 R5 →
      R = R5 ∧ (InI x5) ∧
      ((¬ x5 = 0 →
      (∀ I7 : II, I7 = up2 I5 70 0 (I5 70 1) →
      wp (kN 89) mX11_lay Q 42 [vR 68, vI 0] [] I7 R 89)) ∧ (x5 = 0 →
      wp (kN 89) mX11_lay Q 25 [none, none] [] I5 R 89))))))))))))) : wp (kN 89) mX11_lay Q 0 [vR 68, none] [] I R 89 := by
  refine wp_aload_n (pc' := 1) (q := 0) (i := 0) rfl rfl dX11_lay_0 rfl ?_
  obtain ⟨Q1, hs1, h⟩ := h
  refine wp_callV (pc' := 4) (as := []) (rest := []) hs1 dX11_lay_1 rfl lkX11_120 okX11_readAll inX11_readAll seX11_readAll o_68 vc10 ⟨Nat.le_of_ble_eq_true rfl, Nat.le_of_ble_eq_true rfl⟩ (Nat.le_of_ble_eq_true rfl) (Nat.le_refl _) (Nat.le_refl _) okP_eq okP_eq rfl (rvI rfl (fun x1 I1 R1 hq1 => ?_))
  obtain ⟨hRR1, h⟩ := h x1 I1 R1 hq1; subst hRR1
  refine wp_bipush (pc' := 6) (by decide) dX11_lay_4 rfl ?_
  obtain ⟨h2, h⟩ := h
  refine wp_icmp_ne (pc' := 9) (tgt := 25) h2 ⟨by decide, by decide⟩ dX11_lay_6 rfl rfl (fun hc => ?_) (fun hc => ?_)
  · have h := h.1 hc
    exact wp_dropP (leP_d (leP_s leP_n)) h
  · have h := h.2 hc
    refine wp_aload_n (pc' := 10) (q := 0) (i := 0) rfl rfl dX11_lay_9 rfl ?_
    refine wp_iconst (pc' := 11) dX11_lay_10 rfl ?_
    obtain ⟨Q3, hs3, h⟩ := h
    refine wp_callV (pc' := 14) (as := [vI 0]) (rest := []) hs3 dX11_lay_11 rfl lkX11_106 okX11_readMany inX11_readMany seX11_readMany o_68 vc10 ⟨Nat.le_of_ble_eq_true rfl, Nat.le_of_ble_eq_true rfl⟩ (Nat.le_of_ble_eq_true rfl) (Nat.le_refl _) (Nat.le_refl _) okP_eq okP_eq rfl (rvI rfl (fun x3 I3 R3 hq3 => ?_))
    obtain ⟨hRR3, h⟩ := h x3 I3 R3 hq3; subst hRR3
    obtain ⟨h4, h⟩ := h
    refine wp_if_eq (pc' := 17) (tgt := 25) h4 dX11_lay_14 rfl rfl (fun hc => ?_) (fun hc => ?_)
    · have h := h.1 hc
      exact wp_dropP (leP_d (leP_s leP_n)) h
    · have h := h.2 hc
      refine wp_aload_n (pc' := 18) (q := 0) (i := 0) rfl rfl dX11_lay_17 rfl ?_
      refine wp_iconst (pc' := 19) dX11_lay_18 rfl ?_
      obtain ⟨Q5, hs5, h⟩ := h
      refine wp_callV (pc' := 22) (as := [vI 1]) (rest := []) hs5 dX11_lay_19 rfl lkX11_106 okX11_readMany inX11_readMany seX11_readMany o_68 vc10 ⟨Nat.le_of_ble_eq_true rfl, Nat.le_of_ble_eq_true rfl⟩ (Nat.le_of_ble_eq_true rfl) (Nat.le_refl _) (Nat.le_refl _) okP_eq okP_eq rfl (rvI rfl (fun x5 I5 R5 hq5 => ?_))
      obtain ⟨hRR5, h⟩ := h x5 I5 R5 hq5; subst hRR5
      obtain ⟨h6, h⟩ := h
      refine wp_if_ne (pc' := 25) (tgt := 28) h6 dX11_lay_22 rfl rfl (fun hc => ?_) (fun hc => ?_)
      · have h := h.1 hc
        refine wp_aload_n (pc' := 29) (q := 0) (i := 0) rfl rfl dX11_lay_28 rfl ?_
        refine wp_getRc (pc' := 32) (k := 2) (j := 70) dX11_lay_29 vc10 (by decide) rfl lfX11_13 o_68 (r_68_2 hR) rfl ?_
        refine wp_iconst (pc' := 33) dX11_lay_32 rfl ?_
        refine wp_aload_n (pc' := 34) (q := 0) (i := 0) rfl rfl dX11_lay_33 rfl ?_
        refine wp_getRc (pc' := 37) (k := 2) (j := 70) dX11_lay_34 vc10 (by decide) rfl lfX11_13 o_68 (r_68_2 hR) rfl ?_
        refine wp_iconst (pc' := 38) dX11_lay_37 rfl ?_
        refine wp_iald (pc' := 39) (j := 1) dX11_lay_38 a_70 ⟨by decide, by decide⟩ rfl rfl ?_
        obtain ⟨I7, eI7⟩ : ∃ z : II, z = up2 I5 70 0 (I5 70 1) := ⟨_, rfl⟩
        have h := h I7 eI7
        refine wp_iast (pc' := 40) (j := 0) (I' := I7) dX11_lay_39 a_70 ⟨by decide, by decide⟩ rfl rfl eI7 ?_
        refine wp_iconst (pc' := 41) dX11_lay_40 rfl ?_
        refine wp_istore_n (pc' := 42) (q := 1) (i := 1) (L' := [vR 68, vI 0]) rfl (by decide) rfl dX11_lay_41 rfl rfl ?_
        exact h
      · have h := h.2 hc
        exact wp_dropP (leP_d (leP_s leP_n)) h

set_option maxRecDepth 4000 in
theorem gX11_lay_25 {Q : QT} {I : II} {R : RR} (hR : SR R) 
    (h : Q (vI (-2)) I R) : wp (kN 89) mX11_lay Q 25 [none, none] [] I R 89 := by
  refine wp_bipush (pc' := 27) (by decide) dX11_lay_25 rfl ?_
  exact wp_ireturn dX11_lay_27 rfl rfl h

set_option maxRecDepth 4000 in
theorem gX11_lay_42 {Q : QT} {I : II} {R : RR} (hR : SR R) {a1 : Int}
    (h : (InI a1) ∧
      (((20 : Int) ≤ a1 →
      wp (kN 89) mX11_lay Q 101 [vR 68, vI 0] [] I R 89) ∧ (¬ (20 : Int) ≤ a1 →
      (0 ≤ (20 + a1) ∧ (20 + a1) < 40) ∧
      (0 ≤ a1 ∧ a1 < 40) ∧
      (∀ I4 : II, I4 = up2 I 71 (a1.toNat) (I 71 (20 + a1).toNat) →
      (∀ I5 : II, I5 = up2 I4 72 (a1.toNat) (I4 72 (20 + a1).toNat) →
      (∀ I6 : II, I6 = up2 I5 73 (a1.toNat) (I5 73 (20 + a1).toNat) →
      wp (kN 89) mX11_lay Q 42 [vR 68, vI (a1 + 1)] [] I6 R 89)))))) : wp (kN 89) mX11_lay Q 42 [vR 68, vI a1] [] I R 89 := by
  refine wp_iload_n (pc' := 43) (q := 1) (i := 1) rfl rfl dX11_lay_42 rfl ?_
  refine wp_bipush (pc' := 45) (by decide) dX11_lay_43 rfl ?_
  obtain ⟨h1, h⟩ := h
  refine wp_icmp_ge (pc' := 48) (tgt := 99) h1 ⟨by decide, by decide⟩ dX11_lay_45 rfl rfl (fun hc => ?_) (fun hc => ?_)
  · have h := h.1 hc
    refine wp_iconst (pc' := 100) dX11_lay_99 rfl ?_
    refine wp_istore_n (pc' := 101) (q := 1) (i := 1) (L' := [vR 68, vI 0]) rfl (by decide) rfl dX11_lay_100 rfl rfl ?_
    exact h
  · have h := h.2 hc
    refine wp_aload_n (pc' := 49) (q := 0) (i := 0) rfl rfl dX11_lay_48 rfl ?_
    refine wp_getRc (pc' := 52) (k := 3) (j := 71) dX11_lay_49 vc10 (by decide) rfl lfX11_16 o_68 (r_68_3 hR) rfl ?_
    refine wp_iload_n (pc' := 53) (q := 1) (i := 1) rfl rfl dX11_lay_52 rfl ?_
    refine wp_aload_n (pc' := 54) (q := 0) (i := 0) rfl rfl dX11_lay_53 rfl ?_
    refine wp_getRc (pc' := 57) (k := 3) (j := 71) dX11_lay_54 vc10 (by decide) rfl lfX11_16 o_68 (r_68_3 hR) rfl ?_
    refine wp_bipush (pc' := 59) (by decide) dX11_lay_57 rfl ?_
    refine wp_iload_n (pc' := 60) (q := 1) (i := 1) rfl rfl dX11_lay_59 rfl ?_
    refine wp_iadd (pc' := 61) dX11_lay_60 rfl ?_
    obtain ⟨h2, h⟩ := h
    refine wp_iald (pc' := 62) (j := (20 + a1).toNat) dX11_lay_61 a_71 h2 rfl rfl ?_
    obtain ⟨h3, h⟩ := h
    obtain ⟨I4, eI4⟩ : ∃ z : II, z = up2 I 71 (a1.toNat) (I 71 (20 + a1).toNat) := ⟨_, rfl⟩
    have h := h I4 eI4
    refine wp_iast (pc' := 63) (j := a1.toNat) (I' := I4) dX11_lay_62 a_71 h3 rfl rfl eI4 ?_
    refine wp_aload_n (pc' := 64) (q := 0) (i := 0) rfl rfl dX11_lay_63 rfl ?_
    refine wp_getRc (pc' := 67) (k := 4) (j := 72) dX11_lay_64 vc10 (by decide) rfl lfX11_19 o_68 (r_68_4 hR) rfl ?_
    refine wp_iload_n (pc' := 68) (q := 1) (i := 1) rfl rfl dX11_lay_67 rfl ?_
    refine wp_aload_n (pc' := 69) (q := 0) (i := 0) rfl rfl dX11_lay_68 rfl ?_
    refine wp_getRc (pc' := 72) (k := 4) (j := 72) dX11_lay_69 vc10 (by decide) rfl lfX11_19 o_68 (r_68_4 hR) rfl ?_
    refine wp_bipush (pc' := 74) (by decide) dX11_lay_72 rfl ?_
    refine wp_iload_n (pc' := 75) (q := 1) (i := 1) rfl rfl dX11_lay_74 rfl ?_
    refine wp_iadd (pc' := 76) dX11_lay_75 rfl ?_
    refine wp_iald (pc' := 77) (j := (20 + a1).toNat) dX11_lay_76 a_72 h2 rfl rfl ?_
    obtain ⟨I5, eI5⟩ : ∃ z : II, z = up2 I4 72 (a1.toNat) (I4 72 (20 + a1).toNat) := ⟨_, rfl⟩
    have h := h I5 eI5
    refine wp_iast (pc' := 78) (j := a1.toNat) (I' := I5) dX11_lay_77 a_72 h3 rfl rfl eI5 ?_
    refine wp_aload_n (pc' := 79) (q := 0) (i := 0) rfl rfl dX11_lay_78 rfl ?_
    refine wp_getRc (pc' := 82) (k := 5) (j := 73) dX11_lay_79 vc10 (by decide) rfl lfX11_22 o_68 (r_68_5 hR) rfl ?_
    refine wp_iload_n (pc' := 83) (q := 1) (i := 1) rfl rfl dX11_lay_82 rfl ?_
    refine wp_aload_n (pc' := 84) (q := 0) (i := 0) rfl rfl dX11_lay_83 rfl ?_
    refine wp_getRc (pc' := 87) (k := 5) (j := 73) dX11_lay_84 vc10 (by decide) rfl lfX11_22 o_68 (r_68_5 hR) rfl ?_
    refine wp_bipush (pc' := 89) (by decide) dX11_lay_87 rfl ?_
    refine wp_iload_n (pc' := 90) (q := 1) (i := 1) rfl rfl dX11_lay_89 rfl ?_
    refine wp_iadd (pc' := 91) dX11_lay_90 rfl ?_
    refine wp_iald (pc' := 92) (j := (20 + a1).toNat) dX11_lay_91 a_73 h2 rfl rfl ?_
    obtain ⟨I6, eI6⟩ : ∃ z : II, z = up2 I5 73 (a1.toNat) (I5 73 (20 + a1).toNat) := ⟨_, rfl⟩
    have h := h I6 eI6
    refine wp_iast (pc' := 93) (j := a1.toNat) (I' := I6) dX11_lay_92 a_73 h3 rfl rfl eI6 ?_
    refine wp_iinc (pc' := 96) (i := 1) (L' := [vR 68, vI (a1 + 1)]) rfl (by decide) rfl dX11_lay_93 rfl rfl ?_
    refine wp_goto (tgt := 42) dX11_lay_96 rfl ?_
    exact h

set_option maxRecDepth 4000 in
theorem gX11_lay_101 {Q : QT} {I : II} {R : RR} (hR : SR R) {a1 : Int}
    (h : (InI a1) ∧
      (((5 : Int) ≤ a1 →
      (∀ I2 : II, I2 = up2 I 75 0 0 →
      (∀ I3 : II, I3 = up2 I2 68 13 0 →
      Q (vI (I3 70 0)) I3 R))) ∧ (¬ (5 : Int) ≤ a1 →
      (0 ≤ (5 + a1) ∧ (5 + a1) < 10) ∧
      (0 ≤ a1 ∧ a1 < 10) ∧
      (∀ I6 : II, I6 = up2 I 74 (a1.toNat) (I 74 (5 + a1).toNat) →
      wp (kN 89) mX11_lay Q 101 [vR 68, vI (a1 + 1)] [] I6 R 89)))) : wp (kN 89) mX11_lay Q 101 [vR 68, vI a1] [] I R 89 := by
  refine wp_iload_n (pc' := 102) (q := 1) (i := 1) rfl rfl dX11_lay_101 rfl ?_
  refine wp_iconst (pc' := 103) dX11_lay_102 rfl ?_
  obtain ⟨h1, h⟩ := h
  refine wp_icmp_ge (pc' := 106) (tgt := 126) h1 ⟨by decide, by decide⟩ dX11_lay_103 rfl rfl (fun hc => ?_) (fun hc => ?_)
  · have h := h.1 hc
    refine wp_aload_n (pc' := 127) (q := 0) (i := 0) rfl rfl dX11_lay_126 rfl ?_
    refine wp_getRc (pc' := 130) (k := 7) (j := 75) dX11_lay_127 vc10 (by decide) rfl lfX11_28 o_68 (r_68_7 hR) rfl ?_
    refine wp_iconst (pc' := 131) dX11_lay_130 rfl ?_
    refine wp_iconst (pc' := 132) dX11_lay_131 rfl ?_
    obtain ⟨I2, eI2⟩ : ∃ z : II, z = up2 I 75 0 0 := ⟨_, rfl⟩
    have h := h I2 eI2
    refine wp_iast (pc' := 133) (j := 0) (I' := I2) dX11_lay_132 a_75 ⟨by decide, by decide⟩ rfl rfl eI2 ?_
    refine wp_aload_n (pc' := 134) (q := 0) (i := 0) rfl rfl dX11_lay_133 rfl ?_
    refine wp_iconst (pc' := 135) dX11_lay_134 rfl ?_
    obtain ⟨I3, eI3⟩ : ∃ z : II, z = up2 I2 68 13 0 := ⟨_, rfl⟩
    have h := h I3 eI3
    refine wp_putI (pc' := 138) (k := 13) (I' := I3) dX11_lay_135 vc10 (by decide) rfl rfl (tyX11_ok 13 (by decide)) lfX11_124 o_68 rfl eI3 ?_
    refine wp_aload_n (pc' := 139) (q := 0) (i := 0) rfl rfl dX11_lay_138 rfl ?_
    refine wp_getRc (pc' := 142) (k := 2) (j := 70) dX11_lay_139 vc10 (by decide) rfl lfX11_13 o_68 (r_68_2 hR) rfl ?_
    refine wp_iconst (pc' := 143) dX11_lay_142 rfl ?_
    refine wp_iald (pc' := 144) (j := 0) dX11_lay_143 a_70 ⟨by decide, by decide⟩ rfl rfl ?_
    exact wp_ireturn dX11_lay_144 rfl rfl h
  · have h := h.2 hc
    refine wp_aload_n (pc' := 107) (q := 0) (i := 0) rfl rfl dX11_lay_106 rfl ?_
    refine wp_getRc (pc' := 110) (k := 6) (j := 74) dX11_lay_107 vc10 (by decide) rfl lfX11_25 o_68 (r_68_6 hR) rfl ?_
    refine wp_iload_n (pc' := 111) (q := 1) (i := 1) rfl rfl dX11_lay_110 rfl ?_
    refine wp_aload_n (pc' := 112) (q := 0) (i := 0) rfl rfl dX11_lay_111 rfl ?_
    refine wp_getRc (pc' := 115) (k := 6) (j := 74) dX11_lay_112 vc10 (by decide) rfl lfX11_25 o_68 (r_68_6 hR) rfl ?_
    refine wp_iconst (pc' := 116) dX11_lay_115 rfl ?_
    refine wp_iload_n (pc' := 117) (q := 1) (i := 1) rfl rfl dX11_lay_116 rfl ?_
    refine wp_iadd (pc' := 118) dX11_lay_117 rfl ?_
    obtain ⟨h4, h⟩ := h
    refine wp_iald (pc' := 119) (j := (5 + a1).toNat) dX11_lay_118 a_74 h4 rfl rfl ?_
    obtain ⟨h5, h⟩ := h
    obtain ⟨I6, eI6⟩ : ∃ z : II, z = up2 I 74 (a1.toNat) (I 74 (5 + a1).toNat) := ⟨_, rfl⟩
    have h := h I6 eI6
    refine wp_iast (pc' := 120) (j := a1.toNat) (I' := I6) dX11_lay_119 a_74 h5 rfl rfl eI6 ?_
    refine wp_iinc (pc' := 123) (i := 1) (L' := [vR 68, vI (a1 + 1)]) rfl (by decide) rfl dX11_lay_120 rfl rfl ?_
    refine wp_goto (tgt := 101) dX11_lay_123 rfl ?_
    exact h

theorem sX11_manyOf {Q : QT} {I : II} {R : RR} {a1 : Int} (h : wp (kN 89) mX11_manyOf Q 0 [vR 68, vI a1, none, none] [] I R 89) : Spec mX11_manyOf [vR 68, vI a1] I R 89 89 Q := Spec_of_wp pyX11_manyOf rfl (Nat.le_of_ble_eq_true rfl) (Nat.le_refl _) (by decide) h

set_option maxRecDepth 4000 in
theorem gX11_manyOf_0 {Q : QT} {I : II} {R : RR} (hR : SR R) {a1 : Int}
    (h : wp (kN 89) mX11_manyOf Q 4 [vR 68, vI a1, vI 0, vI 0] [] I R 89) : wp (kN 89) mX11_manyOf Q 0 [vR 68, vI a1, none, none] [] I R 89 := by
  refine wp_iconst (pc' := 1) dX11_manyOf_0 rfl ?_
  refine wp_istore_n (pc' := 2) (q := 2) (i := 2) (L' := [vR 68, vI a1, vI 0, none]) rfl (by decide) rfl dX11_manyOf_1 rfl rfl ?_
  refine wp_iconst (pc' := 3) dX11_manyOf_2 rfl ?_
  refine wp_istore_n (pc' := 4) (q := 3) (i := 3) (L' := [vR 68, vI a1, vI 0, vI 0]) rfl (by decide) rfl dX11_manyOf_3 rfl rfl ?_
  exact h

set_option maxRecDepth 4000 in
theorem gX11_manyOf_4 {Q : QT} {I : II} {R : RR} (hR : SR R) {a1 : Int} {a2 : Int} {a3 : Int}
    (h : (InI a3) ∧
      (InI (I 70 0)) ∧
      (((I 70 0) ≤ a3 →
      Q (vI a2) I R) ∧ (¬ (I 70 0) ≤ a3 →
      (0 ≤ a3 ∧ a3 < 40) ∧
      (InI (I 71 a3.toNat)) ∧
      (InI a1) ∧
      ((¬ (I 71 a3.toNat) = a1 →
      wp (kN 89) mX11_manyOf Q 4 [vR 68, vI a1, vI (a2 + 0), vI (a3 + 1)] [] I R 89) ∧ ((I 71 a3.toNat) = a1 →
      wp (kN 89) mX11_manyOf Q 4 [vR 68, vI a1, vI (a2 + 1), vI (a3 + 1)] [] I R 89))))) : wp (kN 89) mX11_manyOf Q 4 [vR 68, vI a1, vI a2, vI a3] [] I R 89 := by
  refine wp_iload_n (pc' := 5) (q := 3) (i := 3) rfl rfl dX11_manyOf_4 rfl ?_
  refine wp_aload_n (pc' := 6) (q := 0) (i := 0) rfl rfl dX11_manyOf_5 rfl ?_
  refine wp_getRc (pc' := 9) (k := 2) (j := 70) dX11_manyOf_6 vc10 (by decide) rfl lfX11_13 o_68 (r_68_2 hR) rfl ?_
  refine wp_iconst (pc' := 10) dX11_manyOf_9 rfl ?_
  refine wp_iald (pc' := 11) (j := 0) dX11_manyOf_10 a_70 ⟨by decide, by decide⟩ rfl rfl ?_
  obtain ⟨h1, h⟩ := h
  obtain ⟨h2, h⟩ := h
  refine wp_icmp_ge (pc' := 14) (tgt := 38) h1 h2 dX11_manyOf_11 rfl rfl (fun hc => ?_) (fun hc => ?_)
  · have h := h.1 hc
    refine wp_iload_n (pc' := 39) (q := 2) (i := 2) rfl rfl dX11_manyOf_38 rfl ?_
    exact wp_ireturn dX11_manyOf_39 rfl rfl h
  · have h := h.2 hc
    refine wp_iload_n (pc' := 15) (q := 2) (i := 2) rfl rfl dX11_manyOf_14 rfl ?_
    refine wp_aload_n (pc' := 16) (q := 0) (i := 0) rfl rfl dX11_manyOf_15 rfl ?_
    refine wp_getRc (pc' := 19) (k := 3) (j := 71) dX11_manyOf_16 vc10 (by decide) rfl lfX11_16 o_68 (r_68_3 hR) rfl ?_
    refine wp_iload_n (pc' := 20) (q := 3) (i := 3) rfl rfl dX11_manyOf_19 rfl ?_
    obtain ⟨h3, h⟩ := h
    refine wp_iald (pc' := 21) (j := a3.toNat) dX11_manyOf_20 a_71 h3 rfl rfl ?_
    refine wp_iload_n (pc' := 22) (q := 1) (i := 1) rfl rfl dX11_manyOf_21 rfl ?_
    obtain ⟨h4, h⟩ := h
    obtain ⟨h5, h⟩ := h
    refine wp_icmp_ne (pc' := 25) (tgt := 29) h4 h5 dX11_manyOf_22 rfl rfl (fun hc => ?_) (fun hc => ?_)
    · have h := h.1 hc
      refine wp_iconst (pc' := 30) dX11_manyOf_29 rfl ?_
      refine wp_iadd (pc' := 31) dX11_manyOf_30 rfl ?_
      refine wp_istore_n (pc' := 32) (q := 2) (i := 2) (L' := [vR 68, vI a1, vI (a2 + 0), vI a3]) rfl (by decide) rfl dX11_manyOf_31 rfl rfl ?_
      refine wp_iinc (pc' := 35) (i := 3) (L' := [vR 68, vI a1, vI (a2 + 0), vI (a3 + 1)]) rfl (by decide) rfl dX11_manyOf_32 rfl rfl ?_
      refine wp_goto (tgt := 4) dX11_manyOf_35 rfl ?_
      exact h
    · have h := h.2 hc
      refine wp_iconst (pc' := 26) dX11_manyOf_25 rfl ?_
      refine wp_goto (tgt := 30) dX11_manyOf_26 rfl ?_
      refine wp_iadd (pc' := 31) dX11_manyOf_30 rfl ?_
      refine wp_istore_n (pc' := 32) (q := 2) (i := 2) (L' := [vR 68, vI a1, vI (a2 + 1), vI a3]) rfl (by decide) rfl dX11_manyOf_31 rfl rfl ?_
      refine wp_iinc (pc' := 35) (i := 3) (L' := [vR 68, vI a1, vI (a2 + 1), vI (a3 + 1)]) rfl (by decide) rfl dX11_manyOf_32 rfl rfl ?_
      refine wp_goto (tgt := 4) dX11_manyOf_35 rfl ?_
      exact h

theorem sX11_person {Q : QT} {I : II} {R : RR} {a1 : Int} {a2 : Int} (h : wp (kN 89) mX11_person Q 0 [vR 68, vI a1, vI a2] [] I R 89) : Spec mX11_person [vR 68, vI a1, vI a2] I R 89 89 Q := Spec_of_wp pyX11_person rfl (Nat.le_of_ble_eq_true rfl) (Nat.le_refl _) (by decide) h

set_option maxRecDepth 4000 in
theorem gX11_person_0 {Q : QT} {I : II} {R : RR} (hR : SR R) {a1 : Int} {a2 : Int}
    (h : (InI a1) ∧
      (InI (I 70 0 - 1)) ∧
      ((0 ≤ a1 ∧ a1 ≤ I 70 0 - 1 →
      (InI a2) ∧
      (((0 : Int) ≤ a2 ∧ a2 ≤ (2 : Int) →
      ((¬ a2 = 0 →
      ((¬ a2 = (1 : Int) →
      (0 ≤ a1 ∧ a1 < 40) ∧
      Q (vI (I 73 a1.toNat)) I R) ∧ (a2 = (1 : Int) →
      (0 ≤ a1 ∧ a1 < 40) ∧
      Q (vI (I 72 a1.toNat)) I R))) ∧ (a2 = 0 →
      (0 ≤ a1 ∧ a1 < 40) ∧
      Q (vI (I 71 a1.toNat)) I R))) ∧ (¬ ((0 : Int) ≤ a2 ∧ a2 ≤ (2 : Int)) →
      wp (kN 89) mX11_person Q 20 [none, none, none] [] I R 89))) ∧ (¬ (0 ≤ a1 ∧ a1 ≤ I 70 0 - 1) →
      wp (kN 89) mX11_person Q 20 [none, none, none] [] I R 89))) : wp (kN 89) mX11_person Q 0 [vR 68, vI a1, vI a2] [] I R 89 := by
  refine wp_aload_n (pc' := 1) (q := 0) (i := 0) rfl rfl dX11_person_0 rfl ?_
  refine wp_iload_n (pc' := 2) (q := 1) (i := 1) rfl rfl dX11_person_1 rfl ?_
  obtain ⟨h2, h⟩ := h
  obtain ⟨h3, h⟩ := h
  refine wp_callV (pc' := 5) (as := [vI a1]) (rest := []) (pX11_isPerson hR h2 h3) dX11_person_2 rfl lkX11_127 okX11_isPerson inX11_isPerson seX11_isPerson o_68 vc10 ⟨Nat.le_of_ble_eq_true rfl, Nat.le_of_ble_eq_true rfl⟩ (Nat.le_of_ble_eq_true rfl) (Nat.le_refl _) (Nat.le_refl _) okP_eq okP_eq rfl (rvZ rfl (fun x1 I1 R1 hz1 hq1 => ?_))
  obtain ⟨eR1, eI1, ex1⟩ := hq1; subst eR1; subst eI1; cases ex1
  by_cases hc : 0 ≤ a1 ∧ a1 ≤ I 70 0 - 1
  · rw [if_pos hc]; have h := h.1 hc
    refine wp_if_eq (pc' := 8) (tgt := 20) ⟨by decide, by decide⟩ dX11_person_5 rfl rfl (fun hc => by exfalso; revert hc; decide) (fun hc => ?_)
    refine wp_iload_n (pc' := 9) (q := 2) (i := 2) rfl rfl dX11_person_8 rfl ?_
    obtain ⟨h4, h⟩ := h
    refine wp_i2l (pc' := 10) h4 dX11_person_9 rfl ?_
    refine wp_lconst (pc' := 11) dX11_person_10 rfl ?_
    refine wp_ldc2 (pc' := 14) (x := 2) lcX11_130 (by decide +kernel) dX11_person_11 rfl ?_
    refine wp_callS (pc' := 17) (as := [vL a2, vL 0, vL 2]) (rest := []) (pX11_in (by decide) (inL_of h4) ⟨by decide, by decide⟩ ⟨by decide, by decide⟩) dX11_person_14 rfl lkX11_79 okX11_in stX11_in ⟨Nat.le_of_ble_eq_true rfl, Nat.le_of_ble_eq_true rfl⟩ (Nat.le_of_ble_eq_true rfl) (Nat.le_refl _) (Nat.le_refl _) okP_eq okP_eq rfl (rvZ rfl (fun x5 I5 R5 hz5 hq5 => ?_))
    obtain ⟨eR5, eI5, ex5⟩ := hq5; subst eR5; subst eI5; cases ex5
    by_cases hc : (0 : Int) ≤ a2 ∧ a2 ≤ (2 : Int)
    · rw [if_pos hc]; have h := h.1 hc
      refine wp_if_ne (pc' := 20) (tgt := 22) ⟨by decide, by decide⟩ dX11_person_17 rfl rfl (fun hc => ?_) (fun hc => by exfalso; revert hc; decide)
      refine wp_iload_n (pc' := 23) (q := 2) (i := 2) rfl rfl dX11_person_22 rfl ?_
      refine wp_if_ne (pc' := 26) (tgt := 35) h4 dX11_person_23 rfl rfl (fun hc => ?_) (fun hc => ?_)
      · have h := h.1 hc
        refine wp_iload_n (pc' := 36) (q := 2) (i := 2) rfl rfl dX11_person_35 rfl ?_
        refine wp_iconst (pc' := 37) dX11_person_36 rfl ?_
        refine wp_icmp_ne (pc' := 40) (tgt := 49) h4 ⟨by decide, by decide⟩ dX11_person_37 rfl rfl (fun hc => ?_) (fun hc => ?_)
        · have h := h.1 hc
          refine wp_aload_n (pc' := 50) (q := 0) (i := 0) rfl rfl dX11_person_49 rfl ?_
          refine wp_getRc (pc' := 53) (k := 5) (j := 73) dX11_person_50 vc10 (by decide) rfl lfX11_22 o_68 (r_68_5 hR) rfl ?_
          refine wp_iload_n (pc' := 54) (q := 1) (i := 1) rfl rfl dX11_person_53 rfl ?_
          obtain ⟨h6, h⟩ := h
          refine wp_iald (pc' := 55) (j := a1.toNat) dX11_person_54 a_73 h6 rfl rfl ?_
          exact wp_ireturn dX11_person_55 rfl rfl h
        · have h := h.2 hc
          refine wp_aload_n (pc' := 41) (q := 0) (i := 0) rfl rfl dX11_person_40 rfl ?_
          refine wp_getRc (pc' := 44) (k := 4) (j := 72) dX11_person_41 vc10 (by decide) rfl lfX11_19 o_68 (r_68_4 hR) rfl ?_
          refine wp_iload_n (pc' := 45) (q := 1) (i := 1) rfl rfl dX11_person_44 rfl ?_
          obtain ⟨h7, h⟩ := h
          refine wp_iald (pc' := 46) (j := a1.toNat) dX11_person_45 a_72 h7 rfl rfl ?_
          refine wp_goto (tgt := 55) dX11_person_46 rfl ?_
          exact wp_ireturn dX11_person_55 rfl rfl h
      · have h := h.2 hc
        refine wp_aload_n (pc' := 27) (q := 0) (i := 0) rfl rfl dX11_person_26 rfl ?_
        refine wp_getRc (pc' := 30) (k := 3) (j := 71) dX11_person_27 vc10 (by decide) rfl lfX11_16 o_68 (r_68_3 hR) rfl ?_
        refine wp_iload_n (pc' := 31) (q := 1) (i := 1) rfl rfl dX11_person_30 rfl ?_
        obtain ⟨h8, h⟩ := h
        refine wp_iald (pc' := 32) (j := a1.toNat) dX11_person_31 a_71 h8 rfl rfl ?_
        refine wp_goto (tgt := 55) dX11_person_32 rfl ?_
        exact wp_ireturn dX11_person_55 rfl rfl h
    · rw [if_neg hc]; have h := h.2 hc
      refine wp_if_ne (pc' := 20) (tgt := 22) ⟨by decide, by decide⟩ dX11_person_17 rfl rfl (fun hc => by exfalso; revert hc; decide) (fun hc => ?_)
      exact wp_dropP (leP_d (leP_d (leP_d leP_n))) h
  · rw [if_neg hc]; have h := h.2 hc
    refine wp_if_eq (pc' := 8) (tgt := 20) ⟨by decide, by decide⟩ dX11_person_5 rfl rfl (fun hc => ?_) (fun hc => by exfalso; revert hc; decide)
    exact wp_dropP (leP_d (leP_d (leP_d leP_n))) h

set_option maxRecDepth 4000 in
theorem gX11_person_20 {Q : QT} {I : II} {R : RR} (hR : SR R) 
    (h : Q (vI (-1)) I R) : wp (kN 89) mX11_person Q 20 [none, none, none] [] I R 89 := by
  refine wp_iconst (pc' := 21) dX11_person_20 rfl ?_
  exact wp_ireturn dX11_person_21 rfl rfl h

theorem sX11_law {Q : QT} {I : II} {R : RR} {a1 : Int} {a2 : Int} (h : wp (kN 89) mX11_law Q 0 [vR 68, vI a1, vI a2, none] [] I R 89) : Spec mX11_law [vR 68, vI a1, vI a2] I R 89 89 Q := Spec_of_wp pyX11_law rfl (Nat.le_of_ble_eq_true rfl) (Nat.le_refl _) (by decide) h

set_option maxRecDepth 4000 in
theorem gX11_law_0 {Q : QT} {I : II} {R : RR} (hR : SR R) {a1 : Int} {a2 : Int}
    (h : (InI a1) ∧
      (InI (I 70 0 - 1)) ∧
      ((0 ≤ a1 ∧ a1 ≤ I 70 0 - 1 →
      (InI a2) ∧
      (((0 : Int) ≤ a2 ∧ a2 ≤ (5 : Int) →
      (0 ≤ a1 ∧ a1 < 40) ∧
      (∀ I7 : II, I7 = up2 I 73 (a1.toNat) a2 →
      Q (vI (I 73 a1.toNat)) I7 R)) ∧ (¬ ((0 : Int) ≤ a2 ∧ a2 ≤ (5 : Int)) →
      wp (kN 89) mX11_law Q 20 [none, none, none, none] [] I R 89))) ∧ (¬ (0 ≤ a1 ∧ a1 ≤ I 70 0 - 1) →
      wp (kN 89) mX11_law Q 20 [none, none, none, none] [] I R 89))) : wp (kN 89) mX11_law Q 0 [vR 68, vI a1, vI a2, none] [] I R 89 := by
  refine wp_aload_n (pc' := 1) (q := 0) (i := 0) rfl rfl dX11_law_0 rfl ?_
  refine wp_iload_n (pc' := 2) (q := 1) (i := 1) rfl rfl dX11_law_1 rfl ?_
  obtain ⟨h2, h⟩ := h
  obtain ⟨h3, h⟩ := h
  refine wp_callV (pc' := 5) (as := [vI a1]) (rest := []) (pX11_isPerson hR h2 h3) dX11_law_2 rfl lkX11_127 okX11_isPerson inX11_isPerson seX11_isPerson o_68 vc10 ⟨Nat.le_of_ble_eq_true rfl, Nat.le_of_ble_eq_true rfl⟩ (Nat.le_of_ble_eq_true rfl) (Nat.le_refl _) (Nat.le_refl _) okP_eq okP_eq rfl (rvZ rfl (fun x1 I1 R1 hz1 hq1 => ?_))
  obtain ⟨eR1, eI1, ex1⟩ := hq1; subst eR1; subst eI1; cases ex1
  by_cases hc : 0 ≤ a1 ∧ a1 ≤ I 70 0 - 1
  · rw [if_pos hc]; have h := h.1 hc
    refine wp_if_eq (pc' := 8) (tgt := 20) ⟨by decide, by decide⟩ dX11_law_5 rfl rfl (fun hc => by exfalso; revert hc; decide) (fun hc => ?_)
    refine wp_iload_n (pc' := 9) (q := 2) (i := 2) rfl rfl dX11_law_8 rfl ?_
    obtain ⟨h4, h⟩ := h
    refine wp_i2l (pc' := 10) h4 dX11_law_9 rfl ?_
    refine wp_lconst (pc' := 11) dX11_law_10 rfl ?_
    refine wp_ldc2 (pc' := 14) (x := 5) lcX11_132 (by decide +kernel) dX11_law_11 rfl ?_
    refine wp_callS (pc' := 17) (as := [vL a2, vL 0, vL 5]) (rest := []) (pX11_in (by decide) (inL_of h4) ⟨by decide, by decide⟩ ⟨by decide, by decide⟩) dX11_law_14 rfl lkX11_79 okX11_in stX11_in ⟨Nat.le_of_ble_eq_true rfl, Nat.le_of_ble_eq_true rfl⟩ (Nat.le_of_ble_eq_true rfl) (Nat.le_refl _) (Nat.le_refl _) okP_eq okP_eq rfl (rvZ rfl (fun x5 I5 R5 hz5 hq5 => ?_))
    obtain ⟨eR5, eI5, ex5⟩ := hq5; subst eR5; subst eI5; cases ex5
    by_cases hc : (0 : Int) ≤ a2 ∧ a2 ≤ (5 : Int)
    · rw [if_pos hc]; have h := h.1 hc
      refine wp_if_ne (pc' := 20) (tgt := 22) ⟨by decide, by decide⟩ dX11_law_17 rfl rfl (fun hc => ?_) (fun hc => by exfalso; revert hc; decide)
      refine wp_aload_n (pc' := 23) (q := 0) (i := 0) rfl rfl dX11_law_22 rfl ?_
      refine wp_getRc (pc' := 26) (k := 5) (j := 73) dX11_law_23 vc10 (by decide) rfl lfX11_22 o_68 (r_68_5 hR) rfl ?_
      refine wp_iload_n (pc' := 27) (q := 1) (i := 1) rfl rfl dX11_law_26 rfl ?_
      obtain ⟨h6, h⟩ := h
      refine wp_iald (pc' := 28) (j := a1.toNat) dX11_law_27 a_73 h6 rfl rfl ?_
      refine wp_istore_n (pc' := 29) (q := 3) (i := 3) (L' := [vR 68, vI a1, vI a2, vI (I 73 a1.toNat)]) rfl (by decide) rfl dX11_law_28 rfl rfl ?_
      refine wp_aload_n (pc' := 30) (q := 0) (i := 0) rfl rfl dX11_law_29 rfl ?_
      refine wp_getRc (pc' := 33) (k := 5) (j := 73) dX11_law_30 vc10 (by decide) rfl lfX11_22 o_68 (r_68_5 hR) rfl ?_
      refine wp_iload_n (pc' := 34) (q := 1) (i := 1) rfl rfl dX11_law_33 rfl ?_
      refine wp_iload_n (pc' := 35) (q := 2) (i := 2) rfl rfl dX11_law_34 rfl ?_
      obtain ⟨I7, eI7⟩ : ∃ z : II, z = up2 I 73 (a1.toNat) a2 := ⟨_, rfl⟩
      have h := h I7 eI7
      refine wp_iast (pc' := 36) (j := a1.toNat) (I' := I7) dX11_law_35 a_73 h6 rfl rfl eI7 ?_
      refine wp_iload_n (pc' := 37) (q := 3) (i := 3) rfl rfl dX11_law_36 rfl ?_
      exact wp_ireturn dX11_law_37 rfl rfl h
    · rw [if_neg hc]; have h := h.2 hc
      refine wp_if_ne (pc' := 20) (tgt := 22) ⟨by decide, by decide⟩ dX11_law_17 rfl rfl (fun hc => by exfalso; revert hc; decide) (fun hc => ?_)
      exact wp_dropP (leP_d (leP_d (leP_d (leP_s leP_n)))) h
  · rw [if_neg hc]; have h := h.2 hc
    refine wp_if_eq (pc' := 8) (tgt := 20) ⟨by decide, by decide⟩ dX11_law_5 rfl rfl (fun hc => ?_) (fun hc => by exfalso; revert hc; decide)
    exact wp_dropP (leP_d (leP_d (leP_d (leP_s leP_n)))) h

set_option maxRecDepth 4000 in
theorem gX11_law_20 {Q : QT} {I : II} {R : RR} (hR : SR R) 
    (h : Q (vI (-1)) I R) : wp (kN 89) mX11_law Q 20 [none, none, none, none] [] I R 89 := by
  refine wp_iconst (pc' := 21) dX11_law_20 rfl ?_
  exact wp_ireturn dX11_law_21 rfl rfl h

theorem sX11_showTrue {Q : QT} {I : II} {R : RR}  (h : wp (kN 89) mX11_showTrue Q 0 [vR 68, none] [] I R 89) : Spec mX11_showTrue [vR 68] I R 89 89 Q := Spec_of_wp pyX11_showTrue rfl (Nat.le_of_ble_eq_true rfl) (Nat.le_refl _) (by decide) h

set_option maxRecDepth 4000 in
theorem gX11_showTrue_0 {Q : QT} {I : II} {R : RR} (hR : SR R) 
    (h : wp (kN 89) mX11_showTrue Q 2 [vR 68, vI 0] [] I R 89) : wp (kN 89) mX11_showTrue Q 0 [vR 68, none] [] I R 89 := by
  refine wp_iconst (pc' := 1) dX11_showTrue_0 rfl ?_
  refine wp_istore_n (pc' := 2) (q := 1) (i := 1) (L' := [vR 68, vI 0]) rfl (by decide) rfl dX11_showTrue_1 rfl rfl ?_
  exact h

set_option maxRecDepth 4000 in
theorem gX11_showTrue_2 {Q : QT} {I : II} {R : RR} (hR : SR R) {a1 : Int}
    (h : (InI a1) ∧
      (InI (I 70 0)) ∧
      (((I 70 0) ≤ a1 →
      Q none I R) ∧ (¬ (I 70 0) ≤ a1 →
      (0 ≤ a1 ∧ a1 < 40) ∧
      (0 ≤ a1 ∧ a1 < 20) ∧
      (∀ I5 : II, I5 = up2 I 82 (a1.toNat) (I 72 a1.toNat) →
      wp (kN 89) mX11_showTrue Q 2 [vR 68, vI (a1 + 1)] [] I5 R 89)))) : wp (kN 89) mX11_showTrue Q 2 [vR 68, vI a1] [] I R 89 := by
  refine wp_iload_n (pc' := 3) (q := 1) (i := 1) rfl rfl dX11_showTrue_2 rfl ?_
  refine wp_aload_n (pc' := 4) (q := 0) (i := 0) rfl rfl dX11_showTrue_3 rfl ?_
  refine wp_getRc (pc' := 7) (k := 2) (j := 70) dX11_showTrue_4 vc10 (by decide) rfl lfX11_13 o_68 (r_68_2 hR) rfl ?_
  refine wp_iconst (pc' := 8) dX11_showTrue_7 rfl ?_
  refine wp_iald (pc' := 9) (j := 0) dX11_showTrue_8 a_70 ⟨by decide, by decide⟩ rfl rfl ?_
  obtain ⟨h1, h⟩ := h
  obtain ⟨h2, h⟩ := h
  refine wp_icmp_ge (pc' := 12) (tgt := 30) h1 h2 dX11_showTrue_9 rfl rfl (fun hc => ?_) (fun hc => ?_)
  · have h := h.1 hc
    exact wp_vreturn dX11_showTrue_30 rfl rfl h
  · have h := h.2 hc
    refine wp_aload_n (pc' := 13) (q := 0) (i := 0) rfl rfl dX11_showTrue_12 rfl ?_
    refine wp_getRc (pc' := 16) (k := 16) (j := 82) dX11_showTrue_13 vc10 (by decide) rfl lfX11_49 o_68 (r_68_16 hR) rfl ?_
    refine wp_iload_n (pc' := 17) (q := 1) (i := 1) rfl rfl dX11_showTrue_16 rfl ?_
    refine wp_aload_n (pc' := 18) (q := 0) (i := 0) rfl rfl dX11_showTrue_17 rfl ?_
    refine wp_getRc (pc' := 21) (k := 4) (j := 72) dX11_showTrue_18 vc10 (by decide) rfl lfX11_19 o_68 (r_68_4 hR) rfl ?_
    refine wp_iload_n (pc' := 22) (q := 1) (i := 1) rfl rfl dX11_showTrue_21 rfl ?_
    obtain ⟨h3, h⟩ := h
    refine wp_iald (pc' := 23) (j := a1.toNat) dX11_showTrue_22 a_72 h3 rfl rfl ?_
    obtain ⟨h4, h⟩ := h
    obtain ⟨I5, eI5⟩ : ∃ z : II, z = up2 I 82 (a1.toNat) (I 72 a1.toNat) := ⟨_, rfl⟩
    have h := h I5 eI5
    refine wp_iast (pc' := 24) (j := a1.toNat) (I' := I5) dX11_showTrue_23 a_82 h4 rfl rfl eI5 ?_
    refine wp_iinc (pc' := 27) (i := 1) (L' := [vR 68, vI (a1 + 1)]) rfl (by decide) rfl dX11_showTrue_24 rfl rfl ?_
    refine wp_goto (tgt := 2) dX11_showTrue_27 rfl ?_
    exact h

theorem sX11_layLines {Q : QT} {I : II} {R : RR}  (h : wp (kN 89) mX11_layLines Q 0 [vR 68, none, none] [] I R 89) : Spec mX11_layLines [vR 68] I R 89 89 Q := Spec_of_wp pyX11_layLines rfl (Nat.le_of_ble_eq_true rfl) (Nat.le_refl _) (by decide) h

set_option maxRecDepth 4000 in
theorem gX11_layLines_0 {Q : QT} {I : II} {R : RR} (hR : SR R) 
    (h : (∀ I1 : II, I1 = up2 I 68 19 0 →
      (∀ I2 : II, I2 = up2 I1 68 20 0 →
      wp (kN 89) mX11_layLines Q 13 [vR 68, vI 99, none] [] I2 R 89))) : wp (kN 89) mX11_layLines Q 0 [vR 68, none, none] [] I R 89 := by
  refine wp_aload_n (pc' := 1) (q := 0) (i := 0) rfl rfl dX11_layLines_0 rfl ?_
  refine wp_iconst (pc' := 2) dX11_layLines_1 rfl ?_
  obtain ⟨I1, eI1⟩ : ∃ z : II, z = up2 I 68 19 0 := ⟨_, rfl⟩
  have h := h I1 eI1
  refine wp_putI (pc' := 5) (k := 19) (I' := I1) dX11_layLines_2 vc10 (by decide) rfl rfl (tyX11_ok 19 (by decide)) lfX11_134 o_68 rfl eI1 ?_
  refine wp_aload_n (pc' := 6) (q := 0) (i := 0) rfl rfl dX11_layLines_5 rfl ?_
  refine wp_iconst (pc' := 7) dX11_layLines_6 rfl ?_
  obtain ⟨I2, eI2⟩ : ∃ z : II, z = up2 I1 68 20 0 := ⟨_, rfl⟩
  have h := h I2 eI2
  refine wp_putI (pc' := 10) (k := 20) (I' := I2) dX11_layLines_7 vc10 (by decide) rfl rfl (tyX11_ok 20 (by decide)) lfX11_137 o_68 rfl eI2 ?_
  refine wp_bipush (pc' := 12) (by decide) dX11_layLines_10 rfl ?_
  refine wp_istore_n (pc' := 13) (q := 1) (i := 1) (L' := [vR 68, vI 99, none]) rfl (by decide) rfl dX11_layLines_12 rfl rfl ?_
  exact h

set_option maxRecDepth 4000 in
theorem gX11_layLines_13 {Q : QT} {I : II} {R : RR} (hR : SR R) {a1 : Int}
    (h : (InI a1) ∧
      ((a1 < 0 →
      wp (kN 89) mX11_layLines Q 82 [vR 68, vI 0, none] [] I R 89) ∧ (¬ (a1 < 0) →
      wp (kN 89) mX11_layLines Q 19 [vR 68, vI a1, vI 0] [] I R 89))) : wp (kN 89) mX11_layLines Q 13 [vR 68, vI a1, none] [] I R 89 := by
  refine wp_iload_n (pc' := 14) (q := 1) (i := 1) rfl rfl dX11_layLines_13 rfl ?_
  obtain ⟨h1, h⟩ := h
  refine wp_if_lt (pc' := 17) (tgt := 80) h1 dX11_layLines_14 rfl rfl (fun hc => ?_) (fun hc => ?_)
  · have h := h.1 hc
    refine wp_iconst (pc' := 81) dX11_layLines_80 rfl ?_
    refine wp_istore_n (pc' := 82) (q := 1) (i := 1) (L' := [vR 68, vI 0, none]) rfl (by decide) rfl dX11_layLines_81 rfl rfl ?_
    exact h
  · have h := h.2 hc
    refine wp_iconst (pc' := 18) dX11_layLines_17 rfl ?_
    refine wp_istore_n (pc' := 19) (q := 2) (i := 2) (L' := [vR 68, vI a1, vI 0]) rfl (by decide) rfl dX11_layLines_18 rfl rfl ?_
    exact h

set_option maxRecDepth 4000 in
theorem gX11_layLines_19 {Q : QT} {I : II} {R : RR} (hR : SR R) {a1 : Int} {a2 : Int}
    (h : (InI a2) ∧
      (InI (I 70 0)) ∧
      (((I 70 0) ≤ a2 →
      wp (kN 89) mX11_layLines Q 13 [vR 68, vI (a1 + (-1)), none] [] I R 89) ∧ (¬ (I 70 0) ≤ a2 →
      (0 ≤ a2 ∧ a2 < 40) ∧
      (InI (I 71 a2.toNat)) ∧
      ((¬ (I 71 a2.toNat) = 0 →
      wp (kN 89) mX11_layLines Q 68 [vR 68, vI a1, vI a2] [] I R 89) ∧ ((I 71 a2.toNat) = 0 →
      (0 ≤ a2 ∧ a2 < 20) ∧
      (InI (I 82 a2.toNat)) ∧
      (InI a1) ∧
      ((¬ (I 82 a2.toNat) = a1 →
      wp (kN 89) mX11_layLines Q 68 [vR 68, vI a1, vI a2] [] I R 89) ∧ ((I 82 a2.toNat) = a1 →
      (0 ≤ (I 68 19) ∧ (I 68 19) < 10) ∧
      (∀ I9 : II, I9 = up2 I 83 ((I 68 19).toNat) a2 →
      (∀ I10 : II, I10 = up2 I9 68 19 ((I9 68 19) + 1) →
      wp (kN 89) mX11_layLines Q 68 [vR 68, vI a1, vI a2] [] I10 R 89))))))))) : wp (kN 89) mX11_layLines Q 19 [vR 68, vI a1, vI a2] [] I R 89 := by
  refine wp_iload_n (pc' := 20) (q := 2) (i := 2) rfl rfl dX11_layLines_19 rfl ?_
  refine wp_aload_n (pc' := 21) (q := 0) (i := 0) rfl rfl dX11_layLines_20 rfl ?_
  refine wp_getRc (pc' := 24) (k := 2) (j := 70) dX11_layLines_21 vc10 (by decide) rfl lfX11_13 o_68 (r_68_2 hR) rfl ?_
  refine wp_iconst (pc' := 25) dX11_layLines_24 rfl ?_
  refine wp_iald (pc' := 26) (j := 0) dX11_layLines_25 a_70 ⟨by decide, by decide⟩ rfl rfl ?_
  obtain ⟨h1, h⟩ := h
  obtain ⟨h2, h⟩ := h
  refine wp_icmp_ge (pc' := 29) (tgt := 74) h1 h2 dX11_layLines_26 rfl rfl (fun hc => ?_) (fun hc => ?_)
  · have h := h.1 hc
    refine wp_iinc (pc' := 77) (i := 1) (L' := [vR 68, vI (a1 + (-1)), vI a2]) rfl (by decide) rfl dX11_layLines_74 rfl rfl ?_
    refine wp_goto (tgt := 13) dX11_layLines_77 rfl ?_
    exact wp_dropP (leP_s (leP_s (leP_d leP_n))) h
  · have h := h.2 hc
    refine wp_aload_n (pc' := 30) (q := 0) (i := 0) rfl rfl dX11_layLines_29 rfl ?_
    refine wp_getRc (pc' := 33) (k := 3) (j := 71) dX11_layLines_30 vc10 (by decide) rfl lfX11_16 o_68 (r_68_3 hR) rfl ?_
    refine wp_iload_n (pc' := 34) (q := 2) (i := 2) rfl rfl dX11_layLines_33 rfl ?_
    obtain ⟨h3, h⟩ := h
    refine wp_iald (pc' := 35) (j := a2.toNat) dX11_layLines_34 a_71 h3 rfl rfl ?_
    obtain ⟨h4, h⟩ := h
    refine wp_if_ne (pc' := 38) (tgt := 68) h4 dX11_layLines_35 rfl rfl (fun hc => ?_) (fun hc => ?_)
    · have h := h.1 hc
      exact h
    · have h := h.2 hc
      refine wp_aload_n (pc' := 39) (q := 0) (i := 0) rfl rfl dX11_layLines_38 rfl ?_
      refine wp_getRc (pc' := 42) (k := 16) (j := 82) dX11_layLines_39 vc10 (by decide) rfl lfX11_49 o_68 (r_68_16 hR) rfl ?_
      refine wp_iload_n (pc' := 43) (q := 2) (i := 2) rfl rfl dX11_layLines_42 rfl ?_
      obtain ⟨h5, h⟩ := h
      refine wp_iald (pc' := 44) (j := a2.toNat) dX11_layLines_43 a_82 h5 rfl rfl ?_
      refine wp_iload_n (pc' := 45) (q := 1) (i := 1) rfl rfl dX11_layLines_44 rfl ?_
      obtain ⟨h6, h⟩ := h
      obtain ⟨h7, h⟩ := h
      refine wp_icmp_ne (pc' := 48) (tgt := 68) h6 h7 dX11_layLines_45 rfl rfl (fun hc => ?_) (fun hc => ?_)
      · have h := h.1 hc
        exact h
      · have h := h.2 hc
        refine wp_aload_n (pc' := 49) (q := 0) (i := 0) rfl rfl dX11_layLines_48 rfl ?_
        refine wp_getRc (pc' := 52) (k := 17) (j := 83) dX11_layLines_49 vc10 (by decide) rfl lfX11_52 o_68 (r_68_17 hR) rfl ?_
        refine wp_aload_n (pc' := 53) (q := 0) (i := 0) rfl rfl dX11_layLines_52 rfl ?_
        refine wp_getI (pc' := 56) (k := 19) dX11_layLines_53 vc10 (by decide) rfl lfX11_134 o_68 rfl ?_
        refine wp_iload_n (pc' := 57) (q := 2) (i := 2) rfl rfl dX11_layLines_56 rfl ?_
        obtain ⟨h8, h⟩ := h
        obtain ⟨I9, eI9⟩ : ∃ z : II, z = up2 I 83 ((I 68 19).toNat) a2 := ⟨_, rfl⟩
        have h := h I9 eI9
        refine wp_iast (pc' := 58) (j := (I 68 19).toNat) (I' := I9) dX11_layLines_57 a_83 h8 rfl rfl eI9 ?_
        refine wp_aload_n (pc' := 59) (q := 0) (i := 0) rfl rfl dX11_layLines_58 rfl ?_
        refine wp_dupR (pc' := 60) dX11_layLines_59 rfl ?_
        refine wp_getI (pc' := 63) (k := 19) dX11_layLines_60 vc10 (by decide) rfl lfX11_134 o_68 rfl ?_
        refine wp_iconst (pc' := 64) dX11_layLines_63 rfl ?_
        refine wp_iadd (pc' := 65) dX11_layLines_64 rfl ?_
        obtain ⟨I10, eI10⟩ : ∃ z : II, z = up2 I9 68 19 ((I9 68 19) + 1) := ⟨_, rfl⟩
        have h := h I10 eI10
        refine wp_putI (pc' := 68) (k := 19) (I' := I10) dX11_layLines_65 vc10 (by decide) rfl rfl (tyX11_ok 19 (by decide)) lfX11_134 o_68 rfl eI10 ?_
        exact h

set_option maxRecDepth 4000 in
theorem gX11_layLines_68 {Q : QT} {I : II} {R : RR} (hR : SR R) {a1 : Int} {a2 : Int}
    (h : wp (kN 89) mX11_layLines Q 19 [vR 68, vI a1, vI (a2 + 1)] [] I R 89) : wp (kN 89) mX11_layLines Q 68 [vR 68, vI a1, vI a2] [] I R 89 := by
  refine wp_iinc (pc' := 71) (i := 2) (L' := [vR 68, vI a1, vI (a2 + 1)]) rfl (by decide) rfl dX11_layLines_68 rfl rfl ?_
  refine wp_goto (tgt := 19) dX11_layLines_71 rfl ?_
  exact h

set_option maxRecDepth 4000 in
theorem gX11_layLines_82 {Q : QT} {I : II} {R : RR} (hR : SR R) {a1 : Int}
    (h : (InI a1) ∧
      (((99 : Int) < a1 →
      Q none I R) ∧ (¬ (99 : Int) < a1 →
      wp (kN 89) mX11_layLines Q 90 [vR 68, vI a1, vI 0] [] I R 89))) : wp (kN 89) mX11_layLines Q 82 [vR 68, vI a1, none] [] I R 89 := by
  refine wp_iload_n (pc' := 83) (q := 1) (i := 1) rfl rfl dX11_layLines_82 rfl ?_
  refine wp_bipush (pc' := 85) (by decide) dX11_layLines_83 rfl ?_
  obtain ⟨h1, h⟩ := h
  refine wp_icmp_gt (pc' := 88) (tgt := 152) h1 ⟨by decide, by decide⟩ dX11_layLines_85 rfl rfl (fun hc => ?_) (fun hc => ?_)
  · have h := h.1 hc
    exact wp_vreturn dX11_layLines_152 rfl rfl h
  · have h := h.2 hc
    refine wp_iconst (pc' := 89) dX11_layLines_88 rfl ?_
    refine wp_istore_n (pc' := 90) (q := 2) (i := 2) (L' := [vR 68, vI a1, vI 0]) rfl (by decide) rfl dX11_layLines_89 rfl rfl ?_
    exact h

set_option maxRecDepth 4000 in
theorem gX11_layLines_90 {Q : QT} {I : II} {R : RR} (hR : SR R) {a1 : Int} {a2 : Int}
    (h : (InI a2) ∧
      (InI (I 70 0)) ∧
      (((I 70 0) ≤ a2 →
      wp (kN 89) mX11_layLines Q 82 [vR 68, vI (a1 + 1), none] [] I R 89) ∧ (¬ (I 70 0) ≤ a2 →
      (0 ≤ a2 ∧ a2 < 40) ∧
      (InI (I 71 a2.toNat)) ∧
      ((¬ (I 71 a2.toNat) = (1 : Int) →
      wp (kN 89) mX11_layLines Q 140 [vR 68, vI a1, vI a2] [] I R 89) ∧ ((I 71 a2.toNat) = (1 : Int) →
      (0 ≤ a2 ∧ a2 < 20) ∧
      (InI (I 82 a2.toNat)) ∧
      (InI a1) ∧
      ((¬ (I 82 a2.toNat) = a1 →
      wp (kN 89) mX11_layLines Q 140 [vR 68, vI a1, vI a2] [] I R 89) ∧ ((I 82 a2.toNat) = a1 →
      (0 ≤ (I 68 20) ∧ (I 68 20) < 10) ∧
      (∀ I9 : II, I9 = up2 I 84 ((I 68 20).toNat) a2 →
      (∀ I10 : II, I10 = up2 I9 68 20 ((I9 68 20) + 1) →
      wp (kN 89) mX11_layLines Q 140 [vR 68, vI a1, vI a2] [] I10 R 89))))))))) : wp (kN 89) mX11_layLines Q 90 [vR 68, vI a1, vI a2] [] I R 89 := by
  refine wp_iload_n (pc' := 91) (q := 2) (i := 2) rfl rfl dX11_layLines_90 rfl ?_
  refine wp_aload_n (pc' := 92) (q := 0) (i := 0) rfl rfl dX11_layLines_91 rfl ?_
  refine wp_getRc (pc' := 95) (k := 2) (j := 70) dX11_layLines_92 vc10 (by decide) rfl lfX11_13 o_68 (r_68_2 hR) rfl ?_
  refine wp_iconst (pc' := 96) dX11_layLines_95 rfl ?_
  refine wp_iald (pc' := 97) (j := 0) dX11_layLines_96 a_70 ⟨by decide, by decide⟩ rfl rfl ?_
  obtain ⟨h1, h⟩ := h
  obtain ⟨h2, h⟩ := h
  refine wp_icmp_ge (pc' := 100) (tgt := 146) h1 h2 dX11_layLines_97 rfl rfl (fun hc => ?_) (fun hc => ?_)
  · have h := h.1 hc
    refine wp_iinc (pc' := 149) (i := 1) (L' := [vR 68, vI (a1 + 1), vI a2]) rfl (by decide) rfl dX11_layLines_146 rfl rfl ?_
    refine wp_goto (tgt := 82) dX11_layLines_149 rfl ?_
    exact wp_dropP (leP_s (leP_s (leP_d leP_n))) h
  · have h := h.2 hc
    refine wp_aload_n (pc' := 101) (q := 0) (i := 0) rfl rfl dX11_layLines_100 rfl ?_
    refine wp_getRc (pc' := 104) (k := 3) (j := 71) dX11_layLines_101 vc10 (by decide) rfl lfX11_16 o_68 (r_68_3 hR) rfl ?_
    refine wp_iload_n (pc' := 105) (q := 2) (i := 2) rfl rfl dX11_layLines_104 rfl ?_
    obtain ⟨h3, h⟩ := h
    refine wp_iald (pc' := 106) (j := a2.toNat) dX11_layLines_105 a_71 h3 rfl rfl ?_
    refine wp_iconst (pc' := 107) dX11_layLines_106 rfl ?_
    obtain ⟨h4, h⟩ := h
    refine wp_icmp_ne (pc' := 110) (tgt := 140) h4 ⟨by decide, by decide⟩ dX11_layLines_107 rfl rfl (fun hc => ?_) (fun hc => ?_)
    · have h := h.1 hc
      exact h
    · have h := h.2 hc
      refine wp_aload_n (pc' := 111) (q := 0) (i := 0) rfl rfl dX11_layLines_110 rfl ?_
      refine wp_getRc (pc' := 114) (k := 16) (j := 82) dX11_layLines_111 vc10 (by decide) rfl lfX11_49 o_68 (r_68_16 hR) rfl ?_
      refine wp_iload_n (pc' := 115) (q := 2) (i := 2) rfl rfl dX11_layLines_114 rfl ?_
      obtain ⟨h5, h⟩ := h
      refine wp_iald (pc' := 116) (j := a2.toNat) dX11_layLines_115 a_82 h5 rfl rfl ?_
      refine wp_iload_n (pc' := 117) (q := 1) (i := 1) rfl rfl dX11_layLines_116 rfl ?_
      obtain ⟨h6, h⟩ := h
      obtain ⟨h7, h⟩ := h
      refine wp_icmp_ne (pc' := 120) (tgt := 140) h6 h7 dX11_layLines_117 rfl rfl (fun hc => ?_) (fun hc => ?_)
      · have h := h.1 hc
        exact h
      · have h := h.2 hc
        refine wp_aload_n (pc' := 121) (q := 0) (i := 0) rfl rfl dX11_layLines_120 rfl ?_
        refine wp_getRc (pc' := 124) (k := 18) (j := 84) dX11_layLines_121 vc10 (by decide) rfl lfX11_55 o_68 (r_68_18 hR) rfl ?_
        refine wp_aload_n (pc' := 125) (q := 0) (i := 0) rfl rfl dX11_layLines_124 rfl ?_
        refine wp_getI (pc' := 128) (k := 20) dX11_layLines_125 vc10 (by decide) rfl lfX11_137 o_68 rfl ?_
        refine wp_iload_n (pc' := 129) (q := 2) (i := 2) rfl rfl dX11_layLines_128 rfl ?_
        obtain ⟨h8, h⟩ := h
        obtain ⟨I9, eI9⟩ : ∃ z : II, z = up2 I 84 ((I 68 20).toNat) a2 := ⟨_, rfl⟩
        have h := h I9 eI9
        refine wp_iast (pc' := 130) (j := (I 68 20).toNat) (I' := I9) dX11_layLines_129 a_84 h8 rfl rfl eI9 ?_
        refine wp_aload_n (pc' := 131) (q := 0) (i := 0) rfl rfl dX11_layLines_130 rfl ?_
        refine wp_dupR (pc' := 132) dX11_layLines_131 rfl ?_
        refine wp_getI (pc' := 135) (k := 20) dX11_layLines_132 vc10 (by decide) rfl lfX11_137 o_68 rfl ?_
        refine wp_iconst (pc' := 136) dX11_layLines_135 rfl ?_
        refine wp_iadd (pc' := 137) dX11_layLines_136 rfl ?_
        obtain ⟨I10, eI10⟩ : ∃ z : II, z = up2 I9 68 20 ((I9 68 20) + 1) := ⟨_, rfl⟩
        have h := h I10 eI10
        refine wp_putI (pc' := 140) (k := 20) (I' := I10) dX11_layLines_137 vc10 (by decide) rfl rfl (tyX11_ok 20 (by decide)) lfX11_137 o_68 rfl eI10 ?_
        exact h

set_option maxRecDepth 4000 in
theorem gX11_layLines_140 {Q : QT} {I : II} {R : RR} (hR : SR R) {a1 : Int} {a2 : Int}
    (h : wp (kN 89) mX11_layLines Q 90 [vR 68, vI a1, vI (a2 + 1)] [] I R 89) : wp (kN 89) mX11_layLines Q 140 [vR 68, vI a1, vI a2] [] I R 89 := by
  refine wp_iinc (pc' := 143) (i := 2) (L' := [vR 68, vI a1, vI (a2 + 1)]) rfl (by decide) rfl dX11_layLines_140 rfl rfl ?_
  refine wp_goto (tgt := 90) dX11_layLines_143 rfl ?_
  exact h

theorem sX11_quantity {Q : QT} {I : II} {R : RR} {a1 : Int} (h : wp (kN 89) mX11_quantity Q 0 [vR 68, vI a1, none] [] I R 89) : Spec mX11_quantity [vR 68, vI a1] I R 89 89 Q := Spec_of_wp pyX11_quantity rfl (Nat.le_of_ble_eq_true rfl) (Nat.le_refl _) (by decide) h

set_option maxRecDepth 4000 in
theorem gX11_quantity_0 {Q : QT} {I : II} {R : RR} (hR : SR R) {a1 : Int}
    (h : wp (kN 89) mX11_quantity Q 2 [vR 68, vI a1, vI 0] [] I R 89) : wp (kN 89) mX11_quantity Q 0 [vR 68, vI a1, none] [] I R 89 := by
  refine wp_iconst (pc' := 1) dX11_quantity_0 rfl ?_
  refine wp_istore_n (pc' := 2) (q := 2) (i := 2) (L' := [vR 68, vI a1, vI 0]) rfl (by decide) rfl dX11_quantity_1 rfl rfl ?_
  exact h

set_option maxRecDepth 4000 in
theorem gX11_quantity_2 {Q : QT} {I : II} {R : RR} (hR : SR R) {a1 : Int} {a2 : Int}
    (h : (InI a2) ∧
      (InI (I 68 19)) ∧
      (((I 68 19) ≤ a2 →
      wp (kN 89) mX11_quantity Q 39 [none, none, vI a2] [] I R 89) ∧ (¬ (I 68 19) ≤ a2 →
      (InI (I 68 20)) ∧
      (((I 68 20) ≤ a2 →
      wp (kN 89) mX11_quantity Q 39 [none, none, vI a2] [] I R 89) ∧ (¬ (I 68 20) ≤ a2 →
      (0 ≤ a2 ∧ a2 < 10) ∧
      (0 ≤ I 83 (a2).toNat ∧ I 83 (a2).toNat < 20) ∧
      (0 ≤ I 84 (a2).toNat ∧ I 84 (a2).toNat < 20) ∧
      (InI (I 82 (I 83 (a2).toNat).toNat)) ∧
      (InI ((I 82 (I 84 (a2).toNat).toNat) + a1)) ∧
      (((I 82 (I 83 (a2).toNat).toNat) < ((I 82 (I 84 (a2).toNat).toNat) + a1) →
      wp (kN 89) mX11_quantity Q 39 [none, none, vI a2] [] I R 89) ∧ (¬ (I 82 (I 83 (a2).toNat).toNat) < ((I 82 (I 84 (a2).toNat).toNat) + a1) →
      wp (kN 89) mX11_quantity Q 2 [vR 68, vI a1, vI (a2 + 1)] [] I R 89))))))) : wp (kN 89) mX11_quantity Q 2 [vR 68, vI a1, vI a2] [] I R 89 := by
  refine wp_iload_n (pc' := 3) (q := 2) (i := 2) rfl rfl dX11_quantity_2 rfl ?_
  refine wp_aload_n (pc' := 4) (q := 0) (i := 0) rfl rfl dX11_quantity_3 rfl ?_
  refine wp_getI (pc' := 7) (k := 19) dX11_quantity_4 vc10 (by decide) rfl lfX11_134 o_68 rfl ?_
  obtain ⟨h1, h⟩ := h
  obtain ⟨h2, h⟩ := h
  refine wp_icmp_ge (pc' := 10) (tgt := 39) h1 h2 dX11_quantity_7 rfl rfl (fun hc => ?_) (fun hc => ?_)
  · have h := h.1 hc
    exact wp_dropP (leP_d (leP_d (leP_s leP_n))) h
  · have h := h.2 hc
    refine wp_iload_n (pc' := 11) (q := 2) (i := 2) rfl rfl dX11_quantity_10 rfl ?_
    refine wp_aload_n (pc' := 12) (q := 0) (i := 0) rfl rfl dX11_quantity_11 rfl ?_
    refine wp_getI (pc' := 15) (k := 20) dX11_quantity_12 vc10 (by decide) rfl lfX11_137 o_68 rfl ?_
    obtain ⟨h3, h⟩ := h
    refine wp_icmp_ge (pc' := 18) (tgt := 39) h1 h3 dX11_quantity_15 rfl rfl (fun hc => ?_) (fun hc => ?_)
    · have h := h.1 hc
      exact wp_dropP (leP_d (leP_d (leP_s leP_n))) h
    · have h := h.2 hc
      refine wp_aload_n (pc' := 19) (q := 0) (i := 0) rfl rfl dX11_quantity_18 rfl ?_
      refine wp_iload_n (pc' := 20) (q := 2) (i := 2) rfl rfl dX11_quantity_19 rfl ?_
      obtain ⟨h5, h⟩ := h
      obtain ⟨h6, h⟩ := h
      refine wp_callV (pc' := 23) (as := [vI a2]) (rest := []) (pX11_worth hR h5 h6) dX11_quantity_20 rfl lkX11_140 okX11_worth inX11_worth seX11_worth o_68 vc10 ⟨Nat.le_of_ble_eq_true rfl, Nat.le_of_ble_eq_true rfl⟩ (Nat.le_of_ble_eq_true rfl) (Nat.le_refl _) (Nat.le_refl _) okP_eq okP_eq rfl (rvI rfl (fun x4 I4 R4 hq4 => ?_))
      obtain ⟨eR4, eI4, ex4⟩ := hq4; subst eR4; subst eI4; cases ex4
      refine wp_aload_n (pc' := 24) (q := 0) (i := 0) rfl rfl dX11_quantity_23 rfl ?_
      refine wp_iload_n (pc' := 25) (q := 2) (i := 2) rfl rfl dX11_quantity_24 rfl ?_
      obtain ⟨h8, h⟩ := h
      refine wp_callV (pc' := 28) (as := [vI a2]) (rest := [vI (I 82 (I 83 (a2).toNat).toNat)]) (pX11_costs hR h5 h8) dX11_quantity_25 rfl lkX11_143 okX11_costs inX11_costs seX11_costs o_68 vc10 ⟨Nat.le_of_ble_eq_true rfl, Nat.le_of_ble_eq_true rfl⟩ (Nat.le_of_ble_eq_true rfl) (Nat.le_refl _) (Nat.le_refl _) okP_eq okP_eq rfl (rvI rfl (fun x7 I7 R7 hq7 => ?_))
      obtain ⟨eR7, eI7, ex7⟩ := hq7; subst eR7; subst eI7; cases ex7
      refine wp_iload_n (pc' := 29) (q := 1) (i := 1) rfl rfl dX11_quantity_28 rfl ?_
      refine wp_iadd (pc' := 30) dX11_quantity_29 rfl ?_
      obtain ⟨h9, h⟩ := h
      obtain ⟨h10, h⟩ := h
      refine wp_icmp_lt (pc' := 33) (tgt := 39) h9 h10 dX11_quantity_30 rfl rfl (fun hc => ?_) (fun hc => ?_)
      · have h := h.1 hc
        exact wp_dropP (leP_d (leP_d (leP_s leP_n))) h
      · have h := h.2 hc
        refine wp_iinc (pc' := 36) (i := 2) (L' := [vR 68, vI a1, vI (a2 + 1)]) rfl (by decide) rfl dX11_quantity_33 rfl rfl ?_
        refine wp_goto (tgt := 2) dX11_quantity_36 rfl ?_
        exact h

set_option maxRecDepth 4000 in
theorem gX11_quantity_39 {Q : QT} {I : II} {R : RR} (hR : SR R) {a2 : Int}
    (h : Q (vI a2) I R) : wp (kN 89) mX11_quantity Q 39 [none, none, vI a2] [] I R 89 := by
  refine wp_iload_n (pc' := 40) (q := 2) (i := 2) rfl rfl dX11_quantity_39 rfl ?_
  exact wp_ireturn dX11_quantity_40 rfl rfl h

theorem sX11_gainOf {Q : QT} {I : II} {R : RR} {a1 : Int} (h : wp (kN 89) mX11_gainOf Q 0 [vR 68, vI a1, none, none] [] I R 89) : Spec mX11_gainOf [vR 68, vI a1] I R 89 89 Q := Spec_of_wp pyX11_gainOf rfl (Nat.le_of_ble_eq_true rfl) (Nat.le_refl _) (by decide) h

set_option maxRecDepth 4000 in
theorem gX11_gainOf_0 {Q : QT} {I : II} {R : RR} (hR : SR R) {a1 : Int}
    (h : wp (kN 89) mX11_gainOf Q 4 [vR 68, vI a1, vI 0, vI 0] [] I R 89) : wp (kN 89) mX11_gainOf Q 0 [vR 68, vI a1, none, none] [] I R 89 := by
  refine wp_iconst (pc' := 1) dX11_gainOf_0 rfl ?_
  refine wp_istore_n (pc' := 2) (q := 2) (i := 2) (L' := [vR 68, vI a1, vI 0, none]) rfl (by decide) rfl dX11_gainOf_1 rfl rfl ?_
  refine wp_iconst (pc' := 3) dX11_gainOf_2 rfl ?_
  refine wp_istore_n (pc' := 4) (q := 3) (i := 3) (L' := [vR 68, vI a1, vI 0, vI 0]) rfl (by decide) rfl dX11_gainOf_3 rfl rfl ?_
  exact h

set_option maxRecDepth 4000 in
theorem gX11_gainOf_4 {Q : QT} {I : II} {R : RR} (hR : SR R) {a1 : Int} {a2 : Int} {a3 : Int}
    (h : (InI a3) ∧
      (InI a1) ∧
      ((a1 ≤ a3 →
      Q (vI a2) I R) ∧ (¬ (a1 ≤ a3) →
      (0 ≤ a3 ∧ a3 < 10) ∧
      (0 ≤ I 83 (a3).toNat ∧ I 83 (a3).toNat < 20) ∧
      (0 ≤ I 84 (a3).toNat ∧ I 84 (a3).toNat < 20) ∧
      wp (kN 89) mX11_gainOf Q 4 [vR 68, vI a1, vI (a2 + ((I 82 (I 83 (a3).toNat).toNat) - (I 82 (I 84 (a3).toNat).toNat))), vI (a3 + 1)] [] I R 89))) : wp (kN 89) mX11_gainOf Q 4 [vR 68, vI a1, vI a2, vI a3] [] I R 89 := by
  refine wp_iload_n (pc' := 5) (q := 3) (i := 3) rfl rfl dX11_gainOf_4 rfl ?_
  refine wp_iload_n (pc' := 6) (q := 1) (i := 1) rfl rfl dX11_gainOf_5 rfl ?_
  obtain ⟨h1, h⟩ := h
  obtain ⟨h2, h⟩ := h
  refine wp_icmp_ge (pc' := 9) (tgt := 29) h1 h2 dX11_gainOf_6 rfl rfl (fun hc => ?_) (fun hc => ?_)
  · have h := h.1 hc
    refine wp_iload_n (pc' := 30) (q := 2) (i := 2) rfl rfl dX11_gainOf_29 rfl ?_
    exact wp_ireturn dX11_gainOf_30 rfl rfl h
  · have h := h.2 hc
    refine wp_iload_n (pc' := 10) (q := 2) (i := 2) rfl rfl dX11_gainOf_9 rfl ?_
    refine wp_aload_n (pc' := 11) (q := 0) (i := 0) rfl rfl dX11_gainOf_10 rfl ?_
    refine wp_iload_n (pc' := 12) (q := 3) (i := 3) rfl rfl dX11_gainOf_11 rfl ?_
    obtain ⟨h4, h⟩ := h
    obtain ⟨h5, h⟩ := h
    refine wp_callV (pc' := 15) (as := [vI a3]) (rest := [vI a2]) (pX11_worth hR h4 h5) dX11_gainOf_12 rfl lkX11_140 okX11_worth inX11_worth seX11_worth o_68 vc10 ⟨Nat.le_of_ble_eq_true rfl, Nat.le_of_ble_eq_true rfl⟩ (Nat.le_of_ble_eq_true rfl) (Nat.le_refl _) (Nat.le_refl _) okP_eq okP_eq rfl (rvI rfl (fun x3 I3 R3 hq3 => ?_))
    obtain ⟨eR3, eI3, ex3⟩ := hq3; subst eR3; subst eI3; cases ex3
    refine wp_aload_n (pc' := 16) (q := 0) (i := 0) rfl rfl dX11_gainOf_15 rfl ?_
    refine wp_iload_n (pc' := 17) (q := 3) (i := 3) rfl rfl dX11_gainOf_16 rfl ?_
    obtain ⟨h7, h⟩ := h
    refine wp_callV (pc' := 20) (as := [vI a3]) (rest := [vI (I 82 (I 83 (a3).toNat).toNat), vI a2]) (pX11_costs hR h4 h7) dX11_gainOf_17 rfl lkX11_143 okX11_costs inX11_costs seX11_costs o_68 vc10 ⟨Nat.le_of_ble_eq_true rfl, Nat.le_of_ble_eq_true rfl⟩ (Nat.le_of_ble_eq_true rfl) (Nat.le_refl _) (Nat.le_refl _) okP_eq okP_eq rfl (rvI rfl (fun x6 I6 R6 hq6 => ?_))
    obtain ⟨eR6, eI6, ex6⟩ := hq6; subst eR6; subst eI6; cases ex6
    refine wp_isub (pc' := 21) dX11_gainOf_20 rfl ?_
    refine wp_iadd (pc' := 22) dX11_gainOf_21 rfl ?_
    refine wp_istore_n (pc' := 23) (q := 2) (i := 2) (L' := [vR 68, vI a1, vI (a2 + ((I 82 (I 83 (a3).toNat).toNat) - (I 82 (I 84 (a3).toNat).toNat))), vI a3]) rfl (by decide) rfl dX11_gainOf_22 rfl rfl ?_
    refine wp_iinc (pc' := 26) (i := 3) (L' := [vR 68, vI a1, vI (a2 + ((I 82 (I 83 (a3).toNat).toNat) - (I 82 (I 84 (a3).toNat).toNat))), vI (a3 + 1)]) rfl (by decide) rfl dX11_gainOf_23 rfl rfl ?_
    refine wp_goto (tgt := 4) dX11_gainOf_26 rfl ?_
    exact h

theorem sX11_lowest {Q : QT} {I : II} {R : RR} {a1 : Int} {a2 : Int} (h : wp (kN 89) mX11_lowest Q 0 [vR 68, vI a1, vI a2, none] [] I R 89) : Spec mX11_lowest [vR 68, vI a1, vI a2] I R 89 89 Q := Spec_of_wp pyX11_lowest rfl (Nat.le_of_ble_eq_true rfl) (Nat.le_refl _) (by decide) h

set_option maxRecDepth 4000 in
theorem gX11_lowest_0 {Q : QT} {I : II} {R : RR} (hR : SR R) {a1 : Int} {a2 : Int}
    (h : (0 ≤ (a1 - 1) ∧ (a1 - 1) < 10) ∧
      (0 ≤ I 84 ((a1 - 1)).toNat ∧ I 84 ((a1 - 1)).toNat < 20) ∧
      (InI a1) ∧
      (InI (I 68 19)) ∧
      (((I 68 19) ≤ a1 →
      wp (kN 89) mX11_lowest Q 35 [none, none, none, vI ((I 82 (I 84 ((a1 - 1)).toNat).toNat) + a2)] [] I R 89) ∧ (¬ (I 68 19) ≤ a1 →
      (0 ≤ a1 ∧ a1 < 10) ∧
      (0 ≤ I 83 (a1).toNat ∧ I 83 (a1).toNat < 20) ∧
      (InI (I 82 (I 83 (a1).toNat).toNat)) ∧
      (InI ((I 82 (I 84 ((a1 - 1)).toNat).toNat) + a2)) ∧
      (((I 82 (I 83 (a1).toNat).toNat) ≤ ((I 82 (I 84 ((a1 - 1)).toNat).toNat) + a2) →
      wp (kN 89) mX11_lowest Q 35 [none, none, none, vI ((I 82 (I 84 ((a1 - 1)).toNat).toNat) + a2)] [] I R 89) ∧ (¬ (I 82 (I 83 (a1).toNat).toNat) ≤ ((I 82 (I 84 ((a1 - 1)).toNat).toNat) + a2) →
      Q (vI (I 82 (I 83 (a1).toNat).toNat)) I R))))) : wp (kN 89) mX11_lowest Q 0 [vR 68, vI a1, vI a2, none] [] I R 89 := by
  refine wp_aload_n (pc' := 1) (q := 0) (i := 0) rfl rfl dX11_lowest_0 rfl ?_
  refine wp_iload_n (pc' := 2) (q := 1) (i := 1) rfl rfl dX11_lowest_1 rfl ?_
  refine wp_iconst (pc' := 3) dX11_lowest_2 rfl ?_
  refine wp_isub (pc' := 4) dX11_lowest_3 rfl ?_
  obtain ⟨h2, h⟩ := h
  obtain ⟨h3, h⟩ := h
  refine wp_callV (pc' := 7) (as := [vI (a1 - 1)]) (rest := []) (pX11_costs hR h2 h3) dX11_lowest_4 rfl lkX11_143 okX11_costs inX11_costs seX11_costs o_68 vc10 ⟨Nat.le_of_ble_eq_true rfl, Nat.le_of_ble_eq_true rfl⟩ (Nat.le_of_ble_eq_true rfl) (Nat.le_refl _) (Nat.le_refl _) okP_eq okP_eq rfl (rvI rfl (fun x1 I1 R1 hq1 => ?_))
  obtain ⟨eR1, eI1, ex1⟩ := hq1; subst eR1; subst eI1; cases ex1
  refine wp_iload_n (pc' := 8) (q := 2) (i := 2) rfl rfl dX11_lowest_7 rfl ?_
  refine wp_iadd (pc' := 9) dX11_lowest_8 rfl ?_
  refine wp_istore_n (pc' := 10) (q := 3) (i := 3) (L' := [vR 68, vI a1, vI a2, vI ((I 82 (I 84 ((a1 - 1)).toNat).toNat) + a2)]) rfl (by decide) rfl dX11_lowest_9 rfl rfl ?_
  refine wp_iload_n (pc' := 11) (q := 1) (i := 1) rfl rfl dX11_lowest_10 rfl ?_
  refine wp_aload_n (pc' := 12) (q := 0) (i := 0) rfl rfl dX11_lowest_11 rfl ?_
  refine wp_getI (pc' := 15) (k := 19) dX11_lowest_12 vc10 (by decide) rfl lfX11_134 o_68 rfl ?_
  obtain ⟨h4, h⟩ := h
  obtain ⟨h5, h⟩ := h
  refine wp_icmp_ge (pc' := 18) (tgt := 35) h4 h5 dX11_lowest_15 rfl rfl (fun hc => ?_) (fun hc => ?_)
  · have h := h.1 hc
    exact wp_dropP (leP_d (leP_d (leP_d (leP_s leP_n)))) h
  · have h := h.2 hc
    refine wp_aload_n (pc' := 19) (q := 0) (i := 0) rfl rfl dX11_lowest_18 rfl ?_
    refine wp_iload_n (pc' := 20) (q := 1) (i := 1) rfl rfl dX11_lowest_19 rfl ?_
    obtain ⟨h7, h⟩ := h
    obtain ⟨h8, h⟩ := h
    refine wp_callV (pc' := 23) (as := [vI a1]) (rest := []) (pX11_worth hR h7 h8) dX11_lowest_20 rfl lkX11_140 okX11_worth inX11_worth seX11_worth o_68 vc10 ⟨Nat.le_of_ble_eq_true rfl, Nat.le_of_ble_eq_true rfl⟩ (Nat.le_of_ble_eq_true rfl) (Nat.le_refl _) (Nat.le_refl _) okP_eq okP_eq rfl (rvI rfl (fun x6 I6 R6 hq6 => ?_))
    obtain ⟨eR6, eI6, ex6⟩ := hq6; subst eR6; subst eI6; cases ex6
    refine wp_iload_n (pc' := 24) (q := 3) (i := 3) rfl rfl dX11_lowest_23 rfl ?_
    obtain ⟨h9, h⟩ := h
    obtain ⟨h10, h⟩ := h
    refine wp_icmp_le (pc' := 27) (tgt := 35) h9 h10 dX11_lowest_24 rfl rfl (fun hc => ?_) (fun hc => ?_)
    · have h := h.1 hc
      exact wp_dropP (leP_d (leP_d (leP_d (leP_s leP_n)))) h
    · have h := h.2 hc
      refine wp_aload_n (pc' := 28) (q := 0) (i := 0) rfl rfl dX11_lowest_27 rfl ?_
      refine wp_iload_n (pc' := 29) (q := 1) (i := 1) rfl rfl dX11_lowest_28 rfl ?_
      refine wp_callV (pc' := 32) (as := [vI a1]) (rest := []) (pX11_worth hR h7 h8) dX11_lowest_29 rfl lkX11_140 okX11_worth inX11_worth seX11_worth o_68 vc10 ⟨Nat.le_of_ble_eq_true rfl, Nat.le_of_ble_eq_true rfl⟩ (Nat.le_of_ble_eq_true rfl) (Nat.le_refl _) (Nat.le_refl _) okP_eq okP_eq rfl (rvI rfl (fun x11 I11 R11 hq11 => ?_))
      obtain ⟨eR11, eI11, ex11⟩ := hq11; subst eR11; subst eI11; cases ex11
      refine wp_goto (tgt := 36) dX11_lowest_32 rfl ?_
      exact wp_ireturn dX11_lowest_36 rfl rfl h

set_option maxRecDepth 4000 in
theorem gX11_lowest_35 {Q : QT} {I : II} {R : RR} (hR : SR R) {a3 : Int}
    (h : Q (vI a3) I R) : wp (kN 89) mX11_lowest Q 35 [none, none, none, vI a3] [] I R 89 := by
  refine wp_iload_n (pc' := 36) (q := 3) (i := 3) rfl rfl dX11_lowest_35 rfl ?_
  exact wp_ireturn dX11_lowest_36 rfl rfl h

theorem sX11_highest {Q : QT} {I : II} {R : RR} {a1 : Int} {a2 : Int} (h : wp (kN 89) mX11_highest Q 0 [vR 68, vI a1, vI a2, none] [] I R 89) : Spec mX11_highest [vR 68, vI a1, vI a2] I R 89 89 Q := Spec_of_wp pyX11_highest rfl (Nat.le_of_ble_eq_true rfl) (Nat.le_refl _) (by decide) h

set_option maxRecDepth 4000 in
theorem gX11_highest_0 {Q : QT} {I : II} {R : RR} (hR : SR R) {a1 : Int} {a2 : Int}
    (h : (0 ≤ (a1 - 1) ∧ (a1 - 1) < 10) ∧
      (0 ≤ I 83 ((a1 - 1)).toNat ∧ I 83 ((a1 - 1)).toNat < 20) ∧
      (InI a1) ∧
      (InI (I 68 20)) ∧
      (((I 68 20) ≤ a1 →
      wp (kN 89) mX11_highest Q 37 [none, none, none, vI (I 82 (I 83 ((a1 - 1)).toNat).toNat)] [] I R 89) ∧ (¬ (I 68 20) ≤ a1 →
      (0 ≤ a1 ∧ a1 < 10) ∧
      (0 ≤ I 84 (a1).toNat ∧ I 84 (a1).toNat < 20) ∧
      (InI ((I 82 (I 84 (a1).toNat).toNat) + a2)) ∧
      (InI (I 82 (I 83 ((a1 - 1)).toNat).toNat)) ∧
      (((I 82 (I 83 ((a1 - 1)).toNat).toNat) ≤ ((I 82 (I 84 (a1).toNat).toNat) + a2) →
      wp (kN 89) mX11_highest Q 37 [none, none, none, vI (I 82 (I 83 ((a1 - 1)).toNat).toNat)] [] I R 89) ∧ (¬ (I 82 (I 83 ((a1 - 1)).toNat).toNat) ≤ ((I 82 (I 84 (a1).toNat).toNat) + a2) →
      Q (vI ((I 82 (I 84 (a1).toNat).toNat) + a2)) I R))))) : wp (kN 89) mX11_highest Q 0 [vR 68, vI a1, vI a2, none] [] I R 89 := by
  refine wp_aload_n (pc' := 1) (q := 0) (i := 0) rfl rfl dX11_highest_0 rfl ?_
  refine wp_iload_n (pc' := 2) (q := 1) (i := 1) rfl rfl dX11_highest_1 rfl ?_
  refine wp_iconst (pc' := 3) dX11_highest_2 rfl ?_
  refine wp_isub (pc' := 4) dX11_highest_3 rfl ?_
  obtain ⟨h2, h⟩ := h
  obtain ⟨h3, h⟩ := h
  refine wp_callV (pc' := 7) (as := [vI (a1 - 1)]) (rest := []) (pX11_worth hR h2 h3) dX11_highest_4 rfl lkX11_140 okX11_worth inX11_worth seX11_worth o_68 vc10 ⟨Nat.le_of_ble_eq_true rfl, Nat.le_of_ble_eq_true rfl⟩ (Nat.le_of_ble_eq_true rfl) (Nat.le_refl _) (Nat.le_refl _) okP_eq okP_eq rfl (rvI rfl (fun x1 I1 R1 hq1 => ?_))
  obtain ⟨eR1, eI1, ex1⟩ := hq1; subst eR1; subst eI1; cases ex1
  refine wp_istore_n (pc' := 8) (q := 3) (i := 3) (L' := [vR 68, vI a1, vI a2, vI (I 82 (I 83 ((a1 - 1)).toNat).toNat)]) rfl (by decide) rfl dX11_highest_7 rfl rfl ?_
  refine wp_iload_n (pc' := 9) (q := 1) (i := 1) rfl rfl dX11_highest_8 rfl ?_
  refine wp_aload_n (pc' := 10) (q := 0) (i := 0) rfl rfl dX11_highest_9 rfl ?_
  refine wp_getI (pc' := 13) (k := 20) dX11_highest_10 vc10 (by decide) rfl lfX11_137 o_68 rfl ?_
  obtain ⟨h4, h⟩ := h
  obtain ⟨h5, h⟩ := h
  refine wp_icmp_ge (pc' := 16) (tgt := 37) h4 h5 dX11_highest_13 rfl rfl (fun hc => ?_) (fun hc => ?_)
  · have h := h.1 hc
    exact wp_dropP (leP_d (leP_d (leP_d (leP_s leP_n)))) h
  · have h := h.2 hc
    refine wp_aload_n (pc' := 17) (q := 0) (i := 0) rfl rfl dX11_highest_16 rfl ?_
    refine wp_iload_n (pc' := 18) (q := 1) (i := 1) rfl rfl dX11_highest_17 rfl ?_
    obtain ⟨h7, h⟩ := h
    obtain ⟨h8, h⟩ := h
    refine wp_callV (pc' := 21) (as := [vI a1]) (rest := []) (pX11_costs hR h7 h8) dX11_highest_18 rfl lkX11_143 okX11_costs inX11_costs seX11_costs o_68 vc10 ⟨Nat.le_of_ble_eq_true rfl, Nat.le_of_ble_eq_true rfl⟩ (Nat.le_of_ble_eq_true rfl) (Nat.le_refl _) (Nat.le_refl _) okP_eq okP_eq rfl (rvI rfl (fun x6 I6 R6 hq6 => ?_))
    obtain ⟨eR6, eI6, ex6⟩ := hq6; subst eR6; subst eI6; cases ex6
    refine wp_iload_n (pc' := 22) (q := 2) (i := 2) rfl rfl dX11_highest_21 rfl ?_
    refine wp_iadd (pc' := 23) dX11_highest_22 rfl ?_
    refine wp_iload_n (pc' := 24) (q := 3) (i := 3) rfl rfl dX11_highest_23 rfl ?_
    obtain ⟨h9, h⟩ := h
    obtain ⟨h10, h⟩ := h
    refine wp_icmp_ge (pc' := 27) (tgt := 37) h9 h10 dX11_highest_24 rfl rfl (fun hc => ?_) (fun hc => ?_)
    · have h := h.1 hc
      exact wp_dropP (leP_d (leP_d (leP_d (leP_s leP_n)))) h
    · have h := h.2 hc
      refine wp_aload_n (pc' := 28) (q := 0) (i := 0) rfl rfl dX11_highest_27 rfl ?_
      refine wp_iload_n (pc' := 29) (q := 1) (i := 1) rfl rfl dX11_highest_28 rfl ?_
      refine wp_callV (pc' := 32) (as := [vI a1]) (rest := []) (pX11_costs hR h7 h8) dX11_highest_29 rfl lkX11_143 okX11_costs inX11_costs seX11_costs o_68 vc10 ⟨Nat.le_of_ble_eq_true rfl, Nat.le_of_ble_eq_true rfl⟩ (Nat.le_of_ble_eq_true rfl) (Nat.le_refl _) (Nat.le_refl _) okP_eq okP_eq rfl (rvI rfl (fun x11 I11 R11 hq11 => ?_))
      obtain ⟨eR11, eI11, ex11⟩ := hq11; subst eR11; subst eI11; cases ex11
      refine wp_iload_n (pc' := 33) (q := 2) (i := 2) rfl rfl dX11_highest_32 rfl ?_
      refine wp_iadd (pc' := 34) dX11_highest_33 rfl ?_
      refine wp_goto (tgt := 38) dX11_highest_34 rfl ?_
      exact wp_ireturn dX11_highest_38 rfl rfl h

set_option maxRecDepth 4000 in
theorem gX11_highest_37 {Q : QT} {I : II} {R : RR} (hR : SR R) {a3 : Int}
    (h : Q (vI a3) I R) : wp (kN 89) mX11_highest Q 37 [none, none, none, vI a3] [] I R 89 := by
  refine wp_iload_n (pc' := 38) (q := 3) (i := 3) rfl rfl dX11_highest_37 rfl ?_
  exact wp_ireturn dX11_highest_38 rfl rfl h

theorem sX11_lines {Q : QT} {I : II} {R : RR} {a1 : Int} (h : wp (kN 89) mX11_lines Q 0 [vR 68, vI a1, none, none] [] I R 89) : Spec mX11_lines [vR 68, vI a1] I R 89 89 Q := Spec_of_wp pyX11_lines rfl (Nat.le_of_ble_eq_true rfl) (Nat.le_refl _) (by decide) h

set_option maxRecDepth 4000 in
theorem gX11_lines_0 {Q : QT} {I : II} {R : RR} (hR : SR R) {a1 : Int}
    (h : (InI a1) ∧
      (((0 : Int) ≤ a1 ∧ a1 ≤ (4 : Int) →
      (∃ Q3 : QT, Spec mX11_showTrue [vR 68] I R 89 89 Q3 ∧ (∀ I3 R3, Q3 none I3 R3 →
      R = R3 ∧ (∃ Q4 : QT, Spec mX11_layLines [vR 68] I3 R 89 89 Q4 ∧ (∀ I4 R4, Q4 none I4 R4 →
      R = R4 ∧ (∃ Q5 : QT, Spec mX11_quantity [vR 68, vI (I4 74 1)] I4 R 89 89 Q5 ∧ (∀ x5 I5 R5, Q5 (vI x5) I5 R5 →
      R = R5 ∧ (((2 : Int) ≤ a1 →
      (InI x5) ∧
      ((¬ x5 = 0 →
      ((¬ a1 = (2 : Int) →
      ((¬ a1 = (3 : Int) →
      (∃ Q7 : QT, Spec mX11_lowest [vR 68, vI x5, vI (I4 74 1)] I5 R 89 89 Q7 ∧ (∀ x7 I7 R7, Q7 (vI x7) I7 R7 →
      R = R7 ∧ (∃ Q8 : QT, Spec mX11_quantity [vR 68, vI 0] I7 R 89 89 Q8 ∧ (∀ x8 I8 R8, Q8 (vI x8) I8 R8 →
      R = R8 ∧ (∃ Q9 : QT, Spec mX11_lowest [vR 68, vI x8, vI 0] I8 R 89 89 Q9 ∧ (∀ x9 I9 R9, Q9 (vI x9) I9 R9 →
      R = R9 ∧ Q (vI (x7 - x9)) I9 R))))))) ∧ (a1 = (3 : Int) →
      (∃ Q10 : QT, Spec mX11_highest [vR 68, vI x5, vI (I4 74 1)] I5 R 89 89 Q10 ∧ (∀ x10 I10 R10, Q10 (vI x10) I10 R10 →
      R = R10 ∧ Q (vI x10) I10 R))))) ∧ (a1 = (2 : Int) →
      (∃ Q11 : QT, Spec mX11_lowest [vR 68, vI x5, vI (I4 74 1)] I5 R 89 89 Q11 ∧ (∀ x11 I11 R11, Q11 (vI x11) I11 R11 →
      R = R11 ∧ Q (vI x11) I11 R))))) ∧ (x5 = 0 →
      Q (vI (-4)) I5 R))) ∧ (¬ (2 : Int) ≤ a1 →
      ((¬ a1 = 0 →
      (∃ Q12 : QT, Spec mX11_gainOf [vR 68, vI x5] I5 R 89 89 Q12 ∧ (∀ x12 I12 R12, Q12 (vI x12) I12 R12 →
      R = R12 ∧ Q (vI x12) I12 R))) ∧ (a1 = 0 →
      Q (vI x5) I5 R))))))))))) ∧ (¬ ((0 : Int) ≤ a1 ∧ a1 ≤ (4 : Int)) →
      Q (vI (-1)) I R))) : wp (kN 89) mX11_lines Q 0 [vR 68, vI a1, none, none] [] I R 89 := by
  refine wp_iload_n (pc' := 1) (q := 1) (i := 1) rfl rfl dX11_lines_0 rfl ?_
  obtain ⟨h1, h⟩ := h
  refine wp_i2l (pc' := 2) h1 dX11_lines_1 rfl ?_
  refine wp_lconst (pc' := 3) dX11_lines_2 rfl ?_
  refine wp_ldc2 (pc' := 6) (x := 4) lcX11_146 (by decide +kernel) dX11_lines_3 rfl ?_
  refine wp_callS (pc' := 9) (as := [vL a1, vL 0, vL 4]) (rest := []) (pX11_in (by decide) (inL_of h1) ⟨by decide, by decide⟩ ⟨by decide, by decide⟩) dX11_lines_6 rfl lkX11_79 okX11_in stX11_in ⟨Nat.le_of_ble_eq_true rfl, Nat.le_of_ble_eq_true rfl⟩ (Nat.le_of_ble_eq_true rfl) (Nat.le_refl _) (Nat.le_refl _) okP_eq okP_eq rfl (rvZ rfl (fun x2 I2 R2 hz2 hq2 => ?_))
  obtain ⟨eR2, eI2, ex2⟩ := hq2; subst eR2; subst eI2; cases ex2
  by_cases hc : (0 : Int) ≤ a1 ∧ a1 ≤ (4 : Int)
  · rw [if_pos hc]; have h := h.1 hc
    refine wp_if_ne (pc' := 12) (tgt := 14) ⟨by decide, by decide⟩ dX11_lines_9 rfl rfl (fun hc => ?_) (fun hc => by exfalso; revert hc; decide)
    refine wp_aload_n (pc' := 15) (q := 0) (i := 0) rfl rfl dX11_lines_14 rfl ?_
    obtain ⟨Q3, hs3, h⟩ := h
    refine wp_callV (pc' := 18) (as := []) (rest := []) hs3 dX11_lines_15 rfl lkX11_148 okX11_showTrue inX11_showTrue seX11_showTrue o_68 vc10 ⟨Nat.le_of_ble_eq_true rfl, Nat.le_of_ble_eq_true rfl⟩ (Nat.le_of_ble_eq_true rfl) (Nat.le_refl _) (Nat.le_refl _) okP_eq okP_eq rfl (rvV rfl (fun I3 R3 hq3 => ?_))
    obtain ⟨hRR3, h⟩ := h I3 R3 hq3; subst hRR3
    refine wp_aload_n (pc' := 19) (q := 0) (i := 0) rfl rfl dX11_lines_18 rfl ?_
    obtain ⟨Q4, hs4, h⟩ := h
    refine wp_callV (pc' := 22) (as := []) (rest := []) hs4 dX11_lines_19 rfl lkX11_151 okX11_layLines inX11_layLines seX11_layLines o_68 vc10 ⟨Nat.le_of_ble_eq_true rfl, Nat.le_of_ble_eq_true rfl⟩ (Nat.le_of_ble_eq_true rfl) (Nat.le_refl _) (Nat.le_refl _) okP_eq okP_eq rfl (rvV rfl (fun I4 R4 hq4 => ?_))
    obtain ⟨hRR4, h⟩ := h I4 R4 hq4; subst hRR4
    refine wp_aload_n (pc' := 23) (q := 0) (i := 0) rfl rfl dX11_lines_22 rfl ?_
    refine wp_getRc (pc' := 26) (k := 6) (j := 74) dX11_lines_23 vc10 (by decide) rfl lfX11_25 o_68 (r_68_6 hR) rfl ?_
    refine wp_iconst (pc' := 27) dX11_lines_26 rfl ?_
    refine wp_iald (pc' := 28) (j := 1) dX11_lines_27 a_74 ⟨by decide, by decide⟩ rfl rfl ?_
    refine wp_istore_n (pc' := 29) (q := 2) (i := 2) (L' := [vR 68, vI a1, vI (I4 74 1), none]) rfl (by decide) rfl dX11_lines_28 rfl rfl ?_
    refine wp_aload_n (pc' := 30) (q := 0) (i := 0) rfl rfl dX11_lines_29 rfl ?_
    refine wp_iload_n (pc' := 31) (q := 2) (i := 2) rfl rfl dX11_lines_30 rfl ?_
    obtain ⟨Q5, hs5, h⟩ := h
    refine wp_callV (pc' := 34) (as := [vI (I4 74 1)]) (rest := []) hs5 dX11_lines_31 rfl lkX11_154 okX11_quantity inX11_quantity seX11_quantity o_68 vc10 ⟨Nat.le_of_ble_eq_true rfl, Nat.le_of_ble_eq_true rfl⟩ (Nat.le_of_ble_eq_true rfl) (Nat.le_refl _) (Nat.le_refl _) okP_eq okP_eq rfl (rvI rfl (fun x5 I5 R5 hq5 => ?_))
    obtain ⟨hRR5, h⟩ := h x5 I5 R5 hq5; subst hRR5
    refine wp_istore_n (pc' := 35) (q := 3) (i := 3) (L' := [vR 68, vI a1, vI (I4 74 1), vI x5]) rfl (by decide) rfl dX11_lines_34 rfl rfl ?_
    refine wp_iload_n (pc' := 36) (q := 1) (i := 1) rfl rfl dX11_lines_35 rfl ?_
    refine wp_iconst (pc' := 37) dX11_lines_36 rfl ?_
    refine wp_icmp_ge (pc' := 40) (tgt := 54) h1 ⟨by decide, by decide⟩ dX11_lines_37 rfl rfl (fun hc => ?_) (fun hc => ?_)
    · have h := h.1 hc
      refine wp_iload_n (pc' := 55) (q := 3) (i := 3) rfl rfl dX11_lines_54 rfl ?_
      obtain ⟨h6, h⟩ := h
      refine wp_if_ne (pc' := 58) (tgt := 61) h6 dX11_lines_55 rfl rfl (fun hc => ?_) (fun hc => ?_)
      · have h := h.1 hc
        refine wp_iload_n (pc' := 62) (q := 1) (i := 1) rfl rfl dX11_lines_61 rfl ?_
        refine wp_iconst (pc' := 63) dX11_lines_62 rfl ?_
        refine wp_icmp_ne (pc' := 66) (tgt := 75) h1 ⟨by decide, by decide⟩ dX11_lines_63 rfl rfl (fun hc => ?_) (fun hc => ?_)
        · have h := h.1 hc
          refine wp_iload_n (pc' := 76) (q := 1) (i := 1) rfl rfl dX11_lines_75 rfl ?_
          refine wp_iconst (pc' := 77) dX11_lines_76 rfl ?_
          refine wp_icmp_ne (pc' := 80) (tgt := 89) h1 ⟨by decide, by decide⟩ dX11_lines_77 rfl rfl (fun hc => ?_) (fun hc => ?_)
          · have h := h.1 hc
            refine wp_aload_n (pc' := 90) (q := 0) (i := 0) rfl rfl dX11_lines_89 rfl ?_
            refine wp_iload_n (pc' := 91) (q := 3) (i := 3) rfl rfl dX11_lines_90 rfl ?_
            refine wp_iload_n (pc' := 92) (q := 2) (i := 2) rfl rfl dX11_lines_91 rfl ?_
            obtain ⟨Q7, hs7, h⟩ := h
            refine wp_callV (pc' := 95) (as := [vI x5, vI (I4 74 1)]) (rest := []) hs7 dX11_lines_92 rfl lkX11_160 okX11_lowest inX11_lowest seX11_lowest o_68 vc10 ⟨Nat.le_of_ble_eq_true rfl, Nat.le_of_ble_eq_true rfl⟩ (Nat.le_of_ble_eq_true rfl) (Nat.le_refl _) (Nat.le_refl _) okP_eq okP_eq rfl (rvI rfl (fun x7 I7 R7 hq7 => ?_))
            obtain ⟨hRR7, h⟩ := h x7 I7 R7 hq7; subst hRR7
            refine wp_aload_n (pc' := 96) (q := 0) (i := 0) rfl rfl dX11_lines_95 rfl ?_
            refine wp_aload_n (pc' := 97) (q := 0) (i := 0) rfl rfl dX11_lines_96 rfl ?_
            refine wp_iconst (pc' := 98) dX11_lines_97 rfl ?_
            obtain ⟨Q8, hs8, h⟩ := h
            refine wp_callV (pc' := 101) (as := [vI 0]) (rest := [vR 68, vI x7]) hs8 dX11_lines_98 rfl lkX11_154 okX11_quantity inX11_quantity seX11_quantity o_68 vc10 ⟨Nat.le_of_ble_eq_true rfl, Nat.le_of_ble_eq_true rfl⟩ (Nat.le_of_ble_eq_true rfl) (Nat.le_refl _) (Nat.le_refl _) okP_eq okP_eq rfl (rvI rfl (fun x8 I8 R8 hq8 => ?_))
            obtain ⟨hRR8, h⟩ := h x8 I8 R8 hq8; subst hRR8
            refine wp_iconst (pc' := 102) dX11_lines_101 rfl ?_
            obtain ⟨Q9, hs9, h⟩ := h
            refine wp_callV (pc' := 105) (as := [vI x8, vI 0]) (rest := [vI x7]) hs9 dX11_lines_102 rfl lkX11_160 okX11_lowest inX11_lowest seX11_lowest o_68 vc10 ⟨Nat.le_of_ble_eq_true rfl, Nat.le_of_ble_eq_true rfl⟩ (Nat.le_of_ble_eq_true rfl) (Nat.le_refl _) (Nat.le_refl _) okP_eq okP_eq rfl (rvI rfl (fun x9 I9 R9 hq9 => ?_))
            obtain ⟨hRR9, h⟩ := h x9 I9 R9 hq9; subst hRR9
            refine wp_isub (pc' := 106) dX11_lines_105 rfl ?_
            exact wp_ireturn dX11_lines_106 rfl rfl h
          · have h := h.2 hc
            refine wp_aload_n (pc' := 81) (q := 0) (i := 0) rfl rfl dX11_lines_80 rfl ?_
            refine wp_iload_n (pc' := 82) (q := 3) (i := 3) rfl rfl dX11_lines_81 rfl ?_
            refine wp_iload_n (pc' := 83) (q := 2) (i := 2) rfl rfl dX11_lines_82 rfl ?_
            obtain ⟨Q10, hs10, h⟩ := h
            refine wp_callV (pc' := 86) (as := [vI x5, vI (I4 74 1)]) (rest := []) hs10 dX11_lines_83 rfl lkX11_164 okX11_highest inX11_highest seX11_highest o_68 vc10 ⟨Nat.le_of_ble_eq_true rfl, Nat.le_of_ble_eq_true rfl⟩ (Nat.le_of_ble_eq_true rfl) (Nat.le_refl _) (Nat.le_refl _) okP_eq okP_eq rfl (rvI rfl (fun x10 I10 R10 hq10 => ?_))
            obtain ⟨hRR10, h⟩ := h x10 I10 R10 hq10; subst hRR10
            refine wp_goto (tgt := 106) dX11_lines_86 rfl ?_
            exact wp_ireturn dX11_lines_106 rfl rfl h
        · have h := h.2 hc
          refine wp_aload_n (pc' := 67) (q := 0) (i := 0) rfl rfl dX11_lines_66 rfl ?_
          refine wp_iload_n (pc' := 68) (q := 3) (i := 3) rfl rfl dX11_lines_67 rfl ?_
          refine wp_iload_n (pc' := 69) (q := 2) (i := 2) rfl rfl dX11_lines_68 rfl ?_
          obtain ⟨Q11, hs11, h⟩ := h
          refine wp_callV (pc' := 72) (as := [vI x5, vI (I4 74 1)]) (rest := []) hs11 dX11_lines_69 rfl lkX11_160 okX11_lowest inX11_lowest seX11_lowest o_68 vc10 ⟨Nat.le_of_ble_eq_true rfl, Nat.le_of_ble_eq_true rfl⟩ (Nat.le_of_ble_eq_true rfl) (Nat.le_refl _) (Nat.le_refl _) okP_eq okP_eq rfl (rvI rfl (fun x11 I11 R11 hq11 => ?_))
          obtain ⟨hRR11, h⟩ := h x11 I11 R11 hq11; subst hRR11
          refine wp_goto (tgt := 106) dX11_lines_72 rfl ?_
          exact wp_ireturn dX11_lines_106 rfl rfl h
      · have h := h.2 hc
        refine wp_bipush (pc' := 60) (by decide) dX11_lines_58 rfl ?_
        exact wp_ireturn dX11_lines_60 rfl rfl h
    · have h := h.2 hc
      refine wp_iload_n (pc' := 41) (q := 1) (i := 1) rfl rfl dX11_lines_40 rfl ?_
      refine wp_if_ne (pc' := 44) (tgt := 48) h1 dX11_lines_41 rfl rfl (fun hc => ?_) (fun hc => ?_)
      · have h := h.1 hc
        refine wp_aload_n (pc' := 49) (q := 0) (i := 0) rfl rfl dX11_lines_48 rfl ?_
        refine wp_iload_n (pc' := 50) (q := 3) (i := 3) rfl rfl dX11_lines_49 rfl ?_
        obtain ⟨Q12, hs12, h⟩ := h
        refine wp_callV (pc' := 53) (as := [vI x5]) (rest := []) hs12 dX11_lines_50 rfl lkX11_157 okX11_gainOf inX11_gainOf seX11_gainOf o_68 vc10 ⟨Nat.le_of_ble_eq_true rfl, Nat.le_of_ble_eq_true rfl⟩ (Nat.le_of_ble_eq_true rfl) (Nat.le_refl _) (Nat.le_refl _) okP_eq okP_eq rfl (rvI rfl (fun x12 I12 R12 hq12 => ?_))
        obtain ⟨hRR12, h⟩ := h x12 I12 R12 hq12; subst hRR12
        exact wp_ireturn dX11_lines_53 rfl rfl h
      · have h := h.2 hc
        refine wp_iload_n (pc' := 45) (q := 3) (i := 3) rfl rfl dX11_lines_44 rfl ?_
        refine wp_goto (tgt := 53) dX11_lines_45 rfl ?_
        exact wp_ireturn dX11_lines_53 rfl rfl h
  · rw [if_neg hc]; have h := h.2 hc
    refine wp_if_ne (pc' := 12) (tgt := 14) ⟨by decide, by decide⟩ dX11_lines_9 rfl rfl (fun hc => by exfalso; revert hc; decide) (fun hc => ?_)
    refine wp_iconst (pc' := 13) dX11_lines_12 rfl ?_
    exact wp_ireturn dX11_lines_13 rfl rfl h

theorem sX11_served {Q : QT} {I : II} {R : RR} {a1 : Int} (h : wp (kN 89) mX11_served Q 0 [vR 68, vI a1, none, none, none, none, none, none, none, none, none, none] [] I R 89) : Spec mX11_served [vR 68, vI a1] I R 89 89 Q := Spec_of_wp pyX11_served rfl (Nat.le_of_ble_eq_true rfl) (Nat.le_refl _) (by decide) h

set_option maxRecDepth 4000 in
theorem gX11_served_0 {Q : QT} {I : II} {R : RR} (hR : SR R) {a1 : Int}
    (h : (InI a1) ∧
      (((0 : Int) ≤ a1 ∧ a1 ≤ (3 : Int) →
      (∃ Q3 : QT, Spec mX11_showTrue [vR 68] I R 89 89 Q3 ∧ (∀ I3 R3, Q3 none I3 R3 →
      R = R3 ∧ (∃ Q4 : QT, Spec mX11_layLines [vR 68] I3 R 89 89 Q4 ∧ (∀ I4 R4, Q4 none I4 R4 →
      R = R4 ∧ (∃ Q5 : QT, Spec mX11_quantity [vR 68, vI (I4 74 1)] I4 R 89 89 Q5 ∧ (∀ x5 I5 R5, Q5 (vI x5) I5 R5 →
      R = R5 ∧ (∃ Q6 : QT, Spec mX11_gainOf [vR 68, vI x5] I5 R 89 89 Q6 ∧ (∀ x6 I6 R6, Q6 (vI x6) I6 R6 →
      R = R6 ∧ (InI x5) ∧
      ((x5 = 0 →
      wp (kN 89) mX11_served Q 67 [none, vI a1, none, none, vI x5, vI x6, none, none, none, none, none, none] [] I6 R 89) ∧ (¬ (x5 = 0) →
      (∃ Q8 : QT, Spec mX11_lowest [vR 68, vI x5, vI (I4 74 1)] I6 R 89 89 Q8 ∧ (∀ x8 I8 R8, Q8 (vI x8) I8 R8 →
      R = R8 ∧ (InI (I4 74 2)) ∧
      (InI x8) ∧
      (((I4 74 2) < x8 →
      wp (kN 89) mX11_served Q 91 [vR 68, vI a1, vI (I4 74 1), vI (I4 74 2), none, vI x6, vI 0, none, none, none, none, none] [] I8 R 89) ∧ (¬ (I4 74 2) < x8 →
      wp (kN 89) mX11_served Q 67 [none, vI a1, none, none, vI x5, vI x6, none, none, none, none, none, none] [] I8 R 89))))))))))))))) ∧ (¬ ((0 : Int) ≤ a1 ∧ a1 ≤ (3 : Int)) →
      Q (vI (-1)) I R))) : wp (kN 89) mX11_served Q 0 [vR 68, vI a1, none, none, none, none, none, none, none, none, none, none] [] I R 89 := by
  refine wp_iload_n (pc' := 1) (q := 1) (i := 1) rfl rfl dX11_served_0 rfl ?_
  obtain ⟨h1, h⟩ := h
  refine wp_i2l (pc' := 2) h1 dX11_served_1 rfl ?_
  refine wp_lconst (pc' := 3) dX11_served_2 rfl ?_
  refine wp_ldc2 (pc' := 6) (x := 3) lcX11_100 (by decide +kernel) dX11_served_3 rfl ?_
  refine wp_callS (pc' := 9) (as := [vL a1, vL 0, vL 3]) (rest := []) (pX11_in (by decide) (inL_of h1) ⟨by decide, by decide⟩ ⟨by decide, by decide⟩) dX11_served_6 rfl lkX11_79 okX11_in stX11_in ⟨Nat.le_of_ble_eq_true rfl, Nat.le_of_ble_eq_true rfl⟩ (Nat.le_of_ble_eq_true rfl) (Nat.le_refl _) (Nat.le_refl _) okP_eq okP_eq rfl (rvZ rfl (fun x2 I2 R2 hz2 hq2 => ?_))
  obtain ⟨eR2, eI2, ex2⟩ := hq2; subst eR2; subst eI2; cases ex2
  by_cases hc : (0 : Int) ≤ a1 ∧ a1 ≤ (3 : Int)
  · rw [if_pos hc]; have h := h.1 hc
    refine wp_if_ne (pc' := 12) (tgt := 14) ⟨by decide, by decide⟩ dX11_served_9 rfl rfl (fun hc => ?_) (fun hc => by exfalso; revert hc; decide)
    refine wp_aload_n (pc' := 15) (q := 0) (i := 0) rfl rfl dX11_served_14 rfl ?_
    obtain ⟨Q3, hs3, h⟩ := h
    refine wp_callV (pc' := 18) (as := []) (rest := []) hs3 dX11_served_15 rfl lkX11_148 okX11_showTrue inX11_showTrue seX11_showTrue o_68 vc10 ⟨Nat.le_of_ble_eq_true rfl, Nat.le_of_ble_eq_true rfl⟩ (Nat.le_of_ble_eq_true rfl) (Nat.le_refl _) (Nat.le_refl _) okP_eq okP_eq rfl (rvV rfl (fun I3 R3 hq3 => ?_))
    obtain ⟨hRR3, h⟩ := h I3 R3 hq3; subst hRR3
    refine wp_aload_n (pc' := 19) (q := 0) (i := 0) rfl rfl dX11_served_18 rfl ?_
    obtain ⟨Q4, hs4, h⟩ := h
    refine wp_callV (pc' := 22) (as := []) (rest := []) hs4 dX11_served_19 rfl lkX11_151 okX11_layLines inX11_layLines seX11_layLines o_68 vc10 ⟨Nat.le_of_ble_eq_true rfl, Nat.le_of_ble_eq_true rfl⟩ (Nat.le_of_ble_eq_true rfl) (Nat.le_refl _) (Nat.le_refl _) okP_eq okP_eq rfl (rvV rfl (fun I4 R4 hq4 => ?_))
    obtain ⟨hRR4, h⟩ := h I4 R4 hq4; subst hRR4
    refine wp_aload_n (pc' := 23) (q := 0) (i := 0) rfl rfl dX11_served_22 rfl ?_
    refine wp_getRc (pc' := 26) (k := 6) (j := 74) dX11_served_23 vc10 (by decide) rfl lfX11_25 o_68 (r_68_6 hR) rfl ?_
    refine wp_iconst (pc' := 27) dX11_served_26 rfl ?_
    refine wp_iald (pc' := 28) (j := 1) dX11_served_27 a_74 ⟨by decide, by decide⟩ rfl rfl ?_
    refine wp_istore_n (pc' := 29) (q := 2) (i := 2) (L' := [vR 68, vI a1, vI (I4 74 1), none, none, none, none, none, none, none, none, none]) rfl (by decide) rfl dX11_served_28 rfl rfl ?_
    refine wp_aload_n (pc' := 30) (q := 0) (i := 0) rfl rfl dX11_served_29 rfl ?_
    refine wp_getRc (pc' := 33) (k := 6) (j := 74) dX11_served_30 vc10 (by decide) rfl lfX11_25 o_68 (r_68_6 hR) rfl ?_
    refine wp_iconst (pc' := 34) dX11_served_33 rfl ?_
    refine wp_iald (pc' := 35) (j := 2) dX11_served_34 a_74 ⟨by decide, by decide⟩ rfl rfl ?_
    refine wp_istore_n (pc' := 36) (q := 3) (i := 3) (L' := [vR 68, vI a1, vI (I4 74 1), vI (I4 74 2), none, none, none, none, none, none, none, none]) rfl (by decide) rfl dX11_served_35 rfl rfl ?_
    refine wp_aload_n (pc' := 37) (q := 0) (i := 0) rfl rfl dX11_served_36 rfl ?_
    refine wp_iload_n (pc' := 38) (q := 2) (i := 2) rfl rfl dX11_served_37 rfl ?_
    obtain ⟨Q5, hs5, h⟩ := h
    refine wp_callV (pc' := 41) (as := [vI (I4 74 1)]) (rest := []) hs5 dX11_served_38 rfl lkX11_154 okX11_quantity inX11_quantity seX11_quantity o_68 vc10 ⟨Nat.le_of_ble_eq_true rfl, Nat.le_of_ble_eq_true rfl⟩ (Nat.le_of_ble_eq_true rfl) (Nat.le_refl _) (Nat.le_refl _) okP_eq okP_eq rfl (rvI rfl (fun x5 I5 R5 hq5 => ?_))
    obtain ⟨hRR5, h⟩ := h x5 I5 R5 hq5; subst hRR5
    refine wp_istore (pc' := 43) (i := 4) (L' := [vR 68, vI a1, vI (I4 74 1), vI (I4 74 2), vI x5, none, none, none, none, none, none, none]) (by decide) rfl dX11_served_41 rfl rfl ?_
    refine wp_aload_n (pc' := 44) (q := 0) (i := 0) rfl rfl dX11_served_43 rfl ?_
    refine wp_iload (pc' := 46) (i := 4) rfl dX11_served_44 rfl ?_
    obtain ⟨Q6, hs6, h⟩ := h
    refine wp_callV (pc' := 49) (as := [vI x5]) (rest := []) hs6 dX11_served_46 rfl lkX11_157 okX11_gainOf inX11_gainOf seX11_gainOf o_68 vc10 ⟨Nat.le_of_ble_eq_true rfl, Nat.le_of_ble_eq_true rfl⟩ (Nat.le_of_ble_eq_true rfl) (Nat.le_refl _) (Nat.le_refl _) okP_eq okP_eq rfl (rvI rfl (fun x6 I6 R6 hq6 => ?_))
    obtain ⟨hRR6, h⟩ := h x6 I6 R6 hq6; subst hRR6
    refine wp_istore (pc' := 51) (i := 5) (L' := [vR 68, vI a1, vI (I4 74 1), vI (I4 74 2), vI x5, vI x6, none, none, none, none, none, none]) (by decide) rfl dX11_served_49 rfl rfl ?_
    refine wp_iload (pc' := 53) (i := 4) rfl dX11_served_51 rfl ?_
    obtain ⟨h7, h⟩ := h
    refine wp_if_eq (pc' := 56) (tgt := 67) h7 dX11_served_53 rfl rfl (fun hc => ?_) (fun hc => ?_)
    · have h := h.1 hc
      exact wp_dropP (leP_d (leP_s (leP_d (leP_d (leP_s (leP_s (leP_s (leP_s (leP_s (leP_s (leP_s (leP_s leP_n)))))))))))) h
    · have h := h.2 hc
      refine wp_iload_n (pc' := 57) (q := 3) (i := 3) rfl rfl dX11_served_56 rfl ?_
      refine wp_aload_n (pc' := 58) (q := 0) (i := 0) rfl rfl dX11_served_57 rfl ?_
      refine wp_iload (pc' := 60) (i := 4) rfl dX11_served_58 rfl ?_
      refine wp_iload_n (pc' := 61) (q := 2) (i := 2) rfl rfl dX11_served_60 rfl ?_
      obtain ⟨Q8, hs8, h⟩ := h
      refine wp_callV (pc' := 64) (as := [vI x5, vI (I4 74 1)]) (rest := [vI (I4 74 2)]) hs8 dX11_served_61 rfl lkX11_160 okX11_lowest inX11_lowest seX11_lowest o_68 vc10 ⟨Nat.le_of_ble_eq_true rfl, Nat.le_of_ble_eq_true rfl⟩ (Nat.le_of_ble_eq_true rfl) (Nat.le_refl _) (Nat.le_refl _) okP_eq okP_eq rfl (rvI rfl (fun x8 I8 R8 hq8 => ?_))
      obtain ⟨hRR8, h⟩ := h x8 I8 R8 hq8; subst hRR8
      obtain ⟨h9, h⟩ := h
      obtain ⟨h10, h⟩ := h
      refine wp_icmp_lt (pc' := 67) (tgt := 88) h9 h10 dX11_served_64 rfl rfl (fun hc => ?_) (fun hc => ?_)
      · have h := h.1 hc
        refine wp_iconst (pc' := 89) dX11_served_88 rfl ?_
        refine wp_istore (pc' := 91) (i := 6) (L' := [vR 68, vI a1, vI (I4 74 1), vI (I4 74 2), vI x5, vI x6, vI 0, none, none, none, none, none]) (by decide) rfl dX11_served_89 rfl rfl ?_
        exact wp_dropP (leP_s (leP_s (leP_s (leP_s (leP_d (leP_s (leP_s (leP_s (leP_s (leP_s (leP_s (leP_s leP_n)))))))))))) h
      · have h := h.2 hc
        exact wp_dropP (leP_d (leP_s (leP_d (leP_d (leP_s (leP_s (leP_s (leP_s (leP_s (leP_s (leP_s (leP_s leP_n)))))))))))) h
  · rw [if_neg hc]; have h := h.2 hc
    refine wp_if_ne (pc' := 12) (tgt := 14) ⟨by decide, by decide⟩ dX11_served_9 rfl rfl (fun hc => by exfalso; revert hc; decide) (fun hc => ?_)
    refine wp_iconst (pc' := 13) dX11_served_12 rfl ?_
    exact wp_ireturn dX11_served_13 rfl rfl h

set_option maxRecDepth 4000 in
theorem gX11_served_67 {Q : QT} {I : II} {R : RR} (hR : SR R) {a1 : Int} {a4 : Int} {a5 : Int}
    (h : (InI a1) ∧
      ((¬ a1 = 0 →
      ((¬ a1 = (3 : Int) →
      Q (vI a5) I R) ∧ (a1 = (3 : Int) →
      Q (vI 0) I R))) ∧ (a1 = 0 →
      Q (vI a4) I R))) : wp (kN 89) mX11_served Q 67 [none, vI a1, none, none, vI a4, vI a5, none, none, none, none, none, none] [] I R 89 := by
  refine wp_iload_n (pc' := 68) (q := 1) (i := 1) rfl rfl dX11_served_67 rfl ?_
  obtain ⟨h1, h⟩ := h
  refine wp_if_ne (pc' := 71) (tgt := 76) h1 dX11_served_68 rfl rfl (fun hc => ?_) (fun hc => ?_)
  · have h := h.1 hc
    refine wp_iload_n (pc' := 77) (q := 1) (i := 1) rfl rfl dX11_served_76 rfl ?_
    refine wp_iconst (pc' := 78) dX11_served_77 rfl ?_
    refine wp_icmp_ne (pc' := 81) (tgt := 85) h1 ⟨by decide, by decide⟩ dX11_served_78 rfl rfl (fun hc => ?_) (fun hc => ?_)
    · have h := h.1 hc
      refine wp_iload (pc' := 87) (i := 5) rfl dX11_served_85 rfl ?_
      exact wp_ireturn dX11_served_87 rfl rfl h
    · have h := h.2 hc
      refine wp_iconst (pc' := 82) dX11_served_81 rfl ?_
      refine wp_goto (tgt := 87) dX11_served_82 rfl ?_
      exact wp_ireturn dX11_served_87 rfl rfl h
  · have h := h.2 hc
    refine wp_iload (pc' := 73) (i := 4) rfl dX11_served_71 rfl ?_
    refine wp_goto (tgt := 87) dX11_served_73 rfl ?_
    exact wp_ireturn dX11_served_87 rfl rfl h

set_option maxRecDepth 4000 in
theorem gX11_served_91 {Q : QT} {I : II} {R : RR} (hR : SR R) {a1 : Int} {a2 : Int} {a3 : Int} {a5 : Int} {a6 : Int}
    (h : (InI a6) ∧
      (InI (I 68 19)) ∧
      (((I 68 19) ≤ a6 →
      wp (kN 89) mX11_served Q 116 [vR 68, vI a1, vI a2, vI a3, none, vI a5, vI a6, none, none, none, none, none] [] I R 89) ∧ (¬ (I 68 19) ≤ a6 →
      (0 ≤ a6 ∧ a6 < 10) ∧
      (0 ≤ I 83 (a6).toNat ∧ I 83 (a6).toNat < 20) ∧
      (InI (I 82 (I 83 (a6).toNat).toNat)) ∧
      (InI a3) ∧
      (((I 82 (I 83 (a6).toNat).toNat) < a3 →
      wp (kN 89) mX11_served Q 116 [vR 68, vI a1, vI a2, vI a3, none, vI a5, vI a6, none, none, none, none, none] [] I R 89) ∧ (¬ (I 82 (I 83 (a6).toNat).toNat) < a3 →
      wp (kN 89) mX11_served Q 91 [vR 68, vI a1, vI a2, vI a3, none, vI a5, vI (a6 + 1), none, none, none, none, none] [] I R 89))))) : wp (kN 89) mX11_served Q 91 [vR 68, vI a1, vI a2, vI a3, none, vI a5, vI a6, none, none, none, none, none] [] I R 89 := by
  refine wp_iload (pc' := 93) (i := 6) rfl dX11_served_91 rfl ?_
  refine wp_aload_n (pc' := 94) (q := 0) (i := 0) rfl rfl dX11_served_93 rfl ?_
  refine wp_getI (pc' := 97) (k := 19) dX11_served_94 vc10 (by decide) rfl lfX11_134 o_68 rfl ?_
  obtain ⟨h1, h⟩ := h
  obtain ⟨h2, h⟩ := h
  refine wp_icmp_ge (pc' := 100) (tgt := 116) h1 h2 dX11_served_97 rfl rfl (fun hc => ?_) (fun hc => ?_)
  · have h := h.1 hc
    exact h
  · have h := h.2 hc
    refine wp_aload_n (pc' := 101) (q := 0) (i := 0) rfl rfl dX11_served_100 rfl ?_
    refine wp_iload (pc' := 103) (i := 6) rfl dX11_served_101 rfl ?_
    obtain ⟨h4, h⟩ := h
    obtain ⟨h5, h⟩ := h
    refine wp_callV (pc' := 106) (as := [vI a6]) (rest := []) (pX11_worth hR h4 h5) dX11_served_103 rfl lkX11_140 okX11_worth inX11_worth seX11_worth o_68 vc10 ⟨Nat.le_of_ble_eq_true rfl, Nat.le_of_ble_eq_true rfl⟩ (Nat.le_of_ble_eq_true rfl) (Nat.le_refl _) (Nat.le_refl _) okP_eq okP_eq rfl (rvI rfl (fun x3 I3 R3 hq3 => ?_))
    obtain ⟨eR3, eI3, ex3⟩ := hq3; subst eR3; subst eI3; cases ex3
    refine wp_iload_n (pc' := 107) (q := 3) (i := 3) rfl rfl dX11_served_106 rfl ?_
    obtain ⟨h6, h⟩ := h
    obtain ⟨h7, h⟩ := h
    refine wp_icmp_lt (pc' := 110) (tgt := 116) h6 h7 dX11_served_107 rfl rfl (fun hc => ?_) (fun hc => ?_)
    · have h := h.1 hc
      exact h
    · have h := h.2 hc
      refine wp_iinc (pc' := 113) (i := 6) (L' := [vR 68, vI a1, vI a2, vI a3, none, vI a5, vI (a6 + 1), none, none, none, none, none]) rfl (by decide) rfl dX11_served_110 rfl rfl ?_
      refine wp_goto (tgt := 91) dX11_served_113 rfl ?_
      exact h

set_option maxRecDepth 4000 in
theorem gX11_served_116 {Q : QT} {I : II} {R : RR} (hR : SR R) {a1 : Int} {a2 : Int} {a3 : Int} {a5 : Int} {a6 : Int}
    (h : wp (kN 89) mX11_served Q 119 [vR 68, vI a1, vI a2, vI a3, none, vI a5, vI a6, vI 0, none, none, none, none] [] I R 89) : wp (kN 89) mX11_served Q 116 [vR 68, vI a1, vI a2, vI a3, none, vI a5, vI a6, none, none, none, none, none] [] I R 89 := by
  refine wp_iconst (pc' := 117) dX11_served_116 rfl ?_
  refine wp_istore (pc' := 119) (i := 7) (L' := [vR 68, vI a1, vI a2, vI a3, none, vI a5, vI a6, vI 0, none, none, none, none]) (by decide) rfl dX11_served_117 rfl rfl ?_
  exact h

set_option maxRecDepth 4000 in
theorem gX11_served_119 {Q : QT} {I : II} {R : RR} (hR : SR R) {a1 : Int} {a2 : Int} {a3 : Int} {a5 : Int} {a6 : Int} {a7 : Int}
    (h : (InI a7) ∧
      (InI (I 68 20)) ∧
      (((I 68 20) ≤ a7 →
      wp (kN 89) mX11_served Q 146 [vR 68, vI a1, none, none, none, vI a5, vI a6, vI a7, none, none, none, none] [] I R 89) ∧ (¬ (I 68 20) ≤ a7 →
      (0 ≤ a7 ∧ a7 < 10) ∧
      (0 ≤ I 84 (a7).toNat ∧ I 84 (a7).toNat < 20) ∧
      (InI ((I 82 (I 84 (a7).toNat).toNat) + a2)) ∧
      (InI a3) ∧
      ((a3 < ((I 82 (I 84 (a7).toNat).toNat) + a2) →
      wp (kN 89) mX11_served Q 146 [vR 68, vI a1, none, none, none, vI a5, vI a6, vI a7, none, none, none, none] [] I R 89) ∧ (¬ (a3 < ((I 82 (I 84 (a7).toNat).toNat) + a2)) →
      wp (kN 89) mX11_served Q 119 [vR 68, vI a1, vI a2, vI a3, none, vI a5, vI a6, vI (a7 + 1), none, none, none, none] [] I R 89))))) : wp (kN 89) mX11_served Q 119 [vR 68, vI a1, vI a2, vI a3, none, vI a5, vI a6, vI a7, none, none, none, none] [] I R 89 := by
  refine wp_iload (pc' := 121) (i := 7) rfl dX11_served_119 rfl ?_
  refine wp_aload_n (pc' := 122) (q := 0) (i := 0) rfl rfl dX11_served_121 rfl ?_
  refine wp_getI (pc' := 125) (k := 20) dX11_served_122 vc10 (by decide) rfl lfX11_137 o_68 rfl ?_
  obtain ⟨h1, h⟩ := h
  obtain ⟨h2, h⟩ := h
  refine wp_icmp_ge (pc' := 128) (tgt := 146) h1 h2 dX11_served_125 rfl rfl (fun hc => ?_) (fun hc => ?_)
  · have h := h.1 hc
    exact wp_dropP (leP_s (leP_s (leP_d (leP_d (leP_s (leP_s (leP_s (leP_s (leP_s (leP_s (leP_s (leP_s leP_n)))))))))))) h
  · have h := h.2 hc
    refine wp_aload_n (pc' := 129) (q := 0) (i := 0) rfl rfl dX11_served_128 rfl ?_
    refine wp_iload (pc' := 131) (i := 7) rfl dX11_served_129 rfl ?_
    obtain ⟨h4, h⟩ := h
    obtain ⟨h5, h⟩ := h
    refine wp_callV (pc' := 134) (as := [vI a7]) (rest := []) (pX11_costs hR h4 h5) dX11_served_131 rfl lkX11_143 okX11_costs inX11_costs seX11_costs o_68 vc10 ⟨Nat.le_of_ble_eq_true rfl, Nat.le_of_ble_eq_true rfl⟩ (Nat.le_of_ble_eq_true rfl) (Nat.le_refl _) (Nat.le_refl _) okP_eq okP_eq rfl (rvI rfl (fun x3 I3 R3 hq3 => ?_))
    obtain ⟨eR3, eI3, ex3⟩ := hq3; subst eR3; subst eI3; cases ex3
    refine wp_iload_n (pc' := 135) (q := 2) (i := 2) rfl rfl dX11_served_134 rfl ?_
    refine wp_iadd (pc' := 136) dX11_served_135 rfl ?_
    refine wp_iload_n (pc' := 137) (q := 3) (i := 3) rfl rfl dX11_served_136 rfl ?_
    obtain ⟨h6, h⟩ := h
    obtain ⟨h7, h⟩ := h
    refine wp_icmp_gt (pc' := 140) (tgt := 146) h6 h7 dX11_served_137 rfl rfl (fun hc => ?_) (fun hc => ?_)
    · have h := h.1 hc
      exact wp_dropP (leP_s (leP_s (leP_d (leP_d (leP_s (leP_s (leP_s (leP_s (leP_s (leP_s (leP_s (leP_s leP_n)))))))))))) h
    · have h := h.2 hc
      refine wp_iinc (pc' := 143) (i := 7) (L' := [vR 68, vI a1, vI a2, vI a3, none, vI a5, vI a6, vI (a7 + 1), none, none, none, none]) rfl (by decide) rfl dX11_served_140 rfl rfl ?_
      refine wp_goto (tgt := 119) dX11_served_143 rfl ?_
      exact h

set_option maxRecDepth 4000 in
theorem gX11_served_146 {Q : QT} {I : II} {R : RR} (hR : SR R) {a1 : Int} {a5 : Int} {a6 : Int} {a7 : Int}
    (h : (InI a6) ∧
      (InI a7) ∧
      ((a7 ≤ a6 →
      wp (kN 89) mX11_served Q 171 [vR 68, vI a1, none, none, none, vI a5, vI a6, vI a7, vI a7, vI 0, vI 0, vI 0] [] I R 89) ∧ (¬ (a7 ≤ a6) →
      wp (kN 89) mX11_served Q 171 [vR 68, vI a1, none, none, none, vI a5, vI a6, vI a7, vI a6, vI 0, vI 0, vI 0] [] I R 89))) : wp (kN 89) mX11_served Q 146 [vR 68, vI a1, none, none, none, vI a5, vI a6, vI a7, none, none, none, none] [] I R 89 := by
  refine wp_iload (pc' := 148) (i := 6) rfl dX11_served_146 rfl ?_
  refine wp_iload (pc' := 150) (i := 7) rfl dX11_served_148 rfl ?_
  obtain ⟨h1, h⟩ := h
  obtain ⟨h2, h⟩ := h
  refine wp_icmp_ge (pc' := 153) (tgt := 158) h1 h2 dX11_served_150 rfl rfl (fun hc => ?_) (fun hc => ?_)
  · have h := h.1 hc
    refine wp_iload (pc' := 160) (i := 7) rfl dX11_served_158 rfl ?_
    refine wp_istore (pc' := 162) (i := 8) (L' := [vR 68, vI a1, none, none, none, vI a5, vI a6, vI a7, vI a7, none, none, none]) (by decide) rfl dX11_served_160 rfl rfl ?_
    refine wp_iconst (pc' := 163) dX11_served_162 rfl ?_
    refine wp_istore (pc' := 165) (i := 9) (L' := [vR 68, vI a1, none, none, none, vI a5, vI a6, vI a7, vI a7, vI 0, none, none]) (by decide) rfl dX11_served_163 rfl rfl ?_
    refine wp_iconst (pc' := 166) dX11_served_165 rfl ?_
    refine wp_istore (pc' := 168) (i := 10) (L' := [vR 68, vI a1, none, none, none, vI a5, vI a6, vI a7, vI a7, vI 0, vI 0, none]) (by decide) rfl dX11_served_166 rfl rfl ?_
    refine wp_iconst (pc' := 169) dX11_served_168 rfl ?_
    refine wp_istore (pc' := 171) (i := 11) (L' := [vR 68, vI a1, none, none, none, vI a5, vI a6, vI a7, vI a7, vI 0, vI 0, vI 0]) (by decide) rfl dX11_served_169 rfl rfl ?_
    exact h
  · have h := h.2 hc
    refine wp_iload (pc' := 155) (i := 6) rfl dX11_served_153 rfl ?_
    refine wp_goto (tgt := 160) dX11_served_155 rfl ?_
    refine wp_istore (pc' := 162) (i := 8) (L' := [vR 68, vI a1, none, none, none, vI a5, vI a6, vI a7, vI a6, none, none, none]) (by decide) rfl dX11_served_160 rfl rfl ?_
    refine wp_iconst (pc' := 163) dX11_served_162 rfl ?_
    refine wp_istore (pc' := 165) (i := 9) (L' := [vR 68, vI a1, none, none, none, vI a5, vI a6, vI a7, vI a6, vI 0, none, none]) (by decide) rfl dX11_served_163 rfl rfl ?_
    refine wp_iconst (pc' := 166) dX11_served_165 rfl ?_
    refine wp_istore (pc' := 168) (i := 10) (L' := [vR 68, vI a1, none, none, none, vI a5, vI a6, vI a7, vI a6, vI 0, vI 0, none]) (by decide) rfl dX11_served_166 rfl rfl ?_
    refine wp_iconst (pc' := 169) dX11_served_168 rfl ?_
    refine wp_istore (pc' := 171) (i := 11) (L' := [vR 68, vI a1, none, none, none, vI a5, vI a6, vI a7, vI a6, vI 0, vI 0, vI 0]) (by decide) rfl dX11_served_169 rfl rfl ?_
    exact h

set_option maxRecDepth 4000 in
theorem gX11_served_171 {Q : QT} {I : II} {R : RR} (hR : SR R) {a1 : Int} {a5 : Int} {a6 : Int} {a7 : Int} {a8 : Int} {a9 : Int} {a10 : Int} {a11 : Int}
    (h : (InI a11) ∧
      (InI a8) ∧
      ((a8 ≤ a11 →
      (InI a1) ∧
      ((¬ a1 = 0 →
      ((¬ a1 = (1 : Int) →
      ((¬ a1 = (2 : Int) →
      Q (vI (a5 - a10)) I R) ∧ (a1 = (2 : Int) →
      Q (vI a10) I R))) ∧ (a1 = (1 : Int) →
      Q (vI a9) I R))) ∧ (a1 = 0 →
      Q (vI a8) I R))) ∧ (¬ (a8 ≤ a11) →
      (0 ≤ a11 ∧ a11 < 10) ∧
      (0 ≤ I 83 (a11).toNat ∧ I 83 (a11).toNat < 20) ∧
      (0 ≤ I 84 (a11).toNat ∧ I 84 (a11).toNat < 20) ∧
      (0 ≤ ((a6 - 1) - a11) ∧ ((a6 - 1) - a11) < 10) ∧
      (0 ≤ I 83 (((a6 - 1) - a11)).toNat ∧ I 83 (((a6 - 1) - a11)).toNat < 20) ∧
      (0 ≤ ((a7 - 1) - a11) ∧ ((a7 - 1) - a11) < 10) ∧
      (0 ≤ I 84 (((a7 - 1) - a11)).toNat ∧ I 84 (((a7 - 1) - a11)).toNat < 20) ∧
      wp (kN 89) mX11_served Q 171 [vR 68, vI a1, none, none, none, vI a5, vI a6, vI a7, vI a8, vI (a9 + ((I 82 (I 83 (a11).toNat).toNat) - (I 82 (I 84 (a11).toNat).toNat))), vI (a10 + ((I 82 (I 83 (((a6 - 1) - a11)).toNat).toNat) - (I 82 (I 84 (((a7 - 1) - a11)).toNat).toNat))), vI (a11 + 1)] [] I R 89))) : wp (kN 89) mX11_served Q 171 [vR 68, vI a1, none, none, none, vI a5, vI a6, vI a7, vI a8, vI a9, vI a10, vI a11] [] I R 89 := by
  refine wp_iload (pc' := 173) (i := 11) rfl dX11_served_171 rfl ?_
  refine wp_iload (pc' := 175) (i := 8) rfl dX11_served_173 rfl ?_
  obtain ⟨h1, h⟩ := h
  obtain ⟨h2, h⟩ := h
  refine wp_icmp_ge (pc' := 178) (tgt := 230) h1 h2 dX11_served_175 rfl rfl (fun hc => ?_) (fun hc => ?_)
  · have h := h.1 hc
    refine wp_iload_n (pc' := 231) (q := 1) (i := 1) rfl rfl dX11_served_230 rfl ?_
    obtain ⟨h3, h⟩ := h
    refine wp_if_ne (pc' := 234) (tgt := 239) h3 dX11_served_231 rfl rfl (fun hc => ?_) (fun hc => ?_)
    · have h := h.1 hc
      refine wp_iload_n (pc' := 240) (q := 1) (i := 1) rfl rfl dX11_served_239 rfl ?_
      refine wp_iconst (pc' := 241) dX11_served_240 rfl ?_
      refine wp_icmp_ne (pc' := 244) (tgt := 249) h3 ⟨by decide, by decide⟩ dX11_served_241 rfl rfl (fun hc => ?_) (fun hc => ?_)
      · have h := h.1 hc
        refine wp_iload_n (pc' := 250) (q := 1) (i := 1) rfl rfl dX11_served_249 rfl ?_
        refine wp_iconst (pc' := 251) dX11_served_250 rfl ?_
        refine wp_icmp_ne (pc' := 254) (tgt := 259) h3 ⟨by decide, by decide⟩ dX11_served_251 rfl rfl (fun hc => ?_) (fun hc => ?_)
        · have h := h.1 hc
          refine wp_iload (pc' := 261) (i := 5) rfl dX11_served_259 rfl ?_
          refine wp_iload (pc' := 263) (i := 10) rfl dX11_served_261 rfl ?_
          refine wp_isub (pc' := 264) dX11_served_263 rfl ?_
          exact wp_ireturn dX11_served_264 rfl rfl h
        · have h := h.2 hc
          refine wp_iload (pc' := 256) (i := 10) rfl dX11_served_254 rfl ?_
          refine wp_goto (tgt := 264) dX11_served_256 rfl ?_
          exact wp_ireturn dX11_served_264 rfl rfl h
      · have h := h.2 hc
        refine wp_iload (pc' := 246) (i := 9) rfl dX11_served_244 rfl ?_
        refine wp_goto (tgt := 264) dX11_served_246 rfl ?_
        exact wp_ireturn dX11_served_264 rfl rfl h
    · have h := h.2 hc
      refine wp_iload (pc' := 236) (i := 8) rfl dX11_served_234 rfl ?_
      refine wp_goto (tgt := 264) dX11_served_236 rfl ?_
      exact wp_ireturn dX11_served_264 rfl rfl h
  · have h := h.2 hc
    refine wp_iload (pc' := 180) (i := 9) rfl dX11_served_178 rfl ?_
    refine wp_aload_n (pc' := 181) (q := 0) (i := 0) rfl rfl dX11_served_180 rfl ?_
    refine wp_iload (pc' := 183) (i := 11) rfl dX11_served_181 rfl ?_
    obtain ⟨h5, h⟩ := h
    obtain ⟨h6, h⟩ := h
    refine wp_callV (pc' := 186) (as := [vI a11]) (rest := [vI a9]) (pX11_worth hR h5 h6) dX11_served_183 rfl lkX11_140 okX11_worth inX11_worth seX11_worth o_68 vc10 ⟨Nat.le_of_ble_eq_true rfl, Nat.le_of_ble_eq_true rfl⟩ (Nat.le_of_ble_eq_true rfl) (Nat.le_refl _) (Nat.le_refl _) okP_eq okP_eq rfl (rvI rfl (fun x4 I4 R4 hq4 => ?_))
    obtain ⟨eR4, eI4, ex4⟩ := hq4; subst eR4; subst eI4; cases ex4
    refine wp_aload_n (pc' := 187) (q := 0) (i := 0) rfl rfl dX11_served_186 rfl ?_
    refine wp_iload (pc' := 189) (i := 11) rfl dX11_served_187 rfl ?_
    obtain ⟨h8, h⟩ := h
    refine wp_callV (pc' := 192) (as := [vI a11]) (rest := [vI (I 82 (I 83 (a11).toNat).toNat), vI a9]) (pX11_costs hR h5 h8) dX11_served_189 rfl lkX11_143 okX11_costs inX11_costs seX11_costs o_68 vc10 ⟨Nat.le_of_ble_eq_true rfl, Nat.le_of_ble_eq_true rfl⟩ (Nat.le_of_ble_eq_true rfl) (Nat.le_refl _) (Nat.le_refl _) okP_eq okP_eq rfl (rvI rfl (fun x7 I7 R7 hq7 => ?_))
    obtain ⟨eR7, eI7, ex7⟩ := hq7; subst eR7; subst eI7; cases ex7
    refine wp_isub (pc' := 193) dX11_served_192 rfl ?_
    refine wp_iadd (pc' := 194) dX11_served_193 rfl ?_
    refine wp_istore (pc' := 196) (i := 9) (L' := [vR 68, vI a1, none, none, none, vI a5, vI a6, vI a7, vI a8, vI (a9 + ((I 82 (I 83 (a11).toNat).toNat) - (I 82 (I 84 (a11).toNat).toNat))), vI a10, vI a11]) (by decide) rfl dX11_served_194 rfl rfl ?_
    refine wp_iload (pc' := 198) (i := 10) rfl dX11_served_196 rfl ?_
    refine wp_aload_n (pc' := 199) (q := 0) (i := 0) rfl rfl dX11_served_198 rfl ?_
    refine wp_iload (pc' := 201) (i := 6) rfl dX11_served_199 rfl ?_
    refine wp_iconst (pc' := 202) dX11_served_201 rfl ?_
    refine wp_isub (pc' := 203) dX11_served_202 rfl ?_
    refine wp_iload (pc' := 205) (i := 11) rfl dX11_served_203 rfl ?_
    refine wp_isub (pc' := 206) dX11_served_205 rfl ?_
    obtain ⟨h10, h⟩ := h
    obtain ⟨h11, h⟩ := h
    refine wp_callV (pc' := 209) (as := [vI ((a6 - 1) - a11)]) (rest := [vI a10]) (pX11_worth hR h10 h11) dX11_served_206 rfl lkX11_140 okX11_worth inX11_worth seX11_worth o_68 vc10 ⟨Nat.le_of_ble_eq_true rfl, Nat.le_of_ble_eq_true rfl⟩ (Nat.le_of_ble_eq_true rfl) (Nat.le_refl _) (Nat.le_refl _) okP_eq okP_eq rfl (rvI rfl (fun x9 I9 R9 hq9 => ?_))
    obtain ⟨eR9, eI9, ex9⟩ := hq9; subst eR9; subst eI9; cases ex9
    refine wp_aload_n (pc' := 210) (q := 0) (i := 0) rfl rfl dX11_served_209 rfl ?_
    refine wp_iload (pc' := 212) (i := 7) rfl dX11_served_210 rfl ?_
    refine wp_iconst (pc' := 213) dX11_served_212 rfl ?_
    refine wp_isub (pc' := 214) dX11_served_213 rfl ?_
    refine wp_iload (pc' := 216) (i := 11) rfl dX11_served_214 rfl ?_
    refine wp_isub (pc' := 217) dX11_served_216 rfl ?_
    obtain ⟨h13, h⟩ := h
    obtain ⟨h14, h⟩ := h
    refine wp_callV (pc' := 220) (as := [vI ((a7 - 1) - a11)]) (rest := [vI (I 82 (I 83 (((a6 - 1) - a11)).toNat).toNat), vI a10]) (pX11_costs hR h13 h14) dX11_served_217 rfl lkX11_143 okX11_costs inX11_costs seX11_costs o_68 vc10 ⟨Nat.le_of_ble_eq_true rfl, Nat.le_of_ble_eq_true rfl⟩ (Nat.le_of_ble_eq_true rfl) (Nat.le_refl _) (Nat.le_refl _) okP_eq okP_eq rfl (rvI rfl (fun x12 I12 R12 hq12 => ?_))
    obtain ⟨eR12, eI12, ex12⟩ := hq12; subst eR12; subst eI12; cases ex12
    refine wp_isub (pc' := 221) dX11_served_220 rfl ?_
    refine wp_iadd (pc' := 222) dX11_served_221 rfl ?_
    refine wp_istore (pc' := 224) (i := 10) (L' := [vR 68, vI a1, none, none, none, vI a5, vI a6, vI a7, vI a8, vI (a9 + ((I 82 (I 83 (a11).toNat).toNat) - (I 82 (I 84 (a11).toNat).toNat))), vI (a10 + ((I 82 (I 83 (((a6 - 1) - a11)).toNat).toNat) - (I 82 (I 84 (((a7 - 1) - a11)).toNat).toNat))), vI a11]) (by decide) rfl dX11_served_222 rfl rfl ?_
    refine wp_iinc (pc' := 227) (i := 11) (L' := [vR 68, vI a1, none, none, none, vI a5, vI a6, vI a7, vI a8, vI (a9 + ((I 82 (I 83 (a11).toNat).toNat) - (I 82 (I 84 (a11).toNat).toNat))), vI (a10 + ((I 82 (I 83 (((a6 - 1) - a11)).toNat).toNat) - (I 82 (I 84 (((a7 - 1) - a11)).toNat).toNat))), vI (a11 + 1)]) rfl (by decide) rfl dX11_served_224 rfl rfl ?_
    refine wp_goto (tgt := 171) dX11_served_227 rfl ?_
    exact h

theorem sX11_common {Q : QT} {I : II} {R : RR} {a0 : Int} {a2 : Int} (h : wp (kN 89) mX11_common Q 0 [vL a0, none, vL a2, none, none, none, none, none, none, none] [] I R 89) : Spec mX11_common [vL a0, vL a2] I R 89 89 Q := Spec_of_wp pyX11_common rfl (Nat.le_of_ble_eq_true rfl) (Nat.le_refl _) (by decide) h

set_option maxRecDepth 4000 in
theorem gX11_common_0 {Q : QT} {I : II} {R : RR} (hR : SR R) {a0 : Int} {a2 : Int}
    (h : wp (kN 89) mX11_common Q 6 [none, none, none, none, vL a0, none, vL a2, none, none, none] [] I R 89) : wp (kN 89) mX11_common Q 0 [vL a0, none, vL a2, none, none, none, none, none, none, none] [] I R 89 := by
  refine wp_lload_n (pc' := 1) (q := 0) (i := 0) rfl rfl dX11_common_0 rfl ?_
  refine wp_lstore (pc' := 3) (i := 4) (L' := [vL a0, none, vL a2, none, vL a0, none, none, none, none, none]) (by decide) rfl dX11_common_1 rfl rfl ?_
  refine wp_lload_n (pc' := 4) (q := 2) (i := 2) rfl rfl dX11_common_3 rfl ?_
  refine wp_lstore (pc' := 6) (i := 6) (L' := [vL a0, none, vL a2, none, vL a0, none, vL a2, none, none, none]) (by decide) rfl dX11_common_4 rfl rfl ?_
  exact wp_dropP (leP_d (leP_s (leP_d (leP_s (leP_s (leP_s (leP_s (leP_s (leP_s (leP_s leP_n)))))))))) h

set_option maxRecDepth 4000 in
theorem gX11_common_6 {Q : QT} {I : II} {R : RR} (hR : SR R) {a4 : Int} {a6 : Int}
    (h : (InL a6) ∧
      ((a6 = (0 : Int) →
      Q (vL a4) I R) ∧ (¬ (a6 = (0 : Int)) →
      (0 ≤ a4 ∧ a4 ≤ 9223372036854775807 ∧ 0 < a6 ∧ a6 ≤ 9223372036854775807) ∧
      wp (kN 89) mX11_common Q 6 [none, none, none, none, vL a6, none, vL (a4 % a6), none, none, none] [] I R 89))) : wp (kN 89) mX11_common Q 6 [none, none, none, none, vL a4, none, vL a6, none, none, none] [] I R 89 := by
  refine wp_lload (pc' := 8) (i := 6) rfl dX11_common_6 rfl ?_
  refine wp_lconst (pc' := 9) dX11_common_8 rfl ?_
  obtain ⟨h1, h⟩ := h
  refine wp_lif_eq (pc' := 13) (pc1 := 10) (tgt := 31) h1 ⟨by decide, by decide⟩ dX11_common_9 rfl dX11_common_10 rfl rfl (fun hc => ?_) (fun hc => ?_)
  · have h := h.1 hc
    refine wp_lload (pc' := 33) (i := 4) rfl dX11_common_31 rfl ?_
    exact wp_lreturn dX11_common_33 rfl rfl h
  · have h := h.2 hc
    refine wp_lload (pc' := 15) (i := 4) rfl dX11_common_13 rfl ?_
    refine wp_lload (pc' := 17) (i := 6) rfl dX11_common_15 rfl ?_
    obtain ⟨h2, h⟩ := h
    refine wp_lrem (pc' := 18) h2 dX11_common_17 rfl ?_
    refine wp_lstore (pc' := 20) (i := 8) (L' := [none, none, none, none, vL a4, none, vL a6, none, vL (a4 % a6), none]) (by decide) rfl dX11_common_18 rfl rfl ?_
    refine wp_lload (pc' := 22) (i := 6) rfl dX11_common_20 rfl ?_
    refine wp_lstore (pc' := 24) (i := 4) (L' := [none, none, none, none, vL a6, none, vL a6, none, vL (a4 % a6), none]) (by decide) rfl dX11_common_22 rfl rfl ?_
    refine wp_lload (pc' := 26) (i := 8) rfl dX11_common_24 rfl ?_
    refine wp_lstore (pc' := 28) (i := 6) (L' := [none, none, none, none, vL a6, none, vL (a4 % a6), none, vL (a4 % a6), none]) (by decide) rfl dX11_common_26 rfl rfl ?_
    refine wp_goto (tgt := 6) dX11_common_28 rfl ?_
    exact wp_dropP (leP_s (leP_s (leP_s (leP_s (leP_s (leP_s (leP_s (leP_s (leP_d (leP_s leP_n)))))))))) h

theorem sX11_pairs {Q : QT} {I : II} {R : RR} {a1 : Int} (h : wp (kN 89) mX11_pairs Q 0 [vR 68, vI a1, none, none, none, none, none] [] I R 89) : Spec mX11_pairs [vR 68, vI a1] I R 89 89 Q := Spec_of_wp pyX11_pairs rfl (Nat.le_of_ble_eq_true rfl) (Nat.le_refl _) (by decide) h

set_option maxRecDepth 4000 in
theorem gX11_pairs_0 {Q : QT} {I : II} {R : RR} (hR : SR R) {a1 : Int}
    (h : (InI a1) ∧
      (((0 : Int) ≤ a1 ∧ a1 ≤ (1 : Int) →
      wp (kN 89) mX11_pairs Q 19 [vR 68, vI a1, vL 0, none, vI 0, none, none] [] I R 89) ∧ (¬ ((0 : Int) ≤ a1 ∧ a1 ≤ (1 : Int)) →
      Q (vL (-1)) I R))) : wp (kN 89) mX11_pairs Q 0 [vR 68, vI a1, none, none, none, none, none] [] I R 89 := by
  refine wp_iload_n (pc' := 1) (q := 1) (i := 1) rfl rfl dX11_pairs_0 rfl ?_
  obtain ⟨h1, h⟩ := h
  refine wp_i2l (pc' := 2) h1 dX11_pairs_1 rfl ?_
  refine wp_lconst (pc' := 3) dX11_pairs_2 rfl ?_
  refine wp_lconst (pc' := 4) dX11_pairs_3 rfl ?_
  refine wp_callS (pc' := 7) (as := [vL a1, vL 0, vL 1]) (rest := []) (pX11_in (by decide) (inL_of h1) ⟨by decide, by decide⟩ ⟨by decide, by decide⟩) dX11_pairs_4 rfl lkX11_79 okX11_in stX11_in ⟨Nat.le_of_ble_eq_true rfl, Nat.le_of_ble_eq_true rfl⟩ (Nat.le_of_ble_eq_true rfl) (Nat.le_refl _) (Nat.le_refl _) okP_eq okP_eq rfl (rvZ rfl (fun x2 I2 R2 hz2 hq2 => ?_))
  obtain ⟨eR2, eI2, ex2⟩ := hq2; subst eR2; subst eI2; cases ex2
  by_cases hc : (0 : Int) ≤ a1 ∧ a1 ≤ (1 : Int)
  · rw [if_pos hc]; have h := h.1 hc
    refine wp_if_ne (pc' := 10) (tgt := 14) ⟨by decide, by decide⟩ dX11_pairs_7 rfl rfl (fun hc => ?_) (fun hc => by exfalso; revert hc; decide)
    refine wp_lconst (pc' := 15) dX11_pairs_14 rfl ?_
    refine wp_lstore_n (pc' := 16) (q := 2) (i := 2) (L' := [vR 68, vI a1, vL 0, none, none, none, none]) rfl (by decide) rfl dX11_pairs_15 rfl rfl ?_
    refine wp_iconst (pc' := 17) dX11_pairs_16 rfl ?_
    refine wp_istore (pc' := 19) (i := 4) (L' := [vR 68, vI a1, vL 0, none, vI 0, none, none]) (by decide) rfl dX11_pairs_17 rfl rfl ?_
    exact h
  · rw [if_neg hc]; have h := h.2 hc
    refine wp_if_ne (pc' := 10) (tgt := 14) ⟨by decide, by decide⟩ dX11_pairs_7 rfl rfl (fun hc => by exfalso; revert hc; decide) (fun hc => ?_)
    refine wp_ldc2 (pc' := 13) (x := (-1)) lcX11_167 (by decide +kernel) dX11_pairs_10 rfl ?_
    exact wp_lreturn dX11_pairs_13 rfl rfl h

set_option maxRecDepth 4000 in
theorem gX11_pairs_19 {Q : QT} {I : II} {R : RR} (hR : SR R) {a1 : Int} {a2 : Int} {a4 : Int}
    (h : (InI a4) ∧
      (InI (I 70 0)) ∧
      (((I 70 0) ≤ a4 →
      (∃ Q3 : QT, Spec mX11_manyOf [vR 68, vI 0] I R 89 89 Q3 ∧ (∀ x3 I3 R3, Q3 (vI x3) I3 R3 →
      R = R3 ∧ (∃ Q4 : QT, Spec mX11_manyOf [vR 68, vI 1] I3 R 89 89 Q4 ∧ (∀ x4 I4 R4, Q4 (vI x4) I4 R4 →
      R = R4 ∧ (InI x3) ∧
      (InI x4) ∧
      ((x3 ≤ x4 →
      (∃ Q7 : QT, Spec mX11_manyOf [vR 68, vI 1] I4 R 89 89 Q7 ∧ (∀ x7 I7 R7, Q7 (vI x7) I7 R7 →
      R = R7 ∧ (InI x7) ∧
      (∃ Q9 : QT, Spec mX11_common [vL a2, vL x7] I7 R 89 89 Q9 ∧ (∀ x9 I9 R9, Q9 (vL x9) I9 R9 →
      R = R9 ∧ (InI a1) ∧
      ((¬ a1 = 0 →
      (0 ≤ x7 ∧ x7 ≤ 9223372036854775807 ∧ 0 < x9 ∧ x9 ≤ 9223372036854775807) ∧
      Q (vL (x7 / x9)) I9 R) ∧ (a1 = 0 →
      (0 ≤ a2 ∧ a2 ≤ 9223372036854775807 ∧ 0 < x9 ∧ x9 ≤ 9223372036854775807) ∧
      Q (vL (a2 / x9)) I9 R))))))) ∧ (¬ (x3 ≤ x4) →
      (∃ Q13 : QT, Spec mX11_manyOf [vR 68, vI 0] I4 R 89 89 Q13 ∧ (∀ x13 I13 R13, Q13 (vI x13) I13 R13 →
      R = R13 ∧ (InI x13) ∧
      (∃ Q15 : QT, Spec mX11_common [vL a2, vL x13] I13 R 89 89 Q15 ∧ (∀ x15 I15 R15, Q15 (vL x15) I15 R15 →
      R = R15 ∧ (InI a1) ∧
      ((¬ a1 = 0 →
      (0 ≤ x13 ∧ x13 ≤ 9223372036854775807 ∧ 0 < x15 ∧ x15 ≤ 9223372036854775807) ∧
      Q (vL (x13 / x15)) I15 R) ∧ (a1 = 0 →
      (0 ≤ a2 ∧ a2 ≤ 9223372036854775807 ∧ 0 < x15 ∧ x15 ≤ 9223372036854775807) ∧
      Q (vL (a2 / x15)) I15 R))))))))))))) ∧ (¬ (I 70 0) ≤ a4 →
      wp (kN 89) mX11_pairs Q 33 [vR 68, vI a1, vL a2, none, vI a4, vI 0, none] [] I R 89))) : wp (kN 89) mX11_pairs Q 19 [vR 68, vI a1, vL a2, none, vI a4, none, none] [] I R 89 := by
  refine wp_iload (pc' := 21) (i := 4) rfl dX11_pairs_19 rfl ?_
  refine wp_aload_n (pc' := 22) (q := 0) (i := 0) rfl rfl dX11_pairs_21 rfl ?_
  refine wp_getRc (pc' := 25) (k := 2) (j := 70) dX11_pairs_22 vc10 (by decide) rfl lfX11_13 o_68 (r_68_2 hR) rfl ?_
  refine wp_iconst (pc' := 26) dX11_pairs_25 rfl ?_
  refine wp_iald (pc' := 27) (j := 0) dX11_pairs_26 a_70 ⟨by decide, by decide⟩ rfl rfl ?_
  obtain ⟨h1, h⟩ := h
  obtain ⟨h2, h⟩ := h
  refine wp_icmp_ge (pc' := 30) (tgt := 136) h1 h2 dX11_pairs_27 rfl rfl (fun hc => ?_) (fun hc => ?_)
  · have h := h.1 hc
    refine wp_aload_n (pc' := 137) (q := 0) (i := 0) rfl rfl dX11_pairs_136 rfl ?_
    refine wp_iconst (pc' := 138) dX11_pairs_137 rfl ?_
    obtain ⟨Q3, hs3, h⟩ := h
    refine wp_callV (pc' := 141) (as := [vI 0]) (rest := []) hs3 dX11_pairs_138 rfl lkX11_169 okX11_manyOf inX11_manyOf seX11_manyOf o_68 vc10 ⟨Nat.le_of_ble_eq_true rfl, Nat.le_of_ble_eq_true rfl⟩ (Nat.le_of_ble_eq_true rfl) (Nat.le_refl _) (Nat.le_refl _) okP_eq okP_eq rfl (rvI rfl (fun x3 I3 R3 hq3 => ?_))
    obtain ⟨hRR3, h⟩ := h x3 I3 R3 hq3; subst hRR3
    refine wp_aload_n (pc' := 142) (q := 0) (i := 0) rfl rfl dX11_pairs_141 rfl ?_
    refine wp_iconst (pc' := 143) dX11_pairs_142 rfl ?_
    obtain ⟨Q4, hs4, h⟩ := h
    refine wp_callV (pc' := 146) (as := [vI 1]) (rest := [vI x3]) hs4 dX11_pairs_143 rfl lkX11_169 okX11_manyOf inX11_manyOf seX11_manyOf o_68 vc10 ⟨Nat.le_of_ble_eq_true rfl, Nat.le_of_ble_eq_true rfl⟩ (Nat.le_of_ble_eq_true rfl) (Nat.le_refl _) (Nat.le_refl _) okP_eq okP_eq rfl (rvI rfl (fun x4 I4 R4 hq4 => ?_))
    obtain ⟨hRR4, h⟩ := h x4 I4 R4 hq4; subst hRR4
    obtain ⟨h5, h⟩ := h
    obtain ⟨h6, h⟩ := h
    refine wp_icmp_le (pc' := 149) (tgt := 157) h5 h6 dX11_pairs_146 rfl rfl (fun hc => ?_) (fun hc => ?_)
    · have h := h.1 hc
      refine wp_aload_n (pc' := 158) (q := 0) (i := 0) rfl rfl dX11_pairs_157 rfl ?_
      refine wp_iconst (pc' := 159) dX11_pairs_158 rfl ?_
      obtain ⟨Q7, hs7, h⟩ := h
      refine wp_callV (pc' := 162) (as := [vI 1]) (rest := []) hs7 dX11_pairs_159 rfl lkX11_169 okX11_manyOf inX11_manyOf seX11_manyOf o_68 vc10 ⟨Nat.le_of_ble_eq_true rfl, Nat.le_of_ble_eq_true rfl⟩ (Nat.le_of_ble_eq_true rfl) (Nat.le_refl _) (Nat.le_refl _) okP_eq okP_eq rfl (rvI rfl (fun x7 I7 R7 hq7 => ?_))
      obtain ⟨hRR7, h⟩ := h x7 I7 R7 hq7; subst hRR7
      refine wp_istore (pc' := 164) (i := 4) (L' := [vR 68, vI a1, vL a2, none, vI x7, none, none]) (by decide) rfl dX11_pairs_162 rfl rfl ?_
      refine wp_lload_n (pc' := 165) (q := 2) (i := 2) rfl rfl dX11_pairs_164 rfl ?_
      refine wp_iload (pc' := 167) (i := 4) rfl dX11_pairs_165 rfl ?_
      obtain ⟨h8, h⟩ := h
      refine wp_i2l (pc' := 168) h8 dX11_pairs_167 rfl ?_
      obtain ⟨Q9, hs9, h⟩ := h
      refine wp_callS (pc' := 171) (as := [vL a2, vL x7]) (rest := []) hs9 dX11_pairs_168 rfl lkX11_172 okX11_common stX11_common ⟨Nat.le_of_ble_eq_true rfl, Nat.le_of_ble_eq_true rfl⟩ (Nat.le_of_ble_eq_true rfl) (Nat.le_refl _) (Nat.le_refl _) okP_eq okP_eq rfl (rvL rfl (fun x9 I9 R9 hq9 => ?_))
      obtain ⟨hRR9, h⟩ := h x9 I9 R9 hq9; subst hRR9
      refine wp_lstore (pc' := 173) (i := 5) (L' := [vR 68, vI a1, vL a2, none, vI x7, vL x9, none]) (by decide) rfl dX11_pairs_171 rfl rfl ?_
      refine wp_iload_n (pc' := 174) (q := 1) (i := 1) rfl rfl dX11_pairs_173 rfl ?_
      obtain ⟨h10, h⟩ := h
      refine wp_if_ne (pc' := 177) (tgt := 184) h10 dX11_pairs_174 rfl rfl (fun hc => ?_) (fun hc => ?_)
      · have h := h.1 hc
        refine wp_iload (pc' := 186) (i := 4) rfl dX11_pairs_184 rfl ?_
        refine wp_i2l (pc' := 187) h8 dX11_pairs_186 rfl ?_
        refine wp_lload (pc' := 189) (i := 5) rfl dX11_pairs_187 rfl ?_
        obtain ⟨h11, h⟩ := h
        refine wp_ldiv (pc' := 190) h11 dX11_pairs_189 rfl ?_
        exact wp_lreturn dX11_pairs_190 rfl rfl h
      · have h := h.2 hc
        refine wp_lload_n (pc' := 178) (q := 2) (i := 2) rfl rfl dX11_pairs_177 rfl ?_
        refine wp_lload (pc' := 180) (i := 5) rfl dX11_pairs_178 rfl ?_
        obtain ⟨h12, h⟩ := h
        refine wp_ldiv (pc' := 181) h12 dX11_pairs_180 rfl ?_
        refine wp_goto (tgt := 190) dX11_pairs_181 rfl ?_
        exact wp_lreturn dX11_pairs_190 rfl rfl h
    · have h := h.2 hc
      refine wp_aload_n (pc' := 150) (q := 0) (i := 0) rfl rfl dX11_pairs_149 rfl ?_
      refine wp_iconst (pc' := 151) dX11_pairs_150 rfl ?_
      obtain ⟨Q13, hs13, h⟩ := h
      refine wp_callV (pc' := 154) (as := [vI 0]) (rest := []) hs13 dX11_pairs_151 rfl lkX11_169 okX11_manyOf inX11_manyOf seX11_manyOf o_68 vc10 ⟨Nat.le_of_ble_eq_true rfl, Nat.le_of_ble_eq_true rfl⟩ (Nat.le_of_ble_eq_true rfl) (Nat.le_refl _) (Nat.le_refl _) okP_eq okP_eq rfl (rvI rfl (fun x13 I13 R13 hq13 => ?_))
      obtain ⟨hRR13, h⟩ := h x13 I13 R13 hq13; subst hRR13
      refine wp_goto (tgt := 162) dX11_pairs_154 rfl ?_
      refine wp_istore (pc' := 164) (i := 4) (L' := [vR 68, vI a1, vL a2, none, vI x13, none, none]) (by decide) rfl dX11_pairs_162 rfl rfl ?_
      refine wp_lload_n (pc' := 165) (q := 2) (i := 2) rfl rfl dX11_pairs_164 rfl ?_
      refine wp_iload (pc' := 167) (i := 4) rfl dX11_pairs_165 rfl ?_
      obtain ⟨h14, h⟩ := h
      refine wp_i2l (pc' := 168) h14 dX11_pairs_167 rfl ?_
      obtain ⟨Q15, hs15, h⟩ := h
      refine wp_callS (pc' := 171) (as := [vL a2, vL x13]) (rest := []) hs15 dX11_pairs_168 rfl lkX11_172 okX11_common stX11_common ⟨Nat.le_of_ble_eq_true rfl, Nat.le_of_ble_eq_true rfl⟩ (Nat.le_of_ble_eq_true rfl) (Nat.le_refl _) (Nat.le_refl _) okP_eq okP_eq rfl (rvL rfl (fun x15 I15 R15 hq15 => ?_))
      obtain ⟨hRR15, h⟩ := h x15 I15 R15 hq15; subst hRR15
      refine wp_lstore (pc' := 173) (i := 5) (L' := [vR 68, vI a1, vL a2, none, vI x13, vL x15, none]) (by decide) rfl dX11_pairs_171 rfl rfl ?_
      refine wp_iload_n (pc' := 174) (q := 1) (i := 1) rfl rfl dX11_pairs_173 rfl ?_
      obtain ⟨h16, h⟩ := h
      refine wp_if_ne (pc' := 177) (tgt := 184) h16 dX11_pairs_174 rfl rfl (fun hc => ?_) (fun hc => ?_)
      · have h := h.1 hc
        refine wp_iload (pc' := 186) (i := 4) rfl dX11_pairs_184 rfl ?_
        refine wp_i2l (pc' := 187) h14 dX11_pairs_186 rfl ?_
        refine wp_lload (pc' := 189) (i := 5) rfl dX11_pairs_187 rfl ?_
        obtain ⟨h17, h⟩ := h
        refine wp_ldiv (pc' := 190) h17 dX11_pairs_189 rfl ?_
        exact wp_lreturn dX11_pairs_190 rfl rfl h
      · have h := h.2 hc
        refine wp_lload_n (pc' := 178) (q := 2) (i := 2) rfl rfl dX11_pairs_177 rfl ?_
        refine wp_lload (pc' := 180) (i := 5) rfl dX11_pairs_178 rfl ?_
        obtain ⟨h18, h⟩ := h
        refine wp_ldiv (pc' := 181) h18 dX11_pairs_180 rfl ?_
        refine wp_goto (tgt := 190) dX11_pairs_181 rfl ?_
        exact wp_lreturn dX11_pairs_190 rfl rfl h
  · have h := h.2 hc
    refine wp_iconst (pc' := 31) dX11_pairs_30 rfl ?_
    refine wp_istore (pc' := 33) (i := 5) (L' := [vR 68, vI a1, vL a2, none, vI a4, vI 0, none]) (by decide) rfl dX11_pairs_31 rfl rfl ?_
    exact h

set_option maxRecDepth 4000 in
theorem gX11_pairs_33 {Q : QT} {I : II} {R : RR} (hR : SR R) {a1 : Int} {a2 : Int} {a4 : Int} {a5 : Int}
    (h : (InI a5) ∧
      (InI (I 70 0)) ∧
      (((I 70 0) ≤ a5 →
      wp (kN 89) mX11_pairs Q 19 [vR 68, vI a1, vL a2, none, vI (a4 + 1), none, none] [] I R 89) ∧ (¬ (I 70 0) ≤ a5 →
      (0 ≤ a4 ∧ a4 < 40) ∧
      (InI (I 71 a4.toNat)) ∧
      ((¬ (I 71 a4.toNat) = 0 →
      wp (kN 89) mX11_pairs Q 93 [vR 68, vI a1, vL a2, none, vI a4, vI a5, none] [] I R 89) ∧ ((I 71 a4.toNat) = 0 →
      (0 ≤ a5 ∧ a5 < 40) ∧
      (InI (I 71 a5.toNat)) ∧
      ((¬ (I 71 a5.toNat) = (1 : Int) →
      wp (kN 89) mX11_pairs Q 93 [vR 68, vI a1, vL a2, none, vI a4, vI a5, none] [] I R 89) ∧ ((I 71 a5.toNat) = (1 : Int) →
      (InI (I 72 a4.toNat)) ∧
      (InI ((I 72 a5.toNat) + (I 74 1))) ∧
      (((I 72 a4.toNat) < ((I 72 a5.toNat) + (I 74 1)) →
      wp (kN 89) mX11_pairs Q 93 [vR 68, vI a1, vL a2, none, vI a4, vI a5, none] [] I R 89) ∧ (¬ (I 72 a4.toNat) < ((I 72 a5.toNat) + (I 74 1)) →
      (InI ((I 72 a4.toNat) - (I 72 a5.toNat))) ∧
      wp (kN 89) mX11_pairs Q 33 [vR 68, vI a1, vL (a2 + ((I 72 a4.toNat) - (I 72 a5.toNat))), none, vI a4, vI (a5 + 1), none] [] I R 89))))))))) : wp (kN 89) mX11_pairs Q 33 [vR 68, vI a1, vL a2, none, vI a4, vI a5, none] [] I R 89 := by
  refine wp_iload (pc' := 35) (i := 5) rfl dX11_pairs_33 rfl ?_
  refine wp_aload_n (pc' := 36) (q := 0) (i := 0) rfl rfl dX11_pairs_35 rfl ?_
  refine wp_getRc (pc' := 39) (k := 2) (j := 70) dX11_pairs_36 vc10 (by decide) rfl lfX11_13 o_68 (r_68_2 hR) rfl ?_
  refine wp_iconst (pc' := 40) dX11_pairs_39 rfl ?_
  refine wp_iald (pc' := 41) (j := 0) dX11_pairs_40 a_70 ⟨by decide, by decide⟩ rfl rfl ?_
  obtain ⟨h1, h⟩ := h
  obtain ⟨h2, h⟩ := h
  refine wp_icmp_ge (pc' := 44) (tgt := 130) h1 h2 dX11_pairs_41 rfl rfl (fun hc => ?_) (fun hc => ?_)
  · have h := h.1 hc
    refine wp_iinc (pc' := 133) (i := 4) (L' := [vR 68, vI a1, vL a2, none, vI (a4 + 1), vI a5, none]) rfl (by decide) rfl dX11_pairs_130 rfl rfl ?_
    refine wp_goto (tgt := 19) dX11_pairs_133 rfl ?_
    exact wp_dropP (leP_s (leP_s (leP_s (leP_s (leP_s (leP_d (leP_s leP_n))))))) h
  · have h := h.2 hc
    refine wp_aload_n (pc' := 45) (q := 0) (i := 0) rfl rfl dX11_pairs_44 rfl ?_
    refine wp_getRc (pc' := 48) (k := 3) (j := 71) dX11_pairs_45 vc10 (by decide) rfl lfX11_16 o_68 (r_68_3 hR) rfl ?_
    refine wp_iload (pc' := 50) (i := 4) rfl dX11_pairs_48 rfl ?_
    obtain ⟨h3, h⟩ := h
    refine wp_iald (pc' := 51) (j := a4.toNat) dX11_pairs_50 a_71 h3 rfl rfl ?_
    obtain ⟨h4, h⟩ := h
    refine wp_if_ne (pc' := 54) (tgt := 93) h4 dX11_pairs_51 rfl rfl (fun hc => ?_) (fun hc => ?_)
    · have h := h.1 hc
      exact h
    · have h := h.2 hc
      refine wp_aload_n (pc' := 55) (q := 0) (i := 0) rfl rfl dX11_pairs_54 rfl ?_
      refine wp_getRc (pc' := 58) (k := 3) (j := 71) dX11_pairs_55 vc10 (by decide) rfl lfX11_16 o_68 (r_68_3 hR) rfl ?_
      refine wp_iload (pc' := 60) (i := 5) rfl dX11_pairs_58 rfl ?_
      obtain ⟨h5, h⟩ := h
      refine wp_iald (pc' := 61) (j := a5.toNat) dX11_pairs_60 a_71 h5 rfl rfl ?_
      refine wp_iconst (pc' := 62) dX11_pairs_61 rfl ?_
      obtain ⟨h6, h⟩ := h
      refine wp_icmp_ne (pc' := 65) (tgt := 93) h6 ⟨by decide, by decide⟩ dX11_pairs_62 rfl rfl (fun hc => ?_) (fun hc => ?_)
      · have h := h.1 hc
        exact h
      · have h := h.2 hc
        refine wp_aload_n (pc' := 66) (q := 0) (i := 0) rfl rfl dX11_pairs_65 rfl ?_
        refine wp_getRc (pc' := 69) (k := 4) (j := 72) dX11_pairs_66 vc10 (by decide) rfl lfX11_19 o_68 (r_68_4 hR) rfl ?_
        refine wp_iload (pc' := 71) (i := 4) rfl dX11_pairs_69 rfl ?_
        refine wp_iald (pc' := 72) (j := a4.toNat) dX11_pairs_71 a_72 h3 rfl rfl ?_
        refine wp_aload_n (pc' := 73) (q := 0) (i := 0) rfl rfl dX11_pairs_72 rfl ?_
        refine wp_getRc (pc' := 76) (k := 4) (j := 72) dX11_pairs_73 vc10 (by decide) rfl lfX11_19 o_68 (r_68_4 hR) rfl ?_
        refine wp_iload (pc' := 78) (i := 5) rfl dX11_pairs_76 rfl ?_
        refine wp_iald (pc' := 79) (j := a5.toNat) dX11_pairs_78 a_72 h5 rfl rfl ?_
        refine wp_aload_n (pc' := 80) (q := 0) (i := 0) rfl rfl dX11_pairs_79 rfl ?_
        refine wp_getRc (pc' := 83) (k := 6) (j := 74) dX11_pairs_80 vc10 (by decide) rfl lfX11_25 o_68 (r_68_6 hR) rfl ?_
        refine wp_iconst (pc' := 84) dX11_pairs_83 rfl ?_
        refine wp_iald (pc' := 85) (j := 1) dX11_pairs_84 a_74 ⟨by decide, by decide⟩ rfl rfl ?_
        refine wp_iadd (pc' := 86) dX11_pairs_85 rfl ?_
        obtain ⟨h7, h⟩ := h
        obtain ⟨h8, h⟩ := h
        refine wp_icmp_lt (pc' := 89) (tgt := 93) h7 h8 dX11_pairs_86 rfl rfl (fun hc => ?_) (fun hc => ?_)
        · have h := h.1 hc
          exact h
        · have h := h.2 hc
          refine wp_iconst (pc' := 90) dX11_pairs_89 rfl ?_
          refine wp_goto (tgt := 94) dX11_pairs_90 rfl ?_
          refine wp_istore (pc' := 96) (i := 6) (L' := [vR 68, vI a1, vL a2, none, vI a4, vI a5, vI 1]) (by decide) rfl dX11_pairs_94 rfl rfl ?_
          refine wp_lload_n (pc' := 97) (q := 2) (i := 2) rfl rfl dX11_pairs_96 rfl ?_
          refine wp_iload (pc' := 99) (i := 6) rfl dX11_pairs_97 rfl ?_
          refine wp_if_eq (pc' := 102) (tgt := 121) ⟨by decide, by decide⟩ dX11_pairs_99 rfl rfl (fun hc => by exfalso; revert hc; decide) (fun hc => ?_)
          refine wp_aload_n (pc' := 103) (q := 0) (i := 0) rfl rfl dX11_pairs_102 rfl ?_
          refine wp_getRc (pc' := 106) (k := 4) (j := 72) dX11_pairs_103 vc10 (by decide) rfl lfX11_19 o_68 (r_68_4 hR) rfl ?_
          refine wp_iload (pc' := 108) (i := 4) rfl dX11_pairs_106 rfl ?_
          refine wp_iald (pc' := 109) (j := a4.toNat) dX11_pairs_108 a_72 h3 rfl rfl ?_
          refine wp_aload_n (pc' := 110) (q := 0) (i := 0) rfl rfl dX11_pairs_109 rfl ?_
          refine wp_getRc (pc' := 113) (k := 4) (j := 72) dX11_pairs_110 vc10 (by decide) rfl lfX11_19 o_68 (r_68_4 hR) rfl ?_
          refine wp_iload (pc' := 115) (i := 5) rfl dX11_pairs_113 rfl ?_
          refine wp_iald (pc' := 116) (j := a5.toNat) dX11_pairs_115 a_72 h5 rfl rfl ?_
          refine wp_isub (pc' := 117) dX11_pairs_116 rfl ?_
          obtain ⟨h9, h⟩ := h
          refine wp_i2l (pc' := 118) h9 dX11_pairs_117 rfl ?_
          refine wp_goto (tgt := 122) dX11_pairs_118 rfl ?_
          refine wp_ladd (pc' := 123) dX11_pairs_122 rfl ?_
          refine wp_lstore_n (pc' := 124) (q := 2) (i := 2) (L' := [vR 68, vI a1, vL (a2 + ((I 72 a4.toNat) - (I 72 a5.toNat))), none, vI a4, vI a5, vI 1]) rfl (by decide) rfl dX11_pairs_123 rfl rfl ?_
          refine wp_iinc (pc' := 127) (i := 5) (L' := [vR 68, vI a1, vL (a2 + ((I 72 a4.toNat) - (I 72 a5.toNat))), none, vI a4, vI (a5 + 1), vI 1]) rfl (by decide) rfl dX11_pairs_124 rfl rfl ?_
          refine wp_goto (tgt := 33) dX11_pairs_127 rfl ?_
          exact wp_dropP (leP_s (leP_s (leP_s (leP_s (leP_s (leP_s (leP_d leP_n))))))) h

set_option maxRecDepth 4000 in
theorem gX11_pairs_93 {Q : QT} {I : II} {R : RR} (hR : SR R) {a1 : Int} {a2 : Int} {a4 : Int} {a5 : Int}
    (h : wp (kN 89) mX11_pairs Q 33 [vR 68, vI a1, vL (a2 + 0), none, vI a4, vI (a5 + 1), none] [] I R 89) : wp (kN 89) mX11_pairs Q 93 [vR 68, vI a1, vL a2, none, vI a4, vI a5, none] [] I R 89 := by
  refine wp_iconst (pc' := 94) dX11_pairs_93 rfl ?_
  refine wp_istore (pc' := 96) (i := 6) (L' := [vR 68, vI a1, vL a2, none, vI a4, vI a5, vI 0]) (by decide) rfl dX11_pairs_94 rfl rfl ?_
  refine wp_lload_n (pc' := 97) (q := 2) (i := 2) rfl rfl dX11_pairs_96 rfl ?_
  refine wp_iload (pc' := 99) (i := 6) rfl dX11_pairs_97 rfl ?_
  refine wp_if_eq (pc' := 102) (tgt := 121) ⟨by decide, by decide⟩ dX11_pairs_99 rfl rfl (fun hc => ?_) (fun hc => by exfalso; revert hc; decide)
  refine wp_lconst (pc' := 122) dX11_pairs_121 rfl ?_
  refine wp_ladd (pc' := 123) dX11_pairs_122 rfl ?_
  refine wp_lstore_n (pc' := 124) (q := 2) (i := 2) (L' := [vR 68, vI a1, vL (a2 + 0), none, vI a4, vI a5, vI 0]) rfl (by decide) rfl dX11_pairs_123 rfl rfl ?_
  refine wp_iinc (pc' := 127) (i := 5) (L' := [vR 68, vI a1, vL (a2 + 0), none, vI a4, vI (a5 + 1), vI 0]) rfl (by decide) rfl dX11_pairs_124 rfl rfl ?_
  refine wp_goto (tgt := 33) dX11_pairs_127 rfl ?_
  exact wp_dropP (leP_s (leP_s (leP_s (leP_s (leP_s (leP_s (leP_d leP_n))))))) h

theorem sX11_isFirst {Q : QT} {I : II} {R : RR} {a1 : Int} {a2 : Int} (h : wp (kN 89) mX11_isFirst Q 0 [vR 68, vI a1, vI a2, none, none] [] I R 89) : Spec mX11_isFirst [vR 68, vI a1, vI a2] I R 89 89 Q := Spec_of_wp pyX11_isFirst rfl (Nat.le_of_ble_eq_true rfl) (Nat.le_refl _) (by decide) h

set_option maxRecDepth 4000 in
theorem gX11_isFirst_0 {Q : QT} {I : II} {R : RR} (hR : SR R) {a1 : Int} {a2 : Int}
    (h : wp (kN 89) mX11_isFirst Q 5 [vR 68, vI a1, vI a2, vI 0, vI 0] [] I R 89) : wp (kN 89) mX11_isFirst Q 0 [vR 68, vI a1, vI a2, none, none] [] I R 89 := by
  refine wp_iconst (pc' := 1) dX11_isFirst_0 rfl ?_
  refine wp_istore_n (pc' := 2) (q := 3) (i := 3) (L' := [vR 68, vI a1, vI a2, vI 0, none]) rfl (by decide) rfl dX11_isFirst_1 rfl rfl ?_
  refine wp_iconst (pc' := 3) dX11_isFirst_2 rfl ?_
  refine wp_istore (pc' := 5) (i := 4) (L' := [vR 68, vI a1, vI a2, vI 0, vI 0]) (by decide) rfl dX11_isFirst_3 rfl rfl ?_
  exact h

set_option maxRecDepth 4000 in
theorem gX11_isFirst_5 {Q : QT} {I : II} {R : RR} (hR : SR R) {a1 : Int} {a2 : Int} {a3 : Int} {a4 : Int}
    (h : (InI a4) ∧
      (InI a2) ∧
      ((a2 ≤ a4 →
      (a3 = 0 ∨ a3 = 1) ∧
      Q (vI a3) I R) ∧ (¬ (a2 ≤ a4) →
      (InI a3) ∧
      ((¬ a3 = 0 →
      wp (kN 89) mX11_isFirst Q 37 [vR 68, vI a1, vI a2, none, vI a4] [] I R 89) ∧ (a3 = 0 →
      (0 ≤ a4 ∧ a4 < 10) ∧
      (InI (I 83 a4.toNat)) ∧
      (InI a1) ∧
      (((I 83 a4.toNat) = a1 →
      wp (kN 89) mX11_isFirst Q 37 [vR 68, vI a1, vI a2, none, vI a4] [] I R 89) ∧ (¬ (I 83 a4.toNat) = a1 →
      (InI (I 84 a4.toNat)) ∧
      ((¬ (I 84 a4.toNat) = a1 →
      wp (kN 89) mX11_isFirst Q 5 [vR 68, vI a1, vI a2, vI 0, vI (a4 + 1)] [] I R 89) ∧ ((I 84 a4.toNat) = a1 →
      wp (kN 89) mX11_isFirst Q 37 [vR 68, vI a1, vI a2, none, vI a4] [] I R 89))))))))) : wp (kN 89) mX11_isFirst Q 5 [vR 68, vI a1, vI a2, vI a3, vI a4] [] I R 89 := by
  refine wp_iload (pc' := 7) (i := 4) rfl dX11_isFirst_5 rfl ?_
  refine wp_iload_n (pc' := 8) (q := 2) (i := 2) rfl rfl dX11_isFirst_7 rfl ?_
  obtain ⟨h1, h⟩ := h
  obtain ⟨h2, h⟩ := h
  refine wp_icmp_ge (pc' := 11) (tgt := 49) h1 h2 dX11_isFirst_8 rfl rfl (fun hc => ?_) (fun hc => ?_)
  · have h := h.1 hc
    refine wp_iload_n (pc' := 50) (q := 3) (i := 3) rfl rfl dX11_isFirst_49 rfl ?_
    obtain ⟨h3, h⟩ := h
    exact wp_zreturn dX11_isFirst_50 rfl rfl h3 h
  · have h := h.2 hc
    refine wp_iload_n (pc' := 12) (q := 3) (i := 3) rfl rfl dX11_isFirst_11 rfl ?_
    obtain ⟨h4, h⟩ := h
    refine wp_if_ne (pc' := 15) (tgt := 37) h4 dX11_isFirst_12 rfl rfl (fun hc => ?_) (fun hc => ?_)
    · have h := h.1 hc
      exact wp_dropP (leP_s (leP_s (leP_s (leP_d (leP_s leP_n))))) h
    · have h := h.2 hc
      refine wp_aload_n (pc' := 16) (q := 0) (i := 0) rfl rfl dX11_isFirst_15 rfl ?_
      refine wp_getRc (pc' := 19) (k := 17) (j := 83) dX11_isFirst_16 vc10 (by decide) rfl lfX11_52 o_68 (r_68_17 hR) rfl ?_
      refine wp_iload (pc' := 21) (i := 4) rfl dX11_isFirst_19 rfl ?_
      obtain ⟨h5, h⟩ := h
      refine wp_iald (pc' := 22) (j := a4.toNat) dX11_isFirst_21 a_83 h5 rfl rfl ?_
      refine wp_iload_n (pc' := 23) (q := 1) (i := 1) rfl rfl dX11_isFirst_22 rfl ?_
      obtain ⟨h6, h⟩ := h
      obtain ⟨h7, h⟩ := h
      refine wp_icmp_eq (pc' := 26) (tgt := 37) h6 h7 dX11_isFirst_23 rfl rfl (fun hc => ?_) (fun hc => ?_)
      · have h := h.1 hc
        exact wp_dropP (leP_s (leP_s (leP_s (leP_d (leP_s leP_n))))) h
      · have h := h.2 hc
        refine wp_aload_n (pc' := 27) (q := 0) (i := 0) rfl rfl dX11_isFirst_26 rfl ?_
        refine wp_getRc (pc' := 30) (k := 18) (j := 84) dX11_isFirst_27 vc10 (by decide) rfl lfX11_55 o_68 (r_68_18 hR) rfl ?_
        refine wp_iload (pc' := 32) (i := 4) rfl dX11_isFirst_30 rfl ?_
        refine wp_iald (pc' := 33) (j := a4.toNat) dX11_isFirst_32 a_84 h5 rfl rfl ?_
        refine wp_iload_n (pc' := 34) (q := 1) (i := 1) rfl rfl dX11_isFirst_33 rfl ?_
        obtain ⟨h8, h⟩ := h
        refine wp_icmp_ne (pc' := 37) (tgt := 41) h8 h7 dX11_isFirst_34 rfl rfl (fun hc => ?_) (fun hc => ?_)
        · have h := h.1 hc
          refine wp_iconst (pc' := 42) dX11_isFirst_41 rfl ?_
          refine wp_istore_n (pc' := 43) (q := 3) (i := 3) (L' := [vR 68, vI a1, vI a2, vI 0, vI a4]) rfl (by decide) rfl dX11_isFirst_42 rfl rfl ?_
          refine wp_iinc (pc' := 46) (i := 4) (L' := [vR 68, vI a1, vI a2, vI 0, vI (a4 + 1)]) rfl (by decide) rfl dX11_isFirst_43 rfl rfl ?_
          refine wp_goto (tgt := 5) dX11_isFirst_46 rfl ?_
          exact h
        · have h := h.2 hc
          exact wp_dropP (leP_s (leP_s (leP_s (leP_d (leP_s leP_n))))) h

set_option maxRecDepth 4000 in
theorem gX11_isFirst_37 {Q : QT} {I : II} {R : RR} (hR : SR R) {a1 : Int} {a2 : Int} {a4 : Int}
    (h : wp (kN 89) mX11_isFirst Q 5 [vR 68, vI a1, vI a2, vI 1, vI (a4 + 1)] [] I R 89) : wp (kN 89) mX11_isFirst Q 37 [vR 68, vI a1, vI a2, none, vI a4] [] I R 89 := by
  refine wp_iconst (pc' := 38) dX11_isFirst_37 rfl ?_
  refine wp_goto (tgt := 42) dX11_isFirst_38 rfl ?_
  refine wp_istore_n (pc' := 43) (q := 3) (i := 3) (L' := [vR 68, vI a1, vI a2, vI 1, vI a4]) rfl (by decide) rfl dX11_isFirst_42 rfl rfl ?_
  refine wp_iinc (pc' := 46) (i := 4) (L' := [vR 68, vI a1, vI a2, vI 1, vI (a4 + 1)]) rfl (by decide) rfl dX11_isFirst_43 rfl rfl ?_
  refine wp_goto (tgt := 5) dX11_isFirst_46 rfl ?_
  exact h

theorem sX11_bellOf {Q : QT} {I : II} {R : RR} {a1 : Int} {a2 : Int} (h : wp (kN 89) mX11_bellOf Q 0 [vR 68, vI a1, vI a2, none, none, none] [] I R 89) : Spec mX11_bellOf [vR 68, vI a1, vI a2] I R 89 89 Q := Spec_of_wp pyX11_bellOf rfl (Nat.le_of_ble_eq_true rfl) (Nat.le_refl _) (by decide) h

set_option maxRecDepth 4000 in
theorem gX11_bellOf_0 {Q : QT} {I : II} {R : RR} (hR : SR R) {a1 : Int} {a2 : Int}
    (h : (∃ Q1 : QT, Spec mX11_showTrue [vR 68] I R 89 89 Q1 ∧ (∀ I1 R1, Q1 none I1 R1 →
      R = R1 ∧ (0 ≤ a1 ∧ a1 < 20) ∧
      (∀ I3 : II, I3 = up2 I1 82 (a1.toNat) a2 →
      (∃ Q4 : QT, Spec mX11_layLines [vR 68] I3 R 89 89 Q4 ∧ (∀ I4 R4, Q4 none I4 R4 →
      R = R4 ∧ (∃ Q5 : QT, Spec mX11_quantity [vR 68, vI (I4 74 1)] I4 R 89 89 Q5 ∧ (∀ x5 I5 R5, Q5 (vI x5) I5 R5 →
      R = R5 ∧ (InI x5) ∧
      ((x5 = 0 →
      wp (kN 89) mX11_bellOf Q 44 [none, none, none, none, none, none] [] I5 R 89) ∧ (¬ (x5 = 0) →
      (∃ Q7 : QT, Spec mX11_isFirst [vR 68, vI a1, vI x5] I5 R 89 89 Q7 ∧ (∀ x7 I7 R7, (x7 = 0 ∨ x7 = 1) → Q7 (vI x7) I7 R7 →
      R = R7 ∧ (InI x7) ∧
      ((¬ x7 = 0 →
      (∃ Q9 : QT, Spec mX11_lowest [vR 68, vI x5, vI (I4 74 1)] I7 R 89 89 Q9 ∧ (∀ x9 I9 R9, Q9 (vI x9) I9 R9 →
      R = R9 ∧ (0 ≤ a1 ∧ a1 < 40) ∧
      (InI (I9 71 a1.toNat)) ∧
      ((¬ (I9 71 a1.toNat) = 0 →
      Q (vI ((x9 - (I4 74 1)) - (I9 72 a1.toNat))) I9 R) ∧ ((I9 71 a1.toNat) = 0 →
      Q (vI ((I9 72 a1.toNat) - x9)) I9 R))))) ∧ (x7 = 0 →
      wp (kN 89) mX11_bellOf Q 44 [none, none, none, none, none, none] [] I7 R 89)))))))))))))) : wp (kN 89) mX11_bellOf Q 0 [vR 68, vI a1, vI a2, none, none, none] [] I R 89 := by
  refine wp_aload_n (pc' := 1) (q := 0) (i := 0) rfl rfl dX11_bellOf_0 rfl ?_
  obtain ⟨Q1, hs1, h⟩ := h
  refine wp_callV (pc' := 4) (as := []) (rest := []) hs1 dX11_bellOf_1 rfl lkX11_148 okX11_showTrue inX11_showTrue seX11_showTrue o_68 vc10 ⟨Nat.le_of_ble_eq_true rfl, Nat.le_of_ble_eq_true rfl⟩ (Nat.le_of_ble_eq_true rfl) (Nat.le_refl _) (Nat.le_refl _) okP_eq okP_eq rfl (rvV rfl (fun I1 R1 hq1 => ?_))
  obtain ⟨hRR1, h⟩ := h I1 R1 hq1; subst hRR1
  refine wp_aload_n (pc' := 5) (q := 0) (i := 0) rfl rfl dX11_bellOf_4 rfl ?_
  refine wp_getRc (pc' := 8) (k := 16) (j := 82) dX11_bellOf_5 vc10 (by decide) rfl lfX11_49 o_68 (r_68_16 hR) rfl ?_
  refine wp_iload_n (pc' := 9) (q := 1) (i := 1) rfl rfl dX11_bellOf_8 rfl ?_
  refine wp_iload_n (pc' := 10) (q := 2) (i := 2) rfl rfl dX11_bellOf_9 rfl ?_
  obtain ⟨h2, h⟩ := h
  obtain ⟨I3, eI3⟩ : ∃ z : II, z = up2 I1 82 (a1.toNat) a2 := ⟨_, rfl⟩
  have h := h I3 eI3
  refine wp_iast (pc' := 11) (j := a1.toNat) (I' := I3) dX11_bellOf_10 a_82 h2 rfl rfl eI3 ?_
  refine wp_aload_n (pc' := 12) (q := 0) (i := 0) rfl rfl dX11_bellOf_11 rfl ?_
  obtain ⟨Q4, hs4, h⟩ := h
  refine wp_callV (pc' := 15) (as := []) (rest := []) hs4 dX11_bellOf_12 rfl lkX11_151 okX11_layLines inX11_layLines seX11_layLines o_68 vc10 ⟨Nat.le_of_ble_eq_true rfl, Nat.le_of_ble_eq_true rfl⟩ (Nat.le_of_ble_eq_true rfl) (Nat.le_refl _) (Nat.le_refl _) okP_eq okP_eq rfl (rvV rfl (fun I4 R4 hq4 => ?_))
  obtain ⟨hRR4, h⟩ := h I4 R4 hq4; subst hRR4
  refine wp_aload_n (pc' := 16) (q := 0) (i := 0) rfl rfl dX11_bellOf_15 rfl ?_
  refine wp_getRc (pc' := 19) (k := 6) (j := 74) dX11_bellOf_16 vc10 (by decide) rfl lfX11_25 o_68 (r_68_6 hR) rfl ?_
  refine wp_iconst (pc' := 20) dX11_bellOf_19 rfl ?_
  refine wp_iald (pc' := 21) (j := 1) dX11_bellOf_20 a_74 ⟨by decide, by decide⟩ rfl rfl ?_
  refine wp_istore_n (pc' := 22) (q := 3) (i := 3) (L' := [vR 68, vI a1, vI a2, vI (I4 74 1), none, none]) rfl (by decide) rfl dX11_bellOf_21 rfl rfl ?_
  refine wp_aload_n (pc' := 23) (q := 0) (i := 0) rfl rfl dX11_bellOf_22 rfl ?_
  refine wp_iload_n (pc' := 24) (q := 3) (i := 3) rfl rfl dX11_bellOf_23 rfl ?_
  obtain ⟨Q5, hs5, h⟩ := h
  refine wp_callV (pc' := 27) (as := [vI (I4 74 1)]) (rest := []) hs5 dX11_bellOf_24 rfl lkX11_154 okX11_quantity inX11_quantity seX11_quantity o_68 vc10 ⟨Nat.le_of_ble_eq_true rfl, Nat.le_of_ble_eq_true rfl⟩ (Nat.le_of_ble_eq_true rfl) (Nat.le_refl _) (Nat.le_refl _) okP_eq okP_eq rfl (rvI rfl (fun x5 I5 R5 hq5 => ?_))
  obtain ⟨hRR5, h⟩ := h x5 I5 R5 hq5; subst hRR5
  refine wp_istore (pc' := 29) (i := 4) (L' := [vR 68, vI a1, vI a2, vI (I4 74 1), vI x5, none]) (by decide) rfl dX11_bellOf_27 rfl rfl ?_
  refine wp_iload (pc' := 31) (i := 4) rfl dX11_bellOf_29 rfl ?_
  obtain ⟨h6, h⟩ := h
  refine wp_if_eq (pc' := 34) (tgt := 44) h6 dX11_bellOf_31 rfl rfl (fun hc => ?_) (fun hc => ?_)
  · have h := h.1 hc
    exact wp_dropP (leP_d (leP_d (leP_d (leP_d (leP_d (leP_s leP_n)))))) h
  · have h := h.2 hc
    refine wp_aload_n (pc' := 35) (q := 0) (i := 0) rfl rfl dX11_bellOf_34 rfl ?_
    refine wp_iload_n (pc' := 36) (q := 1) (i := 1) rfl rfl dX11_bellOf_35 rfl ?_
    refine wp_iload (pc' := 38) (i := 4) rfl dX11_bellOf_36 rfl ?_
    obtain ⟨Q7, hs7, h⟩ := h
    refine wp_callV (pc' := 41) (as := [vI a1, vI x5]) (rest := []) hs7 dX11_bellOf_38 rfl lkX11_176 okX11_isFirst inX11_isFirst seX11_isFirst o_68 vc10 ⟨Nat.le_of_ble_eq_true rfl, Nat.le_of_ble_eq_true rfl⟩ (Nat.le_of_ble_eq_true rfl) (Nat.le_refl _) (Nat.le_refl _) okP_eq okP_eq rfl (rvZ rfl (fun x7 I7 R7 hz7 hq7 => ?_))
    obtain ⟨hRR7, h⟩ := h x7 I7 R7 hz7 hq7; subst hRR7
    obtain ⟨h8, h⟩ := h
    refine wp_if_ne (pc' := 44) (tgt := 46) h8 dX11_bellOf_41 rfl rfl (fun hc => ?_) (fun hc => ?_)
    · have h := h.1 hc
      refine wp_aload_n (pc' := 47) (q := 0) (i := 0) rfl rfl dX11_bellOf_46 rfl ?_
      refine wp_iload (pc' := 49) (i := 4) rfl dX11_bellOf_47 rfl ?_
      refine wp_iload_n (pc' := 50) (q := 3) (i := 3) rfl rfl dX11_bellOf_49 rfl ?_
      obtain ⟨Q9, hs9, h⟩ := h
      refine wp_callV (pc' := 53) (as := [vI x5, vI (I4 74 1)]) (rest := []) hs9 dX11_bellOf_50 rfl lkX11_160 okX11_lowest inX11_lowest seX11_lowest o_68 vc10 ⟨Nat.le_of_ble_eq_true rfl, Nat.le_of_ble_eq_true rfl⟩ (Nat.le_of_ble_eq_true rfl) (Nat.le_refl _) (Nat.le_refl _) okP_eq okP_eq rfl (rvI rfl (fun x9 I9 R9 hq9 => ?_))
      obtain ⟨hRR9, h⟩ := h x9 I9 R9 hq9; subst hRR9
      refine wp_istore (pc' := 55) (i := 5) (L' := [vR 68, vI a1, vI a2, vI (I4 74 1), vI x5, vI x9]) (by decide) rfl dX11_bellOf_53 rfl rfl ?_
      refine wp_aload_n (pc' := 56) (q := 0) (i := 0) rfl rfl dX11_bellOf_55 rfl ?_
      refine wp_getRc (pc' := 59) (k := 3) (j := 71) dX11_bellOf_56 vc10 (by decide) rfl lfX11_16 o_68 (r_68_3 hR) rfl ?_
      refine wp_iload_n (pc' := 60) (q := 1) (i := 1) rfl rfl dX11_bellOf_59 rfl ?_
      obtain ⟨h10, h⟩ := h
      refine wp_iald (pc' := 61) (j := a1.toNat) dX11_bellOf_60 a_71 h10 rfl rfl ?_
      obtain ⟨h11, h⟩ := h
      refine wp_if_ne (pc' := 64) (tgt := 76) h11 dX11_bellOf_61 rfl rfl (fun hc => ?_) (fun hc => ?_)
      · have h := h.1 hc
        refine wp_iload (pc' := 78) (i := 5) rfl dX11_bellOf_76 rfl ?_
        refine wp_iload_n (pc' := 79) (q := 3) (i := 3) rfl rfl dX11_bellOf_78 rfl ?_
        refine wp_isub (pc' := 80) dX11_bellOf_79 rfl ?_
        refine wp_aload_n (pc' := 81) (q := 0) (i := 0) rfl rfl dX11_bellOf_80 rfl ?_
        refine wp_getRc (pc' := 84) (k := 4) (j := 72) dX11_bellOf_81 vc10 (by decide) rfl lfX11_19 o_68 (r_68_4 hR) rfl ?_
        refine wp_iload_n (pc' := 85) (q := 1) (i := 1) rfl rfl dX11_bellOf_84 rfl ?_
        refine wp_iald (pc' := 86) (j := a1.toNat) dX11_bellOf_85 a_72 h10 rfl rfl ?_
        refine wp_isub (pc' := 87) dX11_bellOf_86 rfl ?_
        exact wp_ireturn dX11_bellOf_87 rfl rfl h
      · have h := h.2 hc
        refine wp_aload_n (pc' := 65) (q := 0) (i := 0) rfl rfl dX11_bellOf_64 rfl ?_
        refine wp_getRc (pc' := 68) (k := 4) (j := 72) dX11_bellOf_65 vc10 (by decide) rfl lfX11_19 o_68 (r_68_4 hR) rfl ?_
        refine wp_iload_n (pc' := 69) (q := 1) (i := 1) rfl rfl dX11_bellOf_68 rfl ?_
        refine wp_iald (pc' := 70) (j := a1.toNat) dX11_bellOf_69 a_72 h10 rfl rfl ?_
        refine wp_iload (pc' := 72) (i := 5) rfl dX11_bellOf_70 rfl ?_
        refine wp_isub (pc' := 73) dX11_bellOf_72 rfl ?_
        refine wp_goto (tgt := 87) dX11_bellOf_73 rfl ?_
        exact wp_ireturn dX11_bellOf_87 rfl rfl h
    · have h := h.2 hc
      exact wp_dropP (leP_d (leP_d (leP_d (leP_d (leP_d (leP_s leP_n)))))) h

set_option maxRecDepth 4000 in
theorem gX11_bellOf_44 {Q : QT} {I : II} {R : RR} (hR : SR R) 
    (h : Q (vI 0) I R) : wp (kN 89) mX11_bellOf Q 44 [none, none, none, none, none, none] [] I R 89 := by
  refine wp_iconst (pc' := 45) dX11_bellOf_44 rfl ?_
  exact wp_ireturn dX11_bellOf_45 rfl rfl h

theorem sX11_bell {Q : QT} {I : II} {R : RR} {a1 : Int} {a2 : Int} (h : wp (kN 89) mX11_bell Q 0 [vR 68, vI a1, vI a2] [] I R 89) : Spec mX11_bell [vR 68, vI a1, vI a2] I R 89 89 Q := Spec_of_wp pyX11_bell rfl (Nat.le_of_ble_eq_true rfl) (Nat.le_refl _) (by decide) h

set_option maxRecDepth 4000 in
theorem gX11_bell_0 {Q : QT} {I : II} {R : RR} (hR : SR R) {a1 : Int} {a2 : Int}
    (h : (InI a1) ∧
      (InI (I 70 0 - 1)) ∧
      ((0 ≤ a1 ∧ a1 ≤ I 70 0 - 1 →
      (InI a2) ∧
      (((0 : Int) ≤ a2 ∧ a2 ≤ (99 : Int) →
      (∃ Q6 : QT, Spec mX11_bellOf [vR 68, vI a1, vI a2] I R 89 89 Q6 ∧ (∀ x6 I6 R6, Q6 (vI x6) I6 R6 →
      R = R6 ∧ Q (vI x6) I6 R))) ∧ (¬ ((0 : Int) ≤ a2 ∧ a2 ≤ (99 : Int)) →
      wp (kN 89) mX11_bell Q 29 [none, none, none] [] I R 89))) ∧ (¬ (0 ≤ a1 ∧ a1 ≤ I 70 0 - 1) →
      wp (kN 89) mX11_bell Q 29 [none, none, none] [] I R 89))) : wp (kN 89) mX11_bell Q 0 [vR 68, vI a1, vI a2] [] I R 89 := by
  refine wp_aload_n (pc' := 1) (q := 0) (i := 0) rfl rfl dX11_bell_0 rfl ?_
  refine wp_iload_n (pc' := 2) (q := 1) (i := 1) rfl rfl dX11_bell_1 rfl ?_
  obtain ⟨h2, h⟩ := h
  obtain ⟨h3, h⟩ := h
  refine wp_callV (pc' := 5) (as := [vI a1]) (rest := []) (pX11_isPerson hR h2 h3) dX11_bell_2 rfl lkX11_127 okX11_isPerson inX11_isPerson seX11_isPerson o_68 vc10 ⟨Nat.le_of_ble_eq_true rfl, Nat.le_of_ble_eq_true rfl⟩ (Nat.le_of_ble_eq_true rfl) (Nat.le_refl _) (Nat.le_refl _) okP_eq okP_eq rfl (rvZ rfl (fun x1 I1 R1 hz1 hq1 => ?_))
  obtain ⟨eR1, eI1, ex1⟩ := hq1; subst eR1; subst eI1; cases ex1
  by_cases hc : 0 ≤ a1 ∧ a1 ≤ I 70 0 - 1
  · rw [if_pos hc]; have h := h.1 hc
    refine wp_if_eq (pc' := 8) (tgt := 29) ⟨by decide, by decide⟩ dX11_bell_5 rfl rfl (fun hc => by exfalso; revert hc; decide) (fun hc => ?_)
    refine wp_iload_n (pc' := 9) (q := 2) (i := 2) rfl rfl dX11_bell_8 rfl ?_
    obtain ⟨h4, h⟩ := h
    refine wp_i2l (pc' := 10) h4 dX11_bell_9 rfl ?_
    refine wp_lconst (pc' := 11) dX11_bell_10 rfl ?_
    refine wp_ldc2 (pc' := 14) (x := 99) lcX11_180 (by decide +kernel) dX11_bell_11 rfl ?_
    refine wp_callS (pc' := 17) (as := [vL a2, vL 0, vL 99]) (rest := []) (pX11_in (by decide) (inL_of h4) ⟨by decide, by decide⟩ ⟨by decide, by decide⟩) dX11_bell_14 rfl lkX11_79 okX11_in stX11_in ⟨Nat.le_of_ble_eq_true rfl, Nat.le_of_ble_eq_true rfl⟩ (Nat.le_of_ble_eq_true rfl) (Nat.le_refl _) (Nat.le_refl _) okP_eq okP_eq rfl (rvZ rfl (fun x5 I5 R5 hz5 hq5 => ?_))
    obtain ⟨eR5, eI5, ex5⟩ := hq5; subst eR5; subst eI5; cases ex5
    by_cases hc : (0 : Int) ≤ a2 ∧ a2 ≤ (99 : Int)
    · rw [if_pos hc]; have h := h.1 hc
      refine wp_if_eq (pc' := 20) (tgt := 29) ⟨by decide, by decide⟩ dX11_bell_17 rfl rfl (fun hc => by exfalso; revert hc; decide) (fun hc => ?_)
      refine wp_aload_n (pc' := 21) (q := 0) (i := 0) rfl rfl dX11_bell_20 rfl ?_
      refine wp_iload_n (pc' := 22) (q := 1) (i := 1) rfl rfl dX11_bell_21 rfl ?_
      refine wp_iload_n (pc' := 23) (q := 2) (i := 2) rfl rfl dX11_bell_22 rfl ?_
      obtain ⟨Q6, hs6, h⟩ := h
      refine wp_callV (pc' := 26) (as := [vI a1, vI a2]) (rest := []) hs6 dX11_bell_23 rfl lkX11_182 okX11_bellOf inX11_bellOf seX11_bellOf o_68 vc10 ⟨Nat.le_of_ble_eq_true rfl, Nat.le_of_ble_eq_true rfl⟩ (Nat.le_of_ble_eq_true rfl) (Nat.le_refl _) (Nat.le_refl _) okP_eq okP_eq rfl (rvI rfl (fun x6 I6 R6 hq6 => ?_))
      obtain ⟨hRR6, h⟩ := h x6 I6 R6 hq6; subst hRR6
      refine wp_goto (tgt := 32) dX11_bell_26 rfl ?_
      exact wp_ireturn dX11_bell_32 rfl rfl h
    · rw [if_neg hc]; have h := h.2 hc
      refine wp_if_eq (pc' := 20) (tgt := 29) ⟨by decide, by decide⟩ dX11_bell_17 rfl rfl (fun hc => ?_) (fun hc => by exfalso; revert hc; decide)
      exact wp_dropP (leP_d (leP_d (leP_d leP_n))) h
  · rw [if_neg hc]; have h := h.2 hc
    refine wp_if_eq (pc' := 8) (tgt := 29) ⟨by decide, by decide⟩ dX11_bell_5 rfl rfl (fun hc => ?_) (fun hc => by exfalso; revert hc; decide)
    exact wp_dropP (leP_d (leP_d (leP_d leP_n))) h

set_option maxRecDepth 4000 in
theorem gX11_bell_29 {Q : QT} {I : II} {R : RR} (hR : SR R) 
    (h : Q (vI (-1000)) I R) : wp (kN 89) mX11_bell Q 29 [none, none, none] [] I R 89 := by
  refine wp_sipush (pc' := 32) (by decide) dX11_bell_29 rfl ?_
  exact wp_ireturn dX11_bell_32 rfl rfl h

theorem sX11_best {Q : QT} {I : II} {R : RR} {a1 : Int} {a2 : Int} (h : wp (kN 89) mX11_best Q 0 [vR 68, vI a1, vI a2, none, none, none, none, none] [] I R 89) : Spec mX11_best [vR 68, vI a1, vI a2] I R 89 89 Q := Spec_of_wp pyX11_best rfl (Nat.le_of_ble_eq_true rfl) (Nat.le_refl _) (by decide) h

set_option maxRecDepth 4000 in
theorem gX11_best_0 {Q : QT} {I : II} {R : RR} (hR : SR R) {a1 : Int} {a2 : Int}
    (h : (InI a1) ∧
      (InI (I 70 0 - 1)) ∧
      ((0 ≤ a1 ∧ a1 ≤ I 70 0 - 1 →
      (InI a2) ∧
      (((0 : Int) ≤ a2 ∧ a2 ≤ (1 : Int) →
      (0 ≤ a1 ∧ a1 < 40) ∧
      (∃ Q7 : QT, Spec mX11_bellOf [vR 68, vI a1, vI (I 72 a1.toNat)] I R 89 89 Q7 ∧ (∀ x7 I7 R7, Q7 (vI x7) I7 R7 →
      R = R7 ∧ wp (kN 89) mX11_best Q 38 [vR 68, vI a1, vI a2, vI (I 72 a1.toNat), vI x7, vI 1, none, none] [] I7 R 89))) ∧ (¬ ((0 : Int) ≤ a2 ∧ a2 ≤ (1 : Int)) →
      wp (kN 89) mX11_best Q 18 [none, none, none, none, none, none, none, none] [] I R 89))) ∧ (¬ (0 ≤ a1 ∧ a1 ≤ I 70 0 - 1) →
      wp (kN 89) mX11_best Q 18 [none, none, none, none, none, none, none, none] [] I R 89))) : wp (kN 89) mX11_best Q 0 [vR 68, vI a1, vI a2, none, none, none, none, none] [] I R 89 := by
  refine wp_aload_n (pc' := 1) (q := 0) (i := 0) rfl rfl dX11_best_0 rfl ?_
  refine wp_iload_n (pc' := 2) (q := 1) (i := 1) rfl rfl dX11_best_1 rfl ?_
  obtain ⟨h2, h⟩ := h
  obtain ⟨h3, h⟩ := h
  refine wp_callV (pc' := 5) (as := [vI a1]) (rest := []) (pX11_isPerson hR h2 h3) dX11_best_2 rfl lkX11_127 okX11_isPerson inX11_isPerson seX11_isPerson o_68 vc10 ⟨Nat.le_of_ble_eq_true rfl, Nat.le_of_ble_eq_true rfl⟩ (Nat.le_of_ble_eq_true rfl) (Nat.le_refl _) (Nat.le_refl _) okP_eq okP_eq rfl (rvZ rfl (fun x1 I1 R1 hz1 hq1 => ?_))
  obtain ⟨eR1, eI1, ex1⟩ := hq1; subst eR1; subst eI1; cases ex1
  by_cases hc : 0 ≤ a1 ∧ a1 ≤ I 70 0 - 1
  · rw [if_pos hc]; have h := h.1 hc
    refine wp_if_eq (pc' := 8) (tgt := 18) ⟨by decide, by decide⟩ dX11_best_5 rfl rfl (fun hc => by exfalso; revert hc; decide) (fun hc => ?_)
    refine wp_iload_n (pc' := 9) (q := 2) (i := 2) rfl rfl dX11_best_8 rfl ?_
    obtain ⟨h4, h⟩ := h
    refine wp_i2l (pc' := 10) h4 dX11_best_9 rfl ?_
    refine wp_lconst (pc' := 11) dX11_best_10 rfl ?_
    refine wp_lconst (pc' := 12) dX11_best_11 rfl ?_
    refine wp_callS (pc' := 15) (as := [vL a2, vL 0, vL 1]) (rest := []) (pX11_in (by decide) (inL_of h4) ⟨by decide, by decide⟩ ⟨by decide, by decide⟩) dX11_best_12 rfl lkX11_79 okX11_in stX11_in ⟨Nat.le_of_ble_eq_true rfl, Nat.le_of_ble_eq_true rfl⟩ (Nat.le_of_ble_eq_true rfl) (Nat.le_refl _) (Nat.le_refl _) okP_eq okP_eq rfl (rvZ rfl (fun x5 I5 R5 hz5 hq5 => ?_))
    obtain ⟨eR5, eI5, ex5⟩ := hq5; subst eR5; subst eI5; cases ex5
    by_cases hc : (0 : Int) ≤ a2 ∧ a2 ≤ (1 : Int)
    · rw [if_pos hc]; have h := h.1 hc
      refine wp_if_ne (pc' := 18) (tgt := 20) ⟨by decide, by decide⟩ dX11_best_15 rfl rfl (fun hc => ?_) (fun hc => by exfalso; revert hc; decide)
      refine wp_aload_n (pc' := 21) (q := 0) (i := 0) rfl rfl dX11_best_20 rfl ?_
      refine wp_getRc (pc' := 24) (k := 4) (j := 72) dX11_best_21 vc10 (by decide) rfl lfX11_19 o_68 (r_68_4 hR) rfl ?_
      refine wp_iload_n (pc' := 25) (q := 1) (i := 1) rfl rfl dX11_best_24 rfl ?_
      obtain ⟨h6, h⟩ := h
      refine wp_iald (pc' := 26) (j := a1.toNat) dX11_best_25 a_72 h6 rfl rfl ?_
      refine wp_istore_n (pc' := 27) (q := 3) (i := 3) (L' := [vR 68, vI a1, vI a2, vI (I 72 a1.toNat), none, none, none, none]) rfl (by decide) rfl dX11_best_26 rfl rfl ?_
      refine wp_aload_n (pc' := 28) (q := 0) (i := 0) rfl rfl dX11_best_27 rfl ?_
      refine wp_iload_n (pc' := 29) (q := 1) (i := 1) rfl rfl dX11_best_28 rfl ?_
      refine wp_iload_n (pc' := 30) (q := 3) (i := 3) rfl rfl dX11_best_29 rfl ?_
      obtain ⟨Q7, hs7, h⟩ := h
      refine wp_callV (pc' := 33) (as := [vI a1, vI (I 72 a1.toNat)]) (rest := []) hs7 dX11_best_30 rfl lkX11_182 okX11_bellOf inX11_bellOf seX11_bellOf o_68 vc10 ⟨Nat.le_of_ble_eq_true rfl, Nat.le_of_ble_eq_true rfl⟩ (Nat.le_of_ble_eq_true rfl) (Nat.le_refl _) (Nat.le_refl _) okP_eq okP_eq rfl (rvI rfl (fun x7 I7 R7 hq7 => ?_))
      obtain ⟨hRR7, h⟩ := h x7 I7 R7 hq7; subst hRR7
      refine wp_istore (pc' := 35) (i := 4) (L' := [vR 68, vI a1, vI a2, vI (I 72 a1.toNat), vI x7, none, none, none]) (by decide) rfl dX11_best_33 rfl rfl ?_
      refine wp_iconst (pc' := 36) dX11_best_35 rfl ?_
      refine wp_istore (pc' := 38) (i := 5) (L' := [vR 68, vI a1, vI a2, vI (I 72 a1.toNat), vI x7, vI 1, none, none]) (by decide) rfl dX11_best_36 rfl rfl ?_
      exact h
    · rw [if_neg hc]; have h := h.2 hc
      refine wp_if_ne (pc' := 18) (tgt := 20) ⟨by decide, by decide⟩ dX11_best_15 rfl rfl (fun hc => by exfalso; revert hc; decide) (fun hc => ?_)
      exact wp_dropP (leP_d (leP_d (leP_d (leP_s (leP_s (leP_s (leP_s (leP_s leP_n)))))))) h
  · rw [if_neg hc]; have h := h.2 hc
    refine wp_if_eq (pc' := 8) (tgt := 18) ⟨by decide, by decide⟩ dX11_best_5 rfl rfl (fun hc => ?_) (fun hc => by exfalso; revert hc; decide)
    exact wp_dropP (leP_d (leP_d (leP_d (leP_s (leP_s (leP_s (leP_s (leP_s leP_n)))))))) h

set_option maxRecDepth 4000 in
theorem gX11_best_18 {Q : QT} {I : II} {R : RR} (hR : SR R) 
    (h : Q (vI (-1)) I R) : wp (kN 89) mX11_best Q 18 [none, none, none, none, none, none, none, none] [] I R 89 := by
  refine wp_iconst (pc' := 19) dX11_best_18 rfl ?_
  exact wp_ireturn dX11_best_19 rfl rfl h

set_option maxRecDepth 4000 in
theorem gX11_best_38 {Q : QT} {I : II} {R : RR} (hR : SR R) {a1 : Int} {a2 : Int} {a3 : Int} {a4 : Int} {a5 : Int}
    (h : (InI a5) ∧
      (((100 : Int) ≤ a5 →
      (InI a2) ∧
      ((¬ a2 = 0 →
      Q (vI a4) I R) ∧ (a2 = 0 →
      Q (vI a3) I R))) ∧ (¬ (100 : Int) ≤ a5 →
      wp (kN 89) mX11_best Q 48 [vR 68, vI a1, vI a2, vI a3, vI a4, vI a5, vI (-1), none] [] I R 89))) : wp (kN 89) mX11_best Q 38 [vR 68, vI a1, vI a2, vI a3, vI a4, vI a5, none, none] [] I R 89 := by
  refine wp_iload (pc' := 40) (i := 5) rfl dX11_best_38 rfl ?_
  refine wp_bipush (pc' := 42) (by decide) dX11_best_40 rfl ?_
  obtain ⟨h1, h⟩ := h
  refine wp_icmp_ge (pc' := 45) (tgt := 117) h1 ⟨by decide, by decide⟩ dX11_best_42 rfl rfl (fun hc => ?_) (fun hc => ?_)
  · have h := h.1 hc
    refine wp_iload_n (pc' := 118) (q := 2) (i := 2) rfl rfl dX11_best_117 rfl ?_
    obtain ⟨h2, h⟩ := h
    refine wp_if_ne (pc' := 121) (tgt := 125) h2 dX11_best_118 rfl rfl (fun hc => ?_) (fun hc => ?_)
    · have h := h.1 hc
      refine wp_iload (pc' := 127) (i := 4) rfl dX11_best_125 rfl ?_
      exact wp_ireturn dX11_best_127 rfl rfl h
    · have h := h.2 hc
      refine wp_iload_n (pc' := 122) (q := 3) (i := 3) rfl rfl dX11_best_121 rfl ?_
      refine wp_goto (tgt := 127) dX11_best_122 rfl ?_
      exact wp_ireturn dX11_best_127 rfl rfl h
  · have h := h.2 hc
    refine wp_iconst (pc' := 46) dX11_best_45 rfl ?_
    refine wp_istore (pc' := 48) (i := 6) (L' := [vR 68, vI a1, vI a2, vI a3, vI a4, vI a5, vI (-1), none]) (by decide) rfl dX11_best_46 rfl rfl ?_
    exact h

set_option maxRecDepth 4000 in
theorem gX11_best_48 {Q : QT} {I : II} {R : RR} (hR : SR R) {a1 : Int} {a2 : Int} {a3 : Int} {a4 : Int} {a5 : Int} {a6 : Int}
    (h : (InI a6) ∧
      (((2 : Int) ≤ a6 →
      wp (kN 89) mX11_best Q 38 [vR 68, vI a1, vI a2, vI a3, vI a4, vI (a5 + 1), none, none] [] I R 89) ∧ (¬ (2 : Int) ≤ a6 →
      (0 ≤ a1 ∧ a1 < 40) ∧
      (InI ((I 72 a1.toNat) + (a6 * a5))) ∧
      (((0 : Int) ≤ ((I 72 a1.toNat) + (a6 * a5)) ∧ ((I 72 a1.toNat) + (a6 * a5)) ≤ (99 : Int) →
      (∃ Q5 : QT, Spec mX11_bellOf [vR 68, vI a1, vI ((I 72 a1.toNat) + (a6 * a5))] I R 89 89 Q5 ∧ (∀ x5 I5 R5, Q5 (vI x5) I5 R5 →
      R = R5 ∧ (InI x5) ∧
      (InI a4) ∧
      ((x5 ≤ a4 →
      wp (kN 89) mX11_best Q 105 [vR 68, vI a1, vI a2, vI a3, vI a4, vI a5, vI a6, none] [] I5 R 89) ∧ (¬ (x5 ≤ a4) →
      (∃ Q8 : QT, Spec mX11_bellOf [vR 68, vI a1, vI ((I 72 a1.toNat) + (a6 * a5))] I5 R 89 89 Q8 ∧ (∀ x8 I8 R8, Q8 (vI x8) I8 R8 →
      R = R8 ∧ wp (kN 89) mX11_best Q 105 [vR 68, vI a1, vI a2, vI ((I 72 a1.toNat) + (a6 * a5)), vI x8, vI a5, vI a6, none] [] I8 R 89))))))) ∧ (¬ ((0 : Int) ≤ ((I 72 a1.toNat) + (a6 * a5)) ∧ ((I 72 a1.toNat) + (a6 * a5)) ≤ (99 : Int)) →
      wp (kN 89) mX11_best Q 105 [vR 68, vI a1, vI a2, vI a3, vI a4, vI a5, vI a6, none] [] I R 89))))) : wp (kN 89) mX11_best Q 48 [vR 68, vI a1, vI a2, vI a3, vI a4, vI a5, vI a6, none] [] I R 89 := by
  refine wp_iload (pc' := 50) (i := 6) rfl dX11_best_48 rfl ?_
  refine wp_iconst (pc' := 51) dX11_best_50 rfl ?_
  obtain ⟨h1, h⟩ := h
  refine wp_icmp_ge (pc' := 54) (tgt := 111) h1 ⟨by decide, by decide⟩ dX11_best_51 rfl rfl (fun hc => ?_) (fun hc => ?_)
  · have h := h.1 hc
    refine wp_iinc (pc' := 114) (i := 5) (L' := [vR 68, vI a1, vI a2, vI a3, vI a4, vI (a5 + 1), vI a6, none]) rfl (by decide) rfl dX11_best_111 rfl rfl ?_
    refine wp_goto (tgt := 38) dX11_best_114 rfl ?_
    exact wp_dropP (leP_s (leP_s (leP_s (leP_s (leP_s (leP_s (leP_d (leP_s leP_n)))))))) h
  · have h := h.2 hc
    refine wp_aload_n (pc' := 55) (q := 0) (i := 0) rfl rfl dX11_best_54 rfl ?_
    refine wp_getRc (pc' := 58) (k := 4) (j := 72) dX11_best_55 vc10 (by decide) rfl lfX11_19 o_68 (r_68_4 hR) rfl ?_
    refine wp_iload_n (pc' := 59) (q := 1) (i := 1) rfl rfl dX11_best_58 rfl ?_
    obtain ⟨h2, h⟩ := h
    refine wp_iald (pc' := 60) (j := a1.toNat) dX11_best_59 a_72 h2 rfl rfl ?_
    refine wp_iload (pc' := 62) (i := 6) rfl dX11_best_60 rfl ?_
    refine wp_iload (pc' := 64) (i := 5) rfl dX11_best_62 rfl ?_
    refine wp_imul (pc' := 65) dX11_best_64 rfl ?_
    refine wp_iadd (pc' := 66) dX11_best_65 rfl ?_
    refine wp_istore (pc' := 68) (i := 7) (L' := [vR 68, vI a1, vI a2, vI a3, vI a4, vI a5, vI a6, vI ((I 72 a1.toNat) + (a6 * a5))]) (by decide) rfl dX11_best_66 rfl rfl ?_
    refine wp_iload (pc' := 70) (i := 7) rfl dX11_best_68 rfl ?_
    obtain ⟨h3, h⟩ := h
    refine wp_i2l (pc' := 71) h3 dX11_best_70 rfl ?_
    refine wp_lconst (pc' := 72) dX11_best_71 rfl ?_
    refine wp_ldc2 (pc' := 75) (x := 99) lcX11_180 (by decide +kernel) dX11_best_72 rfl ?_
    refine wp_callS (pc' := 78) (as := [vL ((I 72 a1.toNat) + (a6 * a5)), vL 0, vL 99]) (rest := []) (pX11_in (by decide) (inL_of h3) ⟨by decide, by decide⟩ ⟨by decide, by decide⟩) dX11_best_75 rfl lkX11_79 okX11_in stX11_in ⟨Nat.le_of_ble_eq_true rfl, Nat.le_of_ble_eq_true rfl⟩ (Nat.le_of_ble_eq_true rfl) (Nat.le_refl _) (Nat.le_refl _) okP_eq okP_eq rfl (rvZ rfl (fun x4 I4 R4 hz4 hq4 => ?_))
    obtain ⟨eR4, eI4, ex4⟩ := hq4; subst eR4; subst eI4; cases ex4
    by_cases hc : (0 : Int) ≤ ((I 72 a1.toNat) + (a6 * a5)) ∧ ((I 72 a1.toNat) + (a6 * a5)) ≤ (99 : Int)
    · rw [if_pos hc]; have h := h.1 hc
      refine wp_if_eq (pc' := 81) (tgt := 105) ⟨by decide, by decide⟩ dX11_best_78 rfl rfl (fun hc => by exfalso; revert hc; decide) (fun hc => ?_)
      refine wp_aload_n (pc' := 82) (q := 0) (i := 0) rfl rfl dX11_best_81 rfl ?_
      refine wp_iload_n (pc' := 83) (q := 1) (i := 1) rfl rfl dX11_best_82 rfl ?_
      refine wp_iload (pc' := 85) (i := 7) rfl dX11_best_83 rfl ?_
      obtain ⟨Q5, hs5, h⟩ := h
      refine wp_callV (pc' := 88) (as := [vI a1, vI ((I 72 a1.toNat) + (a6 * a5))]) (rest := []) hs5 dX11_best_85 rfl lkX11_182 okX11_bellOf inX11_bellOf seX11_bellOf o_68 vc10 ⟨Nat.le_of_ble_eq_true rfl, Nat.le_of_ble_eq_true rfl⟩ (Nat.le_of_ble_eq_true rfl) (Nat.le_refl _) (Nat.le_refl _) okP_eq okP_eq rfl (rvI rfl (fun x5 I5 R5 hq5 => ?_))
      obtain ⟨hRR5, h⟩ := h x5 I5 R5 hq5; subst hRR5
      refine wp_iload (pc' := 90) (i := 4) rfl dX11_best_88 rfl ?_
      obtain ⟨h6, h⟩ := h
      obtain ⟨h7, h⟩ := h
      refine wp_icmp_le (pc' := 93) (tgt := 105) h6 h7 dX11_best_90 rfl rfl (fun hc => ?_) (fun hc => ?_)
      · have h := h.1 hc
        exact wp_dropP (leP_s (leP_s (leP_s (leP_s (leP_s (leP_s (leP_s (leP_d leP_n)))))))) h
      · have h := h.2 hc
        refine wp_aload_n (pc' := 94) (q := 0) (i := 0) rfl rfl dX11_best_93 rfl ?_
        refine wp_iload_n (pc' := 95) (q := 1) (i := 1) rfl rfl dX11_best_94 rfl ?_
        refine wp_iload (pc' := 97) (i := 7) rfl dX11_best_95 rfl ?_
        obtain ⟨Q8, hs8, h⟩ := h
        refine wp_callV (pc' := 100) (as := [vI a1, vI ((I 72 a1.toNat) + (a6 * a5))]) (rest := []) hs8 dX11_best_97 rfl lkX11_182 okX11_bellOf inX11_bellOf seX11_bellOf o_68 vc10 ⟨Nat.le_of_ble_eq_true rfl, Nat.le_of_ble_eq_true rfl⟩ (Nat.le_of_ble_eq_true rfl) (Nat.le_refl _) (Nat.le_refl _) okP_eq okP_eq rfl (rvI rfl (fun x8 I8 R8 hq8 => ?_))
        obtain ⟨hRR8, h⟩ := h x8 I8 R8 hq8; subst hRR8
        refine wp_istore (pc' := 102) (i := 4) (L' := [vR 68, vI a1, vI a2, vI a3, vI x8, vI a5, vI a6, vI ((I 72 a1.toNat) + (a6 * a5))]) (by decide) rfl dX11_best_100 rfl rfl ?_
        refine wp_iload (pc' := 104) (i := 7) rfl dX11_best_102 rfl ?_
        refine wp_istore_n (pc' := 105) (q := 3) (i := 3) (L' := [vR 68, vI a1, vI a2, vI ((I 72 a1.toNat) + (a6 * a5)), vI x8, vI a5, vI a6, vI ((I 72 a1.toNat) + (a6 * a5))]) rfl (by decide) rfl dX11_best_104 rfl rfl ?_
        exact wp_dropP (leP_s (leP_s (leP_s (leP_s (leP_s (leP_s (leP_s (leP_d leP_n)))))))) h
    · rw [if_neg hc]; have h := h.2 hc
      refine wp_if_eq (pc' := 81) (tgt := 105) ⟨by decide, by decide⟩ dX11_best_78 rfl rfl (fun hc => ?_) (fun hc => by exfalso; revert hc; decide)
      exact wp_dropP (leP_s (leP_s (leP_s (leP_s (leP_s (leP_s (leP_s (leP_d leP_n)))))))) h

set_option maxRecDepth 4000 in
theorem gX11_best_105 {Q : QT} {I : II} {R : RR} (hR : SR R) {a1 : Int} {a2 : Int} {a3 : Int} {a4 : Int} {a5 : Int} {a6 : Int}
    (h : wp (kN 89) mX11_best Q 48 [vR 68, vI a1, vI a2, vI a3, vI a4, vI a5, vI (a6 + 2), none] [] I R 89) : wp (kN 89) mX11_best Q 105 [vR 68, vI a1, vI a2, vI a3, vI a4, vI a5, vI a6, none] [] I R 89 := by
  refine wp_iinc (pc' := 108) (i := 6) (L' := [vR 68, vI a1, vI a2, vI a3, vI a4, vI a5, vI (a6 + 2), none]) rfl (by decide) rfl dX11_best_105 rfl rfl ?_
  refine wp_goto (tgt := 48) dX11_best_108 rfl ?_
  exact h

