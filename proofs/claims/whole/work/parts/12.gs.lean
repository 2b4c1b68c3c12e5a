theorem sX10_write {Q : QT} {I : II} {R : RR} {a1 : Int} {a2 : Int} (h : wp (kN 89) mX10_write Q 0 [vR 1, vI a1, vL a2, none, none] [] I R 89) : Spec mX10_write [vR 1, vI a1, vL a2] I R 89 89 Q := Spec_of_wp pyX10_write rfl (Nat.le_of_ble_eq_true rfl) (Nat.le_refl _) (by decide) h

set_option maxRecDepth 4000 in
theorem gX10_write_0 {Q : QT} {I : II} {R : RR} (hR : SR R) {a1 : Int} {a2 : Int}
    (h : (InI a1) ∧
      (((1 : Int) ≤ a1 ∧ a1 ≤ (8 : Int) →
      (InI ((I 2 1) + a1)) ∧
      ((((I 2 1) + a1) ≤ (300 : Int) →
      wp (kN 89) mX10_write Q 35 [vR 1, none, vL a2, none, vI (a1 - 1)] [] I R 89) ∧ (¬ ((I 2 1) + a1) ≤ (300 : Int) →
      Q (vI (-3)) I R))) ∧ (¬ ((1 : Int) ≤ a1 ∧ a1 ≤ (8 : Int)) →
      Q (vI (-1)) I R))) : wp (kN 89) mX10_write Q 0 [vR 1, vI a1, vL a2, none, none] [] I R 89 := by
  refine wp_iload_n (pc' := 1) (q := 1) (i := 1) rfl rfl dX10_write_0 rfl ?_
  refine wp_iconst (pc' := 2) dX10_write_1 rfl ?_
  refine wp_bipush (pc' := 4) (by decide) dX10_write_2 rfl ?_
  obtain ⟨h2, h⟩ := h
  refine wp_callS (pc' := 7) (as := [vI a1, vI 1, vI 8]) (rest := []) (pX10_within (by decide) h2 ⟨by decide, by decide⟩ ⟨by decide, by decide⟩) dX10_write_4 rfl lkX10_84 okX10_within stX10_within ⟨Nat.le_of_ble_eq_true rfl, Nat.le_of_ble_eq_true rfl⟩ (Nat.le_of_ble_eq_true rfl) (Nat.le_refl _) (Nat.le_refl _) okP_eq okP_eq rfl (rvZ rfl (fun x1 I1 R1 hz1 hq1 => ?_))
  obtain ⟨eR1, eI1, ex1⟩ := hq1; subst eR1; subst eI1; cases ex1
  by_cases hc : (1 : Int) ≤ a1 ∧ a1 ≤ (8 : Int)
  · rw [if_pos hc]; have h := h.1 hc
    refine wp_if_ne (pc' := 10) (tgt := 12) ⟨by decide, by decide⟩ dX10_write_7 rfl rfl (fun hc => ?_) (fun hc => by exfalso; revert hc; decide)
    refine wp_aload_n (pc' := 13) (q := 0) (i := 0) rfl rfl dX10_write_12 rfl ?_
    refine wp_getRc (pc' := 16) (k := 0) (j := 2) dX10_write_13 vc9 (by decide) rfl lfX10_10 o_1 (r_1_0 hR) rfl ?_
    refine wp_getI (pc' := 19) (k := 1) dX10_write_16 vc8 (by decide) rfl lfX10_88 o_2 rfl ?_
    refine wp_iload_n (pc' := 20) (q := 1) (i := 1) rfl rfl dX10_write_19 rfl ?_
    refine wp_iadd (pc' := 21) dX10_write_20 rfl ?_
    refine wp_sipush (pc' := 24) (by decide) dX10_write_21 rfl ?_
    obtain ⟨h3, h⟩ := h
    refine wp_icmp_le (pc' := 27) (tgt := 30) h3 ⟨by decide, by decide⟩ dX10_write_24 rfl rfl (fun hc => ?_) (fun hc => ?_)
    · have h := h.1 hc
      refine wp_iload_n (pc' := 31) (q := 1) (i := 1) rfl rfl dX10_write_30 rfl ?_
      refine wp_iconst (pc' := 32) dX10_write_31 rfl ?_
      refine wp_isub (pc' := 33) dX10_write_32 rfl ?_
      refine wp_istore (pc' := 35) (i := 4) (L' := [vR 1, vI a1, vL a2, none, vI (a1 - 1)]) (by decide) rfl dX10_write_33 rfl rfl ?_
      exact wp_dropP (leP_s (leP_d (leP_s (leP_s (leP_s leP_n))))) h
    · have h := h.2 hc
      refine wp_bipush (pc' := 29) (by decide) dX10_write_27 rfl ?_
      exact wp_ireturn dX10_write_29 rfl rfl h
  · rw [if_neg hc]; have h := h.2 hc
    refine wp_if_ne (pc' := 10) (tgt := 12) ⟨by decide, by decide⟩ dX10_write_7 rfl rfl (fun hc => by exfalso; revert hc; decide) (fun hc => ?_)
    refine wp_iconst (pc' := 11) dX10_write_10 rfl ?_
    exact wp_ireturn dX10_write_11 rfl rfl h

set_option maxRecDepth 4000 in
theorem gX10_write_35 {Q : QT} {I : II} {R : RR} (hR : SR R) {a2 : Int} {a4 : Int}
    (h : (InI a4) ∧
      ((a4 < 0 →
      Q (vI (I 2 1)) I R) ∧ (¬ (a4 < 0) →
      (∃ Q2 : QT, Spec mX8_add [vR 2, vI (i32 (((i64 a2).toUInt64 >>> ((i32 (8 * a4)).toInt64.toUInt64 &&& Int64.toUInt64 63)).toInt64.toInt) &&& i32 255).toInt] I R 89 89 Q2 ∧ (∀ I2 R2, Q2 none I2 R2 →
      R = R2 ∧ wp (kN 89) mX10_write Q 35 [vR 1, none, vL a2, none, vI (a4 + (-1))] [] I2 R 89))))) : wp (kN 89) mX10_write Q 35 [vR 1, none, vL a2, none, vI a4] [] I R 89 := by
  refine wp_iload (pc' := 37) (i := 4) rfl dX10_write_35 rfl ?_
  obtain ⟨h1, h⟩ := h
  refine wp_if_lt (pc' := 40) (tgt := 65) h1 dX10_write_37 rfl rfl (fun hc => ?_) (fun hc => ?_)
  · have h := h.1 hc
    refine wp_aload_n (pc' := 66) (q := 0) (i := 0) rfl rfl dX10_write_65 rfl ?_
    refine wp_getRc (pc' := 69) (k := 0) (j := 2) dX10_write_66 vc9 (by decide) rfl lfX10_10 o_1 (r_1_0 hR) rfl ?_
    refine wp_getI (pc' := 72) (k := 1) dX10_write_69 vc8 (by decide) rfl lfX10_88 o_2 rfl ?_
    exact wp_ireturn dX10_write_72 rfl rfl h
  · have h := h.2 hc
    refine wp_aload_n (pc' := 41) (q := 0) (i := 0) rfl rfl dX10_write_40 rfl ?_
    refine wp_getRc (pc' := 44) (k := 0) (j := 2) dX10_write_41 vc9 (by decide) rfl lfX10_10 o_1 (r_1_0 hR) rfl ?_
    refine wp_lload_n (pc' := 45) (q := 2) (i := 2) rfl rfl dX10_write_44 rfl ?_
    refine wp_bipush (pc' := 47) (by decide) dX10_write_45 rfl ?_
    refine wp_iload (pc' := 49) (i := 4) rfl dX10_write_47 rfl ?_
    refine wp_imul (pc' := 50) dX10_write_49 rfl ?_
    refine wp_lushr (pc' := 51) dX10_write_50 rfl ?_
    refine wp_l2i (pc' := 52) dX10_write_51 rfl ?_
    refine wp_sipush (pc' := 55) (by decide) dX10_write_52 rfl ?_
    refine wp_iand (pc' := 56) dX10_write_55 rfl ?_
    obtain ⟨Q2, hs2, h⟩ := h
    refine wp_callV (pc' := 59) (as := [vI (i32 (((i64 a2).toUInt64 >>> ((i32 (8 * a4)).toInt64.toUInt64 &&& Int64.toUInt64 63)).toInt64.toInt) &&& i32 255).toInt]) (rest := []) hs2 dX10_write_56 rfl lkX10_91 okX8_add inX8_add seX8_add o_2 vc8 ⟨Nat.le_of_ble_eq_true rfl, Nat.le_of_ble_eq_true rfl⟩ (Nat.le_of_ble_eq_true rfl) (Nat.le_refl _) (Nat.le_refl _) okP_eq okP_eq rfl (rvV rfl (fun I2 R2 hq2 => ?_))
    obtain ⟨hRR2, h⟩ := h I2 R2 hq2; subst hRR2
    refine wp_iinc (pc' := 62) (i := 4) (L' := [vR 1, none, vL a2, none, vI (a4 + (-1))]) rfl (by decide) rfl dX10_write_59 rfl rfl ?_
    refine wp_goto (tgt := 35) dX10_write_62 rfl ?_
    exact h

theorem sX10_wipe {Q : QT} {I : II} {R : RR}  (h : wp (kN 89) mX10_wipe Q 0 [vR 1, none] [] I R 89) : Spec mX10_wipe [vR 1] I R 89 89 Q := Spec_of_wp pyX10_wipe rfl (Nat.le_of_ble_eq_true rfl) (Nat.le_refl _) (by decide) h

set_option maxRecDepth 4000 in
theorem gX10_wipe_0 {Q : QT} {I : II} {R : RR} (hR : SR R) 
    (h : (∀ I1 : II, I1 = up2 I 2 1 0 →
      Q (vI (I 2 1)) I1 R)) : wp (kN 89) mX10_wipe Q 0 [vR 1, none] [] I R 89 := by
  refine wp_aload_n (pc' := 1) (q := 0) (i := 0) rfl rfl dX10_wipe_0 rfl ?_
  refine wp_getRc (pc' := 4) (k := 0) (j := 2) dX10_wipe_1 vc9 (by decide) rfl lfX10_10 o_1 (r_1_0 hR) rfl ?_
  refine wp_getI (pc' := 7) (k := 1) dX10_wipe_4 vc8 (by decide) rfl lfX10_88 o_2 rfl ?_
  refine wp_istore_n (pc' := 8) (q := 1) (i := 1) (L' := [vR 1, vI (I 2 1)]) rfl (by decide) rfl dX10_wipe_7 rfl rfl ?_
  refine wp_aload_n (pc' := 9) (q := 0) (i := 0) rfl rfl dX10_wipe_8 rfl ?_
  refine wp_getRc (pc' := 12) (k := 0) (j := 2) dX10_wipe_9 vc9 (by decide) rfl lfX10_10 o_1 (r_1_0 hR) rfl ?_
  refine wp_iconst (pc' := 13) dX10_wipe_12 rfl ?_
  obtain ⟨I1, eI1⟩ : ∃ z : II, z = up2 I 2 1 0 := ⟨_, rfl⟩
  have h := h I1 eI1
  refine wp_putI (pc' := 16) (k := 1) (I' := I1) dX10_wipe_13 vc8 (by decide) rfl rfl (tyX8_ok 1 (by decide)) lfX10_88 o_2 rfl eI1 ?_
  refine wp_iload_n (pc' := 17) (q := 1) (i := 1) rfl rfl dX10_wipe_16 rfl ?_
  exact wp_ireturn dX10_wipe_17 rfl rfl h

theorem sX10_fault {Q : QT} {I : II} {R : RR}  (h : wp (kN 89) mX10_fault Q 0 [vR 1] [] I R 89) : Spec mX10_fault [vR 1] I R 89 89 Q := Spec_of_wp pyX10_fault rfl (Nat.le_of_ble_eq_true rfl) (Nat.le_refl _) (by decide) h

set_option maxRecDepth 4000 in
theorem gX10_fault_0 {Q : QT} {I : II} {R : RR} (hR : SR R) 
    (h : (∃ Q1 : QT, Spec mX5_read [vR 4, vR 2, vR (R 1 3)] I R 89 89 Q1 ∧ (∀ x1 I1 R1, Q1 (vI x1) I1 R1 →
      R = R1 ∧ Q (vI x1) I1 R))) : wp (kN 89) mX10_fault Q 0 [vR 1] [] I R 89 := by
  refine wp_aload_n (pc' := 1) (q := 0) (i := 0) rfl rfl dX10_fault_0 rfl ?_
  refine wp_getRc (pc' := 4) (k := 1) (j := 4) dX10_fault_1 vc9 (by decide) rfl lfX10_19 o_1 (r_1_1 hR) rfl ?_
  refine wp_aload_n (pc' := 5) (q := 0) (i := 0) rfl rfl dX10_fault_4 rfl ?_
  refine wp_getRc (pc' := 8) (k := 0) (j := 2) dX10_fault_5 vc9 (by decide) rfl lfX10_10 o_1 (r_1_0 hR) rfl ?_
  refine wp_aload_n (pc' := 9) (q := 0) (i := 0) rfl rfl dX10_fault_8 rfl ?_
  refine wp_getR (pc' := 12) (k := 3) dX10_fault_9 vc9 (by decide) rfl lfX10_30 o_1 rfl ?_
  obtain ⟨Q1, hs1, h⟩ := h
  refine wp_callV (pc' := 15) (as := [vR 2, vR (R 1 3)]) (rest := []) hs1 dX10_fault_12 rfl lkX10_95 okX5_read inX5_read seX5_read o_4 vc5 ⟨Nat.le_of_ble_eq_true rfl, Nat.le_of_ble_eq_true rfl⟩ (Nat.le_of_ble_eq_true rfl) (Nat.le_refl _) (Nat.le_refl _) okP_eq okP_eq rfl (rvI rfl (fun x1 I1 R1 hq1 => ?_))
  obtain ⟨hRR1, h⟩ := h x1 I1 R1 hq1; subst hRR1
  exact wp_ireturn dX10_fault_15 rfl rfl h

theorem sX10_lay {Q : QT} {I : II} {R : RR}  (h : wp (kN 89) mX10_lay Q 0 [vR 1, none] [] I R 89) : Spec mX10_lay [vR 1] I R 89 89 Q := Spec_of_wp pyX10_lay rfl (Nat.le_of_ble_eq_true rfl) (Nat.le_refl _) (by decide) h

set_option maxRecDepth 4000 in
theorem gX10_lay_0 {Q : QT} {I : II} {R : RR} (hR : SR R) 
    (h : (∃ Q1 : QT, Spec mX5_read [vR 4, vR 2, vR (R 1 3)] I R 89 89 Q1 ∧ (∀ x1 I1 R1, Q1 (vI x1) I1 R1 →
      R = R1 ∧ (InI x1) ∧
      ((¬ x1 = (-4 : Int) →
      wp (kN 89) mX10_lay Q 40 [none, none] [] I1 R 89) ∧ (x1 = (-4 : Int) →
      (isO 89 (R 1 3) 6) ∧
      (InI (I1 (R 1 3) 6)) ∧
      (((I1 (R 1 3) 6) = 0 →
      wp (kN 89) mX10_lay Q 40 [none, none] [] I1 R 89) ∧ (¬ (I1 (R 1 3) 6) = 0 →
      (InI (I1 (R 1 3) 7)) ∧
      ((¬ (I1 (R 1 3) 7) = 0 →
      (0 < (R 1 3)) ∧
      (∀ R7 : RR, R7 = up2 R 1 3 (R 1 2) →
      (∀ R8 : RR, R8 = up2 R7 1 2 (R 1 3) →
      (∀ I9 : II, I9 = up2 I1 18 4 0 →
      (∀ I10 : II, I10 = up2 I9 1 6 0 →
      (isO 89 (R8 1 2) 6) ∧
      Q (vI (I10 (R8 1 2) 5)) I10 R8))))) ∧ ((I1 (R 1 3) 7) = 0 →
      wp (kN 89) mX10_lay Q 40 [none, none] [] I1 R 89))))))))) : wp (kN 89) mX10_lay Q 0 [vR 1, none] [] I R 89 := by
  refine wp_aload_n (pc' := 1) (q := 0) (i := 0) rfl rfl dX10_lay_0 rfl ?_
  refine wp_getRc (pc' := 4) (k := 1) (j := 4) dX10_lay_1 vc9 (by decide) rfl lfX10_19 o_1 (r_1_1 hR) rfl ?_
  refine wp_aload_n (pc' := 5) (q := 0) (i := 0) rfl rfl dX10_lay_4 rfl ?_
  refine wp_getRc (pc' := 8) (k := 0) (j := 2) dX10_lay_5 vc9 (by decide) rfl lfX10_10 o_1 (r_1_0 hR) rfl ?_
  refine wp_aload_n (pc' := 9) (q := 0) (i := 0) rfl rfl dX10_lay_8 rfl ?_
  refine wp_getR (pc' := 12) (k := 3) dX10_lay_9 vc9 (by decide) rfl lfX10_30 o_1 rfl ?_
  obtain ⟨Q1, hs1, h⟩ := h
  refine wp_callV (pc' := 15) (as := [vR 2, vR (R 1 3)]) (rest := []) hs1 dX10_lay_12 rfl lkX10_95 okX5_read inX5_read seX5_read o_4 vc5 ⟨Nat.le_of_ble_eq_true rfl, Nat.le_of_ble_eq_true rfl⟩ (Nat.le_of_ble_eq_true rfl) (Nat.le_refl _) (Nat.le_refl _) okP_eq okP_eq rfl (rvI rfl (fun x1 I1 R1 hq1 => ?_))
  obtain ⟨hRR1, h⟩ := h x1 I1 R1 hq1; subst hRR1
  refine wp_bipush (pc' := 17) (by decide) dX10_lay_15 rfl ?_
  obtain ⟨h2, h⟩ := h
  refine wp_icmp_ne (pc' := 20) (tgt := 40) h2 ⟨by decide, by decide⟩ dX10_lay_17 rfl rfl (fun hc => ?_) (fun hc => ?_)
  · have h := h.1 hc
    exact wp_dropP (leP_d (leP_s leP_n)) h
  · have h := h.2 hc
    refine wp_aload_n (pc' := 21) (q := 0) (i := 0) rfl rfl dX10_lay_20 rfl ?_
    refine wp_getR (pc' := 24) (k := 3) dX10_lay_21 vc9 (by decide) rfl lfX10_30 o_1 rfl ?_
    obtain ⟨h3, h⟩ := h
    refine wp_getI (pc' := 27) (k := 6) dX10_lay_24 vc6 (by decide) rfl lfX10_99 h3 rfl ?_
    obtain ⟨h4, h⟩ := h
    refine wp_if_eq (pc' := 30) (tgt := 40) h4 dX10_lay_27 rfl rfl (fun hc => ?_) (fun hc => ?_)
    · have h := h.1 hc
      exact wp_dropP (leP_d (leP_s leP_n)) h
    · have h := h.2 hc
      refine wp_aload_n (pc' := 31) (q := 0) (i := 0) rfl rfl dX10_lay_30 rfl ?_
      refine wp_getR (pc' := 34) (k := 3) dX10_lay_31 vc9 (by decide) rfl lfX10_30 o_1 rfl ?_
      refine wp_getI (pc' := 37) (k := 7) dX10_lay_34 vc6 (by decide) rfl lfX10_102 h3 rfl ?_
      obtain ⟨h5, h⟩ := h
      refine wp_if_ne (pc' := 40) (tgt := 43) h5 dX10_lay_37 rfl rfl (fun hc => ?_) (fun hc => ?_)
      · have h := h.1 hc
        refine wp_aload_n (pc' := 44) (q := 0) (i := 0) rfl rfl dX10_lay_43 rfl ?_
        refine wp_getR (pc' := 47) (k := 3) dX10_lay_44 vc9 (by decide) rfl lfX10_30 o_1 rfl ?_
        obtain ⟨h6, h⟩ := h
        refine wp_astore_n (pc' := 48) (q := 1) (i := 1) (L' := [vR 1, vR (R 1 3)]) h6 rfl (by decide) rfl dX10_lay_47 rfl rfl ?_
        refine wp_aload_n (pc' := 49) (q := 0) (i := 0) rfl rfl dX10_lay_48 rfl ?_
        refine wp_aload_n (pc' := 50) (q := 0) (i := 0) rfl rfl dX10_lay_49 rfl ?_
        refine wp_getR (pc' := 53) (k := 2) dX10_lay_50 vc9 (by decide) rfl lfX10_26 o_1 rfl ?_
        obtain ⟨R7, eR7⟩ : ∃ z : RR, z = up2 R 1 3 (R 1 2) := ⟨_, rfl⟩
        have h := h R7 eR7
        have hR := SR_u3 hR eR7
        refine wp_putR (pc' := 56) (k := 3) (R' := R7) (Or.inl ⟨_, rfl⟩) dX10_lay_53 vc9 (by decide) rfl rfl (tyX10_ok 3 (by decide)) lfX10_30 o_1 rfl eR7 ?_
        refine wp_aload_n (pc' := 57) (q := 0) (i := 0) rfl rfl dX10_lay_56 rfl ?_
        refine wp_aload_n (pc' := 58) (q := 1) (i := 1) rfl rfl dX10_lay_57 rfl ?_
        obtain ⟨R8, eR8⟩ : ∃ z : RR, z = up2 R7 1 2 (R 1 3) := ⟨_, rfl⟩
        have h := h R8 eR8
        have hR := SR_u2 hR eR8
        refine wp_putR (pc' := 61) (k := 2) (R' := R8) (Or.inl ⟨_, rfl⟩) dX10_lay_58 vc9 (by decide) rfl rfl (tyX10_ok 2 (by decide)) lfX10_26 o_1 rfl eR8 ?_
        refine wp_aload_n (pc' := 62) (q := 0) (i := 0) rfl rfl dX10_lay_61 rfl ?_
        refine wp_getRc (pc' := 65) (k := 4) (j := 18) dX10_lay_62 vc9 (by decide) rfl lfX10_36 o_1 (r_1_4 hR) rfl ?_
        refine wp_iconst (pc' := 66) dX10_lay_65 rfl ?_
        obtain ⟨I9, eI9⟩ : ∃ z : II, z = up2 I1 18 4 0 := ⟨_, rfl⟩
        have h := h I9 eI9
        refine wp_putI (pc' := 69) (k := 4) (I' := I9) dX10_lay_66 vc4 (by decide) rfl rfl (tyX4_ok 4 (by decide)) lfX10_105 o_18 rfl eI9 ?_
        refine wp_aload_n (pc' := 70) (q := 0) (i := 0) rfl rfl dX10_lay_69 rfl ?_
        refine wp_iconst (pc' := 71) dX10_lay_70 rfl ?_
        obtain ⟨I10, eI10⟩ : ∃ z : II, z = up2 I9 1 6 0 := ⟨_, rfl⟩
        have h := h I10 eI10
        refine wp_putI (pc' := 74) (k := 6) (I' := I10) dX10_lay_71 vc9 (by decide) rfl rfl (tyX10_ok 6 (by decide)) lfX10_46 o_1 rfl eI10 ?_
        refine wp_aload_n (pc' := 75) (q := 0) (i := 0) rfl rfl dX10_lay_74 rfl ?_
        refine wp_getR (pc' := 78) (k := 2) dX10_lay_75 vc9 (by decide) rfl lfX10_26 o_1 rfl ?_
        obtain ⟨h11, h⟩ := h
        refine wp_getI (pc' := 81) (k := 5) dX10_lay_78 vc6 (by decide) rfl lfX10_106 h11 rfl ?_
        exact wp_ireturn dX10_lay_81 rfl rfl h
      · have h := h.2 hc
        exact wp_dropP (leP_d (leP_s leP_n)) h

set_option maxRecDepth 4000 in
theorem gX10_lay_40 {Q : QT} {I : II} {R : RR} (hR : SR R) 
    (h : Q (vI (-2)) I R) : wp (kN 89) mX10_lay Q 40 [none, none] [] I R 89 := by
  refine wp_bipush (pc' := 42) (by decide) dX10_lay_40 rfl ?_
  exact wp_ireturn dX10_lay_42 rfl rfl h

theorem sX10_person {Q : QT} {I : II} {R : RR} {a1 : Int} {a2 : Int} (h : wp (kN 89) mX10_person Q 0 [vR 1, vI a1, vI a2] [] I R 89) : Spec mX10_person [vR 1, vI a1, vI a2] I R 89 89 Q := Spec_of_wp pyX10_person rfl (Nat.le_of_ble_eq_true rfl) (Nat.le_refl _) (by decide) h

set_option maxRecDepth 4000 in
theorem gX10_person_0 {Q : QT} {I : II} {R : RR} (hR : SR R) {a1 : Int} {a2 : Int}
    (h : (isO 89 (R 1 2) 6) ∧
      (InI a1) ∧
      (InI (I (R 1 2) 5)) ∧
      ((0 ≤ a1 ∧ a1 < (I (R 1 2) 5) →
      (InI a2) ∧
      (((0 : Int) ≤ a2 ∧ a2 ≤ (2 : Int) →
      ((¬ a2 = 0 →
      ((¬ a2 = (1 : Int) →
      (isA 89 (R (R 1 2) 2) 1 20) ∧
      (0 ≤ a1 ∧ a1 < 20) ∧
      Q (vI (I (R (R 1 2) 2) a1.toNat)) I R) ∧ (a2 = (1 : Int) →
      (isA 89 (R (R 1 2) 1) 1 20) ∧
      (0 ≤ a1 ∧ a1 < 20) ∧
      Q (vI (I (R (R 1 2) 1) a1.toNat)) I R))) ∧ (a2 = 0 →
      (isA 89 (R (R 1 2) 0) 2 20) ∧
      (0 ≤ a1 ∧ a1 < 20) ∧
      (InI (I (R (R 1 2) 0) a1.toNat)) ∧
      (((I (R (R 1 2) 0) a1.toNat) = 0 →
      Q (vI 0) I R) ∧ (¬ (I (R (R 1 2) 0) a1.toNat) = 0 →
      Q (vI 1) I R))))) ∧ (¬ ((0 : Int) ≤ a2 ∧ a2 ≤ (2 : Int)) →
      wp (kN 89) mX10_person Q 20 [none, none, none] [] I R 89))) ∧ (¬ (0 ≤ a1 ∧ a1 < (I (R 1 2) 5)) →
      wp (kN 89) mX10_person Q 20 [none, none, none] [] I R 89))) : wp (kN 89) mX10_person Q 0 [vR 1, vI a1, vI a2] [] I R 89 := by
  refine wp_aload_n (pc' := 1) (q := 0) (i := 0) rfl rfl dX10_person_0 rfl ?_
  refine wp_getR (pc' := 4) (k := 2) dX10_person_1 vc9 (by decide) rfl lfX10_26 o_1 rfl ?_
  refine wp_iload_n (pc' := 5) (q := 1) (i := 1) rfl rfl dX10_person_4 rfl ?_
  obtain ⟨h2, h⟩ := h
  obtain ⟨h3, h⟩ := h
  obtain ⟨h4, h⟩ := h
  refine wp_callV (pc' := 8) (as := [vI a1]) (rest := []) (pX6_has (by decide) h2 h3 h4) dX10_person_5 rfl lkX10_109 okX6_has inX6_has seX6_has h2 vc6 ⟨Nat.le_of_ble_eq_true rfl, Nat.le_of_ble_eq_true rfl⟩ (Nat.le_of_ble_eq_true rfl) (Nat.le_refl _) (Nat.le_refl _) okP_eq okP_eq rfl (rvZ rfl (fun x1 I1 R1 hz1 hq1 => ?_))
  obtain ⟨eR1, eI1, ex1⟩ := hq1; subst eR1; subst eI1; cases ex1
  by_cases hc : 0 ≤ a1 ∧ a1 < (I (R 1 2) 5)
  · rw [if_pos hc]; have h := h.1 hc
    refine wp_if_eq (pc' := 11) (tgt := 20) ⟨by decide, by decide⟩ dX10_person_8 rfl rfl (fun hc => by exfalso; revert hc; decide) (fun hc => ?_)
    refine wp_iload_n (pc' := 12) (q := 2) (i := 2) rfl rfl dX10_person_11 rfl ?_
    refine wp_iconst (pc' := 13) dX10_person_12 rfl ?_
    refine wp_iconst (pc' := 14) dX10_person_13 rfl ?_
    obtain ⟨h6, h⟩ := h
    refine wp_callS (pc' := 17) (as := [vI a2, vI 0, vI 2]) (rest := []) (pX10_within (by decide) h6 ⟨by decide, by decide⟩ ⟨by decide, by decide⟩) dX10_person_14 rfl lkX10_84 okX10_within stX10_within ⟨Nat.le_of_ble_eq_true rfl, Nat.le_of_ble_eq_true rfl⟩ (Nat.le_of_ble_eq_true rfl) (Nat.le_refl _) (Nat.le_refl _) okP_eq okP_eq rfl (rvZ rfl (fun x5 I5 R5 hz5 hq5 => ?_))
    obtain ⟨eR5, eI5, ex5⟩ := hq5; subst eR5; subst eI5; cases ex5
    by_cases hc : (0 : Int) ≤ a2 ∧ a2 ≤ (2 : Int)
    · rw [if_pos hc]; have h := h.1 hc
      refine wp_if_ne (pc' := 20) (tgt := 22) ⟨by decide, by decide⟩ dX10_person_17 rfl rfl (fun hc => ?_) (fun hc => by exfalso; revert hc; decide)
      refine wp_iload_n (pc' := 23) (q := 2) (i := 2) rfl rfl dX10_person_22 rfl ?_
      refine wp_if_ne (pc' := 26) (tgt := 44) h6 dX10_person_23 rfl rfl (fun hc => ?_) (fun hc => ?_)
      · have h := h.1 hc
        refine wp_iload_n (pc' := 45) (q := 2) (i := 2) rfl rfl dX10_person_44 rfl ?_
        refine wp_iconst (pc' := 46) dX10_person_45 rfl ?_
        refine wp_icmp_ne (pc' := 49) (tgt := 61) h6 ⟨by decide, by decide⟩ dX10_person_46 rfl rfl (fun hc => ?_) (fun hc => ?_)
        · have h := h.1 hc
          refine wp_aload_n (pc' := 62) (q := 0) (i := 0) rfl rfl dX10_person_61 rfl ?_
          refine wp_getR (pc' := 65) (k := 2) dX10_person_62 vc9 (by decide) rfl lfX10_26 o_1 rfl ?_
          refine wp_getR (pc' := 68) (k := 2) dX10_person_65 vc6 (by decide) rfl lfX10_121 h2 rfl ?_
          refine wp_iload_n (pc' := 69) (q := 1) (i := 1) rfl rfl dX10_person_68 rfl ?_
          obtain ⟨h7, h⟩ := h
          obtain ⟨h8, h⟩ := h
          refine wp_iald (pc' := 70) (j := a1.toNat) dX10_person_69 h7 h8 rfl rfl ?_
          exact wp_ireturn dX10_person_70 rfl rfl h
        · have h := h.2 hc
          refine wp_aload_n (pc' := 50) (q := 0) (i := 0) rfl rfl dX10_person_49 rfl ?_
          refine wp_getR (pc' := 53) (k := 2) dX10_person_50 vc9 (by decide) rfl lfX10_26 o_1 rfl ?_
          refine wp_getR (pc' := 56) (k := 1) dX10_person_53 vc6 (by decide) rfl lfX10_117 h2 rfl ?_
          refine wp_iload_n (pc' := 57) (q := 1) (i := 1) rfl rfl dX10_person_56 rfl ?_
          obtain ⟨h9, h⟩ := h
          obtain ⟨h10, h⟩ := h
          refine wp_iald (pc' := 58) (j := a1.toNat) dX10_person_57 h9 h10 rfl rfl ?_
          refine wp_goto (tgt := 70) dX10_person_58 rfl ?_
          exact wp_ireturn dX10_person_70 rfl rfl h
      · have h := h.2 hc
        refine wp_aload_n (pc' := 27) (q := 0) (i := 0) rfl rfl dX10_person_26 rfl ?_
        refine wp_getR (pc' := 30) (k := 2) dX10_person_27 vc9 (by decide) rfl lfX10_26 o_1 rfl ?_
        refine wp_getR (pc' := 33) (k := 0) dX10_person_30 vc6 (by decide) rfl lfX10_113 h2 rfl ?_
        refine wp_iload_n (pc' := 34) (q := 1) (i := 1) rfl rfl dX10_person_33 rfl ?_
        obtain ⟨h11, h⟩ := h
        obtain ⟨h12, h⟩ := h
        refine wp_zald (pc' := 35) (j := a1.toNat) dX10_person_34 h11 h12 rfl rfl ?_
        obtain ⟨h13, h⟩ := h
        refine wp_if_eq (pc' := 38) (tgt := 42) h13 dX10_person_35 rfl rfl (fun hc => ?_) (fun hc => ?_)
        · have h := h.1 hc
          refine wp_iconst (pc' := 43) dX10_person_42 rfl ?_
          exact wp_ireturn dX10_person_43 rfl rfl h
        · have h := h.2 hc
          refine wp_iconst (pc' := 39) dX10_person_38 rfl ?_
          refine wp_goto (tgt := 43) dX10_person_39 rfl ?_
          exact wp_ireturn dX10_person_43 rfl rfl h
    · rw [if_neg hc]; have h := h.2 hc
      refine wp_if_ne (pc' := 20) (tgt := 22) ⟨by decide, by decide⟩ dX10_person_17 rfl rfl (fun hc => by exfalso; revert hc; decide) (fun hc => ?_)
      exact wp_dropP (leP_d (leP_d (leP_d leP_n))) h
  · rw [if_neg hc]; have h := h.2 hc
    refine wp_if_eq (pc' := 11) (tgt := 20) ⟨by decide, by decide⟩ dX10_person_8 rfl rfl (fun hc => ?_) (fun hc => by exfalso; revert hc; decide)
    exact wp_dropP (leP_d (leP_d (leP_d leP_n))) h

set_option maxRecDepth 4000 in
theorem gX10_person_20 {Q : QT} {I : II} {R : RR} (hR : SR R) 
    (h : Q (vI (-1)) I R) : wp (kN 89) mX10_person Q 20 [none, none, none] [] I R 89 := by
  refine wp_iconst (pc' := 21) dX10_person_20 rfl ?_
  exact wp_ireturn dX10_person_21 rfl rfl h

theorem sX10_law {Q : QT} {I : II} {R : RR} {a1 : Int} {a2 : Int} (h : wp (kN 89) mX10_law Q 0 [vR 1, vI a1, vI a2, none] [] I R 89) : Spec mX10_law [vR 1, vI a1, vI a2] I R 89 89 Q := Spec_of_wp pyX10_law rfl (Nat.le_of_ble_eq_true rfl) (Nat.le_refl _) (by decide) h

set_option maxRecDepth 4000 in
theorem gX10_law_0 {Q : QT} {I : II} {R : RR} (hR : SR R) {a1 : Int} {a2 : Int}
    (h : (isO 89 (R 1 2) 6) ∧
      (InI a1) ∧
      (InI (I (R 1 2) 5)) ∧
      ((0 ≤ a1 ∧ a1 < (I (R 1 2) 5) →
      (InI a2) ∧
      (((0 : Int) ≤ a2 ∧ a2 ≤ (5 : Int) →
      (isA 89 (R (R 1 2) 2) 1 20) ∧
      (0 ≤ a1 ∧ a1 < 20) ∧
      (∀ I9 : II, I9 = up2 I (R (R 1 2) 2) (a1.toNat) a2 →
      Q (vI (I (R (R 1 2) 2) a1.toNat)) I9 R)) ∧ (¬ ((0 : Int) ≤ a2 ∧ a2 ≤ (5 : Int)) →
      wp (kN 89) mX10_law Q 20 [none, none, none, none] [] I R 89))) ∧ (¬ (0 ≤ a1 ∧ a1 < (I (R 1 2) 5)) →
      wp (kN 89) mX10_law Q 20 [none, none, none, none] [] I R 89))) : wp (kN 89) mX10_law Q 0 [vR 1, vI a1, vI a2, none] [] I R 89 := by
  refine wp_aload_n (pc' := 1) (q := 0) (i := 0) rfl rfl dX10_law_0 rfl ?_
  refine wp_getR (pc' := 4) (k := 2) dX10_law_1 vc9 (by decide) rfl lfX10_26 o_1 rfl ?_
  refine wp_iload_n (pc' := 5) (q := 1) (i := 1) rfl rfl dX10_law_4 rfl ?_
  obtain ⟨h2, h⟩ := h
  obtain ⟨h3, h⟩ := h
  obtain ⟨h4, h⟩ := h
  refine wp_callV (pc' := 8) (as := [vI a1]) (rest := []) (pX6_has (by decide) h2 h3 h4) dX10_law_5 rfl lkX10_109 okX6_has inX6_has seX6_has h2 vc6 ⟨Nat.le_of_ble_eq_true rfl, Nat.le_of_ble_eq_true rfl⟩ (Nat.le_of_ble_eq_true rfl) (Nat.le_refl _) (Nat.le_refl _) okP_eq okP_eq rfl (rvZ rfl (fun x1 I1 R1 hz1 hq1 => ?_))
  obtain ⟨eR1, eI1, ex1⟩ := hq1; subst eR1; subst eI1; cases ex1
  by_cases hc : 0 ≤ a1 ∧ a1 < (I (R 1 2) 5)
  · rw [if_pos hc]; have h := h.1 hc
    refine wp_if_eq (pc' := 11) (tgt := 20) ⟨by decide, by decide⟩ dX10_law_8 rfl rfl (fun hc => by exfalso; revert hc; decide) (fun hc => ?_)
    refine wp_iload_n (pc' := 12) (q := 2) (i := 2) rfl rfl dX10_law_11 rfl ?_
    refine wp_iconst (pc' := 13) dX10_law_12 rfl ?_
    refine wp_iconst (pc' := 14) dX10_law_13 rfl ?_
    obtain ⟨h6, h⟩ := h
    refine wp_callS (pc' := 17) (as := [vI a2, vI 0, vI 5]) (rest := []) (pX10_within (by decide) h6 ⟨by decide, by decide⟩ ⟨by decide, by decide⟩) dX10_law_14 rfl lkX10_84 okX10_within stX10_within ⟨Nat.le_of_ble_eq_true rfl, Nat.le_of_ble_eq_true rfl⟩ (Nat.le_of_ble_eq_true rfl) (Nat.le_refl _) (Nat.le_refl _) okP_eq okP_eq rfl (rvZ rfl (fun x5 I5 R5 hz5 hq5 => ?_))
    obtain ⟨eR5, eI5, ex5⟩ := hq5; subst eR5; subst eI5; cases ex5
    by_cases hc : (0 : Int) ≤ a2 ∧ a2 ≤ (5 : Int)
    · rw [if_pos hc]; have h := h.1 hc
      refine wp_if_ne (pc' := 20) (tgt := 22) ⟨by decide, by decide⟩ dX10_law_17 rfl rfl (fun hc => ?_) (fun hc => by exfalso; revert hc; decide)
      refine wp_aload_n (pc' := 23) (q := 0) (i := 0) rfl rfl dX10_law_22 rfl ?_
      refine wp_getR (pc' := 26) (k := 2) dX10_law_23 vc9 (by decide) rfl lfX10_26 o_1 rfl ?_
      refine wp_getR (pc' := 29) (k := 2) dX10_law_26 vc6 (by decide) rfl lfX10_121 h2 rfl ?_
      refine wp_iload_n (pc' := 30) (q := 1) (i := 1) rfl rfl dX10_law_29 rfl ?_
      obtain ⟨h7, h⟩ := h
      obtain ⟨h8, h⟩ := h
      refine wp_iald (pc' := 31) (j := a1.toNat) dX10_law_30 h7 h8 rfl rfl ?_
      refine wp_istore_n (pc' := 32) (q := 3) (i := 3) (L' := [vR 1, vI a1, vI a2, vI (I (R (R 1 2) 2) a1.toNat)]) rfl (by decide) rfl dX10_law_31 rfl rfl ?_
      refine wp_aload_n (pc' := 33) (q := 0) (i := 0) rfl rfl dX10_law_32 rfl ?_
      refine wp_getR (pc' := 36) (k := 2) dX10_law_33 vc9 (by decide) rfl lfX10_26 o_1 rfl ?_
      refine wp_getR (pc' := 39) (k := 2) dX10_law_36 vc6 (by decide) rfl lfX10_121 h2 rfl ?_
      refine wp_iload_n (pc' := 40) (q := 1) (i := 1) rfl rfl dX10_law_39 rfl ?_
      refine wp_iload_n (pc' := 41) (q := 2) (i := 2) rfl rfl dX10_law_40 rfl ?_
      obtain ⟨I9, eI9⟩ : ∃ z : II, z = up2 I (R (R 1 2) 2) (a1.toNat) a2 := ⟨_, rfl⟩
      have h := h I9 eI9
      refine wp_iast (pc' := 42) (j := a1.toNat) (I' := I9) dX10_law_41 h7 h8 rfl rfl eI9 ?_
      refine wp_iload_n (pc' := 43) (q := 3) (i := 3) rfl rfl dX10_law_42 rfl ?_
      exact wp_ireturn dX10_law_43 rfl rfl h
    · rw [if_neg hc]; have h := h.2 hc
      refine wp_if_ne (pc' := 20) (tgt := 22) ⟨by decide, by decide⟩ dX10_law_17 rfl rfl (fun hc => by exfalso; revert hc; decide) (fun hc => ?_)
      exact wp_dropP (leP_d (leP_d (leP_d (leP_s leP_n)))) h
  · rw [if_neg hc]; have h := h.2 hc
    refine wp_if_eq (pc' := 11) (tgt := 20) ⟨by decide, by decide⟩ dX10_law_8 rfl rfl (fun hc => ?_) (fun hc => by exfalso; revert hc; decide)
    exact wp_dropP (leP_d (leP_d (leP_d (leP_s leP_n)))) h

set_option maxRecDepth 4000 in
theorem gX10_law_20 {Q : QT} {I : II} {R : RR} (hR : SR R) 
    (h : Q (vI (-1)) I R) : wp (kN 89) mX10_law Q 20 [none, none, none, none] [] I R 89 := by
  refine wp_iconst (pc' := 21) dX10_law_20 rfl ?_
  exact wp_ireturn dX10_law_21 rfl rfl h

theorem sX10_lines {Q : QT} {I : II} {R : RR} {a1 : Int} (h : wp (kN 89) mX10_lines Q 0 [vR 1, vI a1] [] I R 89) : Spec mX10_lines [vR 1, vI a1] I R 89 89 Q := Spec_of_wp pyX10_lines rfl (Nat.le_of_ble_eq_true rfl) (Nat.le_refl _) (by decide) h

set_option maxRecDepth 4000 in
theorem gX10_lines_0 {Q : QT} {I : II} {R : RR} (hR : SR R) {a1 : Int}
    (h : (InI a1) ∧
      (((0 : Int) ≤ a1 ∧ a1 ≤ (4 : Int) →
      (isO 89 (R 1 2) 6) ∧
      (∃ Q4 : QT, Spec mX3_meet [vR 24, vR (R 1 2), vI (I (R 1 2) 9)] I R 89 89 Q4 ∧ (∀ I4 R4, Q4 none I4 R4 →
      R = R4 ∧ ((¬ a1 = 0 →
      ((¬ a1 = (1 : Int) →
      (InI (I4 24 2)) ∧
      ((¬ (I4 24 2) = 0 →
      ((¬ a1 = (4 : Int) →
      ((¬ a1 = (2 : Int) →
      Q (vI (I4 24 5)) I4 R) ∧ (a1 = (2 : Int) →
      Q (vI (I4 24 4)) I4 R))) ∧ (a1 = (4 : Int) →
      (∃ Q6 : QT, Spec mX3_meet [vR 31, vR (R 1 2), vI 0] I4 R 89 89 Q6 ∧ (∀ I6 R6, Q6 none I6 R6 →
      R = R6 ∧ (InI (I6 31 2)) ∧
      ((¬ (I6 31 2) = 0 →
      Q (vI ((I6 24 4) - (I6 31 4))) I6 R) ∧ ((I6 31 2) = 0 →
      Q (vI (-4)) I6 R))))))) ∧ ((I4 24 2) = 0 →
      Q (vI (-4)) I4 R))) ∧ (a1 = (1 : Int) →
      Q (vI (I4 24 3)) I4 R))) ∧ (a1 = 0 →
      Q (vI (I4 24 2)) I4 R))))) ∧ (¬ ((0 : Int) ≤ a1 ∧ a1 ≤ (4 : Int)) →
      Q (vI (-1)) I R))) : wp (kN 89) mX10_lines Q 0 [vR 1, vI a1] [] I R 89 := by
  refine wp_iload_n (pc' := 1) (q := 1) (i := 1) rfl rfl dX10_lines_0 rfl ?_
  refine wp_iconst (pc' := 2) dX10_lines_1 rfl ?_
  refine wp_iconst (pc' := 3) dX10_lines_2 rfl ?_
  obtain ⟨h2, h⟩ := h
  refine wp_callS (pc' := 6) (as := [vI a1, vI 0, vI 4]) (rest := []) (pX10_within (by decide) h2 ⟨by decide, by decide⟩ ⟨by decide, by decide⟩) dX10_lines_3 rfl lkX10_84 okX10_within stX10_within ⟨Nat.le_of_ble_eq_true rfl, Nat.le_of_ble_eq_true rfl⟩ (Nat.le_of_ble_eq_true rfl) (Nat.le_refl _) (Nat.le_refl _) okP_eq okP_eq rfl (rvZ rfl (fun x1 I1 R1 hz1 hq1 => ?_))
  obtain ⟨eR1, eI1, ex1⟩ := hq1; subst eR1; subst eI1; cases ex1
  by_cases hc : (0 : Int) ≤ a1 ∧ a1 ≤ (4 : Int)
  · rw [if_pos hc]; have h := h.1 hc
    refine wp_if_ne (pc' := 9) (tgt := 11) ⟨by decide, by decide⟩ dX10_lines_6 rfl rfl (fun hc => ?_) (fun hc => by exfalso; revert hc; decide)
    refine wp_aload_n (pc' := 12) (q := 0) (i := 0) rfl rfl dX10_lines_11 rfl ?_
    refine wp_getRc (pc' := 15) (k := 7) (j := 24) dX10_lines_12 vc9 (by decide) rfl lfX10_53 o_1 (r_1_7 hR) rfl ?_
    refine wp_aload_n (pc' := 16) (q := 0) (i := 0) rfl rfl dX10_lines_15 rfl ?_
    refine wp_getR (pc' := 19) (k := 2) dX10_lines_16 vc9 (by decide) rfl lfX10_26 o_1 rfl ?_
    refine wp_aload_n (pc' := 20) (q := 0) (i := 0) rfl rfl dX10_lines_19 rfl ?_
    refine wp_getR (pc' := 23) (k := 2) dX10_lines_20 vc9 (by decide) rfl lfX10_26 o_1 rfl ?_
    obtain ⟨h3, h⟩ := h
    refine wp_getI (pc' := 26) (k := 9) dX10_lines_23 vc6 (by decide) rfl lfX10_124 h3 rfl ?_
    obtain ⟨Q4, hs4, h⟩ := h
    refine wp_callV (pc' := 29) (as := [vR (R 1 2), vI (I (R 1 2) 9)]) (rest := []) hs4 dX10_lines_26 rfl lkX10_127 okX3_meet inX3_meet seX3_meet o_24 vc3 ⟨Nat.le_of_ble_eq_true rfl, Nat.le_of_ble_eq_true rfl⟩ (Nat.le_of_ble_eq_true rfl) (Nat.le_refl _) (Nat.le_refl _) okP_eq okP_eq rfl (rvV rfl (fun I4 R4 hq4 => ?_))
    obtain ⟨hRR4, h⟩ := h I4 R4 hq4; subst hRR4
    refine wp_iload_n (pc' := 30) (q := 1) (i := 1) rfl rfl dX10_lines_29 rfl ?_
    refine wp_if_ne (pc' := 33) (tgt := 41) h2 dX10_lines_30 rfl rfl (fun hc => ?_) (fun hc => ?_)
    · have h := h.1 hc
      refine wp_iload_n (pc' := 42) (q := 1) (i := 1) rfl rfl dX10_lines_41 rfl ?_
      refine wp_iconst (pc' := 43) dX10_lines_42 rfl ?_
      refine wp_icmp_ne (pc' := 46) (tgt := 54) h2 ⟨by decide, by decide⟩ dX10_lines_43 rfl rfl (fun hc => ?_) (fun hc => ?_)
      · have h := h.1 hc
        refine wp_aload_n (pc' := 55) (q := 0) (i := 0) rfl rfl dX10_lines_54 rfl ?_
        refine wp_getRc (pc' := 58) (k := 7) (j := 24) dX10_lines_55 vc9 (by decide) rfl lfX10_53 o_1 (r_1_7 hR) rfl ?_
        refine wp_getI (pc' := 61) (k := 2) dX10_lines_58 vc3 (by decide) rfl lfX10_131 o_24 rfl ?_
        obtain ⟨h5, h⟩ := h
        refine wp_if_ne (pc' := 64) (tgt := 67) h5 dX10_lines_61 rfl rfl (fun hc => ?_) (fun hc => ?_)
        · have h := h.1 hc
          refine wp_iload_n (pc' := 68) (q := 1) (i := 1) rfl rfl dX10_lines_67 rfl ?_
          refine wp_iconst (pc' := 69) dX10_lines_68 rfl ?_
          refine wp_icmp_ne (pc' := 72) (tgt := 115) h2 ⟨by decide, by decide⟩ dX10_lines_69 rfl rfl (fun hc => ?_) (fun hc => ?_)
          · have h := h.1 hc
            refine wp_iload_n (pc' := 116) (q := 1) (i := 1) rfl rfl dX10_lines_115 rfl ?_
            refine wp_iconst (pc' := 117) dX10_lines_116 rfl ?_
            refine wp_icmp_ne (pc' := 120) (tgt := 130) h2 ⟨by decide, by decide⟩ dX10_lines_117 rfl rfl (fun hc => ?_) (fun hc => ?_)
            · have h := h.1 hc
              refine wp_aload_n (pc' := 131) (q := 0) (i := 0) rfl rfl dX10_lines_130 rfl ?_
              refine wp_getRc (pc' := 134) (k := 7) (j := 24) dX10_lines_131 vc9 (by decide) rfl lfX10_53 o_1 (r_1_7 hR) rfl ?_
              refine wp_getI (pc' := 137) (k := 5) dX10_lines_134 vc3 (by decide) rfl lfX10_140 o_24 rfl ?_
              exact wp_ireturn dX10_lines_137 rfl rfl h
            · have h := h.2 hc
              refine wp_aload_n (pc' := 121) (q := 0) (i := 0) rfl rfl dX10_lines_120 rfl ?_
              refine wp_getRc (pc' := 124) (k := 7) (j := 24) dX10_lines_121 vc9 (by decide) rfl lfX10_53 o_1 (r_1_7 hR) rfl ?_
              refine wp_getI (pc' := 127) (k := 4) dX10_lines_124 vc3 (by decide) rfl lfX10_137 o_24 rfl ?_
              refine wp_goto (tgt := 137) dX10_lines_127 rfl ?_
              exact wp_ireturn dX10_lines_137 rfl rfl h
          · have h := h.2 hc
            refine wp_aload_n (pc' := 73) (q := 0) (i := 0) rfl rfl dX10_lines_72 rfl ?_
            refine wp_getRc (pc' := 76) (k := 8) (j := 31) dX10_lines_73 vc9 (by decide) rfl lfX10_57 o_1 (r_1_8 hR) rfl ?_
            refine wp_aload_n (pc' := 77) (q := 0) (i := 0) rfl rfl dX10_lines_76 rfl ?_
            refine wp_getR (pc' := 80) (k := 2) dX10_lines_77 vc9 (by decide) rfl lfX10_26 o_1 rfl ?_
            refine wp_iconst (pc' := 81) dX10_lines_80 rfl ?_
            obtain ⟨Q6, hs6, h⟩ := h
            refine wp_callV (pc' := 84) (as := [vR (R 1 2), vI 0]) (rest := []) hs6 dX10_lines_81 rfl lkX10_127 okX3_meet inX3_meet seX3_meet o_31 vc3 ⟨Nat.le_of_ble_eq_true rfl, Nat.le_of_ble_eq_true rfl⟩ (Nat.le_of_ble_eq_true rfl) (Nat.le_refl _) (Nat.le_refl _) okP_eq okP_eq rfl (rvV rfl (fun I6 R6 hq6 => ?_))
            obtain ⟨hRR6, h⟩ := h I6 R6 hq6; subst hRR6
            refine wp_aload_n (pc' := 85) (q := 0) (i := 0) rfl rfl dX10_lines_84 rfl ?_
            refine wp_getRc (pc' := 88) (k := 8) (j := 31) dX10_lines_85 vc9 (by decide) rfl lfX10_57 o_1 (r_1_8 hR) rfl ?_
            refine wp_getI (pc' := 91) (k := 2) dX10_lines_88 vc3 (by decide) rfl lfX10_131 o_31 rfl ?_
            obtain ⟨h7, h⟩ := h
            refine wp_if_ne (pc' := 94) (tgt := 99) h7 dX10_lines_91 rfl rfl (fun hc => ?_) (fun hc => ?_)
            · have h := h.1 hc
              refine wp_aload_n (pc' := 100) (q := 0) (i := 0) rfl rfl dX10_lines_99 rfl ?_
              refine wp_getRc (pc' := 103) (k := 7) (j := 24) dX10_lines_100 vc9 (by decide) rfl lfX10_53 o_1 (r_1_7 hR) rfl ?_
              refine wp_getI (pc' := 106) (k := 4) dX10_lines_103 vc3 (by decide) rfl lfX10_137 o_24 rfl ?_
              refine wp_aload_n (pc' := 107) (q := 0) (i := 0) rfl rfl dX10_lines_106 rfl ?_
              refine wp_getRc (pc' := 110) (k := 8) (j := 31) dX10_lines_107 vc9 (by decide) rfl lfX10_57 o_1 (r_1_8 hR) rfl ?_
              refine wp_getI (pc' := 113) (k := 4) dX10_lines_110 vc3 (by decide) rfl lfX10_137 o_31 rfl ?_
              refine wp_isub (pc' := 114) dX10_lines_113 rfl ?_
              exact wp_ireturn dX10_lines_114 rfl rfl h
            · have h := h.2 hc
              refine wp_bipush (pc' := 96) (by decide) dX10_lines_94 rfl ?_
              refine wp_goto (tgt := 114) dX10_lines_96 rfl ?_
              exact wp_ireturn dX10_lines_114 rfl rfl h
        · have h := h.2 hc
          refine wp_bipush (pc' := 66) (by decide) dX10_lines_64 rfl ?_
          exact wp_ireturn dX10_lines_66 rfl rfl h
      · have h := h.2 hc
        refine wp_aload_n (pc' := 47) (q := 0) (i := 0) rfl rfl dX10_lines_46 rfl ?_
        refine wp_getRc (pc' := 50) (k := 7) (j := 24) dX10_lines_47 vc9 (by decide) rfl lfX10_53 o_1 (r_1_7 hR) rfl ?_
        refine wp_getI (pc' := 53) (k := 3) dX10_lines_50 vc3 (by decide) rfl lfX10_134 o_24 rfl ?_
        exact wp_ireturn dX10_lines_53 rfl rfl h
    · have h := h.2 hc
      refine wp_aload_n (pc' := 34) (q := 0) (i := 0) rfl rfl dX10_lines_33 rfl ?_
      refine wp_getRc (pc' := 37) (k := 7) (j := 24) dX10_lines_34 vc9 (by decide) rfl lfX10_53 o_1 (r_1_7 hR) rfl ?_
      refine wp_getI (pc' := 40) (k := 2) dX10_lines_37 vc3 (by decide) rfl lfX10_131 o_24 rfl ?_
      exact wp_ireturn dX10_lines_40 rfl rfl h
  · rw [if_neg hc]; have h := h.2 hc
    refine wp_if_ne (pc' := 9) (tgt := 11) ⟨by decide, by decide⟩ dX10_lines_6 rfl rfl (fun hc => by exfalso; revert hc; decide) (fun hc => ?_)
    refine wp_iconst (pc' := 10) dX10_lines_9 rfl ?_
    exact wp_ireturn dX10_lines_10 rfl rfl h

theorem sX10_served {Q : QT} {I : II} {R : RR} {a1 : Int} (h : wp (kN 89) mX10_served Q 0 [vR 1, vI a1, none, none, none, none, none] [] I R 89) : Spec mX10_served [vR 1, vI a1] I R 89 89 Q := Spec_of_wp pyX10_served rfl (Nat.le_of_ble_eq_true rfl) (Nat.le_refl _) (by decide) h

set_option maxRecDepth 4000 in
theorem gX10_served_0 {Q : QT} {I : II} {R : RR} (hR : SR R) {a1 : Int}
    (h : (InI a1) ∧
      (((0 : Int) ≤ a1 ∧ a1 ≤ (3 : Int) →
      (isO 89 (R 1 2) 6) ∧
      (∃ Q4 : QT, Spec mX3_meet [vR 24, vR (R 1 2), vI (I (R 1 2) 9)] I R 89 89 Q4 ∧ (∀ I4 R4, Q4 none I4 R4 →
      R = R4 ∧ (InI (I4 24 2)) ∧
      (((I4 24 2) ≤ 0 →
      wp (kN 89) mX10_served Q 196 [vR 1, vI a1, vI (I4 24 2), vI (I4 24 3), vI (I4 24 3), none, none] [] I4 R 89) ∧ (¬ (I4 24 2) ≤ 0 →
      (InI (I4 (R 1 2) 10)) ∧
      (InI (I4 24 4)) ∧
      (((I4 24 4) ≤ (I4 (R 1 2) 10) →
      wp (kN 89) mX10_served Q 196 [vR 1, vI a1, vI (I4 24 2), vI (I4 24 3), vI (I4 24 3), none, none] [] I4 R 89) ∧ (¬ (I4 24 4) ≤ (I4 (R 1 2) 10) →
      (∃ Q8 : QT, Spec mX2_ahead [vR 25, vI (I4 (R 1 2) 10)] I4 R 89 89 Q8 ∧ (∀ x8 I8 R8, Q8 (vI x8) I8 R8 →
      R = R8 ∧ (∃ Q9 : QT, Spec mX2_ahead [vR 28, vI ((I8 (R 1 2) 10) - (I8 (R 1 2) 9))] I8 R 89 89 Q9 ∧ (∀ x9 I9 R9, Q9 (vI x9) I9 R9 →
      R = R9 ∧ (InI x8) ∧
      (InI x9) ∧
      (∃ Q12 : QT, Spec mX2_sum [vR 25, vI 0, vI (min x8 x9)] I9 R 89 89 Q12 ∧ (∀ x12 I12 R12, Q12 (vI x12) I12 R12 →
      R = R12 ∧ (∃ Q13 : QT, Spec mX2_sum [vR 28, vI 0, vI (min x8 x9)] I12 R 89 89 Q13 ∧ (∀ x13 I13 R13, Q13 (vI x13) I13 R13 →
      R = R13 ∧ (∃ Q14 : QT, Spec mX2_sum [vR 25, vI (x8 - (min x8 x9)), vI x8] I13 R 89 89 Q14 ∧ (∀ x14 I14 R14, Q14 (vI x14) I14 R14 →
      R = R14 ∧ (∃ Q15 : QT, Spec mX2_sum [vR 28, vI (x9 - (min x8 x9)), vI x9] I14 R 89 89 Q15 ∧ (∀ x15 I15 R15, Q15 (vI x15) I15 R15 →
      R = R15 ∧ wp (kN 89) mX10_served Q 196 [vR 1, vI a1, vI (min x8 x9), vI (x12 - x13), vI (x14 - x15), none, none] [] I15 R 89))))))))))))))))))) ∧ (¬ ((0 : Int) ≤ a1 ∧ a1 ≤ (3 : Int)) →
      Q (vI (-1)) I R))) : wp (kN 89) mX10_served Q 0 [vR 1, vI a1, none, none, none, none, none] [] I R 89 := by
  refine wp_iload_n (pc' := 1) (q := 1) (i := 1) rfl rfl dX10_served_0 rfl ?_
  refine wp_iconst (pc' := 2) dX10_served_1 rfl ?_
  refine wp_iconst (pc' := 3) dX10_served_2 rfl ?_
  obtain ⟨h2, h⟩ := h
  refine wp_callS (pc' := 6) (as := [vI a1, vI 0, vI 3]) (rest := []) (pX10_within (by decide) h2 ⟨by decide, by decide⟩ ⟨by decide, by decide⟩) dX10_served_3 rfl lkX10_84 okX10_within stX10_within ⟨Nat.le_of_ble_eq_true rfl, Nat.le_of_ble_eq_true rfl⟩ (Nat.le_of_ble_eq_true rfl) (Nat.le_refl _) (Nat.le_refl _) okP_eq okP_eq rfl (rvZ rfl (fun x1 I1 R1 hz1 hq1 => ?_))
  obtain ⟨eR1, eI1, ex1⟩ := hq1; subst eR1; subst eI1; cases ex1
  by_cases hc : (0 : Int) ≤ a1 ∧ a1 ≤ (3 : Int)
  · rw [if_pos hc]; have h := h.1 hc
    refine wp_if_ne (pc' := 9) (tgt := 11) ⟨by decide, by decide⟩ dX10_served_6 rfl rfl (fun hc => ?_) (fun hc => by exfalso; revert hc; decide)
    refine wp_aload_n (pc' := 12) (q := 0) (i := 0) rfl rfl dX10_served_11 rfl ?_
    refine wp_getRc (pc' := 15) (k := 7) (j := 24) dX10_served_12 vc9 (by decide) rfl lfX10_53 o_1 (r_1_7 hR) rfl ?_
    refine wp_aload_n (pc' := 16) (q := 0) (i := 0) rfl rfl dX10_served_15 rfl ?_
    refine wp_getR (pc' := 19) (k := 2) dX10_served_16 vc9 (by decide) rfl lfX10_26 o_1 rfl ?_
    refine wp_aload_n (pc' := 20) (q := 0) (i := 0) rfl rfl dX10_served_19 rfl ?_
    refine wp_getR (pc' := 23) (k := 2) dX10_served_20 vc9 (by decide) rfl lfX10_26 o_1 rfl ?_
    obtain ⟨h3, h⟩ := h
    refine wp_getI (pc' := 26) (k := 9) dX10_served_23 vc6 (by decide) rfl lfX10_124 h3 rfl ?_
    obtain ⟨Q4, hs4, h⟩ := h
    refine wp_callV (pc' := 29) (as := [vR (R 1 2), vI (I (R 1 2) 9)]) (rest := []) hs4 dX10_served_26 rfl lkX10_127 okX3_meet inX3_meet seX3_meet o_24 vc3 ⟨Nat.le_of_ble_eq_true rfl, Nat.le_of_ble_eq_true rfl⟩ (Nat.le_of_ble_eq_true rfl) (Nat.le_refl _) (Nat.le_refl _) okP_eq okP_eq rfl (rvV rfl (fun I4 R4 hq4 => ?_))
    obtain ⟨hRR4, h⟩ := h I4 R4 hq4; subst hRR4
    refine wp_aload_n (pc' := 30) (q := 0) (i := 0) rfl rfl dX10_served_29 rfl ?_
    refine wp_getRc (pc' := 33) (k := 7) (j := 24) dX10_served_30 vc9 (by decide) rfl lfX10_53 o_1 (r_1_7 hR) rfl ?_
    refine wp_getI (pc' := 36) (k := 2) dX10_served_33 vc3 (by decide) rfl lfX10_131 o_24 rfl ?_
    refine wp_istore_n (pc' := 37) (q := 2) (i := 2) (L' := [vR 1, vI a1, vI (I4 24 2), none, none, none, none]) rfl (by decide) rfl dX10_served_36 rfl rfl ?_
    refine wp_aload_n (pc' := 38) (q := 0) (i := 0) rfl rfl dX10_served_37 rfl ?_
    refine wp_getRc (pc' := 41) (k := 7) (j := 24) dX10_served_38 vc9 (by decide) rfl lfX10_53 o_1 (r_1_7 hR) rfl ?_
    refine wp_getI (pc' := 44) (k := 3) dX10_served_41 vc3 (by decide) rfl lfX10_134 o_24 rfl ?_
    refine wp_istore_n (pc' := 45) (q := 3) (i := 3) (L' := [vR 1, vI a1, vI (I4 24 2), vI (I4 24 3), none, none, none]) rfl (by decide) rfl dX10_served_44 rfl rfl ?_
    refine wp_aload_n (pc' := 46) (q := 0) (i := 0) rfl rfl dX10_served_45 rfl ?_
    refine wp_getRc (pc' := 49) (k := 7) (j := 24) dX10_served_46 vc9 (by decide) rfl lfX10_53 o_1 (r_1_7 hR) rfl ?_
    refine wp_getI (pc' := 52) (k := 3) dX10_served_49 vc3 (by decide) rfl lfX10_134 o_24 rfl ?_
    refine wp_istore (pc' := 54) (i := 4) (L' := [vR 1, vI a1, vI (I4 24 2), vI (I4 24 3), vI (I4 24 3), none, none]) (by decide) rfl dX10_served_52 rfl rfl ?_
    refine wp_aload_n (pc' := 55) (q := 0) (i := 0) rfl rfl dX10_served_54 rfl ?_
    refine wp_getRc (pc' := 58) (k := 7) (j := 24) dX10_served_55 vc9 (by decide) rfl lfX10_53 o_1 (r_1_7 hR) rfl ?_
    refine wp_getI (pc' := 61) (k := 2) dX10_served_58 vc3 (by decide) rfl lfX10_131 o_24 rfl ?_
    obtain ⟨h5, h⟩ := h
    refine wp_if_le (pc' := 64) (tgt := 196) h5 dX10_served_61 rfl rfl (fun hc => ?_) (fun hc => ?_)
    · have h := h.1 hc
      exact h
    · have h := h.2 hc
      refine wp_aload_n (pc' := 65) (q := 0) (i := 0) rfl rfl dX10_served_64 rfl ?_
      refine wp_getR (pc' := 68) (k := 2) dX10_served_65 vc9 (by decide) rfl lfX10_26 o_1 rfl ?_
      refine wp_getI (pc' := 71) (k := 10) dX10_served_68 vc6 (by decide) rfl lfX10_143 h3 rfl ?_
      refine wp_aload_n (pc' := 72) (q := 0) (i := 0) rfl rfl dX10_served_71 rfl ?_
      refine wp_getRc (pc' := 75) (k := 7) (j := 24) dX10_served_72 vc9 (by decide) rfl lfX10_53 o_1 (r_1_7 hR) rfl ?_
      refine wp_getI (pc' := 78) (k := 4) dX10_served_75 vc3 (by decide) rfl lfX10_137 o_24 rfl ?_
      obtain ⟨h6, h⟩ := h
      obtain ⟨h7, h⟩ := h
      refine wp_icmp_ge (pc' := 81) (tgt := 196) h6 h7 dX10_served_78 rfl rfl (fun hc => ?_) (fun hc => ?_)
      · have h := h.1 hc
        exact h
      · have h := h.2 hc
        refine wp_aload_n (pc' := 82) (q := 0) (i := 0) rfl rfl dX10_served_81 rfl ?_
        refine wp_getRc (pc' := 85) (k := 7) (j := 24) dX10_served_82 vc9 (by decide) rfl lfX10_53 o_1 (r_1_7 hR) rfl ?_
        refine wp_getRc (pc' := 88) (k := 0) (j := 25) dX10_served_85 vc3 (by decide) rfl lfX10_146 o_24 (r_24_0 hR) rfl ?_
        refine wp_aload_n (pc' := 89) (q := 0) (i := 0) rfl rfl dX10_served_88 rfl ?_
        refine wp_getR (pc' := 92) (k := 2) dX10_served_89 vc9 (by decide) rfl lfX10_26 o_1 rfl ?_
        refine wp_getI (pc' := 95) (k := 10) dX10_served_92 vc6 (by decide) rfl lfX10_143 h3 rfl ?_
        obtain ⟨Q8, hs8, h⟩ := h
        refine wp_callV (pc' := 98) (as := [vI (I4 (R 1 2) 10)]) (rest := []) hs8 dX10_served_95 rfl lkX10_149 okX2_ahead inX2_ahead seX2_ahead o_25 vc2 ⟨Nat.le_of_ble_eq_true rfl, Nat.le_of_ble_eq_true rfl⟩ (Nat.le_of_ble_eq_true rfl) (Nat.le_refl _) (Nat.le_refl _) okP_eq okP_eq rfl (rvI rfl (fun x8 I8 R8 hq8 => ?_))
        obtain ⟨hRR8, h⟩ := h x8 I8 R8 hq8; subst hRR8
        refine wp_istore (pc' := 100) (i := 5) (L' := [vR 1, vI a1, vI (I4 24 2), vI (I4 24 3), vI (I4 24 3), vI x8, none]) (by decide) rfl dX10_served_98 rfl rfl ?_
        refine wp_aload_n (pc' := 101) (q := 0) (i := 0) rfl rfl dX10_served_100 rfl ?_
        refine wp_getRc (pc' := 104) (k := 7) (j := 24) dX10_served_101 vc9 (by decide) rfl lfX10_53 o_1 (r_1_7 hR) rfl ?_
        refine wp_getRc (pc' := 107) (k := 1) (j := 28) dX10_served_104 vc3 (by decide) rfl lfX10_155 o_24 (r_24_1 hR) rfl ?_
        refine wp_aload_n (pc' := 108) (q := 0) (i := 0) rfl rfl dX10_served_107 rfl ?_
        refine wp_getR (pc' := 111) (k := 2) dX10_served_108 vc9 (by decide) rfl lfX10_26 o_1 rfl ?_
        refine wp_getI (pc' := 114) (k := 10) dX10_served_111 vc6 (by decide) rfl lfX10_143 h3 rfl ?_
        refine wp_aload_n (pc' := 115) (q := 0) (i := 0) rfl rfl dX10_served_114 rfl ?_
        refine wp_getR (pc' := 118) (k := 2) dX10_served_115 vc9 (by decide) rfl lfX10_26 o_1 rfl ?_
        refine wp_getI (pc' := 121) (k := 9) dX10_served_118 vc6 (by decide) rfl lfX10_124 h3 rfl ?_
        refine wp_isub (pc' := 122) dX10_served_121 rfl ?_
        obtain ⟨Q9, hs9, h⟩ := h
        refine wp_callV (pc' := 125) (as := [vI ((I8 (R 1 2) 10) - (I8 (R 1 2) 9))]) (rest := []) hs9 dX10_served_122 rfl lkX10_149 okX2_ahead inX2_ahead seX2_ahead o_28 vc2 ⟨Nat.le_of_ble_eq_true rfl, Nat.le_of_ble_eq_true rfl⟩ (Nat.le_of_ble_eq_true rfl) (Nat.le_refl _) (Nat.le_refl _) okP_eq okP_eq rfl (rvI rfl (fun x9 I9 R9 hq9 => ?_))
        obtain ⟨hRR9, h⟩ := h x9 I9 R9 hq9; subst hRR9
        refine wp_istore (pc' := 127) (i := 6) (L' := [vR 1, vI a1, vI (I4 24 2), vI (I4 24 3), vI (I4 24 3), vI x8, vI x9]) (by decide) rfl dX10_served_125 rfl rfl ?_
        refine wp_iload (pc' := 129) (i := 5) rfl dX10_served_127 rfl ?_
        refine wp_iload (pc' := 131) (i := 6) rfl dX10_served_129 rfl ?_
        obtain ⟨h10, h⟩ := h
        obtain ⟨h11, h⟩ := h
        refine wp_mmin (pc' := 134) h10 h11 dX10_served_131 lkX10_157 ms_min iiMath mc_min ⟨Nat.le_of_ble_eq_true rfl, Nat.le_of_ble_eq_true rfl⟩ (Nat.le_refl _) rfl ?_
        refine wp_istore_n (pc' := 135) (q := 2) (i := 2) (L' := [vR 1, vI a1, vI (min x8 x9), vI (I4 24 3), vI (I4 24 3), vI x8, vI x9]) rfl (by decide) rfl dX10_served_134 rfl rfl ?_
        refine wp_aload_n (pc' := 136) (q := 0) (i := 0) rfl rfl dX10_served_135 rfl ?_
        refine wp_getRc (pc' := 139) (k := 7) (j := 24) dX10_served_136 vc9 (by decide) rfl lfX10_53 o_1 (r_1_7 hR) rfl ?_
        refine wp_getRc (pc' := 142) (k := 0) (j := 25) dX10_served_139 vc3 (by decide) rfl lfX10_146 o_24 (r_24_0 hR) rfl ?_
        refine wp_iconst (pc' := 143) dX10_served_142 rfl ?_
        refine wp_iload_n (pc' := 144) (q := 2) (i := 2) rfl rfl dX10_served_143 rfl ?_
        obtain ⟨Q12, hs12, h⟩ := h
        refine wp_callV (pc' := 147) (as := [vI 0, vI (min x8 x9)]) (rest := []) hs12 dX10_served_144 rfl lkX10_163 okX2_sum inX2_sum seX2_sum o_25 vc2 ⟨Nat.le_of_ble_eq_true rfl, Nat.le_of_ble_eq_true rfl⟩ (Nat.le_of_ble_eq_true rfl) (Nat.le_refl _) (Nat.le_refl _) okP_eq okP_eq rfl (rvI rfl (fun x12 I12 R12 hq12 => ?_))
        obtain ⟨hRR12, h⟩ := h x12 I12 R12 hq12; subst hRR12
        refine wp_aload_n (pc' := 148) (q := 0) (i := 0) rfl rfl dX10_served_147 rfl ?_
        refine wp_getRc (pc' := 151) (k := 7) (j := 24) dX10_served_148 vc9 (by decide) rfl lfX10_53 o_1 (r_1_7 hR) rfl ?_
        refine wp_getRc (pc' := 154) (k := 1) (j := 28) dX10_served_151 vc3 (by decide) rfl lfX10_155 o_24 (r_24_1 hR) rfl ?_
        refine wp_iconst (pc' := 155) dX10_served_154 rfl ?_
        refine wp_iload_n (pc' := 156) (q := 2) (i := 2) rfl rfl dX10_served_155 rfl ?_
        obtain ⟨Q13, hs13, h⟩ := h
        refine wp_callV (pc' := 159) (as := [vI 0, vI (min x8 x9)]) (rest := [vI x12]) hs13 dX10_served_156 rfl lkX10_163 okX2_sum inX2_sum seX2_sum o_28 vc2 ⟨Nat.le_of_ble_eq_true rfl, Nat.le_of_ble_eq_true rfl⟩ (Nat.le_of_ble_eq_true rfl) (Nat.le_refl _) (Nat.le_refl _) okP_eq okP_eq rfl (rvI rfl (fun x13 I13 R13 hq13 => ?_))
        obtain ⟨hRR13, h⟩ := h x13 I13 R13 hq13; subst hRR13
        refine wp_isub (pc' := 160) dX10_served_159 rfl ?_
        refine wp_istore_n (pc' := 161) (q := 3) (i := 3) (L' := [vR 1, vI a1, vI (min x8 x9), vI (x12 - x13), vI (I4 24 3), vI x8, vI x9]) rfl (by decide) rfl dX10_served_160 rfl rfl ?_
        refine wp_aload_n (pc' := 162) (q := 0) (i := 0) rfl rfl dX10_served_161 rfl ?_
        refine wp_getRc (pc' := 165) (k := 7) (j := 24) dX10_served_162 vc9 (by decide) rfl lfX10_53 o_1 (r_1_7 hR) rfl ?_
        refine wp_getRc (pc' := 168) (k := 0) (j := 25) dX10_served_165 vc3 (by decide) rfl lfX10_146 o_24 (r_24_0 hR) rfl ?_
        refine wp_iload (pc' := 170) (i := 5) rfl dX10_served_168 rfl ?_
        refine wp_iload_n (pc' := 171) (q := 2) (i := 2) rfl rfl dX10_served_170 rfl ?_
        refine wp_isub (pc' := 172) dX10_served_171 rfl ?_
        refine wp_iload (pc' := 174) (i := 5) rfl dX10_served_172 rfl ?_
        obtain ⟨Q14, hs14, h⟩ := h
        refine wp_callV (pc' := 177) (as := [vI (x8 - (min x8 x9)), vI x8]) (rest := []) hs14 dX10_served_174 rfl lkX10_163 okX2_sum inX2_sum seX2_sum o_25 vc2 ⟨Nat.le_of_ble_eq_true rfl, Nat.le_of_ble_eq_true rfl⟩ (Nat.le_of_ble_eq_true rfl) (Nat.le_refl _) (Nat.le_refl _) okP_eq okP_eq rfl (rvI rfl (fun x14 I14 R14 hq14 => ?_))
        obtain ⟨hRR14, h⟩ := h x14 I14 R14 hq14; subst hRR14
        refine wp_aload_n (pc' := 178) (q := 0) (i := 0) rfl rfl dX10_served_177 rfl ?_
        refine wp_getRc (pc' := 181) (k := 7) (j := 24) dX10_served_178 vc9 (by decide) rfl lfX10_53 o_1 (r_1_7 hR) rfl ?_
        refine wp_getRc (pc' := 184) (k := 1) (j := 28) dX10_served_181 vc3 (by decide) rfl lfX10_155 o_24 (r_24_1 hR) rfl ?_
        refine wp_iload (pc' := 186) (i := 6) rfl dX10_served_184 rfl ?_
        refine wp_iload_n (pc' := 187) (q := 2) (i := 2) rfl rfl dX10_served_186 rfl ?_
        refine wp_isub (pc' := 188) dX10_served_187 rfl ?_
        refine wp_iload (pc' := 190) (i := 6) rfl dX10_served_188 rfl ?_
        obtain ⟨Q15, hs15, h⟩ := h
        refine wp_callV (pc' := 193) (as := [vI (x9 - (min x8 x9)), vI x9]) (rest := [vI x14]) hs15 dX10_served_190 rfl lkX10_163 okX2_sum inX2_sum seX2_sum o_28 vc2 ⟨Nat.le_of_ble_eq_true rfl, Nat.le_of_ble_eq_true rfl⟩ (Nat.le_of_ble_eq_true rfl) (Nat.le_refl _) (Nat.le_refl _) okP_eq okP_eq rfl (rvI rfl (fun x15 I15 R15 hq15 => ?_))
        obtain ⟨hRR15, h⟩ := h x15 I15 R15 hq15; subst hRR15
        refine wp_isub (pc' := 194) dX10_served_193 rfl ?_
        refine wp_istore (pc' := 196) (i := 4) (L' := [vR 1, vI a1, vI (min x8 x9), vI (x12 - x13), vI (x14 - x15), vI x8, vI x9]) (by decide) rfl dX10_served_194 rfl rfl ?_
        exact wp_dropP (leP_s (leP_s (leP_s (leP_s (leP_s (leP_d (leP_d leP_n))))))) h
  · rw [if_neg hc]; have h := h.2 hc
    refine wp_if_ne (pc' := 9) (tgt := 11) ⟨by decide, by decide⟩ dX10_served_6 rfl rfl (fun hc => by exfalso; revert hc; decide) (fun hc => ?_)
    refine wp_iconst (pc' := 10) dX10_served_9 rfl ?_
    exact wp_ireturn dX10_served_10 rfl rfl h

set_option maxRecDepth 4000 in
theorem gX10_served_196 {Q : QT} {I : II} {R : RR} (hR : SR R) {a1 : Int} {a2 : Int} {a3 : Int} {a4 : Int}
    (h : (InI a1) ∧
      ((¬ a1 = 0 →
      ((¬ a1 = (1 : Int) →
      ((¬ a1 = (2 : Int) →
      Q (vI ((I 24 3) - a4)) I R) ∧ (a1 = (2 : Int) →
      Q (vI a4) I R))) ∧ (a1 = (1 : Int) →
      Q (vI a3) I R))) ∧ (a1 = 0 →
      Q (vI a2) I R))) : wp (kN 89) mX10_served Q 196 [vR 1, vI a1, vI a2, vI a3, vI a4, none, none] [] I R 89 := by
  refine wp_iload_n (pc' := 197) (q := 1) (i := 1) rfl rfl dX10_served_196 rfl ?_
  obtain ⟨h1, h⟩ := h
  refine wp_if_ne (pc' := 200) (tgt := 202) h1 dX10_served_197 rfl rfl (fun hc => ?_) (fun hc => ?_)
  · have h := h.1 hc
    refine wp_iload_n (pc' := 203) (q := 1) (i := 1) rfl rfl dX10_served_202 rfl ?_
    refine wp_iconst (pc' := 204) dX10_served_203 rfl ?_
    refine wp_icmp_ne (pc' := 207) (tgt := 209) h1 ⟨by decide, by decide⟩ dX10_served_204 rfl rfl (fun hc => ?_) (fun hc => ?_)
    · have h := h.1 hc
      refine wp_iload_n (pc' := 210) (q := 1) (i := 1) rfl rfl dX10_served_209 rfl ?_
      refine wp_iconst (pc' := 211) dX10_served_210 rfl ?_
      refine wp_icmp_ne (pc' := 214) (tgt := 219) h1 ⟨by decide, by decide⟩ dX10_served_211 rfl rfl (fun hc => ?_) (fun hc => ?_)
      · have h := h.1 hc
        refine wp_aload_n (pc' := 220) (q := 0) (i := 0) rfl rfl dX10_served_219 rfl ?_
        refine wp_getRc (pc' := 223) (k := 7) (j := 24) dX10_served_220 vc9 (by decide) rfl lfX10_53 o_1 (r_1_7 hR) rfl ?_
        refine wp_getI (pc' := 226) (k := 3) dX10_served_223 vc3 (by decide) rfl lfX10_134 o_24 rfl ?_
        refine wp_iload (pc' := 228) (i := 4) rfl dX10_served_226 rfl ?_
        refine wp_isub (pc' := 229) dX10_served_228 rfl ?_
        exact wp_ireturn dX10_served_229 rfl rfl h
      · have h := h.2 hc
        refine wp_iload (pc' := 216) (i := 4) rfl dX10_served_214 rfl ?_
        refine wp_goto (tgt := 229) dX10_served_216 rfl ?_
        exact wp_ireturn dX10_served_229 rfl rfl h
    · have h := h.2 hc
      refine wp_iload_n (pc' := 208) (q := 3) (i := 3) rfl rfl dX10_served_207 rfl ?_
      exact wp_ireturn dX10_served_208 rfl rfl h
  · have h := h.2 hc
    refine wp_iload_n (pc' := 201) (q := 2) (i := 2) rfl rfl dX10_served_200 rfl ?_
    exact wp_ireturn dX10_served_201 rfl rfl h

theorem sX10_pairs {Q : QT} {I : II} {R : RR} {a1 : Int} (h : wp (kN 89) mX10_pairs Q 0 [vR 1, vI a1, none, none, none, none] [] I R 89) : Spec mX10_pairs [vR 1, vI a1] I R 89 89 Q := Spec_of_wp pyX10_pairs rfl (Nat.le_of_ble_eq_true rfl) (Nat.le_refl _) (by decide) h

set_option maxRecDepth 4000 in
theorem gX10_pairs_0 {Q : QT} {I : II} {R : RR} (hR : SR R) {a1 : Int}
    (h : (InI a1) ∧
      (((0 : Int) ≤ a1 ∧ a1 ≤ (1 : Int) →
      (∃ Q3 : QT, Spec mX10_gainOfAllMeetings [vR 1] I R 89 89 Q3 ∧ (∀ x3 I3 R3, Q3 (vI x3) I3 R3 →
      R = R3 ∧ (isO 89 (R 1 2) 6) ∧
      (InI (I3 (R 1 2) 6)) ∧
      (InI (I3 (R 1 2) 7)) ∧
      wp (kN 89) mX10_pairs Q 42 [none, vI a1, vI x3, vI (max (I3 (R 1 2) 6) (I3 (R 1 2) 7)), vI 1, vI 2] [] I3 R 89))) ∧ (¬ ((0 : Int) ≤ a1 ∧ a1 ≤ (1 : Int)) →
      Q (vL (-1)) I R))) : wp (kN 89) mX10_pairs Q 0 [vR 1, vI a1, none, none, none, none] [] I R 89 := by
  refine wp_iload_n (pc' := 1) (q := 1) (i := 1) rfl rfl dX10_pairs_0 rfl ?_
  refine wp_iconst (pc' := 2) dX10_pairs_1 rfl ?_
  refine wp_iconst (pc' := 3) dX10_pairs_2 rfl ?_
  obtain ⟨h2, h⟩ := h
  refine wp_callS (pc' := 6) (as := [vI a1, vI 0, vI 1]) (rest := []) (pX10_within (by decide) h2 ⟨by decide, by decide⟩ ⟨by decide, by decide⟩) dX10_pairs_3 rfl lkX10_84 okX10_within stX10_within ⟨Nat.le_of_ble_eq_true rfl, Nat.le_of_ble_eq_true rfl⟩ (Nat.le_of_ble_eq_true rfl) (Nat.le_refl _) (Nat.le_refl _) okP_eq okP_eq rfl (rvZ rfl (fun x1 I1 R1 hz1 hq1 => ?_))
  obtain ⟨eR1, eI1, ex1⟩ := hq1; subst eR1; subst eI1; cases ex1
  by_cases hc : (0 : Int) ≤ a1 ∧ a1 ≤ (1 : Int)
  · rw [if_pos hc]; have h := h.1 hc
    refine wp_if_ne (pc' := 9) (tgt := 13) ⟨by decide, by decide⟩ dX10_pairs_6 rfl rfl (fun hc => ?_) (fun hc => by exfalso; revert hc; decide)
    refine wp_aload_n (pc' := 14) (q := 0) (i := 0) rfl rfl dX10_pairs_13 rfl ?_
    obtain ⟨Q3, hs3, h⟩ := h
    refine wp_callV (pc' := 17) (as := []) (rest := []) hs3 dX10_pairs_14 rfl lkX10_168 okX10_gainOfAllMeetings inX10_gainOfAllMeetings seX10_gainOfAllMeetings o_1 vc9 ⟨Nat.le_of_ble_eq_true rfl, Nat.le_of_ble_eq_true rfl⟩ (Nat.le_of_ble_eq_true rfl) (Nat.le_refl _) (Nat.le_refl _) okP_eq okP_eq rfl (rvI rfl (fun x3 I3 R3 hq3 => ?_))
    obtain ⟨hRR3, h⟩ := h x3 I3 R3 hq3; subst hRR3
    refine wp_istore_n (pc' := 18) (q := 2) (i := 2) (L' := [vR 1, vI a1, vI x3, none, none, none]) rfl (by decide) rfl dX10_pairs_17 rfl rfl ?_
    refine wp_aload_n (pc' := 19) (q := 0) (i := 0) rfl rfl dX10_pairs_18 rfl ?_
    refine wp_getR (pc' := 22) (k := 2) dX10_pairs_19 vc9 (by decide) rfl lfX10_26 o_1 rfl ?_
    obtain ⟨h4, h⟩ := h
    refine wp_getI (pc' := 25) (k := 6) dX10_pairs_22 vc6 (by decide) rfl lfX10_99 h4 rfl ?_
    refine wp_aload_n (pc' := 26) (q := 0) (i := 0) rfl rfl dX10_pairs_25 rfl ?_
    refine wp_getR (pc' := 29) (k := 2) dX10_pairs_26 vc9 (by decide) rfl lfX10_26 o_1 rfl ?_
    refine wp_getI (pc' := 32) (k := 7) dX10_pairs_29 vc6 (by decide) rfl lfX10_102 h4 rfl ?_
    obtain ⟨h5, h⟩ := h
    obtain ⟨h6, h⟩ := h
    refine wp_mmax (pc' := 35) h5 h6 dX10_pairs_32 lkX10_172 ms_max iiMath mc_max ⟨Nat.le_of_ble_eq_true rfl, Nat.le_of_ble_eq_true rfl⟩ (Nat.le_refl _) rfl ?_
    refine wp_istore_n (pc' := 36) (q := 3) (i := 3) (L' := [vR 1, vI a1, vI x3, vI (max (I3 (R 1 2) 6) (I3 (R 1 2) 7)), none, none]) rfl (by decide) rfl dX10_pairs_35 rfl rfl ?_
    refine wp_iconst (pc' := 37) dX10_pairs_36 rfl ?_
    refine wp_istore (pc' := 39) (i := 4) (L' := [vR 1, vI a1, vI x3, vI (max (I3 (R 1 2) 6) (I3 (R 1 2) 7)), vI 1, none]) (by decide) rfl dX10_pairs_37 rfl rfl ?_
    refine wp_iconst (pc' := 40) dX10_pairs_39 rfl ?_
    refine wp_istore (pc' := 42) (i := 5) (L' := [vR 1, vI a1, vI x3, vI (max (I3 (R 1 2) 6) (I3 (R 1 2) 7)), vI 1, vI 2]) (by decide) rfl dX10_pairs_40 rfl rfl ?_
    exact wp_dropP (leP_d (leP_s (leP_s (leP_s (leP_s (leP_s leP_n)))))) h
  · rw [if_neg hc]; have h := h.2 hc
    refine wp_if_ne (pc' := 9) (tgt := 13) ⟨by decide, by decide⟩ dX10_pairs_6 rfl rfl (fun hc => by exfalso; revert hc; decide) (fun hc => ?_)
    refine wp_ldc2 (pc' := 12) (x := (-1)) lcX10_166 (by decide +kernel) dX10_pairs_9 rfl ?_
    exact wp_lreturn dX10_pairs_12 rfl rfl h

set_option maxRecDepth 4000 in
theorem gX10_pairs_42 {Q : QT} {I : II} {R : RR} (hR : SR R) {a1 : Int} {a2 : Int} {a3 : Int} {a4 : Int} {a5 : Int}
    (h : (InI a5) ∧
      (InI a3) ∧
      ((a3 < a5 →
      (InI a1) ∧
      ((¬ a1 = 0 →
      (0 ≤ a3 ∧ a3 ≤ 2147483647 ∧ 0 < a4 ∧ a4 ≤ 2147483647) ∧
      (InI (a3 / a4)) ∧
      Q (vL (a3 / a4)) I R) ∧ (a1 = 0 →
      (0 ≤ a2 ∧ a2 ≤ 2147483647 ∧ 0 < a4 ∧ a4 ≤ 2147483647) ∧
      (InI (a2 / a4)) ∧
      Q (vL (a2 / a4)) I R))) ∧ (¬ (a3 < a5) →
      (0 ≤ a2 ∧ a2 ≤ 2147483647 ∧ 0 < a5 ∧ a5 ≤ 2147483647) ∧
      (InI (a2 % a5)) ∧
      ((¬ (a2 % a5) = 0 →
      wp (kN 89) mX10_pairs Q 66 [none, vI a1, vI a2, vI a3, vI a4, vI a5] [] I R 89) ∧ ((a2 % a5) = 0 →
      (0 ≤ a3 ∧ a3 ≤ 2147483647 ∧ 0 < a5 ∧ a5 ≤ 2147483647) ∧
      (InI (a3 % a5)) ∧
      ((¬ (a3 % a5) = 0 →
      wp (kN 89) mX10_pairs Q 66 [none, vI a1, vI a2, vI a3, vI a4, vI a5] [] I R 89) ∧ ((a3 % a5) = 0 →
      wp (kN 89) mX10_pairs Q 66 [none, vI a1, vI a2, vI a3, vI a5, vI a5] [] I R 89))))))) : wp (kN 89) mX10_pairs Q 42 [none, vI a1, vI a2, vI a3, vI a4, vI a5] [] I R 89 := by
  refine wp_iload (pc' := 44) (i := 5) rfl dX10_pairs_42 rfl ?_
  refine wp_iload_n (pc' := 45) (q := 3) (i := 3) rfl rfl dX10_pairs_44 rfl ?_
  obtain ⟨h1, h⟩ := h
  obtain ⟨h2, h⟩ := h
  refine wp_icmp_gt (pc' := 48) (tgt := 72) h1 h2 dX10_pairs_45 rfl rfl (fun hc => ?_) (fun hc => ?_)
  · have h := h.1 hc
    refine wp_iload_n (pc' := 73) (q := 1) (i := 1) rfl rfl dX10_pairs_72 rfl ?_
    obtain ⟨h3, h⟩ := h
    refine wp_if_ne (pc' := 76) (tgt := 84) h3 dX10_pairs_73 rfl rfl (fun hc => ?_) (fun hc => ?_)
    · have h := h.1 hc
      refine wp_iload_n (pc' := 85) (q := 3) (i := 3) rfl rfl dX10_pairs_84 rfl ?_
      refine wp_iload (pc' := 87) (i := 4) rfl dX10_pairs_85 rfl ?_
      obtain ⟨h4, h⟩ := h
      refine wp_idiv (pc' := 88) h4 dX10_pairs_87 rfl ?_
      obtain ⟨h5, h⟩ := h
      refine wp_i2l (pc' := 89) h5 dX10_pairs_88 rfl ?_
      exact wp_lreturn dX10_pairs_89 rfl rfl h
    · have h := h.2 hc
      refine wp_iload_n (pc' := 77) (q := 2) (i := 2) rfl rfl dX10_pairs_76 rfl ?_
      refine wp_iload (pc' := 79) (i := 4) rfl dX10_pairs_77 rfl ?_
      obtain ⟨h6, h⟩ := h
      refine wp_idiv (pc' := 80) h6 dX10_pairs_79 rfl ?_
      obtain ⟨h7, h⟩ := h
      refine wp_i2l (pc' := 81) h7 dX10_pairs_80 rfl ?_
      refine wp_goto (tgt := 89) dX10_pairs_81 rfl ?_
      exact wp_lreturn dX10_pairs_89 rfl rfl h
  · have h := h.2 hc
    refine wp_iload_n (pc' := 49) (q := 2) (i := 2) rfl rfl dX10_pairs_48 rfl ?_
    refine wp_iload (pc' := 51) (i := 5) rfl dX10_pairs_49 rfl ?_
    obtain ⟨h8, h⟩ := h
    refine wp_irem (pc' := 52) h8 dX10_pairs_51 rfl ?_
    obtain ⟨h9, h⟩ := h
    refine wp_if_ne (pc' := 55) (tgt := 66) h9 dX10_pairs_52 rfl rfl (fun hc => ?_) (fun hc => ?_)
    · have h := h.1 hc
      exact h
    · have h := h.2 hc
      refine wp_iload_n (pc' := 56) (q := 3) (i := 3) rfl rfl dX10_pairs_55 rfl ?_
      refine wp_iload (pc' := 58) (i := 5) rfl dX10_pairs_56 rfl ?_
      obtain ⟨h10, h⟩ := h
      refine wp_irem (pc' := 59) h10 dX10_pairs_58 rfl ?_
      obtain ⟨h11, h⟩ := h
      refine wp_if_ne (pc' := 62) (tgt := 66) h11 dX10_pairs_59 rfl rfl (fun hc => ?_) (fun hc => ?_)
      · have h := h.1 hc
        exact h
      · have h := h.2 hc
        refine wp_iload (pc' := 64) (i := 5) rfl dX10_pairs_62 rfl ?_
        refine wp_istore (pc' := 66) (i := 4) (L' := [none, vI a1, vI a2, vI a3, vI a5, vI a5]) (by decide) rfl dX10_pairs_64 rfl rfl ?_
        exact h

set_option maxRecDepth 4000 in
theorem gX10_pairs_66 {Q : QT} {I : II} {R : RR} (hR : SR R) {a1 : Int} {a2 : Int} {a3 : Int} {a4 : Int} {a5 : Int}
    (h : wp (kN 89) mX10_pairs Q 42 [none, vI a1, vI a2, vI a3, vI a4, vI (a5 + 1)] [] I R 89) : wp (kN 89) mX10_pairs Q 66 [none, vI a1, vI a2, vI a3, vI a4, vI a5] [] I R 89 := by
  refine wp_iinc (pc' := 69) (i := 5) (L' := [none, vI a1, vI a2, vI a3, vI a4, vI (a5 + 1)]) rfl (by decide) rfl dX10_pairs_66 rfl rfl ?_
  refine wp_goto (tgt := 42) dX10_pairs_69 rfl ?_
  exact h

theorem sX10_bell {Q : QT} {I : II} {R : RR} {a1 : Int} {a2 : Int} (h : wp (kN 89) mX10_bell Q 0 [vR 1, vI a1, vI a2] [] I R 89) : Spec mX10_bell [vR 1, vI a1, vI a2] I R 89 89 Q := Spec_of_wp pyX10_bell rfl (Nat.le_of_ble_eq_true rfl) (Nat.le_refl _) (by decide) h

set_option maxRecDepth 4000 in
theorem gX10_bell_0 {Q : QT} {I : II} {R : RR} (hR : SR R) {a1 : Int} {a2 : Int}
    (h : (isO 89 (R 1 2) 6) ∧
      (InI a1) ∧
      (InI (I (R 1 2) 5)) ∧
      ((0 ≤ a1 ∧ a1 < (I (R 1 2) 5) →
      (InI a2) ∧
      (((0 : Int) ≤ a2 ∧ a2 ≤ (99 : Int) →
      (∃ Q7 : QT, Spec mX10_gainOfTelling [vR 1, vI a1, vI a2] I R 89 89 Q7 ∧ (∀ x7 I7 R7, Q7 (vI x7) I7 R7 →
      R = R7 ∧ Q (vI x7) I7 R))) ∧ (¬ ((0 : Int) ≤ a2 ∧ a2 ≤ (99 : Int)) →
      wp (kN 89) mX10_bell Q 21 [none, none, none] [] I R 89))) ∧ (¬ (0 ≤ a1 ∧ a1 < (I (R 1 2) 5)) →
      wp (kN 89) mX10_bell Q 21 [none, none, none] [] I R 89))) : wp (kN 89) mX10_bell Q 0 [vR 1, vI a1, vI a2] [] I R 89 := by
  refine wp_aload_n (pc' := 1) (q := 0) (i := 0) rfl rfl dX10_bell_0 rfl ?_
  refine wp_getR (pc' := 4) (k := 2) dX10_bell_1 vc9 (by decide) rfl lfX10_26 o_1 rfl ?_
  refine wp_iload_n (pc' := 5) (q := 1) (i := 1) rfl rfl dX10_bell_4 rfl ?_
  obtain ⟨h2, h⟩ := h
  obtain ⟨h3, h⟩ := h
  obtain ⟨h4, h⟩ := h
  refine wp_callV (pc' := 8) (as := [vI a1]) (rest := []) (pX6_has (by decide) h2 h3 h4) dX10_bell_5 rfl lkX10_109 okX6_has inX6_has seX6_has h2 vc6 ⟨Nat.le_of_ble_eq_true rfl, Nat.le_of_ble_eq_true rfl⟩ (Nat.le_of_ble_eq_true rfl) (Nat.le_refl _) (Nat.le_refl _) okP_eq okP_eq rfl (rvZ rfl (fun x1 I1 R1 hz1 hq1 => ?_))
  obtain ⟨eR1, eI1, ex1⟩ := hq1; subst eR1; subst eI1; cases ex1
  by_cases hc : 0 ≤ a1 ∧ a1 < (I (R 1 2) 5)
  · rw [if_pos hc]; have h := h.1 hc
    refine wp_if_eq (pc' := 11) (tgt := 21) ⟨by decide, by decide⟩ dX10_bell_8 rfl rfl (fun hc => by exfalso; revert hc; decide) (fun hc => ?_)
    refine wp_iload_n (pc' := 12) (q := 2) (i := 2) rfl rfl dX10_bell_11 rfl ?_
    refine wp_iconst (pc' := 13) dX10_bell_12 rfl ?_
    refine wp_bipush (pc' := 15) (by decide) dX10_bell_13 rfl ?_
    obtain ⟨h6, h⟩ := h
    refine wp_callS (pc' := 18) (as := [vI a2, vI 0, vI 99]) (rest := []) (pX10_within (by decide) h6 ⟨by decide, by decide⟩ ⟨by decide, by decide⟩) dX10_bell_15 rfl lkX10_84 okX10_within stX10_within ⟨Nat.le_of_ble_eq_true rfl, Nat.le_of_ble_eq_true rfl⟩ (Nat.le_of_ble_eq_true rfl) (Nat.le_refl _) (Nat.le_refl _) okP_eq okP_eq rfl (rvZ rfl (fun x5 I5 R5 hz5 hq5 => ?_))
    obtain ⟨eR5, eI5, ex5⟩ := hq5; subst eR5; subst eI5; cases ex5
    by_cases hc : (0 : Int) ≤ a2 ∧ a2 ≤ (99 : Int)
    · rw [if_pos hc]; have h := h.1 hc
      refine wp_if_ne (pc' := 21) (tgt := 25) ⟨by decide, by decide⟩ dX10_bell_18 rfl rfl (fun hc => ?_) (fun hc => by exfalso; revert hc; decide)
      refine wp_aload_n (pc' := 26) (q := 0) (i := 0) rfl rfl dX10_bell_25 rfl ?_
      refine wp_iload_n (pc' := 27) (q := 1) (i := 1) rfl rfl dX10_bell_26 rfl ?_
      refine wp_iload_n (pc' := 28) (q := 2) (i := 2) rfl rfl dX10_bell_27 rfl ?_
      obtain ⟨Q7, hs7, h⟩ := h
      refine wp_callV (pc' := 31) (as := [vI a1, vI a2]) (rest := []) hs7 dX10_bell_28 rfl lkX10_175 okX10_gainOfTelling inX10_gainOfTelling seX10_gainOfTelling o_1 vc9 ⟨Nat.le_of_ble_eq_true rfl, Nat.le_of_ble_eq_true rfl⟩ (Nat.le_of_ble_eq_true rfl) (Nat.le_refl _) (Nat.le_refl _) okP_eq okP_eq rfl (rvI rfl (fun x7 I7 R7 hq7 => ?_))
      obtain ⟨hRR7, h⟩ := h x7 I7 R7 hq7; subst hRR7
      exact wp_ireturn dX10_bell_31 rfl rfl h
    · rw [if_neg hc]; have h := h.2 hc
      refine wp_if_ne (pc' := 21) (tgt := 25) ⟨by decide, by decide⟩ dX10_bell_18 rfl rfl (fun hc => by exfalso; revert hc; decide) (fun hc => ?_)
      exact wp_dropP (leP_d (leP_d (leP_d leP_n))) h
  · rw [if_neg hc]; have h := h.2 hc
    refine wp_if_eq (pc' := 11) (tgt := 21) ⟨by decide, by decide⟩ dX10_bell_8 rfl rfl (fun hc => ?_) (fun hc => by exfalso; revert hc; decide)
    exact wp_dropP (leP_d (leP_d (leP_d leP_n))) h

set_option maxRecDepth 4000 in
theorem gX10_bell_21 {Q : QT} {I : II} {R : RR} (hR : SR R) 
    (h : Q (vI (-1000)) I R) : wp (kN 89) mX10_bell Q 21 [none, none, none] [] I R 89 := by
  refine wp_sipush (pc' := 24) (by decide) dX10_bell_21 rfl ?_
  exact wp_ireturn dX10_bell_24 rfl rfl h

theorem sX10_best {Q : QT} {I : II} {R : RR} {a1 : Int} {a2 : Int} (h : wp (kN 89) mX10_best Q 0 [vR 1, vI a1, vI a2, none, none, none, none, none, none] [] I R 89) : Spec mX10_best [vR 1, vI a1, vI a2] I R 89 89 Q := Spec_of_wp pyX10_best rfl (Nat.le_of_ble_eq_true rfl) (Nat.le_refl _) (by decide) h

set_option maxRecDepth 4000 in
theorem gX10_best_0 {Q : QT} {I : II} {R : RR} (hR : SR R) {a1 : Int} {a2 : Int}
    (h : (isO 89 (R 1 2) 6) ∧
      (InI a1) ∧
      (InI (I (R 1 2) 5)) ∧
      ((0 ≤ a1 ∧ a1 < (I (R 1 2) 5) →
      (InI a2) ∧
      (((0 : Int) ≤ a2 ∧ a2 ≤ (1 : Int) →
      (isA 89 (R (R 1 2) 1) 1 20) ∧
      (0 ≤ a1 ∧ a1 < 20) ∧
      (∃ Q9 : QT, Spec mX10_gainOfTelling [vR 1, vI a1, vI (I (R (R 1 2) 1) a1.toNat)] I R 89 89 Q9 ∧ (∀ x9 I9 R9, Q9 (vI x9) I9 R9 →
      R = R9 ∧ wp (kN 89) mX10_best Q 46 [vR 1, vI a1, vI a2, vI (I (R (R 1 2) 1) a1.toNat), vI (I (R (R 1 2) 1) a1.toNat), vI x9, vI 0, none, none] [] I9 R 89))) ∧ (¬ ((0 : Int) ≤ a2 ∧ a2 ≤ (1 : Int)) →
      wp (kN 89) mX10_best Q 20 [none, none, none, none, none, none, none, none, none] [] I R 89))) ∧ (¬ (0 ≤ a1 ∧ a1 < (I (R 1 2) 5)) →
      wp (kN 89) mX10_best Q 20 [none, none, none, none, none, none, none, none, none] [] I R 89))) : wp (kN 89) mX10_best Q 0 [vR 1, vI a1, vI a2, none, none, none, none, none, none] [] I R 89 := by
  refine wp_aload_n (pc' := 1) (q := 0) (i := 0) rfl rfl dX10_best_0 rfl ?_
  refine wp_getR (pc' := 4) (k := 2) dX10_best_1 vc9 (by decide) rfl lfX10_26 o_1 rfl ?_
  refine wp_iload_n (pc' := 5) (q := 1) (i := 1) rfl rfl dX10_best_4 rfl ?_
  obtain ⟨h2, h⟩ := h
  obtain ⟨h3, h⟩ := h
  obtain ⟨h4, h⟩ := h
  refine wp_callV (pc' := 8) (as := [vI a1]) (rest := []) (pX6_has (by decide) h2 h3 h4) dX10_best_5 rfl lkX10_109 okX6_has inX6_has seX6_has h2 vc6 ⟨Nat.le_of_ble_eq_true rfl, Nat.le_of_ble_eq_true rfl⟩ (Nat.le_of_ble_eq_true rfl) (Nat.le_refl _) (Nat.le_refl _) okP_eq okP_eq rfl (rvZ rfl (fun x1 I1 R1 hz1 hq1 => ?_))
  obtain ⟨eR1, eI1, ex1⟩ := hq1; subst eR1; subst eI1; cases ex1
  by_cases hc : 0 ≤ a1 ∧ a1 < (I (R 1 2) 5)
  · rw [if_pos hc]; have h := h.1 hc
    refine wp_if_eq (pc' := 11) (tgt := 20) ⟨by decide, by decide⟩ dX10_best_8 rfl rfl (fun hc => by exfalso; revert hc; decide) (fun hc => ?_)
    refine wp_iload_n (pc' := 12) (q := 2) (i := 2) rfl rfl dX10_best_11 rfl ?_
    refine wp_iconst (pc' := 13) dX10_best_12 rfl ?_
    refine wp_iconst (pc' := 14) dX10_best_13 rfl ?_
    obtain ⟨h6, h⟩ := h
    refine wp_callS (pc' := 17) (as := [vI a2, vI 0, vI 1]) (rest := []) (pX10_within (by decide) h6 ⟨by decide, by decide⟩ ⟨by decide, by decide⟩) dX10_best_14 rfl lkX10_84 okX10_within stX10_within ⟨Nat.le_of_ble_eq_true rfl, Nat.le_of_ble_eq_true rfl⟩ (Nat.le_of_ble_eq_true rfl) (Nat.le_refl _) (Nat.le_refl _) okP_eq okP_eq rfl (rvZ rfl (fun x5 I5 R5 hz5 hq5 => ?_))
    obtain ⟨eR5, eI5, ex5⟩ := hq5; subst eR5; subst eI5; cases ex5
    by_cases hc : (0 : Int) ≤ a2 ∧ a2 ≤ (1 : Int)
    · rw [if_pos hc]; have h := h.1 hc
      refine wp_if_ne (pc' := 20) (tgt := 22) ⟨by decide, by decide⟩ dX10_best_17 rfl rfl (fun hc => ?_) (fun hc => by exfalso; revert hc; decide)
      refine wp_aload_n (pc' := 23) (q := 0) (i := 0) rfl rfl dX10_best_22 rfl ?_
      refine wp_getR (pc' := 26) (k := 2) dX10_best_23 vc9 (by decide) rfl lfX10_26 o_1 rfl ?_
      refine wp_getR (pc' := 29) (k := 1) dX10_best_26 vc6 (by decide) rfl lfX10_117 h2 rfl ?_
      refine wp_iload_n (pc' := 30) (q := 1) (i := 1) rfl rfl dX10_best_29 rfl ?_
      obtain ⟨h7, h⟩ := h
      obtain ⟨h8, h⟩ := h
      refine wp_iald (pc' := 31) (j := a1.toNat) dX10_best_30 h7 h8 rfl rfl ?_
      refine wp_istore_n (pc' := 32) (q := 3) (i := 3) (L' := [vR 1, vI a1, vI a2, vI (I (R (R 1 2) 1) a1.toNat), none, none, none, none, none]) rfl (by decide) rfl dX10_best_31 rfl rfl ?_
      refine wp_iload_n (pc' := 33) (q := 3) (i := 3) rfl rfl dX10_best_32 rfl ?_
      refine wp_istore (pc' := 35) (i := 4) (L' := [vR 1, vI a1, vI a2, vI (I (R (R 1 2) 1) a1.toNat), vI (I (R (R 1 2) 1) a1.toNat), none, none, none, none]) (by decide) rfl dX10_best_33 rfl rfl ?_
      refine wp_aload_n (pc' := 36) (q := 0) (i := 0) rfl rfl dX10_best_35 rfl ?_
      refine wp_iload_n (pc' := 37) (q := 1) (i := 1) rfl rfl dX10_best_36 rfl ?_
      refine wp_iload_n (pc' := 38) (q := 3) (i := 3) rfl rfl dX10_best_37 rfl ?_
      obtain ⟨Q9, hs9, h⟩ := h
      refine wp_callV (pc' := 41) (as := [vI a1, vI (I (R (R 1 2) 1) a1.toNat)]) (rest := []) hs9 dX10_best_38 rfl lkX10_175 okX10_gainOfTelling inX10_gainOfTelling seX10_gainOfTelling o_1 vc9 ⟨Nat.le_of_ble_eq_true rfl, Nat.le_of_ble_eq_true rfl⟩ (Nat.le_of_ble_eq_true rfl) (Nat.le_refl _) (Nat.le_refl _) okP_eq okP_eq rfl (rvI rfl (fun x9 I9 R9 hq9 => ?_))
      obtain ⟨hRR9, h⟩ := h x9 I9 R9 hq9; subst hRR9
      refine wp_istore (pc' := 43) (i := 5) (L' := [vR 1, vI a1, vI a2, vI (I (R (R 1 2) 1) a1.toNat), vI (I (R (R 1 2) 1) a1.toNat), vI x9, none, none, none]) (by decide) rfl dX10_best_41 rfl rfl ?_
      refine wp_iconst (pc' := 44) dX10_best_43 rfl ?_
      refine wp_istore (pc' := 46) (i := 6) (L' := [vR 1, vI a1, vI a2, vI (I (R (R 1 2) 1) a1.toNat), vI (I (R (R 1 2) 1) a1.toNat), vI x9, vI 0, none, none]) (by decide) rfl dX10_best_44 rfl rfl ?_
      exact h
    · rw [if_neg hc]; have h := h.2 hc
      refine wp_if_ne (pc' := 20) (tgt := 22) ⟨by decide, by decide⟩ dX10_best_17 rfl rfl (fun hc => by exfalso; revert hc; decide) (fun hc => ?_)
      exact wp_dropP (leP_d (leP_d (leP_d (leP_s (leP_s (leP_s (leP_s (leP_s (leP_s leP_n))))))))) h
  · rw [if_neg hc]; have h := h.2 hc
    refine wp_if_eq (pc' := 11) (tgt := 20) ⟨by decide, by decide⟩ dX10_best_8 rfl rfl (fun hc => ?_) (fun hc => by exfalso; revert hc; decide)
    exact wp_dropP (leP_d (leP_d (leP_d (leP_s (leP_s (leP_s (leP_s (leP_s (leP_s leP_n))))))))) h

set_option maxRecDepth 4000 in
theorem gX10_best_20 {Q : QT} {I : II} {R : RR} (hR : SR R) 
    (h : Q (vI (-1)) I R) : wp (kN 89) mX10_best Q 20 [none, none, none, none, none, none, none, none, none] [] I R 89 := by
  refine wp_iconst (pc' := 21) dX10_best_20 rfl ?_
  exact wp_ireturn dX10_best_21 rfl rfl h

set_option maxRecDepth 4000 in
theorem gX10_best_46 {Q : QT} {I : II} {R : RR} (hR : SR R) {a1 : Int} {a2 : Int} {a3 : Int} {a4 : Int} {a5 : Int} {a6 : Int}
    (h : (InI a6) ∧
      (((99 : Int) < a6 →
      (InI a2) ∧
      ((¬ a2 = 0 →
      Q (vI a5) I R) ∧ (a2 = 0 →
      Q (vI a4) I R))) ∧ (¬ (99 : Int) < a6 →
      (∃ Q3 : QT, Spec mX10_gainOfTelling [vR 1, vI a1, vI a6] I R 89 89 Q3 ∧ (∀ x3 I3 R3, Q3 (vI x3) I3 R3 →
      R = R3 ∧ (InI (a6 - a3)) ∧
      (InI (a4 - a3)) ∧
      (InI ((((a6 - a3)).natAbs : Nat) : Int)) ∧
      (InI ((((a4 - a3)).natAbs : Nat) : Int)) ∧
      ((((((a4 - a3)).natAbs : Nat) : Int) ≤ ((((a6 - a3)).natAbs : Nat) : Int) →
      (InI x3) ∧
      (InI a5) ∧
      ((a5 < x3 →
      wp (kN 89) mX10_best Q 105 [vR 1, vI a1, vI a2, vI a3, none, none, vI a6, vI x3, none] [] I3 R 89) ∧ (¬ (a5 < x3) →
      ((¬ x3 = a5 →
      wp (kN 89) mX10_best Q 113 [vR 1, vI a1, vI a2, vI a3, vI a4, vI a5, vI a6, none, none] [] I3 R 89) ∧ (x3 = a5 →
      wp (kN 89) mX10_best Q 113 [vR 1, vI a1, vI a2, vI a3, vI a4, vI a5, vI a6, none, none] [] I3 R 89))))) ∧ (¬ ((((a4 - a3)).natAbs : Nat) : Int) ≤ ((((a6 - a3)).natAbs : Nat) : Int) →
      (InI x3) ∧
      (InI a5) ∧
      ((a5 < x3 →
      wp (kN 89) mX10_best Q 105 [vR 1, vI a1, vI a2, vI a3, none, none, vI a6, vI x3, none] [] I3 R 89) ∧ (¬ (a5 < x3) →
      ((¬ x3 = a5 →
      wp (kN 89) mX10_best Q 113 [vR 1, vI a1, vI a2, vI a3, vI a4, vI a5, vI a6, none, none] [] I3 R 89) ∧ (x3 = a5 →
      wp (kN 89) mX10_best Q 105 [vR 1, vI a1, vI a2, vI a3, none, none, vI a6, vI x3, none] [] I3 R 89))))))))))) : wp (kN 89) mX10_best Q 46 [vR 1, vI a1, vI a2, vI a3, vI a4, vI a5, vI a6, none, none] [] I R 89 := by
  refine wp_iload (pc' := 48) (i := 6) rfl dX10_best_46 rfl ?_
  refine wp_bipush (pc' := 50) (by decide) dX10_best_48 rfl ?_
  obtain ⟨h1, h⟩ := h
  refine wp_icmp_gt (pc' := 53) (tgt := 119) h1 ⟨by decide, by decide⟩ dX10_best_50 rfl rfl (fun hc => ?_) (fun hc => ?_)
  · have h := h.1 hc
    refine wp_iload_n (pc' := 120) (q := 2) (i := 2) rfl rfl dX10_best_119 rfl ?_
    obtain ⟨h2, h⟩ := h
    refine wp_if_ne (pc' := 123) (tgt := 128) h2 dX10_best_120 rfl rfl (fun hc => ?_) (fun hc => ?_)
    · have h := h.1 hc
      refine wp_iload (pc' := 130) (i := 5) rfl dX10_best_128 rfl ?_
      exact wp_ireturn dX10_best_130 rfl rfl h
    · have h := h.2 hc
      refine wp_iload (pc' := 125) (i := 4) rfl dX10_best_123 rfl ?_
      refine wp_goto (tgt := 130) dX10_best_125 rfl ?_
      exact wp_ireturn dX10_best_130 rfl rfl h
  · have h := h.2 hc
    refine wp_aload_n (pc' := 54) (q := 0) (i := 0) rfl rfl dX10_best_53 rfl ?_
    refine wp_iload_n (pc' := 55) (q := 1) (i := 1) rfl rfl dX10_best_54 rfl ?_
    refine wp_iload (pc' := 57) (i := 6) rfl dX10_best_55 rfl ?_
    obtain ⟨Q3, hs3, h⟩ := h
    refine wp_callV (pc' := 60) (as := [vI a1, vI a6]) (rest := []) hs3 dX10_best_57 rfl lkX10_175 okX10_gainOfTelling inX10_gainOfTelling seX10_gainOfTelling o_1 vc9 ⟨Nat.le_of_ble_eq_true rfl, Nat.le_of_ble_eq_true rfl⟩ (Nat.le_of_ble_eq_true rfl) (Nat.le_refl _) (Nat.le_refl _) okP_eq okP_eq rfl (rvI rfl (fun x3 I3 R3 hq3 => ?_))
    obtain ⟨hRR3, h⟩ := h x3 I3 R3 hq3; subst hRR3
    refine wp_istore (pc' := 62) (i := 7) (L' := [vR 1, vI a1, vI a2, vI a3, vI a4, vI a5, vI a6, vI x3, none]) (by decide) rfl dX10_best_60 rfl rfl ?_
    refine wp_iload (pc' := 64) (i := 6) rfl dX10_best_62 rfl ?_
    refine wp_iload_n (pc' := 65) (q := 3) (i := 3) rfl rfl dX10_best_64 rfl ?_
    refine wp_isub (pc' := 66) dX10_best_65 rfl ?_
    obtain ⟨h4, h⟩ := h
    refine wp_mabs (pc' := 69) h4 dX10_best_66 lkX10_178 ms_abs iiMath mc_abs ⟨Nat.le_of_ble_eq_true rfl, Nat.le_of_ble_eq_true rfl⟩ (Nat.le_refl _) rfl ?_
    refine wp_iload (pc' := 71) (i := 4) rfl dX10_best_69 rfl ?_
    refine wp_iload_n (pc' := 72) (q := 3) (i := 3) rfl rfl dX10_best_71 rfl ?_
    refine wp_isub (pc' := 73) dX10_best_72 rfl ?_
    obtain ⟨h5, h⟩ := h
    refine wp_mabs (pc' := 76) h5 dX10_best_73 lkX10_178 ms_abs iiMath mc_abs ⟨Nat.le_of_ble_eq_true rfl, Nat.le_of_ble_eq_true rfl⟩ (Nat.le_refl _) rfl ?_
    obtain ⟨h6, h⟩ := h
    obtain ⟨h7, h⟩ := h
    refine wp_icmp_ge (pc' := 79) (tgt := 83) h6 h7 dX10_best_76 rfl rfl (fun hc => ?_) (fun hc => ?_)
    · have h := h.1 hc
      refine wp_iconst (pc' := 84) dX10_best_83 rfl ?_
      refine wp_istore (pc' := 86) (i := 8) (L' := [vR 1, vI a1, vI a2, vI a3, vI a4, vI a5, vI a6, vI x3, vI 0]) (by decide) rfl dX10_best_84 rfl rfl ?_
      refine wp_iload (pc' := 88) (i := 7) rfl dX10_best_86 rfl ?_
      refine wp_iload (pc' := 90) (i := 5) rfl dX10_best_88 rfl ?_
      obtain ⟨h8, h⟩ := h
      obtain ⟨h9, h⟩ := h
      refine wp_icmp_gt (pc' := 93) (tgt := 105) h8 h9 dX10_best_90 rfl rfl (fun hc => ?_) (fun hc => ?_)
      · have h := h.1 hc
        exact wp_dropP (leP_s (leP_s (leP_s (leP_s (leP_d (leP_d (leP_s (leP_s (leP_d leP_n))))))))) h
      · have h := h.2 hc
        refine wp_iload (pc' := 95) (i := 7) rfl dX10_best_93 rfl ?_
        refine wp_iload (pc' := 97) (i := 5) rfl dX10_best_95 rfl ?_
        refine wp_icmp_ne (pc' := 100) (tgt := 113) h8 h9 dX10_best_97 rfl rfl (fun hc => ?_) (fun hc => ?_)
        · have h := h.1 hc
          exact wp_dropP (leP_s (leP_s (leP_s (leP_s (leP_s (leP_s (leP_s (leP_d (leP_d leP_n))))))))) h
        · have h := h.2 hc
          refine wp_iload (pc' := 102) (i := 8) rfl dX10_best_100 rfl ?_
          refine wp_if_eq (pc' := 105) (tgt := 113) ⟨by decide, by decide⟩ dX10_best_102 rfl rfl (fun hc => ?_) (fun hc => by exfalso; revert hc; decide)
          exact wp_dropP (leP_s (leP_s (leP_s (leP_s (leP_s (leP_s (leP_s (leP_d (leP_d leP_n))))))))) h
    · have h := h.2 hc
      refine wp_iconst (pc' := 80) dX10_best_79 rfl ?_
      refine wp_goto (tgt := 84) dX10_best_80 rfl ?_
      refine wp_istore (pc' := 86) (i := 8) (L' := [vR 1, vI a1, vI a2, vI a3, vI a4, vI a5, vI a6, vI x3, vI 1]) (by decide) rfl dX10_best_84 rfl rfl ?_
      refine wp_iload (pc' := 88) (i := 7) rfl dX10_best_86 rfl ?_
      refine wp_iload (pc' := 90) (i := 5) rfl dX10_best_88 rfl ?_
      obtain ⟨h10, h⟩ := h
      obtain ⟨h11, h⟩ := h
      refine wp_icmp_gt (pc' := 93) (tgt := 105) h10 h11 dX10_best_90 rfl rfl (fun hc => ?_) (fun hc => ?_)
      · have h := h.1 hc
        exact wp_dropP (leP_s (leP_s (leP_s (leP_s (leP_d (leP_d (leP_s (leP_s (leP_d leP_n))))))))) h
      · have h := h.2 hc
        refine wp_iload (pc' := 95) (i := 7) rfl dX10_best_93 rfl ?_
        refine wp_iload (pc' := 97) (i := 5) rfl dX10_best_95 rfl ?_
        refine wp_icmp_ne (pc' := 100) (tgt := 113) h10 h11 dX10_best_97 rfl rfl (fun hc => ?_) (fun hc => ?_)
        · have h := h.1 hc
          exact wp_dropP (leP_s (leP_s (leP_s (leP_s (leP_s (leP_s (leP_s (leP_d (leP_d leP_n))))))))) h
        · have h := h.2 hc
          refine wp_iload (pc' := 102) (i := 8) rfl dX10_best_100 rfl ?_
          refine wp_if_eq (pc' := 105) (tgt := 113) ⟨by decide, by decide⟩ dX10_best_102 rfl rfl (fun hc => by exfalso; revert hc; decide) (fun hc => ?_)
          exact wp_dropP (leP_s (leP_s (leP_s (leP_s (leP_d (leP_d (leP_s (leP_s (leP_d leP_n))))))))) h

set_option maxRecDepth 4000 in
theorem gX10_best_105 {Q : QT} {I : II} {R : RR} (hR : SR R) {a1 : Int} {a2 : Int} {a3 : Int} {a6 : Int} {a7 : Int}
    (h : wp (kN 89) mX10_best Q 113 [vR 1, vI a1, vI a2, vI a3, vI a6, vI a7, vI a6, none, none] [] I R 89) : wp (kN 89) mX10_best Q 105 [vR 1, vI a1, vI a2, vI a3, none, none, vI a6, vI a7, none] [] I R 89 := by
  refine wp_iload (pc' := 107) (i := 6) rfl dX10_best_105 rfl ?_
  refine wp_istore (pc' := 109) (i := 4) (L' := [vR 1, vI a1, vI a2, vI a3, vI a6, none, vI a6, vI a7, none]) (by decide) rfl dX10_best_107 rfl rfl ?_
  refine wp_iload (pc' := 111) (i := 7) rfl dX10_best_109 rfl ?_
  refine wp_istore (pc' := 113) (i := 5) (L' := [vR 1, vI a1, vI a2, vI a3, vI a6, vI a7, vI a6, vI a7, none]) (by decide) rfl dX10_best_111 rfl rfl ?_
  exact wp_dropP (leP_s (leP_s (leP_s (leP_s (leP_s (leP_s (leP_s (leP_d (leP_s leP_n))))))))) h

set_option maxRecDepth 4000 in
theorem gX10_best_113 {Q : QT} {I : II} {R : RR} (hR : SR R) {a1 : Int} {a2 : Int} {a3 : Int} {a4 : Int} {a5 : Int} {a6 : Int}
    (h : wp (kN 89) mX10_best Q 46 [vR 1, vI a1, vI a2, vI a3, vI a4, vI a5, vI (a6 + 1), none, none] [] I R 89) : wp (kN 89) mX10_best Q 113 [vR 1, vI a1, vI a2, vI a3, vI a4, vI a5, vI a6, none, none] [] I R 89 := by
  refine wp_iinc (pc' := 116) (i := 6) (L' := [vR 1, vI a1, vI a2, vI a3, vI a4, vI a5, vI (a6 + 1), none, none]) rfl (by decide) rfl dX10_best_113 rfl rfl ?_
  refine wp_goto (tgt := 46) dX10_best_116 rfl ?_
  exact h

theorem sX10_round {Q : QT} {I : II} {R : RR} {a1 : Int} {a2 : Int} {a3 : Int} (h : wp (kN 89) mX10_round Q 0 [vR 1, vI a1, vI a2, vI a3] [] I R 89) : Spec mX10_round [vR 1, vI a1, vI a2, vI a3] I R 89 89 Q := Spec_of_wp pyX10_round rfl (Nat.le_of_ble_eq_true rfl) (Nat.le_refl _) (by decide) h

set_option maxRecDepth 4000 in
theorem gX10_round_0 {Q : QT} {I : II} {R : RR} (hR : SR R) {a1 : Int} {a2 : Int} {a3 : Int}
    (h : (InI a1) ∧
      (((0 : Int) ≤ a1 ∧ a1 ≤ (3 : Int) →
      (InI a2) ∧
      (((0 : Int) ≤ a2 ∧ a2 ≤ (9999 : Int) →
      (InI a3) ∧
      (((0 : Int) ≤ a3 ∧ a3 ≤ (3 : Int) →
      (∃ Q7 : QT, Spec mX7_play [vR 38, vR (R 1 2), vI a1, vI a2, vR 18] I R 89 89 Q7 ∧ (∀ I7 R7, Q7 none I7 R7 →
      R = R7 ∧ ((¬ a3 = 0 →
      ((¬ a3 = (1 : Int) →
      ((¬ a3 = (2 : Int) →
      Q (vI (I7 38 6 - I7 38 5)) I7 R) ∧ (a3 = (2 : Int) →
      Q (vI (I7 38 9)) I7 R))) ∧ (a3 = (1 : Int) →
      Q (vI (I7 38 8)) I7 R))) ∧ (a3 = 0 →
      Q (vI (I7 38 7)) I7 R))))) ∧ (¬ ((0 : Int) ≤ a3 ∧ a3 ≤ (3 : Int)) →
      wp (kN 89) mX10_round Q 29 [none, none, none, none] [] I R 89))) ∧ (¬ ((0 : Int) ≤ a2 ∧ a2 ≤ (9999 : Int)) →
      wp (kN 89) mX10_round Q 29 [none, none, none, none] [] I R 89))) ∧ (¬ ((0 : Int) ≤ a1 ∧ a1 ≤ (3 : Int)) →
      wp (kN 89) mX10_round Q 29 [none, none, none, none] [] I R 89))) : wp (kN 89) mX10_round Q 0 [vR 1, vI a1, vI a2, vI a3] [] I R 89 := by
  refine wp_iload_n (pc' := 1) (q := 1) (i := 1) rfl rfl dX10_round_0 rfl ?_
  refine wp_iconst (pc' := 2) dX10_round_1 rfl ?_
  refine wp_iconst (pc' := 3) dX10_round_2 rfl ?_
  obtain ⟨h2, h⟩ := h
  refine wp_callS (pc' := 6) (as := [vI a1, vI 0, vI 3]) (rest := []) (pX10_within (by decide) h2 ⟨by decide, by decide⟩ ⟨by decide, by decide⟩) dX10_round_3 rfl lkX10_84 okX10_within stX10_within ⟨Nat.le_of_ble_eq_true rfl, Nat.le_of_ble_eq_true rfl⟩ (Nat.le_of_ble_eq_true rfl) (Nat.le_refl _) (Nat.le_refl _) okP_eq okP_eq rfl (rvZ rfl (fun x1 I1 R1 hz1 hq1 => ?_))
  obtain ⟨eR1, eI1, ex1⟩ := hq1; subst eR1; subst eI1; cases ex1
  by_cases hc : (0 : Int) ≤ a1 ∧ a1 ≤ (3 : Int)
  · rw [if_pos hc]; have h := h.1 hc
    refine wp_if_eq (pc' := 9) (tgt := 29) ⟨by decide, by decide⟩ dX10_round_6 rfl rfl (fun hc => by exfalso; revert hc; decide) (fun hc => ?_)
    refine wp_iload_n (pc' := 10) (q := 2) (i := 2) rfl rfl dX10_round_9 rfl ?_
    refine wp_iconst (pc' := 11) dX10_round_10 rfl ?_
    refine wp_sipush (pc' := 14) (by decide) dX10_round_11 rfl ?_
    obtain ⟨h4, h⟩ := h
    refine wp_callS (pc' := 17) (as := [vI a2, vI 0, vI 9999]) (rest := []) (pX10_within (by decide) h4 ⟨by decide, by decide⟩ ⟨by decide, by decide⟩) dX10_round_14 rfl lkX10_84 okX10_within stX10_within ⟨Nat.le_of_ble_eq_true rfl, Nat.le_of_ble_eq_true rfl⟩ (Nat.le_of_ble_eq_true rfl) (Nat.le_refl _) (Nat.le_refl _) okP_eq okP_eq rfl (rvZ rfl (fun x3 I3 R3 hz3 hq3 => ?_))
    obtain ⟨eR3, eI3, ex3⟩ := hq3; subst eR3; subst eI3; cases ex3
    by_cases hc : (0 : Int) ≤ a2 ∧ a2 ≤ (9999 : Int)
    · rw [if_pos hc]; have h := h.1 hc
      refine wp_if_eq (pc' := 20) (tgt := 29) ⟨by decide, by decide⟩ dX10_round_17 rfl rfl (fun hc => by exfalso; revert hc; decide) (fun hc => ?_)
      refine wp_iload_n (pc' := 21) (q := 3) (i := 3) rfl rfl dX10_round_20 rfl ?_
      refine wp_iconst (pc' := 22) dX10_round_21 rfl ?_
      refine wp_iconst (pc' := 23) dX10_round_22 rfl ?_
      obtain ⟨h6, h⟩ := h
      refine wp_callS (pc' := 26) (as := [vI a3, vI 0, vI 3]) (rest := []) (pX10_within (by decide) h6 ⟨by decide, by decide⟩ ⟨by decide, by decide⟩) dX10_round_23 rfl lkX10_84 okX10_within stX10_within ⟨Nat.le_of_ble_eq_true rfl, Nat.le_of_ble_eq_true rfl⟩ (Nat.le_of_ble_eq_true rfl) (Nat.le_refl _) (Nat.le_refl _) okP_eq okP_eq rfl (rvZ rfl (fun x5 I5 R5 hz5 hq5 => ?_))
      obtain ⟨eR5, eI5, ex5⟩ := hq5; subst eR5; subst eI5; cases ex5
      by_cases hc : (0 : Int) ≤ a3 ∧ a3 ≤ (3 : Int)
      · rw [if_pos hc]; have h := h.1 hc
        refine wp_if_ne (pc' := 29) (tgt := 33) ⟨by decide, by decide⟩ dX10_round_26 rfl rfl (fun hc => ?_) (fun hc => by exfalso; revert hc; decide)
        refine wp_aload_n (pc' := 34) (q := 0) (i := 0) rfl rfl dX10_round_33 rfl ?_
        refine wp_getRc (pc' := 37) (k := 9) (j := 38) dX10_round_34 vc9 (by decide) rfl lfX10_63 o_1 (r_1_9 hR) rfl ?_
        refine wp_aload_n (pc' := 38) (q := 0) (i := 0) rfl rfl dX10_round_37 rfl ?_
        refine wp_getR (pc' := 41) (k := 2) dX10_round_38 vc9 (by decide) rfl lfX10_26 o_1 rfl ?_
        refine wp_iload_n (pc' := 42) (q := 1) (i := 1) rfl rfl dX10_round_41 rfl ?_
        refine wp_iload_n (pc' := 43) (q := 2) (i := 2) rfl rfl dX10_round_42 rfl ?_
        refine wp_aload_n (pc' := 44) (q := 0) (i := 0) rfl rfl dX10_round_43 rfl ?_
        refine wp_getRc (pc' := 47) (k := 4) (j := 18) dX10_round_44 vc9 (by decide) rfl lfX10_36 o_1 (r_1_4 hR) rfl ?_
        obtain ⟨Q7, hs7, h⟩ := h
        refine wp_callV (pc' := 50) (as := [vR (R 1 2), vI a1, vI a2, vR 18]) (rest := []) hs7 dX10_round_47 rfl lkX10_181 okX7_play inX7_play seX7_play o_38 vc7 ⟨Nat.le_of_ble_eq_true rfl, Nat.le_of_ble_eq_true rfl⟩ (Nat.le_of_ble_eq_true rfl) (Nat.le_refl _) (Nat.le_refl _) okP_eq okP_eq rfl (rvV rfl (fun I7 R7 hq7 => ?_))
        obtain ⟨hRR7, h⟩ := h I7 R7 hq7; subst hRR7
        refine wp_iload_n (pc' := 51) (q := 3) (i := 3) rfl rfl dX10_round_50 rfl ?_
        refine wp_if_ne (pc' := 54) (tgt := 62) h6 dX10_round_51 rfl rfl (fun hc => ?_) (fun hc => ?_)
        · have h := h.1 hc
          refine wp_iload_n (pc' := 63) (q := 3) (i := 3) rfl rfl dX10_round_62 rfl ?_
          refine wp_iconst (pc' := 64) dX10_round_63 rfl ?_
          refine wp_icmp_ne (pc' := 67) (tgt := 75) h6 ⟨by decide, by decide⟩ dX10_round_64 rfl rfl (fun hc => ?_) (fun hc => ?_)
          · have h := h.1 hc
            refine wp_iload_n (pc' := 76) (q := 3) (i := 3) rfl rfl dX10_round_75 rfl ?_
            refine wp_iconst (pc' := 77) dX10_round_76 rfl ?_
            refine wp_icmp_ne (pc' := 80) (tgt := 90) h6 ⟨by decide, by decide⟩ dX10_round_77 rfl rfl (fun hc => ?_) (fun hc => ?_)
            · have h := h.1 hc
              refine wp_aload_n (pc' := 91) (q := 0) (i := 0) rfl rfl dX10_round_90 rfl ?_
              refine wp_getRc (pc' := 94) (k := 9) (j := 38) dX10_round_91 vc9 (by decide) rfl lfX10_63 o_1 (r_1_9 hR) rfl ?_
              refine wp_callV (pc' := 97) (as := []) (rest := []) (pX7_wanders hR) dX10_round_94 rfl lkX10_194 okX7_wanders inX7_wanders seX7_wanders o_38 vc7 ⟨Nat.le_of_ble_eq_true rfl, Nat.le_of_ble_eq_true rfl⟩ (Nat.le_of_ble_eq_true rfl) (Nat.le_refl _) (Nat.le_refl _) okP_eq okP_eq rfl (rvI rfl (fun x8 I8 R8 hq8 => ?_))
              obtain ⟨eR8, eI8, ex8⟩ := hq8; subst eR8; subst eI8; cases ex8
              exact wp_ireturn dX10_round_97 rfl rfl h
            · have h := h.2 hc
              refine wp_aload_n (pc' := 81) (q := 0) (i := 0) rfl rfl dX10_round_80 rfl ?_
              refine wp_getRc (pc' := 84) (k := 9) (j := 38) dX10_round_81 vc9 (by decide) rfl lfX10_63 o_1 (r_1_9 hR) rfl ?_
              refine wp_getI (pc' := 87) (k := 9) dX10_round_84 vc7 (by decide) rfl lfX10_191 o_38 rfl ?_
              refine wp_goto (tgt := 97) dX10_round_87 rfl ?_
              exact wp_ireturn dX10_round_97 rfl rfl h
          · have h := h.2 hc
            refine wp_aload_n (pc' := 68) (q := 0) (i := 0) rfl rfl dX10_round_67 rfl ?_
            refine wp_getRc (pc' := 71) (k := 9) (j := 38) dX10_round_68 vc9 (by decide) rfl lfX10_63 o_1 (r_1_9 hR) rfl ?_
            refine wp_getI (pc' := 74) (k := 8) dX10_round_71 vc7 (by decide) rfl lfX10_188 o_38 rfl ?_
            exact wp_ireturn dX10_round_74 rfl rfl h
        · have h := h.2 hc
          refine wp_aload_n (pc' := 55) (q := 0) (i := 0) rfl rfl dX10_round_54 rfl ?_
          refine wp_getRc (pc' := 58) (k := 9) (j := 38) dX10_round_55 vc9 (by decide) rfl lfX10_63 o_1 (r_1_9 hR) rfl ?_
          refine wp_getI (pc' := 61) (k := 7) dX10_round_58 vc7 (by decide) rfl lfX10_185 o_38 rfl ?_
          exact wp_ireturn dX10_round_61 rfl rfl h
      · rw [if_neg hc]; have h := h.2 hc
        refine wp_if_ne (pc' := 29) (tgt := 33) ⟨by decide, by decide⟩ dX10_round_26 rfl rfl (fun hc => by exfalso; revert hc; decide) (fun hc => ?_)
        exact wp_dropP (leP_d (leP_d (leP_d (leP_d leP_n)))) h
    · rw [if_neg hc]; have h := h.2 hc
      refine wp_if_eq (pc' := 20) (tgt := 29) ⟨by decide, by decide⟩ dX10_round_17 rfl rfl (fun hc => ?_) (fun hc => by exfalso; revert hc; decide)
      exact wp_dropP (leP_d (leP_d (leP_d (leP_d leP_n)))) h
  · rw [if_neg hc]; have h := h.2 hc
    refine wp_if_eq (pc' := 9) (tgt := 29) ⟨by decide, by decide⟩ dX10_round_6 rfl rfl (fun hc => ?_) (fun hc => by exfalso; revert hc; decide)
    exact wp_dropP (leP_d (leP_d (leP_d (leP_d leP_n)))) h

set_option maxRecDepth 4000 in
theorem gX10_round_29 {Q : QT} {I : II} {R : RR} (hR : SR R) 
    (h : Q (vI (-10000)) I R) : wp (kN 89) mX10_round Q 29 [none, none, none, none] [] I R 89 := by
  refine wp_sipush (pc' := 32) (by decide) dX10_round_29 rfl ?_
  exact wp_ireturn dX10_round_32 rfl rfl h

theorem sX10_of {Q : QT} {I : II} {R : RR} {a1 : Int} {a2 : Int} {a3 : Int} (h : wp (kN 89) mX10_of Q 0 [vR 1, vI a1, vI a2, vI a3] [] I R 89) : Spec mX10_of [vR 1, vI a1, vI a2, vI a3] I R 89 89 Q := Spec_of_wp pyX10_of rfl (Nat.le_of_ble_eq_true rfl) (Nat.le_refl _) (by decide) h

set_option maxRecDepth 4000 in
theorem gX10_of_0 {Q : QT} {I : II} {R : RR} (hR : SR R) {a1 : Int} {a2 : Int} {a3 : Int}
    (h : (InI a1) ∧
      (((0 : Int) ≤ a1 ∧ a1 ≤ (3 : Int) →
      (InI a2) ∧
      (((0 : Int) ≤ a2 ∧ a2 ≤ (9999 : Int) →
      (isO 89 (R 1 2) 6) ∧
      (InI a3) ∧
      (InI (I (R 1 2) 5)) ∧
      ((0 ≤ a3 ∧ a3 < (I (R 1 2) 5) →
      (∃ Q9 : QT, Spec mX7_play [vR 38, vR (R 1 2), vI a1, vI a2, vR 18] I R 89 89 Q9 ∧ (∀ I9 R9, Q9 none I9 R9 →
      R = R9 ∧ (0 ≤ a3 ∧ a3 < 20) ∧
      Q (vI (I9 39 a3.toNat)) I9 R))) ∧ (¬ (0 ≤ a3 ∧ a3 < (I (R 1 2) 5)) →
      wp (kN 89) mX10_of Q 31 [none, none, none, none] [] I R 89))) ∧ (¬ ((0 : Int) ≤ a2 ∧ a2 ≤ (9999 : Int)) →
      wp (kN 89) mX10_of Q 31 [none, none, none, none] [] I R 89))) ∧ (¬ ((0 : Int) ≤ a1 ∧ a1 ≤ (3 : Int)) →
      wp (kN 89) mX10_of Q 31 [none, none, none, none] [] I R 89))) : wp (kN 89) mX10_of Q 0 [vR 1, vI a1, vI a2, vI a3] [] I R 89 := by
  refine wp_iload_n (pc' := 1) (q := 1) (i := 1) rfl rfl dX10_of_0 rfl ?_
  refine wp_iconst (pc' := 2) dX10_of_1 rfl ?_
  refine wp_iconst (pc' := 3) dX10_of_2 rfl ?_
  obtain ⟨h2, h⟩ := h
  refine wp_callS (pc' := 6) (as := [vI a1, vI 0, vI 3]) (rest := []) (pX10_within (by decide) h2 ⟨by decide, by decide⟩ ⟨by decide, by decide⟩) dX10_of_3 rfl lkX10_84 okX10_within stX10_within ⟨Nat.le_of_ble_eq_true rfl, Nat.le_of_ble_eq_true rfl⟩ (Nat.le_of_ble_eq_true rfl) (Nat.le_refl _) (Nat.le_refl _) okP_eq okP_eq rfl (rvZ rfl (fun x1 I1 R1 hz1 hq1 => ?_))
  obtain ⟨eR1, eI1, ex1⟩ := hq1; subst eR1; subst eI1; cases ex1
  by_cases hc : (0 : Int) ≤ a1 ∧ a1 ≤ (3 : Int)
  · rw [if_pos hc]; have h := h.1 hc
    refine wp_if_eq (pc' := 9) (tgt := 31) ⟨by decide, by decide⟩ dX10_of_6 rfl rfl (fun hc => by exfalso; revert hc; decide) (fun hc => ?_)
    refine wp_iload_n (pc' := 10) (q := 2) (i := 2) rfl rfl dX10_of_9 rfl ?_
    refine wp_iconst (pc' := 11) dX10_of_10 rfl ?_
    refine wp_sipush (pc' := 14) (by decide) dX10_of_11 rfl ?_
    obtain ⟨h4, h⟩ := h
    refine wp_callS (pc' := 17) (as := [vI a2, vI 0, vI 9999]) (rest := []) (pX10_within (by decide) h4 ⟨by decide, by decide⟩ ⟨by decide, by decide⟩) dX10_of_14 rfl lkX10_84 okX10_within stX10_within ⟨Nat.le_of_ble_eq_true rfl, Nat.le_of_ble_eq_true rfl⟩ (Nat.le_of_ble_eq_true rfl) (Nat.le_refl _) (Nat.le_refl _) okP_eq okP_eq rfl (rvZ rfl (fun x3 I3 R3 hz3 hq3 => ?_))
    obtain ⟨eR3, eI3, ex3⟩ := hq3; subst eR3; subst eI3; cases ex3
    by_cases hc : (0 : Int) ≤ a2 ∧ a2 ≤ (9999 : Int)
    · rw [if_pos hc]; have h := h.1 hc
      refine wp_if_eq (pc' := 20) (tgt := 31) ⟨by decide, by decide⟩ dX10_of_17 rfl rfl (fun hc => by exfalso; revert hc; decide) (fun hc => ?_)
      refine wp_aload_n (pc' := 21) (q := 0) (i := 0) rfl rfl dX10_of_20 rfl ?_
      refine wp_getR (pc' := 24) (k := 2) dX10_of_21 vc9 (by decide) rfl lfX10_26 o_1 rfl ?_
      refine wp_iload_n (pc' := 25) (q := 3) (i := 3) rfl rfl dX10_of_24 rfl ?_
      obtain ⟨h6, h⟩ := h
      obtain ⟨h7, h⟩ := h
      obtain ⟨h8, h⟩ := h
      refine wp_callV (pc' := 28) (as := [vI a3]) (rest := []) (pX6_has (by decide) h6 h7 h8) dX10_of_25 rfl lkX10_109 okX6_has inX6_has seX6_has h6 vc6 ⟨Nat.le_of_ble_eq_true rfl, Nat.le_of_ble_eq_true rfl⟩ (Nat.le_of_ble_eq_true rfl) (Nat.le_refl _) (Nat.le_refl _) okP_eq okP_eq rfl (rvZ rfl (fun x5 I5 R5 hz5 hq5 => ?_))
      obtain ⟨eR5, eI5, ex5⟩ := hq5; subst eR5; subst eI5; cases ex5
      by_cases hc : 0 ≤ a3 ∧ a3 < (I (R 1 2) 5)
      · rw [if_pos hc]; have h := h.1 hc
        refine wp_if_ne (pc' := 31) (tgt := 33) ⟨by decide, by decide⟩ dX10_of_28 rfl rfl (fun hc => ?_) (fun hc => by exfalso; revert hc; decide)
        refine wp_aload_n (pc' := 34) (q := 0) (i := 0) rfl rfl dX10_of_33 rfl ?_
        refine wp_getRc (pc' := 37) (k := 9) (j := 38) dX10_of_34 vc9 (by decide) rfl lfX10_63 o_1 (r_1_9 hR) rfl ?_
        refine wp_aload_n (pc' := 38) (q := 0) (i := 0) rfl rfl dX10_of_37 rfl ?_
        refine wp_getR (pc' := 41) (k := 2) dX10_of_38 vc9 (by decide) rfl lfX10_26 o_1 rfl ?_
        refine wp_iload_n (pc' := 42) (q := 1) (i := 1) rfl rfl dX10_of_41 rfl ?_
        refine wp_iload_n (pc' := 43) (q := 2) (i := 2) rfl rfl dX10_of_42 rfl ?_
        refine wp_aload_n (pc' := 44) (q := 0) (i := 0) rfl rfl dX10_of_43 rfl ?_
        refine wp_getRc (pc' := 47) (k := 4) (j := 18) dX10_of_44 vc9 (by decide) rfl lfX10_36 o_1 (r_1_4 hR) rfl ?_
        obtain ⟨Q9, hs9, h⟩ := h
        refine wp_callV (pc' := 50) (as := [vR (R 1 2), vI a1, vI a2, vR 18]) (rest := []) hs9 dX10_of_47 rfl lkX10_181 okX7_play inX7_play seX7_play o_38 vc7 ⟨Nat.le_of_ble_eq_true rfl, Nat.le_of_ble_eq_true rfl⟩ (Nat.le_of_ble_eq_true rfl) (Nat.le_refl _) (Nat.le_refl _) okP_eq okP_eq rfl (rvV rfl (fun I9 R9 hq9 => ?_))
        obtain ⟨hRR9, h⟩ := h I9 R9 hq9; subst hRR9
        refine wp_aload_n (pc' := 51) (q := 0) (i := 0) rfl rfl dX10_of_50 rfl ?_
        refine wp_getRc (pc' := 54) (k := 9) (j := 38) dX10_of_51 vc9 (by decide) rfl lfX10_63 o_1 (r_1_9 hR) rfl ?_
        refine wp_getRc (pc' := 57) (k := 0) (j := 39) dX10_of_54 vc7 (by decide) rfl lfX10_197 o_38 (r_38_0 hR) rfl ?_
        refine wp_iload_n (pc' := 58) (q := 3) (i := 3) rfl rfl dX10_of_57 rfl ?_
        obtain ⟨h10, h⟩ := h
        refine wp_iald (pc' := 59) (j := a3.toNat) dX10_of_58 a_39 h10 rfl rfl ?_
        exact wp_ireturn dX10_of_59 rfl rfl h
      · rw [if_neg hc]; have h := h.2 hc
        refine wp_if_ne (pc' := 31) (tgt := 33) ⟨by decide, by decide⟩ dX10_of_28 rfl rfl (fun hc => by exfalso; revert hc; decide) (fun hc => ?_)
        exact wp_dropP (leP_d (leP_d (leP_d (leP_d leP_n)))) h
    · rw [if_neg hc]; have h := h.2 hc
      refine wp_if_eq (pc' := 20) (tgt := 31) ⟨by decide, by decide⟩ dX10_of_17 rfl rfl (fun hc => ?_) (fun hc => by exfalso; revert hc; decide)
      exact wp_dropP (leP_d (leP_d (leP_d (leP_d leP_n)))) h
  · rw [if_neg hc]; have h := h.2 hc
    refine wp_if_eq (pc' := 9) (tgt := 31) ⟨by decide, by decide⟩ dX10_of_6 rfl rfl (fun hc => ?_) (fun hc => by exfalso; revert hc; decide)
    exact wp_dropP (leP_d (leP_d (leP_d (leP_d leP_n)))) h

set_option maxRecDepth 4000 in
theorem gX10_of_31 {Q : QT} {I : II} {R : RR} (hR : SR R) 
    (h : Q (vI (-1)) I R) : wp (kN 89) mX10_of Q 31 [none, none, none, none] [] I R 89 := by
  refine wp_iconst (pc' := 32) dX10_of_31 rfl ?_
  exact wp_ireturn dX10_of_32 rfl rfl h

theorem sX10_means {Q : QT} {I : II} {R : RR} {a1 : Int} {a2 : Int} {a3 : Int} (h : wp (kN 89) mX10_means Q 0 [vR 1, vI a1, vI a2, vI a3] [] I R 89) : Spec mX10_means [vR 1, vI a1, vI a2, vI a3] I R 89 89 Q := Spec_of_wp pyX10_means rfl (Nat.le_of_ble_eq_true rfl) (Nat.le_refl _) (by decide) h

set_option maxRecDepth 4000 in
theorem gX10_means_0 {Q : QT} {I : II} {R : RR} (hR : SR R) {a1 : Int} {a2 : Int} {a3 : Int}
    (h : (InI a1) ∧
      (((0 : Int) ≤ a1 ∧ a1 ≤ (3 : Int) →
      (InI a2) ∧
      (((0 : Int) ≤ a2 ∧ a2 ≤ (9999 : Int) →
      (InI a3) ∧
      (((0 : Int) ≤ a3 ∧ a3 ≤ (2 : Int) →
      (∃ Q7 : QT, Spec mX10_sumUp [vR 1, vI a1, vI a2] I R 89 89 Q7 ∧ (∀ I7 R7, Q7 none I7 R7 →
      R = R7 ∧ (0 ≤ a1 ∧ a1 < 4) ∧
      (isA 89 (R 49 a1.toNat) 1 3) ∧
      (0 ≤ a3 ∧ a3 < 3) ∧
      Q (vI (I7 (R 49 a1.toNat) a3.toNat)) I7 R))) ∧ (¬ ((0 : Int) ≤ a3 ∧ a3 ≤ (2 : Int)) →
      wp (kN 89) mX10_means Q 29 [none, none, none, none] [] I R 89))) ∧ (¬ ((0 : Int) ≤ a2 ∧ a2 ≤ (9999 : Int)) →
      wp (kN 89) mX10_means Q 29 [none, none, none, none] [] I R 89))) ∧ (¬ ((0 : Int) ≤ a1 ∧ a1 ≤ (3 : Int)) →
      wp (kN 89) mX10_means Q 29 [none, none, none, none] [] I R 89))) : wp (kN 89) mX10_means Q 0 [vR 1, vI a1, vI a2, vI a3] [] I R 89 := by
  refine wp_iload_n (pc' := 1) (q := 1) (i := 1) rfl rfl dX10_means_0 rfl ?_
  refine wp_iconst (pc' := 2) dX10_means_1 rfl ?_
  refine wp_iconst (pc' := 3) dX10_means_2 rfl ?_
  obtain ⟨h2, h⟩ := h
  refine wp_callS (pc' := 6) (as := [vI a1, vI 0, vI 3]) (rest := []) (pX10_within (by decide) h2 ⟨by decide, by decide⟩ ⟨by decide, by decide⟩) dX10_means_3 rfl lkX10_84 okX10_within stX10_within ⟨Nat.le_of_ble_eq_true rfl, Nat.le_of_ble_eq_true rfl⟩ (Nat.le_of_ble_eq_true rfl) (Nat.le_refl _) (Nat.le_refl _) okP_eq okP_eq rfl (rvZ rfl (fun x1 I1 R1 hz1 hq1 => ?_))
  obtain ⟨eR1, eI1, ex1⟩ := hq1; subst eR1; subst eI1; cases ex1
  by_cases hc : (0 : Int) ≤ a1 ∧ a1 ≤ (3 : Int)
  · rw [if_pos hc]; have h := h.1 hc
    refine wp_if_eq (pc' := 9) (tgt := 29) ⟨by decide, by decide⟩ dX10_means_6 rfl rfl (fun hc => by exfalso; revert hc; decide) (fun hc => ?_)
    refine wp_iload_n (pc' := 10) (q := 2) (i := 2) rfl rfl dX10_means_9 rfl ?_
    refine wp_iconst (pc' := 11) dX10_means_10 rfl ?_
    refine wp_sipush (pc' := 14) (by decide) dX10_means_11 rfl ?_
    obtain ⟨h4, h⟩ := h
    refine wp_callS (pc' := 17) (as := [vI a2, vI 0, vI 9999]) (rest := []) (pX10_within (by decide) h4 ⟨by decide, by decide⟩ ⟨by decide, by decide⟩) dX10_means_14 rfl lkX10_84 okX10_within stX10_within ⟨Nat.le_of_ble_eq_true rfl, Nat.le_of_ble_eq_true rfl⟩ (Nat.le_of_ble_eq_true rfl) (Nat.le_refl _) (Nat.le_refl _) okP_eq okP_eq rfl (rvZ rfl (fun x3 I3 R3 hz3 hq3 => ?_))
    obtain ⟨eR3, eI3, ex3⟩ := hq3; subst eR3; subst eI3; cases ex3
    by_cases hc : (0 : Int) ≤ a2 ∧ a2 ≤ (9999 : Int)
    · rw [if_pos hc]; have h := h.1 hc
      refine wp_if_eq (pc' := 20) (tgt := 29) ⟨by decide, by decide⟩ dX10_means_17 rfl rfl (fun hc => by exfalso; revert hc; decide) (fun hc => ?_)
      refine wp_iload_n (pc' := 21) (q := 3) (i := 3) rfl rfl dX10_means_20 rfl ?_
      refine wp_iconst (pc' := 22) dX10_means_21 rfl ?_
      refine wp_iconst (pc' := 23) dX10_means_22 rfl ?_
      obtain ⟨h6, h⟩ := h
      refine wp_callS (pc' := 26) (as := [vI a3, vI 0, vI 2]) (rest := []) (pX10_within (by decide) h6 ⟨by decide, by decide⟩ ⟨by decide, by decide⟩) dX10_means_23 rfl lkX10_84 okX10_within stX10_within ⟨Nat.le_of_ble_eq_true rfl, Nat.le_of_ble_eq_true rfl⟩ (Nat.le_of_ble_eq_true rfl) (Nat.le_refl _) (Nat.le_refl _) okP_eq okP_eq rfl (rvZ rfl (fun x5 I5 R5 hz5 hq5 => ?_))
      obtain ⟨eR5, eI5, ex5⟩ := hq5; subst eR5; subst eI5; cases ex5
      by_cases hc : (0 : Int) ≤ a3 ∧ a3 ≤ (2 : Int)
      · rw [if_pos hc]; have h := h.1 hc
        refine wp_if_ne (pc' := 29) (tgt := 33) ⟨by decide, by decide⟩ dX10_means_26 rfl rfl (fun hc => ?_) (fun hc => by exfalso; revert hc; decide)
        refine wp_aload_n (pc' := 34) (q := 0) (i := 0) rfl rfl dX10_means_33 rfl ?_
        refine wp_iload_n (pc' := 35) (q := 1) (i := 1) rfl rfl dX10_means_34 rfl ?_
        refine wp_iload_n (pc' := 36) (q := 2) (i := 2) rfl rfl dX10_means_35 rfl ?_
        obtain ⟨Q7, hs7, h⟩ := h
        refine wp_callV (pc' := 39) (as := [vI a1, vI a2]) (rest := []) hs7 dX10_means_36 rfl lkX10_200 okX10_sumUp inX10_sumUp seX10_sumUp o_1 vc9 ⟨Nat.le_of_ble_eq_true rfl, Nat.le_of_ble_eq_true rfl⟩ (Nat.le_of_ble_eq_true rfl) (Nat.le_refl _) (Nat.le_refl _) okP_eq okP_eq rfl (rvV rfl (fun I7 R7 hq7 => ?_))
        obtain ⟨hRR7, h⟩ := h I7 R7 hq7; subst hRR7
        refine wp_aload_n (pc' := 40) (q := 0) (i := 0) rfl rfl dX10_means_39 rfl ?_
        refine wp_getRc (pc' := 43) (k := 11) (j := 49) dX10_means_40 vc9 (by decide) rfl lfX10_76 o_1 (r_1_11 hR) rfl ?_
        refine wp_iload_n (pc' := 44) (q := 1) (i := 1) rfl rfl dX10_means_43 rfl ?_
        obtain ⟨h8, h⟩ := h
        refine wp_aald (pc' := 45) (j := a1.toNat) dX10_means_44 a_49 (Or.inr rfl) h8 rfl rfl ?_
        refine wp_iload_n (pc' := 46) (q := 3) (i := 3) rfl rfl dX10_means_45 rfl ?_
        obtain ⟨h9, h⟩ := h
        obtain ⟨h10, h⟩ := h
        refine wp_iald (pc' := 47) (j := a3.toNat) dX10_means_46 h9 h10 rfl rfl ?_
        exact wp_ireturn dX10_means_47 rfl rfl h
      · rw [if_neg hc]; have h := h.2 hc
        refine wp_if_ne (pc' := 29) (tgt := 33) ⟨by decide, by decide⟩ dX10_means_26 rfl rfl (fun hc => by exfalso; revert hc; decide) (fun hc => ?_)
        exact wp_dropP (leP_d (leP_d (leP_d (leP_d leP_n)))) h
    · rw [if_neg hc]; have h := h.2 hc
      refine wp_if_eq (pc' := 20) (tgt := 29) ⟨by decide, by decide⟩ dX10_means_17 rfl rfl (fun hc => ?_) (fun hc => by exfalso; revert hc; decide)
      exact wp_dropP (leP_d (leP_d (leP_d (leP_d leP_n)))) h
  · rw [if_neg hc]; have h := h.2 hc
    refine wp_if_eq (pc' := 9) (tgt := 29) ⟨by decide, by decide⟩ dX10_means_6 rfl rfl (fun hc => ?_) (fun hc => by exfalso; revert hc; decide)
    exact wp_dropP (leP_d (leP_d (leP_d (leP_d leP_n)))) h

set_option maxRecDepth 4000 in
theorem gX10_means_29 {Q : QT} {I : II} {R : RR} (hR : SR R) 
    (h : Q (vI (-10000)) I R) : wp (kN 89) mX10_means Q 29 [none, none, none, none] [] I R 89 := by
  refine wp_sipush (pc' := 32) (by decide) dX10_means_29 rfl ?_
  exact wp_ireturn dX10_means_32 rfl rfl h

theorem sX10_rules {Q : QT} {I : II} {R : RR} {a1 : Int} {a2 : Int} (h : wp (kN 89) mX10_rules Q 0 [vR 1, vI a1, vI a2, none] [] I R 89) : Spec mX10_rules [vR 1, vI a1, vI a2] I R 89 89 Q := Spec_of_wp pyX10_rules rfl (Nat.le_of_ble_eq_true rfl) (Nat.le_refl _) (by decide) h

set_option maxRecDepth 4000 in
theorem gX10_rules_0 {Q : QT} {I : II} {R : RR} (hR : SR R) {a1 : Int} {a2 : Int}
    (h : (InI a1) ∧
      (((0 : Int) ≤ a1 ∧ a1 ≤ (9999 : Int) →
      (InI a2) ∧
      (((0 : Int) ≤ a2 ∧ a2 ≤ (3 : Int) →
      wp (kN 89) mX10_rules Q 24 [vR 1, vI a1, vI a2, vI 0] [] I R 89) ∧ (¬ ((0 : Int) ≤ a2 ∧ a2 ≤ (3 : Int)) →
      wp (kN 89) mX10_rules Q 20 [none, none, none, none] [] I R 89))) ∧ (¬ ((0 : Int) ≤ a1 ∧ a1 ≤ (9999 : Int)) →
      wp (kN 89) mX10_rules Q 20 [none, none, none, none] [] I R 89))) : wp (kN 89) mX10_rules Q 0 [vR 1, vI a1, vI a2, none] [] I R 89 := by
  refine wp_iload_n (pc' := 1) (q := 1) (i := 1) rfl rfl dX10_rules_0 rfl ?_
  refine wp_iconst (pc' := 2) dX10_rules_1 rfl ?_
  refine wp_sipush (pc' := 5) (by decide) dX10_rules_2 rfl ?_
  obtain ⟨h2, h⟩ := h
  refine wp_callS (pc' := 8) (as := [vI a1, vI 0, vI 9999]) (rest := []) (pX10_within (by decide) h2 ⟨by decide, by decide⟩ ⟨by decide, by decide⟩) dX10_rules_5 rfl lkX10_84 okX10_within stX10_within ⟨Nat.le_of_ble_eq_true rfl, Nat.le_of_ble_eq_true rfl⟩ (Nat.le_of_ble_eq_true rfl) (Nat.le_refl _) (Nat.le_refl _) okP_eq okP_eq rfl (rvZ rfl (fun x1 I1 R1 hz1 hq1 => ?_))
  obtain ⟨eR1, eI1, ex1⟩ := hq1; subst eR1; subst eI1; cases ex1
  by_cases hc : (0 : Int) ≤ a1 ∧ a1 ≤ (9999 : Int)
  · rw [if_pos hc]; have h := h.1 hc
    refine wp_if_eq (pc' := 11) (tgt := 20) ⟨by decide, by decide⟩ dX10_rules_8 rfl rfl (fun hc => by exfalso; revert hc; decide) (fun hc => ?_)
    refine wp_iload_n (pc' := 12) (q := 2) (i := 2) rfl rfl dX10_rules_11 rfl ?_
    refine wp_iconst (pc' := 13) dX10_rules_12 rfl ?_
    refine wp_iconst (pc' := 14) dX10_rules_13 rfl ?_
    obtain ⟨h4, h⟩ := h
    refine wp_callS (pc' := 17) (as := [vI a2, vI 0, vI 3]) (rest := []) (pX10_within (by decide) h4 ⟨by decide, by decide⟩ ⟨by decide, by decide⟩) dX10_rules_14 rfl lkX10_84 okX10_within stX10_within ⟨Nat.le_of_ble_eq_true rfl, Nat.le_of_ble_eq_true rfl⟩ (Nat.le_of_ble_eq_true rfl) (Nat.le_refl _) (Nat.le_refl _) okP_eq okP_eq rfl (rvZ rfl (fun x3 I3 R3 hz3 hq3 => ?_))
    obtain ⟨eR3, eI3, ex3⟩ := hq3; subst eR3; subst eI3; cases ex3
    by_cases hc : (0 : Int) ≤ a2 ∧ a2 ≤ (3 : Int)
    · rw [if_pos hc]; have h := h.1 hc
      refine wp_if_ne (pc' := 20) (tgt := 22) ⟨by decide, by decide⟩ dX10_rules_17 rfl rfl (fun hc => ?_) (fun hc => by exfalso; revert hc; decide)
      refine wp_iconst (pc' := 23) dX10_rules_22 rfl ?_
      refine wp_istore_n (pc' := 24) (q := 3) (i := 3) (L' := [vR 1, vI a1, vI a2, vI 0]) rfl (by decide) rfl dX10_rules_23 rfl rfl ?_
      exact h
    · rw [if_neg hc]; have h := h.2 hc
      refine wp_if_ne (pc' := 20) (tgt := 22) ⟨by decide, by decide⟩ dX10_rules_17 rfl rfl (fun hc => by exfalso; revert hc; decide) (fun hc => ?_)
      exact wp_dropP (leP_d (leP_d (leP_d (leP_s leP_n)))) h
  · rw [if_neg hc]; have h := h.2 hc
    refine wp_if_eq (pc' := 11) (tgt := 20) ⟨by decide, by decide⟩ dX10_rules_8 rfl rfl (fun hc => ?_) (fun hc => by exfalso; revert hc; decide)
    exact wp_dropP (leP_d (leP_d (leP_d (leP_s leP_n)))) h

set_option maxRecDepth 4000 in
theorem gX10_rules_20 {Q : QT} {I : II} {R : RR} (hR : SR R) 
    (h : Q (vI (-1)) I R) : wp (kN 89) mX10_rules Q 20 [none, none, none, none] [] I R 89 := by
  refine wp_iconst (pc' := 21) dX10_rules_20 rfl ?_
  exact wp_ireturn dX10_rules_21 rfl rfl h

set_option maxRecDepth 4000 in
theorem gX10_rules_24 {Q : QT} {I : II} {R : RR} (hR : SR R) {a1 : Int} {a2 : Int} {a3 : Int}
    (h : (InI a3) ∧
      (((3 : Int) < a3 →
      (InI a2) ∧
      (((3 : Int) ≤ a2 →
      (∃ Q3 : QT, Spec mX10_bestBy [vR 1, vI 0] I R 89 89 Q3 ∧ (∀ x3 I3 R3, Q3 (vI x3) I3 R3 →
      R = R3 ∧ (∃ Q4 : QT, Spec mX10_bestBy [vR 1, vI 1] I3 R 89 89 Q4 ∧ (∀ x4 I4 R4, Q4 (vI x4) I4 R4 →
      R = R4 ∧ (InI x3) ∧
      (InI x4) ∧
      ((¬ x3 = x4 →
      wp (kN 89) mX10_rules Q 80 [none, none, none, none] [] I4 R 89) ∧ (x3 = x4 →
      (∃ Q7 : QT, Spec mX10_bestBy [vR 1, vI 2] I4 R 89 89 Q7 ∧ (∀ x7 I7 R7, Q7 (vI x7) I7 R7 →
      R = R7 ∧ (InI x7) ∧
      ((¬ x3 = x7 →
      wp (kN 89) mX10_rules Q 80 [none, none, none, none] [] I7 R 89) ∧ (x3 = x7 →
      Q (vI x3) I7 R))))))))))) ∧ (¬ (3 : Int) ≤ a2 →
      (∃ Q9 : QT, Spec mX10_bestBy [vR 1, vI a2] I R 89 89 Q9 ∧ (∀ x9 I9 R9, Q9 (vI x9) I9 R9 →
      R = R9 ∧ Q (vI x9) I9 R))))) ∧ (¬ (3 : Int) < a3 →
      (∃ Q10 : QT, Spec mX10_sumUp [vR 1, vI a3, vI a1] I R 89 89 Q10 ∧ (∀ I10 R10, Q10 none I10 R10 →
      R = R10 ∧ wp (kN 89) mX10_rules Q 24 [vR 1, vI a1, vI a2, vI (a3 + 1)] [] I10 R 89))))) : wp (kN 89) mX10_rules Q 24 [vR 1, vI a1, vI a2, vI a3] [] I R 89 := by
  refine wp_iload_n (pc' := 25) (q := 3) (i := 3) rfl rfl dX10_rules_24 rfl ?_
  refine wp_iconst (pc' := 26) dX10_rules_25 rfl ?_
  obtain ⟨h1, h⟩ := h
  refine wp_icmp_gt (pc' := 29) (tgt := 41) h1 ⟨by decide, by decide⟩ dX10_rules_26 rfl rfl (fun hc => ?_) (fun hc => ?_)
  · have h := h.1 hc
    refine wp_iload_n (pc' := 42) (q := 2) (i := 2) rfl rfl dX10_rules_41 rfl ?_
    refine wp_iconst (pc' := 43) dX10_rules_42 rfl ?_
    obtain ⟨h2, h⟩ := h
    refine wp_icmp_ge (pc' := 46) (tgt := 52) h2 ⟨by decide, by decide⟩ dX10_rules_43 rfl rfl (fun hc => ?_) (fun hc => ?_)
    · have h := h.1 hc
      refine wp_aload_n (pc' := 53) (q := 0) (i := 0) rfl rfl dX10_rules_52 rfl ?_
      refine wp_iconst (pc' := 54) dX10_rules_53 rfl ?_
      obtain ⟨Q3, hs3, h⟩ := h
      refine wp_callV (pc' := 57) (as := [vI 0]) (rest := []) hs3 dX10_rules_54 rfl lkX10_204 okX10_bestBy inX10_bestBy seX10_bestBy o_1 vc9 ⟨Nat.le_of_ble_eq_true rfl, Nat.le_of_ble_eq_true rfl⟩ (Nat.le_of_ble_eq_true rfl) (Nat.le_refl _) (Nat.le_refl _) okP_eq okP_eq rfl (rvI rfl (fun x3 I3 R3 hq3 => ?_))
      obtain ⟨hRR3, h⟩ := h x3 I3 R3 hq3; subst hRR3
      refine wp_istore_n (pc' := 58) (q := 3) (i := 3) (L' := [vR 1, vI a1, vI a2, vI x3]) rfl (by decide) rfl dX10_rules_57 rfl rfl ?_
      refine wp_iload_n (pc' := 59) (q := 3) (i := 3) rfl rfl dX10_rules_58 rfl ?_
      refine wp_aload_n (pc' := 60) (q := 0) (i := 0) rfl rfl dX10_rules_59 rfl ?_
      refine wp_iconst (pc' := 61) dX10_rules_60 rfl ?_
      obtain ⟨Q4, hs4, h⟩ := h
      refine wp_callV (pc' := 64) (as := [vI 1]) (rest := [vI x3]) hs4 dX10_rules_61 rfl lkX10_204 okX10_bestBy inX10_bestBy seX10_bestBy o_1 vc9 ⟨Nat.le_of_ble_eq_true rfl, Nat.le_of_ble_eq_true rfl⟩ (Nat.le_of_ble_eq_true rfl) (Nat.le_refl _) (Nat.le_refl _) okP_eq okP_eq rfl (rvI rfl (fun x4 I4 R4 hq4 => ?_))
      obtain ⟨hRR4, h⟩ := h x4 I4 R4 hq4; subst hRR4
      obtain ⟨h5, h⟩ := h
      obtain ⟨h6, h⟩ := h
      refine wp_icmp_ne (pc' := 67) (tgt := 80) h5 h6 dX10_rules_64 rfl rfl (fun hc => ?_) (fun hc => ?_)
      · have h := h.1 hc
        exact wp_dropP (leP_d (leP_d (leP_d (leP_d leP_n)))) h
      · have h := h.2 hc
        refine wp_iload_n (pc' := 68) (q := 3) (i := 3) rfl rfl dX10_rules_67 rfl ?_
        refine wp_aload_n (pc' := 69) (q := 0) (i := 0) rfl rfl dX10_rules_68 rfl ?_
        refine wp_iconst (pc' := 70) dX10_rules_69 rfl ?_
        obtain ⟨Q7, hs7, h⟩ := h
        refine wp_callV (pc' := 73) (as := [vI 2]) (rest := [vI x3]) hs7 dX10_rules_70 rfl lkX10_204 okX10_bestBy inX10_bestBy seX10_bestBy o_1 vc9 ⟨Nat.le_of_ble_eq_true rfl, Nat.le_of_ble_eq_true rfl⟩ (Nat.le_of_ble_eq_true rfl) (Nat.le_refl _) (Nat.le_refl _) okP_eq okP_eq rfl (rvI rfl (fun x7 I7 R7 hq7 => ?_))
        obtain ⟨hRR7, h⟩ := h x7 I7 R7 hq7; subst hRR7
        obtain ⟨h8, h⟩ := h
        refine wp_icmp_ne (pc' := 76) (tgt := 80) h5 h8 dX10_rules_73 rfl rfl (fun hc => ?_) (fun hc => ?_)
        · have h := h.1 hc
          exact wp_dropP (leP_d (leP_d (leP_d (leP_d leP_n)))) h
        · have h := h.2 hc
          refine wp_iload_n (pc' := 77) (q := 3) (i := 3) rfl rfl dX10_rules_76 rfl ?_
          refine wp_goto (tgt := 82) dX10_rules_77 rfl ?_
          exact wp_ireturn dX10_rules_82 rfl rfl h
    · have h := h.2 hc
      refine wp_aload_n (pc' := 47) (q := 0) (i := 0) rfl rfl dX10_rules_46 rfl ?_
      refine wp_iload_n (pc' := 48) (q := 2) (i := 2) rfl rfl dX10_rules_47 rfl ?_
      obtain ⟨Q9, hs9, h⟩ := h
      refine wp_callV (pc' := 51) (as := [vI a2]) (rest := []) hs9 dX10_rules_48 rfl lkX10_204 okX10_bestBy inX10_bestBy seX10_bestBy o_1 vc9 ⟨Nat.le_of_ble_eq_true rfl, Nat.le_of_ble_eq_true rfl⟩ (Nat.le_of_ble_eq_true rfl) (Nat.le_refl _) (Nat.le_refl _) okP_eq okP_eq rfl (rvI rfl (fun x9 I9 R9 hq9 => ?_))
      obtain ⟨hRR9, h⟩ := h x9 I9 R9 hq9; subst hRR9
      exact wp_ireturn dX10_rules_51 rfl rfl h
  · have h := h.2 hc
    refine wp_aload_n (pc' := 30) (q := 0) (i := 0) rfl rfl dX10_rules_29 rfl ?_
    refine wp_iload_n (pc' := 31) (q := 3) (i := 3) rfl rfl dX10_rules_30 rfl ?_
    refine wp_iload_n (pc' := 32) (q := 1) (i := 1) rfl rfl dX10_rules_31 rfl ?_
    obtain ⟨Q10, hs10, h⟩ := h
    refine wp_callV (pc' := 35) (as := [vI a3, vI a1]) (rest := []) hs10 dX10_rules_32 rfl lkX10_200 okX10_sumUp inX10_sumUp seX10_sumUp o_1 vc9 ⟨Nat.le_of_ble_eq_true rfl, Nat.le_of_ble_eq_true rfl⟩ (Nat.le_of_ble_eq_true rfl) (Nat.le_refl _) (Nat.le_refl _) okP_eq okP_eq rfl (rvV rfl (fun I10 R10 hq10 => ?_))
    obtain ⟨hRR10, h⟩ := h I10 R10 hq10; subst hRR10
    refine wp_iinc (pc' := 38) (i := 3) (L' := [vR 1, vI a1, vI a2, vI (a3 + 1)]) rfl (by decide) rfl dX10_rules_35 rfl rfl ?_
    refine wp_goto (tgt := 24) dX10_rules_38 rfl ?_
    exact h

set_option maxRecDepth 4000 in
theorem gX10_rules_80 {Q : QT} {I : II} {R : RR} (hR : SR R) 
    (h : Q (vI (-4)) I R) : wp (kN 89) mX10_rules Q 80 [none, none, none, none] [] I R 89 := by
  refine wp_bipush (pc' := 82) (by decide) dX10_rules_80 rfl ?_
  exact wp_ireturn dX10_rules_82 rfl rfl h

theorem sX10_shout {Q : QT} {I : II} {R : RR} {a1 : Int} {a2 : Int} (h : wp (kN 89) mX10_shout Q 0 [vR 1, vI a1, vI a2] [] I R 89) : Spec mX10_shout [vR 1, vI a1, vI a2] I R 89 89 Q := Spec_of_wp pyX10_shout rfl (Nat.le_of_ble_eq_true rfl) (Nat.le_refl _) (by decide) h

set_option maxRecDepth 4000 in
theorem gX10_shout_0 {Q : QT} {I : II} {R : RR} (hR : SR R) {a1 : Int} {a2 : Int}
    (h : (InI a1) ∧
      (InI ((I 18 4) - 1)) ∧
      (((0 : Int) ≤ a1 ∧ a1 ≤ ((I 18 4) - 1) →
      (InI a2) ∧
      (((0 : Int) ≤ a2 ∧ a2 ≤ (3 : Int) →
      ((¬ a2 = 0 →
      ((¬ a2 = (1 : Int) →
      ((¬ a2 = (2 : Int) →
      (0 ≤ a1 ∧ a1 < 200) ∧
      Q (vI (I 22 a1.toNat)) I R) ∧ (a2 = (2 : Int) →
      (0 ≤ a1 ∧ a1 < 200) ∧
      Q (vI (I 21 a1.toNat)) I R))) ∧ (a2 = (1 : Int) →
      (0 ≤ a1 ∧ a1 < 200) ∧
      Q (vI (I 20 a1.toNat)) I R))) ∧ (a2 = 0 →
      (0 ≤ a1 ∧ a1 < 200) ∧
      Q (vI (I 19 a1.toNat)) I R))) ∧ (¬ ((0 : Int) ≤ a2 ∧ a2 ≤ (3 : Int)) →
      wp (kN 89) mX10_shout Q 26 [none, none, none] [] I R 89))) ∧ (¬ ((0 : Int) ≤ a1 ∧ a1 ≤ ((I 18 4) - 1)) →
      wp (kN 89) mX10_shout Q 26 [none, none, none] [] I R 89))) : wp (kN 89) mX10_shout Q 0 [vR 1, vI a1, vI a2] [] I R 89 := by
  refine wp_iload_n (pc' := 1) (q := 1) (i := 1) rfl rfl dX10_shout_0 rfl ?_
  refine wp_iconst (pc' := 2) dX10_shout_1 rfl ?_
  refine wp_aload_n (pc' := 3) (q := 0) (i := 0) rfl rfl dX10_shout_2 rfl ?_
  refine wp_getRc (pc' := 6) (k := 4) (j := 18) dX10_shout_3 vc9 (by decide) rfl lfX10_36 o_1 (r_1_4 hR) rfl ?_
  refine wp_getI (pc' := 9) (k := 4) dX10_shout_6 vc4 (by decide) rfl lfX10_105 o_18 rfl ?_
  refine wp_iconst (pc' := 10) dX10_shout_9 rfl ?_
  refine wp_isub (pc' := 11) dX10_shout_10 rfl ?_
  obtain ⟨h2, h⟩ := h
  obtain ⟨h3, h⟩ := h
  refine wp_callS (pc' := 14) (as := [vI a1, vI 0, vI ((I 18 4) - 1)]) (rest := []) (pX10_within (by decide) h2 ⟨by decide, by decide⟩ h3) dX10_shout_11 rfl lkX10_84 okX10_within stX10_within ⟨Nat.le_of_ble_eq_true rfl, Nat.le_of_ble_eq_true rfl⟩ (Nat.le_of_ble_eq_true rfl) (Nat.le_refl _) (Nat.le_refl _) okP_eq okP_eq rfl (rvZ rfl (fun x1 I1 R1 hz1 hq1 => ?_))
  obtain ⟨eR1, eI1, ex1⟩ := hq1; subst eR1; subst eI1; cases ex1
  by_cases hc : (0 : Int) ≤ a1 ∧ a1 ≤ ((I 18 4) - 1)
  · rw [if_pos hc]; have h := h.1 hc
    refine wp_if_eq (pc' := 17) (tgt := 26) ⟨by decide, by decide⟩ dX10_shout_14 rfl rfl (fun hc => by exfalso; revert hc; decide) (fun hc => ?_)
    refine wp_iload_n (pc' := 18) (q := 2) (i := 2) rfl rfl dX10_shout_17 rfl ?_
    refine wp_iconst (pc' := 19) dX10_shout_18 rfl ?_
    refine wp_iconst (pc' := 20) dX10_shout_19 rfl ?_
    obtain ⟨h5, h⟩ := h
    refine wp_callS (pc' := 23) (as := [vI a2, vI 0, vI 3]) (rest := []) (pX10_within (by decide) h5 ⟨by decide, by decide⟩ ⟨by decide, by decide⟩) dX10_shout_20 rfl lkX10_84 okX10_within stX10_within ⟨Nat.le_of_ble_eq_true rfl, Nat.le_of_ble_eq_true rfl⟩ (Nat.le_of_ble_eq_true rfl) (Nat.le_refl _) (Nat.le_refl _) okP_eq okP_eq rfl (rvZ rfl (fun x4 I4 R4 hz4 hq4 => ?_))
    obtain ⟨eR4, eI4, ex4⟩ := hq4; subst eR4; subst eI4; cases ex4
    by_cases hc : (0 : Int) ≤ a2 ∧ a2 ≤ (3 : Int)
    · rw [if_pos hc]; have h := h.1 hc
      refine wp_if_ne (pc' := 26) (tgt := 28) ⟨by decide, by decide⟩ dX10_shout_23 rfl rfl (fun hc => ?_) (fun hc => by exfalso; revert hc; decide)
      refine wp_iload_n (pc' := 29) (q := 2) (i := 2) rfl rfl dX10_shout_28 rfl ?_
      refine wp_if_ne (pc' := 32) (tgt := 42) h5 dX10_shout_29 rfl rfl (fun hc => ?_) (fun hc => ?_)
      · have h := h.1 hc
        refine wp_iload_n (pc' := 43) (q := 2) (i := 2) rfl rfl dX10_shout_42 rfl ?_
        refine wp_iconst (pc' := 44) dX10_shout_43 rfl ?_
        refine wp_icmp_ne (pc' := 47) (tgt := 57) h5 ⟨by decide, by decide⟩ dX10_shout_44 rfl rfl (fun hc => ?_) (fun hc => ?_)
        · have h := h.1 hc
          refine wp_iload_n (pc' := 58) (q := 2) (i := 2) rfl rfl dX10_shout_57 rfl ?_
          refine wp_iconst (pc' := 59) dX10_shout_58 rfl ?_
          refine wp_icmp_ne (pc' := 62) (tgt := 74) h5 ⟨by decide, by decide⟩ dX10_shout_59 rfl rfl (fun hc => ?_) (fun hc => ?_)
          · have h := h.1 hc
            refine wp_aload_n (pc' := 75) (q := 0) (i := 0) rfl rfl dX10_shout_74 rfl ?_
            refine wp_getRc (pc' := 78) (k := 4) (j := 18) dX10_shout_75 vc9 (by decide) rfl lfX10_36 o_1 (r_1_4 hR) rfl ?_
            refine wp_getRc (pc' := 81) (k := 3) (j := 22) dX10_shout_78 vc4 (by decide) rfl lfX10_214 o_18 (r_18_3 hR) rfl ?_
            refine wp_iload_n (pc' := 82) (q := 1) (i := 1) rfl rfl dX10_shout_81 rfl ?_
            obtain ⟨h6, h⟩ := h
            refine wp_iald (pc' := 83) (j := a1.toNat) dX10_shout_82 a_22 h6 rfl rfl ?_
            exact wp_ireturn dX10_shout_83 rfl rfl h
          · have h := h.2 hc
            refine wp_aload_n (pc' := 63) (q := 0) (i := 0) rfl rfl dX10_shout_62 rfl ?_
            refine wp_getRc (pc' := 66) (k := 4) (j := 18) dX10_shout_63 vc9 (by decide) rfl lfX10_36 o_1 (r_1_4 hR) rfl ?_
            refine wp_getRc (pc' := 69) (k := 2) (j := 21) dX10_shout_66 vc4 (by decide) rfl lfX10_211 o_18 (r_18_2 hR) rfl ?_
            refine wp_iload_n (pc' := 70) (q := 1) (i := 1) rfl rfl dX10_shout_69 rfl ?_
            obtain ⟨h7, h⟩ := h
            refine wp_iald (pc' := 71) (j := a1.toNat) dX10_shout_70 a_21 h7 rfl rfl ?_
            refine wp_goto (tgt := 83) dX10_shout_71 rfl ?_
            exact wp_ireturn dX10_shout_83 rfl rfl h
        · have h := h.2 hc
          refine wp_aload_n (pc' := 48) (q := 0) (i := 0) rfl rfl dX10_shout_47 rfl ?_
          refine wp_getRc (pc' := 51) (k := 4) (j := 18) dX10_shout_48 vc9 (by decide) rfl lfX10_36 o_1 (r_1_4 hR) rfl ?_
          refine wp_getRc (pc' := 54) (k := 1) (j := 20) dX10_shout_51 vc4 (by decide) rfl lfX10_210 o_18 (r_18_1 hR) rfl ?_
          refine wp_iload_n (pc' := 55) (q := 1) (i := 1) rfl rfl dX10_shout_54 rfl ?_
          obtain ⟨h8, h⟩ := h
          refine wp_iald (pc' := 56) (j := a1.toNat) dX10_shout_55 a_20 h8 rfl rfl ?_
          exact wp_ireturn dX10_shout_56 rfl rfl h
      · have h := h.2 hc
        refine wp_aload_n (pc' := 33) (q := 0) (i := 0) rfl rfl dX10_shout_32 rfl ?_
        refine wp_getRc (pc' := 36) (k := 4) (j := 18) dX10_shout_33 vc9 (by decide) rfl lfX10_36 o_1 (r_1_4 hR) rfl ?_
        refine wp_getRc (pc' := 39) (k := 0) (j := 19) dX10_shout_36 vc4 (by decide) rfl lfX10_207 o_18 (r_18_0 hR) rfl ?_
        refine wp_iload_n (pc' := 40) (q := 1) (i := 1) rfl rfl dX10_shout_39 rfl ?_
        obtain ⟨h9, h⟩ := h
        refine wp_iald (pc' := 41) (j := a1.toNat) dX10_shout_40 a_19 h9 rfl rfl ?_
        exact wp_ireturn dX10_shout_41 rfl rfl h
    · rw [if_neg hc]; have h := h.2 hc
      refine wp_if_ne (pc' := 26) (tgt := 28) ⟨by decide, by decide⟩ dX10_shout_23 rfl rfl (fun hc => by exfalso; revert hc; decide) (fun hc => ?_)
      exact wp_dropP (leP_d (leP_d (leP_d leP_n))) h
  · rw [if_neg hc]; have h := h.2 hc
    refine wp_if_eq (pc' := 17) (tgt := 26) ⟨by decide, by decide⟩ dX10_shout_14 rfl rfl (fun hc => ?_) (fun hc => by exfalso; revert hc; decide)
    exact wp_dropP (leP_d (leP_d (leP_d leP_n))) h

set_option maxRecDepth 4000 in
theorem gX10_shout_26 {Q : QT} {I : II} {R : RR} (hR : SR R) 
    (h : Q (vI (-1)) I R) : wp (kN 89) mX10_shout Q 26 [none, none, none] [] I R 89 := by
  refine wp_iconst (pc' := 27) dX10_shout_26 rfl ?_
  exact wp_ireturn dX10_shout_27 rfl rfl h

theorem sX10_known {Q : QT} {I : II} {R : RR} {a1 : Int} (h : wp (kN 89) mX10_known Q 0 [vR 1, vI a1] [] I R 89) : Spec mX10_known [vR 1, vI a1] I R 89 89 Q := Spec_of_wp pyX10_known rfl (Nat.le_of_ble_eq_true rfl) (Nat.le_refl _) (by decide) h

set_option maxRecDepth 4000 in
theorem gX10_known_0 {Q : QT} {I : II} {R : RR} (hR : SR R) {a1 : Int}
    (h : (isO 89 (R 1 2) 6) ∧
      (InI a1) ∧
      (InI (I (R 1 2) 5)) ∧
      ((0 ≤ a1 ∧ a1 < (I (R 1 2) 5) →
      (∃ Q5 : QT, Spec mX4_seenOf [vR 18, vR (R 1 2), vI a1] I R 89 89 Q5 ∧ (∀ x5 I5 R5, Q5 (vI x5) I5 R5 →
      R = R5 ∧ Q (vI x5) I5 R))) ∧ (¬ (0 ≤ a1 ∧ a1 < (I (R 1 2) 5)) →
      Q (vI (-1)) I R))) : wp (kN 89) mX10_known Q 0 [vR 1, vI a1] [] I R 89 := by
  refine wp_aload_n (pc' := 1) (q := 0) (i := 0) rfl rfl dX10_known_0 rfl ?_
  refine wp_getR (pc' := 4) (k := 2) dX10_known_1 vc9 (by decide) rfl lfX10_26 o_1 rfl ?_
  refine wp_iload_n (pc' := 5) (q := 1) (i := 1) rfl rfl dX10_known_4 rfl ?_
  obtain ⟨h2, h⟩ := h
  obtain ⟨h3, h⟩ := h
  obtain ⟨h4, h⟩ := h
  refine wp_callV (pc' := 8) (as := [vI a1]) (rest := []) (pX6_has (by decide) h2 h3 h4) dX10_known_5 rfl lkX10_109 okX6_has inX6_has seX6_has h2 vc6 ⟨Nat.le_of_ble_eq_true rfl, Nat.le_of_ble_eq_true rfl⟩ (Nat.le_of_ble_eq_true rfl) (Nat.le_refl _) (Nat.le_refl _) okP_eq okP_eq rfl (rvZ rfl (fun x1 I1 R1 hz1 hq1 => ?_))
  obtain ⟨eR1, eI1, ex1⟩ := hq1; subst eR1; subst eI1; cases ex1
  by_cases hc : 0 ≤ a1 ∧ a1 < (I (R 1 2) 5)
  · rw [if_pos hc]; have h := h.1 hc
    refine wp_if_eq (pc' := 11) (tgt := 26) ⟨by decide, by decide⟩ dX10_known_8 rfl rfl (fun hc => by exfalso; revert hc; decide) (fun hc => ?_)
    refine wp_aload_n (pc' := 12) (q := 0) (i := 0) rfl rfl dX10_known_11 rfl ?_
    refine wp_getRc (pc' := 15) (k := 4) (j := 18) dX10_known_12 vc9 (by decide) rfl lfX10_36 o_1 (r_1_4 hR) rfl ?_
    refine wp_aload_n (pc' := 16) (q := 0) (i := 0) rfl rfl dX10_known_15 rfl ?_
    refine wp_getR (pc' := 19) (k := 2) dX10_known_16 vc9 (by decide) rfl lfX10_26 o_1 rfl ?_
    refine wp_iload_n (pc' := 20) (q := 1) (i := 1) rfl rfl dX10_known_19 rfl ?_
    obtain ⟨Q5, hs5, h⟩ := h
    refine wp_callV (pc' := 23) (as := [vR (R 1 2), vI a1]) (rest := []) hs5 dX10_known_20 rfl lkX10_217 okX4_seenOf inX4_seenOf seX4_seenOf o_18 vc4 ⟨Nat.le_of_ble_eq_true rfl, Nat.le_of_ble_eq_true rfl⟩ (Nat.le_of_ble_eq_true rfl) (Nat.le_refl _) (Nat.le_refl _) okP_eq okP_eq rfl (rvI rfl (fun x5 I5 R5 hq5 => ?_))
    obtain ⟨hRR5, h⟩ := h x5 I5 R5 hq5; subst hRR5
    refine wp_goto (tgt := 27) dX10_known_23 rfl ?_
    exact wp_ireturn dX10_known_27 rfl rfl h
  · rw [if_neg hc]; have h := h.2 hc
    refine wp_if_eq (pc' := 11) (tgt := 26) ⟨by decide, by decide⟩ dX10_known_8 rfl rfl (fun hc => ?_) (fun hc => by exfalso; revert hc; decide)
    refine wp_iconst (pc' := 27) dX10_known_26 rfl ?_
    exact wp_ireturn dX10_known_27 rfl rfl h

theorem sX10_least {Q : QT} {I : II} {R : RR} {a1 : Int} (h : wp (kN 89) mX10_least Q 0 [vR 1, vI a1, none] [] I R 89) : Spec mX10_least [vR 1, vI a1] I R 89 89 Q := Spec_of_wp pyX10_least rfl (Nat.le_of_ble_eq_true rfl) (Nat.le_refl _) (by decide) h

set_option maxRecDepth 4000 in
theorem gX10_least_0 {Q : QT} {I : II} {R : RR} (hR : SR R) {a1 : Int}
    (h : (InI a1) ∧
      (((0 : Int) ≤ a1 ∧ a1 ≤ (1 : Int) →
      (∃ Q3 : QT, Spec mX3_empty [vR 24] I R 89 89 Q3 ∧ (∀ I3 R3, Q3 none I3 R3 →
      R = R3 ∧ wp (kN 89) mX10_least Q 20 [vR 1, vI a1, vI 0] [] I3 R 89))) ∧ (¬ ((0 : Int) ≤ a1 ∧ a1 ≤ (1 : Int)) →
      Q (vI (-1)) I R))) : wp (kN 89) mX10_least Q 0 [vR 1, vI a1, none] [] I R 89 := by
  refine wp_iload_n (pc' := 1) (q := 1) (i := 1) rfl rfl dX10_least_0 rfl ?_
  refine wp_iconst (pc' := 2) dX10_least_1 rfl ?_
  refine wp_iconst (pc' := 3) dX10_least_2 rfl ?_
  obtain ⟨h2, h⟩ := h
  refine wp_callS (pc' := 6) (as := [vI a1, vI 0, vI 1]) (rest := []) (pX10_within (by decide) h2 ⟨by decide, by decide⟩ ⟨by decide, by decide⟩) dX10_least_3 rfl lkX10_84 okX10_within stX10_within ⟨Nat.le_of_ble_eq_true rfl, Nat.le_of_ble_eq_true rfl⟩ (Nat.le_of_ble_eq_true rfl) (Nat.le_refl _) (Nat.le_refl _) okP_eq okP_eq rfl (rvZ rfl (fun x1 I1 R1 hz1 hq1 => ?_))
  obtain ⟨eR1, eI1, ex1⟩ := hq1; subst eR1; subst eI1; cases ex1
  by_cases hc : (0 : Int) ≤ a1 ∧ a1 ≤ (1 : Int)
  · rw [if_pos hc]; have h := h.1 hc
    refine wp_if_ne (pc' := 9) (tgt := 11) ⟨by decide, by decide⟩ dX10_least_6 rfl rfl (fun hc => ?_) (fun hc => by exfalso; revert hc; decide)
    refine wp_aload_n (pc' := 12) (q := 0) (i := 0) rfl rfl dX10_least_11 rfl ?_
    refine wp_getRc (pc' := 15) (k := 7) (j := 24) dX10_least_12 vc9 (by decide) rfl lfX10_53 o_1 (r_1_7 hR) rfl ?_
    obtain ⟨Q3, hs3, h⟩ := h
    refine wp_callV (pc' := 18) (as := []) (rest := []) hs3 dX10_least_15 rfl lkX10_221 okX3_empty inX3_empty seX3_empty o_24 vc3 ⟨Nat.le_of_ble_eq_true rfl, Nat.le_of_ble_eq_true rfl⟩ (Nat.le_of_ble_eq_true rfl) (Nat.le_refl _) (Nat.le_refl _) okP_eq okP_eq rfl (rvV rfl (fun I3 R3 hq3 => ?_))
    obtain ⟨hRR3, h⟩ := h I3 R3 hq3; subst hRR3
    refine wp_iconst (pc' := 19) dX10_least_18 rfl ?_
    refine wp_istore_n (pc' := 20) (q := 2) (i := 2) (L' := [vR 1, vI a1, vI 0]) rfl (by decide) rfl dX10_least_19 rfl rfl ?_
    exact h
  · rw [if_neg hc]; have h := h.2 hc
    refine wp_if_ne (pc' := 9) (tgt := 11) ⟨by decide, by decide⟩ dX10_least_6 rfl rfl (fun hc => by exfalso; revert hc; decide) (fun hc => ?_)
    refine wp_iconst (pc' := 10) dX10_least_9 rfl ?_
    exact wp_ireturn dX10_least_10 rfl rfl h

set_option maxRecDepth 4000 in
theorem gX10_least_20 {Q : QT} {I : II} {R : RR} (hR : SR R) {a1 : Int} {a2 : Int}
    (h : (isO 89 (R 1 2) 6) ∧
      (InI a2) ∧
      (InI (I (R 1 2) 5)) ∧
      (((I (R 1 2) 5) ≤ a2 →
      (∃ Q4 : QT, Spec mX3_cross [vR 24, vI (I (R 1 2) 9)] I R 89 89 Q4 ∧ (∀ I4 R4, Q4 none I4 R4 →
      R = R4 ∧ (InI a1) ∧
      ((¬ a1 = 0 →
      Q (vI (I4 24 3)) I4 R) ∧ (a1 = 0 →
      Q (vI (I4 24 2)) I4 R))))) ∧ (¬ (I (R 1 2) 5) ≤ a2 →
      (∃ Q6 : QT, Spec mX4_seenOf [vR 18, vR (R 1 2), vI a2] I R 89 89 Q6 ∧ (∀ x6 I6 R6, Q6 (vI x6) I6 R6 →
      R = R6 ∧ (∃ Q7 : QT, Spec mX3_put [vR 24, vR (R 1 2), vI a2, vI x6] I6 R 89 89 Q7 ∧ (∀ I7 R7, Q7 none I7 R7 →
      R = R7 ∧ wp (kN 89) mX10_least Q 20 [vR 1, vI a1, vI (a2 + 1)] [] I7 R 89))))))) : wp (kN 89) mX10_least Q 20 [vR 1, vI a1, vI a2] [] I R 89 := by
  refine wp_iload_n (pc' := 21) (q := 2) (i := 2) rfl rfl dX10_least_20 rfl ?_
  refine wp_aload_n (pc' := 22) (q := 0) (i := 0) rfl rfl dX10_least_21 rfl ?_
  refine wp_getR (pc' := 25) (k := 2) dX10_least_22 vc9 (by decide) rfl lfX10_26 o_1 rfl ?_
  obtain ⟨h1, h⟩ := h
  refine wp_getI (pc' := 28) (k := 5) dX10_least_25 vc6 (by decide) rfl lfX10_106 h1 rfl ?_
  obtain ⟨h2, h⟩ := h
  obtain ⟨h3, h⟩ := h
  refine wp_icmp_ge (pc' := 31) (tgt := 61) h2 h3 dX10_least_28 rfl rfl (fun hc => ?_) (fun hc => ?_)
  · have h := h.1 hc
    refine wp_aload_n (pc' := 62) (q := 0) (i := 0) rfl rfl dX10_least_61 rfl ?_
    refine wp_getRc (pc' := 65) (k := 7) (j := 24) dX10_least_62 vc9 (by decide) rfl lfX10_53 o_1 (r_1_7 hR) rfl ?_
    refine wp_aload_n (pc' := 66) (q := 0) (i := 0) rfl rfl dX10_least_65 rfl ?_
    refine wp_getR (pc' := 69) (k := 2) dX10_least_66 vc9 (by decide) rfl lfX10_26 o_1 rfl ?_
    refine wp_getI (pc' := 72) (k := 9) dX10_least_69 vc6 (by decide) rfl lfX10_124 h1 rfl ?_
    obtain ⟨Q4, hs4, h⟩ := h
    refine wp_callV (pc' := 75) (as := [vI (I (R 1 2) 9)]) (rest := []) hs4 dX10_least_72 rfl lkX10_228 okX3_cross inX3_cross seX3_cross o_24 vc3 ⟨Nat.le_of_ble_eq_true rfl, Nat.le_of_ble_eq_true rfl⟩ (Nat.le_of_ble_eq_true rfl) (Nat.le_refl _) (Nat.le_refl _) okP_eq okP_eq rfl (rvV rfl (fun I4 R4 hq4 => ?_))
    obtain ⟨hRR4, h⟩ := h I4 R4 hq4; subst hRR4
    refine wp_iload_n (pc' := 76) (q := 1) (i := 1) rfl rfl dX10_least_75 rfl ?_
    obtain ⟨h5, h⟩ := h
    refine wp_if_ne (pc' := 79) (tgt := 89) h5 dX10_least_76 rfl rfl (fun hc => ?_) (fun hc => ?_)
    · have h := h.1 hc
      refine wp_aload_n (pc' := 90) (q := 0) (i := 0) rfl rfl dX10_least_89 rfl ?_
      refine wp_getRc (pc' := 93) (k := 7) (j := 24) dX10_least_90 vc9 (by decide) rfl lfX10_53 o_1 (r_1_7 hR) rfl ?_
      refine wp_getI (pc' := 96) (k := 3) dX10_least_93 vc3 (by decide) rfl lfX10_134 o_24 rfl ?_
      exact wp_ireturn dX10_least_96 rfl rfl h
    · have h := h.2 hc
      refine wp_aload_n (pc' := 80) (q := 0) (i := 0) rfl rfl dX10_least_79 rfl ?_
      refine wp_getRc (pc' := 83) (k := 7) (j := 24) dX10_least_80 vc9 (by decide) rfl lfX10_53 o_1 (r_1_7 hR) rfl ?_
      refine wp_getI (pc' := 86) (k := 2) dX10_least_83 vc3 (by decide) rfl lfX10_131 o_24 rfl ?_
      refine wp_goto (tgt := 96) dX10_least_86 rfl ?_
      exact wp_ireturn dX10_least_96 rfl rfl h
  · have h := h.2 hc
    refine wp_aload_n (pc' := 32) (q := 0) (i := 0) rfl rfl dX10_least_31 rfl ?_
    refine wp_getRc (pc' := 35) (k := 7) (j := 24) dX10_least_32 vc9 (by decide) rfl lfX10_53 o_1 (r_1_7 hR) rfl ?_
    refine wp_aload_n (pc' := 36) (q := 0) (i := 0) rfl rfl dX10_least_35 rfl ?_
    refine wp_getR (pc' := 39) (k := 2) dX10_least_36 vc9 (by decide) rfl lfX10_26 o_1 rfl ?_
    refine wp_iload_n (pc' := 40) (q := 2) (i := 2) rfl rfl dX10_least_39 rfl ?_
    refine wp_aload_n (pc' := 41) (q := 0) (i := 0) rfl rfl dX10_least_40 rfl ?_
    refine wp_getRc (pc' := 44) (k := 4) (j := 18) dX10_least_41 vc9 (by decide) rfl lfX10_36 o_1 (r_1_4 hR) rfl ?_
    refine wp_aload_n (pc' := 45) (q := 0) (i := 0) rfl rfl dX10_least_44 rfl ?_
    refine wp_getR (pc' := 48) (k := 2) dX10_least_45 vc9 (by decide) rfl lfX10_26 o_1 rfl ?_
    refine wp_iload_n (pc' := 49) (q := 2) (i := 2) rfl rfl dX10_least_48 rfl ?_
    obtain ⟨Q6, hs6, h⟩ := h
    refine wp_callV (pc' := 52) (as := [vR (R 1 2), vI a2]) (rest := [vI a2, vR (R 1 2), vR 24]) hs6 dX10_least_49 rfl lkX10_217 okX4_seenOf inX4_seenOf seX4_seenOf o_18 vc4 ⟨Nat.le_of_ble_eq_true rfl, Nat.le_of_ble_eq_true rfl⟩ (Nat.le_of_ble_eq_true rfl) (Nat.le_refl _) (Nat.le_refl _) okP_eq okP_eq rfl (rvI rfl (fun x6 I6 R6 hq6 => ?_))
    obtain ⟨hRR6, h⟩ := h x6 I6 R6 hq6; subst hRR6
    obtain ⟨Q7, hs7, h⟩ := h
    refine wp_callV (pc' := 55) (as := [vR (R 1 2), vI a2, vI x6]) (rest := []) hs7 dX10_least_52 rfl lkX10_224 okX3_put inX3_put seX3_put o_24 vc3 ⟨Nat.le_of_ble_eq_true rfl, Nat.le_of_ble_eq_true rfl⟩ (Nat.le_of_ble_eq_true rfl) (Nat.le_refl _) (Nat.le_refl _) okP_eq okP_eq rfl (rvV rfl (fun I7 R7 hq7 => ?_))
    obtain ⟨hRR7, h⟩ := h I7 R7 hq7; subst hRR7
    refine wp_iinc (pc' := 58) (i := 2) (L' := [vR 1, vI a1, vI (a2 + 1)]) rfl (by decide) rfl dX10_least_55 rfl rfl ?_
    refine wp_goto (tgt := 20) dX10_least_58 rfl ?_
    exact h

theorem sX10_laws {Q : QT} {I : II} {R : RR} {a1 : Int} (h : wp (kN 89) mX10_laws Q 0 [vR 1, vI a1, none, none] [] I R 89) : Spec mX10_laws [vR 1, vI a1] I R 89 89 Q := Spec_of_wp pyX10_laws rfl (Nat.le_of_ble_eq_true rfl) (Nat.le_refl _) (by decide) h

set_option maxRecDepth 4000 in
theorem gX10_laws_0 {Q : QT} {I : II} {R : RR} (hR : SR R) {a1 : Int}
    (h : (isO 89 (R 1 2) 6) ∧
      (InI a1) ∧
      (InI (I (R 1 2) 5)) ∧
      ((0 ≤ a1 ∧ a1 < (I (R 1 2) 5) →
      wp (kN 89) mX10_laws Q 17 [vR 1, vI a1, vI 0, vI 0] [] I R 89) ∧ (¬ (0 ≤ a1 ∧ a1 < (I (R 1 2) 5)) →
      Q (vI (-1)) I R))) : wp (kN 89) mX10_laws Q 0 [vR 1, vI a1, none, none] [] I R 89 := by
  refine wp_aload_n (pc' := 1) (q := 0) (i := 0) rfl rfl dX10_laws_0 rfl ?_
  refine wp_getR (pc' := 4) (k := 2) dX10_laws_1 vc9 (by decide) rfl lfX10_26 o_1 rfl ?_
  refine wp_iload_n (pc' := 5) (q := 1) (i := 1) rfl rfl dX10_laws_4 rfl ?_
  obtain ⟨h2, h⟩ := h
  obtain ⟨h3, h⟩ := h
  obtain ⟨h4, h⟩ := h
  refine wp_callV (pc' := 8) (as := [vI a1]) (rest := []) (pX6_has (by decide) h2 h3 h4) dX10_laws_5 rfl lkX10_109 okX6_has inX6_has seX6_has h2 vc6 ⟨Nat.le_of_ble_eq_true rfl, Nat.le_of_ble_eq_true rfl⟩ (Nat.le_of_ble_eq_true rfl) (Nat.le_refl _) (Nat.le_refl _) okP_eq okP_eq rfl (rvZ rfl (fun x1 I1 R1 hz1 hq1 => ?_))
  obtain ⟨eR1, eI1, ex1⟩ := hq1; subst eR1; subst eI1; cases ex1
  by_cases hc : 0 ≤ a1 ∧ a1 < (I (R 1 2) 5)
  · rw [if_pos hc]; have h := h.1 hc
    refine wp_if_ne (pc' := 11) (tgt := 13) ⟨by decide, by decide⟩ dX10_laws_8 rfl rfl (fun hc => ?_) (fun hc => by exfalso; revert hc; decide)
    refine wp_iconst (pc' := 14) dX10_laws_13 rfl ?_
    refine wp_istore_n (pc' := 15) (q := 2) (i := 2) (L' := [vR 1, vI a1, vI 0, none]) rfl (by decide) rfl dX10_laws_14 rfl rfl ?_
    refine wp_iconst (pc' := 16) dX10_laws_15 rfl ?_
    refine wp_istore_n (pc' := 17) (q := 3) (i := 3) (L' := [vR 1, vI a1, vI 0, vI 0]) rfl (by decide) rfl dX10_laws_16 rfl rfl ?_
    exact h
  · rw [if_neg hc]; have h := h.2 hc
    refine wp_if_ne (pc' := 11) (tgt := 13) ⟨by decide, by decide⟩ dX10_laws_8 rfl rfl (fun hc => by exfalso; revert hc; decide) (fun hc => ?_)
    refine wp_iconst (pc' := 12) dX10_laws_11 rfl ?_
    exact wp_ireturn dX10_laws_12 rfl rfl h

set_option maxRecDepth 4000 in
theorem gX10_laws_17 {Q : QT} {I : II} {R : RR} (hR : SR R) {a1 : Int} {a2 : Int} {a3 : Int}
    (h : (InI a3) ∧
      (((5 : Int) < a3 →
      Q (vI a2) I R) ∧ (¬ (5 : Int) < a3 →
      (∃ Q2 : QT, Spec mX4_mayBeBy [vR 18, vR (R 1 2), vI a1, vI a3] I R 89 89 Q2 ∧ (∀ x2 I2 R2, (x2 = 0 ∨ x2 = 1) → Q2 (vI x2) I2 R2 →
      R = R2 ∧ (InI x2) ∧
      ((x2 = 0 →
      wp (kN 89) mX10_laws Q 44 [vR 1, vI a1, vI a2, vI a3] [] I2 R 89) ∧ (¬ (x2 = 0) →
      wp (kN 89) mX10_laws Q 44 [vR 1, vI a1, vI (i32 a2 ||| i32 ((i32 1 <<< (i32 a3 &&& 31)).toInt)).toInt, vI a3] [] I2 R 89))))))) : wp (kN 89) mX10_laws Q 17 [vR 1, vI a1, vI a2, vI a3] [] I R 89 := by
  refine wp_iload_n (pc' := 18) (q := 3) (i := 3) rfl rfl dX10_laws_17 rfl ?_
  refine wp_iconst (pc' := 19) dX10_laws_18 rfl ?_
  obtain ⟨h1, h⟩ := h
  refine wp_icmp_gt (pc' := 22) (tgt := 50) h1 ⟨by decide, by decide⟩ dX10_laws_19 rfl rfl (fun hc => ?_) (fun hc => ?_)
  · have h := h.1 hc
    refine wp_iload_n (pc' := 51) (q := 2) (i := 2) rfl rfl dX10_laws_50 rfl ?_
    exact wp_ireturn dX10_laws_51 rfl rfl h
  · have h := h.2 hc
    refine wp_aload_n (pc' := 23) (q := 0) (i := 0) rfl rfl dX10_laws_22 rfl ?_
    refine wp_getRc (pc' := 26) (k := 4) (j := 18) dX10_laws_23 vc9 (by decide) rfl lfX10_36 o_1 (r_1_4 hR) rfl ?_
    refine wp_aload_n (pc' := 27) (q := 0) (i := 0) rfl rfl dX10_laws_26 rfl ?_
    refine wp_getR (pc' := 30) (k := 2) dX10_laws_27 vc9 (by decide) rfl lfX10_26 o_1 rfl ?_
    refine wp_iload_n (pc' := 31) (q := 1) (i := 1) rfl rfl dX10_laws_30 rfl ?_
    refine wp_iload_n (pc' := 32) (q := 3) (i := 3) rfl rfl dX10_laws_31 rfl ?_
    obtain ⟨Q2, hs2, h⟩ := h
    refine wp_callV (pc' := 35) (as := [vR (R 1 2), vI a1, vI a3]) (rest := []) hs2 dX10_laws_32 rfl lkX10_231 okX4_mayBeBy inX4_mayBeBy seX4_mayBeBy o_18 vc4 ⟨Nat.le_of_ble_eq_true rfl, Nat.le_of_ble_eq_true rfl⟩ (Nat.le_of_ble_eq_true rfl) (Nat.le_refl _) (Nat.le_refl _) okP_eq okP_eq rfl (rvZ rfl (fun x2 I2 R2 hz2 hq2 => ?_))
    obtain ⟨hRR2, h⟩ := h x2 I2 R2 hz2 hq2; subst hRR2
    obtain ⟨h3, h⟩ := h
    refine wp_if_eq (pc' := 38) (tgt := 44) h3 dX10_laws_35 rfl rfl (fun hc => ?_) (fun hc => ?_)
    · have h := h.1 hc
      exact h
    · have h := h.2 hc
      refine wp_iload_n (pc' := 39) (q := 2) (i := 2) rfl rfl dX10_laws_38 rfl ?_
      refine wp_iconst (pc' := 40) dX10_laws_39 rfl ?_
      refine wp_iload_n (pc' := 41) (q := 3) (i := 3) rfl rfl dX10_laws_40 rfl ?_
      refine wp_ishl (pc' := 42) dX10_laws_41 rfl ?_
      refine wp_ior (pc' := 43) dX10_laws_42 rfl ?_
      refine wp_istore_n (pc' := 44) (q := 2) (i := 2) (L' := [vR 1, vI a1, vI (i32 a2 ||| i32 ((i32 1 <<< (i32 a3 &&& 31)).toInt)).toInt, vI a3]) rfl (by decide) rfl dX10_laws_43 rfl rfl ?_
      exact h

set_option maxRecDepth 4000 in
theorem gX10_laws_44 {Q : QT} {I : II} {R : RR} (hR : SR R) {a1 : Int} {a2 : Int} {a3 : Int}
    (h : wp (kN 89) mX10_laws Q 17 [vR 1, vI a1, vI a2, vI (a3 + 1)] [] I R 89) : wp (kN 89) mX10_laws Q 44 [vR 1, vI a1, vI a2, vI a3] [] I R 89 := by
  refine wp_iinc (pc' := 47) (i := 3) (L' := [vR 1, vI a1, vI a2, vI (a3 + 1)]) rfl (by decide) rfl dX10_laws_44 rfl rfl ?_
  refine wp_goto (tgt := 17) dX10_laws_47 rfl ?_
  exact h

theorem sX10_two {Q : QT} {I : II} {R : RR} {a1 : Int} {a2 : Int} {a3 : Int} (h : wp (kN 89) mX10_two Q 0 [vR 1, vI a1, vI a2, vI a3, none, none] [] I R 89) : Spec mX10_two [vR 1, vI a1, vI a2, vI a3] I R 89 89 Q := Spec_of_wp pyX10_two rfl (Nat.le_of_ble_eq_true rfl) (Nat.le_refl _) (by decide) h

set_option maxRecDepth 4000 in
theorem gX10_two_0 {Q : QT} {I : II} {R : RR} (hR : SR R) {a1 : Int} {a2 : Int} {a3 : Int}
    (h : (isO 89 (R 1 2) 6) ∧
      (InI a1) ∧
      (InI ((i32 1 <<< (i32 (I (R 1 2) 5) &&& 31)).toInt - 1)) ∧
      (((0 : Int) ≤ a1 ∧ a1 ≤ ((i32 1 <<< (i32 (I (R 1 2) 5) &&& 31)).toInt - 1) →
      (InI a2) ∧
      (((0 : Int) ≤ a2 ∧ a2 ≤ (99 : Int) →
      (InI a3) ∧
      (((0 : Int) ≤ a3 ∧ a3 ≤ (1 : Int) →
      (∃ Q9 : QT, Spec mX3_empty [vR 24] I R 89 89 Q9 ∧ (∀ I9 R9, Q9 none I9 R9 →
      R = R9 ∧ (∃ Q10 : QT, Spec mX3_empty [vR 31] I9 R 89 89 Q10 ∧ (∀ I10 R10, Q10 none I10 R10 →
      R = R10 ∧ wp (kN 89) mX10_two Q 59 [vR 1, vI a1, vI a2, vI a3, vI 0, none] [] I10 R 89))))) ∧ (¬ ((0 : Int) ≤ a3 ∧ a3 ≤ (1 : Int)) →
      wp (kN 89) mX10_two Q 38 [none, none, none, none, none, none] [] I R 89))) ∧ (¬ ((0 : Int) ≤ a2 ∧ a2 ≤ (99 : Int)) →
      wp (kN 89) mX10_two Q 38 [none, none, none, none, none, none] [] I R 89))) ∧ (¬ ((0 : Int) ≤ a1 ∧ a1 ≤ ((i32 1 <<< (i32 (I (R 1 2) 5) &&& 31)).toInt - 1)) →
      wp (kN 89) mX10_two Q 38 [none, none, none, none, none, none] [] I R 89))) : wp (kN 89) mX10_two Q 0 [vR 1, vI a1, vI a2, vI a3, none, none] [] I R 89 := by
  refine wp_iload_n (pc' := 1) (q := 1) (i := 1) rfl rfl dX10_two_0 rfl ?_
  refine wp_iconst (pc' := 2) dX10_two_1 rfl ?_
  refine wp_iconst (pc' := 3) dX10_two_2 rfl ?_
  refine wp_aload_n (pc' := 4) (q := 0) (i := 0) rfl rfl dX10_two_3 rfl ?_
  refine wp_getR (pc' := 7) (k := 2) dX10_two_4 vc9 (by decide) rfl lfX10_26 o_1 rfl ?_
  obtain ⟨h1, h⟩ := h
  refine wp_getI (pc' := 10) (k := 5) dX10_two_7 vc6 (by decide) rfl lfX10_106 h1 rfl ?_
  refine wp_ishl (pc' := 11) dX10_two_10 rfl ?_
  refine wp_iconst (pc' := 12) dX10_two_11 rfl ?_
  refine wp_isub (pc' := 13) dX10_two_12 rfl ?_
  obtain ⟨h3, h⟩ := h
  obtain ⟨h4, h⟩ := h
  refine wp_callS (pc' := 16) (as := [vI a1, vI 0, vI ((i32 1 <<< (i32 (I (R 1 2) 5) &&& 31)).toInt - 1)]) (rest := []) (pX10_within (by decide) h3 ⟨by decide, by decide⟩ h4) dX10_two_13 rfl lkX10_84 okX10_within stX10_within ⟨Nat.le_of_ble_eq_true rfl, Nat.le_of_ble_eq_true rfl⟩ (Nat.le_of_ble_eq_true rfl) (Nat.le_refl _) (Nat.le_refl _) okP_eq okP_eq rfl (rvZ rfl (fun x2 I2 R2 hz2 hq2 => ?_))
  obtain ⟨eR2, eI2, ex2⟩ := hq2; subst eR2; subst eI2; cases ex2
  by_cases hc : (0 : Int) ≤ a1 ∧ a1 ≤ ((i32 1 <<< (i32 (I (R 1 2) 5) &&& 31)).toInt - 1)
  · rw [if_pos hc]; have h := h.1 hc
    refine wp_if_eq (pc' := 19) (tgt := 38) ⟨by decide, by decide⟩ dX10_two_16 rfl rfl (fun hc => by exfalso; revert hc; decide) (fun hc => ?_)
    refine wp_iload_n (pc' := 20) (q := 2) (i := 2) rfl rfl dX10_two_19 rfl ?_
    refine wp_iconst (pc' := 21) dX10_two_20 rfl ?_
    refine wp_bipush (pc' := 23) (by decide) dX10_two_21 rfl ?_
    obtain ⟨h6, h⟩ := h
    refine wp_callS (pc' := 26) (as := [vI a2, vI 0, vI 99]) (rest := []) (pX10_within (by decide) h6 ⟨by decide, by decide⟩ ⟨by decide, by decide⟩) dX10_two_23 rfl lkX10_84 okX10_within stX10_within ⟨Nat.le_of_ble_eq_true rfl, Nat.le_of_ble_eq_true rfl⟩ (Nat.le_of_ble_eq_true rfl) (Nat.le_refl _) (Nat.le_refl _) okP_eq okP_eq rfl (rvZ rfl (fun x5 I5 R5 hz5 hq5 => ?_))
    obtain ⟨eR5, eI5, ex5⟩ := hq5; subst eR5; subst eI5; cases ex5
    by_cases hc : (0 : Int) ≤ a2 ∧ a2 ≤ (99 : Int)
    · rw [if_pos hc]; have h := h.1 hc
      refine wp_if_eq (pc' := 29) (tgt := 38) ⟨by decide, by decide⟩ dX10_two_26 rfl rfl (fun hc => by exfalso; revert hc; decide) (fun hc => ?_)
      refine wp_iload_n (pc' := 30) (q := 3) (i := 3) rfl rfl dX10_two_29 rfl ?_
      refine wp_iconst (pc' := 31) dX10_two_30 rfl ?_
      refine wp_iconst (pc' := 32) dX10_two_31 rfl ?_
      obtain ⟨h8, h⟩ := h
      refine wp_callS (pc' := 35) (as := [vI a3, vI 0, vI 1]) (rest := []) (pX10_within (by decide) h8 ⟨by decide, by decide⟩ ⟨by decide, by decide⟩) dX10_two_32 rfl lkX10_84 okX10_within stX10_within ⟨Nat.le_of_ble_eq_true rfl, Nat.le_of_ble_eq_true rfl⟩ (Nat.le_of_ble_eq_true rfl) (Nat.le_refl _) (Nat.le_refl _) okP_eq okP_eq rfl (rvZ rfl (fun x7 I7 R7 hz7 hq7 => ?_))
      obtain ⟨eR7, eI7, ex7⟩ := hq7; subst eR7; subst eI7; cases ex7
      by_cases hc : (0 : Int) ≤ a3 ∧ a3 ≤ (1 : Int)
      · rw [if_pos hc]; have h := h.1 hc
        refine wp_if_ne (pc' := 38) (tgt := 42) ⟨by decide, by decide⟩ dX10_two_35 rfl rfl (fun hc => ?_) (fun hc => by exfalso; revert hc; decide)
        refine wp_aload_n (pc' := 43) (q := 0) (i := 0) rfl rfl dX10_two_42 rfl ?_
        refine wp_getRc (pc' := 46) (k := 7) (j := 24) dX10_two_43 vc9 (by decide) rfl lfX10_53 o_1 (r_1_7 hR) rfl ?_
        obtain ⟨Q9, hs9, h⟩ := h
        refine wp_callV (pc' := 49) (as := []) (rest := []) hs9 dX10_two_46 rfl lkX10_221 okX3_empty inX3_empty seX3_empty o_24 vc3 ⟨Nat.le_of_ble_eq_true rfl, Nat.le_of_ble_eq_true rfl⟩ (Nat.le_of_ble_eq_true rfl) (Nat.le_refl _) (Nat.le_refl _) okP_eq okP_eq rfl (rvV rfl (fun I9 R9 hq9 => ?_))
        obtain ⟨hRR9, h⟩ := h I9 R9 hq9; subst hRR9
        refine wp_aload_n (pc' := 50) (q := 0) (i := 0) rfl rfl dX10_two_49 rfl ?_
        refine wp_getRc (pc' := 53) (k := 8) (j := 31) dX10_two_50 vc9 (by decide) rfl lfX10_57 o_1 (r_1_8 hR) rfl ?_
        obtain ⟨Q10, hs10, h⟩ := h
        refine wp_callV (pc' := 56) (as := []) (rest := []) hs10 dX10_two_53 rfl lkX10_221 okX3_empty inX3_empty seX3_empty o_31 vc3 ⟨Nat.le_of_ble_eq_true rfl, Nat.le_of_ble_eq_true rfl⟩ (Nat.le_of_ble_eq_true rfl) (Nat.le_refl _) (Nat.le_refl _) okP_eq okP_eq rfl (rvV rfl (fun I10 R10 hq10 => ?_))
        obtain ⟨hRR10, h⟩ := h I10 R10 hq10; subst hRR10
        refine wp_iconst (pc' := 57) dX10_two_56 rfl ?_
        refine wp_istore (pc' := 59) (i := 4) (L' := [vR 1, vI a1, vI a2, vI a3, vI 0, none]) (by decide) rfl dX10_two_57 rfl rfl ?_
        exact h
      · rw [if_neg hc]; have h := h.2 hc
        refine wp_if_ne (pc' := 38) (tgt := 42) ⟨by decide, by decide⟩ dX10_two_35 rfl rfl (fun hc => by exfalso; revert hc; decide) (fun hc => ?_)
        exact wp_dropP (leP_d (leP_d (leP_d (leP_d (leP_s (leP_s leP_n)))))) h
    · rw [if_neg hc]; have h := h.2 hc
      refine wp_if_eq (pc' := 29) (tgt := 38) ⟨by decide, by decide⟩ dX10_two_26 rfl rfl (fun hc => ?_) (fun hc => by exfalso; revert hc; decide)
      exact wp_dropP (leP_d (leP_d (leP_d (leP_d (leP_s (leP_s leP_n)))))) h
  · rw [if_neg hc]; have h := h.2 hc
    refine wp_if_eq (pc' := 19) (tgt := 38) ⟨by decide, by decide⟩ dX10_two_16 rfl rfl (fun hc => ?_) (fun hc => by exfalso; revert hc; decide)
    exact wp_dropP (leP_d (leP_d (leP_d (leP_d (leP_s (leP_s leP_n)))))) h

set_option maxRecDepth 4000 in
theorem gX10_two_38 {Q : QT} {I : II} {R : RR} (hR : SR R) 
    (h : Q (vI (-10000)) I R) : wp (kN 89) mX10_two Q 38 [none, none, none, none, none, none] [] I R 89 := by
  refine wp_sipush (pc' := 41) (by decide) dX10_two_38 rfl ?_
  exact wp_ireturn dX10_two_41 rfl rfl h

set_option maxRecDepth 4000 in
theorem gX10_two_59 {Q : QT} {I : II} {R : RR} (hR : SR R) {a1 : Int} {a2 : Int} {a3 : Int} {a4 : Int}
    (h : (isO 89 (R 1 2) 6) ∧
      (InI a4) ∧
      (InI (I (R 1 2) 5)) ∧
      (((I (R 1 2) 5) ≤ a4 →
      (∃ Q4 : QT, Spec mX0_choose [vR 48, vR 24, vR 31, vI a2] I R 89 89 Q4 ∧ (∀ I4 R4, Q4 none I4 R4 →
      R = R4 ∧ (InI a3) ∧
      ((¬ a3 = 0 →
      Q (vI (I4 48 1)) I4 R) ∧ (a3 = 0 →
      Q (vI (I4 48 0)) I4 R))))) ∧ (¬ (I (R 1 2) 5) ≤ a4 →
      (InI ((i32 ((i32 a1 >>> (i32 a4 &&& 31)).toInt) &&& i32 1).toInt)) ∧
      ((¬ (i32 ((i32 a1 >>> (i32 a4 &&& 31)).toInt) &&& i32 1).toInt = (1 : Int) →
      (isA 89 (R (R 1 2) 1) 1 20) ∧
      (0 ≤ a4 ∧ a4 < 20) ∧
      (∃ Q9 : QT, Spec mX3_put [vR 24, vR (R 1 2), vI a4, vI (I (R (R 1 2) 1) a4.toNat)] I R 89 89 Q9 ∧ (∀ I9 R9, Q9 none I9 R9 →
      R = R9 ∧ wp (kN 89) mX10_two Q 59 [vR 1, vI a1, vI a2, vI a3, vI (a4 + 1), none] [] I9 R 89))) ∧ ((i32 ((i32 a1 >>> (i32 a4 &&& 31)).toInt) &&& i32 1).toInt = (1 : Int) →
      (isA 89 (R (R 1 2) 1) 1 20) ∧
      (0 ≤ a4 ∧ a4 < 20) ∧
      (∃ Q12 : QT, Spec mX3_put [vR 31, vR (R 1 2), vI a4, vI (I (R (R 1 2) 1) a4.toNat)] I R 89 89 Q12 ∧ (∀ I12 R12, Q12 none I12 R12 →
      R = R12 ∧ wp (kN 89) mX10_two Q 59 [vR 1, vI a1, vI a2, vI a3, vI (a4 + 1), none] [] I12 R 89))))))) : wp (kN 89) mX10_two Q 59 [vR 1, vI a1, vI a2, vI a3, vI a4, none] [] I R 89 := by
  refine wp_iload (pc' := 61) (i := 4) rfl dX10_two_59 rfl ?_
  refine wp_aload_n (pc' := 62) (q := 0) (i := 0) rfl rfl dX10_two_61 rfl ?_
  refine wp_getR (pc' := 65) (k := 2) dX10_two_62 vc9 (by decide) rfl lfX10_26 o_1 rfl ?_
  obtain ⟨h1, h⟩ := h
  refine wp_getI (pc' := 68) (k := 5) dX10_two_65 vc6 (by decide) rfl lfX10_106 h1 rfl ?_
  obtain ⟨h2, h⟩ := h
  obtain ⟨h3, h⟩ := h
  refine wp_icmp_ge (pc' := 71) (tgt := 121) h2 h3 dX10_two_68 rfl rfl (fun hc => ?_) (fun hc => ?_)
  · have h := h.1 hc
    refine wp_aload_n (pc' := 122) (q := 0) (i := 0) rfl rfl dX10_two_121 rfl ?_
    refine wp_getRc (pc' := 125) (k := 10) (j := 48) dX10_two_122 vc9 (by decide) rfl lfX10_70 o_1 (r_1_10 hR) rfl ?_
    refine wp_aload_n (pc' := 126) (q := 0) (i := 0) rfl rfl dX10_two_125 rfl ?_
    refine wp_getRc (pc' := 129) (k := 7) (j := 24) dX10_two_126 vc9 (by decide) rfl lfX10_53 o_1 (r_1_7 hR) rfl ?_
    refine wp_aload_n (pc' := 130) (q := 0) (i := 0) rfl rfl dX10_two_129 rfl ?_
    refine wp_getRc (pc' := 133) (k := 8) (j := 31) dX10_two_130 vc9 (by decide) rfl lfX10_57 o_1 (r_1_8 hR) rfl ?_
    refine wp_iload_n (pc' := 134) (q := 2) (i := 2) rfl rfl dX10_two_133 rfl ?_
    obtain ⟨Q4, hs4, h⟩ := h
    refine wp_callV (pc' := 137) (as := [vR 24, vR 31, vI a2]) (rest := []) hs4 dX10_two_134 rfl lkX10_235 okX0_choose inX0_choose seX0_choose o_48 vc0 ⟨Nat.le_of_ble_eq_true rfl, Nat.le_of_ble_eq_true rfl⟩ (Nat.le_of_ble_eq_true rfl) (Nat.le_refl _) (Nat.le_refl _) okP_eq okP_eq rfl (rvV rfl (fun I4 R4 hq4 => ?_))
    obtain ⟨hRR4, h⟩ := h I4 R4 hq4; subst hRR4
    refine wp_iload_n (pc' := 138) (q := 3) (i := 3) rfl rfl dX10_two_137 rfl ?_
    obtain ⟨h5, h⟩ := h
    refine wp_if_ne (pc' := 141) (tgt := 151) h5 dX10_two_138 rfl rfl (fun hc => ?_) (fun hc => ?_)
    · have h := h.1 hc
      refine wp_aload_n (pc' := 152) (q := 0) (i := 0) rfl rfl dX10_two_151 rfl ?_
      refine wp_getRc (pc' := 155) (k := 10) (j := 48) dX10_two_152 vc9 (by decide) rfl lfX10_70 o_1 (r_1_10 hR) rfl ?_
      refine wp_getI (pc' := 158) (k := 1) dX10_two_155 vc0 (by decide) rfl lfX10_240 o_48 rfl ?_
      exact wp_ireturn dX10_two_158 rfl rfl h
    · have h := h.2 hc
      refine wp_aload_n (pc' := 142) (q := 0) (i := 0) rfl rfl dX10_two_141 rfl ?_
      refine wp_getRc (pc' := 145) (k := 10) (j := 48) dX10_two_142 vc9 (by decide) rfl lfX10_70 o_1 (r_1_10 hR) rfl ?_
      refine wp_getI (pc' := 148) (k := 0) dX10_two_145 vc0 (by decide) rfl lfX10_239 o_48 rfl ?_
      refine wp_goto (tgt := 158) dX10_two_148 rfl ?_
      exact wp_ireturn dX10_two_158 rfl rfl h
  · have h := h.2 hc
    refine wp_iload_n (pc' := 72) (q := 1) (i := 1) rfl rfl dX10_two_71 rfl ?_
    refine wp_iload (pc' := 74) (i := 4) rfl dX10_two_72 rfl ?_
    refine wp_ishr (pc' := 75) dX10_two_74 rfl ?_
    refine wp_iconst (pc' := 76) dX10_two_75 rfl ?_
    refine wp_iand (pc' := 77) dX10_two_76 rfl ?_
    refine wp_iconst (pc' := 78) dX10_two_77 rfl ?_
    obtain ⟨h6, h⟩ := h
    refine wp_icmp_ne (pc' := 81) (tgt := 88) h6 ⟨by decide, by decide⟩ dX10_two_78 rfl rfl (fun hc => ?_) (fun hc => ?_)
    · have h := h.1 hc
      refine wp_aload_n (pc' := 89) (q := 0) (i := 0) rfl rfl dX10_two_88 rfl ?_
      refine wp_getRc (pc' := 92) (k := 7) (j := 24) dX10_two_89 vc9 (by decide) rfl lfX10_53 o_1 (r_1_7 hR) rfl ?_
      refine wp_astore (pc' := 94) (i := 5) (L' := [vR 1, vI a1, vI a2, vI a3, vI a4, vR 24]) (by decide) (by decide) rfl dX10_two_92 rfl rfl ?_
      refine wp_aload (pc' := 96) (i := 5) rfl dX10_two_94 rfl ?_
      refine wp_aload_n (pc' := 97) (q := 0) (i := 0) rfl rfl dX10_two_96 rfl ?_
      refine wp_getR (pc' := 100) (k := 2) dX10_two_97 vc9 (by decide) rfl lfX10_26 o_1 rfl ?_
      refine wp_iload (pc' := 102) (i := 4) rfl dX10_two_100 rfl ?_
      refine wp_aload_n (pc' := 103) (q := 0) (i := 0) rfl rfl dX10_two_102 rfl ?_
      refine wp_getR (pc' := 106) (k := 2) dX10_two_103 vc9 (by decide) rfl lfX10_26 o_1 rfl ?_
      refine wp_getR (pc' := 109) (k := 1) dX10_two_106 vc6 (by decide) rfl lfX10_117 h1 rfl ?_
      refine wp_iload (pc' := 111) (i := 4) rfl dX10_two_109 rfl ?_
      obtain ⟨h7, h⟩ := h
      obtain ⟨h8, h⟩ := h
      refine wp_iald (pc' := 112) (j := a4.toNat) dX10_two_111 h7 h8 rfl rfl ?_
      obtain ⟨Q9, hs9, h⟩ := h
      refine wp_callV (pc' := 115) (as := [vR (R 1 2), vI a4, vI (I (R (R 1 2) 1) a4.toNat)]) (rest := []) hs9 dX10_two_112 rfl lkX10_224 okX3_put inX3_put seX3_put o_24 vc3 ⟨Nat.le_of_ble_eq_true rfl, Nat.le_of_ble_eq_true rfl⟩ (Nat.le_of_ble_eq_true rfl) (Nat.le_refl _) (Nat.le_refl _) okP_eq okP_eq rfl (rvV rfl (fun I9 R9 hq9 => ?_))
      obtain ⟨hRR9, h⟩ := h I9 R9 hq9; subst hRR9
      refine wp_iinc (pc' := 118) (i := 4) (L' := [vR 1, vI a1, vI a2, vI a3, vI (a4 + 1), vR 24]) rfl (by decide) rfl dX10_two_115 rfl rfl ?_
      refine wp_goto (tgt := 59) dX10_two_118 rfl ?_
      exact wp_dropP (leP_s (leP_s (leP_s (leP_s (leP_s (leP_d leP_n)))))) h
    · have h := h.2 hc
      refine wp_aload_n (pc' := 82) (q := 0) (i := 0) rfl rfl dX10_two_81 rfl ?_
      refine wp_getRc (pc' := 85) (k := 8) (j := 31) dX10_two_82 vc9 (by decide) rfl lfX10_57 o_1 (r_1_8 hR) rfl ?_
      refine wp_goto (tgt := 92) dX10_two_85 rfl ?_
      refine wp_astore (pc' := 94) (i := 5) (L' := [vR 1, vI a1, vI a2, vI a3, vI a4, vR 31]) (by decide) (by decide) rfl dX10_two_92 rfl rfl ?_
      refine wp_aload (pc' := 96) (i := 5) rfl dX10_two_94 rfl ?_
      refine wp_aload_n (pc' := 97) (q := 0) (i := 0) rfl rfl dX10_two_96 rfl ?_
      refine wp_getR (pc' := 100) (k := 2) dX10_two_97 vc9 (by decide) rfl lfX10_26 o_1 rfl ?_
      refine wp_iload (pc' := 102) (i := 4) rfl dX10_two_100 rfl ?_
      refine wp_aload_n (pc' := 103) (q := 0) (i := 0) rfl rfl dX10_two_102 rfl ?_
      refine wp_getR (pc' := 106) (k := 2) dX10_two_103 vc9 (by decide) rfl lfX10_26 o_1 rfl ?_
      refine wp_getR (pc' := 109) (k := 1) dX10_two_106 vc6 (by decide) rfl lfX10_117 h1 rfl ?_
      refine wp_iload (pc' := 111) (i := 4) rfl dX10_two_109 rfl ?_
      obtain ⟨h10, h⟩ := h
      obtain ⟨h11, h⟩ := h
      refine wp_iald (pc' := 112) (j := a4.toNat) dX10_two_111 h10 h11 rfl rfl ?_
      obtain ⟨Q12, hs12, h⟩ := h
      refine wp_callV (pc' := 115) (as := [vR (R 1 2), vI a4, vI (I (R (R 1 2) 1) a4.toNat)]) (rest := []) hs12 dX10_two_112 rfl lkX10_224 okX3_put inX3_put seX3_put o_31 vc3 ⟨Nat.le_of_ble_eq_true rfl, Nat.le_of_ble_eq_true rfl⟩ (Nat.le_of_ble_eq_true rfl) (Nat.le_refl _) (Nat.le_refl _) okP_eq okP_eq rfl (rvV rfl (fun I12 R12 hq12 => ?_))
      obtain ⟨hRR12, h⟩ := h I12 R12 hq12; subst hRR12
      refine wp_iinc (pc' := 118) (i := 4) (L' := [vR 1, vI a1, vI a2, vI a3, vI (a4 + 1), vR 31]) rfl (by decide) rfl dX10_two_115 rfl rfl ?_
      refine wp_goto (tgt := 59) dX10_two_118 rfl ?_
      exact wp_dropP (leP_s (leP_s (leP_s (leP_s (leP_s (leP_d leP_n)))))) h

theorem sX10_keep {Q : QT} {I : II} {R : RR}  (h : wp (kN 89) mX10_keep Q 0 [vR 1] [] I R 89) : Spec mX10_keep [vR 1] I R 89 89 Q := Spec_of_wp pyX10_keep rfl (Nat.le_of_ble_eq_true rfl) (Nat.le_refl _) (by decide) h

set_option maxRecDepth 4000 in
theorem gX10_keep_0 {Q : QT} {I : II} {R : RR} (hR : SR R) 
    (h : (InI (I 1 6)) ∧
      (((I 1 6) < (2 : Int) →
      (0 ≤ (I 1 6) ∧ (I 1 6) < 2) ∧
      (isO 89 (R 23 (I 1 6).toNat) 1) ∧
      (∃ Q3 : QT, Spec mX1_hold [vR (R 23 (I 1 6).toNat), vR (R 1 2), vR 18] I R 89 89 Q3 ∧ (∀ I3 R3, Q3 none I3 R3 →
      R = R3 ∧ (∀ I5 : II, I5 = up2 I3 1 6 ((I3 1 6) + 1) →
      Q (vI (I5 1 6)) I5 R)))) ∧ (¬ (I 1 6) < (2 : Int) →
      Q (vI (-3)) I R))) : wp (kN 89) mX10_keep Q 0 [vR 1] [] I R 89 := by
  refine wp_aload_n (pc' := 1) (q := 0) (i := 0) rfl rfl dX10_keep_0 rfl ?_
  refine wp_getI (pc' := 4) (k := 6) dX10_keep_1 vc9 (by decide) rfl lfX10_46 o_1 rfl ?_
  refine wp_iconst (pc' := 5) dX10_keep_4 rfl ?_
  obtain ⟨h1, h⟩ := h
  refine wp_icmp_lt (pc' := 8) (tgt := 11) h1 ⟨by decide, by decide⟩ dX10_keep_5 rfl rfl (fun hc => ?_) (fun hc => ?_)
  · have h := h.1 hc
    refine wp_aload_n (pc' := 12) (q := 0) (i := 0) rfl rfl dX10_keep_11 rfl ?_
    refine wp_getRc (pc' := 15) (k := 5) (j := 23) dX10_keep_12 vc9 (by decide) rfl lfX10_42 o_1 (r_1_5 hR) rfl ?_
    refine wp_aload_n (pc' := 16) (q := 0) (i := 0) rfl rfl dX10_keep_15 rfl ?_
    refine wp_getI (pc' := 19) (k := 6) dX10_keep_16 vc9 (by decide) rfl lfX10_46 o_1 rfl ?_
    obtain ⟨h2, h⟩ := h
    refine wp_aald (pc' := 20) (j := (I 1 6).toNat) dX10_keep_19 a_23 (Or.inl rfl) h2 rfl rfl ?_
    refine wp_aload_n (pc' := 21) (q := 0) (i := 0) rfl rfl dX10_keep_20 rfl ?_
    refine wp_getR (pc' := 24) (k := 2) dX10_keep_21 vc9 (by decide) rfl lfX10_26 o_1 rfl ?_
    refine wp_aload_n (pc' := 25) (q := 0) (i := 0) rfl rfl dX10_keep_24 rfl ?_
    refine wp_getRc (pc' := 28) (k := 4) (j := 18) dX10_keep_25 vc9 (by decide) rfl lfX10_36 o_1 (r_1_4 hR) rfl ?_
    obtain ⟨h4, h⟩ := h
    obtain ⟨Q3, hs3, h⟩ := h
    refine wp_callV (pc' := 31) (as := [vR (R 1 2), vR 18]) (rest := []) hs3 dX10_keep_28 rfl lkX10_243 okX1_hold inX1_hold seX1_hold h4 vc1 ⟨Nat.le_of_ble_eq_true rfl, Nat.le_of_ble_eq_true rfl⟩ (Nat.le_of_ble_eq_true rfl) (Nat.le_refl _) (Nat.le_refl _) okP_eq okP_eq rfl (rvV rfl (fun I3 R3 hq3 => ?_))
    obtain ⟨hRR3, h⟩ := h I3 R3 hq3; subst hRR3
    refine wp_aload_n (pc' := 32) (q := 0) (i := 0) rfl rfl dX10_keep_31 rfl ?_
    refine wp_dupR (pc' := 33) dX10_keep_32 rfl ?_
    refine wp_getI (pc' := 36) (k := 6) dX10_keep_33 vc9 (by decide) rfl lfX10_46 o_1 rfl ?_
    refine wp_iconst (pc' := 37) dX10_keep_36 rfl ?_
    refine wp_iadd (pc' := 38) dX10_keep_37 rfl ?_
    obtain ⟨I5, eI5⟩ : ∃ z : II, z = up2 I3 1 6 ((I3 1 6) + 1) := ⟨_, rfl⟩
    have h := h I5 eI5
    refine wp_putI (pc' := 41) (k := 6) (I' := I5) dX10_keep_38 vc9 (by decide) rfl rfl (tyX10_ok 6 (by decide)) lfX10_46 o_1 rfl eI5 ?_
    refine wp_aload_n (pc' := 42) (q := 0) (i := 0) rfl rfl dX10_keep_41 rfl ?_
    refine wp_getI (pc' := 45) (k := 6) dX10_keep_42 vc9 (by decide) rfl lfX10_46 o_1 rfl ?_
    exact wp_ireturn dX10_keep_45 rfl rfl h
  · have h := h.2 hc
    refine wp_bipush (pc' := 10) (by decide) dX10_keep_8 rfl ?_
    exact wp_ireturn dX10_keep_10 rfl rfl h

theorem sX10_back {Q : QT} {I : II} {R : RR}  (h : wp (kN 89) mX10_back Q 0 [vR 1] [] I R 89) : Spec mX10_back [vR 1] I R 89 89 Q := Spec_of_wp pyX10_back rfl (Nat.le_of_ble_eq_true rfl) (Nat.le_refl _) (by decide) h

set_option maxRecDepth 4000 in
theorem gX10_back_0 {Q : QT} {I : II} {R : RR} (hR : SR R) 
    (h : (InI (I 1 6)) ∧
      (((1 : Int) ≤ (I 1 6) →
      (∀ I2 : II, I2 = up2 I 1 6 ((I 1 6) - 1) →
      (0 ≤ (I2 1 6) ∧ (I2 1 6) < 2) ∧
      (isO 89 (R 23 (I2 1 6).toNat) 1) ∧
      (∃ Q4 : QT, Spec mX1_giveBack [vR (R 23 (I2 1 6).toNat), vR (R 1 2), vR 18] I2 R 89 89 Q4 ∧ (∀ I4 R4, Q4 none I4 R4 →
      R = R4 ∧ Q (vI (I4 1 6)) I4 R)))) ∧ (¬ (1 : Int) ≤ (I 1 6) →
      Q (vI (-2)) I R))) : wp (kN 89) mX10_back Q 0 [vR 1] [] I R 89 := by
  refine wp_aload_n (pc' := 1) (q := 0) (i := 0) rfl rfl dX10_back_0 rfl ?_
  refine wp_getI (pc' := 4) (k := 6) dX10_back_1 vc9 (by decide) rfl lfX10_46 o_1 rfl ?_
  refine wp_iconst (pc' := 5) dX10_back_4 rfl ?_
  obtain ⟨h1, h⟩ := h
  refine wp_icmp_ge (pc' := 8) (tgt := 11) h1 ⟨by decide, by decide⟩ dX10_back_5 rfl rfl (fun hc => ?_) (fun hc => ?_)
  · have h := h.1 hc
    refine wp_aload_n (pc' := 12) (q := 0) (i := 0) rfl rfl dX10_back_11 rfl ?_
    refine wp_dupR (pc' := 13) dX10_back_12 rfl ?_
    refine wp_getI (pc' := 16) (k := 6) dX10_back_13 vc9 (by decide) rfl lfX10_46 o_1 rfl ?_
    refine wp_iconst (pc' := 17) dX10_back_16 rfl ?_
    refine wp_isub (pc' := 18) dX10_back_17 rfl ?_
    obtain ⟨I2, eI2⟩ : ∃ z : II, z = up2 I 1 6 ((I 1 6) - 1) := ⟨_, rfl⟩
    have h := h I2 eI2
    refine wp_putI (pc' := 21) (k := 6) (I' := I2) dX10_back_18 vc9 (by decide) rfl rfl (tyX10_ok 6 (by decide)) lfX10_46 o_1 rfl eI2 ?_
    refine wp_aload_n (pc' := 22) (q := 0) (i := 0) rfl rfl dX10_back_21 rfl ?_
    refine wp_getRc (pc' := 25) (k := 5) (j := 23) dX10_back_22 vc9 (by decide) rfl lfX10_42 o_1 (r_1_5 hR) rfl ?_
    refine wp_aload_n (pc' := 26) (q := 0) (i := 0) rfl rfl dX10_back_25 rfl ?_
    refine wp_getI (pc' := 29) (k := 6) dX10_back_26 vc9 (by decide) rfl lfX10_46 o_1 rfl ?_
    obtain ⟨h3, h⟩ := h
    refine wp_aald (pc' := 30) (j := (I2 1 6).toNat) dX10_back_29 a_23 (Or.inl rfl) h3 rfl rfl ?_
    refine wp_aload_n (pc' := 31) (q := 0) (i := 0) rfl rfl dX10_back_30 rfl ?_
    refine wp_getR (pc' := 34) (k := 2) dX10_back_31 vc9 (by decide) rfl lfX10_26 o_1 rfl ?_
    refine wp_aload_n (pc' := 35) (q := 0) (i := 0) rfl rfl dX10_back_34 rfl ?_
    refine wp_getRc (pc' := 38) (k := 4) (j := 18) dX10_back_35 vc9 (by decide) rfl lfX10_36 o_1 (r_1_4 hR) rfl ?_
    obtain ⟨h5, h⟩ := h
    obtain ⟨Q4, hs4, h⟩ := h
    refine wp_callV (pc' := 41) (as := [vR (R 1 2), vR 18]) (rest := []) hs4 dX10_back_38 rfl lkX10_247 okX1_giveBack inX1_giveBack seX1_giveBack h5 vc1 ⟨Nat.le_of_ble_eq_true rfl, Nat.le_of_ble_eq_true rfl⟩ (Nat.le_of_ble_eq_true rfl) (Nat.le_refl _) (Nat.le_refl _) okP_eq okP_eq rfl (rvV rfl (fun I4 R4 hq4 => ?_))
    obtain ⟨hRR4, h⟩ := h I4 R4 hq4; subst hRR4
    refine wp_aload_n (pc' := 42) (q := 0) (i := 0) rfl rfl dX10_back_41 rfl ?_
    refine wp_getI (pc' := 45) (k := 6) dX10_back_42 vc9 (by decide) rfl lfX10_46 o_1 rfl ?_
    exact wp_ireturn dX10_back_45 rfl rfl h
  · have h := h.2 hc
    refine wp_bipush (pc' := 10) (by decide) dX10_back_8 rfl ?_
    exact wp_ireturn dX10_back_10 rfl rfl h

theorem sX10_count {Q : QT} {I : II} {R : RR} {a1 : Int} (h : wp (kN 89) mX10_count Q 0 [vR 1, vI a1] [] I R 89) : Spec mX10_count [vR 1, vI a1] I R 89 89 Q := Spec_of_wp pyX10_count rfl (Nat.le_of_ble_eq_true rfl) (Nat.le_refl _) (by decide) h

set_option maxRecDepth 4000 in
theorem gX10_count_0 {Q : QT} {I : II} {R : RR} (hR : SR R) {a1 : Int}
    (h : (InI a1) ∧
      ((a1 < 0 ∨ 6 < a1 →
      Q (vI (-1)) I R) ∧ (a1 = 0 →
      (isO 89 (R 1 2) 6) ∧
      Q (vI (I (R 1 2) 5)) I R) ∧ (a1 = 1 →
      (isO 89 (R 1 2) 6) ∧
      Q (vI (I (R 1 2) 6)) I R) ∧ (a1 = 2 →
      (isO 89 (R 1 2) 6) ∧
      Q (vI (I (R 1 2) 7)) I R) ∧ (a1 = 3 →
      Q (vI (I 2 1)) I R) ∧ (a1 = 4 →
      Q (vI (I 18 4)) I R) ∧ (a1 = 5 →
      Q (vI (I 1 6)) I R) ∧ (a1 = 6 →
      (isO 89 (R 1 2) 6) ∧
      Q (vI (I (R 1 2) 8)) I R))) : wp (kN 89) mX10_count Q 0 [vR 1, vI a1] [] I R 89 := by
  refine wp_iload_n (pc' := 1) (q := 1) (i := 1) rfl rfl dX10_count_0 rfl ?_
  obtain ⟨h1, h⟩ := h
  refine wp_table (tgtD := 97) h1 dX10_count_1 rfl (fun hc => ?_) (fun j hj hle => ?_)
  · have h := h.1 hc
    refine wp_iconst (pc' := 98) dX10_count_97 rfl ?_
    exact wp_ireturn dX10_count_98 rfl rfl h
  · have hj9 : j = 0 ∨ j = 1 ∨ j = 2 ∨ j = 3 ∨ j = 4 ∨ j = 5 ∨ j = 6 := by omega
    rcases hj9 with rfl | rfl | rfl | rfl | rfl | rfl | rfl
    · refine ⟨43, 44, rfl, rfl, ?_⟩
      have h := h.2.1 (by omega)
      refine wp_aload_n (pc' := 45) (q := 0) (i := 0) rfl rfl dX10_count_44 rfl ?_
      refine wp_getR (pc' := 48) (k := 2) dX10_count_45 vc9 (by decide) rfl lfX10_26 o_1 rfl ?_
      obtain ⟨h2, h⟩ := h
      refine wp_getI (pc' := 51) (k := 5) dX10_count_48 vc6 (by decide) rfl lfX10_106 h2 rfl ?_
      exact wp_ireturn dX10_count_51 rfl rfl h
    · refine ⟨51, 52, rfl, rfl, ?_⟩
      have h := h.2.2.1 (by omega)
      refine wp_aload_n (pc' := 53) (q := 0) (i := 0) rfl rfl dX10_count_52 rfl ?_
      refine wp_getR (pc' := 56) (k := 2) dX10_count_53 vc9 (by decide) rfl lfX10_26 o_1 rfl ?_
      obtain ⟨h3, h⟩ := h
      refine wp_getI (pc' := 59) (k := 6) dX10_count_56 vc6 (by decide) rfl lfX10_99 h3 rfl ?_
      exact wp_ireturn dX10_count_59 rfl rfl h
    · refine ⟨59, 60, rfl, rfl, ?_⟩
      have h := h.2.2.2.1 (by omega)
      refine wp_aload_n (pc' := 61) (q := 0) (i := 0) rfl rfl dX10_count_60 rfl ?_
      refine wp_getR (pc' := 64) (k := 2) dX10_count_61 vc9 (by decide) rfl lfX10_26 o_1 rfl ?_
      obtain ⟨h4, h⟩ := h
      refine wp_getI (pc' := 67) (k := 7) dX10_count_64 vc6 (by decide) rfl lfX10_102 h4 rfl ?_
      exact wp_ireturn dX10_count_67 rfl rfl h
    · refine ⟨67, 68, rfl, rfl, ?_⟩
      have h := h.2.2.2.2.1 (by omega)
      refine wp_aload_n (pc' := 69) (q := 0) (i := 0) rfl rfl dX10_count_68 rfl ?_
      refine wp_getRc (pc' := 72) (k := 0) (j := 2) dX10_count_69 vc9 (by decide) rfl lfX10_10 o_1 (r_1_0 hR) rfl ?_
      refine wp_getI (pc' := 75) (k := 1) dX10_count_72 vc8 (by decide) rfl lfX10_88 o_2 rfl ?_
      exact wp_ireturn dX10_count_75 rfl rfl h
    · refine ⟨75, 76, rfl, rfl, ?_⟩
      have h := h.2.2.2.2.2.1 (by omega)
      refine wp_aload_n (pc' := 77) (q := 0) (i := 0) rfl rfl dX10_count_76 rfl ?_
      refine wp_getRc (pc' := 80) (k := 4) (j := 18) dX10_count_77 vc9 (by decide) rfl lfX10_36 o_1 (r_1_4 hR) rfl ?_
      refine wp_getI (pc' := 83) (k := 4) dX10_count_80 vc4 (by decide) rfl lfX10_105 o_18 rfl ?_
      exact wp_ireturn dX10_count_83 rfl rfl h
    · refine ⟨83, 84, rfl, rfl, ?_⟩
      have h := h.2.2.2.2.2.2.1 (by omega)
      refine wp_aload_n (pc' := 85) (q := 0) (i := 0) rfl rfl dX10_count_84 rfl ?_
      refine wp_getI (pc' := 88) (k := 6) dX10_count_85 vc9 (by decide) rfl lfX10_46 o_1 rfl ?_
      exact wp_ireturn dX10_count_88 rfl rfl h
    · refine ⟨88, 89, rfl, rfl, ?_⟩
      have h := h.2.2.2.2.2.2.2 (by omega)
      refine wp_aload_n (pc' := 90) (q := 0) (i := 0) rfl rfl dX10_count_89 rfl ?_
      refine wp_getR (pc' := 93) (k := 2) dX10_count_90 vc9 (by decide) rfl lfX10_26 o_1 rfl ?_
      obtain ⟨h5, h⟩ := h
      refine wp_getI (pc' := 96) (k := 8) dX10_count_93 vc6 (by decide) rfl lfX10_250 h5 rfl ?_
      exact wp_ireturn dX10_count_96 rfl rfl h

theorem sX10_gainOfAllMeetings {Q : QT} {I : II} {R : RR}  (h : wp (kN 89) mX10_gainOfAllMeetings Q 0 [vR 1, none, none, none, none, none] [] I R 89) : Spec mX10_gainOfAllMeetings [vR 1] I R 89 89 Q := Spec_of_wp pyX10_gainOfAllMeetings rfl (Nat.le_of_ble_eq_true rfl) (Nat.le_refl _) (by decide) h

set_option maxRecDepth 4000 in
theorem gX10_gainOfAllMeetings_0 {Q : QT} {I : II} {R : RR} (hR : SR R) 
    (h : wp (kN 89) mX10_gainOfAllMeetings Q 4 [vR 1, vI 0, vI 0, none, none, none] [] I R 89) : wp (kN 89) mX10_gainOfAllMeetings Q 0 [vR 1, none, none, none, none, none] [] I R 89 := by
  refine wp_iconst (pc' := 1) dX10_gainOfAllMeetings_0 rfl ?_
  refine wp_istore_n (pc' := 2) (q := 1) (i := 1) (L' := [vR 1, vI 0, none, none, none, none]) rfl (by decide) rfl dX10_gainOfAllMeetings_1 rfl rfl ?_
  refine wp_iconst (pc' := 3) dX10_gainOfAllMeetings_2 rfl ?_
  refine wp_istore_n (pc' := 4) (q := 2) (i := 2) (L' := [vR 1, vI 0, vI 0, none, none, none]) rfl (by decide) rfl dX10_gainOfAllMeetings_3 rfl rfl ?_
  exact h

set_option maxRecDepth 4000 in
theorem gX10_gainOfAllMeetings_4 {Q : QT} {I : II} {R : RR} (hR : SR R) {a1 : Int} {a2 : Int}
    (h : (isO 89 (R 1 2) 6) ∧
      (InI a2) ∧
      (InI (I (R 1 2) 6)) ∧
      (((I (R 1 2) 6) ≤ a2 →
      Q (vI a1) I R) ∧ (¬ (I (R 1 2) 6) ≤ a2 →
      wp (kN 89) mX10_gainOfAllMeetings Q 17 [vR 1, vI a1, vI a2, vI 0, none, none] [] I R 89))) : wp (kN 89) mX10_gainOfAllMeetings Q 4 [vR 1, vI a1, vI a2, none, none, none] [] I R 89 := by
  refine wp_iload_n (pc' := 5) (q := 2) (i := 2) rfl rfl dX10_gainOfAllMeetings_4 rfl ?_
  refine wp_aload_n (pc' := 6) (q := 0) (i := 0) rfl rfl dX10_gainOfAllMeetings_5 rfl ?_
  refine wp_getR (pc' := 9) (k := 2) dX10_gainOfAllMeetings_6 vc9 (by decide) rfl lfX10_26 o_1 rfl ?_
  obtain ⟨h1, h⟩ := h
  refine wp_getI (pc' := 12) (k := 6) dX10_gainOfAllMeetings_9 vc6 (by decide) rfl lfX10_99 h1 rfl ?_
  obtain ⟨h2, h⟩ := h
  obtain ⟨h3, h⟩ := h
  refine wp_icmp_ge (pc' := 15) (tgt := 101) h2 h3 dX10_gainOfAllMeetings_12 rfl rfl (fun hc => ?_) (fun hc => ?_)
  · have h := h.1 hc
    refine wp_iload_n (pc' := 102) (q := 1) (i := 1) rfl rfl dX10_gainOfAllMeetings_101 rfl ?_
    exact wp_ireturn dX10_gainOfAllMeetings_102 rfl rfl h
  · have h := h.2 hc
    refine wp_iconst (pc' := 16) dX10_gainOfAllMeetings_15 rfl ?_
    refine wp_istore_n (pc' := 17) (q := 3) (i := 3) (L' := [vR 1, vI a1, vI a2, vI 0, none, none]) rfl (by decide) rfl dX10_gainOfAllMeetings_16 rfl rfl ?_
    exact h

set_option maxRecDepth 4000 in
theorem gX10_gainOfAllMeetings_17 {Q : QT} {I : II} {R : RR} (hR : SR R) {a1 : Int} {a2 : Int} {a3 : Int}
    (h : (isO 89 (R 1 2) 6) ∧
      (InI a3) ∧
      (InI (I (R 1 2) 7)) ∧
      (((I (R 1 2) 7) ≤ a3 →
      wp (kN 89) mX10_gainOfAllMeetings Q 4 [vR 1, vI a1, vI (a2 + 1), none, none, none] [] I R 89) ∧ (¬ (I (R 1 2) 7) ≤ a3 →
      (isA 89 (R (R 1 2) 3) 1 10) ∧
      (0 ≤ a2 ∧ a2 < 10) ∧
      (isA 89 (R (R 1 2) 1) 1 20) ∧
      (0 ≤ (I (R (R 1 2) 3) a2.toNat) ∧ (I (R (R 1 2) 3) a2.toNat) < 20) ∧
      (isA 89 (R (R 1 2) 4) 1 10) ∧
      (0 ≤ a3 ∧ a3 < 10) ∧
      (0 ≤ (I (R (R 1 2) 4) a3.toNat) ∧ (I (R (R 1 2) 4) a3.toNat) < 20) ∧
      (InI (I (R (R 1 2) 1) (I (R (R 1 2) 3) a2.toNat).toNat)) ∧
      (InI ((I (R (R 1 2) 1) (I (R (R 1 2) 4) a3.toNat).toNat) + (I (R 1 2) 9))) ∧
      (((I (R (R 1 2) 1) (I (R (R 1 2) 3) a2.toNat).toNat) < ((I (R (R 1 2) 1) (I (R (R 1 2) 4) a3.toNat).toNat) + (I (R 1 2) 9)) →
      wp (kN 89) mX10_gainOfAllMeetings Q 89 [vR 1, vI a1, vI a2, vI a3, none, none] [] I R 89) ∧ (¬ (I (R (R 1 2) 1) (I (R (R 1 2) 3) a2.toNat).toNat) < ((I (R (R 1 2) 1) (I (R (R 1 2) 4) a3.toNat).toNat) + (I (R 1 2) 9)) →
      wp (kN 89) mX10_gainOfAllMeetings Q 89 [vR 1, vI (a1 + ((I (R (R 1 2) 1) (I (R (R 1 2) 3) a2.toNat).toNat) - (I (R (R 1 2) 1) (I (R (R 1 2) 4) a3.toNat).toNat))), vI a2, vI a3, none, none] [] I R 89))))) : wp (kN 89) mX10_gainOfAllMeetings Q 17 [vR 1, vI a1, vI a2, vI a3, none, none] [] I R 89 := by
  refine wp_iload_n (pc' := 18) (q := 3) (i := 3) rfl rfl dX10_gainOfAllMeetings_17 rfl ?_
  refine wp_aload_n (pc' := 19) (q := 0) (i := 0) rfl rfl dX10_gainOfAllMeetings_18 rfl ?_
  refine wp_getR (pc' := 22) (k := 2) dX10_gainOfAllMeetings_19 vc9 (by decide) rfl lfX10_26 o_1 rfl ?_
  obtain ⟨h1, h⟩ := h
  refine wp_getI (pc' := 25) (k := 7) dX10_gainOfAllMeetings_22 vc6 (by decide) rfl lfX10_102 h1 rfl ?_
  obtain ⟨h2, h⟩ := h
  obtain ⟨h3, h⟩ := h
  refine wp_icmp_ge (pc' := 28) (tgt := 95) h2 h3 dX10_gainOfAllMeetings_25 rfl rfl (fun hc => ?_) (fun hc => ?_)
  · have h := h.1 hc
    refine wp_iinc (pc' := 98) (i := 2) (L' := [vR 1, vI a1, vI (a2 + 1), vI a3, none, none]) rfl (by decide) rfl dX10_gainOfAllMeetings_95 rfl rfl ?_
    refine wp_goto (tgt := 4) dX10_gainOfAllMeetings_98 rfl ?_
    exact wp_dropP (leP_s (leP_s (leP_s (leP_d (leP_s (leP_s leP_n)))))) h
  · have h := h.2 hc
    refine wp_aload_n (pc' := 29) (q := 0) (i := 0) rfl rfl dX10_gainOfAllMeetings_28 rfl ?_
    refine wp_getR (pc' := 32) (k := 2) dX10_gainOfAllMeetings_29 vc9 (by decide) rfl lfX10_26 o_1 rfl ?_
    refine wp_getR (pc' := 35) (k := 1) dX10_gainOfAllMeetings_32 vc6 (by decide) rfl lfX10_117 h1 rfl ?_
    refine wp_aload_n (pc' := 36) (q := 0) (i := 0) rfl rfl dX10_gainOfAllMeetings_35 rfl ?_
    refine wp_getR (pc' := 39) (k := 2) dX10_gainOfAllMeetings_36 vc9 (by decide) rfl lfX10_26 o_1 rfl ?_
    refine wp_getR (pc' := 42) (k := 3) dX10_gainOfAllMeetings_39 vc6 (by decide) rfl lfX10_253 h1 rfl ?_
    refine wp_iload_n (pc' := 43) (q := 2) (i := 2) rfl rfl dX10_gainOfAllMeetings_42 rfl ?_
    obtain ⟨h4, h⟩ := h
    obtain ⟨h5, h⟩ := h
    refine wp_iald (pc' := 44) (j := a2.toNat) dX10_gainOfAllMeetings_43 h4 h5 rfl rfl ?_
    obtain ⟨h6, h⟩ := h
    obtain ⟨h7, h⟩ := h
    refine wp_iald (pc' := 45) (j := (I (R (R 1 2) 3) a2.toNat).toNat) dX10_gainOfAllMeetings_44 h6 h7 rfl rfl ?_
    refine wp_istore (pc' := 47) (i := 4) (L' := [vR 1, vI a1, vI a2, vI a3, vI (I (R (R 1 2) 1) (I (R (R 1 2) 3) a2.toNat).toNat), none]) (by decide) rfl dX10_gainOfAllMeetings_45 rfl rfl ?_
    refine wp_aload_n (pc' := 48) (q := 0) (i := 0) rfl rfl dX10_gainOfAllMeetings_47 rfl ?_
    refine wp_getR (pc' := 51) (k := 2) dX10_gainOfAllMeetings_48 vc9 (by decide) rfl lfX10_26 o_1 rfl ?_
    refine wp_getR (pc' := 54) (k := 1) dX10_gainOfAllMeetings_51 vc6 (by decide) rfl lfX10_117 h1 rfl ?_
    refine wp_aload_n (pc' := 55) (q := 0) (i := 0) rfl rfl dX10_gainOfAllMeetings_54 rfl ?_
    refine wp_getR (pc' := 58) (k := 2) dX10_gainOfAllMeetings_55 vc9 (by decide) rfl lfX10_26 o_1 rfl ?_
    refine wp_getR (pc' := 61) (k := 4) dX10_gainOfAllMeetings_58 vc6 (by decide) rfl lfX10_256 h1 rfl ?_
    refine wp_iload_n (pc' := 62) (q := 3) (i := 3) rfl rfl dX10_gainOfAllMeetings_61 rfl ?_
    obtain ⟨h8, h⟩ := h
    obtain ⟨h9, h⟩ := h
    refine wp_iald (pc' := 63) (j := a3.toNat) dX10_gainOfAllMeetings_62 h8 h9 rfl rfl ?_
    obtain ⟨h10, h⟩ := h
    refine wp_iald (pc' := 64) (j := (I (R (R 1 2) 4) a3.toNat).toNat) dX10_gainOfAllMeetings_63 h6 h10 rfl rfl ?_
    refine wp_istore (pc' := 66) (i := 5) (L' := [vR 1, vI a1, vI a2, vI a3, vI (I (R (R 1 2) 1) (I (R (R 1 2) 3) a2.toNat).toNat), vI (I (R (R 1 2) 1) (I (R (R 1 2) 4) a3.toNat).toNat)]) (by decide) rfl dX10_gainOfAllMeetings_64 rfl rfl ?_
    refine wp_iload (pc' := 68) (i := 4) rfl dX10_gainOfAllMeetings_66 rfl ?_
    refine wp_iload (pc' := 70) (i := 5) rfl dX10_gainOfAllMeetings_68 rfl ?_
    refine wp_aload_n (pc' := 71) (q := 0) (i := 0) rfl rfl dX10_gainOfAllMeetings_70 rfl ?_
    refine wp_getR (pc' := 74) (k := 2) dX10_gainOfAllMeetings_71 vc9 (by decide) rfl lfX10_26 o_1 rfl ?_
    refine wp_getI (pc' := 77) (k := 9) dX10_gainOfAllMeetings_74 vc6 (by decide) rfl lfX10_124 h1 rfl ?_
    refine wp_iadd (pc' := 78) dX10_gainOfAllMeetings_77 rfl ?_
    obtain ⟨h11, h⟩ := h
    obtain ⟨h12, h⟩ := h
    refine wp_icmp_lt (pc' := 81) (tgt := 89) h11 h12 dX10_gainOfAllMeetings_78 rfl rfl (fun hc => ?_) (fun hc => ?_)
    · have h := h.1 hc
      exact wp_dropP (leP_s (leP_s (leP_s (leP_s (leP_d (leP_d leP_n)))))) h
    · have h := h.2 hc
      refine wp_iload_n (pc' := 82) (q := 1) (i := 1) rfl rfl dX10_gainOfAllMeetings_81 rfl ?_
      refine wp_iload (pc' := 84) (i := 4) rfl dX10_gainOfAllMeetings_82 rfl ?_
      refine wp_iload (pc' := 86) (i := 5) rfl dX10_gainOfAllMeetings_84 rfl ?_
      refine wp_isub (pc' := 87) dX10_gainOfAllMeetings_86 rfl ?_
      refine wp_iadd (pc' := 88) dX10_gainOfAllMeetings_87 rfl ?_
      refine wp_istore_n (pc' := 89) (q := 1) (i := 1) (L' := [vR 1, vI (a1 + ((I (R (R 1 2) 1) (I (R (R 1 2) 3) a2.toNat).toNat) - (I (R (R 1 2) 1) (I (R (R 1 2) 4) a3.toNat).toNat))), vI a2, vI a3, vI (I (R (R 1 2) 1) (I (R (R 1 2) 3) a2.toNat).toNat), vI (I (R (R 1 2) 1) (I (R (R 1 2) 4) a3.toNat).toNat)]) rfl (by decide) rfl dX10_gainOfAllMeetings_88 rfl rfl ?_
      exact wp_dropP (leP_s (leP_s (leP_s (leP_s (leP_d (leP_d leP_n)))))) h

set_option maxRecDepth 4000 in
theorem gX10_gainOfAllMeetings_89 {Q : QT} {I : II} {R : RR} (hR : SR R) {a1 : Int} {a2 : Int} {a3 : Int}
    (h : wp (kN 89) mX10_gainOfAllMeetings Q 17 [vR 1, vI a1, vI a2, vI (a3 + 1), none, none] [] I R 89) : wp (kN 89) mX10_gainOfAllMeetings Q 89 [vR 1, vI a1, vI a2, vI a3, none, none] [] I R 89 := by
  refine wp_iinc (pc' := 92) (i := 3) (L' := [vR 1, vI a1, vI a2, vI (a3 + 1), none, none]) rfl (by decide) rfl dX10_gainOfAllMeetings_89 rfl rfl ?_
  refine wp_goto (tgt := 17) dX10_gainOfAllMeetings_92 rfl ?_
  exact h

theorem sX10_gainOfTelling {Q : QT} {I : II} {R : RR} {a1 : Int} {a2 : Int} (h : wp (kN 89) mX10_gainOfTelling Q 0 [vR 1, vI a1, vI a2, none] [] I R 89) : Spec mX10_gainOfTelling [vR 1, vI a1, vI a2] I R 89 89 Q := Spec_of_wp pyX10_gainOfTelling rfl (Nat.le_of_ble_eq_true rfl) (Nat.le_refl _) (by decide) h

set_option maxRecDepth 4000 in
theorem gX10_gainOfTelling_0 {Q : QT} {I : II} {R : RR} (hR : SR R) {a1 : Int} {a2 : Int}
    (h : (∃ Q1 : QT, Spec mX3_empty [vR 24] I R 89 89 Q1 ∧ (∀ I1 R1, Q1 none I1 R1 →
      R = R1 ∧ wp (kN 89) mX10_gainOfTelling Q 9 [vR 1, vI a1, vI a2, vI 0] [] I1 R 89))) : wp (kN 89) mX10_gainOfTelling Q 0 [vR 1, vI a1, vI a2, none] [] I R 89 := by
  refine wp_aload_n (pc' := 1) (q := 0) (i := 0) rfl rfl dX10_gainOfTelling_0 rfl ?_
  refine wp_getRc (pc' := 4) (k := 7) (j := 24) dX10_gainOfTelling_1 vc9 (by decide) rfl lfX10_53 o_1 (r_1_7 hR) rfl ?_
  obtain ⟨Q1, hs1, h⟩ := h
  refine wp_callV (pc' := 7) (as := []) (rest := []) hs1 dX10_gainOfTelling_4 rfl lkX10_221 okX3_empty inX3_empty seX3_empty o_24 vc3 ⟨Nat.le_of_ble_eq_true rfl, Nat.le_of_ble_eq_true rfl⟩ (Nat.le_of_ble_eq_true rfl) (Nat.le_refl _) (Nat.le_refl _) okP_eq okP_eq rfl (rvV rfl (fun I1 R1 hq1 => ?_))
  obtain ⟨hRR1, h⟩ := h I1 R1 hq1; subst hRR1
  refine wp_iconst (pc' := 8) dX10_gainOfTelling_7 rfl ?_
  refine wp_istore_n (pc' := 9) (q := 3) (i := 3) (L' := [vR 1, vI a1, vI a2, vI 0]) rfl (by decide) rfl dX10_gainOfTelling_8 rfl rfl ?_
  exact h

set_option maxRecDepth 4000 in
theorem gX10_gainOfTelling_9 {Q : QT} {I : II} {R : RR} (hR : SR R) {a1 : Int} {a2 : Int} {a3 : Int}
    (h : (isO 89 (R 1 2) 6) ∧
      (InI a3) ∧
      (InI (I (R 1 2) 5)) ∧
      (((I (R 1 2) 5) ≤ a3 →
      (∃ Q4 : QT, Spec mX3_cross [vR 24, vI (I (R 1 2) 9)] I R 89 89 Q4 ∧ (∀ I4 R4, Q4 none I4 R4 →
      R = R4 ∧ (isA 89 (R (R 1 2) 0) 2 20) ∧
      (0 ≤ a1 ∧ a1 < 20) ∧
      (∃ Q7 : QT, Spec mX3_trades [vR 24, vI (I4 (R (R 1 2) 0) a1.toNat), vI a1] I4 R 89 89 Q7 ∧ (∀ x7 I7 R7, (x7 = 0 ∨ x7 = 1) → Q7 (vI x7) I7 R7 →
      R = R7 ∧ (InI x7) ∧
      ((¬ x7 = 0 →
      (isA 89 (R (R 1 2) 1) 1 20) ∧
      (InI (I7 (R (R 1 2) 0) a1.toNat)) ∧
      (((I7 (R (R 1 2) 0) a1.toNat) = 0 →
      Q (vI ((I7 (R (R 1 2) 1) a1.toNat) - (I7 24 4))) I7 R) ∧ (¬ (I7 (R (R 1 2) 0) a1.toNat) = 0 →
      Q (vI (((I7 24 4) - (I7 (R 1 2) 9)) - (I7 (R (R 1 2) 1) a1.toNat))) I7 R))) ∧ (x7 = 0 →
      Q (vI 0) I7 R))))))) ∧ (¬ (I (R 1 2) 5) ≤ a3 →
      (InI a1) ∧
      ((¬ a3 = a1 →
      (isA 89 (R (R 1 2) 1) 1 20) ∧
      (0 ≤ a3 ∧ a3 < 20) ∧
      (∃ Q14 : QT, Spec mX3_put [vR 24, vR (R 1 2), vI a3, vI (I (R (R 1 2) 1) a3.toNat)] I R 89 89 Q14 ∧ (∀ I14 R14, Q14 none I14 R14 →
      R = R14 ∧ wp (kN 89) mX10_gainOfTelling Q 9 [vR 1, vI a1, vI a2, vI (a3 + 1)] [] I14 R 89))) ∧ (a3 = a1 →
      (∃ Q15 : QT, Spec mX3_put [vR 24, vR (R 1 2), vI a3, vI a2] I R 89 89 Q15 ∧ (∀ I15 R15, Q15 none I15 R15 →
      R = R15 ∧ wp (kN 89) mX10_gainOfTelling Q 9 [vR 1, vI a1, vI a2, vI (a3 + 1)] [] I15 R 89))))))) : wp (kN 89) mX10_gainOfTelling Q 9 [vR 1, vI a1, vI a2, vI a3] [] I R 89 := by
  refine wp_iload_n (pc' := 10) (q := 3) (i := 3) rfl rfl dX10_gainOfTelling_9 rfl ?_
  refine wp_aload_n (pc' := 11) (q := 0) (i := 0) rfl rfl dX10_gainOfTelling_10 rfl ?_
  refine wp_getR (pc' := 14) (k := 2) dX10_gainOfTelling_11 vc9 (by decide) rfl lfX10_26 o_1 rfl ?_
  obtain ⟨h1, h⟩ := h
  refine wp_getI (pc' := 17) (k := 5) dX10_gainOfTelling_14 vc6 (by decide) rfl lfX10_106 h1 rfl ?_
  obtain ⟨h2, h⟩ := h
  obtain ⟨h3, h⟩ := h
  refine wp_icmp_ge (pc' := 20) (tgt := 56) h2 h3 dX10_gainOfTelling_17 rfl rfl (fun hc => ?_) (fun hc => ?_)
  · have h := h.1 hc
    refine wp_aload_n (pc' := 57) (q := 0) (i := 0) rfl rfl dX10_gainOfTelling_56 rfl ?_
    refine wp_getRc (pc' := 60) (k := 7) (j := 24) dX10_gainOfTelling_57 vc9 (by decide) rfl lfX10_53 o_1 (r_1_7 hR) rfl ?_
    refine wp_aload_n (pc' := 61) (q := 0) (i := 0) rfl rfl dX10_gainOfTelling_60 rfl ?_
    refine wp_getR (pc' := 64) (k := 2) dX10_gainOfTelling_61 vc9 (by decide) rfl lfX10_26 o_1 rfl ?_
    refine wp_getI (pc' := 67) (k := 9) dX10_gainOfTelling_64 vc6 (by decide) rfl lfX10_124 h1 rfl ?_
    obtain ⟨Q4, hs4, h⟩ := h
    refine wp_callV (pc' := 70) (as := [vI (I (R 1 2) 9)]) (rest := []) hs4 dX10_gainOfTelling_67 rfl lkX10_228 okX3_cross inX3_cross seX3_cross o_24 vc3 ⟨Nat.le_of_ble_eq_true rfl, Nat.le_of_ble_eq_true rfl⟩ (Nat.le_of_ble_eq_true rfl) (Nat.le_refl _) (Nat.le_refl _) okP_eq okP_eq rfl (rvV rfl (fun I4 R4 hq4 => ?_))
    obtain ⟨hRR4, h⟩ := h I4 R4 hq4; subst hRR4
    refine wp_aload_n (pc' := 71) (q := 0) (i := 0) rfl rfl dX10_gainOfTelling_70 rfl ?_
    refine wp_getRc (pc' := 74) (k := 7) (j := 24) dX10_gainOfTelling_71 vc9 (by decide) rfl lfX10_53 o_1 (r_1_7 hR) rfl ?_
    refine wp_aload_n (pc' := 75) (q := 0) (i := 0) rfl rfl dX10_gainOfTelling_74 rfl ?_
    refine wp_getR (pc' := 78) (k := 2) dX10_gainOfTelling_75 vc9 (by decide) rfl lfX10_26 o_1 rfl ?_
    refine wp_getR (pc' := 81) (k := 0) dX10_gainOfTelling_78 vc6 (by decide) rfl lfX10_113 h1 rfl ?_
    refine wp_iload_n (pc' := 82) (q := 1) (i := 1) rfl rfl dX10_gainOfTelling_81 rfl ?_
    obtain ⟨h5, h⟩ := h
    obtain ⟨h6, h⟩ := h
    refine wp_zald (pc' := 83) (j := a1.toNat) dX10_gainOfTelling_82 h5 h6 rfl rfl ?_
    refine wp_iload_n (pc' := 84) (q := 1) (i := 1) rfl rfl dX10_gainOfTelling_83 rfl ?_
    obtain ⟨Q7, hs7, h⟩ := h
    refine wp_callV (pc' := 87) (as := [vI (I4 (R (R 1 2) 0) a1.toNat), vI a1]) (rest := []) hs7 dX10_gainOfTelling_84 rfl lkX10_259 okX3_trades inX3_trades seX3_trades o_24 vc3 ⟨Nat.le_of_ble_eq_true rfl, Nat.le_of_ble_eq_true rfl⟩ (Nat.le_of_ble_eq_true rfl) (Nat.le_refl _) (Nat.le_refl _) okP_eq okP_eq rfl (rvZ rfl (fun x7 I7 R7 hz7 hq7 => ?_))
    obtain ⟨hRR7, h⟩ := h x7 I7 R7 hz7 hq7; subst hRR7
    obtain ⟨h8, h⟩ := h
    refine wp_if_ne (pc' := 90) (tgt := 92) h8 dX10_gainOfTelling_87 rfl rfl (fun hc => ?_) (fun hc => ?_)
    · have h := h.1 hc
      refine wp_aload_n (pc' := 93) (q := 0) (i := 0) rfl rfl dX10_gainOfTelling_92 rfl ?_
      refine wp_getR (pc' := 96) (k := 2) dX10_gainOfTelling_93 vc9 (by decide) rfl lfX10_26 o_1 rfl ?_
      refine wp_getR (pc' := 99) (k := 1) dX10_gainOfTelling_96 vc6 (by decide) rfl lfX10_117 h1 rfl ?_
      refine wp_iload_n (pc' := 100) (q := 1) (i := 1) rfl rfl dX10_gainOfTelling_99 rfl ?_
      obtain ⟨h9, h⟩ := h
      refine wp_iald (pc' := 101) (j := a1.toNat) dX10_gainOfTelling_100 h9 h6 rfl rfl ?_
      refine wp_istore_n (pc' := 102) (q := 3) (i := 3) (L' := [vR 1, vI a1, vI a2, vI (I7 (R (R 1 2) 1) a1.toNat)]) rfl (by decide) rfl dX10_gainOfTelling_101 rfl rfl ?_
      refine wp_aload_n (pc' := 103) (q := 0) (i := 0) rfl rfl dX10_gainOfTelling_102 rfl ?_
      refine wp_getR (pc' := 106) (k := 2) dX10_gainOfTelling_103 vc9 (by decide) rfl lfX10_26 o_1 rfl ?_
      refine wp_getR (pc' := 109) (k := 0) dX10_gainOfTelling_106 vc6 (by decide) rfl lfX10_113 h1 rfl ?_
      refine wp_iload_n (pc' := 110) (q := 1) (i := 1) rfl rfl dX10_gainOfTelling_109 rfl ?_
      refine wp_zald (pc' := 111) (j := a1.toNat) dX10_gainOfTelling_110 h5 h6 rfl rfl ?_
      obtain ⟨h10, h⟩ := h
      refine wp_if_eq (pc' := 114) (tgt := 134) h10 dX10_gainOfTelling_111 rfl rfl (fun hc => ?_) (fun hc => ?_)
      · have h := h.1 hc
        refine wp_iload_n (pc' := 135) (q := 3) (i := 3) rfl rfl dX10_gainOfTelling_134 rfl ?_
        refine wp_aload_n (pc' := 136) (q := 0) (i := 0) rfl rfl dX10_gainOfTelling_135 rfl ?_
        refine wp_getRc (pc' := 139) (k := 7) (j := 24) dX10_gainOfTelling_136 vc9 (by decide) rfl lfX10_53 o_1 (r_1_7 hR) rfl ?_
        refine wp_getI (pc' := 142) (k := 4) dX10_gainOfTelling_139 vc3 (by decide) rfl lfX10_137 o_24 rfl ?_
        refine wp_isub (pc' := 143) dX10_gainOfTelling_142 rfl ?_
        exact wp_ireturn dX10_gainOfTelling_143 rfl rfl h
      · have h := h.2 hc
        refine wp_aload_n (pc' := 115) (q := 0) (i := 0) rfl rfl dX10_gainOfTelling_114 rfl ?_
        refine wp_getRc (pc' := 118) (k := 7) (j := 24) dX10_gainOfTelling_115 vc9 (by decide) rfl lfX10_53 o_1 (r_1_7 hR) rfl ?_
        refine wp_getI (pc' := 121) (k := 4) dX10_gainOfTelling_118 vc3 (by decide) rfl lfX10_137 o_24 rfl ?_
        refine wp_aload_n (pc' := 122) (q := 0) (i := 0) rfl rfl dX10_gainOfTelling_121 rfl ?_
        refine wp_getR (pc' := 125) (k := 2) dX10_gainOfTelling_122 vc9 (by decide) rfl lfX10_26 o_1 rfl ?_
        refine wp_getI (pc' := 128) (k := 9) dX10_gainOfTelling_125 vc6 (by decide) rfl lfX10_124 h1 rfl ?_
        refine wp_isub (pc' := 129) dX10_gainOfTelling_128 rfl ?_
        refine wp_iload_n (pc' := 130) (q := 3) (i := 3) rfl rfl dX10_gainOfTelling_129 rfl ?_
        refine wp_isub (pc' := 131) dX10_gainOfTelling_130 rfl ?_
        refine wp_goto (tgt := 143) dX10_gainOfTelling_131 rfl ?_
        exact wp_ireturn dX10_gainOfTelling_143 rfl rfl h
    · have h := h.2 hc
      refine wp_iconst (pc' := 91) dX10_gainOfTelling_90 rfl ?_
      exact wp_ireturn dX10_gainOfTelling_91 rfl rfl h
  · have h := h.2 hc
    refine wp_aload_n (pc' := 21) (q := 0) (i := 0) rfl rfl dX10_gainOfTelling_20 rfl ?_
    refine wp_getRc (pc' := 24) (k := 7) (j := 24) dX10_gainOfTelling_21 vc9 (by decide) rfl lfX10_53 o_1 (r_1_7 hR) rfl ?_
    refine wp_aload_n (pc' := 25) (q := 0) (i := 0) rfl rfl dX10_gainOfTelling_24 rfl ?_
    refine wp_getR (pc' := 28) (k := 2) dX10_gainOfTelling_25 vc9 (by decide) rfl lfX10_26 o_1 rfl ?_
    refine wp_iload_n (pc' := 29) (q := 3) (i := 3) rfl rfl dX10_gainOfTelling_28 rfl ?_
    refine wp_iload_n (pc' := 30) (q := 3) (i := 3) rfl rfl dX10_gainOfTelling_29 rfl ?_
    refine wp_iload_n (pc' := 31) (q := 1) (i := 1) rfl rfl dX10_gainOfTelling_30 rfl ?_
    obtain ⟨h11, h⟩ := h
    refine wp_icmp_ne (pc' := 34) (tgt := 38) h2 h11 dX10_gainOfTelling_31 rfl rfl (fun hc => ?_) (fun hc => ?_)
    · have h := h.1 hc
      refine wp_aload_n (pc' := 39) (q := 0) (i := 0) rfl rfl dX10_gainOfTelling_38 rfl ?_
      refine wp_getR (pc' := 42) (k := 2) dX10_gainOfTelling_39 vc9 (by decide) rfl lfX10_26 o_1 rfl ?_
      refine wp_getR (pc' := 45) (k := 1) dX10_gainOfTelling_42 vc6 (by decide) rfl lfX10_117 h1 rfl ?_
      refine wp_iload_n (pc' := 46) (q := 3) (i := 3) rfl rfl dX10_gainOfTelling_45 rfl ?_
      obtain ⟨h12, h⟩ := h
      obtain ⟨h13, h⟩ := h
      refine wp_iald (pc' := 47) (j := a3.toNat) dX10_gainOfTelling_46 h12 h13 rfl rfl ?_
      obtain ⟨Q14, hs14, h⟩ := h
      refine wp_callV (pc' := 50) (as := [vR (R 1 2), vI a3, vI (I (R (R 1 2) 1) a3.toNat)]) (rest := []) hs14 dX10_gainOfTelling_47 rfl lkX10_224 okX3_put inX3_put seX3_put o_24 vc3 ⟨Nat.le_of_ble_eq_true rfl, Nat.le_of_ble_eq_true rfl⟩ (Nat.le_of_ble_eq_true rfl) (Nat.le_refl _) (Nat.le_refl _) okP_eq okP_eq rfl (rvV rfl (fun I14 R14 hq14 => ?_))
      obtain ⟨hRR14, h⟩ := h I14 R14 hq14; subst hRR14
      refine wp_iinc (pc' := 53) (i := 3) (L' := [vR 1, vI a1, vI a2, vI (a3 + 1)]) rfl (by decide) rfl dX10_gainOfTelling_50 rfl rfl ?_
      refine wp_goto (tgt := 9) dX10_gainOfTelling_53 rfl ?_
      exact h
    · have h := h.2 hc
      refine wp_iload_n (pc' := 35) (q := 2) (i := 2) rfl rfl dX10_gainOfTelling_34 rfl ?_
      refine wp_goto (tgt := 47) dX10_gainOfTelling_35 rfl ?_
      obtain ⟨Q15, hs15, h⟩ := h
      refine wp_callV (pc' := 50) (as := [vR (R 1 2), vI a3, vI a2]) (rest := []) hs15 dX10_gainOfTelling_47 rfl lkX10_224 okX3_put inX3_put seX3_put o_24 vc3 ⟨Nat.le_of_ble_eq_true rfl, Nat.le_of_ble_eq_true rfl⟩ (Nat.le_of_ble_eq_true rfl) (Nat.le_refl _) (Nat.le_refl _) okP_eq okP_eq rfl (rvV rfl (fun I15 R15 hq15 => ?_))
      obtain ⟨hRR15, h⟩ := h I15 R15 hq15; subst hRR15
      refine wp_iinc (pc' := 53) (i := 3) (L' := [vR 1, vI a1, vI a2, vI (a3 + 1)]) rfl (by decide) rfl dX10_gainOfTelling_50 rfl rfl ?_
      refine wp_goto (tgt := 9) dX10_gainOfTelling_53 rfl ?_
      exact h

theorem sX10_sumUp {Q : QT} {I : II} {R : RR} {a1 : Int} {a2 : Int} (h : wp (kN 89) mX10_sumUp Q 0 [vR 1, vI a1, vI a2, none, none] [] I R 89) : Spec mX10_sumUp [vR 1, vI a1, vI a2] I R 89 89 Q := Spec_of_wp pyX10_sumUp rfl (Nat.le_of_ble_eq_true rfl) (Nat.le_refl _) (by decide) h

set_option maxRecDepth 4000 in
theorem gX10_sumUp_0 {Q : QT} {I : II} {R : RR} (hR : SR R) {a1 : Int} {a2 : Int}
    (h : (0 ≤ a1 ∧ a1 < 4) ∧
      (0 < (R 49 a1.toNat)) ∧
      (isA 89 (R 49 a1.toNat) 1 3) ∧
      (∀ I4 : II, I4 = up2 I (R 49 a1.toNat) 0 0 →
      (∀ I5 : II, I5 = up2 I4 (R 49 a1.toNat) 1 0 →
      (∀ I6 : II, I6 = up2 I5 (R 49 a1.toNat) 2 0 →
      wp (kN 89) mX10_sumUp Q 22 [vR 1, vI a1, vI a2, vR (R 49 a1.toNat), vI 0] [] I6 R 89)))) : wp (kN 89) mX10_sumUp Q 0 [vR 1, vI a1, vI a2, none, none] [] I R 89 := by
  refine wp_aload_n (pc' := 1) (q := 0) (i := 0) rfl rfl dX10_sumUp_0 rfl ?_
  refine wp_getRc (pc' := 4) (k := 11) (j := 49) dX10_sumUp_1 vc9 (by decide) rfl lfX10_76 o_1 (r_1_11 hR) rfl ?_
  refine wp_iload_n (pc' := 5) (q := 1) (i := 1) rfl rfl dX10_sumUp_4 rfl ?_
  obtain ⟨h1, h⟩ := h
  refine wp_aald (pc' := 6) (j := a1.toNat) dX10_sumUp_5 a_49 (Or.inr rfl) h1 rfl rfl ?_
  obtain ⟨h2, h⟩ := h
  refine wp_astore_n (pc' := 7) (q := 3) (i := 3) (L' := [vR 1, vI a1, vI a2, vR (R 49 a1.toNat), none]) h2 rfl (by decide) rfl dX10_sumUp_6 rfl rfl ?_
  refine wp_aload_n (pc' := 8) (q := 3) (i := 3) rfl rfl dX10_sumUp_7 rfl ?_
  refine wp_iconst (pc' := 9) dX10_sumUp_8 rfl ?_
  refine wp_iconst (pc' := 10) dX10_sumUp_9 rfl ?_
  obtain ⟨h3, h⟩ := h
  obtain ⟨I4, eI4⟩ : ∃ z : II, z = up2 I (R 49 a1.toNat) 0 0 := ⟨_, rfl⟩
  have h := h I4 eI4
  refine wp_iast (pc' := 11) (j := 0) (I' := I4) dX10_sumUp_10 h3 ⟨by decide, by decide⟩ rfl rfl eI4 ?_
  refine wp_aload_n (pc' := 12) (q := 3) (i := 3) rfl rfl dX10_sumUp_11 rfl ?_
  refine wp_iconst (pc' := 13) dX10_sumUp_12 rfl ?_
  refine wp_iconst (pc' := 14) dX10_sumUp_13 rfl ?_
  obtain ⟨I5, eI5⟩ : ∃ z : II, z = up2 I4 (R 49 a1.toNat) 1 0 := ⟨_, rfl⟩
  have h := h I5 eI5
  refine wp_iast (pc' := 15) (j := 1) (I' := I5) dX10_sumUp_14 h3 ⟨by decide, by decide⟩ rfl rfl eI5 ?_
  refine wp_aload_n (pc' := 16) (q := 3) (i := 3) rfl rfl dX10_sumUp_15 rfl ?_
  refine wp_iconst (pc' := 17) dX10_sumUp_16 rfl ?_
  refine wp_iconst (pc' := 18) dX10_sumUp_17 rfl ?_
  obtain ⟨I6, eI6⟩ : ∃ z : II, z = up2 I5 (R 49 a1.toNat) 2 0 := ⟨_, rfl⟩
  have h := h I6 eI6
  refine wp_iast (pc' := 19) (j := 2) (I' := I6) dX10_sumUp_18 h3 ⟨by decide, by decide⟩ rfl rfl eI6 ?_
  refine wp_iconst (pc' := 20) dX10_sumUp_19 rfl ?_
  refine wp_istore (pc' := 22) (i := 4) (L' := [vR 1, vI a1, vI a2, vR (R 49 a1.toNat), vI 0]) (by decide) rfl dX10_sumUp_20 rfl rfl ?_
  exact h

set_option maxRecDepth 4000 in
theorem gX10_sumUp_22 {Q : QT} {I : II} {R : RR} (hR : SR R) {a1 : Int} {a2 : Int} {a3 : Nat} {a4 : Int}
    (h : (InI a4) ∧
      (((10 : Int) ≤ a4 →
      Q none I R) ∧ (¬ (10 : Int) ≤ a4 →
      (0 ≤ (a2 + a4) ∧ (a2 + a4) ≤ 2147483647 ∧ 0 < (10000 : Int) ∧ (10000 : Int) ≤ 2147483647) ∧
      (∃ Q3 : QT, Spec mX7_play [vR 38, vR (R 1 2), vI a1, vI ((a2 + a4) % 10000), vR 0] I R 89 89 Q3 ∧ (∀ I3 R3, Q3 none I3 R3 →
      R = R3 ∧ (isA 89 a3 1 3) ∧
      (∀ I5 : II, I5 = up2 I3 a3 0 ((I3 a3 0) + (I3 38 8)) →
      (∀ I6 : II, I6 = up2 I5 a3 1 ((I5 a3 1) + (I5 38 9)) →
      (∀ I8 : II, I8 = up2 I6 a3 2 ((I6 a3 2) + (I6 38 6 - I6 38 5)) →
      wp (kN 89) mX10_sumUp Q 22 [vR 1, vI a1, vI a2, vR a3, vI (a4 + 1)] [] I8 R 89)))))))) : wp (kN 89) mX10_sumUp Q 22 [vR 1, vI a1, vI a2, vR a3, vI a4] [] I R 89 := by
  refine wp_iload (pc' := 24) (i := 4) rfl dX10_sumUp_22 rfl ?_
  refine wp_bipush (pc' := 26) (by decide) dX10_sumUp_24 rfl ?_
  obtain ⟨h1, h⟩ := h
  refine wp_icmp_ge (pc' := 29) (tgt := 95) h1 ⟨by decide, by decide⟩ dX10_sumUp_26 rfl rfl (fun hc => ?_) (fun hc => ?_)
  · have h := h.1 hc
    exact wp_vreturn dX10_sumUp_95 rfl rfl h
  · have h := h.2 hc
    refine wp_aload_n (pc' := 30) (q := 0) (i := 0) rfl rfl dX10_sumUp_29 rfl ?_
    refine wp_getRc (pc' := 33) (k := 9) (j := 38) dX10_sumUp_30 vc9 (by decide) rfl lfX10_63 o_1 (r_1_9 hR) rfl ?_
    refine wp_aload_n (pc' := 34) (q := 0) (i := 0) rfl rfl dX10_sumUp_33 rfl ?_
    refine wp_getR (pc' := 37) (k := 2) dX10_sumUp_34 vc9 (by decide) rfl lfX10_26 o_1 rfl ?_
    refine wp_iload_n (pc' := 38) (q := 1) (i := 1) rfl rfl dX10_sumUp_37 rfl ?_
    refine wp_iload_n (pc' := 39) (q := 2) (i := 2) rfl rfl dX10_sumUp_38 rfl ?_
    refine wp_iload (pc' := 41) (i := 4) rfl dX10_sumUp_39 rfl ?_
    refine wp_iadd (pc' := 42) dX10_sumUp_41 rfl ?_
    refine wp_sipush (pc' := 45) (by decide) dX10_sumUp_42 rfl ?_
    obtain ⟨h2, h⟩ := h
    refine wp_irem (pc' := 46) h2 dX10_sumUp_45 rfl ?_
    refine wp_anull (pc' := 47) dX10_sumUp_46 rfl ?_
    obtain ⟨Q3, hs3, h⟩ := h
    refine wp_callV (pc' := 50) (as := [vR (R 1 2), vI a1, vI ((a2 + a4) % 10000), vR 0]) (rest := []) hs3 dX10_sumUp_47 rfl lkX10_181 okX7_play inX7_play seX7_play o_38 vc7 ⟨Nat.le_of_ble_eq_true rfl, Nat.le_of_ble_eq_true rfl⟩ (Nat.le_of_ble_eq_true rfl) (Nat.le_refl _) (Nat.le_refl _) okP_eq okP_eq rfl (rvV rfl (fun I3 R3 hq3 => ?_))
    obtain ⟨hRR3, h⟩ := h I3 R3 hq3; subst hRR3
    refine wp_aload_n (pc' := 51) (q := 3) (i := 3) rfl rfl dX10_sumUp_50 rfl ?_
    refine wp_iconst (pc' := 52) dX10_sumUp_51 rfl ?_
    refine wp_dup2 (pc' := 53) dX10_sumUp_52 rfl ?_
    obtain ⟨h4, h⟩ := h
    refine wp_iald (pc' := 54) (j := 0) dX10_sumUp_53 h4 ⟨by decide, by decide⟩ rfl rfl ?_
    refine wp_aload_n (pc' := 55) (q := 0) (i := 0) rfl rfl dX10_sumUp_54 rfl ?_
    refine wp_getRc (pc' := 58) (k := 9) (j := 38) dX10_sumUp_55 vc9 (by decide) rfl lfX10_63 o_1 (r_1_9 hR) rfl ?_
    refine wp_getI (pc' := 61) (k := 8) dX10_sumUp_58 vc7 (by decide) rfl lfX10_188 o_38 rfl ?_
    refine wp_iadd (pc' := 62) dX10_sumUp_61 rfl ?_
    obtain ⟨I5, eI5⟩ : ∃ z : II, z = up2 I3 a3 0 ((I3 a3 0) + (I3 38 8)) := ⟨_, rfl⟩
    have h := h I5 eI5
    refine wp_iast (pc' := 63) (j := 0) (I' := I5) dX10_sumUp_62 h4 ⟨by decide, by decide⟩ rfl rfl eI5 ?_
    refine wp_aload_n (pc' := 64) (q := 3) (i := 3) rfl rfl dX10_sumUp_63 rfl ?_
    refine wp_iconst (pc' := 65) dX10_sumUp_64 rfl ?_
    refine wp_dup2 (pc' := 66) dX10_sumUp_65 rfl ?_
    refine wp_iald (pc' := 67) (j := 1) dX10_sumUp_66 h4 ⟨by decide, by decide⟩ rfl rfl ?_
    refine wp_aload_n (pc' := 68) (q := 0) (i := 0) rfl rfl dX10_sumUp_67 rfl ?_
    refine wp_getRc (pc' := 71) (k := 9) (j := 38) dX10_sumUp_68 vc9 (by decide) rfl lfX10_63 o_1 (r_1_9 hR) rfl ?_
    refine wp_getI (pc' := 74) (k := 9) dX10_sumUp_71 vc7 (by decide) rfl lfX10_191 o_38 rfl ?_
    refine wp_iadd (pc' := 75) dX10_sumUp_74 rfl ?_
    obtain ⟨I6, eI6⟩ : ∃ z : II, z = up2 I5 a3 1 ((I5 a3 1) + (I5 38 9)) := ⟨_, rfl⟩
    have h := h I6 eI6
    refine wp_iast (pc' := 76) (j := 1) (I' := I6) dX10_sumUp_75 h4 ⟨by decide, by decide⟩ rfl rfl eI6 ?_
    refine wp_aload_n (pc' := 77) (q := 3) (i := 3) rfl rfl dX10_sumUp_76 rfl ?_
    refine wp_iconst (pc' := 78) dX10_sumUp_77 rfl ?_
    refine wp_dup2 (pc' := 79) dX10_sumUp_78 rfl ?_
    refine wp_iald (pc' := 80) (j := 2) dX10_sumUp_79 h4 ⟨by decide, by decide⟩ rfl rfl ?_
    refine wp_aload_n (pc' := 81) (q := 0) (i := 0) rfl rfl dX10_sumUp_80 rfl ?_
    refine wp_getRc (pc' := 84) (k := 9) (j := 38) dX10_sumUp_81 vc9 (by decide) rfl lfX10_63 o_1 (r_1_9 hR) rfl ?_
    refine wp_callV (pc' := 87) (as := []) (rest := [vI (I6 a3 2), vI 2, vR a3]) (pX7_wanders hR) dX10_sumUp_84 rfl lkX10_194 okX7_wanders inX7_wanders seX7_wanders o_38 vc7 ⟨Nat.le_of_ble_eq_true rfl, Nat.le_of_ble_eq_true rfl⟩ (Nat.le_of_ble_eq_true rfl) (Nat.le_refl _) (Nat.le_refl _) okP_eq okP_eq rfl (rvI rfl (fun x7 I7 R7 hq7 => ?_))
    obtain ⟨eR7, eI7, ex7⟩ := hq7; subst eR7; subst eI7; cases ex7
    refine wp_iadd (pc' := 88) dX10_sumUp_87 rfl ?_
    obtain ⟨I8, eI8⟩ : ∃ z : II, z = up2 I6 a3 2 ((I6 a3 2) + (I6 38 6 - I6 38 5)) := ⟨_, rfl⟩
    have h := h I8 eI8
    refine wp_iast (pc' := 89) (j := 2) (I' := I8) dX10_sumUp_88 h4 ⟨by decide, by decide⟩ rfl rfl eI8 ?_
    refine wp_iinc (pc' := 92) (i := 4) (L' := [vR 1, vI a1, vI a2, vR a3, vI (a4 + 1)]) rfl (by decide) rfl dX10_sumUp_89 rfl rfl ?_
    refine wp_goto (tgt := 22) dX10_sumUp_92 rfl ?_
    exact h

theorem sX10_bestBy {Q : QT} {I : II} {R : RR} {a1 : Int} (h : wp (kN 89) mX10_bestBy Q 0 [vR 1, vI a1, none, none, none] [] I R 89) : Spec mX10_bestBy [vR 1, vI a1] I R 89 89 Q := Spec_of_wp pyX10_bestBy rfl (Nat.le_of_ble_eq_true rfl) (Nat.le_refl _) (by decide) h

set_option maxRecDepth 4000 in
theorem gX10_bestBy_0 {Q : QT} {I : II} {R : RR} (hR : SR R) {a1 : Int}
    (h : wp (kN 89) mX10_bestBy Q 4 [vR 1, vI a1, vI 0, vI 1, none] [] I R 89) : wp (kN 89) mX10_bestBy Q 0 [vR 1, vI a1, none, none, none] [] I R 89 := by
  refine wp_iconst (pc' := 1) dX10_bestBy_0 rfl ?_
  refine wp_istore_n (pc' := 2) (q := 2) (i := 2) (L' := [vR 1, vI a1, vI 0, none, none]) rfl (by decide) rfl dX10_bestBy_1 rfl rfl ?_
  refine wp_iconst (pc' := 3) dX10_bestBy_2 rfl ?_
  refine wp_istore_n (pc' := 4) (q := 3) (i := 3) (L' := [vR 1, vI a1, vI 0, vI 1, none]) rfl (by decide) rfl dX10_bestBy_3 rfl rfl ?_
  exact h

set_option maxRecDepth 4000 in
theorem gX10_bestBy_4 {Q : QT} {I : II} {R : RR} (hR : SR R) {a1 : Int} {a2 : Int} {a3 : Int}
    (h : (InI a3) ∧
      (((3 : Int) < a3 →
      Q (vI a2) I R) ∧ (¬ (3 : Int) < a3 →
      (0 ≤ a3 ∧ a3 < 4) ∧
      (isA 89 (R 49 a3.toNat) 1 3) ∧
      (0 ≤ a1 ∧ a1 < 3) ∧
      (0 ≤ a2 ∧ a2 < 4) ∧
      (isA 89 (R 49 a2.toNat) 1 3) ∧
      (InI a1) ∧
      ((¬ a1 = 0 →
      (InI ((I (R 49 a3.toNat) a1.toNat) - (I (R 49 a2.toNat) a1.toNat))) ∧
      ((0 ≤ ((I (R 49 a3.toNat) a1.toNat) - (I (R 49 a2.toNat) a1.toNat)) →
      wp (kN 89) mX10_bestBy Q 47 [vR 1, vI a1, vI a2, vI a3, none] [] I R 89) ∧ (¬ (0 ≤ ((I (R 49 a3.toNat) a1.toNat) - (I (R 49 a2.toNat) a1.toNat))) →
      wp (kN 89) mX10_bestBy Q 45 [vR 1, vI a1, none, vI a3, none] [] I R 89))) ∧ (a1 = 0 →
      (InI ((I (R 49 a3.toNat) a1.toNat) - (I (R 49 a2.toNat) a1.toNat))) ∧
      ((((I (R 49 a3.toNat) a1.toNat) - (I (R 49 a2.toNat) a1.toNat)) ≤ 0 →
      wp (kN 89) mX10_bestBy Q 47 [vR 1, vI a1, vI a2, vI a3, none] [] I R 89) ∧ (¬ ((I (R 49 a3.toNat) a1.toNat) - (I (R 49 a2.toNat) a1.toNat)) ≤ 0 →
      wp (kN 89) mX10_bestBy Q 45 [vR 1, vI a1, none, vI a3, none] [] I R 89))))))) : wp (kN 89) mX10_bestBy Q 4 [vR 1, vI a1, vI a2, vI a3, none] [] I R 89 := by
  refine wp_iload_n (pc' := 5) (q := 3) (i := 3) rfl rfl dX10_bestBy_4 rfl ?_
  refine wp_iconst (pc' := 6) dX10_bestBy_5 rfl ?_
  obtain ⟨h1, h⟩ := h
  refine wp_icmp_gt (pc' := 9) (tgt := 53) h1 ⟨by decide, by decide⟩ dX10_bestBy_6 rfl rfl (fun hc => ?_) (fun hc => ?_)
  · have h := h.1 hc
    refine wp_iload_n (pc' := 54) (q := 2) (i := 2) rfl rfl dX10_bestBy_53 rfl ?_
    exact wp_ireturn dX10_bestBy_54 rfl rfl h
  · have h := h.2 hc
    refine wp_aload_n (pc' := 10) (q := 0) (i := 0) rfl rfl dX10_bestBy_9 rfl ?_
    refine wp_getRc (pc' := 13) (k := 11) (j := 49) dX10_bestBy_10 vc9 (by decide) rfl lfX10_76 o_1 (r_1_11 hR) rfl ?_
    refine wp_iload_n (pc' := 14) (q := 3) (i := 3) rfl rfl dX10_bestBy_13 rfl ?_
    obtain ⟨h2, h⟩ := h
    refine wp_aald (pc' := 15) (j := a3.toNat) dX10_bestBy_14 a_49 (Or.inr rfl) h2 rfl rfl ?_
    refine wp_iload_n (pc' := 16) (q := 1) (i := 1) rfl rfl dX10_bestBy_15 rfl ?_
    obtain ⟨h3, h⟩ := h
    obtain ⟨h4, h⟩ := h
    refine wp_iald (pc' := 17) (j := a1.toNat) dX10_bestBy_16 h3 h4 rfl rfl ?_
    refine wp_aload_n (pc' := 18) (q := 0) (i := 0) rfl rfl dX10_bestBy_17 rfl ?_
    refine wp_getRc (pc' := 21) (k := 11) (j := 49) dX10_bestBy_18 vc9 (by decide) rfl lfX10_76 o_1 (r_1_11 hR) rfl ?_
    refine wp_iload_n (pc' := 22) (q := 2) (i := 2) rfl rfl dX10_bestBy_21 rfl ?_
    obtain ⟨h5, h⟩ := h
    refine wp_aald (pc' := 23) (j := a2.toNat) dX10_bestBy_22 a_49 (Or.inr rfl) h5 rfl rfl ?_
    refine wp_iload_n (pc' := 24) (q := 1) (i := 1) rfl rfl dX10_bestBy_23 rfl ?_
    obtain ⟨h6, h⟩ := h
    refine wp_iald (pc' := 25) (j := a1.toNat) dX10_bestBy_24 h6 h4 rfl rfl ?_
    refine wp_isub (pc' := 26) dX10_bestBy_25 rfl ?_
    refine wp_istore (pc' := 28) (i := 4) (L' := [vR 1, vI a1, vI a2, vI a3, vI ((I (R 49 a3.toNat) a1.toNat) - (I (R 49 a2.toNat) a1.toNat))]) (by decide) rfl dX10_bestBy_26 rfl rfl ?_
    refine wp_iload_n (pc' := 29) (q := 1) (i := 1) rfl rfl dX10_bestBy_28 rfl ?_
    obtain ⟨h7, h⟩ := h
    refine wp_if_ne (pc' := 32) (tgt := 40) h7 dX10_bestBy_29 rfl rfl (fun hc => ?_) (fun hc => ?_)
    · have h := h.1 hc
      refine wp_iload (pc' := 42) (i := 4) rfl dX10_bestBy_40 rfl ?_
      obtain ⟨h8, h⟩ := h
      refine wp_if_ge (pc' := 45) (tgt := 47) h8 dX10_bestBy_42 rfl rfl (fun hc => ?_) (fun hc => ?_)
      · have h := h.1 hc
        exact wp_dropP (leP_s (leP_s (leP_s (leP_s (leP_d leP_n))))) h
      · have h := h.2 hc
        exact wp_dropP (leP_s (leP_s (leP_d (leP_s (leP_d leP_n))))) h
    · have h := h.2 hc
      refine wp_iload (pc' := 34) (i := 4) rfl dX10_bestBy_32 rfl ?_
      obtain ⟨h9, h⟩ := h
      refine wp_if_le (pc' := 37) (tgt := 47) h9 dX10_bestBy_34 rfl rfl (fun hc => ?_) (fun hc => ?_)
      · have h := h.1 hc
        exact wp_dropP (leP_s (leP_s (leP_s (leP_s (leP_d leP_n))))) h
      · have h := h.2 hc
        refine wp_goto (tgt := 45) dX10_bestBy_37 rfl ?_
        exact wp_dropP (leP_s (leP_s (leP_d (leP_s (leP_d leP_n))))) h

set_option maxRecDepth 4000 in
theorem gX10_bestBy_45 {Q : QT} {I : II} {R : RR} (hR : SR R) {a1 : Int} {a3 : Int}
    (h : wp (kN 89) mX10_bestBy Q 47 [vR 1, vI a1, vI a3, vI a3, none] [] I R 89) : wp (kN 89) mX10_bestBy Q 45 [vR 1, vI a1, none, vI a3, none] [] I R 89 := by
  refine wp_iload_n (pc' := 46) (q := 3) (i := 3) rfl rfl dX10_bestBy_45 rfl ?_
  refine wp_istore_n (pc' := 47) (q := 2) (i := 2) (L' := [vR 1, vI a1, vI a3, vI a3, none]) rfl (by decide) rfl dX10_bestBy_46 rfl rfl ?_
  exact h

set_option maxRecDepth 4000 in
theorem gX10_bestBy_47 {Q : QT} {I : II} {R : RR} (hR : SR R) {a1 : Int} {a2 : Int} {a3 : Int}
    (h : wp (kN 89) mX10_bestBy Q 4 [vR 1, vI a1, vI a2, vI (a3 + 1), none] [] I R 89) : wp (kN 89) mX10_bestBy Q 47 [vR 1, vI a1, vI a2, vI a3, none] [] I R 89 := by
  refine wp_iinc (pc' := 50) (i := 3) (L' := [vR 1, vI a1, vI a2, vI (a3 + 1), none]) rfl (by decide) rfl dX10_bestBy_47 rfl rfl ?_
  refine wp_goto (tgt := 4) dX10_bestBy_50 rfl ?_
  exact h

