theorem sX10_write {Q : QT} {I : II} {R : RR} {N : Nat} {a0 : Nat} {a1 : Int} {a2 : Int} (hN : N < 1000) (h : wp (kN N) mX10_write Q 0 [vR a0, vI a1, vL a2, none, none] [] I R N) : Spec mX10_write [vR a0, vI a1, vL a2] I R N N Q := Spec_of_wp pyX10_write rfl (Nat.le_of_ble_eq_true rfl) (Nat.le_refl _) hN h

set_option maxRecDepth 4000 in
theorem gX10_write_0 {Q : QT} {I : II} {R : RR} {N : Nat} {a0 : Nat} {a1 : Int} {a2 : Int}
    (h : (∃ Q1 : QT, Spec mX10_within [vI a1, vI 1, vI 8] I R N N Q1 ∧ (∀ x1 I1 R1, (x1 = 0 ∨ x1 = 1) → Q1 (vI x1) I1 R1 →
      (InI x1) ∧
      ((¬ x1 = 0 →
      (isO N a0 9) ∧
      (isO N (R1 a0 0) 8) ∧
      (InI ((I1 (R1 a0 0) 1) + a1)) ∧
      ((((I1 (R1 a0 0) 1) + a1) ≤ (300 : Int) →
      wp (kN N) mX10_write Q 35 [vR a0, none, vL a2, none, vI (a1 - 1)] [] I1 R1 N) ∧ (¬ ((I1 (R1 a0 0) 1) + a1) ≤ (300 : Int) →
      Q (vI (-3)) I1 R1))) ∧ (x1 = 0 →
      Q (vI (-1)) I1 R1))))) : wp (kN N) mX10_write Q 0 [vR a0, vI a1, vL a2, none, none] [] I R N := by
  refine wp_iload_n (pc' := 1) (q := 1) (i := 1) rfl rfl dX10_write_0 rfl ?_
  refine wp_iconst (pc' := 2) dX10_write_1 rfl ?_
  refine wp_bipush (pc' := 4) (by decide) dX10_write_2 rfl ?_
  obtain ⟨Q1, hs1, h⟩ := h
  refine wp_callS (pc' := 7) (as := [vI a1, vI 1, vI 8]) (rest := []) hs1 dX10_write_4 rfl lkX10_84 okX10_within stX10_within ⟨Nat.le_of_ble_eq_true rfl, Nat.le_of_ble_eq_true rfl⟩ (Nat.le_of_ble_eq_true rfl) (Nat.le_refl _) (Nat.le_refl _) okP_eq okP_eq rfl (rvZ rfl (fun x1 I1 R1 hz1 hq1 => ?_))
  have h := h x1 I1 R1 hz1 hq1
  obtain ⟨h2, h⟩ := h
  refine wp_if_ne (pc' := 10) (tgt := 12) h2 dX10_write_7 rfl rfl (fun hc => ?_) (fun hc => ?_)
  · have h := h.1 hc
    refine wp_aload_n (pc' := 13) (q := 0) (i := 0) rfl rfl dX10_write_12 rfl ?_
    obtain ⟨h3, h⟩ := h
    refine wp_getR (pc' := 16) (k := 0) dX10_write_13 vc9 (by decide) rfl lfX10_10 h3 rfl ?_
    obtain ⟨h4, h⟩ := h
    refine wp_getI (pc' := 19) (k := 1) dX10_write_16 vc8 (by decide) rfl lfX10_88 h4 rfl ?_
    refine wp_iload_n (pc' := 20) (q := 1) (i := 1) rfl rfl dX10_write_19 rfl ?_
    refine wp_iadd (pc' := 21) dX10_write_20 rfl ?_
    refine wp_sipush (pc' := 24) (by decide) dX10_write_21 rfl ?_
    obtain ⟨h5, h⟩ := h
    refine wp_icmp_le (pc' := 27) (tgt := 30) h5 ⟨by decide, by decide⟩ dX10_write_24 rfl rfl (fun hc => ?_) (fun hc => ?_)
    · have h := h.1 hc
      refine wp_iload_n (pc' := 31) (q := 1) (i := 1) rfl rfl dX10_write_30 rfl ?_
      refine wp_iconst (pc' := 32) dX10_write_31 rfl ?_
      refine wp_isub (pc' := 33) dX10_write_32 rfl ?_
      refine wp_istore (pc' := 35) (i := 4) (L' := [vR a0, vI a1, vL a2, none, vI (a1 - 1)]) (by decide) rfl dX10_write_33 rfl rfl ?_
      exact wp_dropP (leP_s (leP_d (leP_s (leP_s (leP_s leP_n))))) h
    · have h := h.2 hc
      refine wp_bipush (pc' := 29) (by decide) dX10_write_27 rfl ?_
      exact wp_ireturn dX10_write_29 rfl rfl h
  · have h := h.2 hc
    refine wp_iconst (pc' := 11) dX10_write_10 rfl ?_
    exact wp_ireturn dX10_write_11 rfl rfl h

set_option maxRecDepth 4000 in
theorem gX10_write_35 {Q : QT} {I : II} {R : RR} {N : Nat} {a0 : Nat} {a2 : Int} {a4 : Int}
    (h : (InI a4) ∧
      ((a4 < 0 →
      (isO N a0 9) ∧
      (isO N (R a0 0) 8) ∧
      Q (vI (I (R a0 0) 1)) I R) ∧ (¬ (a4 < 0) →
      (isO N a0 9) ∧
      (isO N (R a0 0) 8) ∧
      (∃ Q5 : QT, Spec mX8_add [vR (R a0 0), vI (i32 (((i64 a2).toUInt64 >>> ((i32 (8 * a4)).toInt64.toUInt64 &&& Int64.toUInt64 63)).toInt64.toInt) &&& i32 255).toInt] I R N N Q5 ∧ (∀ I5 R5, Q5 none I5 R5 →
      wp (kN N) mX10_write Q 35 [vR a0, none, vL a2, none, vI (a4 + (-1))] [] I5 R5 N))))) : wp (kN N) mX10_write Q 35 [vR a0, none, vL a2, none, vI a4] [] I R N := by
  refine wp_iload (pc' := 37) (i := 4) rfl dX10_write_35 rfl ?_
  obtain ⟨h1, h⟩ := h
  refine wp_if_lt (pc' := 40) (tgt := 65) h1 dX10_write_37 rfl rfl (fun hc => ?_) (fun hc => ?_)
  · have h := h.1 hc
    refine wp_aload_n (pc' := 66) (q := 0) (i := 0) rfl rfl dX10_write_65 rfl ?_
    obtain ⟨h2, h⟩ := h
    refine wp_getR (pc' := 69) (k := 0) dX10_write_66 vc9 (by decide) rfl lfX10_10 h2 rfl ?_
    obtain ⟨h3, h⟩ := h
    refine wp_getI (pc' := 72) (k := 1) dX10_write_69 vc8 (by decide) rfl lfX10_88 h3 rfl ?_
    exact wp_ireturn dX10_write_72 rfl rfl h
  · have h := h.2 hc
    refine wp_aload_n (pc' := 41) (q := 0) (i := 0) rfl rfl dX10_write_40 rfl ?_
    obtain ⟨h4, h⟩ := h
    refine wp_getR (pc' := 44) (k := 0) dX10_write_41 vc9 (by decide) rfl lfX10_10 h4 rfl ?_
    refine wp_lload_n (pc' := 45) (q := 2) (i := 2) rfl rfl dX10_write_44 rfl ?_
    refine wp_bipush (pc' := 47) (by decide) dX10_write_45 rfl ?_
    refine wp_iload (pc' := 49) (i := 4) rfl dX10_write_47 rfl ?_
    refine wp_imul (pc' := 50) dX10_write_49 rfl ?_
    refine wp_lushr (pc' := 51) dX10_write_50 rfl ?_
    refine wp_l2i (pc' := 52) dX10_write_51 rfl ?_
    refine wp_sipush (pc' := 55) (by decide) dX10_write_52 rfl ?_
    refine wp_iand (pc' := 56) dX10_write_55 rfl ?_
    obtain ⟨h6, h⟩ := h
    obtain ⟨Q5, hs5, h⟩ := h
    refine wp_callV (pc' := 59) (as := [vI (i32 (((i64 a2).toUInt64 >>> ((i32 (8 * a4)).toInt64.toUInt64 &&& Int64.toUInt64 63)).toInt64.toInt) &&& i32 255).toInt]) (rest := []) hs5 dX10_write_56 rfl lkX10_91 okX8_add inX8_add seX8_add h6 vc8 ⟨Nat.le_of_ble_eq_true rfl, Nat.le_of_ble_eq_true rfl⟩ (Nat.le_of_ble_eq_true rfl) (Nat.le_refl _) (Nat.le_refl _) okP_eq okP_eq rfl (rvV rfl (fun I5 R5 hq5 => ?_))
    have h := h I5 R5 hq5
    refine wp_iinc (pc' := 62) (i := 4) (L' := [vR a0, none, vL a2, none, vI (a4 + (-1))]) rfl (by decide) rfl dX10_write_59 rfl rfl ?_
    refine wp_goto (tgt := 35) dX10_write_62 rfl ?_
    exact h

theorem sX10_wipe {Q : QT} {I : II} {R : RR} {N : Nat} {a0 : Nat} (hN : N < 1000) (h : wp (kN N) mX10_wipe Q 0 [vR a0, none] [] I R N) : Spec mX10_wipe [vR a0] I R N N Q := Spec_of_wp pyX10_wipe rfl (Nat.le_of_ble_eq_true rfl) (Nat.le_refl _) hN h

set_option maxRecDepth 4000 in
theorem gX10_wipe_0 {Q : QT} {I : II} {R : RR} {N : Nat} {a0 : Nat}
    (h : (isO N a0 9) ∧
      (isO N (R a0 0) 8) ∧
      (∀ I3 : II, I3 = up2 I (R a0 0) 1 0 →
      Q (vI (I (R a0 0) 1)) I3 R)) : wp (kN N) mX10_wipe Q 0 [vR a0, none] [] I R N := by
  refine wp_aload_n (pc' := 1) (q := 0) (i := 0) rfl rfl dX10_wipe_0 rfl ?_
  obtain ⟨h1, h⟩ := h
  refine wp_getR (pc' := 4) (k := 0) dX10_wipe_1 vc9 (by decide) rfl lfX10_10 h1 rfl ?_
  obtain ⟨h2, h⟩ := h
  refine wp_getI (pc' := 7) (k := 1) dX10_wipe_4 vc8 (by decide) rfl lfX10_88 h2 rfl ?_
  refine wp_istore_n (pc' := 8) (q := 1) (i := 1) (L' := [vR a0, vI (I (R a0 0) 1)]) rfl (by decide) rfl dX10_wipe_7 rfl rfl ?_
  refine wp_aload_n (pc' := 9) (q := 0) (i := 0) rfl rfl dX10_wipe_8 rfl ?_
  refine wp_getR (pc' := 12) (k := 0) dX10_wipe_9 vc9 (by decide) rfl lfX10_10 h1 rfl ?_
  refine wp_iconst (pc' := 13) dX10_wipe_12 rfl ?_
  obtain ⟨I3, eI3⟩ : ∃ z : II, z = up2 I (R a0 0) 1 0 := ⟨_, rfl⟩
  have h := h I3 eI3
  refine wp_putI (pc' := 16) (k := 1) (I' := I3) dX10_wipe_13 vc8 (by decide) rfl rfl (tyX8_ok 1 (by decide)) lfX10_88 h2 rfl eI3 ?_
  refine wp_iload_n (pc' := 17) (q := 1) (i := 1) rfl rfl dX10_wipe_16 rfl ?_
  exact wp_ireturn dX10_wipe_17 rfl rfl h

theorem sX10_fault {Q : QT} {I : II} {R : RR} {N : Nat} {a0 : Nat} (hN : N < 1000) (h : wp (kN N) mX10_fault Q 0 [vR a0] [] I R N) : Spec mX10_fault [vR a0] I R N N Q := Spec_of_wp pyX10_fault rfl (Nat.le_of_ble_eq_true rfl) (Nat.le_refl _) hN h

set_option maxRecDepth 4000 in
theorem gX10_fault_0 {Q : QT} {I : II} {R : RR} {N : Nat} {a0 : Nat}
    (h : (isO N a0 9) ∧
      (isO N (R a0 1) 5) ∧
      (∃ Q2 : QT, Spec mX5_read [vR (R a0 1), vR (R a0 0), vR (R a0 3)] I R N N Q2 ∧ (∀ x2 I2 R2, Q2 (vI x2) I2 R2 →
      Q (vI x2) I2 R2))) : wp (kN N) mX10_fault Q 0 [vR a0] [] I R N := by
  refine wp_aload_n (pc' := 1) (q := 0) (i := 0) rfl rfl dX10_fault_0 rfl ?_
  obtain ⟨h1, h⟩ := h
  refine wp_getR (pc' := 4) (k := 1) dX10_fault_1 vc9 (by decide) rfl lfX10_19 h1 rfl ?_
  refine wp_aload_n (pc' := 5) (q := 0) (i := 0) rfl rfl dX10_fault_4 rfl ?_
  refine wp_getR (pc' := 8) (k := 0) dX10_fault_5 vc9 (by decide) rfl lfX10_10 h1 rfl ?_
  refine wp_aload_n (pc' := 9) (q := 0) (i := 0) rfl rfl dX10_fault_8 rfl ?_
  refine wp_getR (pc' := 12) (k := 3) dX10_fault_9 vc9 (by decide) rfl lfX10_30 h1 rfl ?_
  obtain ⟨h3, h⟩ := h
  obtain ⟨Q2, hs2, h⟩ := h
  refine wp_callV (pc' := 15) (as := [vR (R a0 0), vR (R a0 3)]) (rest := []) hs2 dX10_fault_12 rfl lkX10_95 okX5_read inX5_read seX5_read h3 vc5 ⟨Nat.le_of_ble_eq_true rfl, Nat.le_of_ble_eq_true rfl⟩ (Nat.le_of_ble_eq_true rfl) (Nat.le_refl _) (Nat.le_refl _) okP_eq okP_eq rfl (rvI rfl (fun x2 I2 R2 hq2 => ?_))
  have h := h x2 I2 R2 hq2
  exact wp_ireturn dX10_fault_15 rfl rfl h

theorem sX10_lay {Q : QT} {I : II} {R : RR} {N : Nat} {a0 : Nat} (hN : N < 1000) (h : wp (kN N) mX10_lay Q 0 [vR a0, none] [] I R N) : Spec mX10_lay [vR a0] I R N N Q := Spec_of_wp pyX10_lay rfl (Nat.le_of_ble_eq_true rfl) (Nat.le_refl _) hN h

set_option maxRecDepth 4000 in
theorem gX10_lay_0 {Q : QT} {I : II} {R : RR} {N : Nat} {a0 : Nat}
    (h : (isO N a0 9) ∧
      (isO N (R a0 1) 5) ∧
      (∃ Q2 : QT, Spec mX5_read [vR (R a0 1), vR (R a0 0), vR (R a0 3)] I R N N Q2 ∧ (∀ x2 I2 R2, Q2 (vI x2) I2 R2 →
      (InI x2) ∧
      ((¬ x2 = (-4 : Int) →
      wp (kN N) mX10_lay Q 40 [none, none] [] I2 R2 N) ∧ (x2 = (-4 : Int) →
      (isO N (R2 a0 3) 6) ∧
      (InI (I2 (R2 a0 3) 6)) ∧
      (((I2 (R2 a0 3) 6) = 0 →
      wp (kN N) mX10_lay Q 40 [none, none] [] I2 R2 N) ∧ (¬ (I2 (R2 a0 3) 6) = 0 →
      (InI (I2 (R2 a0 3) 7)) ∧
      ((¬ (I2 (R2 a0 3) 7) = 0 →
      (0 < (R2 a0 3)) ∧
      (∀ R9 : RR, R9 = up2 R2 a0 3 (R2 a0 2) →
      (∀ R10 : RR, R10 = up2 R9 a0 2 (R2 a0 3) →
      (isO N (R10 a0 4) 4) ∧
      (∀ I12 : II, I12 = up2 I2 (R10 a0 4) 4 0 →
      (∀ I13 : II, I13 = up2 I12 a0 6 0 →
      (isO N (R10 a0 2) 6) ∧
      Q (vI (I13 (R10 a0 2) 5)) I13 R10))))) ∧ ((I2 (R2 a0 3) 7) = 0 →
      wp (kN N) mX10_lay Q 40 [none, none] [] I2 R2 N))))))))) : wp (kN N) mX10_lay Q 0 [vR a0, none] [] I R N := by
  refine wp_aload_n (pc' := 1) (q := 0) (i := 0) rfl rfl dX10_lay_0 rfl ?_
  obtain ⟨h1, h⟩ := h
  refine wp_getR (pc' := 4) (k := 1) dX10_lay_1 vc9 (by decide) rfl lfX10_19 h1 rfl ?_
  refine wp_aload_n (pc' := 5) (q := 0) (i := 0) rfl rfl dX10_lay_4 rfl ?_
  refine wp_getR (pc' := 8) (k := 0) dX10_lay_5 vc9 (by decide) rfl lfX10_10 h1 rfl ?_
  refine wp_aload_n (pc' := 9) (q := 0) (i := 0) rfl rfl dX10_lay_8 rfl ?_
  refine wp_getR (pc' := 12) (k := 3) dX10_lay_9 vc9 (by decide) rfl lfX10_30 h1 rfl ?_
  obtain ⟨h3, h⟩ := h
  obtain ⟨Q2, hs2, h⟩ := h
  refine wp_callV (pc' := 15) (as := [vR (R a0 0), vR (R a0 3)]) (rest := []) hs2 dX10_lay_12 rfl lkX10_95 okX5_read inX5_read seX5_read h3 vc5 ⟨Nat.le_of_ble_eq_true rfl, Nat.le_of_ble_eq_true rfl⟩ (Nat.le_of_ble_eq_true rfl) (Nat.le_refl _) (Nat.le_refl _) okP_eq okP_eq rfl (rvI rfl (fun x2 I2 R2 hq2 => ?_))
  have h := h x2 I2 R2 hq2
  refine wp_bipush (pc' := 17) (by decide) dX10_lay_15 rfl ?_
  obtain ⟨h4, h⟩ := h
  refine wp_icmp_ne (pc' := 20) (tgt := 40) h4 ⟨by decide, by decide⟩ dX10_lay_17 rfl rfl (fun hc => ?_) (fun hc => ?_)
  · have h := h.1 hc
    exact wp_dropP (leP_d (leP_s leP_n)) h
  · have h := h.2 hc
    refine wp_aload_n (pc' := 21) (q := 0) (i := 0) rfl rfl dX10_lay_20 rfl ?_
    refine wp_getR (pc' := 24) (k := 3) dX10_lay_21 vc9 (by decide) rfl lfX10_30 h1 rfl ?_
    obtain ⟨h5, h⟩ := h
    refine wp_getI (pc' := 27) (k := 6) dX10_lay_24 vc6 (by decide) rfl lfX10_99 h5 rfl ?_
    obtain ⟨h6, h⟩ := h
    refine wp_if_eq (pc' := 30) (tgt := 40) h6 dX10_lay_27 rfl rfl (fun hc => ?_) (fun hc => ?_)
    · have h := h.1 hc
      exact wp_dropP (leP_d (leP_s leP_n)) h
    · have h := h.2 hc
      refine wp_aload_n (pc' := 31) (q := 0) (i := 0) rfl rfl dX10_lay_30 rfl ?_
      refine wp_getR (pc' := 34) (k := 3) dX10_lay_31 vc9 (by decide) rfl lfX10_30 h1 rfl ?_
      refine wp_getI (pc' := 37) (k := 7) dX10_lay_34 vc6 (by decide) rfl lfX10_102 h5 rfl ?_
      obtain ⟨h7, h⟩ := h
      refine wp_if_ne (pc' := 40) (tgt := 43) h7 dX10_lay_37 rfl rfl (fun hc => ?_) (fun hc => ?_)
      · have h := h.1 hc
        refine wp_aload_n (pc' := 44) (q := 0) (i := 0) rfl rfl dX10_lay_43 rfl ?_
        refine wp_getR (pc' := 47) (k := 3) dX10_lay_44 vc9 (by decide) rfl lfX10_30 h1 rfl ?_
        obtain ⟨h8, h⟩ := h
        refine wp_astore_n (pc' := 48) (q := 1) (i := 1) (L' := [vR a0, vR (R2 a0 3)]) h8 rfl (by decide) rfl dX10_lay_47 rfl rfl ?_
        refine wp_aload_n (pc' := 49) (q := 0) (i := 0) rfl rfl dX10_lay_48 rfl ?_
        refine wp_aload_n (pc' := 50) (q := 0) (i := 0) rfl rfl dX10_lay_49 rfl ?_
        refine wp_getR (pc' := 53) (k := 2) dX10_lay_50 vc9 (by decide) rfl lfX10_26 h1 rfl ?_
        obtain ⟨R9, eR9⟩ : ∃ z : RR, z = up2 R2 a0 3 (R2 a0 2) := ⟨_, rfl⟩
        have h := h R9 eR9
        refine wp_putR (pc' := 56) (k := 3) (R' := R9) (Or.inl ⟨_, rfl⟩) dX10_lay_53 vc9 (by decide) rfl rfl (tyX10_ok 3 (by decide)) lfX10_30 h1 rfl eR9 ?_
        refine wp_aload_n (pc' := 57) (q := 0) (i := 0) rfl rfl dX10_lay_56 rfl ?_
        refine wp_aload_n (pc' := 58) (q := 1) (i := 1) rfl rfl dX10_lay_57 rfl ?_
        obtain ⟨R10, eR10⟩ : ∃ z : RR, z = up2 R9 a0 2 (R2 a0 3) := ⟨_, rfl⟩
        have h := h R10 eR10
        refine wp_putR (pc' := 61) (k := 2) (R' := R10) (Or.inl ⟨_, rfl⟩) dX10_lay_58 vc9 (by decide) rfl rfl (tyX10_ok 2 (by decide)) lfX10_26 h1 rfl eR10 ?_
        refine wp_aload_n (pc' := 62) (q := 0) (i := 0) rfl rfl dX10_lay_61 rfl ?_
        refine wp_getR (pc' := 65) (k := 4) dX10_lay_62 vc9 (by decide) rfl lfX10_36 h1 rfl ?_
        refine wp_iconst (pc' := 66) dX10_lay_65 rfl ?_
        obtain ⟨h11, h⟩ := h
        obtain ⟨I12, eI12⟩ : ∃ z : II, z = up2 I2 (R10 a0 4) 4 0 := ⟨_, rfl⟩
        have h := h I12 eI12
        refine wp_putI (pc' := 69) (k := 4) (I' := I12) dX10_lay_66 vc4 (by decide) rfl rfl (tyX4_ok 4 (by decide)) lfX10_105 h11 rfl eI12 ?_
        refine wp_aload_n (pc' := 70) (q := 0) (i := 0) rfl rfl dX10_lay_69 rfl ?_
        refine wp_iconst (pc' := 71) dX10_lay_70 rfl ?_
        obtain ⟨I13, eI13⟩ : ∃ z : II, z = up2 I12 a0 6 0 := ⟨_, rfl⟩
        have h := h I13 eI13
        refine wp_putI (pc' := 74) (k := 6) (I' := I13) dX10_lay_71 vc9 (by decide) rfl rfl (tyX10_ok 6 (by decide)) lfX10_46 h1 rfl eI13 ?_
        refine wp_aload_n (pc' := 75) (q := 0) (i := 0) rfl rfl dX10_lay_74 rfl ?_
        refine wp_getR (pc' := 78) (k := 2) dX10_lay_75 vc9 (by decide) rfl lfX10_26 h1 rfl ?_
        obtain ⟨h14, h⟩ := h
        refine wp_getI (pc' := 81) (k := 5) dX10_lay_78 vc6 (by decide) rfl lfX10_106 h14 rfl ?_
        exact wp_ireturn dX10_lay_81 rfl rfl h
      · have h := h.2 hc
        exact wp_dropP (leP_d (leP_s leP_n)) h

set_option maxRecDepth 4000 in
theorem gX10_lay_40 {Q : QT} {I : II} {R : RR} {N : Nat} 
    (h : Q (vI (-2)) I R) : wp (kN N) mX10_lay Q 40 [none, none] [] I R N := by
  refine wp_bipush (pc' := 42) (by decide) dX10_lay_40 rfl ?_
  exact wp_ireturn dX10_lay_42 rfl rfl h

theorem sX10_person {Q : QT} {I : II} {R : RR} {N : Nat} {a0 : Nat} {a1 : Int} {a2 : Int} (hN : N < 1000) (h : wp (kN N) mX10_person Q 0 [vR a0, vI a1, vI a2] [] I R N) : Spec mX10_person [vR a0, vI a1, vI a2] I R N N Q := Spec_of_wp pyX10_person rfl (Nat.le_of_ble_eq_true rfl) (Nat.le_refl _) hN h

set_option maxRecDepth 4000 in
theorem gX10_person_0 {Q : QT} {I : II} {R : RR} {N : Nat} {a0 : Nat} {a1 : Int} {a2 : Int}
    (h : (isO N a0 9) ∧
      (isO N (R a0 2) 6) ∧
      (∃ Q2 : QT, Spec mX6_has [vR (R a0 2), vI a1] I R N N Q2 ∧ (∀ x2 I2 R2, (x2 = 0 ∨ x2 = 1) → Q2 (vI x2) I2 R2 →
      (InI x2) ∧
      ((x2 = 0 →
      wp (kN N) mX10_person Q 20 [none, none, none] [] I2 R2 N) ∧ (¬ (x2 = 0) →
      (∃ Q5 : QT, Spec mX10_within [vI a2, vI 0, vI 2] I2 R2 N N Q5 ∧ (∀ x5 I5 R5, (x5 = 0 ∨ x5 = 1) → Q5 (vI x5) I5 R5 →
      (InI x5) ∧
      ((¬ x5 = 0 →
      (InI a2) ∧
      ((¬ a2 = 0 →
      ((¬ a2 = (1 : Int) →
      (isO N (R5 a0 2) 6) ∧
      (isA N (R5 (R5 a0 2) 2) 1 20) ∧
      (0 ≤ a1 ∧ a1 < 20) ∧
      Q (vI (I5 (R5 (R5 a0 2) 2) a1.toNat)) I5 R5) ∧ (a2 = (1 : Int) →
      (isO N (R5 a0 2) 6) ∧
      (isA N (R5 (R5 a0 2) 1) 1 20) ∧
      (0 ≤ a1 ∧ a1 < 20) ∧
      Q (vI (I5 (R5 (R5 a0 2) 1) a1.toNat)) I5 R5))) ∧ (a2 = 0 →
      (isO N (R5 a0 2) 6) ∧
      (isA N (R5 (R5 a0 2) 0) 2 20) ∧
      (0 ≤ a1 ∧ a1 < 20) ∧
      (InI (I5 (R5 (R5 a0 2) 0) a1.toNat)) ∧
      (((I5 (R5 (R5 a0 2) 0) a1.toNat) = 0 →
      Q (vI 0) I5 R5) ∧ (¬ (I5 (R5 (R5 a0 2) 0) a1.toNat) = 0 →
      Q (vI 1) I5 R5))))) ∧ (x5 = 0 →
      wp (kN N) mX10_person Q 20 [none, none, none] [] I5 R5 N))))))))) : wp (kN N) mX10_person Q 0 [vR a0, vI a1, vI a2] [] I R N := by
  refine wp_aload_n (pc' := 1) (q := 0) (i := 0) rfl rfl dX10_person_0 rfl ?_
  obtain ⟨h1, h⟩ := h
  refine wp_getR (pc' := 4) (k := 2) dX10_person_1 vc9 (by decide) rfl lfX10_26 h1 rfl ?_
  refine wp_iload_n (pc' := 5) (q := 1) (i := 1) rfl rfl dX10_person_4 rfl ?_
  obtain ⟨h3, h⟩ := h
  obtain ⟨Q2, hs2, h⟩ := h
  refine wp_callV (pc' := 8) (as := [vI a1]) (rest := []) hs2 dX10_person_5 rfl lkX10_109 okX6_has inX6_has seX6_has h3 vc6 ⟨Nat.le_of_ble_eq_true rfl, Nat.le_of_ble_eq_true rfl⟩ (Nat.le_of_ble_eq_true rfl) (Nat.le_refl _) (Nat.le_refl _) okP_eq okP_eq rfl (rvZ rfl (fun x2 I2 R2 hz2 hq2 => ?_))
  have h := h x2 I2 R2 hz2 hq2
  obtain ⟨h4, h⟩ := h
  refine wp_if_eq (pc' := 11) (tgt := 20) h4 dX10_person_8 rfl rfl (fun hc => ?_) (fun hc => ?_)
  · have h := h.1 hc
    exact wp_dropP (leP_d (leP_d (leP_d leP_n))) h
  · have h := h.2 hc
    refine wp_iload_n (pc' := 12) (q := 2) (i := 2) rfl rfl dX10_person_11 rfl ?_
    refine wp_iconst (pc' := 13) dX10_person_12 rfl ?_
    refine wp_iconst (pc' := 14) dX10_person_13 rfl ?_
    obtain ⟨Q5, hs5, h⟩ := h
    refine wp_callS (pc' := 17) (as := [vI a2, vI 0, vI 2]) (rest := []) hs5 dX10_person_14 rfl lkX10_84 okX10_within stX10_within ⟨Nat.le_of_ble_eq_true rfl, Nat.le_of_ble_eq_true rfl⟩ (Nat.le_of_ble_eq_true rfl) (Nat.le_refl _) (Nat.le_refl _) okP_eq okP_eq rfl (rvZ rfl (fun x5 I5 R5 hz5 hq5 => ?_))
    have h := h x5 I5 R5 hz5 hq5
    obtain ⟨h6, h⟩ := h
    refine wp_if_ne (pc' := 20) (tgt := 22) h6 dX10_person_17 rfl rfl (fun hc => ?_) (fun hc => ?_)
    · have h := h.1 hc
      refine wp_iload_n (pc' := 23) (q := 2) (i := 2) rfl rfl dX10_person_22 rfl ?_
      obtain ⟨h7, h⟩ := h
      refine wp_if_ne (pc' := 26) (tgt := 44) h7 dX10_person_23 rfl rfl (fun hc => ?_) (fun hc => ?_)
      · have h := h.1 hc
        refine wp_iload_n (pc' := 45) (q := 2) (i := 2) rfl rfl dX10_person_44 rfl ?_
        refine wp_iconst (pc' := 46) dX10_person_45 rfl ?_
        refine wp_icmp_ne (pc' := 49) (tgt := 61) h7 ⟨by decide, by decide⟩ dX10_person_46 rfl rfl (fun hc => ?_) (fun hc => ?_)
        · have h := h.1 hc
          refine wp_aload_n (pc' := 62) (q := 0) (i := 0) rfl rfl dX10_person_61 rfl ?_
          refine wp_getR (pc' := 65) (k := 2) dX10_person_62 vc9 (by decide) rfl lfX10_26 h1 rfl ?_
          obtain ⟨h8, h⟩ := h
          refine wp_getR (pc' := 68) (k := 2) dX10_person_65 vc6 (by decide) rfl lfX10_121 h8 rfl ?_
          refine wp_iload_n (pc' := 69) (q := 1) (i := 1) rfl rfl dX10_person_68 rfl ?_
          obtain ⟨h9, h⟩ := h
          obtain ⟨h10, h⟩ := h
          refine wp_iald (pc' := 70) (j := a1.toNat) dX10_person_69 h9 h10 rfl rfl ?_
          exact wp_ireturn dX10_person_70 rfl rfl h
        · have h := h.2 hc
          refine wp_aload_n (pc' := 50) (q := 0) (i := 0) rfl rfl dX10_person_49 rfl ?_
          refine wp_getR (pc' := 53) (k := 2) dX10_person_50 vc9 (by decide) rfl lfX10_26 h1 rfl ?_
          obtain ⟨h11, h⟩ := h
          refine wp_getR (pc' := 56) (k := 1) dX10_person_53 vc6 (by decide) rfl lfX10_117 h11 rfl ?_
          refine wp_iload_n (pc' := 57) (q := 1) (i := 1) rfl rfl dX10_person_56 rfl ?_
          obtain ⟨h12, h⟩ := h
          obtain ⟨h13, h⟩ := h
          refine wp_iald (pc' := 58) (j := a1.toNat) dX10_person_57 h12 h13 rfl rfl ?_
          refine wp_goto (tgt := 70) dX10_person_58 rfl ?_
          exact wp_ireturn dX10_person_70 rfl rfl h
      · have h := h.2 hc
        refine wp_aload_n (pc' := 27) (q := 0) (i := 0) rfl rfl dX10_person_26 rfl ?_
        refine wp_getR (pc' := 30) (k := 2) dX10_person_27 vc9 (by decide) rfl lfX10_26 h1 rfl ?_
        obtain ⟨h14, h⟩ := h
        refine wp_getR (pc' := 33) (k := 0) dX10_person_30 vc6 (by decide) rfl lfX10_113 h14 rfl ?_
        refine wp_iload_n (pc' := 34) (q := 1) (i := 1) rfl rfl dX10_person_33 rfl ?_
        obtain ⟨h15, h⟩ := h
        obtain ⟨h16, h⟩ := h
        refine wp_zald (pc' := 35) (j := a1.toNat) dX10_person_34 h15 h16 rfl rfl ?_
        obtain ⟨h17, h⟩ := h
        refine wp_if_eq (pc' := 38) (tgt := 42) h17 dX10_person_35 rfl rfl (fun hc => ?_) (fun hc => ?_)
        · have h := h.1 hc
          refine wp_iconst (pc' := 43) dX10_person_42 rfl ?_
          exact wp_ireturn dX10_person_43 rfl rfl h
        · have h := h.2 hc
          refine wp_iconst (pc' := 39) dX10_person_38 rfl ?_
          refine wp_goto (tgt := 43) dX10_person_39 rfl ?_
          exact wp_ireturn dX10_person_43 rfl rfl h
    · have h := h.2 hc
      exact wp_dropP (leP_d (leP_d (leP_d leP_n))) h

set_option maxRecDepth 4000 in
theorem gX10_person_20 {Q : QT} {I : II} {R : RR} {N : Nat} 
    (h : Q (vI (-1)) I R) : wp (kN N) mX10_person Q 20 [none, none, none] [] I R N := by
  refine wp_iconst (pc' := 21) dX10_person_20 rfl ?_
  exact wp_ireturn dX10_person_21 rfl rfl h

theorem sX10_law {Q : QT} {I : II} {R : RR} {N : Nat} {a0 : Nat} {a1 : Int} {a2 : Int} (hN : N < 1000) (h : wp (kN N) mX10_law Q 0 [vR a0, vI a1, vI a2, none] [] I R N) : Spec mX10_law [vR a0, vI a1, vI a2] I R N N Q := Spec_of_wp pyX10_law rfl (Nat.le_of_ble_eq_true rfl) (Nat.le_refl _) hN h

set_option maxRecDepth 4000 in
theorem gX10_law_0 {Q : QT} {I : II} {R : RR} {N : Nat} {a0 : Nat} {a1 : Int} {a2 : Int}
    (h : (isO N a0 9) ∧
      (isO N (R a0 2) 6) ∧
      (∃ Q2 : QT, Spec mX6_has [vR (R a0 2), vI a1] I R N N Q2 ∧ (∀ x2 I2 R2, (x2 = 0 ∨ x2 = 1) → Q2 (vI x2) I2 R2 →
      (InI x2) ∧
      ((x2 = 0 →
      wp (kN N) mX10_law Q 20 [none, none, none, none] [] I2 R2 N) ∧ (¬ (x2 = 0) →
      (∃ Q5 : QT, Spec mX10_within [vI a2, vI 0, vI 5] I2 R2 N N Q5 ∧ (∀ x5 I5 R5, (x5 = 0 ∨ x5 = 1) → Q5 (vI x5) I5 R5 →
      (InI x5) ∧
      ((¬ x5 = 0 →
      (isO N (R5 a0 2) 6) ∧
      (isA N (R5 (R5 a0 2) 2) 1 20) ∧
      (0 ≤ a1 ∧ a1 < 20) ∧
      (∀ I10 : II, I10 = up2 I5 (R5 (R5 a0 2) 2) (a1.toNat) a2 →
      Q (vI (I5 (R5 (R5 a0 2) 2) a1.toNat)) I10 R5)) ∧ (x5 = 0 →
      wp (kN N) mX10_law Q 20 [none, none, none, none] [] I5 R5 N))))))))) : wp (kN N) mX10_law Q 0 [vR a0, vI a1, vI a2, none] [] I R N := by
  refine wp_aload_n (pc' := 1) (q := 0) (i := 0) rfl rfl dX10_law_0 rfl ?_
  obtain ⟨h1, h⟩ := h
  refine wp_getR (pc' := 4) (k := 2) dX10_law_1 vc9 (by decide) rfl lfX10_26 h1 rfl ?_
  refine wp_iload_n (pc' := 5) (q := 1) (i := 1) rfl rfl dX10_law_4 rfl ?_
  obtain ⟨h3, h⟩ := h
  obtain ⟨Q2, hs2, h⟩ := h
  refine wp_callV (pc' := 8) (as := [vI a1]) (rest := []) hs2 dX10_law_5 rfl lkX10_109 okX6_has inX6_has seX6_has h3 vc6 ⟨Nat.le_of_ble_eq_true rfl, Nat.le_of_ble_eq_true rfl⟩ (Nat.le_of_ble_eq_true rfl) (Nat.le_refl _) (Nat.le_refl _) okP_eq okP_eq rfl (rvZ rfl (fun x2 I2 R2 hz2 hq2 => ?_))
  have h := h x2 I2 R2 hz2 hq2
  obtain ⟨h4, h⟩ := h
  refine wp_if_eq (pc' := 11) (tgt := 20) h4 dX10_law_8 rfl rfl (fun hc => ?_) (fun hc => ?_)
  · have h := h.1 hc
    exact wp_dropP (leP_d (leP_d (leP_d (leP_s leP_n)))) h
  · have h := h.2 hc
    refine wp_iload_n (pc' := 12) (q := 2) (i := 2) rfl rfl dX10_law_11 rfl ?_
    refine wp_iconst (pc' := 13) dX10_law_12 rfl ?_
    refine wp_iconst (pc' := 14) dX10_law_13 rfl ?_
    obtain ⟨Q5, hs5, h⟩ := h
    refine wp_callS (pc' := 17) (as := [vI a2, vI 0, vI 5]) (rest := []) hs5 dX10_law_14 rfl lkX10_84 okX10_within stX10_within ⟨Nat.le_of_ble_eq_true rfl, Nat.le_of_ble_eq_true rfl⟩ (Nat.le_of_ble_eq_true rfl) (Nat.le_refl _) (Nat.le_refl _) okP_eq okP_eq rfl (rvZ rfl (fun x5 I5 R5 hz5 hq5 => ?_))
    have h := h x5 I5 R5 hz5 hq5
    obtain ⟨h6, h⟩ := h
    refine wp_if_ne (pc' := 20) (tgt := 22) h6 dX10_law_17 rfl rfl (fun hc => ?_) (fun hc => ?_)
    · have h := h.1 hc
      refine wp_aload_n (pc' := 23) (q := 0) (i := 0) rfl rfl dX10_law_22 rfl ?_
      refine wp_getR (pc' := 26) (k := 2) dX10_law_23 vc9 (by decide) rfl lfX10_26 h1 rfl ?_
      obtain ⟨h7, h⟩ := h
      refine wp_getR (pc' := 29) (k := 2) dX10_law_26 vc6 (by decide) rfl lfX10_121 h7 rfl ?_
      refine wp_iload_n (pc' := 30) (q := 1) (i := 1) rfl rfl dX10_law_29 rfl ?_
      obtain ⟨h8, h⟩ := h
      obtain ⟨h9, h⟩ := h
      refine wp_iald (pc' := 31) (j := a1.toNat) dX10_law_30 h8 h9 rfl rfl ?_
      refine wp_istore_n (pc' := 32) (q := 3) (i := 3) (L' := [vR a0, vI a1, vI a2, vI (I5 (R5 (R5 a0 2) 2) a1.toNat)]) rfl (by decide) rfl dX10_law_31 rfl rfl ?_
      refine wp_aload_n (pc' := 33) (q := 0) (i := 0) rfl rfl dX10_law_32 rfl ?_
      refine wp_getR (pc' := 36) (k := 2) dX10_law_33 vc9 (by decide) rfl lfX10_26 h1 rfl ?_
      refine wp_getR (pc' := 39) (k := 2) dX10_law_36 vc6 (by decide) rfl lfX10_121 h7 rfl ?_
      refine wp_iload_n (pc' := 40) (q := 1) (i := 1) rfl rfl dX10_law_39 rfl ?_
      refine wp_iload_n (pc' := 41) (q := 2) (i := 2) rfl rfl dX10_law_40 rfl ?_
      obtain ⟨I10, eI10⟩ : ∃ z : II, z = up2 I5 (R5 (R5 a0 2) 2) (a1.toNat) a2 := ⟨_, rfl⟩
      have h := h I10 eI10
      refine wp_iast (pc' := 42) (j := a1.toNat) (I' := I10) dX10_law_41 h8 h9 rfl rfl eI10 ?_
      refine wp_iload_n (pc' := 43) (q := 3) (i := 3) rfl rfl dX10_law_42 rfl ?_
      exact wp_ireturn dX10_law_43 rfl rfl h
    · have h := h.2 hc
      exact wp_dropP (leP_d (leP_d (leP_d (leP_s leP_n)))) h

set_option maxRecDepth 4000 in
theorem gX10_law_20 {Q : QT} {I : II} {R : RR} {N : Nat} 
    (h : Q (vI (-1)) I R) : wp (kN N) mX10_law Q 20 [none, none, none, none] [] I R N := by
  refine wp_iconst (pc' := 21) dX10_law_20 rfl ?_
  exact wp_ireturn dX10_law_21 rfl rfl h

theorem sX10_lines {Q : QT} {I : II} {R : RR} {N : Nat} {a0 : Nat} {a1 : Int} (hN : N < 1000) (h : wp (kN N) mX10_lines Q 0 [vR a0, vI a1] [] I R N) : Spec mX10_lines [vR a0, vI a1] I R N N Q := Spec_of_wp pyX10_lines rfl (Nat.le_of_ble_eq_true rfl) (Nat.le_refl _) hN h

set_option maxRecDepth 4000 in
theorem gX10_lines_0 {Q : QT} {I : II} {R : RR} {N : Nat} {a0 : Nat} {a1 : Int}
    (h : (∃ Q1 : QT, Spec mX10_within [vI a1, vI 0, vI 4] I R N N Q1 ∧ (∀ x1 I1 R1, (x1 = 0 ∨ x1 = 1) → Q1 (vI x1) I1 R1 →
      (InI x1) ∧
      ((¬ x1 = 0 →
      (isO N a0 9) ∧
      (isO N (R1 a0 2) 6) ∧
      (isO N (R1 a0 7) 3) ∧
      (∃ Q5 : QT, Spec mX3_meet [vR (R1 a0 7), vR (R1 a0 2), vI (I1 (R1 a0 2) 9)] I1 R1 N N Q5 ∧ (∀ I5 R5, Q5 none I5 R5 →
      (InI a1) ∧
      ((¬ a1 = 0 →
      ((¬ a1 = (1 : Int) →
      (isO N (R5 a0 7) 3) ∧
      (InI (I5 (R5 a0 7) 2)) ∧
      ((¬ (I5 (R5 a0 7) 2) = 0 →
      ((¬ a1 = (4 : Int) →
      ((¬ a1 = (2 : Int) →
      Q (vI (I5 (R5 a0 7) 5)) I5 R5) ∧ (a1 = (2 : Int) →
      Q (vI (I5 (R5 a0 7) 4)) I5 R5))) ∧ (a1 = (4 : Int) →
      (isO N (R5 a0 8) 3) ∧
      (∃ Q10 : QT, Spec mX3_meet [vR (R5 a0 8), vR (R5 a0 2), vI 0] I5 R5 N N Q10 ∧ (∀ I10 R10, Q10 none I10 R10 →
      (isO N (R10 a0 8) 3) ∧
      (InI (I10 (R10 a0 8) 2)) ∧
      ((¬ (I10 (R10 a0 8) 2) = 0 →
      (isO N (R10 a0 7) 3) ∧
      Q (vI ((I10 (R10 a0 7) 4) - (I10 (R10 a0 8) 4))) I10 R10) ∧ ((I10 (R10 a0 8) 2) = 0 →
      Q (vI (-4)) I10 R10))))))) ∧ ((I5 (R5 a0 7) 2) = 0 →
      Q (vI (-4)) I5 R5))) ∧ (a1 = (1 : Int) →
      (isO N (R5 a0 7) 3) ∧
      Q (vI (I5 (R5 a0 7) 3)) I5 R5))) ∧ (a1 = 0 →
      (isO N (R5 a0 7) 3) ∧
      Q (vI (I5 (R5 a0 7) 2)) I5 R5))))) ∧ (x1 = 0 →
      Q (vI (-1)) I1 R1))))) : wp (kN N) mX10_lines Q 0 [vR a0, vI a1] [] I R N := by
  refine wp_iload_n (pc' := 1) (q := 1) (i := 1) rfl rfl dX10_lines_0 rfl ?_
  refine wp_iconst (pc' := 2) dX10_lines_1 rfl ?_
  refine wp_iconst (pc' := 3) dX10_lines_2 rfl ?_
  obtain ⟨Q1, hs1, h⟩ := h
  refine wp_callS (pc' := 6) (as := [vI a1, vI 0, vI 4]) (rest := []) hs1 dX10_lines_3 rfl lkX10_84 okX10_within stX10_within ⟨Nat.le_of_ble_eq_true rfl, Nat.le_of_ble_eq_true rfl⟩ (Nat.le_of_ble_eq_true rfl) (Nat.le_refl _) (Nat.le_refl _) okP_eq okP_eq rfl (rvZ rfl (fun x1 I1 R1 hz1 hq1 => ?_))
  have h := h x1 I1 R1 hz1 hq1
  obtain ⟨h2, h⟩ := h
  refine wp_if_ne (pc' := 9) (tgt := 11) h2 dX10_lines_6 rfl rfl (fun hc => ?_) (fun hc => ?_)
  · have h := h.1 hc
    refine wp_aload_n (pc' := 12) (q := 0) (i := 0) rfl rfl dX10_lines_11 rfl ?_
    obtain ⟨h3, h⟩ := h
    refine wp_getR (pc' := 15) (k := 7) dX10_lines_12 vc9 (by decide) rfl lfX10_53 h3 rfl ?_
    refine wp_aload_n (pc' := 16) (q := 0) (i := 0) rfl rfl dX10_lines_15 rfl ?_
    refine wp_getR (pc' := 19) (k := 2) dX10_lines_16 vc9 (by decide) rfl lfX10_26 h3 rfl ?_
    refine wp_aload_n (pc' := 20) (q := 0) (i := 0) rfl rfl dX10_lines_19 rfl ?_
    refine wp_getR (pc' := 23) (k := 2) dX10_lines_20 vc9 (by decide) rfl lfX10_26 h3 rfl ?_
    obtain ⟨h4, h⟩ := h
    refine wp_getI (pc' := 26) (k := 9) dX10_lines_23 vc6 (by decide) rfl lfX10_124 h4 rfl ?_
    obtain ⟨h6, h⟩ := h
    obtain ⟨Q5, hs5, h⟩ := h
    refine wp_callV (pc' := 29) (as := [vR (R1 a0 2), vI (I1 (R1 a0 2) 9)]) (rest := []) hs5 dX10_lines_26 rfl lkX10_127 okX3_meet inX3_meet seX3_meet h6 vc3 ⟨Nat.le_of_ble_eq_true rfl, Nat.le_of_ble_eq_true rfl⟩ (Nat.le_of_ble_eq_true rfl) (Nat.le_refl _) (Nat.le_refl _) okP_eq okP_eq rfl (rvV rfl (fun I5 R5 hq5 => ?_))
    have h := h I5 R5 hq5
    refine wp_iload_n (pc' := 30) (q := 1) (i := 1) rfl rfl dX10_lines_29 rfl ?_
    obtain ⟨h7, h⟩ := h
    refine wp_if_ne (pc' := 33) (tgt := 41) h7 dX10_lines_30 rfl rfl (fun hc => ?_) (fun hc => ?_)
    · have h := h.1 hc
      refine wp_iload_n (pc' := 42) (q := 1) (i := 1) rfl rfl dX10_lines_41 rfl ?_
      refine wp_iconst (pc' := 43) dX10_lines_42 rfl ?_
      refine wp_icmp_ne (pc' := 46) (tgt := 54) h7 ⟨by decide, by decide⟩ dX10_lines_43 rfl rfl (fun hc => ?_) (fun hc => ?_)
      · have h := h.1 hc
        refine wp_aload_n (pc' := 55) (q := 0) (i := 0) rfl rfl dX10_lines_54 rfl ?_
        refine wp_getR (pc' := 58) (k := 7) dX10_lines_55 vc9 (by decide) rfl lfX10_53 h3 rfl ?_
        obtain ⟨h8, h⟩ := h
        refine wp_getI (pc' := 61) (k := 2) dX10_lines_58 vc3 (by decide) rfl lfX10_131 h8 rfl ?_
        obtain ⟨h9, h⟩ := h
        refine wp_if_ne (pc' := 64) (tgt := 67) h9 dX10_lines_61 rfl rfl (fun hc => ?_) (fun hc => ?_)
        · have h := h.1 hc
          refine wp_iload_n (pc' := 68) (q := 1) (i := 1) rfl rfl dX10_lines_67 rfl ?_
          refine wp_iconst (pc' := 69) dX10_lines_68 rfl ?_
          refine wp_icmp_ne (pc' := 72) (tgt := 115) h7 ⟨by decide, by decide⟩ dX10_lines_69 rfl rfl (fun hc => ?_) (fun hc => ?_)
          · have h := h.1 hc
            refine wp_iload_n (pc' := 116) (q := 1) (i := 1) rfl rfl dX10_lines_115 rfl ?_
            refine wp_iconst (pc' := 117) dX10_lines_116 rfl ?_
            refine wp_icmp_ne (pc' := 120) (tgt := 130) h7 ⟨by decide, by decide⟩ dX10_lines_117 rfl rfl (fun hc => ?_) (fun hc => ?_)
            · have h := h.1 hc
              refine wp_aload_n (pc' := 131) (q := 0) (i := 0) rfl rfl dX10_lines_130 rfl ?_
              refine wp_getR (pc' := 134) (k := 7) dX10_lines_131 vc9 (by decide) rfl lfX10_53 h3 rfl ?_
              refine wp_getI (pc' := 137) (k := 5) dX10_lines_134 vc3 (by decide) rfl lfX10_140 h8 rfl ?_
              exact wp_ireturn dX10_lines_137 rfl rfl h
            · have h := h.2 hc
              refine wp_aload_n (pc' := 121) (q := 0) (i := 0) rfl rfl dX10_lines_120 rfl ?_
              refine wp_getR (pc' := 124) (k := 7) dX10_lines_121 vc9 (by decide) rfl lfX10_53 h3 rfl ?_
              refine wp_getI (pc' := 127) (k := 4) dX10_lines_124 vc3 (by decide) rfl lfX10_137 h8 rfl ?_
              refine wp_goto (tgt := 137) dX10_lines_127 rfl ?_
              exact wp_ireturn dX10_lines_137 rfl rfl h
          · have h := h.2 hc
            refine wp_aload_n (pc' := 73) (q := 0) (i := 0) rfl rfl dX10_lines_72 rfl ?_
            refine wp_getR (pc' := 76) (k := 8) dX10_lines_73 vc9 (by decide) rfl lfX10_57 h3 rfl ?_
            refine wp_aload_n (pc' := 77) (q := 0) (i := 0) rfl rfl dX10_lines_76 rfl ?_
            refine wp_getR (pc' := 80) (k := 2) dX10_lines_77 vc9 (by decide) rfl lfX10_26 h3 rfl ?_
            refine wp_iconst (pc' := 81) dX10_lines_80 rfl ?_
            obtain ⟨h11, h⟩ := h
            obtain ⟨Q10, hs10, h⟩ := h
            refine wp_callV (pc' := 84) (as := [vR (R5 a0 2), vI 0]) (rest := []) hs10 dX10_lines_81 rfl lkX10_127 okX3_meet inX3_meet seX3_meet h11 vc3 ⟨Nat.le_of_ble_eq_true rfl, Nat.le_of_ble_eq_true rfl⟩ (Nat.le_of_ble_eq_true rfl) (Nat.le_refl _) (Nat.le_refl _) okP_eq okP_eq rfl (rvV rfl (fun I10 R10 hq10 => ?_))
            have h := h I10 R10 hq10
            refine wp_aload_n (pc' := 85) (q := 0) (i := 0) rfl rfl dX10_lines_84 rfl ?_
            refine wp_getR (pc' := 88) (k := 8) dX10_lines_85 vc9 (by decide) rfl lfX10_57 h3 rfl ?_
            obtain ⟨h12, h⟩ := h
            refine wp_getI (pc' := 91) (k := 2) dX10_lines_88 vc3 (by decide) rfl lfX10_131 h12 rfl ?_
            obtain ⟨h13, h⟩ := h
            refine wp_if_ne (pc' := 94) (tgt := 99) h13 dX10_lines_91 rfl rfl (fun hc => ?_) (fun hc => ?_)
            · have h := h.1 hc
              refine wp_aload_n (pc' := 100) (q := 0) (i := 0) rfl rfl dX10_lines_99 rfl ?_
              refine wp_getR (pc' := 103) (k := 7) dX10_lines_100 vc9 (by decide) rfl lfX10_53 h3 rfl ?_
              obtain ⟨h14, h⟩ := h
              refine wp_getI (pc' := 106) (k := 4) dX10_lines_103 vc3 (by decide) rfl lfX10_137 h14 rfl ?_
              refine wp_aload_n (pc' := 107) (q := 0) (i := 0) rfl rfl dX10_lines_106 rfl ?_
              refine wp_getR (pc' := 110) (k := 8) dX10_lines_107 vc9 (by decide) rfl lfX10_57 h3 rfl ?_
              refine wp_getI (pc' := 113) (k := 4) dX10_lines_110 vc3 (by decide) rfl lfX10_137 h12 rfl ?_
              refine wp_isub (pc' := 114) dX10_lines_113 rfl ?_
              exact wp_ireturn dX10_lines_114 rfl rfl h
            · have h := h.2 hc
              refine wp_bipush (pc' := 96) (by decide) dX10_lines_94 rfl ?_
              refine wp_goto (tgt := 114) dX10_lines_96 rfl ?_
              exact wp_ireturn dX10_lines_114 rfl rfl h
        · have h := h.2 hc
          refine wp_bipush (pc' := 66) (by decide) dX10_lines_64 rfl ?_
          exact wp_ireturn dX10_lines_66 rfl rfl h
      · have h := h.2 hc
        refine wp_aload_n (pc' := 47) (q := 0) (i := 0) rfl rfl dX10_lines_46 rfl ?_
        refine wp_getR (pc' := 50) (k := 7) dX10_lines_47 vc9 (by decide) rfl lfX10_53 h3 rfl ?_
        obtain ⟨h15, h⟩ := h
        refine wp_getI (pc' := 53) (k := 3) dX10_lines_50 vc3 (by decide) rfl lfX10_134 h15 rfl ?_
        exact wp_ireturn dX10_lines_53 rfl rfl h
    · have h := h.2 hc
      refine wp_aload_n (pc' := 34) (q := 0) (i := 0) rfl rfl dX10_lines_33 rfl ?_
      refine wp_getR (pc' := 37) (k := 7) dX10_lines_34 vc9 (by decide) rfl lfX10_53 h3 rfl ?_
      obtain ⟨h16, h⟩ := h
      refine wp_getI (pc' := 40) (k := 2) dX10_lines_37 vc3 (by decide) rfl lfX10_131 h16 rfl ?_
      exact wp_ireturn dX10_lines_40 rfl rfl h
  · have h := h.2 hc
    refine wp_iconst (pc' := 10) dX10_lines_9 rfl ?_
    exact wp_ireturn dX10_lines_10 rfl rfl h

theorem sX10_served {Q : QT} {I : II} {R : RR} {N : Nat} {a0 : Nat} {a1 : Int} (hN : N < 1000) (h : wp (kN N) mX10_served Q 0 [vR a0, vI a1, none, none, none, none, none] [] I R N) : Spec mX10_served [vR a0, vI a1] I R N N Q := Spec_of_wp pyX10_served rfl (Nat.le_of_ble_eq_true rfl) (Nat.le_refl _) hN h

set_option maxRecDepth 4000 in
theorem gX10_served_0 {Q : QT} {I : II} {R : RR} {N : Nat} {a0 : Nat} {a1 : Int}
    (h : (∃ Q1 : QT, Spec mX10_within [vI a1, vI 0, vI 3] I R N N Q1 ∧ (∀ x1 I1 R1, (x1 = 0 ∨ x1 = 1) → Q1 (vI x1) I1 R1 →
      (InI x1) ∧
      ((¬ x1 = 0 →
      (isO N a0 9) ∧
      (isO N (R1 a0 2) 6) ∧
      (isO N (R1 a0 7) 3) ∧
      (∃ Q5 : QT, Spec mX3_meet [vR (R1 a0 7), vR (R1 a0 2), vI (I1 (R1 a0 2) 9)] I1 R1 N N Q5 ∧ (∀ I5 R5, Q5 none I5 R5 →
      (isO N (R5 a0 7) 3) ∧
      (InI (I5 (R5 a0 7) 2)) ∧
      (((I5 (R5 a0 7) 2) ≤ 0 →
      wp (kN N) mX10_served Q 196 [vR a0, vI a1, vI (I5 (R5 a0 7) 2), vI (I5 (R5 a0 7) 3), vI (I5 (R5 a0 7) 3), none, none] [] I5 R5 N) ∧ (¬ (I5 (R5 a0 7) 2) ≤ 0 →
      (isO N (R5 a0 2) 6) ∧
      (InI (I5 (R5 a0 2) 10)) ∧
      (InI (I5 (R5 a0 7) 4)) ∧
      (((I5 (R5 a0 7) 4) ≤ (I5 (R5 a0 2) 10) →
      wp (kN N) mX10_served Q 196 [vR a0, vI a1, vI (I5 (R5 a0 7) 2), vI (I5 (R5 a0 7) 3), vI (I5 (R5 a0 7) 3), none, none] [] I5 R5 N) ∧ (¬ (I5 (R5 a0 7) 4) ≤ (I5 (R5 a0 2) 10) →
      (isO N (R5 (R5 a0 7) 0) 2) ∧
      (∃ Q12 : QT, Spec mX2_ahead [vR (R5 (R5 a0 7) 0), vI (I5 (R5 a0 2) 10)] I5 R5 N N Q12 ∧ (∀ x12 I12 R12, Q12 (vI x12) I12 R12 →
      (isO N (R12 a0 7) 3) ∧
      (isO N (R12 a0 2) 6) ∧
      (isO N (R12 (R12 a0 7) 1) 2) ∧
      (∃ Q16 : QT, Spec mX2_ahead [vR (R12 (R12 a0 7) 1), vI ((I12 (R12 a0 2) 10) - (I12 (R12 a0 2) 9))] I12 R12 N N Q16 ∧ (∀ x16 I16 R16, Q16 (vI x16) I16 R16 →
      (InI x12) ∧
      (InI x16) ∧
      (isO N (R16 a0 7) 3) ∧
      (isO N (R16 (R16 a0 7) 0) 2) ∧
      (∃ Q21 : QT, Spec mX2_sum [vR (R16 (R16 a0 7) 0), vI 0, vI (min x12 x16)] I16 R16 N N Q21 ∧ (∀ x21 I21 R21, Q21 (vI x21) I21 R21 →
      (isO N (R21 a0 7) 3) ∧
      (isO N (R21 (R21 a0 7) 1) 2) ∧
      (∃ Q24 : QT, Spec mX2_sum [vR (R21 (R21 a0 7) 1), vI 0, vI (min x12 x16)] I21 R21 N N Q24 ∧ (∀ x24 I24 R24, Q24 (vI x24) I24 R24 →
      (isO N (R24 a0 7) 3) ∧
      (isO N (R24 (R24 a0 7) 0) 2) ∧
      (∃ Q27 : QT, Spec mX2_sum [vR (R24 (R24 a0 7) 0), vI (x12 - (min x12 x16)), vI x12] I24 R24 N N Q27 ∧ (∀ x27 I27 R27, Q27 (vI x27) I27 R27 →
      (isO N (R27 a0 7) 3) ∧
      (isO N (R27 (R27 a0 7) 1) 2) ∧
      (∃ Q30 : QT, Spec mX2_sum [vR (R27 (R27 a0 7) 1), vI (x16 - (min x12 x16)), vI x16] I27 R27 N N Q30 ∧ (∀ x30 I30 R30, Q30 (vI x30) I30 R30 →
      wp (kN N) mX10_served Q 196 [vR a0, vI a1, vI (min x12 x16), vI (x21 - x24), vI (x27 - x30), none, none] [] I30 R30 N))))))))))))))))))) ∧ (x1 = 0 →
      Q (vI (-1)) I1 R1))))) : wp (kN N) mX10_served Q 0 [vR a0, vI a1, none, none, none, none, none] [] I R N := by
  refine wp_iload_n (pc' := 1) (q := 1) (i := 1) rfl rfl dX10_served_0 rfl ?_
  refine wp_iconst (pc' := 2) dX10_served_1 rfl ?_
  refine wp_iconst (pc' := 3) dX10_served_2 rfl ?_
  obtain ⟨Q1, hs1, h⟩ := h
  refine wp_callS (pc' := 6) (as := [vI a1, vI 0, vI 3]) (rest := []) hs1 dX10_served_3 rfl lkX10_84 okX10_within stX10_within ⟨Nat.le_of_ble_eq_true rfl, Nat.le_of_ble_eq_true rfl⟩ (Nat.le_of_ble_eq_true rfl) (Nat.le_refl _) (Nat.le_refl _) okP_eq okP_eq rfl (rvZ rfl (fun x1 I1 R1 hz1 hq1 => ?_))
  have h := h x1 I1 R1 hz1 hq1
  obtain ⟨h2, h⟩ := h
  refine wp_if_ne (pc' := 9) (tgt := 11) h2 dX10_served_6 rfl rfl (fun hc => ?_) (fun hc => ?_)
  · have h := h.1 hc
    refine wp_aload_n (pc' := 12) (q := 0) (i := 0) rfl rfl dX10_served_11 rfl ?_
    obtain ⟨h3, h⟩ := h
    refine wp_getR (pc' := 15) (k := 7) dX10_served_12 vc9 (by decide) rfl lfX10_53 h3 rfl ?_
    refine wp_aload_n (pc' := 16) (q := 0) (i := 0) rfl rfl dX10_served_15 rfl ?_
    refine wp_getR (pc' := 19) (k := 2) dX10_served_16 vc9 (by decide) rfl lfX10_26 h3 rfl ?_
    refine wp_aload_n (pc' := 20) (q := 0) (i := 0) rfl rfl dX10_served_19 rfl ?_
    refine wp_getR (pc' := 23) (k := 2) dX10_served_20 vc9 (by decide) rfl lfX10_26 h3 rfl ?_
    obtain ⟨h4, h⟩ := h
    refine wp_getI (pc' := 26) (k := 9) dX10_served_23 vc6 (by decide) rfl lfX10_124 h4 rfl ?_
    obtain ⟨h6, h⟩ := h
    obtain ⟨Q5, hs5, h⟩ := h
    refine wp_callV (pc' := 29) (as := [vR (R1 a0 2), vI (I1 (R1 a0 2) 9)]) (rest := []) hs5 dX10_served_26 rfl lkX10_127 okX3_meet inX3_meet seX3_meet h6 vc3 ⟨Nat.le_of_ble_eq_true rfl, Nat.le_of_ble_eq_true rfl⟩ (Nat.le_of_ble_eq_true rfl) (Nat.le_refl _) (Nat.le_refl _) okP_eq okP_eq rfl (rvV rfl (fun I5 R5 hq5 => ?_))
    have h := h I5 R5 hq5
    refine wp_aload_n (pc' := 30) (q := 0) (i := 0) rfl rfl dX10_served_29 rfl ?_
    refine wp_getR (pc' := 33) (k := 7) dX10_served_30 vc9 (by decide) rfl lfX10_53 h3 rfl ?_
    obtain ⟨h7, h⟩ := h
    refine wp_getI (pc' := 36) (k := 2) dX10_served_33 vc3 (by decide) rfl lfX10_131 h7 rfl ?_
    refine wp_istore_n (pc' := 37) (q := 2) (i := 2) (L' := [vR a0, vI a1, vI (I5 (R5 a0 7) 2), none, none, none, none]) rfl (by decide) rfl dX10_served_36 rfl rfl ?_
    refine wp_aload_n (pc' := 38) (q := 0) (i := 0) rfl rfl dX10_served_37 rfl ?_
    refine wp_getR (pc' := 41) (k := 7) dX10_served_38 vc9 (by decide) rfl lfX10_53 h3 rfl ?_
    refine wp_getI (pc' := 44) (k := 3) dX10_served_41 vc3 (by decide) rfl lfX10_134 h7 rfl ?_
    refine wp_istore_n (pc' := 45) (q := 3) (i := 3) (L' := [vR a0, vI a1, vI (I5 (R5 a0 7) 2), vI (I5 (R5 a0 7) 3), none, none, none]) rfl (by decide) rfl dX10_served_44 rfl rfl ?_
    refine wp_aload_n (pc' := 46) (q := 0) (i := 0) rfl rfl dX10_served_45 rfl ?_
    refine wp_getR (pc' := 49) (k := 7) dX10_served_46 vc9 (by decide) rfl lfX10_53 h3 rfl ?_
    refine wp_getI (pc' := 52) (k := 3) dX10_served_49 vc3 (by decide) rfl lfX10_134 h7 rfl ?_
    refine wp_istore (pc' := 54) (i := 4) (L' := [vR a0, vI a1, vI (I5 (R5 a0 7) 2), vI (I5 (R5 a0 7) 3), vI (I5 (R5 a0 7) 3), none, none]) (by decide) rfl dX10_served_52 rfl rfl ?_
    refine wp_aload_n (pc' := 55) (q := 0) (i := 0) rfl rfl dX10_served_54 rfl ?_
    refine wp_getR (pc' := 58) (k := 7) dX10_served_55 vc9 (by decide) rfl lfX10_53 h3 rfl ?_
    refine wp_getI (pc' := 61) (k := 2) dX10_served_58 vc3 (by decide) rfl lfX10_131 h7 rfl ?_
    obtain ⟨h8, h⟩ := h
    refine wp_if_le (pc' := 64) (tgt := 196) h8 dX10_served_61 rfl rfl (fun hc => ?_) (fun hc => ?_)
    · have h := h.1 hc
      exact h
    · have h := h.2 hc
      refine wp_aload_n (pc' := 65) (q := 0) (i := 0) rfl rfl dX10_served_64 rfl ?_
      refine wp_getR (pc' := 68) (k := 2) dX10_served_65 vc9 (by decide) rfl lfX10_26 h3 rfl ?_
      obtain ⟨h9, h⟩ := h
      refine wp_getI (pc' := 71) (k := 10) dX10_served_68 vc6 (by decide) rfl lfX10_143 h9 rfl ?_
      refine wp_aload_n (pc' := 72) (q := 0) (i := 0) rfl rfl dX10_served_71 rfl ?_
      refine wp_getR (pc' := 75) (k := 7) dX10_served_72 vc9 (by decide) rfl lfX10_53 h3 rfl ?_
      refine wp_getI (pc' := 78) (k := 4) dX10_served_75 vc3 (by decide) rfl lfX10_137 h7 rfl ?_
      obtain ⟨h10, h⟩ := h
      obtain ⟨h11, h⟩ := h
      refine wp_icmp_ge (pc' := 81) (tgt := 196) h10 h11 dX10_served_78 rfl rfl (fun hc => ?_) (fun hc => ?_)
      · have h := h.1 hc
        exact h
      · have h := h.2 hc
        refine wp_aload_n (pc' := 82) (q := 0) (i := 0) rfl rfl dX10_served_81 rfl ?_
        refine wp_getR (pc' := 85) (k := 7) dX10_served_82 vc9 (by decide) rfl lfX10_53 h3 rfl ?_
        refine wp_getR (pc' := 88) (k := 0) dX10_served_85 vc3 (by decide) rfl lfX10_146 h7 rfl ?_
        refine wp_aload_n (pc' := 89) (q := 0) (i := 0) rfl rfl dX10_served_88 rfl ?_
        refine wp_getR (pc' := 92) (k := 2) dX10_served_89 vc9 (by decide) rfl lfX10_26 h3 rfl ?_
        refine wp_getI (pc' := 95) (k := 10) dX10_served_92 vc6 (by decide) rfl lfX10_143 h9 rfl ?_
        obtain ⟨h13, h⟩ := h
        obtain ⟨Q12, hs12, h⟩ := h
        refine wp_callV (pc' := 98) (as := [vI (I5 (R5 a0 2) 10)]) (rest := []) hs12 dX10_served_95 rfl lkX10_149 okX2_ahead inX2_ahead seX2_ahead h13 vc2 ⟨Nat.le_of_ble_eq_true rfl, Nat.le_of_ble_eq_true rfl⟩ (Nat.le_of_ble_eq_true rfl) (Nat.le_refl _) (Nat.le_refl _) okP_eq okP_eq rfl (rvI rfl (fun x12 I12 R12 hq12 => ?_))
        have h := h x12 I12 R12 hq12
        refine wp_istore (pc' := 100) (i := 5) (L' := [vR a0, vI a1, vI (I5 (R5 a0 7) 2), vI (I5 (R5 a0 7) 3), vI (I5 (R5 a0 7) 3), vI x12, none]) (by decide) rfl dX10_served_98 rfl rfl ?_
        refine wp_aload_n (pc' := 101) (q := 0) (i := 0) rfl rfl dX10_served_100 rfl ?_
        refine wp_getR (pc' := 104) (k := 7) dX10_served_101 vc9 (by decide) rfl lfX10_53 h3 rfl ?_
        obtain ⟨h14, h⟩ := h
        refine wp_getR (pc' := 107) (k := 1) dX10_served_104 vc3 (by decide) rfl lfX10_155 h14 rfl ?_
        refine wp_aload_n (pc' := 108) (q := 0) (i := 0) rfl rfl dX10_served_107 rfl ?_
        refine wp_getR (pc' := 111) (k := 2) dX10_served_108 vc9 (by decide) rfl lfX10_26 h3 rfl ?_
        obtain ⟨h15, h⟩ := h
        refine wp_getI (pc' := 114) (k := 10) dX10_served_111 vc6 (by decide) rfl lfX10_143 h15 rfl ?_
        refine wp_aload_n (pc' := 115) (q := 0) (i := 0) rfl rfl dX10_served_114 rfl ?_
        refine wp_getR (pc' := 118) (k := 2) dX10_served_115 vc9 (by decide) rfl lfX10_26 h3 rfl ?_
        refine wp_getI (pc' := 121) (k := 9) dX10_served_118 vc6 (by decide) rfl lfX10_124 h15 rfl ?_
        refine wp_isub (pc' := 122) dX10_served_121 rfl ?_
        obtain ⟨h17, h⟩ := h
        obtain ⟨Q16, hs16, h⟩ := h
        refine wp_callV (pc' := 125) (as := [vI ((I12 (R12 a0 2) 10) - (I12 (R12 a0 2) 9))]) (rest := []) hs16 dX10_served_122 rfl lkX10_149 okX2_ahead inX2_ahead seX2_ahead h17 vc2 ⟨Nat.le_of_ble_eq_true rfl, Nat.le_of_ble_eq_true rfl⟩ (Nat.le_of_ble_eq_true rfl) (Nat.le_refl _) (Nat.le_refl _) okP_eq okP_eq rfl (rvI rfl (fun x16 I16 R16 hq16 => ?_))
        have h := h x16 I16 R16 hq16
        refine wp_istore (pc' := 127) (i := 6) (L' := [vR a0, vI a1, vI (I5 (R5 a0 7) 2), vI (I5 (R5 a0 7) 3), vI (I5 (R5 a0 7) 3), vI x12, vI x16]) (by decide) rfl dX10_served_125 rfl rfl ?_
        refine wp_iload (pc' := 129) (i := 5) rfl dX10_served_127 rfl ?_
        refine wp_iload (pc' := 131) (i := 6) rfl dX10_served_129 rfl ?_
        obtain ⟨h18, h⟩ := h
        obtain ⟨h19, h⟩ := h
        refine wp_mmin (pc' := 134) h18 h19 dX10_served_131 lkX10_157 ms_min iiMath mc_min ⟨Nat.le_of_ble_eq_true rfl, Nat.le_of_ble_eq_true rfl⟩ (Nat.le_refl _) rfl ?_
        refine wp_istore_n (pc' := 135) (q := 2) (i := 2) (L' := [vR a0, vI a1, vI (min x12 x16), vI (I5 (R5 a0 7) 3), vI (I5 (R5 a0 7) 3), vI x12, vI x16]) rfl (by decide) rfl dX10_served_134 rfl rfl ?_
        refine wp_aload_n (pc' := 136) (q := 0) (i := 0) rfl rfl dX10_served_135 rfl ?_
        refine wp_getR (pc' := 139) (k := 7) dX10_served_136 vc9 (by decide) rfl lfX10_53 h3 rfl ?_
        obtain ⟨h20, h⟩ := h
        refine wp_getR (pc' := 142) (k := 0) dX10_served_139 vc3 (by decide) rfl lfX10_146 h20 rfl ?_
        refine wp_iconst (pc' := 143) dX10_served_142 rfl ?_
        refine wp_iload_n (pc' := 144) (q := 2) (i := 2) rfl rfl dX10_served_143 rfl ?_
        obtain ⟨h22, h⟩ := h
        obtain ⟨Q21, hs21, h⟩ := h
        refine wp_callV (pc' := 147) (as := [vI 0, vI (min x12 x16)]) (rest := []) hs21 dX10_served_144 rfl lkX10_163 okX2_sum inX2_sum seX2_sum h22 vc2 ⟨Nat.le_of_ble_eq_true rfl, Nat.le_of_ble_eq_true rfl⟩ (Nat.le_of_ble_eq_true rfl) (Nat.le_refl _) (Nat.le_refl _) okP_eq okP_eq rfl (rvI rfl (fun x21 I21 R21 hq21 => ?_))
        have h := h x21 I21 R21 hq21
        refine wp_aload_n (pc' := 148) (q := 0) (i := 0) rfl rfl dX10_served_147 rfl ?_
        refine wp_getR (pc' := 151) (k := 7) dX10_served_148 vc9 (by decide) rfl lfX10_53 h3 rfl ?_
        obtain ⟨h23, h⟩ := h
        refine wp_getR (pc' := 154) (k := 1) dX10_served_151 vc3 (by decide) rfl lfX10_155 h23 rfl ?_
        refine wp_iconst (pc' := 155) dX10_served_154 rfl ?_
        refine wp_iload_n (pc' := 156) (q := 2) (i := 2) rfl rfl dX10_served_155 rfl ?_
        obtain ⟨h25, h⟩ := h
        obtain ⟨Q24, hs24, h⟩ := h
        refine wp_callV (pc' := 159) (as := [vI 0, vI (min x12 x16)]) (rest := [vI x21]) hs24 dX10_served_156 rfl lkX10_163 okX2_sum inX2_sum seX2_sum h25 vc2 ⟨Nat.le_of_ble_eq_true rfl, Nat.le_of_ble_eq_true rfl⟩ (Nat.le_of_ble_eq_true rfl) (Nat.le_refl _) (Nat.le_refl _) okP_eq okP_eq rfl (rvI rfl (fun x24 I24 R24 hq24 => ?_))
        have h := h x24 I24 R24 hq24
        refine wp_isub (pc' := 160) dX10_served_159 rfl ?_
        refine wp_istore_n (pc' := 161) (q := 3) (i := 3) (L' := [vR a0, vI a1, vI (min x12 x16), vI (x21 - x24), vI (I5 (R5 a0 7) 3), vI x12, vI x16]) rfl (by decide) rfl dX10_served_160 rfl rfl ?_
        refine wp_aload_n (pc' := 162) (q := 0) (i := 0) rfl rfl dX10_served_161 rfl ?_
        refine wp_getR (pc' := 165) (k := 7) dX10_served_162 vc9 (by decide) rfl lfX10_53 h3 rfl ?_
        obtain ⟨h26, h⟩ := h
        refine wp_getR (pc' := 168) (k := 0) dX10_served_165 vc3 (by decide) rfl lfX10_146 h26 rfl ?_
        refine wp_iload (pc' := 170) (i := 5) rfl dX10_served_168 rfl ?_
        refine wp_iload_n (pc' := 171) (q := 2) (i := 2) rfl rfl dX10_served_170 rfl ?_
        refine wp_isub (pc' := 172) dX10_served_171 rfl ?_
        refine wp_iload (pc' := 174) (i := 5) rfl dX10_served_172 rfl ?_
        obtain ⟨h28, h⟩ := h
        obtain ⟨Q27, hs27, h⟩ := h
        refine wp_callV (pc' := 177) (as := [vI (x12 - (min x12 x16)), vI x12]) (rest := []) hs27 dX10_served_174 rfl lkX10_163 okX2_sum inX2_sum seX2_sum h28 vc2 ⟨Nat.le_of_ble_eq_true rfl, Nat.le_of_ble_eq_true rfl⟩ (Nat.le_of_ble_eq_true rfl) (Nat.le_refl _) (Nat.le_refl _) okP_eq okP_eq rfl (rvI rfl (fun x27 I27 R27 hq27 => ?_))
        have h := h x27 I27 R27 hq27
        refine wp_aload_n (pc' := 178) (q := 0) (i := 0) rfl rfl dX10_served_177 rfl ?_
        refine wp_getR (pc' := 181) (k := 7) dX10_served_178 vc9 (by decide) rfl lfX10_53 h3 rfl ?_
        obtain ⟨h29, h⟩ := h
        refine wp_getR (pc' := 184) (k := 1) dX10_served_181 vc3 (by decide) rfl lfX10_155 h29 rfl ?_
        refine wp_iload (pc' := 186) (i := 6) rfl dX10_served_184 rfl ?_
        refine wp_iload_n (pc' := 187) (q := 2) (i := 2) rfl rfl dX10_served_186 rfl ?_
        refine wp_isub (pc' := 188) dX10_served_187 rfl ?_
        refine wp_iload (pc' := 190) (i := 6) rfl dX10_served_188 rfl ?_
        obtain ⟨h31, h⟩ := h
        obtain ⟨Q30, hs30, h⟩ := h
        refine wp_callV (pc' := 193) (as := [vI (x16 - (min x12 x16)), vI x16]) (rest := [vI x27]) hs30 dX10_served_190 rfl lkX10_163 okX2_sum inX2_sum seX2_sum h31 vc2 ⟨Nat.le_of_ble_eq_true rfl, Nat.le_of_ble_eq_true rfl⟩ (Nat.le_of_ble_eq_true rfl) (Nat.le_refl _) (Nat.le_refl _) okP_eq okP_eq rfl (rvI rfl (fun x30 I30 R30 hq30 => ?_))
        have h := h x30 I30 R30 hq30
        refine wp_isub (pc' := 194) dX10_served_193 rfl ?_
        refine wp_istore (pc' := 196) (i := 4) (L' := [vR a0, vI a1, vI (min x12 x16), vI (x21 - x24), vI (x27 - x30), vI x12, vI x16]) (by decide) rfl dX10_served_194 rfl rfl ?_
        exact wp_dropP (leP_s (leP_s (leP_s (leP_s (leP_s (leP_d (leP_d leP_n))))))) h
  · have h := h.2 hc
    refine wp_iconst (pc' := 10) dX10_served_9 rfl ?_
    exact wp_ireturn dX10_served_10 rfl rfl h

set_option maxRecDepth 4000 in
theorem gX10_served_196 {Q : QT} {I : II} {R : RR} {N : Nat} {a0 : Nat} {a1 : Int} {a2 : Int} {a3 : Int} {a4 : Int}
    (h : (InI a1) ∧
      ((¬ a1 = 0 →
      ((¬ a1 = (1 : Int) →
      ((¬ a1 = (2 : Int) →
      (isO N a0 9) ∧
      (isO N (R a0 7) 3) ∧
      Q (vI ((I (R a0 7) 3) - a4)) I R) ∧ (a1 = (2 : Int) →
      Q (vI a4) I R))) ∧ (a1 = (1 : Int) →
      Q (vI a3) I R))) ∧ (a1 = 0 →
      Q (vI a2) I R))) : wp (kN N) mX10_served Q 196 [vR a0, vI a1, vI a2, vI a3, vI a4, none, none] [] I R N := by
  refine wp_iload_n (pc' := 197) (q := 1) (i := 1) rfl rfl dX10_served_196 rfl ?_
  obtain ⟨h1, h⟩ := h
  refine wp_if_ne (pc' := 200) (tgt := 202) h1 dX10_served_197 rfl rfl (fun hc => ?_) (fun hc => ?_)
  · have h := h.1 hc
    refine wp_iload_n (pc' := 203) (q := 1) (i := 1) rfl rfl dX10_served_202 rfl ?_
    refine wp_iconst (pc' := 204) dX10_served_203 rfl ?_
    refine wp_icmp_ne (pc' := 207) (tgt := 209) h1 ⟨by decide, by decide⟩ dX10_served_204 rfl rfl (fun hc => ?_) (fun hc => ?_)
    · have h := h.1 hc
      refine wp_iload_n (pc' := 210) (q := 1) (i := 1) rfl rfl dX10_served_209 rfl ?_
      refine wp_iconst (pc' := 211) dX10_served_210 rfl ?_
      refine wp_icmp_ne (pc' := 214) (tgt := 219) h1 ⟨by decide, by decide⟩ dX10_served_211 rfl rfl (fun hc => ?_) (fun hc => ?_)
      · have h := h.1 hc
        refine wp_aload_n (pc' := 220) (q := 0) (i := 0) rfl rfl dX10_served_219 rfl ?_
        obtain ⟨h2, h⟩ := h
        refine wp_getR (pc' := 223) (k := 7) dX10_served_220 vc9 (by decide) rfl lfX10_53 h2 rfl ?_
        obtain ⟨h3, h⟩ := h
        refine wp_getI (pc' := 226) (k := 3) dX10_served_223 vc3 (by decide) rfl lfX10_134 h3 rfl ?_
        refine wp_iload (pc' := 228) (i := 4) rfl dX10_served_226 rfl ?_
        refine wp_isub (pc' := 229) dX10_served_228 rfl ?_
        exact wp_ireturn dX10_served_229 rfl rfl h
      · have h := h.2 hc
        refine wp_iload (pc' := 216) (i := 4) rfl dX10_served_214 rfl ?_
        refine wp_goto (tgt := 229) dX10_served_216 rfl ?_
        exact wp_ireturn dX10_served_229 rfl rfl h
    · have h := h.2 hc
      refine wp_iload_n (pc' := 208) (q := 3) (i := 3) rfl rfl dX10_served_207 rfl ?_
      exact wp_ireturn dX10_served_208 rfl rfl h
  · have h := h.2 hc
    refine wp_iload_n (pc' := 201) (q := 2) (i := 2) rfl rfl dX10_served_200 rfl ?_
    exact wp_ireturn dX10_served_201 rfl rfl h

theorem sX10_pairs {Q : QT} {I : II} {R : RR} {N : Nat} {a0 : Nat} {a1 : Int} (hN : N < 1000) (h : wp (kN N) mX10_pairs Q 0 [vR a0, vI a1, none, none, none, none] [] I R N) : Spec mX10_pairs [vR a0, vI a1] I R N N Q := Spec_of_wp pyX10_pairs rfl (Nat.le_of_ble_eq_true rfl) (Nat.le_refl _) hN h

set_option maxRecDepth 4000 in
theorem gX10_pairs_0 {Q : QT} {I : II} {R : RR} {N : Nat} {a0 : Nat} {a1 : Int}
    (h : (∃ Q1 : QT, Spec mX10_within [vI a1, vI 0, vI 1] I R N N Q1 ∧ (∀ x1 I1 R1, (x1 = 0 ∨ x1 = 1) → Q1 (vI x1) I1 R1 →
      (InI x1) ∧
      ((¬ x1 = 0 →
      (isO N a0 9) ∧
      (∃ Q3 : QT, Spec mX10_gainOfAllMeetings [vR a0] I1 R1 N N Q3 ∧ (∀ x3 I3 R3, Q3 (vI x3) I3 R3 →
      (isO N (R3 a0 2) 6) ∧
      (InI (I3 (R3 a0 2) 6)) ∧
      (InI (I3 (R3 a0 2) 7)) ∧
      wp (kN N) mX10_pairs Q 42 [none, vI a1, vI x3, vI (max (I3 (R3 a0 2) 6) (I3 (R3 a0 2) 7)), vI 1, vI 2] [] I3 R3 N))) ∧ (x1 = 0 →
      Q (vL (-1)) I1 R1))))) : wp (kN N) mX10_pairs Q 0 [vR a0, vI a1, none, none, none, none] [] I R N := by
  refine wp_iload_n (pc' := 1) (q := 1) (i := 1) rfl rfl dX10_pairs_0 rfl ?_
  refine wp_iconst (pc' := 2) dX10_pairs_1 rfl ?_
  refine wp_iconst (pc' := 3) dX10_pairs_2 rfl ?_
  obtain ⟨Q1, hs1, h⟩ := h
  refine wp_callS (pc' := 6) (as := [vI a1, vI 0, vI 1]) (rest := []) hs1 dX10_pairs_3 rfl lkX10_84 okX10_within stX10_within ⟨Nat.le_of_ble_eq_true rfl, Nat.le_of_ble_eq_true rfl⟩ (Nat.le_of_ble_eq_true rfl) (Nat.le_refl _) (Nat.le_refl _) okP_eq okP_eq rfl (rvZ rfl (fun x1 I1 R1 hz1 hq1 => ?_))
  have h := h x1 I1 R1 hz1 hq1
  obtain ⟨h2, h⟩ := h
  refine wp_if_ne (pc' := 9) (tgt := 13) h2 dX10_pairs_6 rfl rfl (fun hc => ?_) (fun hc => ?_)
  · have h := h.1 hc
    refine wp_aload_n (pc' := 14) (q := 0) (i := 0) rfl rfl dX10_pairs_13 rfl ?_
    obtain ⟨h4, h⟩ := h
    obtain ⟨Q3, hs3, h⟩ := h
    refine wp_callV (pc' := 17) (as := []) (rest := []) hs3 dX10_pairs_14 rfl lkX10_168 okX10_gainOfAllMeetings inX10_gainOfAllMeetings seX10_gainOfAllMeetings h4 vc9 ⟨Nat.le_of_ble_eq_true rfl, Nat.le_of_ble_eq_true rfl⟩ (Nat.le_of_ble_eq_true rfl) (Nat.le_refl _) (Nat.le_refl _) okP_eq okP_eq rfl (rvI rfl (fun x3 I3 R3 hq3 => ?_))
    have h := h x3 I3 R3 hq3
    refine wp_istore_n (pc' := 18) (q := 2) (i := 2) (L' := [vR a0, vI a1, vI x3, none, none, none]) rfl (by decide) rfl dX10_pairs_17 rfl rfl ?_
    refine wp_aload_n (pc' := 19) (q := 0) (i := 0) rfl rfl dX10_pairs_18 rfl ?_
    refine wp_getR (pc' := 22) (k := 2) dX10_pairs_19 vc9 (by decide) rfl lfX10_26 h4 rfl ?_
    obtain ⟨h5, h⟩ := h
    refine wp_getI (pc' := 25) (k := 6) dX10_pairs_22 vc6 (by decide) rfl lfX10_99 h5 rfl ?_
    refine wp_aload_n (pc' := 26) (q := 0) (i := 0) rfl rfl dX10_pairs_25 rfl ?_
    refine wp_getR (pc' := 29) (k := 2) dX10_pairs_26 vc9 (by decide) rfl lfX10_26 h4 rfl ?_
    refine wp_getI (pc' := 32) (k := 7) dX10_pairs_29 vc6 (by decide) rfl lfX10_102 h5 rfl ?_
    obtain ⟨h6, h⟩ := h
    obtain ⟨h7, h⟩ := h
    refine wp_mmax (pc' := 35) h6 h7 dX10_pairs_32 lkX10_172 ms_max iiMath mc_max ⟨Nat.le_of_ble_eq_true rfl, Nat.le_of_ble_eq_true rfl⟩ (Nat.le_refl _) rfl ?_
    refine wp_istore_n (pc' := 36) (q := 3) (i := 3) (L' := [vR a0, vI a1, vI x3, vI (max (I3 (R3 a0 2) 6) (I3 (R3 a0 2) 7)), none, none]) rfl (by decide) rfl dX10_pairs_35 rfl rfl ?_
    refine wp_iconst (pc' := 37) dX10_pairs_36 rfl ?_
    refine wp_istore (pc' := 39) (i := 4) (L' := [vR a0, vI a1, vI x3, vI (max (I3 (R3 a0 2) 6) (I3 (R3 a0 2) 7)), vI 1, none]) (by decide) rfl dX10_pairs_37 rfl rfl ?_
    refine wp_iconst (pc' := 40) dX10_pairs_39 rfl ?_
    refine wp_istore (pc' := 42) (i := 5) (L' := [vR a0, vI a1, vI x3, vI (max (I3 (R3 a0 2) 6) (I3 (R3 a0 2) 7)), vI 1, vI 2]) (by decide) rfl dX10_pairs_40 rfl rfl ?_
    exact wp_dropP (leP_d (leP_s (leP_s (leP_s (leP_s (leP_s leP_n)))))) h
  · have h := h.2 hc
    refine wp_ldc2 (pc' := 12) (x := (-1)) lcX10_166 (by decide +kernel) dX10_pairs_9 rfl ?_
    exact wp_lreturn dX10_pairs_12 rfl rfl h

set_option maxRecDepth 4000 in
theorem gX10_pairs_42 {Q : QT} {I : II} {R : RR} {N : Nat} {a1 : Int} {a2 : Int} {a3 : Int} {a4 : Int} {a5 : Int}
    (h : (InI a5) ∧
      (InI a3) ∧
      ((a3 < a5 →
      (InI a1) ∧
      ((¬ a1 = 0 →
      (0 ≤ a3 ∧ a3 ≤ 2147483647 ∧ 0 < a4 ∧ a4 ≤ 2147483647) ∧
      (InI (a3 / a4)) ∧
      Q (vL (a3 / a4)) I R) ∧ (a1 = 0 →
      (0 ≤ a2 ∧ a2 ≤ 2147483647 ∧ 0 < a4 ∧ a4 ≤ 2147483647) ∧
      (InI (a2 / a4)) ∧
      Q (vL (a2 / a4)) I R))) ∧ (¬ (a3 < a5) →
      (0 ≤ a2 ∧ a2 ≤ 2147483647 ∧ 0 < a5 ∧ a5 ≤ 2147483647) ∧
      (InI (a2 % a5)) ∧
      ((¬ (a2 % a5) = 0 →
      wp (kN N) mX10_pairs Q 66 [none, vI a1, vI a2, vI a3, vI a4, vI a5] [] I R N) ∧ ((a2 % a5) = 0 →
      (0 ≤ a3 ∧ a3 ≤ 2147483647 ∧ 0 < a5 ∧ a5 ≤ 2147483647) ∧
      (InI (a3 % a5)) ∧
      ((¬ (a3 % a5) = 0 →
      wp (kN N) mX10_pairs Q 66 [none, vI a1, vI a2, vI a3, vI a4, vI a5] [] I R N) ∧ ((a3 % a5) = 0 →
      wp (kN N) mX10_pairs Q 66 [none, vI a1, vI a2, vI a3, vI a5, vI a5] [] I R N))))))) : wp (kN N) mX10_pairs Q 42 [none, vI a1, vI a2, vI a3, vI a4, vI a5] [] I R N := by
  refine wp_iload (pc' := 44) (i := 5) rfl dX10_pairs_42 rfl ?_
  refine wp_iload_n (pc' := 45) (q := 3) (i := 3) rfl rfl dX10_pairs_44 rfl ?_
  obtain ⟨h1, h⟩ := h
  obtain ⟨h2, h⟩ := h
  refine wp_icmp_gt (pc' := 48) (tgt := 72) h1 h2 dX10_pairs_45 rfl rfl (fun hc => ?_) (fun hc => ?_)
  · have h := h.1 hc
    refine wp_iload_n (pc' := 73) (q := 1) (i := 1) rfl rfl dX10_pairs_72 rfl ?_
    obtain ⟨h3, h⟩ := h
    refine wp_if_ne (pc' := 76) (tgt := 84) h3 dX10_pairs_73 rfl rfl (fun hc => ?_) (fun hc => ?_)
    · have h := h.1 hc
      refine wp_iload_n (pc' := 85) (q := 3) (i := 3) rfl rfl dX10_pairs_84 rfl ?_
      refine wp_iload (pc' := 87) (i := 4) rfl dX10_pairs_85 rfl ?_
      obtain ⟨h4, h⟩ := h
      refine wp_idiv (pc' := 88) h4 dX10_pairs_87 rfl ?_
      obtain ⟨h5, h⟩ := h
      refine wp_i2l (pc' := 89) h5 dX10_pairs_88 rfl ?_
      exact wp_lreturn dX10_pairs_89 rfl rfl h
    · have h := h.2 hc
      refine wp_iload_n (pc' := 77) (q := 2) (i := 2) rfl rfl dX10_pairs_76 rfl ?_
      refine wp_iload (pc' := 79) (i := 4) rfl dX10_pairs_77 rfl ?_
      obtain ⟨h6, h⟩ := h
      refine wp_idiv (pc' := 80) h6 dX10_pairs_79 rfl ?_
      obtain ⟨h7, h⟩ := h
      refine wp_i2l (pc' := 81) h7 dX10_pairs_80 rfl ?_
      refine wp_goto (tgt := 89) dX10_pairs_81 rfl ?_
      exact wp_lreturn dX10_pairs_89 rfl rfl h
  · have h := h.2 hc
    refine wp_iload_n (pc' := 49) (q := 2) (i := 2) rfl rfl dX10_pairs_48 rfl ?_
    refine wp_iload (pc' := 51) (i := 5) rfl dX10_pairs_49 rfl ?_
    obtain ⟨h8, h⟩ := h
    refine wp_irem (pc' := 52) h8 dX10_pairs_51 rfl ?_
    obtain ⟨h9, h⟩ := h
    refine wp_if_ne (pc' := 55) (tgt := 66) h9 dX10_pairs_52 rfl rfl (fun hc => ?_) (fun hc => ?_)
    · have h := h.1 hc
      exact h
    · have h := h.2 hc
      refine wp_iload_n (pc' := 56) (q := 3) (i := 3) rfl rfl dX10_pairs_55 rfl ?_
      refine wp_iload (pc' := 58) (i := 5) rfl dX10_pairs_56 rfl ?_
      obtain ⟨h10, h⟩ := h
      refine wp_irem (pc' := 59) h10 dX10_pairs_58 rfl ?_
      obtain ⟨h11, h⟩ := h
      refine wp_if_ne (pc' := 62) (tgt := 66) h11 dX10_pairs_59 rfl rfl (fun hc => ?_) (fun hc => ?_)
      · have h := h.1 hc
        exact h
      · have h := h.2 hc
        refine wp_iload (pc' := 64) (i := 5) rfl dX10_pairs_62 rfl ?_
        refine wp_istore (pc' := 66) (i := 4) (L' := [none, vI a1, vI a2, vI a3, vI a5, vI a5]) (by decide) rfl dX10_pairs_64 rfl rfl ?_
        exact h

set_option maxRecDepth 4000 in
theorem gX10_pairs_66 {Q : QT} {I : II} {R : RR} {N : Nat} {a1 : Int} {a2 : Int} {a3 : Int} {a4 : Int} {a5 : Int}
    (h : wp (kN N) mX10_pairs Q 42 [none, vI a1, vI a2, vI a3, vI a4, vI (a5 + 1)] [] I R N) : wp (kN N) mX10_pairs Q 66 [none, vI a1, vI a2, vI a3, vI a4, vI a5] [] I R N := by
  refine wp_iinc (pc' := 69) (i := 5) (L' := [none, vI a1, vI a2, vI a3, vI a4, vI (a5 + 1)]) rfl (by decide) rfl dX10_pairs_66 rfl rfl ?_
  refine wp_goto (tgt := 42) dX10_pairs_69 rfl ?_
  exact h

theorem sX10_bell {Q : QT} {I : II} {R : RR} {N : Nat} {a0 : Nat} {a1 : Int} {a2 : Int} (hN : N < 1000) (h : wp (kN N) mX10_bell Q 0 [vR a0, vI a1, vI a2] [] I R N) : Spec mX10_bell [vR a0, vI a1, vI a2] I R N N Q := Spec_of_wp pyX10_bell rfl (Nat.le_of_ble_eq_true rfl) (Nat.le_refl _) hN h

set_option maxRecDepth 4000 in
theorem gX10_bell_0 {Q : QT} {I : II} {R : RR} {N : Nat} {a0 : Nat} {a1 : Int} {a2 : Int}
    (h : (isO N a0 9) ∧
      (isO N (R a0 2) 6) ∧
      (∃ Q2 : QT, Spec mX6_has [vR (R a0 2), vI a1] I R N N Q2 ∧ (∀ x2 I2 R2, (x2 = 0 ∨ x2 = 1) → Q2 (vI x2) I2 R2 →
      (InI x2) ∧
      ((x2 = 0 →
      wp (kN N) mX10_bell Q 21 [none, none, none] [] I2 R2 N) ∧ (¬ (x2 = 0) →
      (∃ Q5 : QT, Spec mX10_within [vI a2, vI 0, vI 99] I2 R2 N N Q5 ∧ (∀ x5 I5 R5, (x5 = 0 ∨ x5 = 1) → Q5 (vI x5) I5 R5 →
      (InI x5) ∧
      ((¬ x5 = 0 →
      (∃ Q7 : QT, Spec mX10_gainOfTelling [vR a0, vI a1, vI a2] I5 R5 N N Q7 ∧ (∀ x7 I7 R7, Q7 (vI x7) I7 R7 →
      Q (vI x7) I7 R7))) ∧ (x5 = 0 →
      wp (kN N) mX10_bell Q 21 [none, none, none] [] I5 R5 N))))))))) : wp (kN N) mX10_bell Q 0 [vR a0, vI a1, vI a2] [] I R N := by
  refine wp_aload_n (pc' := 1) (q := 0) (i := 0) rfl rfl dX10_bell_0 rfl ?_
  obtain ⟨h1, h⟩ := h
  refine wp_getR (pc' := 4) (k := 2) dX10_bell_1 vc9 (by decide) rfl lfX10_26 h1 rfl ?_
  refine wp_iload_n (pc' := 5) (q := 1) (i := 1) rfl rfl dX10_bell_4 rfl ?_
  obtain ⟨h3, h⟩ := h
  obtain ⟨Q2, hs2, h⟩ := h
  refine wp_callV (pc' := 8) (as := [vI a1]) (rest := []) hs2 dX10_bell_5 rfl lkX10_109 okX6_has inX6_has seX6_has h3 vc6 ⟨Nat.le_of_ble_eq_true rfl, Nat.le_of_ble_eq_true rfl⟩ (Nat.le_of_ble_eq_true rfl) (Nat.le_refl _) (Nat.le_refl _) okP_eq okP_eq rfl (rvZ rfl (fun x2 I2 R2 hz2 hq2 => ?_))
  have h := h x2 I2 R2 hz2 hq2
  obtain ⟨h4, h⟩ := h
  refine wp_if_eq (pc' := 11) (tgt := 21) h4 dX10_bell_8 rfl rfl (fun hc => ?_) (fun hc => ?_)
  · have h := h.1 hc
    exact wp_dropP (leP_d (leP_d (leP_d leP_n))) h
  · have h := h.2 hc
    refine wp_iload_n (pc' := 12) (q := 2) (i := 2) rfl rfl dX10_bell_11 rfl ?_
    refine wp_iconst (pc' := 13) dX10_bell_12 rfl ?_
    refine wp_bipush (pc' := 15) (by decide) dX10_bell_13 rfl ?_
    obtain ⟨Q5, hs5, h⟩ := h
    refine wp_callS (pc' := 18) (as := [vI a2, vI 0, vI 99]) (rest := []) hs5 dX10_bell_15 rfl lkX10_84 okX10_within stX10_within ⟨Nat.le_of_ble_eq_true rfl, Nat.le_of_ble_eq_true rfl⟩ (Nat.le_of_ble_eq_true rfl) (Nat.le_refl _) (Nat.le_refl _) okP_eq okP_eq rfl (rvZ rfl (fun x5 I5 R5 hz5 hq5 => ?_))
    have h := h x5 I5 R5 hz5 hq5
    obtain ⟨h6, h⟩ := h
    refine wp_if_ne (pc' := 21) (tgt := 25) h6 dX10_bell_18 rfl rfl (fun hc => ?_) (fun hc => ?_)
    · have h := h.1 hc
      refine wp_aload_n (pc' := 26) (q := 0) (i := 0) rfl rfl dX10_bell_25 rfl ?_
      refine wp_iload_n (pc' := 27) (q := 1) (i := 1) rfl rfl dX10_bell_26 rfl ?_
      refine wp_iload_n (pc' := 28) (q := 2) (i := 2) rfl rfl dX10_bell_27 rfl ?_
      obtain ⟨Q7, hs7, h⟩ := h
      refine wp_callV (pc' := 31) (as := [vI a1, vI a2]) (rest := []) hs7 dX10_bell_28 rfl lkX10_175 okX10_gainOfTelling inX10_gainOfTelling seX10_gainOfTelling h1 vc9 ⟨Nat.le_of_ble_eq_true rfl, Nat.le_of_ble_eq_true rfl⟩ (Nat.le_of_ble_eq_true rfl) (Nat.le_refl _) (Nat.le_refl _) okP_eq okP_eq rfl (rvI rfl (fun x7 I7 R7 hq7 => ?_))
      have h := h x7 I7 R7 hq7
      exact wp_ireturn dX10_bell_31 rfl rfl h
    · have h := h.2 hc
      exact wp_dropP (leP_d (leP_d (leP_d leP_n))) h

set_option maxRecDepth 4000 in
theorem gX10_bell_21 {Q : QT} {I : II} {R : RR} {N : Nat} 
    (h : Q (vI (-1000)) I R) : wp (kN N) mX10_bell Q 21 [none, none, none] [] I R N := by
  refine wp_sipush (pc' := 24) (by decide) dX10_bell_21 rfl ?_
  exact wp_ireturn dX10_bell_24 rfl rfl h

theorem sX10_best {Q : QT} {I : II} {R : RR} {N : Nat} {a0 : Nat} {a1 : Int} {a2 : Int} (hN : N < 1000) (h : wp (kN N) mX10_best Q 0 [vR a0, vI a1, vI a2, none, none, none, none, none, none] [] I R N) : Spec mX10_best [vR a0, vI a1, vI a2] I R N N Q := Spec_of_wp pyX10_best rfl (Nat.le_of_ble_eq_true rfl) (Nat.le_refl _) hN h

set_option maxRecDepth 4000 in
theorem gX10_best_0 {Q : QT} {I : II} {R : RR} {N : Nat} {a0 : Nat} {a1 : Int} {a2 : Int}
    (h : (isO N a0 9) ∧
      (isO N (R a0 2) 6) ∧
      (∃ Q2 : QT, Spec mX6_has [vR (R a0 2), vI a1] I R N N Q2 ∧ (∀ x2 I2 R2, (x2 = 0 ∨ x2 = 1) → Q2 (vI x2) I2 R2 →
      (InI x2) ∧
      ((x2 = 0 →
      wp (kN N) mX10_best Q 20 [none, none, none, none, none, none, none, none, none] [] I2 R2 N) ∧ (¬ (x2 = 0) →
      (∃ Q5 : QT, Spec mX10_within [vI a2, vI 0, vI 1] I2 R2 N N Q5 ∧ (∀ x5 I5 R5, (x5 = 0 ∨ x5 = 1) → Q5 (vI x5) I5 R5 →
      (InI x5) ∧
      ((¬ x5 = 0 →
      (isO N (R5 a0 2) 6) ∧
      (isA N (R5 (R5 a0 2) 1) 1 20) ∧
      (0 ≤ a1 ∧ a1 < 20) ∧
      (∃ Q10 : QT, Spec mX10_gainOfTelling [vR a0, vI a1, vI (I5 (R5 (R5 a0 2) 1) a1.toNat)] I5 R5 N N Q10 ∧ (∀ x10 I10 R10, Q10 (vI x10) I10 R10 →
      wp (kN N) mX10_best Q 46 [vR a0, vI a1, vI a2, vI (I5 (R5 (R5 a0 2) 1) a1.toNat), vI (I5 (R5 (R5 a0 2) 1) a1.toNat), vI x10, vI 0, none, none] [] I10 R10 N))) ∧ (x5 = 0 →
      wp (kN N) mX10_best Q 20 [none, none, none, none, none, none, none, none, none] [] I5 R5 N))))))))) : wp (kN N) mX10_best Q 0 [vR a0, vI a1, vI a2, none, none, none, none, none, none] [] I R N := by
  refine wp_aload_n (pc' := 1) (q := 0) (i := 0) rfl rfl dX10_best_0 rfl ?_
  obtain ⟨h1, h⟩ := h
  refine wp_getR (pc' := 4) (k := 2) dX10_best_1 vc9 (by decide) rfl lfX10_26 h1 rfl ?_
  refine wp_iload_n (pc' := 5) (q := 1) (i := 1) rfl rfl dX10_best_4 rfl ?_
  obtain ⟨h3, h⟩ := h
  obtain ⟨Q2, hs2, h⟩ := h
  refine wp_callV (pc' := 8) (as := [vI a1]) (rest := []) hs2 dX10_best_5 rfl lkX10_109 okX6_has inX6_has seX6_has h3 vc6 ⟨Nat.le_of_ble_eq_true rfl, Nat.le_of_ble_eq_true rfl⟩ (Nat.le_of_ble_eq_true rfl) (Nat.le_refl _) (Nat.le_refl _) okP_eq okP_eq rfl (rvZ rfl (fun x2 I2 R2 hz2 hq2 => ?_))
  have h := h x2 I2 R2 hz2 hq2
  obtain ⟨h4, h⟩ := h
  refine wp_if_eq (pc' := 11) (tgt := 20) h4 dX10_best_8 rfl rfl (fun hc => ?_) (fun hc => ?_)
  · have h := h.1 hc
    exact wp_dropP (leP_d (leP_d (leP_d (leP_s (leP_s (leP_s (leP_s (leP_s (leP_s leP_n))))))))) h
  · have h := h.2 hc
    refine wp_iload_n (pc' := 12) (q := 2) (i := 2) rfl rfl dX10_best_11 rfl ?_
    refine wp_iconst (pc' := 13) dX10_best_12 rfl ?_
    refine wp_iconst (pc' := 14) dX10_best_13 rfl ?_
    obtain ⟨Q5, hs5, h⟩ := h
    refine wp_callS (pc' := 17) (as := [vI a2, vI 0, vI 1]) (rest := []) hs5 dX10_best_14 rfl lkX10_84 okX10_within stX10_within ⟨Nat.le_of_ble_eq_true rfl, Nat.le_of_ble_eq_true rfl⟩ (Nat.le_of_ble_eq_true rfl) (Nat.le_refl _) (Nat.le_refl _) okP_eq okP_eq rfl (rvZ rfl (fun x5 I5 R5 hz5 hq5 => ?_))
    have h := h x5 I5 R5 hz5 hq5
    obtain ⟨h6, h⟩ := h
    refine wp_if_ne (pc' := 20) (tgt := 22) h6 dX10_best_17 rfl rfl (fun hc => ?_) (fun hc => ?_)
    · have h := h.1 hc
      refine wp_aload_n (pc' := 23) (q := 0) (i := 0) rfl rfl dX10_best_22 rfl ?_
      refine wp_getR (pc' := 26) (k := 2) dX10_best_23 vc9 (by decide) rfl lfX10_26 h1 rfl ?_
      obtain ⟨h7, h⟩ := h
      refine wp_getR (pc' := 29) (k := 1) dX10_best_26 vc6 (by decide) rfl lfX10_117 h7 rfl ?_
      refine wp_iload_n (pc' := 30) (q := 1) (i := 1) rfl rfl dX10_best_29 rfl ?_
      obtain ⟨h8, h⟩ := h
      obtain ⟨h9, h⟩ := h
      refine wp_iald (pc' := 31) (j := a1.toNat) dX10_best_30 h8 h9 rfl rfl ?_
      refine wp_istore_n (pc' := 32) (q := 3) (i := 3) (L' := [vR a0, vI a1, vI a2, vI (I5 (R5 (R5 a0 2) 1) a1.toNat), none, none, none, none, none]) rfl (by decide) rfl dX10_best_31 rfl rfl ?_
      refine wp_iload_n (pc' := 33) (q := 3) (i := 3) rfl rfl dX10_best_32 rfl ?_
      refine wp_istore (pc' := 35) (i := 4) (L' := [vR a0, vI a1, vI a2, vI (I5 (R5 (R5 a0 2) 1) a1.toNat), vI (I5 (R5 (R5 a0 2) 1) a1.toNat), none, none, none, none]) (by decide) rfl dX10_best_33 rfl rfl ?_
      refine wp_aload_n (pc' := 36) (q := 0) (i := 0) rfl rfl dX10_best_35 rfl ?_
      refine wp_iload_n (pc' := 37) (q := 1) (i := 1) rfl rfl dX10_best_36 rfl ?_
      refine wp_iload_n (pc' := 38) (q := 3) (i := 3) rfl rfl dX10_best_37 rfl ?_
      obtain ⟨Q10, hs10, h⟩ := h
      refine wp_callV (pc' := 41) (as := [vI a1, vI (I5 (R5 (R5 a0 2) 1) a1.toNat)]) (rest := []) hs10 dX10_best_38 rfl lkX10_175 okX10_gainOfTelling inX10_gainOfTelling seX10_gainOfTelling h1 vc9 ⟨Nat.le_of_ble_eq_true rfl, Nat.le_of_ble_eq_true rfl⟩ (Nat.le_of_ble_eq_true rfl) (Nat.le_refl _) (Nat.le_refl _) okP_eq okP_eq rfl (rvI rfl (fun x10 I10 R10 hq10 => ?_))
      have h := h x10 I10 R10 hq10
      refine wp_istore (pc' := 43) (i := 5) (L' := [vR a0, vI a1, vI a2, vI (I5 (R5 (R5 a0 2) 1) a1.toNat), vI (I5 (R5 (R5 a0 2) 1) a1.toNat), vI x10, none, none, none]) (by decide) rfl dX10_best_41 rfl rfl ?_
      refine wp_iconst (pc' := 44) dX10_best_43 rfl ?_
      refine wp_istore (pc' := 46) (i := 6) (L' := [vR a0, vI a1, vI a2, vI (I5 (R5 (R5 a0 2) 1) a1.toNat), vI (I5 (R5 (R5 a0 2) 1) a1.toNat), vI x10, vI 0, none, none]) (by decide) rfl dX10_best_44 rfl rfl ?_
      exact h
    · have h := h.2 hc
      exact wp_dropP (leP_d (leP_d (leP_d (leP_s (leP_s (leP_s (leP_s (leP_s (leP_s leP_n))))))))) h

set_option maxRecDepth 4000 in
theorem gX10_best_20 {Q : QT} {I : II} {R : RR} {N : Nat} 
    (h : Q (vI (-1)) I R) : wp (kN N) mX10_best Q 20 [none, none, none, none, none, none, none, none, none] [] I R N := by
  refine wp_iconst (pc' := 21) dX10_best_20 rfl ?_
  exact wp_ireturn dX10_best_21 rfl rfl h

set_option maxRecDepth 4000 in
theorem gX10_best_46 {Q : QT} {I : II} {R : RR} {N : Nat} {a0 : Nat} {a1 : Int} {a2 : Int} {a3 : Int} {a4 : Int} {a5 : Int} {a6 : Int}
    (h : (InI a6) ∧
      (((99 : Int) < a6 →
      (InI a2) ∧
      ((¬ a2 = 0 →
      Q (vI a5) I R) ∧ (a2 = 0 →
      Q (vI a4) I R))) ∧ (¬ (99 : Int) < a6 →
      (isO N a0 9) ∧
      (∃ Q3 : QT, Spec mX10_gainOfTelling [vR a0, vI a1, vI a6] I R N N Q3 ∧ (∀ x3 I3 R3, Q3 (vI x3) I3 R3 →
      (InI (a6 - a3)) ∧
      (InI (a4 - a3)) ∧
      (InI ((((a6 - a3)).natAbs : Nat) : Int)) ∧
      (InI ((((a4 - a3)).natAbs : Nat) : Int)) ∧
      ((((((a4 - a3)).natAbs : Nat) : Int) ≤ ((((a6 - a3)).natAbs : Nat) : Int) →
      (InI x3) ∧
      (InI a5) ∧
      ((a5 < x3 →
      wp (kN N) mX10_best Q 105 [vR a0, vI a1, vI a2, vI a3, none, none, vI a6, vI x3, none] [] I3 R3 N) ∧ (¬ (a5 < x3) →
      ((¬ x3 = a5 →
      wp (kN N) mX10_best Q 113 [vR a0, vI a1, vI a2, vI a3, vI a4, vI a5, vI a6, none, none] [] I3 R3 N) ∧ (x3 = a5 →
      wp (kN N) mX10_best Q 113 [vR a0, vI a1, vI a2, vI a3, vI a4, vI a5, vI a6, none, none] [] I3 R3 N))))) ∧ (¬ ((((a4 - a3)).natAbs : Nat) : Int) ≤ ((((a6 - a3)).natAbs : Nat) : Int) →
      (InI x3) ∧
      (InI a5) ∧
      ((a5 < x3 →
      wp (kN N) mX10_best Q 105 [vR a0, vI a1, vI a2, vI a3, none, none, vI a6, vI x3, none] [] I3 R3 N) ∧ (¬ (a5 < x3) →
      ((¬ x3 = a5 →
      wp (kN N) mX10_best Q 113 [vR a0, vI a1, vI a2, vI a3, vI a4, vI a5, vI a6, none, none] [] I3 R3 N) ∧ (x3 = a5 →
      wp (kN N) mX10_best Q 105 [vR a0, vI a1, vI a2, vI a3, none, none, vI a6, vI x3, none] [] I3 R3 N))))))))))) : wp (kN N) mX10_best Q 46 [vR a0, vI a1, vI a2, vI a3, vI a4, vI a5, vI a6, none, none] [] I R N := by
  refine wp_iload (pc' := 48) (i := 6) rfl dX10_best_46 rfl ?_
  refine wp_bipush (pc' := 50) (by decide) dX10_best_48 rfl ?_
  obtain ⟨h1, h⟩ := h
  refine wp_icmp_gt (pc' := 53) (tgt := 119) h1 ⟨by decide, by decide⟩ dX10_best_50 rfl rfl (fun hc => ?_) (fun hc => ?_)
  · have h := h.1 hc
    refine wp_iload_n (pc' := 120) (q := 2) (i := 2) rfl rfl dX10_best_119 rfl ?_
    obtain ⟨h2, h⟩ := h
    refine wp_if_ne (pc' := 123) (tgt := 128) h2 dX10_best_120 rfl rfl (fun hc => ?_) (fun hc => ?_)
    · have h := h.1 hc
      refine wp_iload (pc' := 130) (i := 5) rfl dX10_best_128 rfl ?_
      exact wp_ireturn dX10_best_130 rfl rfl h
    · have h := h.2 hc
      refine wp_iload (pc' := 125) (i := 4) rfl dX10_best_123 rfl ?_
      refine wp_goto (tgt := 130) dX10_best_125 rfl ?_
      exact wp_ireturn dX10_best_130 rfl rfl h
  · have h := h.2 hc
    refine wp_aload_n (pc' := 54) (q := 0) (i := 0) rfl rfl dX10_best_53 rfl ?_
    refine wp_iload_n (pc' := 55) (q := 1) (i := 1) rfl rfl dX10_best_54 rfl ?_
    refine wp_iload (pc' := 57) (i := 6) rfl dX10_best_55 rfl ?_
    obtain ⟨h4, h⟩ := h
    obtain ⟨Q3, hs3, h⟩ := h
    refine wp_callV (pc' := 60) (as := [vI a1, vI a6]) (rest := []) hs3 dX10_best_57 rfl lkX10_175 okX10_gainOfTelling inX10_gainOfTelling seX10_gainOfTelling h4 vc9 ⟨Nat.le_of_ble_eq_true rfl, Nat.le_of_ble_eq_true rfl⟩ (Nat.le_of_ble_eq_true rfl) (Nat.le_refl _) (Nat.le_refl _) okP_eq okP_eq rfl (rvI rfl (fun x3 I3 R3 hq3 => ?_))
    have h := h x3 I3 R3 hq3
    refine wp_istore (pc' := 62) (i := 7) (L' := [vR a0, vI a1, vI a2, vI a3, vI a4, vI a5, vI a6, vI x3, none]) (by decide) rfl dX10_best_60 rfl rfl ?_
    refine wp_iload (pc' := 64) (i := 6) rfl dX10_best_62 rfl ?_
    refine wp_iload_n (pc' := 65) (q := 3) (i := 3) rfl rfl dX10_best_64 rfl ?_
    refine wp_isub (pc' := 66) dX10_best_65 rfl ?_
    obtain ⟨h5, h⟩ := h
    refine wp_mabs (pc' := 69) h5 dX10_best_66 lkX10_178 ms_abs iiMath mc_abs ⟨Nat.le_of_ble_eq_true rfl, Nat.le_of_ble_eq_true rfl⟩ (Nat.le_refl _) rfl ?_
    refine wp_iload (pc' := 71) (i := 4) rfl dX10_best_69 rfl ?_
    refine wp_iload_n (pc' := 72) (q := 3) (i := 3) rfl rfl dX10_best_71 rfl ?_
    refine wp_isub (pc' := 73) dX10_best_72 rfl ?_
    obtain ⟨h6, h⟩ := h
    refine wp_mabs (pc' := 76) h6 dX10_best_73 lkX10_178 ms_abs iiMath mc_abs ⟨Nat.le_of_ble_eq_true rfl, Nat.le_of_ble_eq_true rfl⟩ (Nat.le_refl _) rfl ?_
    obtain ⟨h7, h⟩ := h
    obtain ⟨h8, h⟩ := h
    refine wp_icmp_ge (pc' := 79) (tgt := 83) h7 h8 dX10_best_76 rfl rfl (fun hc => ?_) (fun hc => ?_)
    · have h := h.1 hc
      refine wp_iconst (pc' := 84) dX10_best_83 rfl ?_
      refine wp_istore (pc' := 86) (i := 8) (L' := [vR a0, vI a1, vI a2, vI a3, vI a4, vI a5, vI a6, vI x3, vI 0]) (by decide) rfl dX10_best_84 rfl rfl ?_
      refine wp_iload (pc' := 88) (i := 7) rfl dX10_best_86 rfl ?_
      refine wp_iload (pc' := 90) (i := 5) rfl dX10_best_88 rfl ?_
      obtain ⟨h9, h⟩ := h
      obtain ⟨h10, h⟩ := h
      refine wp_icmp_gt (pc' := 93) (tgt := 105) h9 h10 dX10_best_90 rfl rfl (fun hc => ?_) (fun hc => ?_)
      · have h := h.1 hc
        exact wp_dropP (leP_s (leP_s (leP_s (leP_s (leP_d (leP_d (leP_s (leP_s (leP_d leP_n))))))))) h
      · have h := h.2 hc
        refine wp_iload (pc' := 95) (i := 7) rfl dX10_best_93 rfl ?_
        refine wp_iload (pc' := 97) (i := 5) rfl dX10_best_95 rfl ?_
        refine wp_icmp_ne (pc' := 100) (tgt := 113) h9 h10 dX10_best_97 rfl rfl (fun hc => ?_) (fun hc => ?_)
        · have h := h.1 hc
          exact wp_dropP (leP_s (leP_s (leP_s (leP_s (leP_s (leP_s (leP_s (leP_d (leP_d leP_n))))))))) h
        · have h := h.2 hc
          refine wp_iload (pc' := 102) (i := 8) rfl dX10_best_100 rfl ?_
          refine wp_if_eq (pc' := 105) (tgt := 113) ⟨by decide, by decide⟩ dX10_best_102 rfl rfl (fun hc => ?_) (fun hc => by exfalso; revert hc; decide)
          exact wp_dropP (leP_s (leP_s (leP_s (leP_s (leP_s (leP_s (leP_s (leP_d (leP_d leP_n))))))))) h
    · have h := h.2 hc
      refine wp_iconst (pc' := 80) dX10_best_79 rfl ?_
      refine wp_goto (tgt := 84) dX10_best_80 rfl ?_
      refine wp_istore (pc' := 86) (i := 8) (L' := [vR a0, vI a1, vI a2, vI a3, vI a4, vI a5, vI a6, vI x3, vI 1]) (by decide) rfl dX10_best_84 rfl rfl ?_
      refine wp_iload (pc' := 88) (i := 7) rfl dX10_best_86 rfl ?_
      refine wp_iload (pc' := 90) (i := 5) rfl dX10_best_88 rfl ?_
      obtain ⟨h11, h⟩ := h
      obtain ⟨h12, h⟩ := h
      refine wp_icmp_gt (pc' := 93) (tgt := 105) h11 h12 dX10_best_90 rfl rfl (fun hc => ?_) (fun hc => ?_)
      · have h := h.1 hc
        exact wp_dropP (leP_s (leP_s (leP_s (leP_s (leP_d (leP_d (leP_s (leP_s (leP_d leP_n))))))))) h
      · have h := h.2 hc
        refine wp_iload (pc' := 95) (i := 7) rfl dX10_best_93 rfl ?_
        refine wp_iload (pc' := 97) (i := 5) rfl dX10_best_95 rfl ?_
        refine wp_icmp_ne (pc' := 100) (tgt := 113) h11 h12 dX10_best_97 rfl rfl (fun hc => ?_) (fun hc => ?_)
        · have h := h.1 hc
          exact wp_dropP (leP_s (leP_s (leP_s (leP_s (leP_s (leP_s (leP_s (leP_d (leP_d leP_n))))))))) h
        · have h := h.2 hc
          refine wp_iload (pc' := 102) (i := 8) rfl dX10_best_100 rfl ?_
          refine wp_if_eq (pc' := 105) (tgt := 113) ⟨by decide, by decide⟩ dX10_best_102 rfl rfl (fun hc => by exfalso; revert hc; decide) (fun hc => ?_)
          exact wp_dropP (leP_s (leP_s (leP_s (leP_s (leP_d (leP_d (leP_s (leP_s (leP_d leP_n))))))))) h

set_option maxRecDepth 4000 in
theorem gX10_best_105 {Q : QT} {I : II} {R : RR} {N : Nat} {a0 : Nat} {a1 : Int} {a2 : Int} {a3 : Int} {a6 : Int} {a7 : Int}
    (h : wp (kN N) mX10_best Q 113 [vR a0, vI a1, vI a2, vI a3, vI a6, vI a7, vI a6, none, none] [] I R N) : wp (kN N) mX10_best Q 105 [vR a0, vI a1, vI a2, vI a3, none, none, vI a6, vI a7, none] [] I R N := by
  refine wp_iload (pc' := 107) (i := 6) rfl dX10_best_105 rfl ?_
  refine wp_istore (pc' := 109) (i := 4) (L' := [vR a0, vI a1, vI a2, vI a3, vI a6, none, vI a6, vI a7, none]) (by decide) rfl dX10_best_107 rfl rfl ?_
  refine wp_iload (pc' := 111) (i := 7) rfl dX10_best_109 rfl ?_
  refine wp_istore (pc' := 113) (i := 5) (L' := [vR a0, vI a1, vI a2, vI a3, vI a6, vI a7, vI a6, vI a7, none]) (by decide) rfl dX10_best_111 rfl rfl ?_
  exact wp_dropP (leP_s (leP_s (leP_s (leP_s (leP_s (leP_s (leP_s (leP_d (leP_s leP_n))))))))) h

set_option maxRecDepth 4000 in
theorem gX10_best_113 {Q : QT} {I : II} {R : RR} {N : Nat} {a0 : Nat} {a1 : Int} {a2 : Int} {a3 : Int} {a4 : Int} {a5 : Int} {a6 : Int}
    (h : wp (kN N) mX10_best Q 46 [vR a0, vI a1, vI a2, vI a3, vI a4, vI a5, vI (a6 + 1), none, none] [] I R N) : wp (kN N) mX10_best Q 113 [vR a0, vI a1, vI a2, vI a3, vI a4, vI a5, vI a6, none, none] [] I R N := by
  refine wp_iinc (pc' := 116) (i := 6) (L' := [vR a0, vI a1, vI a2, vI a3, vI a4, vI a5, vI (a6 + 1), none, none]) rfl (by decide) rfl dX10_best_113 rfl rfl ?_
  refine wp_goto (tgt := 46) dX10_best_116 rfl ?_
  exact h

theorem sX10_round {Q : QT} {I : II} {R : RR} {N : Nat} {a0 : Nat} {a1 : Int} {a2 : Int} {a3 : Int} (hN : N < 1000) (h : wp (kN N) mX10_round Q 0 [vR a0, vI a1, vI a2, vI a3] [] I R N) : Spec mX10_round [vR a0, vI a1, vI a2, vI a3] I R N N Q := Spec_of_wp pyX10_round rfl (Nat.le_of_ble_eq_true rfl) (Nat.le_refl _) hN h

set_option maxRecDepth 4000 in
theorem gX10_round_0 {Q : QT} {I : II} {R : RR} {N : Nat} {a0 : Nat} {a1 : Int} {a2 : Int} {a3 : Int}
    (h : (∃ Q1 : QT, Spec mX10_within [vI a1, vI 0, vI 3] I R N N Q1 ∧ (∀ x1 I1 R1, (x1 = 0 ∨ x1 = 1) → Q1 (vI x1) I1 R1 →
      (InI x1) ∧
      ((x1 = 0 →
      wp (kN N) mX10_round Q 29 [none, none, none, none] [] I1 R1 N) ∧ (¬ (x1 = 0) →
      (∃ Q3 : QT, Spec mX10_within [vI a2, vI 0, vI 9999] I1 R1 N N Q3 ∧ (∀ x3 I3 R3, (x3 = 0 ∨ x3 = 1) → Q3 (vI x3) I3 R3 →
      (InI x3) ∧
      ((x3 = 0 →
      wp (kN N) mX10_round Q 29 [none, none, none, none] [] I3 R3 N) ∧ (¬ (x3 = 0) →
      (∃ Q5 : QT, Spec mX10_within [vI a3, vI 0, vI 3] I3 R3 N N Q5 ∧ (∀ x5 I5 R5, (x5 = 0 ∨ x5 = 1) → Q5 (vI x5) I5 R5 →
      (InI x5) ∧
      ((¬ x5 = 0 →
      (isO N a0 9) ∧
      (isO N (R5 a0 9) 7) ∧
      (∃ Q8 : QT, Spec mX7_play [vR (R5 a0 9), vR (R5 a0 2), vI a1, vI a2, vR (R5 a0 4)] I5 R5 N N Q8 ∧ (∀ I8 R8, Q8 none I8 R8 →
      (InI a3) ∧
      ((¬ a3 = 0 →
      ((¬ a3 = (1 : Int) →
      ((¬ a3 = (2 : Int) →
      (isO N (R8 a0 9) 7) ∧
      (∃ Q11 : QT, Spec mX7_wanders [vR (R8 a0 9)] I8 R8 N N Q11 ∧ (∀ x11 I11 R11, Q11 (vI x11) I11 R11 →
      Q (vI x11) I11 R11))) ∧ (a3 = (2 : Int) →
      (isO N (R8 a0 9) 7) ∧
      Q (vI (I8 (R8 a0 9) 9)) I8 R8))) ∧ (a3 = (1 : Int) →
      (isO N (R8 a0 9) 7) ∧
      Q (vI (I8 (R8 a0 9) 8)) I8 R8))) ∧ (a3 = 0 →
      (isO N (R8 a0 9) 7) ∧
      Q (vI (I8 (R8 a0 9) 7)) I8 R8))))) ∧ (x5 = 0 →
      wp (kN N) mX10_round Q 29 [none, none, none, none] [] I5 R5 N))))))))))))) : wp (kN N) mX10_round Q 0 [vR a0, vI a1, vI a2, vI a3] [] I R N := by
  refine wp_iload_n (pc' := 1) (q := 1) (i := 1) rfl rfl dX10_round_0 rfl ?_
  refine wp_iconst (pc' := 2) dX10_round_1 rfl ?_
  refine wp_iconst (pc' := 3) dX10_round_2 rfl ?_
  obtain ⟨Q1, hs1, h⟩ := h
  refine wp_callS (pc' := 6) (as := [vI a1, vI 0, vI 3]) (rest := []) hs1 dX10_round_3 rfl lkX10_84 okX10_within stX10_within ⟨Nat.le_of_ble_eq_true rfl, Nat.le_of_ble_eq_true rfl⟩ (Nat.le_of_ble_eq_true rfl) (Nat.le_refl _) (Nat.le_refl _) okP_eq okP_eq rfl (rvZ rfl (fun x1 I1 R1 hz1 hq1 => ?_))
  have h := h x1 I1 R1 hz1 hq1
  obtain ⟨h2, h⟩ := h
  refine wp_if_eq (pc' := 9) (tgt := 29) h2 dX10_round_6 rfl rfl (fun hc => ?_) (fun hc => ?_)
  · have h := h.1 hc
    exact wp_dropP (leP_d (leP_d (leP_d (leP_d leP_n)))) h
  · have h := h.2 hc
    refine wp_iload_n (pc' := 10) (q := 2) (i := 2) rfl rfl dX10_round_9 rfl ?_
    refine wp_iconst (pc' := 11) dX10_round_10 rfl ?_
    refine wp_sipush (pc' := 14) (by decide) dX10_round_11 rfl ?_
    obtain ⟨Q3, hs3, h⟩ := h
    refine wp_callS (pc' := 17) (as := [vI a2, vI 0, vI 9999]) (rest := []) hs3 dX10_round_14 rfl lkX10_84 okX10_within stX10_within ⟨Nat.le_of_ble_eq_true rfl, Nat.le_of_ble_eq_true rfl⟩ (Nat.le_of_ble_eq_true rfl) (Nat.le_refl _) (Nat.le_refl _) okP_eq okP_eq rfl (rvZ rfl (fun x3 I3 R3 hz3 hq3 => ?_))
    have h := h x3 I3 R3 hz3 hq3
    obtain ⟨h4, h⟩ := h
    refine wp_if_eq (pc' := 20) (tgt := 29) h4 dX10_round_17 rfl rfl (fun hc => ?_) (fun hc => ?_)
    · have h := h.1 hc
      exact wp_dropP (leP_d (leP_d (leP_d (leP_d leP_n)))) h
    · have h := h.2 hc
      refine wp_iload_n (pc' := 21) (q := 3) (i := 3) rfl rfl dX10_round_20 rfl ?_
      refine wp_iconst (pc' := 22) dX10_round_21 rfl ?_
      refine wp_iconst (pc' := 23) dX10_round_22 rfl ?_
      obtain ⟨Q5, hs5, h⟩ := h
      refine wp_callS (pc' := 26) (as := [vI a3, vI 0, vI 3]) (rest := []) hs5 dX10_round_23 rfl lkX10_84 okX10_within stX10_within ⟨Nat.le_of_ble_eq_true rfl, Nat.le_of_ble_eq_true rfl⟩ (Nat.le_of_ble_eq_true rfl) (Nat.le_refl _) (Nat.le_refl _) okP_eq okP_eq rfl (rvZ rfl (fun x5 I5 R5 hz5 hq5 => ?_))
      have h := h x5 I5 R5 hz5 hq5
      obtain ⟨h6, h⟩ := h
      refine wp_if_ne (pc' := 29) (tgt := 33) h6 dX10_round_26 rfl rfl (fun hc => ?_) (fun hc => ?_)
      · have h := h.1 hc
        refine wp_aload_n (pc' := 34) (q := 0) (i := 0) rfl rfl dX10_round_33 rfl ?_
        obtain ⟨h7, h⟩ := h
        refine wp_getR (pc' := 37) (k := 9) dX10_round_34 vc9 (by decide) rfl lfX10_63 h7 rfl ?_
        refine wp_aload_n (pc' := 38) (q := 0) (i := 0) rfl rfl dX10_round_37 rfl ?_
        refine wp_getR (pc' := 41) (k := 2) dX10_round_38 vc9 (by decide) rfl lfX10_26 h7 rfl ?_
        refine wp_iload_n (pc' := 42) (q := 1) (i := 1) rfl rfl dX10_round_41 rfl ?_
        refine wp_iload_n (pc' := 43) (q := 2) (i := 2) rfl rfl dX10_round_42 rfl ?_
        refine wp_aload_n (pc' := 44) (q := 0) (i := 0) rfl rfl dX10_round_43 rfl ?_
        refine wp_getR (pc' := 47) (k := 4) dX10_round_44 vc9 (by decide) rfl lfX10_36 h7 rfl ?_
        obtain ⟨h9, h⟩ := h
        obtain ⟨Q8, hs8, h⟩ := h
        refine wp_callV (pc' := 50) (as := [vR (R5 a0 2), vI a1, vI a2, vR (R5 a0 4)]) (rest := []) hs8 dX10_round_47 rfl lkX10_181 okX7_play inX7_play seX7_play h9 vc7 ⟨Nat.le_of_ble_eq_true rfl, Nat.le_of_ble_eq_true rfl⟩ (Nat.le_of_ble_eq_true rfl) (Nat.le_refl _) (Nat.le_refl _) okP_eq okP_eq rfl (rvV rfl (fun I8 R8 hq8 => ?_))
        have h := h I8 R8 hq8
        refine wp_iload_n (pc' := 51) (q := 3) (i := 3) rfl rfl dX10_round_50 rfl ?_
        obtain ⟨h10, h⟩ := h
        refine wp_if_ne (pc' := 54) (tgt := 62) h10 dX10_round_51 rfl rfl (fun hc => ?_) (fun hc => ?_)
        · have h := h.1 hc
          refine wp_iload_n (pc' := 63) (q := 3) (i := 3) rfl rfl dX10_round_62 rfl ?_
          refine wp_iconst (pc' := 64) dX10_round_63 rfl ?_
          refine wp_icmp_ne (pc' := 67) (tgt := 75) h10 ⟨by decide, by decide⟩ dX10_round_64 rfl rfl (fun hc => ?_) (fun hc => ?_)
          · have h := h.1 hc
            refine wp_iload_n (pc' := 76) (q := 3) (i := 3) rfl rfl dX10_round_75 rfl ?_
            refine wp_iconst (pc' := 77) dX10_round_76 rfl ?_
            refine wp_icmp_ne (pc' := 80) (tgt := 90) h10 ⟨by decide, by decide⟩ dX10_round_77 rfl rfl (fun hc => ?_) (fun hc => ?_)
            · have h := h.1 hc
              refine wp_aload_n (pc' := 91) (q := 0) (i := 0) rfl rfl dX10_round_90 rfl ?_
              refine wp_getR (pc' := 94) (k := 9) dX10_round_91 vc9 (by decide) rfl lfX10_63 h7 rfl ?_
              obtain ⟨h12, h⟩ := h
              obtain ⟨Q11, hs11, h⟩ := h
              refine wp_callV (pc' := 97) (as := []) (rest := []) hs11 dX10_round_94 rfl lkX10_194 okX7_wanders inX7_wanders seX7_wanders h12 vc7 ⟨Nat.le_of_ble_eq_true rfl, Nat.le_of_ble_eq_true rfl⟩ (Nat.le_of_ble_eq_true rfl) (Nat.le_refl _) (Nat.le_refl _) okP_eq okP_eq rfl (rvI rfl (fun x11 I11 R11 hq11 => ?_))
              have h := h x11 I11 R11 hq11
              exact wp_ireturn dX10_round_97 rfl rfl h
            · have h := h.2 hc
              refine wp_aload_n (pc' := 81) (q := 0) (i := 0) rfl rfl dX10_round_80 rfl ?_
              refine wp_getR (pc' := 84) (k := 9) dX10_round_81 vc9 (by decide) rfl lfX10_63 h7 rfl ?_
              obtain ⟨h13, h⟩ := h
              refine wp_getI (pc' := 87) (k := 9) dX10_round_84 vc7 (by decide) rfl lfX10_191 h13 rfl ?_
              refine wp_goto (tgt := 97) dX10_round_87 rfl ?_
              exact wp_ireturn dX10_round_97 rfl rfl h
          · have h := h.2 hc
            refine wp_aload_n (pc' := 68) (q := 0) (i := 0) rfl rfl dX10_round_67 rfl ?_
            refine wp_getR (pc' := 71) (k := 9) dX10_round_68 vc9 (by decide) rfl lfX10_63 h7 rfl ?_
            obtain ⟨h14, h⟩ := h
            refine wp_getI (pc' := 74) (k := 8) dX10_round_71 vc7 (by decide) rfl lfX10_188 h14 rfl ?_
            exact wp_ireturn dX10_round_74 rfl rfl h
        · have h := h.2 hc
          refine wp_aload_n (pc' := 55) (q := 0) (i := 0) rfl rfl dX10_round_54 rfl ?_
          refine wp_getR (pc' := 58) (k := 9) dX10_round_55 vc9 (by decide) rfl lfX10_63 h7 rfl ?_
          obtain ⟨h15, h⟩ := h
          refine wp_getI (pc' := 61) (k := 7) dX10_round_58 vc7 (by decide) rfl lfX10_185 h15 rfl ?_
          exact wp_ireturn dX10_round_61 rfl rfl h
      · have h := h.2 hc
        exact wp_dropP (leP_d (leP_d (leP_d (leP_d leP_n)))) h

set_option maxRecDepth 4000 in
theorem gX10_round_29 {Q : QT} {I : II} {R : RR} {N : Nat} 
    (h : Q (vI (-10000)) I R) : wp (kN N) mX10_round Q 29 [none, none, none, none] [] I R N := by
  refine wp_sipush (pc' := 32) (by decide) dX10_round_29 rfl ?_
  exact wp_ireturn dX10_round_32 rfl rfl h

theorem sX10_of {Q : QT} {I : II} {R : RR} {N : Nat} {a0 : Nat} {a1 : Int} {a2 : Int} {a3 : Int} (hN : N < 1000) (h : wp (kN N) mX10_of Q 0 [vR a0, vI a1, vI a2, vI a3] [] I R N) : Spec mX10_of [vR a0, vI a1, vI a2, vI a3] I R N N Q := Spec_of_wp pyX10_of rfl (Nat.le_of_ble_eq_true rfl) (Nat.le_refl _) hN h

set_option maxRecDepth 4000 in
theorem gX10_of_0 {Q : QT} {I : II} {R : RR} {N : Nat} {a0 : Nat} {a1 : Int} {a2 : Int} {a3 : Int}
    (h : (∃ Q1 : QT, Spec mX10_within [vI a1, vI 0, vI 3] I R N N Q1 ∧ (∀ x1 I1 R1, (x1 = 0 ∨ x1 = 1) → Q1 (vI x1) I1 R1 →
      (InI x1) ∧
      ((x1 = 0 →
      wp (kN N) mX10_of Q 31 [none, none, none, none] [] I1 R1 N) ∧ (¬ (x1 = 0) →
      (∃ Q3 : QT, Spec mX10_within [vI a2, vI 0, vI 9999] I1 R1 N N Q3 ∧ (∀ x3 I3 R3, (x3 = 0 ∨ x3 = 1) → Q3 (vI x3) I3 R3 →
      (InI x3) ∧
      ((x3 = 0 →
      wp (kN N) mX10_of Q 31 [none, none, none, none] [] I3 R3 N) ∧ (¬ (x3 = 0) →
      (isO N a0 9) ∧
      (isO N (R3 a0 2) 6) ∧
      (∃ Q6 : QT, Spec mX6_has [vR (R3 a0 2), vI a3] I3 R3 N N Q6 ∧ (∀ x6 I6 R6, (x6 = 0 ∨ x6 = 1) → Q6 (vI x6) I6 R6 →
      (InI x6) ∧
      ((¬ x6 = 0 →
      (isO N (R6 a0 9) 7) ∧
      (∃ Q9 : QT, Spec mX7_play [vR (R6 a0 9), vR (R6 a0 2), vI a1, vI a2, vR (R6 a0 4)] I6 R6 N N Q9 ∧ (∀ I9 R9, Q9 none I9 R9 →
      (isO N (R9 a0 9) 7) ∧
      (isA N (R9 (R9 a0 9) 0) 1 20) ∧
      (0 ≤ a3 ∧ a3 < 20) ∧
      Q (vI (I9 (R9 (R9 a0 9) 0) a3.toNat)) I9 R9))) ∧ (x6 = 0 →
      wp (kN N) mX10_of Q 31 [none, none, none, none] [] I6 R6 N))))))))))))) : wp (kN N) mX10_of Q 0 [vR a0, vI a1, vI a2, vI a3] [] I R N := by
  refine wp_iload_n (pc' := 1) (q := 1) (i := 1) rfl rfl dX10_of_0 rfl ?_
  refine wp_iconst (pc' := 2) dX10_of_1 rfl ?_
  refine wp_iconst (pc' := 3) dX10_of_2 rfl ?_
  obtain ⟨Q1, hs1, h⟩ := h
  refine wp_callS (pc' := 6) (as := [vI a1, vI 0, vI 3]) (rest := []) hs1 dX10_of_3 rfl lkX10_84 okX10_within stX10_within ⟨Nat.le_of_ble_eq_true rfl, Nat.le_of_ble_eq_true rfl⟩ (Nat.le_of_ble_eq_true rfl) (Nat.le_refl _) (Nat.le_refl _) okP_eq okP_eq rfl (rvZ rfl (fun x1 I1 R1 hz1 hq1 => ?_))
  have h := h x1 I1 R1 hz1 hq1
  obtain ⟨h2, h⟩ := h
  refine wp_if_eq (pc' := 9) (tgt := 31) h2 dX10_of_6 rfl rfl (fun hc => ?_) (fun hc => ?_)
  · have h := h.1 hc
    exact wp_dropP (leP_d (leP_d (leP_d (leP_d leP_n)))) h
  · have h := h.2 hc
    refine wp_iload_n (pc' := 10) (q := 2) (i := 2) rfl rfl dX10_of_9 rfl ?_
    refine wp_iconst (pc' := 11) dX10_of_10 rfl ?_
    refine wp_sipush (pc' := 14) (by decide) dX10_of_11 rfl ?_
    obtain ⟨Q3, hs3, h⟩ := h
    refine wp_callS (pc' := 17) (as := [vI a2, vI 0, vI 9999]) (rest := []) hs3 dX10_of_14 rfl lkX10_84 okX10_within stX10_within ⟨Nat.le_of_ble_eq_true rfl, Nat.le_of_ble_eq_true rfl⟩ (Nat.le_of_ble_eq_true rfl) (Nat.le_refl _) (Nat.le_refl _) okP_eq okP_eq rfl (rvZ rfl (fun x3 I3 R3 hz3 hq3 => ?_))
    have h := h x3 I3 R3 hz3 hq3
    obtain ⟨h4, h⟩ := h
    refine wp_if_eq (pc' := 20) (tgt := 31) h4 dX10_of_17 rfl rfl (fun hc => ?_) (fun hc => ?_)
    · have h := h.1 hc
      exact wp_dropP (leP_d (leP_d (leP_d (leP_d leP_n)))) h
    · have h := h.2 hc
      refine wp_aload_n (pc' := 21) (q := 0) (i := 0) rfl rfl dX10_of_20 rfl ?_
      obtain ⟨h5, h⟩ := h
      refine wp_getR (pc' := 24) (k := 2) dX10_of_21 vc9 (by decide) rfl lfX10_26 h5 rfl ?_
      refine wp_iload_n (pc' := 25) (q := 3) (i := 3) rfl rfl dX10_of_24 rfl ?_
      obtain ⟨h7, h⟩ := h
      obtain ⟨Q6, hs6, h⟩ := h
      refine wp_callV (pc' := 28) (as := [vI a3]) (rest := []) hs6 dX10_of_25 rfl lkX10_109 okX6_has inX6_has seX6_has h7 vc6 ⟨Nat.le_of_ble_eq_true rfl, Nat.le_of_ble_eq_true rfl⟩ (Nat.le_of_ble_eq_true rfl) (Nat.le_refl _) (Nat.le_refl _) okP_eq okP_eq rfl (rvZ rfl (fun x6 I6 R6 hz6 hq6 => ?_))
      have h := h x6 I6 R6 hz6 hq6
      obtain ⟨h8, h⟩ := h
      refine wp_if_ne (pc' := 31) (tgt := 33) h8 dX10_of_28 rfl rfl (fun hc => ?_) (fun hc => ?_)
      · have h := h.1 hc
        refine wp_aload_n (pc' := 34) (q := 0) (i := 0) rfl rfl dX10_of_33 rfl ?_
        refine wp_getR (pc' := 37) (k := 9) dX10_of_34 vc9 (by decide) rfl lfX10_63 h5 rfl ?_
        refine wp_aload_n (pc' := 38) (q := 0) (i := 0) rfl rfl dX10_of_37 rfl ?_
        refine wp_getR (pc' := 41) (k := 2) dX10_of_38 vc9 (by decide) rfl lfX10_26 h5 rfl ?_
        refine wp_iload_n (pc' := 42) (q := 1) (i := 1) rfl rfl dX10_of_41 rfl ?_
        refine wp_iload_n (pc' := 43) (q := 2) (i := 2) rfl rfl dX10_of_42 rfl ?_
        refine wp_aload_n (pc' := 44) (q := 0) (i := 0) rfl rfl dX10_of_43 rfl ?_
        refine wp_getR (pc' := 47) (k := 4) dX10_of_44 vc9 (by decide) rfl lfX10_36 h5 rfl ?_
        obtain ⟨h10, h⟩ := h
        obtain ⟨Q9, hs9, h⟩ := h
        refine wp_callV (pc' := 50) (as := [vR (R6 a0 2), vI a1, vI a2, vR (R6 a0 4)]) (rest := []) hs9 dX10_of_47 rfl lkX10_181 okX7_play inX7_play seX7_play h10 vc7 ⟨Nat.le_of_ble_eq_true rfl, Nat.le_of_ble_eq_true rfl⟩ (Nat.le_of_ble_eq_true rfl) (Nat.le_refl _) (Nat.le_refl _) okP_eq okP_eq rfl (rvV rfl (fun I9 R9 hq9 => ?_))
        have h := h I9 R9 hq9
        refine wp_aload_n (pc' := 51) (q := 0) (i := 0) rfl rfl dX10_of_50 rfl ?_
        refine wp_getR (pc' := 54) (k := 9) dX10_of_51 vc9 (by decide) rfl lfX10_63 h5 rfl ?_
        obtain ⟨h11, h⟩ := h
        refine wp_getR (pc' := 57) (k := 0) dX10_of_54 vc7 (by decide) rfl lfX10_197 h11 rfl ?_
        refine wp_iload_n (pc' := 58) (q := 3) (i := 3) rfl rfl dX10_of_57 rfl ?_
        obtain ⟨h12, h⟩ := h
        obtain ⟨h13, h⟩ := h
        refine wp_iald (pc' := 59) (j := a3.toNat) dX10_of_58 h12 h13 rfl rfl ?_
        exact wp_ireturn dX10_of_59 rfl rfl h
      · have h := h.2 hc
        exact wp_dropP (leP_d (leP_d (leP_d (leP_d leP_n)))) h

set_option maxRecDepth 4000 in
theorem gX10_of_31 {Q : QT} {I : II} {R : RR} {N : Nat} 
    (h : Q (vI (-1)) I R) : wp (kN N) mX10_of Q 31 [none, none, none, none] [] I R N := by
  refine wp_iconst (pc' := 32) dX10_of_31 rfl ?_
  exact wp_ireturn dX10_of_32 rfl rfl h

theorem sX10_means {Q : QT} {I : II} {R : RR} {N : Nat} {a0 : Nat} {a1 : Int} {a2 : Int} {a3 : Int} (hN : N < 1000) (h : wp (kN N) mX10_means Q 0 [vR a0, vI a1, vI a2, vI a3] [] I R N) : Spec mX10_means [vR a0, vI a1, vI a2, vI a3] I R N N Q := Spec_of_wp pyX10_means rfl (Nat.le_of_ble_eq_true rfl) (Nat.le_refl _) hN h

set_option maxRecDepth 4000 in
theorem gX10_means_0 {Q : QT} {I : II} {R : RR} {N : Nat} {a0 : Nat} {a1 : Int} {a2 : Int} {a3 : Int}
    (h : (∃ Q1 : QT, Spec mX10_within [vI a1, vI 0, vI 3] I R N N Q1 ∧ (∀ x1 I1 R1, (x1 = 0 ∨ x1 = 1) → Q1 (vI x1) I1 R1 →
      (InI x1) ∧
      ((x1 = 0 →
      wp (kN N) mX10_means Q 29 [none, none, none, none] [] I1 R1 N) ∧ (¬ (x1 = 0) →
      (∃ Q3 : QT, Spec mX10_within [vI a2, vI 0, vI 9999] I1 R1 N N Q3 ∧ (∀ x3 I3 R3, (x3 = 0 ∨ x3 = 1) → Q3 (vI x3) I3 R3 →
      (InI x3) ∧
      ((x3 = 0 →
      wp (kN N) mX10_means Q 29 [none, none, none, none] [] I3 R3 N) ∧ (¬ (x3 = 0) →
      (∃ Q5 : QT, Spec mX10_within [vI a3, vI 0, vI 2] I3 R3 N N Q5 ∧ (∀ x5 I5 R5, (x5 = 0 ∨ x5 = 1) → Q5 (vI x5) I5 R5 →
      (InI x5) ∧
      ((¬ x5 = 0 →
      (isO N a0 9) ∧
      (∃ Q7 : QT, Spec mX10_sumUp [vR a0, vI a1, vI a2] I5 R5 N N Q7 ∧ (∀ I7 R7, Q7 none I7 R7 →
      (isA N (R7 a0 11) 4 4) ∧
      (0 ≤ a1 ∧ a1 < 4) ∧
      (isA N (R7 (R7 a0 11) a1.toNat) 1 3) ∧
      (0 ≤ a3 ∧ a3 < 3) ∧
      Q (vI (I7 (R7 (R7 a0 11) a1.toNat) a3.toNat)) I7 R7))) ∧ (x5 = 0 →
      wp (kN N) mX10_means Q 29 [none, none, none, none] [] I5 R5 N))))))))))))) : wp (kN N) mX10_means Q 0 [vR a0, vI a1, vI a2, vI a3] [] I R N := by
  refine wp_iload_n (pc' := 1) (q := 1) (i := 1) rfl rfl dX10_means_0 rfl ?_
  refine wp_iconst (pc' := 2) dX10_means_1 rfl ?_
  refine wp_iconst (pc' := 3) dX10_means_2 rfl ?_
  obtain ⟨Q1, hs1, h⟩ := h
  refine wp_callS (pc' := 6) (as := [vI a1, vI 0, vI 3]) (rest := []) hs1 dX10_means_3 rfl lkX10_84 okX10_within stX10_within ⟨Nat.le_of_ble_eq_true rfl, Nat.le_of_ble_eq_true rfl⟩ (Nat.le_of_ble_eq_true rfl) (Nat.le_refl _) (Nat.le_refl _) okP_eq okP_eq rfl (rvZ rfl (fun x1 I1 R1 hz1 hq1 => ?_))
  have h := h x1 I1 R1 hz1 hq1
  obtain ⟨h2, h⟩ := h
  refine wp_if_eq (pc' := 9) (tgt := 29) h2 dX10_means_6 rfl rfl (fun hc => ?_) (fun hc => ?_)
  · have h := h.1 hc
    exact wp_dropP (leP_d (leP_d (leP_d (leP_d leP_n)))) h
  · have h := h.2 hc
    refine wp_iload_n (pc' := 10) (q := 2) (i := 2) rfl rfl dX10_means_9 rfl ?_
    refine wp_iconst (pc' := 11) dX10_means_10 rfl ?_
    refine wp_sipush (pc' := 14) (by decide) dX10_means_11 rfl ?_
    obtain ⟨Q3, hs3, h⟩ := h
    refine wp_callS (pc' := 17) (as := [vI a2, vI 0, vI 9999]) (rest := []) hs3 dX10_means_14 rfl lkX10_84 okX10_within stX10_within ⟨Nat.le_of_ble_eq_true rfl, Nat.le_of_ble_eq_true rfl⟩ (Nat.le_of_ble_eq_true rfl) (Nat.le_refl _) (Nat.le_refl _) okP_eq okP_eq rfl (rvZ rfl (fun x3 I3 R3 hz3 hq3 => ?_))
    have h := h x3 I3 R3 hz3 hq3
    obtain ⟨h4, h⟩ := h
    refine wp_if_eq (pc' := 20) (tgt := 29) h4 dX10_means_17 rfl rfl (fun hc => ?_) (fun hc => ?_)
    · have h := h.1 hc
      exact wp_dropP (leP_d (leP_d (leP_d (leP_d leP_n)))) h
    · have h := h.2 hc
      refine wp_iload_n (pc' := 21) (q := 3) (i := 3) rfl rfl dX10_means_20 rfl ?_
      refine wp_iconst (pc' := 22) dX10_means_21 rfl ?_
      refine wp_iconst (pc' := 23) dX10_means_22 rfl ?_
      obtain ⟨Q5, hs5, h⟩ := h
      refine wp_callS (pc' := 26) (as := [vI a3, vI 0, vI 2]) (rest := []) hs5 dX10_means_23 rfl lkX10_84 okX10_within stX10_within ⟨Nat.le_of_ble_eq_true rfl, Nat.le_of_ble_eq_true rfl⟩ (Nat.le_of_ble_eq_true rfl) (Nat.le_refl _) (Nat.le_refl _) okP_eq okP_eq rfl (rvZ rfl (fun x5 I5 R5 hz5 hq5 => ?_))
      have h := h x5 I5 R5 hz5 hq5
      obtain ⟨h6, h⟩ := h
      refine wp_if_ne (pc' := 29) (tgt := 33) h6 dX10_means_26 rfl rfl (fun hc => ?_) (fun hc => ?_)
      · have h := h.1 hc
        refine wp_aload_n (pc' := 34) (q := 0) (i := 0) rfl rfl dX10_means_33 rfl ?_
        refine wp_iload_n (pc' := 35) (q := 1) (i := 1) rfl rfl dX10_means_34 rfl ?_
        refine wp_iload_n (pc' := 36) (q := 2) (i := 2) rfl rfl dX10_means_35 rfl ?_
        obtain ⟨h8, h⟩ := h
        obtain ⟨Q7, hs7, h⟩ := h
        refine wp_callV (pc' := 39) (as := [vI a1, vI a2]) (rest := []) hs7 dX10_means_36 rfl lkX10_200 okX10_sumUp inX10_sumUp seX10_sumUp h8 vc9 ⟨Nat.le_of_ble_eq_true rfl, Nat.le_of_ble_eq_true rfl⟩ (Nat.le_of_ble_eq_true rfl) (Nat.le_refl _) (Nat.le_refl _) okP_eq okP_eq rfl (rvV rfl (fun I7 R7 hq7 => ?_))
        have h := h I7 R7 hq7
        refine wp_aload_n (pc' := 40) (q := 0) (i := 0) rfl rfl dX10_means_39 rfl ?_
        refine wp_getR (pc' := 43) (k := 11) dX10_means_40 vc9 (by decide) rfl lfX10_76 h8 rfl ?_
        refine wp_iload_n (pc' := 44) (q := 1) (i := 1) rfl rfl dX10_means_43 rfl ?_
        obtain ⟨h9, h⟩ := h
        obtain ⟨h10, h⟩ := h
        refine wp_aald (pc' := 45) (j := a1.toNat) dX10_means_44 h9 (Or.inr rfl) h10 rfl rfl ?_
        refine wp_iload_n (pc' := 46) (q := 3) (i := 3) rfl rfl dX10_means_45 rfl ?_
        obtain ⟨h11, h⟩ := h
        obtain ⟨h12, h⟩ := h
        refine wp_iald (pc' := 47) (j := a3.toNat) dX10_means_46 h11 h12 rfl rfl ?_
        exact wp_ireturn dX10_means_47 rfl rfl h
      · have h := h.2 hc
        exact wp_dropP (leP_d (leP_d (leP_d (leP_d leP_n)))) h

set_option maxRecDepth 4000 in
theorem gX10_means_29 {Q : QT} {I : II} {R : RR} {N : Nat} 
    (h : Q (vI (-10000)) I R) : wp (kN N) mX10_means Q 29 [none, none, none, none] [] I R N := by
  refine wp_sipush (pc' := 32) (by decide) dX10_means_29 rfl ?_
  exact wp_ireturn dX10_means_32 rfl rfl h

theorem sX10_rules {Q : QT} {I : II} {R : RR} {N : Nat} {a0 : Nat} {a1 : Int} {a2 : Int} (hN : N < 1000) (h : wp (kN N) mX10_rules Q 0 [vR a0, vI a1, vI a2, none] [] I R N) : Spec mX10_rules [vR a0, vI a1, vI a2] I R N N Q := Spec_of_wp pyX10_rules rfl (Nat.le_of_ble_eq_true rfl) (Nat.le_refl _) hN h

set_option maxRecDepth 4000 in
theorem gX10_rules_0 {Q : QT} {I : II} {R : RR} {N : Nat} {a0 : Nat} {a1 : Int} {a2 : Int}
    (h : (∃ Q1 : QT, Spec mX10_within [vI a1, vI 0, vI 9999] I R N N Q1 ∧ (∀ x1 I1 R1, (x1 = 0 ∨ x1 = 1) → Q1 (vI x1) I1 R1 →
      (InI x1) ∧
      ((x1 = 0 →
      wp (kN N) mX10_rules Q 20 [none, none, none, none] [] I1 R1 N) ∧ (¬ (x1 = 0) →
      (∃ Q3 : QT, Spec mX10_within [vI a2, vI 0, vI 3] I1 R1 N N Q3 ∧ (∀ x3 I3 R3, (x3 = 0 ∨ x3 = 1) → Q3 (vI x3) I3 R3 →
      (InI x3) ∧
      ((¬ x3 = 0 →
      wp (kN N) mX10_rules Q 24 [vR a0, vI a1, vI a2, vI 0] [] I3 R3 N) ∧ (x3 = 0 →
      wp (kN N) mX10_rules Q 20 [none, none, none, none] [] I3 R3 N))))))))) : wp (kN N) mX10_rules Q 0 [vR a0, vI a1, vI a2, none] [] I R N := by
  refine wp_iload_n (pc' := 1) (q := 1) (i := 1) rfl rfl dX10_rules_0 rfl ?_
  refine wp_iconst (pc' := 2) dX10_rules_1 rfl ?_
  refine wp_sipush (pc' := 5) (by decide) dX10_rules_2 rfl ?_
  obtain ⟨Q1, hs1, h⟩ := h
  refine wp_callS (pc' := 8) (as := [vI a1, vI 0, vI 9999]) (rest := []) hs1 dX10_rules_5 rfl lkX10_84 okX10_within stX10_within ⟨Nat.le_of_ble_eq_true rfl, Nat.le_of_ble_eq_true rfl⟩ (Nat.le_of_ble_eq_true rfl) (Nat.le_refl _) (Nat.le_refl _) okP_eq okP_eq rfl (rvZ rfl (fun x1 I1 R1 hz1 hq1 => ?_))
  have h := h x1 I1 R1 hz1 hq1
  obtain ⟨h2, h⟩ := h
  refine wp_if_eq (pc' := 11) (tgt := 20) h2 dX10_rules_8 rfl rfl (fun hc => ?_) (fun hc => ?_)
  · have h := h.1 hc
    exact wp_dropP (leP_d (leP_d (leP_d (leP_s leP_n)))) h
  · have h := h.2 hc
    refine wp_iload_n (pc' := 12) (q := 2) (i := 2) rfl rfl dX10_rules_11 rfl ?_
    refine wp_iconst (pc' := 13) dX10_rules_12 rfl ?_
    refine wp_iconst (pc' := 14) dX10_rules_13 rfl ?_
    obtain ⟨Q3, hs3, h⟩ := h
    refine wp_callS (pc' := 17) (as := [vI a2, vI 0, vI 3]) (rest := []) hs3 dX10_rules_14 rfl lkX10_84 okX10_within stX10_within ⟨Nat.le_of_ble_eq_true rfl, Nat.le_of_ble_eq_true rfl⟩ (Nat.le_of_ble_eq_true rfl) (Nat.le_refl _) (Nat.le_refl _) okP_eq okP_eq rfl (rvZ rfl (fun x3 I3 R3 hz3 hq3 => ?_))
    have h := h x3 I3 R3 hz3 hq3
    obtain ⟨h4, h⟩ := h
    refine wp_if_ne (pc' := 20) (tgt := 22) h4 dX10_rules_17 rfl rfl (fun hc => ?_) (fun hc => ?_)
    · have h := h.1 hc
      refine wp_iconst (pc' := 23) dX10_rules_22 rfl ?_
      refine wp_istore_n (pc' := 24) (q := 3) (i := 3) (L' := [vR a0, vI a1, vI a2, vI 0]) rfl (by decide) rfl dX10_rules_23 rfl rfl ?_
      exact h
    · have h := h.2 hc
      exact wp_dropP (leP_d (leP_d (leP_d (leP_s leP_n)))) h

set_option maxRecDepth 4000 in
theorem gX10_rules_20 {Q : QT} {I : II} {R : RR} {N : Nat} 
    (h : Q (vI (-1)) I R) : wp (kN N) mX10_rules Q 20 [none, none, none, none] [] I R N := by
  refine wp_iconst (pc' := 21) dX10_rules_20 rfl ?_
  exact wp_ireturn dX10_rules_21 rfl rfl h

set_option maxRecDepth 4000 in
theorem gX10_rules_24 {Q : QT} {I : II} {R : RR} {N : Nat} {a0 : Nat} {a1 : Int} {a2 : Int} {a3 : Int}
    (h : (InI a3) ∧
      (((3 : Int) < a3 →
      (InI a2) ∧
      (((3 : Int) ≤ a2 →
      (isO N a0 9) ∧
      (∃ Q3 : QT, Spec mX10_bestBy [vR a0, vI 0] I R N N Q3 ∧ (∀ x3 I3 R3, Q3 (vI x3) I3 R3 →
      (∃ Q5 : QT, Spec mX10_bestBy [vR a0, vI 1] I3 R3 N N Q5 ∧ (∀ x5 I5 R5, Q5 (vI x5) I5 R5 →
      (InI x3) ∧
      (InI x5) ∧
      ((¬ x3 = x5 →
      wp (kN N) mX10_rules Q 80 [none, none, none, none] [] I5 R5 N) ∧ (x3 = x5 →
      (∃ Q8 : QT, Spec mX10_bestBy [vR a0, vI 2] I5 R5 N N Q8 ∧ (∀ x8 I8 R8, Q8 (vI x8) I8 R8 →
      (InI x8) ∧
      ((¬ x3 = x8 →
      wp (kN N) mX10_rules Q 80 [none, none, none, none] [] I8 R8 N) ∧ (x3 = x8 →
      Q (vI x3) I8 R8))))))))))) ∧ (¬ (3 : Int) ≤ a2 →
      (isO N a0 9) ∧
      (∃ Q10 : QT, Spec mX10_bestBy [vR a0, vI a2] I R N N Q10 ∧ (∀ x10 I10 R10, Q10 (vI x10) I10 R10 →
      Q (vI x10) I10 R10))))) ∧ (¬ (3 : Int) < a3 →
      (isO N a0 9) ∧
      (∃ Q12 : QT, Spec mX10_sumUp [vR a0, vI a3, vI a1] I R N N Q12 ∧ (∀ I12 R12, Q12 none I12 R12 →
      wp (kN N) mX10_rules Q 24 [vR a0, vI a1, vI a2, vI (a3 + 1)] [] I12 R12 N))))) : wp (kN N) mX10_rules Q 24 [vR a0, vI a1, vI a2, vI a3] [] I R N := by
  refine wp_iload_n (pc' := 25) (q := 3) (i := 3) rfl rfl dX10_rules_24 rfl ?_
  refine wp_iconst (pc' := 26) dX10_rules_25 rfl ?_
  obtain ⟨h1, h⟩ := h
  refine wp_icmp_gt (pc' := 29) (tgt := 41) h1 ⟨by decide, by decide⟩ dX10_rules_26 rfl rfl (fun hc => ?_) (fun hc => ?_)
  · have h := h.1 hc
    refine wp_iload_n (pc' := 42) (q := 2) (i := 2) rfl rfl dX10_rules_41 rfl ?_
    refine wp_iconst (pc' := 43) dX10_rules_42 rfl ?_
    obtain ⟨h2, h⟩ := h
    refine wp_icmp_ge (pc' := 46) (tgt := 52) h2 ⟨by decide, by decide⟩ dX10_rules_43 rfl rfl (fun hc => ?_) (fun hc => ?_)
    · have h := h.1 hc
      refine wp_aload_n (pc' := 53) (q := 0) (i := 0) rfl rfl dX10_rules_52 rfl ?_
      refine wp_iconst (pc' := 54) dX10_rules_53 rfl ?_
      obtain ⟨h4, h⟩ := h
      obtain ⟨Q3, hs3, h⟩ := h
      refine wp_callV (pc' := 57) (as := [vI 0]) (rest := []) hs3 dX10_rules_54 rfl lkX10_204 okX10_bestBy inX10_bestBy seX10_bestBy h4 vc9 ⟨Nat.le_of_ble_eq_true rfl, Nat.le_of_ble_eq_true rfl⟩ (Nat.le_of_ble_eq_true rfl) (Nat.le_refl _) (Nat.le_refl _) okP_eq okP_eq rfl (rvI rfl (fun x3 I3 R3 hq3 => ?_))
      have h := h x3 I3 R3 hq3
      refine wp_istore_n (pc' := 58) (q := 3) (i := 3) (L' := [vR a0, vI a1, vI a2, vI x3]) rfl (by decide) rfl dX10_rules_57 rfl rfl ?_
      refine wp_iload_n (pc' := 59) (q := 3) (i := 3) rfl rfl dX10_rules_58 rfl ?_
      refine wp_aload_n (pc' := 60) (q := 0) (i := 0) rfl rfl dX10_rules_59 rfl ?_
      refine wp_iconst (pc' := 61) dX10_rules_60 rfl ?_
      obtain ⟨Q5, hs5, h⟩ := h
      refine wp_callV (pc' := 64) (as := [vI 1]) (rest := [vI x3]) hs5 dX10_rules_61 rfl lkX10_204 okX10_bestBy inX10_bestBy seX10_bestBy h4 vc9 ⟨Nat.le_of_ble_eq_true rfl, Nat.le_of_ble_eq_true rfl⟩ (Nat.le_of_ble_eq_true rfl) (Nat.le_refl _) (Nat.le_refl _) okP_eq okP_eq rfl (rvI rfl (fun x5 I5 R5 hq5 => ?_))
      have h := h x5 I5 R5 hq5
      obtain ⟨h6, h⟩ := h
      obtain ⟨h7, h⟩ := h
      refine wp_icmp_ne (pc' := 67) (tgt := 80) h6 h7 dX10_rules_64 rfl rfl (fun hc => ?_) (fun hc => ?_)
      · have h := h.1 hc
        exact wp_dropP (leP_d (leP_d (leP_d (leP_d leP_n)))) h
      · have h := h.2 hc
        refine wp_iload_n (pc' := 68) (q := 3) (i := 3) rfl rfl dX10_rules_67 rfl ?_
        refine wp_aload_n (pc' := 69) (q := 0) (i := 0) rfl rfl dX10_rules_68 rfl ?_
        refine wp_iconst (pc' := 70) dX10_rules_69 rfl ?_
        obtain ⟨Q8, hs8, h⟩ := h
        refine wp_callV (pc' := 73) (as := [vI 2]) (rest := [vI x3]) hs8 dX10_rules_70 rfl lkX10_204 okX10_bestBy inX10_bestBy seX10_bestBy h4 vc9 ⟨Nat.le_of_ble_eq_true rfl, Nat.le_of_ble_eq_true rfl⟩ (Nat.le_of_ble_eq_true rfl) (Nat.le_refl _) (Nat.le_refl _) okP_eq okP_eq rfl (rvI rfl (fun x8 I8 R8 hq8 => ?_))
        have h := h x8 I8 R8 hq8
        obtain ⟨h9, h⟩ := h
        refine wp_icmp_ne (pc' := 76) (tgt := 80) h6 h9 dX10_rules_73 rfl rfl (fun hc => ?_) (fun hc => ?_)
        · have h := h.1 hc
          exact wp_dropP (leP_d (leP_d (leP_d (leP_d leP_n)))) h
        · have h := h.2 hc
          refine wp_iload_n (pc' := 77) (q := 3) (i := 3) rfl rfl dX10_rules_76 rfl ?_
          refine wp_goto (tgt := 82) dX10_rules_77 rfl ?_
          exact wp_ireturn dX10_rules_82 rfl rfl h
    · have h := h.2 hc
      refine wp_aload_n (pc' := 47) (q := 0) (i := 0) rfl rfl dX10_rules_46 rfl ?_
      refine wp_iload_n (pc' := 48) (q := 2) (i := 2) rfl rfl dX10_rules_47 rfl ?_
      obtain ⟨h11, h⟩ := h
      obtain ⟨Q10, hs10, h⟩ := h
      refine wp_callV (pc' := 51) (as := [vI a2]) (rest := []) hs10 dX10_rules_48 rfl lkX10_204 okX10_bestBy inX10_bestBy seX10_bestBy h11 vc9 ⟨Nat.le_of_ble_eq_true rfl, Nat.le_of_ble_eq_true rfl⟩ (Nat.le_of_ble_eq_true rfl) (Nat.le_refl _) (Nat.le_refl _) okP_eq okP_eq rfl (rvI rfl (fun x10 I10 R10 hq10 => ?_))
      have h := h x10 I10 R10 hq10
      exact wp_ireturn dX10_rules_51 rfl rfl h
  · have h := h.2 hc
    refine wp_aload_n (pc' := 30) (q := 0) (i := 0) rfl rfl dX10_rules_29 rfl ?_
    refine wp_iload_n (pc' := 31) (q := 3) (i := 3) rfl rfl dX10_rules_30 rfl ?_
    refine wp_iload_n (pc' := 32) (q := 1) (i := 1) rfl rfl dX10_rules_31 rfl ?_
    obtain ⟨h13, h⟩ := h
    obtain ⟨Q12, hs12, h⟩ := h
    refine wp_callV (pc' := 35) (as := [vI a3, vI a1]) (rest := []) hs12 dX10_rules_32 rfl lkX10_200 okX10_sumUp inX10_sumUp seX10_sumUp h13 vc9 ⟨Nat.le_of_ble_eq_true rfl, Nat.le_of_ble_eq_true rfl⟩ (Nat.le_of_ble_eq_true rfl) (Nat.le_refl _) (Nat.le_refl _) okP_eq okP_eq rfl (rvV rfl (fun I12 R12 hq12 => ?_))
    have h := h I12 R12 hq12
    refine wp_iinc (pc' := 38) (i := 3) (L' := [vR a0, vI a1, vI a2, vI (a3 + 1)]) rfl (by decide) rfl dX10_rules_35 rfl rfl ?_
    refine wp_goto (tgt := 24) dX10_rules_38 rfl ?_
    exact h

set_option maxRecDepth 4000 in
theorem gX10_rules_80 {Q : QT} {I : II} {R : RR} {N : Nat} 
    (h : Q (vI (-4)) I R) : wp (kN N) mX10_rules Q 80 [none, none, none, none] [] I R N := by
  refine wp_bipush (pc' := 82) (by decide) dX10_rules_80 rfl ?_
  exact wp_ireturn dX10_rules_82 rfl rfl h

theorem sX10_shout {Q : QT} {I : II} {R : RR} {N : Nat} {a0 : Nat} {a1 : Int} {a2 : Int} (hN : N < 1000) (h : wp (kN N) mX10_shout Q 0 [vR a0, vI a1, vI a2] [] I R N) : Spec mX10_shout [vR a0, vI a1, vI a2] I R N N Q := Spec_of_wp pyX10_shout rfl (Nat.le_of_ble_eq_true rfl) (Nat.le_refl _) hN h

set_option maxRecDepth 4000 in
theorem gX10_shout_0 {Q : QT} {I : II} {R : RR} {N : Nat} {a0 : Nat} {a1 : Int} {a2 : Int}
    (h : (isO N a0 9) ∧
      (isO N (R a0 4) 4) ∧
      (∃ Q3 : QT, Spec mX10_within [vI a1, vI 0, vI ((I (R a0 4) 4) - 1)] I R N N Q3 ∧ (∀ x3 I3 R3, (x3 = 0 ∨ x3 = 1) → Q3 (vI x3) I3 R3 →
      (InI x3) ∧
      ((x3 = 0 →
      wp (kN N) mX10_shout Q 26 [none, none, none] [] I3 R3 N) ∧ (¬ (x3 = 0) →
      (∃ Q5 : QT, Spec mX10_within [vI a2, vI 0, vI 3] I3 R3 N N Q5 ∧ (∀ x5 I5 R5, (x5 = 0 ∨ x5 = 1) → Q5 (vI x5) I5 R5 →
      (InI x5) ∧
      ((¬ x5 = 0 →
      (InI a2) ∧
      ((¬ a2 = 0 →
      ((¬ a2 = (1 : Int) →
      ((¬ a2 = (2 : Int) →
      (isO N (R5 a0 4) 4) ∧
      (isA N (R5 (R5 a0 4) 3) 1 200) ∧
      (0 ≤ a1 ∧ a1 < 200) ∧
      Q (vI (I5 (R5 (R5 a0 4) 3) a1.toNat)) I5 R5) ∧ (a2 = (2 : Int) →
      (isO N (R5 a0 4) 4) ∧
      (isA N (R5 (R5 a0 4) 2) 1 200) ∧
      (0 ≤ a1 ∧ a1 < 200) ∧
      Q (vI (I5 (R5 (R5 a0 4) 2) a1.toNat)) I5 R5))) ∧ (a2 = (1 : Int) →
      (isO N (R5 a0 4) 4) ∧
      (isA N (R5 (R5 a0 4) 1) 1 200) ∧
      (0 ≤ a1 ∧ a1 < 200) ∧
      Q (vI (I5 (R5 (R5 a0 4) 1) a1.toNat)) I5 R5))) ∧ (a2 = 0 →
      (isO N (R5 a0 4) 4) ∧
      (isA N (R5 (R5 a0 4) 0) 1 200) ∧
      (0 ≤ a1 ∧ a1 < 200) ∧
      Q (vI (I5 (R5 (R5 a0 4) 0) a1.toNat)) I5 R5))) ∧ (x5 = 0 →
      wp (kN N) mX10_shout Q 26 [none, none, none] [] I5 R5 N))))))))) : wp (kN N) mX10_shout Q 0 [vR a0, vI a1, vI a2] [] I R N := by
  refine wp_iload_n (pc' := 1) (q := 1) (i := 1) rfl rfl dX10_shout_0 rfl ?_
  refine wp_iconst (pc' := 2) dX10_shout_1 rfl ?_
  refine wp_aload_n (pc' := 3) (q := 0) (i := 0) rfl rfl dX10_shout_2 rfl ?_
  obtain ⟨h1, h⟩ := h
  refine wp_getR (pc' := 6) (k := 4) dX10_shout_3 vc9 (by decide) rfl lfX10_36 h1 rfl ?_
  obtain ⟨h2, h⟩ := h
  refine wp_getI (pc' := 9) (k := 4) dX10_shout_6 vc4 (by decide) rfl lfX10_105 h2 rfl ?_
  refine wp_iconst (pc' := 10) dX10_shout_9 rfl ?_
  refine wp_isub (pc' := 11) dX10_shout_10 rfl ?_
  obtain ⟨Q3, hs3, h⟩ := h
  refine wp_callS (pc' := 14) (as := [vI a1, vI 0, vI ((I (R a0 4) 4) - 1)]) (rest := []) hs3 dX10_shout_11 rfl lkX10_84 okX10_within stX10_within ⟨Nat.le_of_ble_eq_true rfl, Nat.le_of_ble_eq_true rfl⟩ (Nat.le_of_ble_eq_true rfl) (Nat.le_refl _) (Nat.le_refl _) okP_eq okP_eq rfl (rvZ rfl (fun x3 I3 R3 hz3 hq3 => ?_))
  have h := h x3 I3 R3 hz3 hq3
  obtain ⟨h4, h⟩ := h
  refine wp_if_eq (pc' := 17) (tgt := 26) h4 dX10_shout_14 rfl rfl (fun hc => ?_) (fun hc => ?_)
  · have h := h.1 hc
    exact wp_dropP (leP_d (leP_d (leP_d leP_n))) h
  · have h := h.2 hc
    refine wp_iload_n (pc' := 18) (q := 2) (i := 2) rfl rfl dX10_shout_17 rfl ?_
    refine wp_iconst (pc' := 19) dX10_shout_18 rfl ?_
    refine wp_iconst (pc' := 20) dX10_shout_19 rfl ?_
    obtain ⟨Q5, hs5, h⟩ := h
    refine wp_callS (pc' := 23) (as := [vI a2, vI 0, vI 3]) (rest := []) hs5 dX10_shout_20 rfl lkX10_84 okX10_within stX10_within ⟨Nat.le_of_ble_eq_true rfl, Nat.le_of_ble_eq_true rfl⟩ (Nat.le_of_ble_eq_true rfl) (Nat.le_refl _) (Nat.le_refl _) okP_eq okP_eq rfl (rvZ rfl (fun x5 I5 R5 hz5 hq5 => ?_))
    have h := h x5 I5 R5 hz5 hq5
    obtain ⟨h6, h⟩ := h
    refine wp_if_ne (pc' := 26) (tgt := 28) h6 dX10_shout_23 rfl rfl (fun hc => ?_) (fun hc => ?_)
    · have h := h.1 hc
      refine wp_iload_n (pc' := 29) (q := 2) (i := 2) rfl rfl dX10_shout_28 rfl ?_
      obtain ⟨h7, h⟩ := h
      refine wp_if_ne (pc' := 32) (tgt := 42) h7 dX10_shout_29 rfl rfl (fun hc => ?_) (fun hc => ?_)
      · have h := h.1 hc
        refine wp_iload_n (pc' := 43) (q := 2) (i := 2) rfl rfl dX10_shout_42 rfl ?_
        refine wp_iconst (pc' := 44) dX10_shout_43 rfl ?_
        refine wp_icmp_ne (pc' := 47) (tgt := 57) h7 ⟨by decide, by decide⟩ dX10_shout_44 rfl rfl (fun hc => ?_) (fun hc => ?_)
        · have h := h.1 hc
          refine wp_iload_n (pc' := 58) (q := 2) (i := 2) rfl rfl dX10_shout_57 rfl ?_
          refine wp_iconst (pc' := 59) dX10_shout_58 rfl ?_
          refine wp_icmp_ne (pc' := 62) (tgt := 74) h7 ⟨by decide, by decide⟩ dX10_shout_59 rfl rfl (fun hc => ?_) (fun hc => ?_)
          · have h := h.1 hc
            refine wp_aload_n (pc' := 75) (q := 0) (i := 0) rfl rfl dX10_shout_74 rfl ?_
            refine wp_getR (pc' := 78) (k := 4) dX10_shout_75 vc9 (by decide) rfl lfX10_36 h1 rfl ?_
            obtain ⟨h8, h⟩ := h
            refine wp_getR (pc' := 81) (k := 3) dX10_shout_78 vc4 (by decide) rfl lfX10_214 h8 rfl ?_
            refine wp_iload_n (pc' := 82) (q := 1) (i := 1) rfl rfl dX10_shout_81 rfl ?_
            obtain ⟨h9, h⟩ := h
            obtain ⟨h10, h⟩ := h
            refine wp_iald (pc' := 83) (j := a1.toNat) dX10_shout_82 h9 h10 rfl rfl ?_
            exact wp_ireturn dX10_shout_83 rfl rfl h
          · have h := h.2 hc
            refine wp_aload_n (pc' := 63) (q := 0) (i := 0) rfl rfl dX10_shout_62 rfl ?_
            refine wp_getR (pc' := 66) (k := 4) dX10_shout_63 vc9 (by decide) rfl lfX10_36 h1 rfl ?_
            obtain ⟨h11, h⟩ := h
            refine wp_getR (pc' := 69) (k := 2) dX10_shout_66 vc4 (by decide) rfl lfX10_211 h11 rfl ?_
            refine wp_iload_n (pc' := 70) (q := 1) (i := 1) rfl rfl dX10_shout_69 rfl ?_
            obtain ⟨h12, h⟩ := h
            obtain ⟨h13, h⟩ := h
            refine wp_iald (pc' := 71) (j := a1.toNat) dX10_shout_70 h12 h13 rfl rfl ?_
            refine wp_goto (tgt := 83) dX10_shout_71 rfl ?_
            exact wp_ireturn dX10_shout_83 rfl rfl h
        · have h := h.2 hc
          refine wp_aload_n (pc' := 48) (q := 0) (i := 0) rfl rfl dX10_shout_47 rfl ?_
          refine wp_getR (pc' := 51) (k := 4) dX10_shout_48 vc9 (by decide) rfl lfX10_36 h1 rfl ?_
          obtain ⟨h14, h⟩ := h
          refine wp_getR (pc' := 54) (k := 1) dX10_shout_51 vc4 (by decide) rfl lfX10_210 h14 rfl ?_
          refine wp_iload_n (pc' := 55) (q := 1) (i := 1) rfl rfl dX10_shout_54 rfl ?_
          obtain ⟨h15, h⟩ := h
          obtain ⟨h16, h⟩ := h
          refine wp_iald (pc' := 56) (j := a1.toNat) dX10_shout_55 h15 h16 rfl rfl ?_
          exact wp_ireturn dX10_shout_56 rfl rfl h
      · have h := h.2 hc
        refine wp_aload_n (pc' := 33) (q := 0) (i := 0) rfl rfl dX10_shout_32 rfl ?_
        refine wp_getR (pc' := 36) (k := 4) dX10_shout_33 vc9 (by decide) rfl lfX10_36 h1 rfl ?_
        obtain ⟨h17, h⟩ := h
        refine wp_getR (pc' := 39) (k := 0) dX10_shout_36 vc4 (by decide) rfl lfX10_207 h17 rfl ?_
        refine wp_iload_n (pc' := 40) (q := 1) (i := 1) rfl rfl dX10_shout_39 rfl ?_
        obtain ⟨h18, h⟩ := h
        obtain ⟨h19, h⟩ := h
        refine wp_iald (pc' := 41) (j := a1.toNat) dX10_shout_40 h18 h19 rfl rfl ?_
        exact wp_ireturn dX10_shout_41 rfl rfl h
    · have h := h.2 hc
      exact wp_dropP (leP_d (leP_d (leP_d leP_n))) h

set_option maxRecDepth 4000 in
theorem gX10_shout_26 {Q : QT} {I : II} {R : RR} {N : Nat} 
    (h : Q (vI (-1)) I R) : wp (kN N) mX10_shout Q 26 [none, none, none] [] I R N := by
  refine wp_iconst (pc' := 27) dX10_shout_26 rfl ?_
  exact wp_ireturn dX10_shout_27 rfl rfl h

theorem sX10_known {Q : QT} {I : II} {R : RR} {N : Nat} {a0 : Nat} {a1 : Int} (hN : N < 1000) (h : wp (kN N) mX10_known Q 0 [vR a0, vI a1] [] I R N) : Spec mX10_known [vR a0, vI a1] I R N N Q := Spec_of_wp pyX10_known rfl (Nat.le_of_ble_eq_true rfl) (Nat.le_refl _) hN h

set_option maxRecDepth 4000 in
theorem gX10_known_0 {Q : QT} {I : II} {R : RR} {N : Nat} {a0 : Nat} {a1 : Int}
    (h : (isO N a0 9) ∧
      (isO N (R a0 2) 6) ∧
      (∃ Q2 : QT, Spec mX6_has [vR (R a0 2), vI a1] I R N N Q2 ∧ (∀ x2 I2 R2, (x2 = 0 ∨ x2 = 1) → Q2 (vI x2) I2 R2 →
      (InI x2) ∧
      ((x2 = 0 →
      Q (vI (-1)) I2 R2) ∧ (¬ (x2 = 0) →
      (isO N (R2 a0 4) 4) ∧
      (∃ Q5 : QT, Spec mX4_seenOf [vR (R2 a0 4), vR (R2 a0 2), vI a1] I2 R2 N N Q5 ∧ (∀ x5 I5 R5, Q5 (vI x5) I5 R5 →
      Q (vI x5) I5 R5))))))) : wp (kN N) mX10_known Q 0 [vR a0, vI a1] [] I R N := by
  refine wp_aload_n (pc' := 1) (q := 0) (i := 0) rfl rfl dX10_known_0 rfl ?_
  obtain ⟨h1, h⟩ := h
  refine wp_getR (pc' := 4) (k := 2) dX10_known_1 vc9 (by decide) rfl lfX10_26 h1 rfl ?_
  refine wp_iload_n (pc' := 5) (q := 1) (i := 1) rfl rfl dX10_known_4 rfl ?_
  obtain ⟨h3, h⟩ := h
  obtain ⟨Q2, hs2, h⟩ := h
  refine wp_callV (pc' := 8) (as := [vI a1]) (rest := []) hs2 dX10_known_5 rfl lkX10_109 okX6_has inX6_has seX6_has h3 vc6 ⟨Nat.le_of_ble_eq_true rfl, Nat.le_of_ble_eq_true rfl⟩ (Nat.le_of_ble_eq_true rfl) (Nat.le_refl _) (Nat.le_refl _) okP_eq okP_eq rfl (rvZ rfl (fun x2 I2 R2 hz2 hq2 => ?_))
  have h := h x2 I2 R2 hz2 hq2
  obtain ⟨h4, h⟩ := h
  refine wp_if_eq (pc' := 11) (tgt := 26) h4 dX10_known_8 rfl rfl (fun hc => ?_) (fun hc => ?_)
  · have h := h.1 hc
    refine wp_iconst (pc' := 27) dX10_known_26 rfl ?_
    exact wp_ireturn dX10_known_27 rfl rfl h
  · have h := h.2 hc
    refine wp_aload_n (pc' := 12) (q := 0) (i := 0) rfl rfl dX10_known_11 rfl ?_
    refine wp_getR (pc' := 15) (k := 4) dX10_known_12 vc9 (by decide) rfl lfX10_36 h1 rfl ?_
    refine wp_aload_n (pc' := 16) (q := 0) (i := 0) rfl rfl dX10_known_15 rfl ?_
    refine wp_getR (pc' := 19) (k := 2) dX10_known_16 vc9 (by decide) rfl lfX10_26 h1 rfl ?_
    refine wp_iload_n (pc' := 20) (q := 1) (i := 1) rfl rfl dX10_known_19 rfl ?_
    obtain ⟨h6, h⟩ := h
    obtain ⟨Q5, hs5, h⟩ := h
    refine wp_callV (pc' := 23) (as := [vR (R2 a0 2), vI a1]) (rest := []) hs5 dX10_known_20 rfl lkX10_217 okX4_seenOf inX4_seenOf seX4_seenOf h6 vc4 ⟨Nat.le_of_ble_eq_true rfl, Nat.le_of_ble_eq_true rfl⟩ (Nat.le_of_ble_eq_true rfl) (Nat.le_refl _) (Nat.le_refl _) okP_eq okP_eq rfl (rvI rfl (fun x5 I5 R5 hq5 => ?_))
    have h := h x5 I5 R5 hq5
    refine wp_goto (tgt := 27) dX10_known_23 rfl ?_
    exact wp_ireturn dX10_known_27 rfl rfl h

theorem sX10_least {Q : QT} {I : II} {R : RR} {N : Nat} {a0 : Nat} {a1 : Int} (hN : N < 1000) (h : wp (kN N) mX10_least Q 0 [vR a0, vI a1, none] [] I R N) : Spec mX10_least [vR a0, vI a1] I R N N Q := Spec_of_wp pyX10_least rfl (Nat.le_of_ble_eq_true rfl) (Nat.le_refl _) hN h

set_option maxRecDepth 4000 in
theorem gX10_least_0 {Q : QT} {I : II} {R : RR} {N : Nat} {a0 : Nat} {a1 : Int}
    (h : (∃ Q1 : QT, Spec mX10_within [vI a1, vI 0, vI 1] I R N N Q1 ∧ (∀ x1 I1 R1, (x1 = 0 ∨ x1 = 1) → Q1 (vI x1) I1 R1 →
      (InI x1) ∧
      ((¬ x1 = 0 →
      (isO N a0 9) ∧
      (isO N (R1 a0 7) 3) ∧
      (∃ Q4 : QT, Spec mX3_empty [vR (R1 a0 7)] I1 R1 N N Q4 ∧ (∀ I4 R4, Q4 none I4 R4 →
      wp (kN N) mX10_least Q 20 [vR a0, vI a1, vI 0] [] I4 R4 N))) ∧ (x1 = 0 →
      Q (vI (-1)) I1 R1))))) : wp (kN N) mX10_least Q 0 [vR a0, vI a1, none] [] I R N := by
  refine wp_iload_n (pc' := 1) (q := 1) (i := 1) rfl rfl dX10_least_0 rfl ?_
  refine wp_iconst (pc' := 2) dX10_least_1 rfl ?_
  refine wp_iconst (pc' := 3) dX10_least_2 rfl ?_
  obtain ⟨Q1, hs1, h⟩ := h
  refine wp_callS (pc' := 6) (as := [vI a1, vI 0, vI 1]) (rest := []) hs1 dX10_least_3 rfl lkX10_84 okX10_within stX10_within ⟨Nat.le_of_ble_eq_true rfl, Nat.le_of_ble_eq_true rfl⟩ (Nat.le_of_ble_eq_true rfl) (Nat.le_refl _) (Nat.le_refl _) okP_eq okP_eq rfl (rvZ rfl (fun x1 I1 R1 hz1 hq1 => ?_))
  have h := h x1 I1 R1 hz1 hq1
  obtain ⟨h2, h⟩ := h
  refine wp_if_ne (pc' := 9) (tgt := 11) h2 dX10_least_6 rfl rfl (fun hc => ?_) (fun hc => ?_)
  · have h := h.1 hc
    refine wp_aload_n (pc' := 12) (q := 0) (i := 0) rfl rfl dX10_least_11 rfl ?_
    obtain ⟨h3, h⟩ := h
    refine wp_getR (pc' := 15) (k := 7) dX10_least_12 vc9 (by decide) rfl lfX10_53 h3 rfl ?_
    obtain ⟨h5, h⟩ := h
    obtain ⟨Q4, hs4, h⟩ := h
    refine wp_callV (pc' := 18) (as := []) (rest := []) hs4 dX10_least_15 rfl lkX10_221 okX3_empty inX3_empty seX3_empty h5 vc3 ⟨Nat.le_of_ble_eq_true rfl, Nat.le_of_ble_eq_true rfl⟩ (Nat.le_of_ble_eq_true rfl) (Nat.le_refl _) (Nat.le_refl _) okP_eq okP_eq rfl (rvV rfl (fun I4 R4 hq4 => ?_))
    have h := h I4 R4 hq4
    refine wp_iconst (pc' := 19) dX10_least_18 rfl ?_
    refine wp_istore_n (pc' := 20) (q := 2) (i := 2) (L' := [vR a0, vI a1, vI 0]) rfl (by decide) rfl dX10_least_19 rfl rfl ?_
    exact h
  · have h := h.2 hc
    refine wp_iconst (pc' := 10) dX10_least_9 rfl ?_
    exact wp_ireturn dX10_least_10 rfl rfl h

set_option maxRecDepth 4000 in
theorem gX10_least_20 {Q : QT} {I : II} {R : RR} {N : Nat} {a0 : Nat} {a1 : Int} {a2 : Int}
    (h : (isO N a0 9) ∧
      (isO N (R a0 2) 6) ∧
      (InI a2) ∧
      (InI (I (R a0 2) 5)) ∧
      (((I (R a0 2) 5) ≤ a2 →
      (isO N (R a0 7) 3) ∧
      (∃ Q5 : QT, Spec mX3_cross [vR (R a0 7), vI (I (R a0 2) 9)] I R N N Q5 ∧ (∀ I5 R5, Q5 none I5 R5 →
      (InI a1) ∧
      ((¬ a1 = 0 →
      (isO N (R5 a0 7) 3) ∧
      Q (vI (I5 (R5 a0 7) 3)) I5 R5) ∧ (a1 = 0 →
      (isO N (R5 a0 7) 3) ∧
      Q (vI (I5 (R5 a0 7) 2)) I5 R5))))) ∧ (¬ (I (R a0 2) 5) ≤ a2 →
      (isO N (R a0 4) 4) ∧
      (∃ Q10 : QT, Spec mX4_seenOf [vR (R a0 4), vR (R a0 2), vI a2] I R N N Q10 ∧ (∀ x10 I10 R10, Q10 (vI x10) I10 R10 →
      (isO N (R a0 7) 3) ∧
      (∃ Q12 : QT, Spec mX3_put [vR (R a0 7), vR (R a0 2), vI a2, vI x10] I10 R10 N N Q12 ∧ (∀ I12 R12, Q12 none I12 R12 →
      wp (kN N) mX10_least Q 20 [vR a0, vI a1, vI (a2 + 1)] [] I12 R12 N))))))) : wp (kN N) mX10_least Q 20 [vR a0, vI a1, vI a2] [] I R N := by
  refine wp_iload_n (pc' := 21) (q := 2) (i := 2) rfl rfl dX10_least_20 rfl ?_
  refine wp_aload_n (pc' := 22) (q := 0) (i := 0) rfl rfl dX10_least_21 rfl ?_
  obtain ⟨h1, h⟩ := h
  refine wp_getR (pc' := 25) (k := 2) dX10_least_22 vc9 (by decide) rfl lfX10_26 h1 rfl ?_
  obtain ⟨h2, h⟩ := h
  refine wp_getI (pc' := 28) (k := 5) dX10_least_25 vc6 (by decide) rfl lfX10_106 h2 rfl ?_
  obtain ⟨h3, h⟩ := h
  obtain ⟨h4, h⟩ := h
  refine wp_icmp_ge (pc' := 31) (tgt := 61) h3 h4 dX10_least_28 rfl rfl (fun hc => ?_) (fun hc => ?_)
  · have h := h.1 hc
    refine wp_aload_n (pc' := 62) (q := 0) (i := 0) rfl rfl dX10_least_61 rfl ?_
    refine wp_getR (pc' := 65) (k := 7) dX10_least_62 vc9 (by decide) rfl lfX10_53 h1 rfl ?_
    refine wp_aload_n (pc' := 66) (q := 0) (i := 0) rfl rfl dX10_least_65 rfl ?_
    refine wp_getR (pc' := 69) (k := 2) dX10_least_66 vc9 (by decide) rfl lfX10_26 h1 rfl ?_
    refine wp_getI (pc' := 72) (k := 9) dX10_least_69 vc6 (by decide) rfl lfX10_124 h2 rfl ?_
    obtain ⟨h6, h⟩ := h
    obtain ⟨Q5, hs5, h⟩ := h
    refine wp_callV (pc' := 75) (as := [vI (I (R a0 2) 9)]) (rest := []) hs5 dX10_least_72 rfl lkX10_228 okX3_cross inX3_cross seX3_cross h6 vc3 ⟨Nat.le_of_ble_eq_true rfl, Nat.le_of_ble_eq_true rfl⟩ (Nat.le_of_ble_eq_true rfl) (Nat.le_refl _) (Nat.le_refl _) okP_eq okP_eq rfl (rvV rfl (fun I5 R5 hq5 => ?_))
    have h := h I5 R5 hq5
    refine wp_iload_n (pc' := 76) (q := 1) (i := 1) rfl rfl dX10_least_75 rfl ?_
    obtain ⟨h7, h⟩ := h
    refine wp_if_ne (pc' := 79) (tgt := 89) h7 dX10_least_76 rfl rfl (fun hc => ?_) (fun hc => ?_)
    · have h := h.1 hc
      refine wp_aload_n (pc' := 90) (q := 0) (i := 0) rfl rfl dX10_least_89 rfl ?_
      refine wp_getR (pc' := 93) (k := 7) dX10_least_90 vc9 (by decide) rfl lfX10_53 h1 rfl ?_
      obtain ⟨h8, h⟩ := h
      refine wp_getI (pc' := 96) (k := 3) dX10_least_93 vc3 (by decide) rfl lfX10_134 h8 rfl ?_
      exact wp_ireturn dX10_least_96 rfl rfl h
    · have h := h.2 hc
      refine wp_aload_n (pc' := 80) (q := 0) (i := 0) rfl rfl dX10_least_79 rfl ?_
      refine wp_getR (pc' := 83) (k := 7) dX10_least_80 vc9 (by decide) rfl lfX10_53 h1 rfl ?_
      obtain ⟨h9, h⟩ := h
      refine wp_getI (pc' := 86) (k := 2) dX10_least_83 vc3 (by decide) rfl lfX10_131 h9 rfl ?_
      refine wp_goto (tgt := 96) dX10_least_86 rfl ?_
      exact wp_ireturn dX10_least_96 rfl rfl h
  · have h := h.2 hc
    refine wp_aload_n (pc' := 32) (q := 0) (i := 0) rfl rfl dX10_least_31 rfl ?_
    refine wp_getR (pc' := 35) (k := 7) dX10_least_32 vc9 (by decide) rfl lfX10_53 h1 rfl ?_
    refine wp_aload_n (pc' := 36) (q := 0) (i := 0) rfl rfl dX10_least_35 rfl ?_
    refine wp_getR (pc' := 39) (k := 2) dX10_least_36 vc9 (by decide) rfl lfX10_26 h1 rfl ?_
    refine wp_iload_n (pc' := 40) (q := 2) (i := 2) rfl rfl dX10_least_39 rfl ?_
    refine wp_aload_n (pc' := 41) (q := 0) (i := 0) rfl rfl dX10_least_40 rfl ?_
    refine wp_getR (pc' := 44) (k := 4) dX10_least_41 vc9 (by decide) rfl lfX10_36 h1 rfl ?_
    refine wp_aload_n (pc' := 45) (q := 0) (i := 0) rfl rfl dX10_least_44 rfl ?_
    refine wp_getR (pc' := 48) (k := 2) dX10_least_45 vc9 (by decide) rfl lfX10_26 h1 rfl ?_
    refine wp_iload_n (pc' := 49) (q := 2) (i := 2) rfl rfl dX10_least_48 rfl ?_
    obtain ⟨h11, h⟩ := h
    obtain ⟨Q10, hs10, h⟩ := h
    refine wp_callV (pc' := 52) (as := [vR (R a0 2), vI a2]) (rest := [vI a2, vR (R a0 2), vR (R a0 7)]) hs10 dX10_least_49 rfl lkX10_217 okX4_seenOf inX4_seenOf seX4_seenOf h11 vc4 ⟨Nat.le_of_ble_eq_true rfl, Nat.le_of_ble_eq_true rfl⟩ (Nat.le_of_ble_eq_true rfl) (Nat.le_refl _) (Nat.le_refl _) okP_eq okP_eq rfl (rvI rfl (fun x10 I10 R10 hq10 => ?_))
    have h := h x10 I10 R10 hq10
    obtain ⟨h13, h⟩ := h
    obtain ⟨Q12, hs12, h⟩ := h
    refine wp_callV (pc' := 55) (as := [vR (R a0 2), vI a2, vI x10]) (rest := []) hs12 dX10_least_52 rfl lkX10_224 okX3_put inX3_put seX3_put h13 vc3 ⟨Nat.le_of_ble_eq_true rfl, Nat.le_of_ble_eq_true rfl⟩ (Nat.le_of_ble_eq_true rfl) (Nat.le_refl _) (Nat.le_refl _) okP_eq okP_eq rfl (rvV rfl (fun I12 R12 hq12 => ?_))
    have h := h I12 R12 hq12
    refine wp_iinc (pc' := 58) (i := 2) (L' := [vR a0, vI a1, vI (a2 + 1)]) rfl (by decide) rfl dX10_least_55 rfl rfl ?_
    refine wp_goto (tgt := 20) dX10_least_58 rfl ?_
    exact h

theorem sX10_laws {Q : QT} {I : II} {R : RR} {N : Nat} {a0 : Nat} {a1 : Int} (hN : N < 1000) (h : wp (kN N) mX10_laws Q 0 [vR a0, vI a1, none, none] [] I R N) : Spec mX10_laws [vR a0, vI a1] I R N N Q := Spec_of_wp pyX10_laws rfl (Nat.le_of_ble_eq_true rfl) (Nat.le_refl _) hN h

set_option maxRecDepth 4000 in
theorem gX10_laws_0 {Q : QT} {I : II} {R : RR} {N : Nat} {a0 : Nat} {a1 : Int}
    (h : (isO N a0 9) ∧
      (isO N (R a0 2) 6) ∧
      (∃ Q2 : QT, Spec mX6_has [vR (R a0 2), vI a1] I R N N Q2 ∧ (∀ x2 I2 R2, (x2 = 0 ∨ x2 = 1) → Q2 (vI x2) I2 R2 →
      (InI x2) ∧
      ((¬ x2 = 0 →
      wp (kN N) mX10_laws Q 17 [vR a0, vI a1, vI 0, vI 0] [] I2 R2 N) ∧ (x2 = 0 →
      Q (vI (-1)) I2 R2))))) : wp (kN N) mX10_laws Q 0 [vR a0, vI a1, none, none] [] I R N := by
  refine wp_aload_n (pc' := 1) (q := 0) (i := 0) rfl rfl dX10_laws_0 rfl ?_
  obtain ⟨h1, h⟩ := h
  refine wp_getR (pc' := 4) (k := 2) dX10_laws_1 vc9 (by decide) rfl lfX10_26 h1 rfl ?_
  refine wp_iload_n (pc' := 5) (q := 1) (i := 1) rfl rfl dX10_laws_4 rfl ?_
  obtain ⟨h3, h⟩ := h
  obtain ⟨Q2, hs2, h⟩ := h
  refine wp_callV (pc' := 8) (as := [vI a1]) (rest := []) hs2 dX10_laws_5 rfl lkX10_109 okX6_has inX6_has seX6_has h3 vc6 ⟨Nat.le_of_ble_eq_true rfl, Nat.le_of_ble_eq_true rfl⟩ (Nat.le_of_ble_eq_true rfl) (Nat.le_refl _) (Nat.le_refl _) okP_eq okP_eq rfl (rvZ rfl (fun x2 I2 R2 hz2 hq2 => ?_))
  have h := h x2 I2 R2 hz2 hq2
  obtain ⟨h4, h⟩ := h
  refine wp_if_ne (pc' := 11) (tgt := 13) h4 dX10_laws_8 rfl rfl (fun hc => ?_) (fun hc => ?_)
  · have h := h.1 hc
    refine wp_iconst (pc' := 14) dX10_laws_13 rfl ?_
    refine wp_istore_n (pc' := 15) (q := 2) (i := 2) (L' := [vR a0, vI a1, vI 0, none]) rfl (by decide) rfl dX10_laws_14 rfl rfl ?_
    refine wp_iconst (pc' := 16) dX10_laws_15 rfl ?_
    refine wp_istore_n (pc' := 17) (q := 3) (i := 3) (L' := [vR a0, vI a1, vI 0, vI 0]) rfl (by decide) rfl dX10_laws_16 rfl rfl ?_
    exact h
  · have h := h.2 hc
    refine wp_iconst (pc' := 12) dX10_laws_11 rfl ?_
    exact wp_ireturn dX10_laws_12 rfl rfl h

set_option maxRecDepth 4000 in
theorem gX10_laws_17 {Q : QT} {I : II} {R : RR} {N : Nat} {a0 : Nat} {a1 : Int} {a2 : Int} {a3 : Int}
    (h : (InI a3) ∧
      (((5 : Int) < a3 →
      Q (vI a2) I R) ∧ (¬ (5 : Int) < a3 →
      (isO N a0 9) ∧
      (isO N (R a0 4) 4) ∧
      (∃ Q3 : QT, Spec mX4_mayBeBy [vR (R a0 4), vR (R a0 2), vI a1, vI a3] I R N N Q3 ∧ (∀ x3 I3 R3, (x3 = 0 ∨ x3 = 1) → Q3 (vI x3) I3 R3 →
      (InI x3) ∧
      ((x3 = 0 →
      wp (kN N) mX10_laws Q 44 [vR a0, vI a1, vI a2, vI a3] [] I3 R3 N) ∧ (¬ (x3 = 0) →
      wp (kN N) mX10_laws Q 44 [vR a0, vI a1, vI (i32 a2 ||| i32 ((i32 1 <<< (i32 a3 &&& 31)).toInt)).toInt, vI a3] [] I3 R3 N))))))) : wp (kN N) mX10_laws Q 17 [vR a0, vI a1, vI a2, vI a3] [] I R N := by
  refine wp_iload_n (pc' := 18) (q := 3) (i := 3) rfl rfl dX10_laws_17 rfl ?_
  refine wp_iconst (pc' := 19) dX10_laws_18 rfl ?_
  obtain ⟨h1, h⟩ := h
  refine wp_icmp_gt (pc' := 22) (tgt := 50) h1 ⟨by decide, by decide⟩ dX10_laws_19 rfl rfl (fun hc => ?_) (fun hc => ?_)
  · have h := h.1 hc
    refine wp_iload_n (pc' := 51) (q := 2) (i := 2) rfl rfl dX10_laws_50 rfl ?_
    exact wp_ireturn dX10_laws_51 rfl rfl h
  · have h := h.2 hc
    refine wp_aload_n (pc' := 23) (q := 0) (i := 0) rfl rfl dX10_laws_22 rfl ?_
    obtain ⟨h2, h⟩ := h
    refine wp_getR (pc' := 26) (k := 4) dX10_laws_23 vc9 (by decide) rfl lfX10_36 h2 rfl ?_
    refine wp_aload_n (pc' := 27) (q := 0) (i := 0) rfl rfl dX10_laws_26 rfl ?_
    refine wp_getR (pc' := 30) (k := 2) dX10_laws_27 vc9 (by decide) rfl lfX10_26 h2 rfl ?_
    refine wp_iload_n (pc' := 31) (q := 1) (i := 1) rfl rfl dX10_laws_30 rfl ?_
    refine wp_iload_n (pc' := 32) (q := 3) (i := 3) rfl rfl dX10_laws_31 rfl ?_
    obtain ⟨h4, h⟩ := h
    obtain ⟨Q3, hs3, h⟩ := h
    refine wp_callV (pc' := 35) (as := [vR (R a0 2), vI a1, vI a3]) (rest := []) hs3 dX10_laws_32 rfl lkX10_231 okX4_mayBeBy inX4_mayBeBy seX4_mayBeBy h4 vc4 ⟨Nat.le_of_ble_eq_true rfl, Nat.le_of_ble_eq_true rfl⟩ (Nat.le_of_ble_eq_true rfl) (Nat.le_refl _) (Nat.le_refl _) okP_eq okP_eq rfl (rvZ rfl (fun x3 I3 R3 hz3 hq3 => ?_))
    have h := h x3 I3 R3 hz3 hq3
    obtain ⟨h5, h⟩ := h
    refine wp_if_eq (pc' := 38) (tgt := 44) h5 dX10_laws_35 rfl rfl (fun hc => ?_) (fun hc => ?_)
    · have h := h.1 hc
      exact h
    · have h := h.2 hc
      refine wp_iload_n (pc' := 39) (q := 2) (i := 2) rfl rfl dX10_laws_38 rfl ?_
      refine wp_iconst (pc' := 40) dX10_laws_39 rfl ?_
      refine wp_iload_n (pc' := 41) (q := 3) (i := 3) rfl rfl dX10_laws_40 rfl ?_
      refine wp_ishl (pc' := 42) dX10_laws_41 rfl ?_
      refine wp_ior (pc' := 43) dX10_laws_42 rfl ?_
      refine wp_istore_n (pc' := 44) (q := 2) (i := 2) (L' := [vR a0, vI a1, vI (i32 a2 ||| i32 ((i32 1 <<< (i32 a3 &&& 31)).toInt)).toInt, vI a3]) rfl (by decide) rfl dX10_laws_43 rfl rfl ?_
      exact h

set_option maxRecDepth 4000 in
theorem gX10_laws_44 {Q : QT} {I : II} {R : RR} {N : Nat} {a0 : Nat} {a1 : Int} {a2 : Int} {a3 : Int}
    (h : wp (kN N) mX10_laws Q 17 [vR a0, vI a1, vI a2, vI (a3 + 1)] [] I R N) : wp (kN N) mX10_laws Q 44 [vR a0, vI a1, vI a2, vI a3] [] I R N := by
  refine wp_iinc (pc' := 47) (i := 3) (L' := [vR a0, vI a1, vI a2, vI (a3 + 1)]) rfl (by decide) rfl dX10_laws_44 rfl rfl ?_
  refine wp_goto (tgt := 17) dX10_laws_47 rfl ?_
  exact h

theorem sX10_two {Q : QT} {I : II} {R : RR} {N : Nat} {a0 : Nat} {a1 : Int} {a2 : Int} {a3 : Int} (hN : N < 1000) (h : wp (kN N) mX10_two Q 0 [vR a0, vI a1, vI a2, vI a3, none, none] [] I R N) : Spec mX10_two [vR a0, vI a1, vI a2, vI a3] I R N N Q := Spec_of_wp pyX10_two rfl (Nat.le_of_ble_eq_true rfl) (Nat.le_refl _) hN h

set_option maxRecDepth 4000 in
theorem gX10_two_0 {Q : QT} {I : II} {R : RR} {N : Nat} {a0 : Nat} {a1 : Int} {a2 : Int} {a3 : Int}
    (h : (isO N a0 9) ∧
      (isO N (R a0 2) 6) ∧
      (∃ Q3 : QT, Spec mX10_within [vI a1, vI 0, vI ((i32 1 <<< (i32 (I (R a0 2) 5) &&& 31)).toInt - 1)] I R N N Q3 ∧ (∀ x3 I3 R3, (x3 = 0 ∨ x3 = 1) → Q3 (vI x3) I3 R3 →
      (InI x3) ∧
      ((x3 = 0 →
      wp (kN N) mX10_two Q 38 [none, none, none, none, none, none] [] I3 R3 N) ∧ (¬ (x3 = 0) →
      (∃ Q5 : QT, Spec mX10_within [vI a2, vI 0, vI 99] I3 R3 N N Q5 ∧ (∀ x5 I5 R5, (x5 = 0 ∨ x5 = 1) → Q5 (vI x5) I5 R5 →
      (InI x5) ∧
      ((x5 = 0 →
      wp (kN N) mX10_two Q 38 [none, none, none, none, none, none] [] I5 R5 N) ∧ (¬ (x5 = 0) →
      (∃ Q7 : QT, Spec mX10_within [vI a3, vI 0, vI 1] I5 R5 N N Q7 ∧ (∀ x7 I7 R7, (x7 = 0 ∨ x7 = 1) → Q7 (vI x7) I7 R7 →
      (InI x7) ∧
      ((¬ x7 = 0 →
      (isO N (R7 a0 7) 3) ∧
      (∃ Q9 : QT, Spec mX3_empty [vR (R7 a0 7)] I7 R7 N N Q9 ∧ (∀ I9 R9, Q9 none I9 R9 →
      (isO N (R9 a0 8) 3) ∧
      (∃ Q11 : QT, Spec mX3_empty [vR (R9 a0 8)] I9 R9 N N Q11 ∧ (∀ I11 R11, Q11 none I11 R11 →
      wp (kN N) mX10_two Q 59 [vR a0, vI a1, vI a2, vI a3, vI 0, none] [] I11 R11 N))))) ∧ (x7 = 0 →
      wp (kN N) mX10_two Q 38 [none, none, none, none, none, none] [] I7 R7 N))))))))))))) : wp (kN N) mX10_two Q 0 [vR a0, vI a1, vI a2, vI a3, none, none] [] I R N := by
  refine wp_iload_n (pc' := 1) (q := 1) (i := 1) rfl rfl dX10_two_0 rfl ?_
  refine wp_iconst (pc' := 2) dX10_two_1 rfl ?_
  refine wp_iconst (pc' := 3) dX10_two_2 rfl ?_
  refine wp_aload_n (pc' := 4) (q := 0) (i := 0) rfl rfl dX10_two_3 rfl ?_
  obtain ⟨h1, h⟩ := h
  refine wp_getR (pc' := 7) (k := 2) dX10_two_4 vc9 (by decide) rfl lfX10_26 h1 rfl ?_
  obtain ⟨h2, h⟩ := h
  refine wp_getI (pc' := 10) (k := 5) dX10_two_7 vc6 (by decide) rfl lfX10_106 h2 rfl ?_
  refine wp_ishl (pc' := 11) dX10_two_10 rfl ?_
  refine wp_iconst (pc' := 12) dX10_two_11 rfl ?_
  refine wp_isub (pc' := 13) dX10_two_12 rfl ?_
  obtain ⟨Q3, hs3, h⟩ := h
  refine wp_callS (pc' := 16) (as := [vI a1, vI 0, vI ((i32 1 <<< (i32 (I (R a0 2) 5) &&& 31)).toInt - 1)]) (rest := []) hs3 dX10_two_13 rfl lkX10_84 okX10_within stX10_within ⟨Nat.le_of_ble_eq_true rfl, Nat.le_of_ble_eq_true rfl⟩ (Nat.le_of_ble_eq_true rfl) (Nat.le_refl _) (Nat.le_refl _) okP_eq okP_eq rfl (rvZ rfl (fun x3 I3 R3 hz3 hq3 => ?_))
  have h := h x3 I3 R3 hz3 hq3
  obtain ⟨h4, h⟩ := h
  refine wp_if_eq (pc' := 19) (tgt := 38) h4 dX10_two_16 rfl rfl (fun hc => ?_) (fun hc => ?_)
  · have h := h.1 hc
    exact wp_dropP (leP_d (leP_d (leP_d (leP_d (leP_s (leP_s leP_n)))))) h
  · have h := h.2 hc
    refine wp_iload_n (pc' := 20) (q := 2) (i := 2) rfl rfl dX10_two_19 rfl ?_
    refine wp_iconst (pc' := 21) dX10_two_20 rfl ?_
    refine wp_bipush (pc' := 23) (by decide) dX10_two_21 rfl ?_
    obtain ⟨Q5, hs5, h⟩ := h
    refine wp_callS (pc' := 26) (as := [vI a2, vI 0, vI 99]) (rest := []) hs5 dX10_two_23 rfl lkX10_84 okX10_within stX10_within ⟨Nat.le_of_ble_eq_true rfl, Nat.le_of_ble_eq_true rfl⟩ (Nat.le_of_ble_eq_true rfl) (Nat.le_refl _) (Nat.le_refl _) okP_eq okP_eq rfl (rvZ rfl (fun x5 I5 R5 hz5 hq5 => ?_))
    have h := h x5 I5 R5 hz5 hq5
    obtain ⟨h6, h⟩ := h
    refine wp_if_eq (pc' := 29) (tgt := 38) h6 dX10_two_26 rfl rfl (fun hc => ?_) (fun hc => ?_)
    · have h := h.1 hc
      exact wp_dropP (leP_d (leP_d (leP_d (leP_d (leP_s (leP_s leP_n)))))) h
    · have h := h.2 hc
      refine wp_iload_n (pc' := 30) (q := 3) (i := 3) rfl rfl dX10_two_29 rfl ?_
      refine wp_iconst (pc' := 31) dX10_two_30 rfl ?_
      refine wp_iconst (pc' := 32) dX10_two_31 rfl ?_
      obtain ⟨Q7, hs7, h⟩ := h
      refine wp_callS (pc' := 35) (as := [vI a3, vI 0, vI 1]) (rest := []) hs7 dX10_two_32 rfl lkX10_84 okX10_within stX10_within ⟨Nat.le_of_ble_eq_true rfl, Nat.le_of_ble_eq_true rfl⟩ (Nat.le_of_ble_eq_true rfl) (Nat.le_refl _) (Nat.le_refl _) okP_eq okP_eq rfl (rvZ rfl (fun x7 I7 R7 hz7 hq7 => ?_))
      have h := h x7 I7 R7 hz7 hq7
      obtain ⟨h8, h⟩ := h
      refine wp_if_ne (pc' := 38) (tgt := 42) h8 dX10_two_35 rfl rfl (fun hc => ?_) (fun hc => ?_)
      · have h := h.1 hc
        refine wp_aload_n (pc' := 43) (q := 0) (i := 0) rfl rfl dX10_two_42 rfl ?_
        refine wp_getR (pc' := 46) (k := 7) dX10_two_43 vc9 (by decide) rfl lfX10_53 h1 rfl ?_
        obtain ⟨h10, h⟩ := h
        obtain ⟨Q9, hs9, h⟩ := h
        refine wp_callV (pc' := 49) (as := []) (rest := []) hs9 dX10_two_46 rfl lkX10_221 okX3_empty inX3_empty seX3_empty h10 vc3 ⟨Nat.le_of_ble_eq_true rfl, Nat.le_of_ble_eq_true rfl⟩ (Nat.le_of_ble_eq_true rfl) (Nat.le_refl _) (Nat.le_refl _) okP_eq okP_eq rfl (rvV rfl (fun I9 R9 hq9 => ?_))
        have h := h I9 R9 hq9
        refine wp_aload_n (pc' := 50) (q := 0) (i := 0) rfl rfl dX10_two_49 rfl ?_
        refine wp_getR (pc' := 53) (k := 8) dX10_two_50 vc9 (by decide) rfl lfX10_57 h1 rfl ?_
        obtain ⟨h12, h⟩ := h
        obtain ⟨Q11, hs11, h⟩ := h
        refine wp_callV (pc' := 56) (as := []) (rest := []) hs11 dX10_two_53 rfl lkX10_221 okX3_empty inX3_empty seX3_empty h12 vc3 ⟨Nat.le_of_ble_eq_true rfl, Nat.le_of_ble_eq_true rfl⟩ (Nat.le_of_ble_eq_true rfl) (Nat.le_refl _) (Nat.le_refl _) okP_eq okP_eq rfl (rvV rfl (fun I11 R11 hq11 => ?_))
        have h := h I11 R11 hq11
        refine wp_iconst (pc' := 57) dX10_two_56 rfl ?_
        refine wp_istore (pc' := 59) (i := 4) (L' := [vR a0, vI a1, vI a2, vI a3, vI 0, none]) (by decide) rfl dX10_two_57 rfl rfl ?_
        exact h
      · have h := h.2 hc
        exact wp_dropP (leP_d (leP_d (leP_d (leP_d (leP_s (leP_s leP_n)))))) h

set_option maxRecDepth 4000 in
theorem gX10_two_38 {Q : QT} {I : II} {R : RR} {N : Nat} 
    (h : Q (vI (-10000)) I R) : wp (kN N) mX10_two Q 38 [none, none, none, none, none, none] [] I R N := by
  refine wp_sipush (pc' := 41) (by decide) dX10_two_38 rfl ?_
  exact wp_ireturn dX10_two_41 rfl rfl h

set_option maxRecDepth 4000 in
theorem gX10_two_59 {Q : QT} {I : II} {R : RR} {N : Nat} {a0 : Nat} {a1 : Int} {a2 : Int} {a3 : Int} {a4 : Int}
    (h : (isO N a0 9) ∧
      (isO N (R a0 2) 6) ∧
      (InI a4) ∧
      (InI (I (R a0 2) 5)) ∧
      (((I (R a0 2) 5) ≤ a4 →
      (isO N (R a0 10) 0) ∧
      (∃ Q5 : QT, Spec mX0_choose [vR (R a0 10), vR (R a0 7), vR (R a0 8), vI a2] I R N N Q5 ∧ (∀ I5 R5, Q5 none I5 R5 →
      (InI a3) ∧
      ((¬ a3 = 0 →
      (isO N (R5 a0 10) 0) ∧
      Q (vI (I5 (R5 a0 10) 1)) I5 R5) ∧ (a3 = 0 →
      (isO N (R5 a0 10) 0) ∧
      Q (vI (I5 (R5 a0 10) 0)) I5 R5))))) ∧ (¬ (I (R a0 2) 5) ≤ a4 →
      (InI ((i32 ((i32 a1 >>> (i32 a4 &&& 31)).toInt) &&& i32 1).toInt)) ∧
      ((¬ (i32 ((i32 a1 >>> (i32 a4 &&& 31)).toInt) &&& i32 1).toInt = (1 : Int) →
      (0 < (R a0 7)) ∧
      (isA N (R (R a0 2) 1) 1 20) ∧
      (0 ≤ a4 ∧ a4 < 20) ∧
      (isO N (R a0 7) 3) ∧
      (∃ Q14 : QT, Spec mX3_put [vR (R a0 7), vR (R a0 2), vI a4, vI (I (R (R a0 2) 1) a4.toNat)] I R N N Q14 ∧ (∀ I14 R14, Q14 none I14 R14 →
      wp (kN N) mX10_two Q 59 [vR a0, vI a1, vI a2, vI a3, vI (a4 + 1), none] [] I14 R14 N))) ∧ ((i32 ((i32 a1 >>> (i32 a4 &&& 31)).toInt) &&& i32 1).toInt = (1 : Int) →
      (0 < (R a0 8)) ∧
      (isA N (R (R a0 2) 1) 1 20) ∧
      (0 ≤ a4 ∧ a4 < 20) ∧
      (isO N (R a0 8) 3) ∧
      (∃ Q19 : QT, Spec mX3_put [vR (R a0 8), vR (R a0 2), vI a4, vI (I (R (R a0 2) 1) a4.toNat)] I R N N Q19 ∧ (∀ I19 R19, Q19 none I19 R19 →
      wp (kN N) mX10_two Q 59 [vR a0, vI a1, vI a2, vI a3, vI (a4 + 1), none] [] I19 R19 N))))))) : wp (kN N) mX10_two Q 59 [vR a0, vI a1, vI a2, vI a3, vI a4, none] [] I R N := by
  refine wp_iload (pc' := 61) (i := 4) rfl dX10_two_59 rfl ?_
  refine wp_aload_n (pc' := 62) (q := 0) (i := 0) rfl rfl dX10_two_61 rfl ?_
  obtain ⟨h1, h⟩ := h
  refine wp_getR (pc' := 65) (k := 2) dX10_two_62 vc9 (by decide) rfl lfX10_26 h1 rfl ?_
  obtain ⟨h2, h⟩ := h
  refine wp_getI (pc' := 68) (k := 5) dX10_two_65 vc6 (by decide) rfl lfX10_106 h2 rfl ?_
  obtain ⟨h3, h⟩ := h
  obtain ⟨h4, h⟩ := h
  refine wp_icmp_ge (pc' := 71) (tgt := 121) h3 h4 dX10_two_68 rfl rfl (fun hc => ?_) (fun hc => ?_)
  · have h := h.1 hc
    refine wp_aload_n (pc' := 122) (q := 0) (i := 0) rfl rfl dX10_two_121 rfl ?_
    refine wp_getR (pc' := 125) (k := 10) dX10_two_122 vc9 (by decide) rfl lfX10_70 h1 rfl ?_
    refine wp_aload_n (pc' := 126) (q := 0) (i := 0) rfl rfl dX10_two_125 rfl ?_
    refine wp_getR (pc' := 129) (k := 7) dX10_two_126 vc9 (by decide) rfl lfX10_53 h1 rfl ?_
    refine wp_aload_n (pc' := 130) (q := 0) (i := 0) rfl rfl dX10_two_129 rfl ?_
    refine wp_getR (pc' := 133) (k := 8) dX10_two_130 vc9 (by decide) rfl lfX10_57 h1 rfl ?_
    refine wp_iload_n (pc' := 134) (q := 2) (i := 2) rfl rfl dX10_two_133 rfl ?_
    obtain ⟨h6, h⟩ := h
    obtain ⟨Q5, hs5, h⟩ := h
    refine wp_callV (pc' := 137) (as := [vR (R a0 7), vR (R a0 8), vI a2]) (rest := []) hs5 dX10_two_134 rfl lkX10_235 okX0_choose inX0_choose seX0_choose h6 vc0 ⟨Nat.le_of_ble_eq_true rfl, Nat.le_of_ble_eq_true rfl⟩ (Nat.le_of_ble_eq_true rfl) (Nat.le_refl _) (Nat.le_refl _) okP_eq okP_eq rfl (rvV rfl (fun I5 R5 hq5 => ?_))
    have h := h I5 R5 hq5
    refine wp_iload_n (pc' := 138) (q := 3) (i := 3) rfl rfl dX10_two_137 rfl ?_
    obtain ⟨h7, h⟩ := h
    refine wp_if_ne (pc' := 141) (tgt := 151) h7 dX10_two_138 rfl rfl (fun hc => ?_) (fun hc => ?_)
    · have h := h.1 hc
      refine wp_aload_n (pc' := 152) (q := 0) (i := 0) rfl rfl dX10_two_151 rfl ?_
      refine wp_getR (pc' := 155) (k := 10) dX10_two_152 vc9 (by decide) rfl lfX10_70 h1 rfl ?_
      obtain ⟨h8, h⟩ := h
      refine wp_getI (pc' := 158) (k := 1) dX10_two_155 vc0 (by decide) rfl lfX10_240 h8 rfl ?_
      exact wp_ireturn dX10_two_158 rfl rfl h
    · have h := h.2 hc
      refine wp_aload_n (pc' := 142) (q := 0) (i := 0) rfl rfl dX10_two_141 rfl ?_
      refine wp_getR (pc' := 145) (k := 10) dX10_two_142 vc9 (by decide) rfl lfX10_70 h1 rfl ?_
      obtain ⟨h9, h⟩ := h
      refine wp_getI (pc' := 148) (k := 0) dX10_two_145 vc0 (by decide) rfl lfX10_239 h9 rfl ?_
      refine wp_goto (tgt := 158) dX10_two_148 rfl ?_
      exact wp_ireturn dX10_two_158 rfl rfl h
  · have h := h.2 hc
    refine wp_iload_n (pc' := 72) (q := 1) (i := 1) rfl rfl dX10_two_71 rfl ?_
    refine wp_iload (pc' := 74) (i := 4) rfl dX10_two_72 rfl ?_
    refine wp_ishr (pc' := 75) dX10_two_74 rfl ?_
    refine wp_iconst (pc' := 76) dX10_two_75 rfl ?_
    refine wp_iand (pc' := 77) dX10_two_76 rfl ?_
    refine wp_iconst (pc' := 78) dX10_two_77 rfl ?_
    obtain ⟨h10, h⟩ := h
    refine wp_icmp_ne (pc' := 81) (tgt := 88) h10 ⟨by decide, by decide⟩ dX10_two_78 rfl rfl (fun hc => ?_) (fun hc => ?_)
    · have h := h.1 hc
      refine wp_aload_n (pc' := 89) (q := 0) (i := 0) rfl rfl dX10_two_88 rfl ?_
      refine wp_getR (pc' := 92) (k := 7) dX10_two_89 vc9 (by decide) rfl lfX10_53 h1 rfl ?_
      obtain ⟨h11, h⟩ := h
      refine wp_astore (pc' := 94) (i := 5) (L' := [vR a0, vI a1, vI a2, vI a3, vI a4, vR (R a0 7)]) h11 (by decide) rfl dX10_two_92 rfl rfl ?_
      refine wp_aload (pc' := 96) (i := 5) rfl dX10_two_94 rfl ?_
      refine wp_aload_n (pc' := 97) (q := 0) (i := 0) rfl rfl dX10_two_96 rfl ?_
      refine wp_getR (pc' := 100) (k := 2) dX10_two_97 vc9 (by decide) rfl lfX10_26 h1 rfl ?_
      refine wp_iload (pc' := 102) (i := 4) rfl dX10_two_100 rfl ?_
      refine wp_aload_n (pc' := 103) (q := 0) (i := 0) rfl rfl dX10_two_102 rfl ?_
      refine wp_getR (pc' := 106) (k := 2) dX10_two_103 vc9 (by decide) rfl lfX10_26 h1 rfl ?_
      refine wp_getR (pc' := 109) (k := 1) dX10_two_106 vc6 (by decide) rfl lfX10_117 h2 rfl ?_
      refine wp_iload (pc' := 111) (i := 4) rfl dX10_two_109 rfl ?_
      obtain ⟨h12, h⟩ := h
      obtain ⟨h13, h⟩ := h
      refine wp_iald (pc' := 112) (j := a4.toNat) dX10_two_111 h12 h13 rfl rfl ?_
      obtain ⟨h15, h⟩ := h
      obtain ⟨Q14, hs14, h⟩ := h
      refine wp_callV (pc' := 115) (as := [vR (R a0 2), vI a4, vI (I (R (R a0 2) 1) a4.toNat)]) (rest := []) hs14 dX10_two_112 rfl lkX10_224 okX3_put inX3_put seX3_put h15 vc3 ⟨Nat.le_of_ble_eq_true rfl, Nat.le_of_ble_eq_true rfl⟩ (Nat.le_of_ble_eq_true rfl) (Nat.le_refl _) (Nat.le_refl _) okP_eq okP_eq rfl (rvV rfl (fun I14 R14 hq14 => ?_))
      have h := h I14 R14 hq14
      refine wp_iinc (pc' := 118) (i := 4) (L' := [vR a0, vI a1, vI a2, vI a3, vI (a4 + 1), vR (R a0 7)]) rfl (by decide) rfl dX10_two_115 rfl rfl ?_
      refine wp_goto (tgt := 59) dX10_two_118 rfl ?_
      exact wp_dropP (leP_s (leP_s (leP_s (leP_s (leP_s (leP_d leP_n)))))) h
    · have h := h.2 hc
      refine wp_aload_n (pc' := 82) (q := 0) (i := 0) rfl rfl dX10_two_81 rfl ?_
      refine wp_getR (pc' := 85) (k := 8) dX10_two_82 vc9 (by decide) rfl lfX10_57 h1 rfl ?_
      refine wp_goto (tgt := 92) dX10_two_85 rfl ?_
      obtain ⟨h16, h⟩ := h
      refine wp_astore (pc' := 94) (i := 5) (L' := [vR a0, vI a1, vI a2, vI a3, vI a4, vR (R a0 8)]) h16 (by decide) rfl dX10_two_92 rfl rfl ?_
      refine wp_aload (pc' := 96) (i := 5) rfl dX10_two_94 rfl ?_
      refine wp_aload_n (pc' := 97) (q := 0) (i := 0) rfl rfl dX10_two_96 rfl ?_
      refine wp_getR (pc' := 100) (k := 2) dX10_two_97 vc9 (by decide) rfl lfX10_26 h1 rfl ?_
      refine wp_iload (pc' := 102) (i := 4) rfl dX10_two_100 rfl ?_
      refine wp_aload_n (pc' := 103) (q := 0) (i := 0) rfl rfl dX10_two_102 rfl ?_
      refine wp_getR (pc' := 106) (k := 2) dX10_two_103 vc9 (by decide) rfl lfX10_26 h1 rfl ?_
      refine wp_getR (pc' := 109) (k := 1) dX10_two_106 vc6 (by decide) rfl lfX10_117 h2 rfl ?_
      refine wp_iload (pc' := 111) (i := 4) rfl dX10_two_109 rfl ?_
      obtain ⟨h17, h⟩ := h
      obtain ⟨h18, h⟩ := h
      refine wp_iald (pc' := 112) (j := a4.toNat) dX10_two_111 h17 h18 rfl rfl ?_
      obtain ⟨h20, h⟩ := h
      obtain ⟨Q19, hs19, h⟩ := h
      refine wp_callV (pc' := 115) (as := [vR (R a0 2), vI a4, vI (I (R (R a0 2) 1) a4.toNat)]) (rest := []) hs19 dX10_two_112 rfl lkX10_224 okX3_put inX3_put seX3_put h20 vc3 ⟨Nat.le_of_ble_eq_true rfl, Nat.le_of_ble_eq_true rfl⟩ (Nat.le_of_ble_eq_true rfl) (Nat.le_refl _) (Nat.le_refl _) okP_eq okP_eq rfl (rvV rfl (fun I19 R19 hq19 => ?_))
      have h := h I19 R19 hq19
      refine wp_iinc (pc' := 118) (i := 4) (L' := [vR a0, vI a1, vI a2, vI a3, vI (a4 + 1), vR (R a0 8)]) rfl (by decide) rfl dX10_two_115 rfl rfl ?_
      refine wp_goto (tgt := 59) dX10_two_118 rfl ?_
      exact wp_dropP (leP_s (leP_s (leP_s (leP_s (leP_s (leP_d leP_n)))))) h

theorem sX10_keep {Q : QT} {I : II} {R : RR} {N : Nat} {a0 : Nat} (hN : N < 1000) (h : wp (kN N) mX10_keep Q 0 [vR a0] [] I R N) : Spec mX10_keep [vR a0] I R N N Q := Spec_of_wp pyX10_keep rfl (Nat.le_of_ble_eq_true rfl) (Nat.le_refl _) hN h

set_option maxRecDepth 4000 in
theorem gX10_keep_0 {Q : QT} {I : II} {R : RR} {N : Nat} {a0 : Nat}
    (h : (isO N a0 9) ∧
      (InI (I a0 6)) ∧
      (((I a0 6) < (2 : Int) →
      (isA N (R a0 5) 3 2) ∧
      (0 ≤ (I a0 6) ∧ (I a0 6) < 2) ∧
      (isO N (R (R a0 5) (I a0 6).toNat) 1) ∧
      (∃ Q5 : QT, Spec mX1_hold [vR (R (R a0 5) (I a0 6).toNat), vR (R a0 2), vR (R a0 4)] I R N N Q5 ∧ (∀ I5 R5, Q5 none I5 R5 →
      (∀ I7 : II, I7 = up2 I5 a0 6 ((I5 a0 6) + 1) →
      Q (vI (I7 a0 6)) I7 R5)))) ∧ (¬ (I a0 6) < (2 : Int) →
      Q (vI (-3)) I R))) : wp (kN N) mX10_keep Q 0 [vR a0] [] I R N := by
  refine wp_aload_n (pc' := 1) (q := 0) (i := 0) rfl rfl dX10_keep_0 rfl ?_
  obtain ⟨h1, h⟩ := h
  refine wp_getI (pc' := 4) (k := 6) dX10_keep_1 vc9 (by decide) rfl lfX10_46 h1 rfl ?_
  refine wp_iconst (pc' := 5) dX10_keep_4 rfl ?_
  obtain ⟨h2, h⟩ := h
  refine wp_icmp_lt (pc' := 8) (tgt := 11) h2 ⟨by decide, by decide⟩ dX10_keep_5 rfl rfl (fun hc => ?_) (fun hc => ?_)
  · have h := h.1 hc
    refine wp_aload_n (pc' := 12) (q := 0) (i := 0) rfl rfl dX10_keep_11 rfl ?_
    refine wp_getR (pc' := 15) (k := 5) dX10_keep_12 vc9 (by decide) rfl lfX10_42 h1 rfl ?_
    refine wp_aload_n (pc' := 16) (q := 0) (i := 0) rfl rfl dX10_keep_15 rfl ?_
    refine wp_getI (pc' := 19) (k := 6) dX10_keep_16 vc9 (by decide) rfl lfX10_46 h1 rfl ?_
    obtain ⟨h3, h⟩ := h
    obtain ⟨h4, h⟩ := h
    refine wp_aald (pc' := 20) (j := (I a0 6).toNat) dX10_keep_19 h3 (Or.inl rfl) h4 rfl rfl ?_
    refine wp_aload_n (pc' := 21) (q := 0) (i := 0) rfl rfl dX10_keep_20 rfl ?_
    refine wp_getR (pc' := 24) (k := 2) dX10_keep_21 vc9 (by decide) rfl lfX10_26 h1 rfl ?_
    refine wp_aload_n (pc' := 25) (q := 0) (i := 0) rfl rfl dX10_keep_24 rfl ?_
    refine wp_getR (pc' := 28) (k := 4) dX10_keep_25 vc9 (by decide) rfl lfX10_36 h1 rfl ?_
    obtain ⟨h6, h⟩ := h
    obtain ⟨Q5, hs5, h⟩ := h
    refine wp_callV (pc' := 31) (as := [vR (R a0 2), vR (R a0 4)]) (rest := []) hs5 dX10_keep_28 rfl lkX10_243 okX1_hold inX1_hold seX1_hold h6 vc1 ⟨Nat.le_of_ble_eq_true rfl, Nat.le_of_ble_eq_true rfl⟩ (Nat.le_of_ble_eq_true rfl) (Nat.le_refl _) (Nat.le_refl _) okP_eq okP_eq rfl (rvV rfl (fun I5 R5 hq5 => ?_))
    have h := h I5 R5 hq5
    refine wp_aload_n (pc' := 32) (q := 0) (i := 0) rfl rfl dX10_keep_31 rfl ?_
    refine wp_dupR (pc' := 33) dX10_keep_32 rfl ?_
    refine wp_getI (pc' := 36) (k := 6) dX10_keep_33 vc9 (by decide) rfl lfX10_46 h1 rfl ?_
    refine wp_iconst (pc' := 37) dX10_keep_36 rfl ?_
    refine wp_iadd (pc' := 38) dX10_keep_37 rfl ?_
    obtain ⟨I7, eI7⟩ : ∃ z : II, z = up2 I5 a0 6 ((I5 a0 6) + 1) := ⟨_, rfl⟩
    have h := h I7 eI7
    refine wp_putI (pc' := 41) (k := 6) (I' := I7) dX10_keep_38 vc9 (by decide) rfl rfl (tyX10_ok 6 (by decide)) lfX10_46 h1 rfl eI7 ?_
    refine wp_aload_n (pc' := 42) (q := 0) (i := 0) rfl rfl dX10_keep_41 rfl ?_
    refine wp_getI (pc' := 45) (k := 6) dX10_keep_42 vc9 (by decide) rfl lfX10_46 h1 rfl ?_
    exact wp_ireturn dX10_keep_45 rfl rfl h
  · have h := h.2 hc
    refine wp_bipush (pc' := 10) (by decide) dX10_keep_8 rfl ?_
    exact wp_ireturn dX10_keep_10 rfl rfl h

theorem sX10_back {Q : QT} {I : II} {R : RR} {N : Nat} {a0 : Nat} (hN : N < 1000) (h : wp (kN N) mX10_back Q 0 [vR a0] [] I R N) : Spec mX10_back [vR a0] I R N N Q := Spec_of_wp pyX10_back rfl (Nat.le_of_ble_eq_true rfl) (Nat.le_refl _) hN h

set_option maxRecDepth 4000 in
theorem gX10_back_0 {Q : QT} {I : II} {R : RR} {N : Nat} {a0 : Nat}
    (h : (isO N a0 9) ∧
      (InI (I a0 6)) ∧
      (((1 : Int) ≤ (I a0 6) →
      (∀ I3 : II, I3 = up2 I a0 6 ((I a0 6) - 1) →
      (isA N (R a0 5) 3 2) ∧
      (0 ≤ (I3 a0 6) ∧ (I3 a0 6) < 2) ∧
      (isO N (R (R a0 5) (I3 a0 6).toNat) 1) ∧
      (∃ Q6 : QT, Spec mX1_giveBack [vR (R (R a0 5) (I3 a0 6).toNat), vR (R a0 2), vR (R a0 4)] I3 R N N Q6 ∧ (∀ I6 R6, Q6 none I6 R6 →
      Q (vI (I6 a0 6)) I6 R6)))) ∧ (¬ (1 : Int) ≤ (I a0 6) →
      Q (vI (-2)) I R))) : wp (kN N) mX10_back Q 0 [vR a0] [] I R N := by
  refine wp_aload_n (pc' := 1) (q := 0) (i := 0) rfl rfl dX10_back_0 rfl ?_
  obtain ⟨h1, h⟩ := h
  refine wp_getI (pc' := 4) (k := 6) dX10_back_1 vc9 (by decide) rfl lfX10_46 h1 rfl ?_
  refine wp_iconst (pc' := 5) dX10_back_4 rfl ?_
  obtain ⟨h2, h⟩ := h
  refine wp_icmp_ge (pc' := 8) (tgt := 11) h2 ⟨by decide, by decide⟩ dX10_back_5 rfl rfl (fun hc => ?_) (fun hc => ?_)
  · have h := h.1 hc
    refine wp_aload_n (pc' := 12) (q := 0) (i := 0) rfl rfl dX10_back_11 rfl ?_
    refine wp_dupR (pc' := 13) dX10_back_12 rfl ?_
    refine wp_getI (pc' := 16) (k := 6) dX10_back_13 vc9 (by decide) rfl lfX10_46 h1 rfl ?_
    refine wp_iconst (pc' := 17) dX10_back_16 rfl ?_
    refine wp_isub (pc' := 18) dX10_back_17 rfl ?_
    obtain ⟨I3, eI3⟩ : ∃ z : II, z = up2 I a0 6 ((I a0 6) - 1) := ⟨_, rfl⟩
    have h := h I3 eI3
    refine wp_putI (pc' := 21) (k := 6) (I' := I3) dX10_back_18 vc9 (by decide) rfl rfl (tyX10_ok 6 (by decide)) lfX10_46 h1 rfl eI3 ?_
    refine wp_aload_n (pc' := 22) (q := 0) (i := 0) rfl rfl dX10_back_21 rfl ?_
    refine wp_getR (pc' := 25) (k := 5) dX10_back_22 vc9 (by decide) rfl lfX10_42 h1 rfl ?_
    refine wp_aload_n (pc' := 26) (q := 0) (i := 0) rfl rfl dX10_back_25 rfl ?_
    refine wp_getI (pc' := 29) (k := 6) dX10_back_26 vc9 (by decide) rfl lfX10_46 h1 rfl ?_
    obtain ⟨h4, h⟩ := h
    obtain ⟨h5, h⟩ := h
    refine wp_aald (pc' := 30) (j := (I3 a0 6).toNat) dX10_back_29 h4 (Or.inl rfl) h5 rfl rfl ?_
    refine wp_aload_n (pc' := 31) (q := 0) (i := 0) rfl rfl dX10_back_30 rfl ?_
    refine wp_getR (pc' := 34) (k := 2) dX10_back_31 vc9 (by decide) rfl lfX10_26 h1 rfl ?_
    refine wp_aload_n (pc' := 35) (q := 0) (i := 0) rfl rfl dX10_back_34 rfl ?_
    refine wp_getR (pc' := 38) (k := 4) dX10_back_35 vc9 (by decide) rfl lfX10_36 h1 rfl ?_
    obtain ⟨h7, h⟩ := h
    obtain ⟨Q6, hs6, h⟩ := h
    refine wp_callV (pc' := 41) (as := [vR (R a0 2), vR (R a0 4)]) (rest := []) hs6 dX10_back_38 rfl lkX10_247 okX1_giveBack inX1_giveBack seX1_giveBack h7 vc1 ⟨Nat.le_of_ble_eq_true rfl, Nat.le_of_ble_eq_true rfl⟩ (Nat.le_of_ble_eq_true rfl) (Nat.le_refl _) (Nat.le_refl _) okP_eq okP_eq rfl (rvV rfl (fun I6 R6 hq6 => ?_))
    have h := h I6 R6 hq6
    refine wp_aload_n (pc' := 42) (q := 0) (i := 0) rfl rfl dX10_back_41 rfl ?_
    refine wp_getI (pc' := 45) (k := 6) dX10_back_42 vc9 (by decide) rfl lfX10_46 h1 rfl ?_
    exact wp_ireturn dX10_back_45 rfl rfl h
  · have h := h.2 hc
    refine wp_bipush (pc' := 10) (by decide) dX10_back_8 rfl ?_
    exact wp_ireturn dX10_back_10 rfl rfl h

theorem sX10_count {Q : QT} {I : II} {R : RR} {N : Nat} {a0 : Nat} {a1 : Int} (hN : N < 1000) (h : wp (kN N) mX10_count Q 0 [vR a0, vI a1] [] I R N) : Spec mX10_count [vR a0, vI a1] I R N N Q := Spec_of_wp pyX10_count rfl (Nat.le_of_ble_eq_true rfl) (Nat.le_refl _) hN h

set_option maxRecDepth 4000 in
theorem gX10_count_0 {Q : QT} {I : II} {R : RR} {N : Nat} {a0 : Nat} {a1 : Int}
    (h : (InI a1) ∧
      ((a1 < 0 ∨ 6 < a1 →
      Q (vI (-1)) I R) ∧ (a1 = 0 →
      (isO N a0 9) ∧
      (isO N (R a0 2) 6) ∧
      Q (vI (I (R a0 2) 5)) I R) ∧ (a1 = 1 →
      (isO N a0 9) ∧
      (isO N (R a0 2) 6) ∧
      Q (vI (I (R a0 2) 6)) I R) ∧ (a1 = 2 →
      (isO N a0 9) ∧
      (isO N (R a0 2) 6) ∧
      Q (vI (I (R a0 2) 7)) I R) ∧ (a1 = 3 →
      (isO N a0 9) ∧
      (isO N (R a0 0) 8) ∧
      Q (vI (I (R a0 0) 1)) I R) ∧ (a1 = 4 →
      (isO N a0 9) ∧
      (isO N (R a0 4) 4) ∧
      Q (vI (I (R a0 4) 4)) I R) ∧ (a1 = 5 →
      (isO N a0 9) ∧
      Q (vI (I a0 6)) I R) ∧ (a1 = 6 →
      (isO N a0 9) ∧
      (isO N (R a0 2) 6) ∧
      Q (vI (I (R a0 2) 8)) I R))) : wp (kN N) mX10_count Q 0 [vR a0, vI a1] [] I R N := by
  refine wp_iload_n (pc' := 1) (q := 1) (i := 1) rfl rfl dX10_count_0 rfl ?_
  obtain ⟨h1, h⟩ := h
  refine wp_table (tgtD := 97) h1 dX10_count_1 rfl (fun hc => ?_) (fun j hj hle => ?_)
  · have h := h.1 hc
    refine wp_iconst (pc' := 98) dX10_count_97 rfl ?_
    exact wp_ireturn dX10_count_98 rfl rfl h
  · have hj9 : j = 0 ∨ j = 1 ∨ j = 2 ∨ j = 3 ∨ j = 4 ∨ j = 5 ∨ j = 6 := by omega
    rcases hj9 with rfl | rfl | rfl | rfl | rfl | rfl | rfl
    · refine ⟨43, 44, rfl, rfl, ?_⟩
      have h := h.2.1 (by omega)
      refine wp_aload_n (pc' := 45) (q := 0) (i := 0) rfl rfl dX10_count_44 rfl ?_
      obtain ⟨h2, h⟩ := h
      refine wp_getR (pc' := 48) (k := 2) dX10_count_45 vc9 (by decide) rfl lfX10_26 h2 rfl ?_
      obtain ⟨h3, h⟩ := h
      refine wp_getI (pc' := 51) (k := 5) dX10_count_48 vc6 (by decide) rfl lfX10_106 h3 rfl ?_
      exact wp_ireturn dX10_count_51 rfl rfl h
    · refine ⟨51, 52, rfl, rfl, ?_⟩
      have h := h.2.2.1 (by omega)
      refine wp_aload_n (pc' := 53) (q := 0) (i := 0) rfl rfl dX10_count_52 rfl ?_
      obtain ⟨h4, h⟩ := h
      refine wp_getR (pc' := 56) (k := 2) dX10_count_53 vc9 (by decide) rfl lfX10_26 h4 rfl ?_
      obtain ⟨h5, h⟩ := h
      refine wp_getI (pc' := 59) (k := 6) dX10_count_56 vc6 (by decide) rfl lfX10_99 h5 rfl ?_
      exact wp_ireturn dX10_count_59 rfl rfl h
    · refine ⟨59, 60, rfl, rfl, ?_⟩
      have h := h.2.2.2.1 (by omega)
      refine wp_aload_n (pc' := 61) (q := 0) (i := 0) rfl rfl dX10_count_60 rfl ?_
      obtain ⟨h6, h⟩ := h
      refine wp_getR (pc' := 64) (k := 2) dX10_count_61 vc9 (by decide) rfl lfX10_26 h6 rfl ?_
      obtain ⟨h7, h⟩ := h
      refine wp_getI (pc' := 67) (k := 7) dX10_count_64 vc6 (by decide) rfl lfX10_102 h7 rfl ?_
      exact wp_ireturn dX10_count_67 rfl rfl h
    · refine ⟨67, 68, rfl, rfl, ?_⟩
      have h := h.2.2.2.2.1 (by omega)
      refine wp_aload_n (pc' := 69) (q := 0) (i := 0) rfl rfl dX10_count_68 rfl ?_
      obtain ⟨h8, h⟩ := h
      refine wp_getR (pc' := 72) (k := 0) dX10_count_69 vc9 (by decide) rfl lfX10_10 h8 rfl ?_
      obtain ⟨h9, h⟩ := h
      refine wp_getI (pc' := 75) (k := 1) dX10_count_72 vc8 (by decide) rfl lfX10_88 h9 rfl ?_
      exact wp_ireturn dX10_count_75 rfl rfl h
    · refine ⟨75, 76, rfl, rfl, ?_⟩
      have h := h.2.2.2.2.2.1 (by omega)
      refine wp_aload_n (pc' := 77) (q := 0) (i := 0) rfl rfl dX10_count_76 rfl ?_
      obtain ⟨h10, h⟩ := h
      refine wp_getR (pc' := 80) (k := 4) dX10_count_77 vc9 (by decide) rfl lfX10_36 h10 rfl ?_
      obtain ⟨h11, h⟩ := h
      refine wp_getI (pc' := 83) (k := 4) dX10_count_80 vc4 (by decide) rfl lfX10_105 h11 rfl ?_
      exact wp_ireturn dX10_count_83 rfl rfl h
    · refine ⟨83, 84, rfl, rfl, ?_⟩
      have h := h.2.2.2.2.2.2.1 (by omega)
      refine wp_aload_n (pc' := 85) (q := 0) (i := 0) rfl rfl dX10_count_84 rfl ?_
      obtain ⟨h12, h⟩ := h
      refine wp_getI (pc' := 88) (k := 6) dX10_count_85 vc9 (by decide) rfl lfX10_46 h12 rfl ?_
      exact wp_ireturn dX10_count_88 rfl rfl h
    · refine ⟨88, 89, rfl, rfl, ?_⟩
      have h := h.2.2.2.2.2.2.2 (by omega)
      refine wp_aload_n (pc' := 90) (q := 0) (i := 0) rfl rfl dX10_count_89 rfl ?_
      obtain ⟨h13, h⟩ := h
      refine wp_getR (pc' := 93) (k := 2) dX10_count_90 vc9 (by decide) rfl lfX10_26 h13 rfl ?_
      obtain ⟨h14, h⟩ := h
      refine wp_getI (pc' := 96) (k := 8) dX10_count_93 vc6 (by decide) rfl lfX10_250 h14 rfl ?_
      exact wp_ireturn dX10_count_96 rfl rfl h

theorem sX10_within {Q : QT} {I : II} {R : RR} {N : Nat} {a0 : Int} {a1 : Int} {a2 : Int} (hN : N < 1000) (h : wp (kN N) mX10_within Q 0 [vI a0, vI a1, vI a2] [] I R N) : Spec mX10_within [vI a0, vI a1, vI a2] I R N N Q := Spec_of_wp pyX10_within rfl (Nat.le_of_ble_eq_true rfl) (Nat.le_refl _) hN h

set_option maxRecDepth 4000 in
theorem gX10_within_0 {Q : QT} {I : II} {R : RR} {N : Nat} {a0 : Int} {a1 : Int} {a2 : Int}
    (h : (InI a0) ∧
      (InI a1) ∧
      ((a0 < a1 →
      wp (kN N) mX10_within Q 14 [none, none, none] [] I R N) ∧ (¬ (a0 < a1) →
      (InI a2) ∧
      ((a2 < a0 →
      wp (kN N) mX10_within Q 14 [none, none, none] [] I R N) ∧ (¬ (a2 < a0) →
      Q (vI 1) I R))))) : wp (kN N) mX10_within Q 0 [vI a0, vI a1, vI a2] [] I R N := by
  refine wp_iload_n (pc' := 1) (q := 0) (i := 0) rfl rfl dX10_within_0 rfl ?_
  refine wp_iload_n (pc' := 2) (q := 1) (i := 1) rfl rfl dX10_within_1 rfl ?_
  obtain ⟨h1, h⟩ := h
  obtain ⟨h2, h⟩ := h
  refine wp_icmp_lt (pc' := 5) (tgt := 14) h1 h2 dX10_within_2 rfl rfl (fun hc => ?_) (fun hc => ?_)
  · have h := h.1 hc
    exact wp_dropP (leP_d (leP_d (leP_d leP_n))) h
  · have h := h.2 hc
    refine wp_iload_n (pc' := 6) (q := 0) (i := 0) rfl rfl dX10_within_5 rfl ?_
    refine wp_iload_n (pc' := 7) (q := 2) (i := 2) rfl rfl dX10_within_6 rfl ?_
    obtain ⟨h3, h⟩ := h
    refine wp_icmp_gt (pc' := 10) (tgt := 14) h1 h3 dX10_within_7 rfl rfl (fun hc => ?_) (fun hc => ?_)
    · have h := h.1 hc
      exact wp_dropP (leP_d (leP_d (leP_d leP_n))) h
    · have h := h.2 hc
      refine wp_iconst (pc' := 11) dX10_within_10 rfl ?_
      refine wp_goto (tgt := 15) dX10_within_11 rfl ?_
      exact wp_zreturn dX10_within_15 rfl rfl (Or.inr rfl) h

set_option maxRecDepth 4000 in
theorem gX10_within_14 {Q : QT} {I : II} {R : RR} {N : Nat} 
    (h : Q (vI 0) I R) : wp (kN N) mX10_within Q 14 [none, none, none] [] I R N := by
  refine wp_iconst (pc' := 15) dX10_within_14 rfl ?_
  exact wp_zreturn dX10_within_15 rfl rfl (Or.inl rfl) h

theorem sX10_gainOfAllMeetings {Q : QT} {I : II} {R : RR} {N : Nat} {a0 : Nat} (hN : N < 1000) (h : wp (kN N) mX10_gainOfAllMeetings Q 0 [vR a0, none, none, none, none, none] [] I R N) : Spec mX10_gainOfAllMeetings [vR a0] I R N N Q := Spec_of_wp pyX10_gainOfAllMeetings rfl (Nat.le_of_ble_eq_true rfl) (Nat.le_refl _) hN h

set_option maxRecDepth 4000 in
theorem gX10_gainOfAllMeetings_0 {Q : QT} {I : II} {R : RR} {N : Nat} {a0 : Nat}
    (h : wp (kN N) mX10_gainOfAllMeetings Q 4 [vR a0, vI 0, vI 0, none, none, none] [] I R N) : wp (kN N) mX10_gainOfAllMeetings Q 0 [vR a0, none, none, none, none, none] [] I R N := by
  refine wp_iconst (pc' := 1) dX10_gainOfAllMeetings_0 rfl ?_
  refine wp_istore_n (pc' := 2) (q := 1) (i := 1) (L' := [vR a0, vI 0, none, none, none, none]) rfl (by decide) rfl dX10_gainOfAllMeetings_1 rfl rfl ?_
  refine wp_iconst (pc' := 3) dX10_gainOfAllMeetings_2 rfl ?_
  refine wp_istore_n (pc' := 4) (q := 2) (i := 2) (L' := [vR a0, vI 0, vI 0, none, none, none]) rfl (by decide) rfl dX10_gainOfAllMeetings_3 rfl rfl ?_
  exact h

set_option maxRecDepth 4000 in
theorem gX10_gainOfAllMeetings_4 {Q : QT} {I : II} {R : RR} {N : Nat} {a0 : Nat} {a1 : Int} {a2 : Int}
    (h : (isO N a0 9) ∧
      (isO N (R a0 2) 6) ∧
      (InI a2) ∧
      (InI (I (R a0 2) 6)) ∧
      (((I (R a0 2) 6) ≤ a2 →
      Q (vI a1) I R) ∧ (¬ (I (R a0 2) 6) ≤ a2 →
      wp (kN N) mX10_gainOfAllMeetings Q 17 [vR a0, vI a1, vI a2, vI 0, none, none] [] I R N))) : wp (kN N) mX10_gainOfAllMeetings Q 4 [vR a0, vI a1, vI a2, none, none, none] [] I R N := by
  refine wp_iload_n (pc' := 5) (q := 2) (i := 2) rfl rfl dX10_gainOfAllMeetings_4 rfl ?_
  refine wp_aload_n (pc' := 6) (q := 0) (i := 0) rfl rfl dX10_gainOfAllMeetings_5 rfl ?_
  obtain ⟨h1, h⟩ := h
  refine wp_getR (pc' := 9) (k := 2) dX10_gainOfAllMeetings_6 vc9 (by decide) rfl lfX10_26 h1 rfl ?_
  obtain ⟨h2, h⟩ := h
  refine wp_getI (pc' := 12) (k := 6) dX10_gainOfAllMeetings_9 vc6 (by decide) rfl lfX10_99 h2 rfl ?_
  obtain ⟨h3, h⟩ := h
  obtain ⟨h4, h⟩ := h
  refine wp_icmp_ge (pc' := 15) (tgt := 101) h3 h4 dX10_gainOfAllMeetings_12 rfl rfl (fun hc => ?_) (fun hc => ?_)
  · have h := h.1 hc
    refine wp_iload_n (pc' := 102) (q := 1) (i := 1) rfl rfl dX10_gainOfAllMeetings_101 rfl ?_
    exact wp_ireturn dX10_gainOfAllMeetings_102 rfl rfl h
  · have h := h.2 hc
    refine wp_iconst (pc' := 16) dX10_gainOfAllMeetings_15 rfl ?_
    refine wp_istore_n (pc' := 17) (q := 3) (i := 3) (L' := [vR a0, vI a1, vI a2, vI 0, none, none]) rfl (by decide) rfl dX10_gainOfAllMeetings_16 rfl rfl ?_
    exact h

set_option maxRecDepth 4000 in
theorem gX10_gainOfAllMeetings_17 {Q : QT} {I : II} {R : RR} {N : Nat} {a0 : Nat} {a1 : Int} {a2 : Int} {a3 : Int}
    (h : (isO N a0 9) ∧
      (isO N (R a0 2) 6) ∧
      (InI a3) ∧
      (InI (I (R a0 2) 7)) ∧
      (((I (R a0 2) 7) ≤ a3 →
      wp (kN N) mX10_gainOfAllMeetings Q 4 [vR a0, vI a1, vI (a2 + 1), none, none, none] [] I R N) ∧ (¬ (I (R a0 2) 7) ≤ a3 →
      (isA N (R (R a0 2) 3) 1 10) ∧
      (0 ≤ a2 ∧ a2 < 10) ∧
      (isA N (R (R a0 2) 1) 1 20) ∧
      (0 ≤ (I (R (R a0 2) 3) a2.toNat) ∧ (I (R (R a0 2) 3) a2.toNat) < 20) ∧
      (isA N (R (R a0 2) 4) 1 10) ∧
      (0 ≤ a3 ∧ a3 < 10) ∧
      (0 ≤ (I (R (R a0 2) 4) a3.toNat) ∧ (I (R (R a0 2) 4) a3.toNat) < 20) ∧
      (InI (I (R (R a0 2) 1) (I (R (R a0 2) 3) a2.toNat).toNat)) ∧
      (InI ((I (R (R a0 2) 1) (I (R (R a0 2) 4) a3.toNat).toNat) + (I (R a0 2) 9))) ∧
      (((I (R (R a0 2) 1) (I (R (R a0 2) 3) a2.toNat).toNat) < ((I (R (R a0 2) 1) (I (R (R a0 2) 4) a3.toNat).toNat) + (I (R a0 2) 9)) →
      wp (kN N) mX10_gainOfAllMeetings Q 89 [vR a0, vI a1, vI a2, vI a3, none, none] [] I R N) ∧ (¬ (I (R (R a0 2) 1) (I (R (R a0 2) 3) a2.toNat).toNat) < ((I (R (R a0 2) 1) (I (R (R a0 2) 4) a3.toNat).toNat) + (I (R a0 2) 9)) →
      wp (kN N) mX10_gainOfAllMeetings Q 89 [vR a0, vI (a1 + ((I (R (R a0 2) 1) (I (R (R a0 2) 3) a2.toNat).toNat) - (I (R (R a0 2) 1) (I (R (R a0 2) 4) a3.toNat).toNat))), vI a2, vI a3, none, none] [] I R N))))) : wp (kN N) mX10_gainOfAllMeetings Q 17 [vR a0, vI a1, vI a2, vI a3, none, none] [] I R N := by
  refine wp_iload_n (pc' := 18) (q := 3) (i := 3) rfl rfl dX10_gainOfAllMeetings_17 rfl ?_
  refine wp_aload_n (pc' := 19) (q := 0) (i := 0) rfl rfl dX10_gainOfAllMeetings_18 rfl ?_
  obtain ⟨h1, h⟩ := h
  refine wp_getR (pc' := 22) (k := 2) dX10_gainOfAllMeetings_19 vc9 (by decide) rfl lfX10_26 h1 rfl ?_
  obtain ⟨h2, h⟩ := h
  refine wp_getI (pc' := 25) (k := 7) dX10_gainOfAllMeetings_22 vc6 (by decide) rfl lfX10_102 h2 rfl ?_
  obtain ⟨h3, h⟩ := h
  obtain ⟨h4, h⟩ := h
  refine wp_icmp_ge (pc' := 28) (tgt := 95) h3 h4 dX10_gainOfAllMeetings_25 rfl rfl (fun hc => ?_) (fun hc => ?_)
  · have h := h.1 hc
    refine wp_iinc (pc' := 98) (i := 2) (L' := [vR a0, vI a1, vI (a2 + 1), vI a3, none, none]) rfl (by decide) rfl dX10_gainOfAllMeetings_95 rfl rfl ?_
    refine wp_goto (tgt := 4) dX10_gainOfAllMeetings_98 rfl ?_
    exact wp_dropP (leP_s (leP_s (leP_s (leP_d (leP_s (leP_s leP_n)))))) h
  · have h := h.2 hc
    refine wp_aload_n (pc' := 29) (q := 0) (i := 0) rfl rfl dX10_gainOfAllMeetings_28 rfl ?_
    refine wp_getR (pc' := 32) (k := 2) dX10_gainOfAllMeetings_29 vc9 (by decide) rfl lfX10_26 h1 rfl ?_
    refine wp_getR (pc' := 35) (k := 1) dX10_gainOfAllMeetings_32 vc6 (by decide) rfl lfX10_117 h2 rfl ?_
    refine wp_aload_n (pc' := 36) (q := 0) (i := 0) rfl rfl dX10_gainOfAllMeetings_35 rfl ?_
    refine wp_getR (pc' := 39) (k := 2) dX10_gainOfAllMeetings_36 vc9 (by decide) rfl lfX10_26 h1 rfl ?_
    refine wp_getR (pc' := 42) (k := 3) dX10_gainOfAllMeetings_39 vc6 (by decide) rfl lfX10_253 h2 rfl ?_
    refine wp_iload_n (pc' := 43) (q := 2) (i := 2) rfl rfl dX10_gainOfAllMeetings_42 rfl ?_
    obtain ⟨h5, h⟩ := h
    obtain ⟨h6, h⟩ := h
    refine wp_iald (pc' := 44) (j := a2.toNat) dX10_gainOfAllMeetings_43 h5 h6 rfl rfl ?_
    obtain ⟨h7, h⟩ := h
    obtain ⟨h8, h⟩ := h
    refine wp_iald (pc' := 45) (j := (I (R (R a0 2) 3) a2.toNat).toNat) dX10_gainOfAllMeetings_44 h7 h8 rfl rfl ?_
    refine wp_istore (pc' := 47) (i := 4) (L' := [vR a0, vI a1, vI a2, vI a3, vI (I (R (R a0 2) 1) (I (R (R a0 2) 3) a2.toNat).toNat), none]) (by decide) rfl dX10_gainOfAllMeetings_45 rfl rfl ?_
    refine wp_aload_n (pc' := 48) (q := 0) (i := 0) rfl rfl dX10_gainOfAllMeetings_47 rfl ?_
    refine wp_getR (pc' := 51) (k := 2) dX10_gainOfAllMeetings_48 vc9 (by decide) rfl lfX10_26 h1 rfl ?_
    refine wp_getR (pc' := 54) (k := 1) dX10_gainOfAllMeetings_51 vc6 (by decide) rfl lfX10_117 h2 rfl ?_
    refine wp_aload_n (pc' := 55) (q := 0) (i := 0) rfl rfl dX10_gainOfAllMeetings_54 rfl ?_
    refine wp_getR (pc' := 58) (k := 2) dX10_gainOfAllMeetings_55 vc9 (by decide) rfl lfX10_26 h1 rfl ?_
    refine wp_getR (pc' := 61) (k := 4) dX10_gainOfAllMeetings_58 vc6 (by decide) rfl lfX10_256 h2 rfl ?_
    refine wp_iload_n (pc' := 62) (q := 3) (i := 3) rfl rfl dX10_gainOfAllMeetings_61 rfl ?_
    obtain ⟨h9, h⟩ := h
    obtain ⟨h10, h⟩ := h
    refine wp_iald (pc' := 63) (j := a3.toNat) dX10_gainOfAllMeetings_62 h9 h10 rfl rfl ?_
    obtain ⟨h11, h⟩ := h
    refine wp_iald (pc' := 64) (j := (I (R (R a0 2) 4) a3.toNat).toNat) dX10_gainOfAllMeetings_63 h7 h11 rfl rfl ?_
    refine wp_istore (pc' := 66) (i := 5) (L' := [vR a0, vI a1, vI a2, vI a3, vI (I (R (R a0 2) 1) (I (R (R a0 2) 3) a2.toNat).toNat), vI (I (R (R a0 2) 1) (I (R (R a0 2) 4) a3.toNat).toNat)]) (by decide) rfl dX10_gainOfAllMeetings_64 rfl rfl ?_
    refine wp_iload (pc' := 68) (i := 4) rfl dX10_gainOfAllMeetings_66 rfl ?_
    refine wp_iload (pc' := 70) (i := 5) rfl dX10_gainOfAllMeetings_68 rfl ?_
    refine wp_aload_n (pc' := 71) (q := 0) (i := 0) rfl rfl dX10_gainOfAllMeetings_70 rfl ?_
    refine wp_getR (pc' := 74) (k := 2) dX10_gainOfAllMeetings_71 vc9 (by decide) rfl lfX10_26 h1 rfl ?_
    refine wp_getI (pc' := 77) (k := 9) dX10_gainOfAllMeetings_74 vc6 (by decide) rfl lfX10_124 h2 rfl ?_
    refine wp_iadd (pc' := 78) dX10_gainOfAllMeetings_77 rfl ?_
    obtain ⟨h12, h⟩ := h
    obtain ⟨h13, h⟩ := h
    refine wp_icmp_lt (pc' := 81) (tgt := 89) h12 h13 dX10_gainOfAllMeetings_78 rfl rfl (fun hc => ?_) (fun hc => ?_)
    · have h := h.1 hc
      exact wp_dropP (leP_s (leP_s (leP_s (leP_s (leP_d (leP_d leP_n)))))) h
    · have h := h.2 hc
      refine wp_iload_n (pc' := 82) (q := 1) (i := 1) rfl rfl dX10_gainOfAllMeetings_81 rfl ?_
      refine wp_iload (pc' := 84) (i := 4) rfl dX10_gainOfAllMeetings_82 rfl ?_
      refine wp_iload (pc' := 86) (i := 5) rfl dX10_gainOfAllMeetings_84 rfl ?_
      refine wp_isub (pc' := 87) dX10_gainOfAllMeetings_86 rfl ?_
      refine wp_iadd (pc' := 88) dX10_gainOfAllMeetings_87 rfl ?_
      refine wp_istore_n (pc' := 89) (q := 1) (i := 1) (L' := [vR a0, vI (a1 + ((I (R (R a0 2) 1) (I (R (R a0 2) 3) a2.toNat).toNat) - (I (R (R a0 2) 1) (I (R (R a0 2) 4) a3.toNat).toNat))), vI a2, vI a3, vI (I (R (R a0 2) 1) (I (R (R a0 2) 3) a2.toNat).toNat), vI (I (R (R a0 2) 1) (I (R (R a0 2) 4) a3.toNat).toNat)]) rfl (by decide) rfl dX10_gainOfAllMeetings_88 rfl rfl ?_
      exact wp_dropP (leP_s (leP_s (leP_s (leP_s (leP_d (leP_d leP_n)))))) h

set_option maxRecDepth 4000 in
theorem gX10_gainOfAllMeetings_89 {Q : QT} {I : II} {R : RR} {N : Nat} {a0 : Nat} {a1 : Int} {a2 : Int} {a3 : Int}
    (h : wp (kN N) mX10_gainOfAllMeetings Q 17 [vR a0, vI a1, vI a2, vI (a3 + 1), none, none] [] I R N) : wp (kN N) mX10_gainOfAllMeetings Q 89 [vR a0, vI a1, vI a2, vI a3, none, none] [] I R N := by
  refine wp_iinc (pc' := 92) (i := 3) (L' := [vR a0, vI a1, vI a2, vI (a3 + 1), none, none]) rfl (by decide) rfl dX10_gainOfAllMeetings_89 rfl rfl ?_
  refine wp_goto (tgt := 17) dX10_gainOfAllMeetings_92 rfl ?_
  exact h

theorem sX10_gainOfTelling {Q : QT} {I : II} {R : RR} {N : Nat} {a0 : Nat} {a1 : Int} {a2 : Int} (hN : N < 1000) (h : wp (kN N) mX10_gainOfTelling Q 0 [vR a0, vI a1, vI a2, none] [] I R N) : Spec mX10_gainOfTelling [vR a0, vI a1, vI a2] I R N N Q := Spec_of_wp pyX10_gainOfTelling rfl (Nat.le_of_ble_eq_true rfl) (Nat.le_refl _) hN h

set_option maxRecDepth 4000 in
theorem gX10_gainOfTelling_0 {Q : QT} {I : II} {R : RR} {N : Nat} {a0 : Nat} {a1 : Int} {a2 : Int}
    (h : (isO N a0 9) ∧
      (isO N (R a0 7) 3) ∧
      (∃ Q2 : QT, Spec mX3_empty [vR (R a0 7)] I R N N Q2 ∧ (∀ I2 R2, Q2 none I2 R2 →
      wp (kN N) mX10_gainOfTelling Q 9 [vR a0, vI a1, vI a2, vI 0] [] I2 R2 N))) : wp (kN N) mX10_gainOfTelling Q 0 [vR a0, vI a1, vI a2, none] [] I R N := by
  refine wp_aload_n (pc' := 1) (q := 0) (i := 0) rfl rfl dX10_gainOfTelling_0 rfl ?_
  obtain ⟨h1, h⟩ := h
  refine wp_getR (pc' := 4) (k := 7) dX10_gainOfTelling_1 vc9 (by decide) rfl lfX10_53 h1 rfl ?_
  obtain ⟨h3, h⟩ := h
  obtain ⟨Q2, hs2, h⟩ := h
  refine wp_callV (pc' := 7) (as := []) (rest := []) hs2 dX10_gainOfTelling_4 rfl lkX10_221 okX3_empty inX3_empty seX3_empty h3 vc3 ⟨Nat.le_of_ble_eq_true rfl, Nat.le_of_ble_eq_true rfl⟩ (Nat.le_of_ble_eq_true rfl) (Nat.le_refl _) (Nat.le_refl _) okP_eq okP_eq rfl (rvV rfl (fun I2 R2 hq2 => ?_))
  have h := h I2 R2 hq2
  refine wp_iconst (pc' := 8) dX10_gainOfTelling_7 rfl ?_
  refine wp_istore_n (pc' := 9) (q := 3) (i := 3) (L' := [vR a0, vI a1, vI a2, vI 0]) rfl (by decide) rfl dX10_gainOfTelling_8 rfl rfl ?_
  exact h

set_option maxRecDepth 4000 in
theorem gX10_gainOfTelling_9 {Q : QT} {I : II} {R : RR} {N : Nat} {a0 : Nat} {a1 : Int} {a2 : Int} {a3 : Int}
    (h : (isO N a0 9) ∧
      (isO N (R a0 2) 6) ∧
      (InI a3) ∧
      (InI (I (R a0 2) 5)) ∧
      (((I (R a0 2) 5) ≤ a3 →
      (isO N (R a0 7) 3) ∧
      (∃ Q5 : QT, Spec mX3_cross [vR (R a0 7), vI (I (R a0 2) 9)] I R N N Q5 ∧ (∀ I5 R5, Q5 none I5 R5 →
      (isO N (R5 a0 2) 6) ∧
      (isA N (R5 (R5 a0 2) 0) 2 20) ∧
      (0 ≤ a1 ∧ a1 < 20) ∧
      (isO N (R5 a0 7) 3) ∧
      (∃ Q10 : QT, Spec mX3_trades [vR (R5 a0 7), vI (I5 (R5 (R5 a0 2) 0) a1.toNat), vI a1] I5 R5 N N Q10 ∧ (∀ x10 I10 R10, (x10 = 0 ∨ x10 = 1) → Q10 (vI x10) I10 R10 →
      (InI x10) ∧
      ((¬ x10 = 0 →
      (isO N (R10 a0 2) 6) ∧
      (isA N (R10 (R10 a0 2) 1) 1 20) ∧
      (isA N (R10 (R10 a0 2) 0) 2 20) ∧
      (InI (I10 (R10 (R10 a0 2) 0) a1.toNat)) ∧
      (((I10 (R10 (R10 a0 2) 0) a1.toNat) = 0 →
      (isO N (R10 a0 7) 3) ∧
      Q (vI ((I10 (R10 (R10 a0 2) 1) a1.toNat) - (I10 (R10 a0 7) 4))) I10 R10) ∧ (¬ (I10 (R10 (R10 a0 2) 0) a1.toNat) = 0 →
      (isO N (R10 a0 7) 3) ∧
      Q (vI (((I10 (R10 a0 7) 4) - (I10 (R10 a0 2) 9)) - (I10 (R10 (R10 a0 2) 1) a1.toNat))) I10 R10))) ∧ (x10 = 0 →
      Q (vI 0) I10 R10))))))) ∧ (¬ (I (R a0 2) 5) ≤ a3 →
      (InI a1) ∧
      ((¬ a3 = a1 →
      (isA N (R (R a0 2) 1) 1 20) ∧
      (0 ≤ a3 ∧ a3 < 20) ∧
      (isO N (R a0 7) 3) ∧
      (∃ Q22 : QT, Spec mX3_put [vR (R a0 7), vR (R a0 2), vI a3, vI (I (R (R a0 2) 1) a3.toNat)] I R N N Q22 ∧ (∀ I22 R22, Q22 none I22 R22 →
      wp (kN N) mX10_gainOfTelling Q 9 [vR a0, vI a1, vI a2, vI (a3 + 1)] [] I22 R22 N))) ∧ (a3 = a1 →
      (isO N (R a0 7) 3) ∧
      (∃ Q24 : QT, Spec mX3_put [vR (R a0 7), vR (R a0 2), vI a3, vI a2] I R N N Q24 ∧ (∀ I24 R24, Q24 none I24 R24 →
      wp (kN N) mX10_gainOfTelling Q 9 [vR a0, vI a1, vI a2, vI (a3 + 1)] [] I24 R24 N))))))) : wp (kN N) mX10_gainOfTelling Q 9 [vR a0, vI a1, vI a2, vI a3] [] I R N := by
  refine wp_iload_n (pc' := 10) (q := 3) (i := 3) rfl rfl dX10_gainOfTelling_9 rfl ?_
  refine wp_aload_n (pc' := 11) (q := 0) (i := 0) rfl rfl dX10_gainOfTelling_10 rfl ?_
  obtain ⟨h1, h⟩ := h
  refine wp_getR (pc' := 14) (k := 2) dX10_gainOfTelling_11 vc9 (by decide) rfl lfX10_26 h1 rfl ?_
  obtain ⟨h2, h⟩ := h
  refine wp_getI (pc' := 17) (k := 5) dX10_gainOfTelling_14 vc6 (by decide) rfl lfX10_106 h2 rfl ?_
  obtain ⟨h3, h⟩ := h
  obtain ⟨h4, h⟩ := h
  refine wp_icmp_ge (pc' := 20) (tgt := 56) h3 h4 dX10_gainOfTelling_17 rfl rfl (fun hc => ?_) (fun hc => ?_)
  · have h := h.1 hc
    refine wp_aload_n (pc' := 57) (q := 0) (i := 0) rfl rfl dX10_gainOfTelling_56 rfl ?_
    refine wp_getR (pc' := 60) (k := 7) dX10_gainOfTelling_57 vc9 (by decide) rfl lfX10_53 h1 rfl ?_
    refine wp_aload_n (pc' := 61) (q := 0) (i := 0) rfl rfl dX10_gainOfTelling_60 rfl ?_
    refine wp_getR (pc' := 64) (k := 2) dX10_gainOfTelling_61 vc9 (by decide) rfl lfX10_26 h1 rfl ?_
    refine wp_getI (pc' := 67) (k := 9) dX10_gainOfTelling_64 vc6 (by decide) rfl lfX10_124 h2 rfl ?_
    obtain ⟨h6, h⟩ := h
    obtain ⟨Q5, hs5, h⟩ := h
    refine wp_callV (pc' := 70) (as := [vI (I (R a0 2) 9)]) (rest := []) hs5 dX10_gainOfTelling_67 rfl lkX10_228 okX3_cross inX3_cross seX3_cross h6 vc3 ⟨Nat.le_of_ble_eq_true rfl, Nat.le_of_ble_eq_true rfl⟩ (Nat.le_of_ble_eq_true rfl) (Nat.le_refl _) (Nat.le_refl _) okP_eq okP_eq rfl (rvV rfl (fun I5 R5 hq5 => ?_))
    have h := h I5 R5 hq5
    refine wp_aload_n (pc' := 71) (q := 0) (i := 0) rfl rfl dX10_gainOfTelling_70 rfl ?_
    refine wp_getR (pc' := 74) (k := 7) dX10_gainOfTelling_71 vc9 (by decide) rfl lfX10_53 h1 rfl ?_
    refine wp_aload_n (pc' := 75) (q := 0) (i := 0) rfl rfl dX10_gainOfTelling_74 rfl ?_
    refine wp_getR (pc' := 78) (k := 2) dX10_gainOfTelling_75 vc9 (by decide) rfl lfX10_26 h1 rfl ?_
    obtain ⟨h7, h⟩ := h
    refine wp_getR (pc' := 81) (k := 0) dX10_gainOfTelling_78 vc6 (by decide) rfl lfX10_113 h7 rfl ?_
    refine wp_iload_n (pc' := 82) (q := 1) (i := 1) rfl rfl dX10_gainOfTelling_81 rfl ?_
    obtain ⟨h8, h⟩ := h
    obtain ⟨h9, h⟩ := h
    refine wp_zald (pc' := 83) (j := a1.toNat) dX10_gainOfTelling_82 h8 h9 rfl rfl ?_
    refine wp_iload_n (pc' := 84) (q := 1) (i := 1) rfl rfl dX10_gainOfTelling_83 rfl ?_
    obtain ⟨h11, h⟩ := h
    obtain ⟨Q10, hs10, h⟩ := h
    refine wp_callV (pc' := 87) (as := [vI (I5 (R5 (R5 a0 2) 0) a1.toNat), vI a1]) (rest := []) hs10 dX10_gainOfTelling_84 rfl lkX10_259 okX3_trades inX3_trades seX3_trades h11 vc3 ⟨Nat.le_of_ble_eq_true rfl, Nat.le_of_ble_eq_true rfl⟩ (Nat.le_of_ble_eq_true rfl) (Nat.le_refl _) (Nat.le_refl _) okP_eq okP_eq rfl (rvZ rfl (fun x10 I10 R10 hz10 hq10 => ?_))
    have h := h x10 I10 R10 hz10 hq10
    obtain ⟨h12, h⟩ := h
    refine wp_if_ne (pc' := 90) (tgt := 92) h12 dX10_gainOfTelling_87 rfl rfl (fun hc => ?_) (fun hc => ?_)
    · have h := h.1 hc
      refine wp_aload_n (pc' := 93) (q := 0) (i := 0) rfl rfl dX10_gainOfTelling_92 rfl ?_
      refine wp_getR (pc' := 96) (k := 2) dX10_gainOfTelling_93 vc9 (by decide) rfl lfX10_26 h1 rfl ?_
      obtain ⟨h13, h⟩ := h
      refine wp_getR (pc' := 99) (k := 1) dX10_gainOfTelling_96 vc6 (by decide) rfl lfX10_117 h13 rfl ?_
      refine wp_iload_n (pc' := 100) (q := 1) (i := 1) rfl rfl dX10_gainOfTelling_99 rfl ?_
      obtain ⟨h14, h⟩ := h
      refine wp_iald (pc' := 101) (j := a1.toNat) dX10_gainOfTelling_100 h14 h9 rfl rfl ?_
      refine wp_istore_n (pc' := 102) (q := 3) (i := 3) (L' := [vR a0, vI a1, vI a2, vI (I10 (R10 (R10 a0 2) 1) a1.toNat)]) rfl (by decide) rfl dX10_gainOfTelling_101 rfl rfl ?_
      refine wp_aload_n (pc' := 103) (q := 0) (i := 0) rfl rfl dX10_gainOfTelling_102 rfl ?_
      refine wp_getR (pc' := 106) (k := 2) dX10_gainOfTelling_103 vc9 (by decide) rfl lfX10_26 h1 rfl ?_
      refine wp_getR (pc' := 109) (k := 0) dX10_gainOfTelling_106 vc6 (by decide) rfl lfX10_113 h13 rfl ?_
      refine wp_iload_n (pc' := 110) (q := 1) (i := 1) rfl rfl dX10_gainOfTelling_109 rfl ?_
      obtain ⟨h15, h⟩ := h
      refine wp_zald (pc' := 111) (j := a1.toNat) dX10_gainOfTelling_110 h15 h9 rfl rfl ?_
      obtain ⟨h16, h⟩ := h
      refine wp_if_eq (pc' := 114) (tgt := 134) h16 dX10_gainOfTelling_111 rfl rfl (fun hc => ?_) (fun hc => ?_)
      · have h := h.1 hc
        refine wp_iload_n (pc' := 135) (q := 3) (i := 3) rfl rfl dX10_gainOfTelling_134 rfl ?_
        refine wp_aload_n (pc' := 136) (q := 0) (i := 0) rfl rfl dX10_gainOfTelling_135 rfl ?_
        refine wp_getR (pc' := 139) (k := 7) dX10_gainOfTelling_136 vc9 (by decide) rfl lfX10_53 h1 rfl ?_
        obtain ⟨h17, h⟩ := h
        refine wp_getI (pc' := 142) (k := 4) dX10_gainOfTelling_139 vc3 (by decide) rfl lfX10_137 h17 rfl ?_
        refine wp_isub (pc' := 143) dX10_gainOfTelling_142 rfl ?_
        exact wp_ireturn dX10_gainOfTelling_143 rfl rfl h
      · have h := h.2 hc
        refine wp_aload_n (pc' := 115) (q := 0) (i := 0) rfl rfl dX10_gainOfTelling_114 rfl ?_
        refine wp_getR (pc' := 118) (k := 7) dX10_gainOfTelling_115 vc9 (by decide) rfl lfX10_53 h1 rfl ?_
        obtain ⟨h18, h⟩ := h
        refine wp_getI (pc' := 121) (k := 4) dX10_gainOfTelling_118 vc3 (by decide) rfl lfX10_137 h18 rfl ?_
        refine wp_aload_n (pc' := 122) (q := 0) (i := 0) rfl rfl dX10_gainOfTelling_121 rfl ?_
        refine wp_getR (pc' := 125) (k := 2) dX10_gainOfTelling_122 vc9 (by decide) rfl lfX10_26 h1 rfl ?_
        refine wp_getI (pc' := 128) (k := 9) dX10_gainOfTelling_125 vc6 (by decide) rfl lfX10_124 h13 rfl ?_
        refine wp_isub (pc' := 129) dX10_gainOfTelling_128 rfl ?_
        refine wp_iload_n (pc' := 130) (q := 3) (i := 3) rfl rfl dX10_gainOfTelling_129 rfl ?_
        refine wp_isub (pc' := 131) dX10_gainOfTelling_130 rfl ?_
        refine wp_goto (tgt := 143) dX10_gainOfTelling_131 rfl ?_
        exact wp_ireturn dX10_gainOfTelling_143 rfl rfl h
    · have h := h.2 hc
      refine wp_iconst (pc' := 91) dX10_gainOfTelling_90 rfl ?_
      exact wp_ireturn dX10_gainOfTelling_91 rfl rfl h
  · have h := h.2 hc
    refine wp_aload_n (pc' := 21) (q := 0) (i := 0) rfl rfl dX10_gainOfTelling_20 rfl ?_
    refine wp_getR (pc' := 24) (k := 7) dX10_gainOfTelling_21 vc9 (by decide) rfl lfX10_53 h1 rfl ?_
    refine wp_aload_n (pc' := 25) (q := 0) (i := 0) rfl rfl dX10_gainOfTelling_24 rfl ?_
    refine wp_getR (pc' := 28) (k := 2) dX10_gainOfTelling_25 vc9 (by decide) rfl lfX10_26 h1 rfl ?_
    refine wp_iload_n (pc' := 29) (q := 3) (i := 3) rfl rfl dX10_gainOfTelling_28 rfl ?_
    refine wp_iload_n (pc' := 30) (q := 3) (i := 3) rfl rfl dX10_gainOfTelling_29 rfl ?_
    refine wp_iload_n (pc' := 31) (q := 1) (i := 1) rfl rfl dX10_gainOfTelling_30 rfl ?_
    obtain ⟨h19, h⟩ := h
    refine wp_icmp_ne (pc' := 34) (tgt := 38) h3 h19 dX10_gainOfTelling_31 rfl rfl (fun hc => ?_) (fun hc => ?_)
    · have h := h.1 hc
      refine wp_aload_n (pc' := 39) (q := 0) (i := 0) rfl rfl dX10_gainOfTelling_38 rfl ?_
      refine wp_getR (pc' := 42) (k := 2) dX10_gainOfTelling_39 vc9 (by decide) rfl lfX10_26 h1 rfl ?_
      refine wp_getR (pc' := 45) (k := 1) dX10_gainOfTelling_42 vc6 (by decide) rfl lfX10_117 h2 rfl ?_
      refine wp_iload_n (pc' := 46) (q := 3) (i := 3) rfl rfl dX10_gainOfTelling_45 rfl ?_
      obtain ⟨h20, h⟩ := h
      obtain ⟨h21, h⟩ := h
      refine wp_iald (pc' := 47) (j := a3.toNat) dX10_gainOfTelling_46 h20 h21 rfl rfl ?_
      obtain ⟨h23, h⟩ := h
      obtain ⟨Q22, hs22, h⟩ := h
      refine wp_callV (pc' := 50) (as := [vR (R a0 2), vI a3, vI (I (R (R a0 2) 1) a3.toNat)]) (rest := []) hs22 dX10_gainOfTelling_47 rfl lkX10_224 okX3_put inX3_put seX3_put h23 vc3 ⟨Nat.le_of_ble_eq_true rfl, Nat.le_of_ble_eq_true rfl⟩ (Nat.le_of_ble_eq_true rfl) (Nat.le_refl _) (Nat.le_refl _) okP_eq okP_eq rfl (rvV rfl (fun I22 R22 hq22 => ?_))
      have h := h I22 R22 hq22
      refine wp_iinc (pc' := 53) (i := 3) (L' := [vR a0, vI a1, vI a2, vI (a3 + 1)]) rfl (by decide) rfl dX10_gainOfTelling_50 rfl rfl ?_
      refine wp_goto (tgt := 9) dX10_gainOfTelling_53 rfl ?_
      exact h
    · have h := h.2 hc
      refine wp_iload_n (pc' := 35) (q := 2) (i := 2) rfl rfl dX10_gainOfTelling_34 rfl ?_
      refine wp_goto (tgt := 47) dX10_gainOfTelling_35 rfl ?_
      obtain ⟨h25, h⟩ := h
      obtain ⟨Q24, hs24, h⟩ := h
      refine wp_callV (pc' := 50) (as := [vR (R a0 2), vI a3, vI a2]) (rest := []) hs24 dX10_gainOfTelling_47 rfl lkX10_224 okX3_put inX3_put seX3_put h25 vc3 ⟨Nat.le_of_ble_eq_true rfl, Nat.le_of_ble_eq_true rfl⟩ (Nat.le_of_ble_eq_true rfl) (Nat.le_refl _) (Nat.le_refl _) okP_eq okP_eq rfl (rvV rfl (fun I24 R24 hq24 => ?_))
      have h := h I24 R24 hq24
      refine wp_iinc (pc' := 53) (i := 3) (L' := [vR a0, vI a1, vI a2, vI (a3 + 1)]) rfl (by decide) rfl dX10_gainOfTelling_50 rfl rfl ?_
      refine wp_goto (tgt := 9) dX10_gainOfTelling_53 rfl ?_
      exact h

theorem sX10_sumUp {Q : QT} {I : II} {R : RR} {N : Nat} {a0 : Nat} {a1 : Int} {a2 : Int} (hN : N < 1000) (h : wp (kN N) mX10_sumUp Q 0 [vR a0, vI a1, vI a2, none, none] [] I R N) : Spec mX10_sumUp [vR a0, vI a1, vI a2] I R N N Q := Spec_of_wp pyX10_sumUp rfl (Nat.le_of_ble_eq_true rfl) (Nat.le_refl _) hN h

set_option maxRecDepth 4000 in
theorem gX10_sumUp_0 {Q : QT} {I : II} {R : RR} {N : Nat} {a0 : Nat} {a1 : Int} {a2 : Int}
    (h : (isO N a0 9) ∧
      (isA N (R a0 11) 4 4) ∧
      (0 ≤ a1 ∧ a1 < 4) ∧
      (0 < (R (R a0 11) a1.toNat)) ∧
      (isA N (R (R a0 11) a1.toNat) 1 3) ∧
      (∀ I6 : II, I6 = up2 I (R (R a0 11) a1.toNat) 0 0 →
      (∀ I7 : II, I7 = up2 I6 (R (R a0 11) a1.toNat) 1 0 →
      (∀ I8 : II, I8 = up2 I7 (R (R a0 11) a1.toNat) 2 0 →
      wp (kN N) mX10_sumUp Q 22 [vR a0, vI a1, vI a2, vR (R (R a0 11) a1.toNat), vI 0] [] I8 R N)))) : wp (kN N) mX10_sumUp Q 0 [vR a0, vI a1, vI a2, none, none] [] I R N := by
  refine wp_aload_n (pc' := 1) (q := 0) (i := 0) rfl rfl dX10_sumUp_0 rfl ?_
  obtain ⟨h1, h⟩ := h
  refine wp_getR (pc' := 4) (k := 11) dX10_sumUp_1 vc9 (by decide) rfl lfX10_76 h1 rfl ?_
  refine wp_iload_n (pc' := 5) (q := 1) (i := 1) rfl rfl dX10_sumUp_4 rfl ?_
  obtain ⟨h2, h⟩ := h
  obtain ⟨h3, h⟩ := h
  refine wp_aald (pc' := 6) (j := a1.toNat) dX10_sumUp_5 h2 (Or.inr rfl) h3 rfl rfl ?_
  obtain ⟨h4, h⟩ := h
  refine wp_astore_n (pc' := 7) (q := 3) (i := 3) (L' := [vR a0, vI a1, vI a2, vR (R (R a0 11) a1.toNat), none]) h4 rfl (by decide) rfl dX10_sumUp_6 rfl rfl ?_
  refine wp_aload_n (pc' := 8) (q := 3) (i := 3) rfl rfl dX10_sumUp_7 rfl ?_
  refine wp_iconst (pc' := 9) dX10_sumUp_8 rfl ?_
  refine wp_iconst (pc' := 10) dX10_sumUp_9 rfl ?_
  obtain ⟨h5, h⟩ := h
  obtain ⟨I6, eI6⟩ : ∃ z : II, z = up2 I (R (R a0 11) a1.toNat) 0 0 := ⟨_, rfl⟩
  have h := h I6 eI6
  refine wp_iast (pc' := 11) (j := 0) (I' := I6) dX10_sumUp_10 h5 ⟨by decide, by decide⟩ rfl rfl eI6 ?_
  refine wp_aload_n (pc' := 12) (q := 3) (i := 3) rfl rfl dX10_sumUp_11 rfl ?_
  refine wp_iconst (pc' := 13) dX10_sumUp_12 rfl ?_
  refine wp_iconst (pc' := 14) dX10_sumUp_13 rfl ?_
  obtain ⟨I7, eI7⟩ : ∃ z : II, z = up2 I6 (R (R a0 11) a1.toNat) 1 0 := ⟨_, rfl⟩
  have h := h I7 eI7
  refine wp_iast (pc' := 15) (j := 1) (I' := I7) dX10_sumUp_14 h5 ⟨by decide, by decide⟩ rfl rfl eI7 ?_
  refine wp_aload_n (pc' := 16) (q := 3) (i := 3) rfl rfl dX10_sumUp_15 rfl ?_
  refine wp_iconst (pc' := 17) dX10_sumUp_16 rfl ?_
  refine wp_iconst (pc' := 18) dX10_sumUp_17 rfl ?_
  obtain ⟨I8, eI8⟩ : ∃ z : II, z = up2 I7 (R (R a0 11) a1.toNat) 2 0 := ⟨_, rfl⟩
  have h := h I8 eI8
  refine wp_iast (pc' := 19) (j := 2) (I' := I8) dX10_sumUp_18 h5 ⟨by decide, by decide⟩ rfl rfl eI8 ?_
  refine wp_iconst (pc' := 20) dX10_sumUp_19 rfl ?_
  refine wp_istore (pc' := 22) (i := 4) (L' := [vR a0, vI a1, vI a2, vR (R (R a0 11) a1.toNat), vI 0]) (by decide) rfl dX10_sumUp_20 rfl rfl ?_
  exact h

set_option maxRecDepth 4000 in
theorem gX10_sumUp_22 {Q : QT} {I : II} {R : RR} {N : Nat} {a0 : Nat} {a1 : Int} {a2 : Int} {a3 : Nat} {a4 : Int}
    (h : (InI a4) ∧
      (((10 : Int) ≤ a4 →
      Q none I R) ∧ (¬ (10 : Int) ≤ a4 →
      (isO N a0 9) ∧
      (0 ≤ (a2 + a4) ∧ (a2 + a4) ≤ 2147483647 ∧ 0 < (10000 : Int) ∧ (10000 : Int) ≤ 2147483647) ∧
      (isO N (R a0 9) 7) ∧
      (∃ Q4 : QT, Spec mX7_play [vR (R a0 9), vR (R a0 2), vI a1, vI ((a2 + a4) % 10000), vR 0] I R N N Q4 ∧ (∀ I4 R4, Q4 none I4 R4 →
      (isA N a3 1 3) ∧
      (isO N (R4 a0 9) 7) ∧
      (∀ I8 : II, I8 = up2 I4 a3 0 ((I4 a3 0) + (I4 (R4 a0 9) 8)) →
      (∀ I9 : II, I9 = up2 I8 a3 1 ((I8 a3 1) + (I8 (R4 a0 9) 9)) →
      (∃ Q10 : QT, Spec mX7_wanders [vR (R4 a0 9)] I9 R4 N N Q10 ∧ (∀ x10 I10 R10, Q10 (vI x10) I10 R10 →
      (∀ I11 : II, I11 = up2 I10 a3 2 ((I9 a3 2) + x10) →
      wp (kN N) mX10_sumUp Q 22 [vR a0, vI a1, vI a2, vR a3, vI (a4 + 1)] [] I11 R10 N)))))))))) : wp (kN N) mX10_sumUp Q 22 [vR a0, vI a1, vI a2, vR a3, vI a4] [] I R N := by
  refine wp_iload (pc' := 24) (i := 4) rfl dX10_sumUp_22 rfl ?_
  refine wp_bipush (pc' := 26) (by decide) dX10_sumUp_24 rfl ?_
  obtain ⟨h1, h⟩ := h
  refine wp_icmp_ge (pc' := 29) (tgt := 95) h1 ⟨by decide, by decide⟩ dX10_sumUp_26 rfl rfl (fun hc => ?_) (fun hc => ?_)
  · have h := h.1 hc
    exact wp_vreturn dX10_sumUp_95 rfl rfl h
  · have h := h.2 hc
    refine wp_aload_n (pc' := 30) (q := 0) (i := 0) rfl rfl dX10_sumUp_29 rfl ?_
    obtain ⟨h2, h⟩ := h
    refine wp_getR (pc' := 33) (k := 9) dX10_sumUp_30 vc9 (by decide) rfl lfX10_63 h2 rfl ?_
    refine wp_aload_n (pc' := 34) (q := 0) (i := 0) rfl rfl dX10_sumUp_33 rfl ?_
    refine wp_getR (pc' := 37) (k := 2) dX10_sumUp_34 vc9 (by decide) rfl lfX10_26 h2 rfl ?_
    refine wp_iload_n (pc' := 38) (q := 1) (i := 1) rfl rfl dX10_sumUp_37 rfl ?_
    refine wp_iload_n (pc' := 39) (q := 2) (i := 2) rfl rfl dX10_sumUp_38 rfl ?_
    refine wp_iload (pc' := 41) (i := 4) rfl dX10_sumUp_39 rfl ?_
    refine wp_iadd (pc' := 42) dX10_sumUp_41 rfl ?_
    refine wp_sipush (pc' := 45) (by decide) dX10_sumUp_42 rfl ?_
    obtain ⟨h3, h⟩ := h
    refine wp_irem (pc' := 46) h3 dX10_sumUp_45 rfl ?_
    refine wp_anull (pc' := 47) dX10_sumUp_46 rfl ?_
    obtain ⟨h5, h⟩ := h
    obtain ⟨Q4, hs4, h⟩ := h
    refine wp_callV (pc' := 50) (as := [vR (R a0 2), vI a1, vI ((a2 + a4) % 10000), vR 0]) (rest := []) hs4 dX10_sumUp_47 rfl lkX10_181 okX7_play inX7_play seX7_play h5 vc7 ⟨Nat.le_of_ble_eq_true rfl, Nat.le_of_ble_eq_true rfl⟩ (Nat.le_of_ble_eq_true rfl) (Nat.le_refl _) (Nat.le_refl _) okP_eq okP_eq rfl (rvV rfl (fun I4 R4 hq4 => ?_))
    have h := h I4 R4 hq4
    refine wp_aload_n (pc' := 51) (q := 3) (i := 3) rfl rfl dX10_sumUp_50 rfl ?_
    refine wp_iconst (pc' := 52) dX10_sumUp_51 rfl ?_
    refine wp_dup2 (pc' := 53) dX10_sumUp_52 rfl ?_
    obtain ⟨h6, h⟩ := h
    refine wp_iald (pc' := 54) (j := 0) dX10_sumUp_53 h6 ⟨by decide, by decide⟩ rfl rfl ?_
    refine wp_aload_n (pc' := 55) (q := 0) (i := 0) rfl rfl dX10_sumUp_54 rfl ?_
    refine wp_getR (pc' := 58) (k := 9) dX10_sumUp_55 vc9 (by decide) rfl lfX10_63 h2 rfl ?_
    obtain ⟨h7, h⟩ := h
    refine wp_getI (pc' := 61) (k := 8) dX10_sumUp_58 vc7 (by decide) rfl lfX10_188 h7 rfl ?_
    refine wp_iadd (pc' := 62) dX10_sumUp_61 rfl ?_
    obtain ⟨I8, eI8⟩ : ∃ z : II, z = up2 I4 a3 0 ((I4 a3 0) + (I4 (R4 a0 9) 8)) := ⟨_, rfl⟩
    have h := h I8 eI8
    refine wp_iast (pc' := 63) (j := 0) (I' := I8) dX10_sumUp_62 h6 ⟨by decide, by decide⟩ rfl rfl eI8 ?_
    refine wp_aload_n (pc' := 64) (q := 3) (i := 3) rfl rfl dX10_sumUp_63 rfl ?_
    refine wp_iconst (pc' := 65) dX10_sumUp_64 rfl ?_
    refine wp_dup2 (pc' := 66) dX10_sumUp_65 rfl ?_
    refine wp_iald (pc' := 67) (j := 1) dX10_sumUp_66 h6 ⟨by decide, by decide⟩ rfl rfl ?_
    refine wp_aload_n (pc' := 68) (q := 0) (i := 0) rfl rfl dX10_sumUp_67 rfl ?_
    refine wp_getR (pc' := 71) (k := 9) dX10_sumUp_68 vc9 (by decide) rfl lfX10_63 h2 rfl ?_
    refine wp_getI (pc' := 74) (k := 9) dX10_sumUp_71 vc7 (by decide) rfl lfX10_191 h7 rfl ?_
    refine wp_iadd (pc' := 75) dX10_sumUp_74 rfl ?_
    obtain ⟨I9, eI9⟩ : ∃ z : II, z = up2 I8 a3 1 ((I8 a3 1) + (I8 (R4 a0 9) 9)) := ⟨_, rfl⟩
    have h := h I9 eI9
    refine wp_iast (pc' := 76) (j := 1) (I' := I9) dX10_sumUp_75 h6 ⟨by decide, by decide⟩ rfl rfl eI9 ?_
    refine wp_aload_n (pc' := 77) (q := 3) (i := 3) rfl rfl dX10_sumUp_76 rfl ?_
    refine wp_iconst (pc' := 78) dX10_sumUp_77 rfl ?_
    refine wp_dup2 (pc' := 79) dX10_sumUp_78 rfl ?_
    refine wp_iald (pc' := 80) (j := 2) dX10_sumUp_79 h6 ⟨by decide, by decide⟩ rfl rfl ?_
    refine wp_aload_n (pc' := 81) (q := 0) (i := 0) rfl rfl dX10_sumUp_80 rfl ?_
    refine wp_getR (pc' := 84) (k := 9) dX10_sumUp_81 vc9 (by decide) rfl lfX10_63 h2 rfl ?_
    obtain ⟨Q10, hs10, h⟩ := h
    refine wp_callV (pc' := 87) (as := []) (rest := [vI (I9 a3 2), vI 2, vR a3]) hs10 dX10_sumUp_84 rfl lkX10_194 okX7_wanders inX7_wanders seX7_wanders h7 vc7 ⟨Nat.le_of_ble_eq_true rfl, Nat.le_of_ble_eq_true rfl⟩ (Nat.le_of_ble_eq_true rfl) (Nat.le_refl _) (Nat.le_refl _) okP_eq okP_eq rfl (rvI rfl (fun x10 I10 R10 hq10 => ?_))
    have h := h x10 I10 R10 hq10
    refine wp_iadd (pc' := 88) dX10_sumUp_87 rfl ?_
    obtain ⟨I11, eI11⟩ : ∃ z : II, z = up2 I10 a3 2 ((I9 a3 2) + x10) := ⟨_, rfl⟩
    have h := h I11 eI11
    refine wp_iast (pc' := 89) (j := 2) (I' := I11) dX10_sumUp_88 h6 ⟨by decide, by decide⟩ rfl rfl eI11 ?_
    refine wp_iinc (pc' := 92) (i := 4) (L' := [vR a0, vI a1, vI a2, vR a3, vI (a4 + 1)]) rfl (by decide) rfl dX10_sumUp_89 rfl rfl ?_
    refine wp_goto (tgt := 22) dX10_sumUp_92 rfl ?_
    exact h

theorem sX10_bestBy {Q : QT} {I : II} {R : RR} {N : Nat} {a0 : Nat} {a1 : Int} (hN : N < 1000) (h : wp (kN N) mX10_bestBy Q 0 [vR a0, vI a1, none, none, none] [] I R N) : Spec mX10_bestBy [vR a0, vI a1] I R N N Q := Spec_of_wp pyX10_bestBy rfl (Nat.le_of_ble_eq_true rfl) (Nat.le_refl _) hN h

set_option maxRecDepth 4000 in
theorem gX10_bestBy_0 {Q : QT} {I : II} {R : RR} {N : Nat} {a0 : Nat} {a1 : Int}
    (h : wp (kN N) mX10_bestBy Q 4 [vR a0, vI a1, vI 0, vI 1, none] [] I R N) : wp (kN N) mX10_bestBy Q 0 [vR a0, vI a1, none, none, none] [] I R N := by
  refine wp_iconst (pc' := 1) dX10_bestBy_0 rfl ?_
  refine wp_istore_n (pc' := 2) (q := 2) (i := 2) (L' := [vR a0, vI a1, vI 0, none, none]) rfl (by decide) rfl dX10_bestBy_1 rfl rfl ?_
  refine wp_iconst (pc' := 3) dX10_bestBy_2 rfl ?_
  refine wp_istore_n (pc' := 4) (q := 3) (i := 3) (L' := [vR a0, vI a1, vI 0, vI 1, none]) rfl (by decide) rfl dX10_bestBy_3 rfl rfl ?_
  exact h

set_option maxRecDepth 4000 in
theorem gX10_bestBy_4 {Q : QT} {I : II} {R : RR} {N : Nat} {a0 : Nat} {a1 : Int} {a2 : Int} {a3 : Int}
    (h : (InI a3) ∧
      (((3 : Int) < a3 →
      Q (vI a2) I R) ∧ (¬ (3 : Int) < a3 →
      (isO N a0 9) ∧
      (isA N (R a0 11) 4 4) ∧
      (0 ≤ a3 ∧ a3 < 4) ∧
      (isA N (R (R a0 11) a3.toNat) 1 3) ∧
      (0 ≤ a1 ∧ a1 < 3) ∧
      (0 ≤ a2 ∧ a2 < 4) ∧
      (isA N (R (R a0 11) a2.toNat) 1 3) ∧
      (InI a1) ∧
      ((¬ a1 = 0 →
      (InI ((I (R (R a0 11) a3.toNat) a1.toNat) - (I (R (R a0 11) a2.toNat) a1.toNat))) ∧
      ((0 ≤ ((I (R (R a0 11) a3.toNat) a1.toNat) - (I (R (R a0 11) a2.toNat) a1.toNat)) →
      wp (kN N) mX10_bestBy Q 47 [vR a0, vI a1, vI a2, vI a3, none] [] I R N) ∧ (¬ (0 ≤ ((I (R (R a0 11) a3.toNat) a1.toNat) - (I (R (R a0 11) a2.toNat) a1.toNat))) →
      wp (kN N) mX10_bestBy Q 45 [vR a0, vI a1, none, vI a3, none] [] I R N))) ∧ (a1 = 0 →
      (InI ((I (R (R a0 11) a3.toNat) a1.toNat) - (I (R (R a0 11) a2.toNat) a1.toNat))) ∧
      ((((I (R (R a0 11) a3.toNat) a1.toNat) - (I (R (R a0 11) a2.toNat) a1.toNat)) ≤ 0 →
      wp (kN N) mX10_bestBy Q 47 [vR a0, vI a1, vI a2, vI a3, none] [] I R N) ∧ (¬ ((I (R (R a0 11) a3.toNat) a1.toNat) - (I (R (R a0 11) a2.toNat) a1.toNat)) ≤ 0 →
      wp (kN N) mX10_bestBy Q 45 [vR a0, vI a1, none, vI a3, none] [] I R N))))))) : wp (kN N) mX10_bestBy Q 4 [vR a0, vI a1, vI a2, vI a3, none] [] I R N := by
  refine wp_iload_n (pc' := 5) (q := 3) (i := 3) rfl rfl dX10_bestBy_4 rfl ?_
  refine wp_iconst (pc' := 6) dX10_bestBy_5 rfl ?_
  obtain ⟨h1, h⟩ := h
  refine wp_icmp_gt (pc' := 9) (tgt := 53) h1 ⟨by decide, by decide⟩ dX10_bestBy_6 rfl rfl (fun hc => ?_) (fun hc => ?_)
  · have h := h.1 hc
    refine wp_iload_n (pc' := 54) (q := 2) (i := 2) rfl rfl dX10_bestBy_53 rfl ?_
    exact wp_ireturn dX10_bestBy_54 rfl rfl h
  · have h := h.2 hc
    refine wp_aload_n (pc' := 10) (q := 0) (i := 0) rfl rfl dX10_bestBy_9 rfl ?_
    obtain ⟨h2, h⟩ := h
    refine wp_getR (pc' := 13) (k := 11) dX10_bestBy_10 vc9 (by decide) rfl lfX10_76 h2 rfl ?_
    refine wp_iload_n (pc' := 14) (q := 3) (i := 3) rfl rfl dX10_bestBy_13 rfl ?_
    obtain ⟨h3, h⟩ := h
    obtain ⟨h4, h⟩ := h
    refine wp_aald (pc' := 15) (j := a3.toNat) dX10_bestBy_14 h3 (Or.inr rfl) h4 rfl rfl ?_
    refine wp_iload_n (pc' := 16) (q := 1) (i := 1) rfl rfl dX10_bestBy_15 rfl ?_
    obtain ⟨h5, h⟩ := h
    obtain ⟨h6, h⟩ := h
    refine wp_iald (pc' := 17) (j := a1.toNat) dX10_bestBy_16 h5 h6 rfl rfl ?_
    refine wp_aload_n (pc' := 18) (q := 0) (i := 0) rfl rfl dX10_bestBy_17 rfl ?_
    refine wp_getR (pc' := 21) (k := 11) dX10_bestBy_18 vc9 (by decide) rfl lfX10_76 h2 rfl ?_
    refine wp_iload_n (pc' := 22) (q := 2) (i := 2) rfl rfl dX10_bestBy_21 rfl ?_
    obtain ⟨h7, h⟩ := h
    refine wp_aald (pc' := 23) (j := a2.toNat) dX10_bestBy_22 h3 (Or.inr rfl) h7 rfl rfl ?_
    refine wp_iload_n (pc' := 24) (q := 1) (i := 1) rfl rfl dX10_bestBy_23 rfl ?_
    obtain ⟨h8, h⟩ := h
    refine wp_iald (pc' := 25) (j := a1.toNat) dX10_bestBy_24 h8 h6 rfl rfl ?_
    refine wp_isub (pc' := 26) dX10_bestBy_25 rfl ?_
    refine wp_istore (pc' := 28) (i := 4) (L' := [vR a0, vI a1, vI a2, vI a3, vI ((I (R (R a0 11) a3.toNat) a1.toNat) - (I (R (R a0 11) a2.toNat) a1.toNat))]) (by decide) rfl dX10_bestBy_26 rfl rfl ?_
    refine wp_iload_n (pc' := 29) (q := 1) (i := 1) rfl rfl dX10_bestBy_28 rfl ?_
    obtain ⟨h9, h⟩ := h
    refine wp_if_ne (pc' := 32) (tgt := 40) h9 dX10_bestBy_29 rfl rfl (fun hc => ?_) (fun hc => ?_)
    · have h := h.1 hc
      refine wp_iload (pc' := 42) (i := 4) rfl dX10_bestBy_40 rfl ?_
      obtain ⟨h10, h⟩ := h
      refine wp_if_ge (pc' := 45) (tgt := 47) h10 dX10_bestBy_42 rfl rfl (fun hc => ?_) (fun hc => ?_)
      · have h := h.1 hc
        exact wp_dropP (leP_s (leP_s (leP_s (leP_s (leP_d leP_n))))) h
      · have h := h.2 hc
        exact wp_dropP (leP_s (leP_s (leP_d (leP_s (leP_d leP_n))))) h
    · have h := h.2 hc
      refine wp_iload (pc' := 34) (i := 4) rfl dX10_bestBy_32 rfl ?_
      obtain ⟨h11, h⟩ := h
      refine wp_if_le (pc' := 37) (tgt := 47) h11 dX10_bestBy_34 rfl rfl (fun hc => ?_) (fun hc => ?_)
      · have h := h.1 hc
        exact wp_dropP (leP_s (leP_s (leP_s (leP_s (leP_d leP_n))))) h
      · have h := h.2 hc
        refine wp_goto (tgt := 45) dX10_bestBy_37 rfl ?_
        exact wp_dropP (leP_s (leP_s (leP_d (leP_s (leP_d leP_n))))) h

set_option maxRecDepth 4000 in
theorem gX10_bestBy_45 {Q : QT} {I : II} {R : RR} {N : Nat} {a0 : Nat} {a1 : Int} {a3 : Int}
    (h : wp (kN N) mX10_bestBy Q 47 [vR a0, vI a1, vI a3, vI a3, none] [] I R N) : wp (kN N) mX10_bestBy Q 45 [vR a0, vI a1, none, vI a3, none] [] I R N := by
  refine wp_iload_n (pc' := 46) (q := 3) (i := 3) rfl rfl dX10_bestBy_45 rfl ?_
  refine wp_istore_n (pc' := 47) (q := 2) (i := 2) (L' := [vR a0, vI a1, vI a3, vI a3, none]) rfl (by decide) rfl dX10_bestBy_46 rfl rfl ?_
  exact h

set_option maxRecDepth 4000 in
theorem gX10_bestBy_47 {Q : QT} {I : II} {R : RR} {N : Nat} {a0 : Nat} {a1 : Int} {a2 : Int} {a3 : Int}
    (h : wp (kN N) mX10_bestBy Q 4 [vR a0, vI a1, vI a2, vI (a3 + 1), none] [] I R N) : wp (kN N) mX10_bestBy Q 47 [vR a0, vI a1, vI a2, vI a3, none] [] I R N := by
  refine wp_iinc (pc' := 50) (i := 3) (L' := [vR a0, vI a1, vI a2, vI (a3 + 1), none]) rfl (by decide) rfl dX10_bestBy_47 rfl rfl ?_
  refine wp_goto (tgt := 4) dX10_bestBy_50 rfl ?_
  exact h

