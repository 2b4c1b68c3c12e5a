theorem sX10_within {Q : QT} {I : II} {R : RR} {N : Nat} {a0 : Int} {a1 : Int} {a2 : Int} (hN : N < 1000) (h : wp (kN N) mX10_within Q 0 [vI a0, vI a1, vI a2] [] I R N) : Spec mX10_within [vI a0, vI a1, vI a2] I R N N Q := Spec_of_wp pyX10_within rfl (Nat.le_of_ble_eq_true rfl) (Nat.le_refl _) hN h

set_option maxRecDepth 4000 in
theorem gX10_within_0 {Q : QT} {I : II} {R : RR} {N : Nat} {a0 : Int} {a1 : Int} {a2 : Int}
    (h : (InI a0) ∧
      (InI a1) ∧
      ((a0 < a1 →
      wp (kN N) mX10_within Q 14 [none, none, none] [] I R N) ∧ (¬ (a0 < a1) →
      (InI a2) ∧
      ((a2 < a0 →
      wp (kN N) mX10_within Q 14 [none, none, none] [] I R N) ∧ (¬ (a2 < a0) →
      Q (vI 1) I R))))) : wp (kN N) mX10_within Q 0 [vI a0, vI a1, vI a2] [] I R N := by
  refine wp_iload_n (pc' := 1) (q := 0) (i := 0) rfl rfl dX10_within_0 rfl ?_
  refine wp_iload_n (pc' := 2) (q := 1) (i := 1) rfl rfl dX10_within_1 rfl ?_
  obtain ⟨h1, h⟩ := h
  obtain ⟨h2, h⟩ := h
  refine wp_icmp_lt (pc' := 5) (tgt := 14) h1 h2 dX10_within_2 rfl rfl (fun hc => ?_) (fun hc => ?_)
  · have h := h.1 hc
    exact wp_dropP (leP_d (leP_d (leP_d leP_n))) h
  · have h := h.2 hc
    refine wp_iload_n (pc' := 6) (q := 0) (i := 0) rfl rfl dX10_within_5 rfl ?_
    refine wp_iload_n (pc' := 7) (q := 2) (i := 2) rfl rfl dX10_within_6 rfl ?_
    obtain ⟨h3, h⟩ := h
    refine wp_icmp_gt (pc' := 10) (tgt := 14) h1 h3 dX10_within_7 rfl rfl (fun hc => ?_) (fun hc => ?_)
    · have h := h.1 hc
      exact wp_dropP (leP_d (leP_d (leP_d leP_n))) h
    · have h := h.2 hc
      refine wp_iconst (pc' := 11) dX10_within_10 rfl ?_
      refine wp_goto (tgt := 15) dX10_within_11 rfl ?_
      exact wp_zreturn dX10_within_15 rfl rfl (Or.inr rfl) h

set_option maxRecDepth 4000 in
theorem gX10_within_14 {Q : QT} {I : II} {R : RR} {N : Nat} 
    (h : Q (vI 0) I R) : wp (kN N) mX10_within Q 14 [none, none, none] [] I R N := by
  refine wp_iconst (pc' := 15) dX10_within_14 rfl ?_
  exact wp_zreturn dX10_within_15 rfl rfl (Or.inl rfl) h

theorem sX11_in {Q : QT} {I : II} {R : RR} {N : Nat} {a0 : Int} {a2 : Int} {a4 : Int} (hN : N < 1000) (h : wp (kN N) mX11_in Q 0 [vL a0, none, vL a2, none, vL a4, none] [] I R N) : Spec mX11_in [vL a0, vL a2, vL a4] I R N N Q := Spec_of_wp pyX11_in rfl (Nat.le_of_ble_eq_true rfl) (Nat.le_refl _) hN h

set_option maxRecDepth 4000 in
theorem gX11_in_0 {Q : QT} {I : II} {R : RR} {N : Nat} {a0 : Int} {a2 : Int} {a4 : Int}
    (h : (InL a0) ∧
      (InL a2) ∧
      ((a0 < a2 →
      wp (kN N) mX11_in Q 17 [none, none, none, none, none, none] [] I R N) ∧ (¬ (a0 < a2) →
      (InL a4) ∧
      ((a4 < a0 →
      wp (kN N) mX11_in Q 17 [none, none, none, none, none, none] [] I R N) ∧ (¬ (a4 < a0) →
      Q (vI 1) I R))))) : wp (kN N) mX11_in Q 0 [vL a0, none, vL a2, none, vL a4, none] [] I R N := by
  refine wp_lload_n (pc' := 1) (q := 0) (i := 0) rfl rfl dX11_in_0 rfl ?_
  refine wp_lload_n (pc' := 2) (q := 2) (i := 2) rfl rfl dX11_in_1 rfl ?_
  obtain ⟨h1, h⟩ := h
  obtain ⟨h2, h⟩ := h
  refine wp_lif_lt (pc' := 6) (pc1 := 3) (tgt := 17) h1 h2 dX11_in_2 rfl dX11_in_3 rfl rfl (fun hc => ?_) (fun hc => ?_)
  · have h := h.1 hc
    exact wp_dropP (leP_d (leP_s (leP_d (leP_s (leP_d (leP_s leP_n)))))) h
  · have h := h.2 hc
    refine wp_lload_n (pc' := 7) (q := 0) (i := 0) rfl rfl dX11_in_6 rfl ?_
    refine wp_lload (pc' := 9) (i := 4) rfl dX11_in_7 rfl ?_
    obtain ⟨h3, h⟩ := h
    refine wp_lif_gt (pc' := 13) (pc1 := 10) (tgt := 17) h1 h3 dX11_in_9 rfl dX11_in_10 rfl rfl (fun hc => ?_) (fun hc => ?_)
    · have h := h.1 hc
      exact wp_dropP (leP_d (leP_s (leP_d (leP_s (leP_d (leP_s leP_n)))))) h
    · have h := h.2 hc
      refine wp_iconst (pc' := 14) dX11_in_13 rfl ?_
      refine wp_goto (tgt := 18) dX11_in_14 rfl ?_
      exact wp_zreturn dX11_in_18 rfl rfl (Or.inr rfl) h

set_option maxRecDepth 4000 in
theorem gX11_in_17 {Q : QT} {I : II} {R : RR} {N : Nat} 
    (h : Q (vI 0) I R) : wp (kN N) mX11_in Q 17 [none, none, none, none, none, none] [] I R N := by
  refine wp_iconst (pc' := 18) dX11_in_17 rfl ?_
  exact wp_zreturn dX11_in_18 rfl rfl (Or.inl rfl) h

theorem sX6_has {Q : QT} {I : II} {R : RR} {N : Nat} {a0 : Nat} {a1 : Int} (hN : N < 1000) (h : wp (kN N) mX6_has Q 0 [vR a0, vI a1] [] I R N) : Spec mX6_has [vR a0, vI a1] I R N N Q := Spec_of_wp pyX6_has rfl (Nat.le_of_ble_eq_true rfl) (Nat.le_refl _) hN h

set_option maxRecDepth 4000 in
theorem gX6_has_0 {Q : QT} {I : II} {R : RR} {N : Nat} {a0 : Nat} {a1 : Int}
    (h : (InI a1) ∧
      ((a1 < 0 →
      wp (kN N) mX6_has Q 16 [none, none] [] I R N) ∧ (¬ (a1 < 0) →
      (isO N a0 6) ∧
      (InI (I a0 5)) ∧
      (((I a0 5) ≤ a1 →
      wp (kN N) mX6_has Q 16 [none, none] [] I R N) ∧ (¬ (I a0 5) ≤ a1 →
      Q (vI 1) I R))))) : wp (kN N) mX6_has Q 0 [vR a0, vI a1] [] I R N := by
  refine wp_iload_n (pc' := 1) (q := 1) (i := 1) rfl rfl dX6_has_0 rfl ?_
  obtain ⟨h1, h⟩ := h
  refine wp_if_lt (pc' := 4) (tgt := 16) h1 dX6_has_1 rfl rfl (fun hc => ?_) (fun hc => ?_)
  · have h := h.1 hc
    exact wp_dropP (leP_d (leP_d leP_n)) h
  · have h := h.2 hc
    refine wp_iload_n (pc' := 5) (q := 1) (i := 1) rfl rfl dX6_has_4 rfl ?_
    refine wp_aload_n (pc' := 6) (q := 0) (i := 0) rfl rfl dX6_has_5 rfl ?_
    obtain ⟨h2, h⟩ := h
    refine wp_getI (pc' := 9) (k := 5) dX6_has_6 vc6 (by decide) rfl lfX6_31 h2 rfl ?_
    obtain ⟨h3, h⟩ := h
    refine wp_icmp_ge (pc' := 12) (tgt := 16) h1 h3 dX6_has_9 rfl rfl (fun hc => ?_) (fun hc => ?_)
    · have h := h.1 hc
      exact wp_dropP (leP_d (leP_d leP_n)) h
    · have h := h.2 hc
      refine wp_iconst (pc' := 13) dX6_has_12 rfl ?_
      refine wp_goto (tgt := 17) dX6_has_13 rfl ?_
      exact wp_zreturn dX6_has_17 rfl rfl (Or.inr rfl) h

set_option maxRecDepth 4000 in
theorem gX6_has_16 {Q : QT} {I : II} {R : RR} {N : Nat} 
    (h : Q (vI 0) I R) : wp (kN N) mX6_has Q 16 [none, none] [] I R N := by
  refine wp_iconst (pc' := 17) dX6_has_16 rfl ?_
  exact wp_zreturn dX6_has_17 rfl rfl (Or.inl rfl) h

theorem sX11_isPerson {Q : QT} {I : II} {R : RR} {a1 : Int} (h : wp (kN 89) mX11_isPerson Q 0 [vR 68, vI a1] [] I R 89) : Spec mX11_isPerson [vR 68, vI a1] I R 89 89 Q := Spec_of_wp pyX11_isPerson rfl (Nat.le_of_ble_eq_true rfl) (Nat.le_refl _) (by decide) h

set_option maxRecDepth 4000 in
theorem gX11_isPerson_0 {Q : QT} {I : II} {R : RR} (hR : SR R) {a1 : Int}
    (h : (InI a1) ∧
      (InI ((I 70 0) - 1)) ∧
      (∃ Q3 : QT, Spec mX11_in [vL a1, vL 0, vL ((I 70 0) - 1)] I R 89 89 Q3 ∧ (∀ x3 I3 R3, (x3 = 0 ∨ x3 = 1) → Q3 (vI x3) I3 R3 →
      R = R3 ∧ Q (vI x3) I3 R))) : wp (kN 89) mX11_isPerson Q 0 [vR 68, vI a1] [] I R 89 := by
  refine wp_iload_n (pc' := 1) (q := 1) (i := 1) rfl rfl dX11_isPerson_0 rfl ?_
  obtain ⟨h1, h⟩ := h
  refine wp_i2l (pc' := 2) h1 dX11_isPerson_1 rfl ?_
  refine wp_lconst (pc' := 3) dX11_isPerson_2 rfl ?_
  refine wp_aload_n (pc' := 4) (q := 0) (i := 0) rfl rfl dX11_isPerson_3 rfl ?_
  refine wp_getRc (pc' := 7) (k := 2) (j := 70) dX11_isPerson_4 vc10 (by decide) rfl lfX11_13 o_68 (r_68_2 hR) rfl ?_
  refine wp_iconst (pc' := 8) dX11_isPerson_7 rfl ?_
  refine wp_iald (pc' := 9) (j := 0) dX11_isPerson_8 a_70 ⟨by decide, by decide⟩ rfl rfl ?_
  refine wp_iconst (pc' := 10) dX11_isPerson_9 rfl ?_
  refine wp_isub (pc' := 11) dX11_isPerson_10 rfl ?_
  obtain ⟨h2, h⟩ := h
  refine wp_i2l (pc' := 12) h2 dX11_isPerson_11 rfl ?_
  obtain ⟨Q3, hs3, h⟩ := h
  refine wp_callS (pc' := 15) (as := [vL a1, vL 0, vL ((I 70 0) - 1)]) (rest := []) hs3 dX11_isPerson_12 rfl lkX11_79 okX11_in stX11_in ⟨Nat.le_of_ble_eq_true rfl, Nat.le_of_ble_eq_true rfl⟩ (Nat.le_of_ble_eq_true rfl) (Nat.le_refl _) (Nat.le_refl _) okP_eq okP_eq rfl (rvZ rfl (fun x3 I3 R3 hz3 hq3 => ?_))
  obtain ⟨hRR3, h⟩ := h x3 I3 R3 hz3 hq3; subst hRR3
  exact wp_zreturn dX11_isPerson_15 rfl rfl hz3 h

theorem sX11_isRound {Q : QT} {I : II} {R : RR} {a0 : Int} {a1 : Int} (h : wp (kN 89) mX11_isRound Q 0 [vI a0, vI a1] [] I R 89) : Spec mX11_isRound [vI a0, vI a1] I R 89 89 Q := Spec_of_wp pyX11_isRound rfl (Nat.le_of_ble_eq_true rfl) (Nat.le_refl _) (by decide) h

set_option maxRecDepth 4000 in
theorem gX11_isRound_0 {Q : QT} {I : II} {R : RR} (hR : SR R) {a0 : Int} {a1 : Int}
    (h : (InI a0) ∧
      (∃ Q2 : QT, Spec mX11_in [vL a0, vL 0, vL 3] I R 89 89 Q2 ∧ (∀ x2 I2 R2, (x2 = 0 ∨ x2 = 1) → Q2 (vI x2) I2 R2 →
      R = R2 ∧ (InI x2) ∧
      ((x2 = 0 →
      wp (kN 89) mX11_isRound Q 28 [none, none] [] I2 R 89) ∧ (¬ (x2 = 0) →
      (InI a1) ∧
      (∃ Q5 : QT, Spec mX11_in [vL a1, vL 0, vL 9999] I2 R 89 89 Q5 ∧ (∀ x5 I5 R5, (x5 = 0 ∨ x5 = 1) → Q5 (vI x5) I5 R5 →
      R = R5 ∧ (InI x5) ∧
      ((x5 = 0 →
      wp (kN 89) mX11_isRound Q 28 [none, none] [] I5 R 89) ∧ (¬ (x5 = 0) →
      Q (vI 1) I5 R))))))))) : wp (kN 89) mX11_isRound Q 0 [vI a0, vI a1] [] I R 89 := by
  refine wp_iload_n (pc' := 1) (q := 0) (i := 0) rfl rfl dX11_isRound_0 rfl ?_
  obtain ⟨h1, h⟩ := h
  refine wp_i2l (pc' := 2) h1 dX11_isRound_1 rfl ?_
  refine wp_lconst (pc' := 3) dX11_isRound_2 rfl ?_
  refine wp_ldc2 (pc' := 6) (x := 3) lcX11_100 (by decide +kernel) dX11_isRound_3 rfl ?_
  obtain ⟨Q2, hs2, h⟩ := h
  refine wp_callS (pc' := 9) (as := [vL a0, vL 0, vL 3]) (rest := []) hs2 dX11_isRound_6 rfl lkX11_79 okX11_in stX11_in ⟨Nat.le_of_ble_eq_true rfl, Nat.le_of_ble_eq_true rfl⟩ (Nat.le_of_ble_eq_true rfl) (Nat.le_refl _) (Nat.le_refl _) okP_eq okP_eq rfl (rvZ rfl (fun x2 I2 R2 hz2 hq2 => ?_))
  obtain ⟨hRR2, h⟩ := h x2 I2 R2 hz2 hq2; subst hRR2
  obtain ⟨h3, h⟩ := h
  refine wp_if_eq (pc' := 12) (tgt := 28) h3 dX11_isRound_9 rfl rfl (fun hc => ?_) (fun hc => ?_)
  · have h := h.1 hc
    exact wp_dropP (leP_d (leP_d leP_n)) h
  · have h := h.2 hc
    refine wp_iload_n (pc' := 13) (q := 1) (i := 1) rfl rfl dX11_isRound_12 rfl ?_
    obtain ⟨h4, h⟩ := h
    refine wp_i2l (pc' := 14) h4 dX11_isRound_13 rfl ?_
    refine wp_lconst (pc' := 15) dX11_isRound_14 rfl ?_
    refine wp_ldc2 (pc' := 18) (x := 9999) lcX11_252 (by decide +kernel) dX11_isRound_15 rfl ?_
    obtain ⟨Q5, hs5, h⟩ := h
    refine wp_callS (pc' := 21) (as := [vL a1, vL 0, vL 9999]) (rest := []) hs5 dX11_isRound_18 rfl lkX11_79 okX11_in stX11_in ⟨Nat.le_of_ble_eq_true rfl, Nat.le_of_ble_eq_true rfl⟩ (Nat.le_of_ble_eq_true rfl) (Nat.le_refl _) (Nat.le_refl _) okP_eq okP_eq rfl (rvZ rfl (fun x5 I5 R5 hz5 hq5 => ?_))
    obtain ⟨hRR5, h⟩ := h x5 I5 R5 hz5 hq5; subst hRR5
    obtain ⟨h6, h⟩ := h
    refine wp_if_eq (pc' := 24) (tgt := 28) h6 dX11_isRound_21 rfl rfl (fun hc => ?_) (fun hc => ?_)
    · have h := h.1 hc
      exact wp_dropP (leP_d (leP_d leP_n)) h
    · have h := h.2 hc
      refine wp_iconst (pc' := 25) dX11_isRound_24 rfl ?_
      refine wp_goto (tgt := 29) dX11_isRound_25 rfl ?_
      exact wp_zreturn dX11_isRound_29 rfl rfl (Or.inr rfl) h

set_option maxRecDepth 4000 in
theorem gX11_isRound_28 {Q : QT} {I : II} {R : RR} (hR : SR R) 
    (h : Q (vI 0) I R) : wp (kN 89) mX11_isRound Q 28 [none, none] [] I R 89 := by
  refine wp_iconst (pc' := 29) dX11_isRound_28 rfl ?_
  exact wp_zreturn dX11_isRound_29 rfl rfl (Or.inl rfl) h

theorem sX11_byteAt {Q : QT} {I : II} {R : RR} {a1 : Int} (h : wp (kN 89) mX11_byteAt Q 0 [vR 68, vI a1] [] I R 89) : Spec mX11_byteAt [vR 68, vI a1] I R 89 89 Q := Spec_of_wp pyX11_byteAt rfl (Nat.le_of_ble_eq_true rfl) (Nat.le_refl _) (by decide) h

set_option maxRecDepth 4000 in
theorem gX11_byteAt_0 {Q : QT} {I : II} {R : RR} (hR : SR R) {a1 : Int}
    (h : (InI a1) ∧
      (InI (I 68 0)) ∧
      (((I 68 0) ≤ a1 →
      Q (vI 0) I R) ∧ (¬ (I 68 0) ≤ a1 →
      (0 ≤ a1 ∧ a1 < 300) ∧
      Q (vI (I 69 a1.toNat)) I R))) : wp (kN 89) mX11_byteAt Q 0 [vR 68, vI a1] [] I R 89 := by
  refine wp_iload_n (pc' := 1) (q := 1) (i := 1) rfl rfl dX11_byteAt_0 rfl ?_
  refine wp_aload_n (pc' := 2) (q := 0) (i := 0) rfl rfl dX11_byteAt_1 rfl ?_
  refine wp_getI (pc' := 5) (k := 0) dX11_byteAt_2 vc10 (by decide) rfl lfX11_83 o_68 rfl ?_
  obtain ⟨h1, h⟩ := h
  obtain ⟨h2, h⟩ := h
  refine wp_icmp_ge (pc' := 8) (tgt := 17) h1 h2 dX11_byteAt_5 rfl rfl (fun hc => ?_) (fun hc => ?_)
  · have h := h.1 hc
    refine wp_iconst (pc' := 18) dX11_byteAt_17 rfl ?_
    exact wp_ireturn dX11_byteAt_18 rfl rfl h
  · have h := h.2 hc
    refine wp_aload_n (pc' := 9) (q := 0) (i := 0) rfl rfl dX11_byteAt_8 rfl ?_
    refine wp_getRc (pc' := 12) (k := 1) (j := 69) dX11_byteAt_9 vc10 (by decide) rfl lfX11_7 o_68 (r_68_1 hR) rfl ?_
    refine wp_iload_n (pc' := 13) (q := 1) (i := 1) rfl rfl dX11_byteAt_12 rfl ?_
    obtain ⟨h3, h⟩ := h
    refine wp_iald (pc' := 14) (j := a1.toNat) dX11_byteAt_13 a_69 h3 rfl rfl ?_
    refine wp_goto (tgt := 18) dX11_byteAt_14 rfl ?_
    exact wp_ireturn dX11_byteAt_18 rfl rfl h

theorem sX11_worth {Q : QT} {I : II} {R : RR} {a1 : Int} (h : wp (kN 89) mX11_worth Q 0 [vR 68, vI a1] [] I R 89) : Spec mX11_worth [vR 68, vI a1] I R 89 89 Q := Spec_of_wp pyX11_worth rfl (Nat.le_of_ble_eq_true rfl) (Nat.le_refl _) (by decide) h

set_option maxRecDepth 4000 in
theorem gX11_worth_0 {Q : QT} {I : II} {R : RR} (hR : SR R) {a1 : Int}
    (h : (0 ≤ a1 ∧ a1 < 10) ∧
      (0 ≤ (I 83 a1.toNat) ∧ (I 83 a1.toNat) < 20) ∧
      Q (vI (I 82 (I 83 a1.toNat).toNat)) I R) : wp (kN 89) mX11_worth Q 0 [vR 68, vI a1] [] I R 89 := by
  refine wp_aload_n (pc' := 1) (q := 0) (i := 0) rfl rfl dX11_worth_0 rfl ?_
  refine wp_getRc (pc' := 4) (k := 16) (j := 82) dX11_worth_1 vc10 (by decide) rfl lfX11_49 o_68 (r_68_16 hR) rfl ?_
  refine wp_aload_n (pc' := 5) (q := 0) (i := 0) rfl rfl dX11_worth_4 rfl ?_
  refine wp_getRc (pc' := 8) (k := 17) (j := 83) dX11_worth_5 vc10 (by decide) rfl lfX11_52 o_68 (r_68_17 hR) rfl ?_
  refine wp_iload_n (pc' := 9) (q := 1) (i := 1) rfl rfl dX11_worth_8 rfl ?_
  obtain ⟨h1, h⟩ := h
  refine wp_iald (pc' := 10) (j := a1.toNat) dX11_worth_9 a_83 h1 rfl rfl ?_
  obtain ⟨h2, h⟩ := h
  refine wp_iald (pc' := 11) (j := (I 83 a1.toNat).toNat) dX11_worth_10 a_82 h2 rfl rfl ?_
  exact wp_ireturn dX11_worth_11 rfl rfl h

theorem sX11_costs {Q : QT} {I : II} {R : RR} {a1 : Int} (h : wp (kN 89) mX11_costs Q 0 [vR 68, vI a1] [] I R 89) : Spec mX11_costs [vR 68, vI a1] I R 89 89 Q := Spec_of_wp pyX11_costs rfl (Nat.le_of_ble_eq_true rfl) (Nat.le_refl _) (by decide) h

set_option maxRecDepth 4000 in
theorem gX11_costs_0 {Q : QT} {I : II} {R : RR} (hR : SR R) {a1 : Int}
    (h : (0 ≤ a1 ∧ a1 < 10) ∧
      (0 ≤ (I 84 a1.toNat) ∧ (I 84 a1.toNat) < 20) ∧
      Q (vI (I 82 (I 84 a1.toNat).toNat)) I R) : wp (kN 89) mX11_costs Q 0 [vR 68, vI a1] [] I R 89 := by
  refine wp_aload_n (pc' := 1) (q := 0) (i := 0) rfl rfl dX11_costs_0 rfl ?_
  refine wp_getRc (pc' := 4) (k := 16) (j := 82) dX11_costs_1 vc10 (by decide) rfl lfX11_49 o_68 (r_68_16 hR) rfl ?_
  refine wp_aload_n (pc' := 5) (q := 0) (i := 0) rfl rfl dX11_costs_4 rfl ?_
  refine wp_getRc (pc' := 8) (k := 18) (j := 84) dX11_costs_5 vc10 (by decide) rfl lfX11_55 o_68 (r_68_18 hR) rfl ?_
  refine wp_iload_n (pc' := 9) (q := 1) (i := 1) rfl rfl dX11_costs_8 rfl ?_
  obtain ⟨h1, h⟩ := h
  refine wp_iald (pc' := 10) (j := a1.toNat) dX11_costs_9 a_84 h1 rfl rfl ?_
  obtain ⟨h2, h⟩ := h
  refine wp_iald (pc' := 11) (j := (I 84 a1.toNat).toNat) dX11_costs_10 a_82 h2 rfl rfl ?_
  exact wp_ireturn dX11_costs_11 rfl rfl h

theorem sX7_rest {Q : QT} {I : II} {R : RR} {N : Nat} {a0 : Int} {a1 : Int} (hN : N < 1000) (h : wp (kN N) mX7_rest Q 0 [vI a0, vI a1] [] I R N) : Spec mX7_rest [vI a0, vI a1] I R N N Q := Spec_of_wp pyX7_rest rfl (Nat.le_of_ble_eq_true rfl) (Nat.le_refl _) hN h

set_option maxRecDepth 4000 in
theorem gX7_rest_0 {Q : QT} {I : II} {R : RR} {N : Nat} {a0 : Int} {a1 : Int}
    (h : (InI a1) ∧
      ((a1 ≤ 0 →
      Q (vI 0) I R) ∧ (¬ (a1 ≤ 0) →
      (0 ≤ a0 ∧ a0 ≤ 2147483647 ∧ 0 < a1 ∧ a1 ≤ 2147483647) ∧
      Q (vI (a0 % a1)) I R))) : wp (kN N) mX7_rest Q 0 [vI a0, vI a1] [] I R N := by
  refine wp_iload_n (pc' := 1) (q := 1) (i := 1) rfl rfl dX7_rest_0 rfl ?_
  obtain ⟨h1, h⟩ := h
  refine wp_if_le (pc' := 4) (tgt := 10) h1 dX7_rest_1 rfl rfl (fun hc => ?_) (fun hc => ?_)
  · have h := h.1 hc
    refine wp_iconst (pc' := 11) dX7_rest_10 rfl ?_
    exact wp_ireturn dX7_rest_11 rfl rfl h
  · have h := h.2 hc
    refine wp_iload_n (pc' := 5) (q := 0) (i := 0) rfl rfl dX7_rest_4 rfl ?_
    refine wp_iload_n (pc' := 6) (q := 1) (i := 1) rfl rfl dX7_rest_5 rfl ?_
    obtain ⟨h2, h⟩ := h
    refine wp_irem (pc' := 7) h2 dX7_rest_6 rfl ?_
    refine wp_goto (tgt := 11) dX7_rest_7 rfl ?_
    exact wp_ireturn dX7_rest_11 rfl rfl h

theorem sX7_wanders {Q : QT} {I : II} {R : RR}  (h : wp (kN 89) mX7_wanders Q 0 [vR 38] [] I R 89) : Spec mX7_wanders [vR 38] I R 89 89 Q := Spec_of_wp pyX7_wanders rfl (Nat.le_of_ble_eq_true rfl) (Nat.le_refl _) (by decide) h

set_option maxRecDepth 4000 in
theorem gX7_wanders_0 {Q : QT} {I : II} {R : RR} (hR : SR R) 
    (h : Q (vI ((I 38 6) - (I 38 5))) I R) : wp (kN 89) mX7_wanders Q 0 [vR 38] [] I R 89 := by
  refine wp_aload_n (pc' := 1) (q := 0) (i := 0) rfl rfl dX7_wanders_0 rfl ?_
  refine wp_getI (pc' := 4) (k := 6) dX7_wanders_1 vc7 (by decide) rfl lfX7_35 o_38 rfl ?_
  refine wp_aload_n (pc' := 5) (q := 0) (i := 0) rfl rfl dX7_wanders_4 rfl ?_
  refine wp_getI (pc' := 8) (k := 5) dX7_wanders_5 vc7 (by decide) rfl lfX7_32 o_38 rfl ?_
  refine wp_isub (pc' := 9) dX7_wanders_8 rfl ?_
  exact wp_ireturn dX7_wanders_9 rfl rfl h

theorem sX9_isHeard {Q : QT} {I : II} {R : RR} {N : Nat} {a0 : Nat} {a1 : Int} {a2 : Int} (hN : N < 1000) (h : wp (kN N) mX9_isHeard Q 0 [vR a0, vI a1, vI a2] [] I R N) : Spec mX9_isHeard [vR a0, vI a1, vI a2] I R N N Q := Spec_of_wp pyX9_isHeard rfl (Nat.le_of_ble_eq_true rfl) (Nat.le_refl _) hN h

set_option maxRecDepth 4000 in
theorem gX9_isHeard_0 {Q : QT} {I : II} {R : RR} {N : Nat} {a0 : Nat} {a1 : Int} {a2 : Int}
    (h : (isO N a0 6) ∧
      (isA N (R a0 0) 2 20) ∧
      (0 ≤ a1 ∧ a1 < 20) ∧
      (InI (I (R a0 0) a1.toNat)) ∧
      (((I (R a0 0) a1.toNat) = 0 →
      wp (kN N) mX9_isHeard Q 22 [none, none, none] [] I R N) ∧ (¬ (I (R a0 0) a1.toNat) = 0 →
      (InI (a2 + (I a0 9))) ∧
      (InI (I a0 10)) ∧
      (((I a0 10) < (a2 + (I a0 9)) →
      Q (vI 0) I R) ∧ (¬ (I a0 10) < (a2 + (I a0 9)) →
      wp (kN N) mX9_isHeard Q 22 [none, none, none] [] I R N))))) : wp (kN N) mX9_isHeard Q 0 [vR a0, vI a1, vI a2] [] I R N := by
  refine wp_aload_n (pc' := 1) (q := 0) (i := 0) rfl rfl dX9_isHeard_0 rfl ?_
  obtain ⟨h1, h⟩ := h
  refine wp_getR (pc' := 4) (k := 0) dX9_isHeard_1 vc6 (by decide) rfl lfX9_15 h1 rfl ?_
  refine wp_iload_n (pc' := 5) (q := 1) (i := 1) rfl rfl dX9_isHeard_4 rfl ?_
  obtain ⟨h2, h⟩ := h
  obtain ⟨h3, h⟩ := h
  refine wp_zald (pc' := 6) (j := a1.toNat) dX9_isHeard_5 h2 h3 rfl rfl ?_
  obtain ⟨h4, h⟩ := h
  refine wp_if_eq (pc' := 9) (tgt := 22) h4 dX9_isHeard_6 rfl rfl (fun hc => ?_) (fun hc => ?_)
  · have h := h.1 hc
    exact wp_dropP (leP_d (leP_d (leP_d leP_n))) h
  · have h := h.2 hc
    refine wp_iload_n (pc' := 10) (q := 2) (i := 2) rfl rfl dX9_isHeard_9 rfl ?_
    refine wp_aload_n (pc' := 11) (q := 0) (i := 0) rfl rfl dX9_isHeard_10 rfl ?_
    refine wp_getI (pc' := 14) (k := 9) dX9_isHeard_11 vc6 (by decide) rfl lfX9_50 h1 rfl ?_
    refine wp_iadd (pc' := 15) dX9_isHeard_14 rfl ?_
    refine wp_aload_n (pc' := 16) (q := 0) (i := 0) rfl rfl dX9_isHeard_15 rfl ?_
    refine wp_getI (pc' := 19) (k := 10) dX9_isHeard_16 vc6 (by decide) rfl lfX9_47 h1 rfl ?_
    obtain ⟨h5, h⟩ := h
    obtain ⟨h6, h⟩ := h
    refine wp_icmp_gt (pc' := 22) (tgt := 26) h5 h6 dX9_isHeard_19 rfl rfl (fun hc => ?_) (fun hc => ?_)
    · have h := h.1 hc
      refine wp_iconst (pc' := 27) dX9_isHeard_26 rfl ?_
      exact wp_zreturn dX9_isHeard_27 rfl rfl (Or.inl rfl) h
    · have h := h.2 hc
      exact wp_dropP (leP_d (leP_d (leP_d leP_n))) h

set_option maxRecDepth 4000 in
theorem gX9_isHeard_22 {Q : QT} {I : II} {R : RR} {N : Nat} 
    (h : Q (vI 1) I R) : wp (kN N) mX9_isHeard Q 22 [none, none, none] [] I R N := by
  refine wp_iconst (pc' := 23) dX9_isHeard_22 rfl ?_
  refine wp_goto (tgt := 27) dX9_isHeard_23 rfl ?_
  exact wp_zreturn dX9_isHeard_27 rfl rfl (Or.inr rfl) h

theorem sX9_underLid {Q : QT} {I : II} {R : RR} {N : Nat} {a0 : Nat} {a1 : Int} {a2 : Int} (hN : N < 1000) (h : wp (kN N) mX9_underLid Q 0 [vR a0, vI a1, vI a2] [] I R N) : Spec mX9_underLid [vR a0, vI a1, vI a2] I R N N Q := Spec_of_wp pyX9_underLid rfl (Nat.le_of_ble_eq_true rfl) (Nat.le_refl _) hN h

set_option maxRecDepth 4000 in
theorem gX9_underLid_0 {Q : QT} {I : II} {R : RR} {N : Nat} {a0 : Nat} {a1 : Int} {a2 : Int}
    (h : (isO N a0 6) ∧
      (isA N (R a0 0) 2 20) ∧
      (0 ≤ a1 ∧ a1 < 20) ∧
      (InI (I (R a0 0) a1.toNat)) ∧
      (((I (R a0 0) a1.toNat) = 0 →
      (InI a2) ∧
      (InI (I a0 10)) ∧
      Q (vI (min a2 (I a0 10))) I R) ∧ (¬ (I (R a0 0) a1.toNat) = 0 →
      Q (vI a2) I R))) : wp (kN N) mX9_underLid Q 0 [vR a0, vI a1, vI a2] [] I R N := by
  refine wp_aload_n (pc' := 1) (q := 0) (i := 0) rfl rfl dX9_underLid_0 rfl ?_
  obtain ⟨h1, h⟩ := h
  refine wp_getR (pc' := 4) (k := 0) dX9_underLid_1 vc6 (by decide) rfl lfX9_15 h1 rfl ?_
  refine wp_iload_n (pc' := 5) (q := 1) (i := 1) rfl rfl dX9_underLid_4 rfl ?_
  obtain ⟨h2, h⟩ := h
  obtain ⟨h3, h⟩ := h
  refine wp_zald (pc' := 6) (j := a1.toNat) dX9_underLid_5 h2 h3 rfl rfl ?_
  obtain ⟨h4, h⟩ := h
  refine wp_if_eq (pc' := 9) (tgt := 13) h4 dX9_underLid_6 rfl rfl (fun hc => ?_) (fun hc => ?_)
  · have h := h.1 hc
    refine wp_iload_n (pc' := 14) (q := 2) (i := 2) rfl rfl dX9_underLid_13 rfl ?_
    refine wp_aload_n (pc' := 15) (q := 0) (i := 0) rfl rfl dX9_underLid_14 rfl ?_
    refine wp_getI (pc' := 18) (k := 10) dX9_underLid_15 vc6 (by decide) rfl lfX9_47 h1 rfl ?_
    obtain ⟨h5, h⟩ := h
    obtain ⟨h6, h⟩ := h
    refine wp_mmin (pc' := 21) h5 h6 dX9_underLid_18 lkX9_44 ms_min iiMath mc_min ⟨Nat.le_of_ble_eq_true rfl, Nat.le_of_ble_eq_true rfl⟩ (Nat.le_refl _) rfl ?_
    exact wp_ireturn dX9_underLid_21 rfl rfl h
  · have h := h.2 hc
    refine wp_iload_n (pc' := 10) (q := 2) (i := 2) rfl rfl dX9_underLid_9 rfl ?_
    refine wp_goto (tgt := 21) dX9_underLid_10 rfl ?_
    exact wp_ireturn dX9_underLid_21 rfl rfl h

theorem sX7_draw {Q : QT} {I : II} {R : RR} {a1 : Int} {a2 : Int} (h : wp (kN 89) mX7_draw Q 0 [vR 38, vI a1, vI a2, none, none] [] I R 89) : Spec mX7_draw [vR 38, vI a1, vI a2] I R 89 89 Q := Spec_of_wp pyX7_draw rfl (Nat.le_of_ble_eq_true rfl) (Nat.le_refl _) (by decide) h

set_option maxRecDepth 4000 in
theorem gX7_draw_0 {Q : QT} {I : II} {R : RR} (hR : SR R) {a1 : Int} {a2 : Int}
    (h : (InI (I 38 3)) ∧
      (InI a1) ∧
      (InI a2) ∧
      (0 ≤ (((((7919 * (I 38 3)) + (6151 * a1)) + (3571 * a2)) + 1) * ((((7919 * (I 38 3)) + (6151 * a1)) + (3571 * a2)) + 1)) ∧ (((((7919 * (I 38 3)) + (6151 * a1)) + (3571 * a2)) + 1) * ((((7919 * (I 38 3)) + (6151 * a1)) + (3571 * a2)) + 1)) ≤ 9223372036854775807 ∧ 0 < (65521 : Int) ∧ (65521 : Int) ≤ 9223372036854775807) ∧
      Q (vI ((((((7919 * (I 38 3)) + (6151 * a1)) + (3571 * a2)) + 1) * ((((7919 * (I 38 3)) + (6151 * a1)) + (3571 * a2)) + 1)) % 65521)) I R) : wp (kN 89) mX7_draw Q 0 [vR 38, vI a1, vI a2, none, none] [] I R 89 := by
  refine wp_ldc2 (pc' := 3) (x := 7919) lcX7_61 (by decide +kernel) dX7_draw_0 rfl ?_
  refine wp_aload_n (pc' := 4) (q := 0) (i := 0) rfl rfl dX7_draw_3 rfl ?_
  refine wp_getI (pc' := 7) (k := 3) dX7_draw_4 vc7 (by decide) rfl lfX7_25 o_38 rfl ?_
  obtain ⟨h1, h⟩ := h
  refine wp_i2l (pc' := 8) h1 dX7_draw_7 rfl ?_
  refine wp_lmul (pc' := 9) dX7_draw_8 rfl ?_
  refine wp_ldc2 (pc' := 12) (x := 6151) lcX7_63 (by decide +kernel) dX7_draw_9 rfl ?_
  refine wp_iload_n (pc' := 13) (q := 1) (i := 1) rfl rfl dX7_draw_12 rfl ?_
  obtain ⟨h2, h⟩ := h
  refine wp_i2l (pc' := 14) h2 dX7_draw_13 rfl ?_
  refine wp_lmul (pc' := 15) dX7_draw_14 rfl ?_
  refine wp_ladd (pc' := 16) dX7_draw_15 rfl ?_
  refine wp_ldc2 (pc' := 19) (x := 3571) lcX7_65 (by decide +kernel) dX7_draw_16 rfl ?_
  refine wp_iload_n (pc' := 20) (q := 2) (i := 2) rfl rfl dX7_draw_19 rfl ?_
  obtain ⟨h3, h⟩ := h
  refine wp_i2l (pc' := 21) h3 dX7_draw_20 rfl ?_
  refine wp_lmul (pc' := 22) dX7_draw_21 rfl ?_
  refine wp_ladd (pc' := 23) dX7_draw_22 rfl ?_
  refine wp_lconst (pc' := 24) dX7_draw_23 rfl ?_
  refine wp_ladd (pc' := 25) dX7_draw_24 rfl ?_
  refine wp_lstore_n (pc' := 26) (q := 3) (i := 3) (L' := [vR 38, vI a1, vI a2, vL ((((7919 * (I 38 3)) + (6151 * a1)) + (3571 * a2)) + 1), none]) rfl (by decide) rfl dX7_draw_25 rfl rfl ?_
  refine wp_lload_n (pc' := 27) (q := 3) (i := 3) rfl rfl dX7_draw_26 rfl ?_
  refine wp_lload_n (pc' := 28) (q := 3) (i := 3) rfl rfl dX7_draw_27 rfl ?_
  refine wp_lmul (pc' := 29) dX7_draw_28 rfl ?_
  refine wp_ldc2 (pc' := 32) (x := 65521) lcX7_67 (by decide +kernel) dX7_draw_29 rfl ?_
  obtain ⟨h4, h⟩ := h
  refine wp_lrem (pc' := 33) h4 dX7_draw_32 rfl ?_
  refine wp_l2i (pc' := 34) dX7_draw_33 rfl ?_
  exact wp_ireturn dX7_draw_34 rfl rfl h

theorem sX11_draw {Q : QT} {I : II} {R : RR} {a1 : Int} {a2 : Int} (h : wp (kN 89) mX11_draw Q 0 [vR 68, vI a1, vI a2, none, none] [] I R 89) : Spec mX11_draw [vR 68, vI a1, vI a2] I R 89 89 Q := Spec_of_wp pyX11_draw rfl (Nat.le_of_ble_eq_true rfl) (Nat.le_refl _) (by decide) h

set_option maxRecDepth 4000 in
theorem gX11_draw_0 {Q : QT} {I : II} {R : RR} (hR : SR R) {a1 : Int} {a2 : Int}
    (h : (InI (I 68 21)) ∧
      (InI a1) ∧
      (InI a2) ∧
      (0 ≤ (((((7919 * (I 68 21)) + (6151 * a1)) + (3571 * a2)) + 1) * ((((7919 * (I 68 21)) + (6151 * a1)) + (3571 * a2)) + 1)) ∧ (((((7919 * (I 68 21)) + (6151 * a1)) + (3571 * a2)) + 1) * ((((7919 * (I 68 21)) + (6151 * a1)) + (3571 * a2)) + 1)) ≤ 9223372036854775807 ∧ 0 < (65521 : Int) ∧ (65521 : Int) ≤ 9223372036854775807) ∧
      Q (vI ((((((7919 * (I 68 21)) + (6151 * a1)) + (3571 * a2)) + 1) * ((((7919 * (I 68 21)) + (6151 * a1)) + (3571 * a2)) + 1)) % 65521)) I R) : wp (kN 89) mX11_draw Q 0 [vR 68, vI a1, vI a2, none, none] [] I R 89 := by
  refine wp_ldc2 (pc' := 3) (x := 7919) lcX11_185 (by decide +kernel) dX11_draw_0 rfl ?_
  refine wp_aload_n (pc' := 4) (q := 0) (i := 0) rfl rfl dX11_draw_3 rfl ?_
  refine wp_getI (pc' := 7) (k := 21) dX11_draw_4 vc10 (by decide) rfl lfX11_187 o_68 rfl ?_
  obtain ⟨h1, h⟩ := h
  refine wp_i2l (pc' := 8) h1 dX11_draw_7 rfl ?_
  refine wp_lmul (pc' := 9) dX11_draw_8 rfl ?_
  refine wp_ldc2 (pc' := 12) (x := 6151) lcX11_190 (by decide +kernel) dX11_draw_9 rfl ?_
  refine wp_iload_n (pc' := 13) (q := 1) (i := 1) rfl rfl dX11_draw_12 rfl ?_
  obtain ⟨h2, h⟩ := h
  refine wp_i2l (pc' := 14) h2 dX11_draw_13 rfl ?_
  refine wp_lmul (pc' := 15) dX11_draw_14 rfl ?_
  refine wp_ladd (pc' := 16) dX11_draw_15 rfl ?_
  refine wp_ldc2 (pc' := 19) (x := 3571) lcX11_192 (by decide +kernel) dX11_draw_16 rfl ?_
  refine wp_iload_n (pc' := 20) (q := 2) (i := 2) rfl rfl dX11_draw_19 rfl ?_
  obtain ⟨h3, h⟩ := h
  refine wp_i2l (pc' := 21) h3 dX11_draw_20 rfl ?_
  refine wp_lmul (pc' := 22) dX11_draw_21 rfl ?_
  refine wp_ladd (pc' := 23) dX11_draw_22 rfl ?_
  refine wp_lconst (pc' := 24) dX11_draw_23 rfl ?_
  refine wp_ladd (pc' := 25) dX11_draw_24 rfl ?_
  refine wp_lstore_n (pc' := 26) (q := 3) (i := 3) (L' := [vR 68, vI a1, vI a2, vL ((((7919 * (I 68 21)) + (6151 * a1)) + (3571 * a2)) + 1), none]) rfl (by decide) rfl dX11_draw_25 rfl rfl ?_
  refine wp_lload_n (pc' := 27) (q := 3) (i := 3) rfl rfl dX11_draw_26 rfl ?_
  refine wp_lload_n (pc' := 28) (q := 3) (i := 3) rfl rfl dX11_draw_27 rfl ?_
  refine wp_lmul (pc' := 29) dX11_draw_28 rfl ?_
  refine wp_ldc2 (pc' := 32) (x := 65521) lcX11_194 (by decide +kernel) dX11_draw_29 rfl ?_
  obtain ⟨h4, h⟩ := h
  refine wp_lrem (pc' := 33) h4 dX11_draw_32 rfl ?_
  refine wp_l2i (pc' := 34) dX11_draw_33 rfl ?_
  exact wp_ireturn dX11_draw_34 rfl rfl h

/-! small methods whose answer is told by one formula -/
theorem inL_of {x : Int} (h : InI x) : InL x := by unfold InI at h; unfold InL; omega
def drw (z t k : Int) : Int := ((7919 * z + 6151 * t + 3571 * k + 1) * (7919 * z + 6151 * t + 3571 * k + 1)) % 65521
theorem drw_bd (z t k : Int) : 0 ≤ drw z t k ∧ drw z t k < 65521 := by unfold drw; omega
theorem drw_ok {z t k : Int} (h : 0 ≤ z ∧ z ≤ 9999 ∧ 0 ≤ t ∧ t ≤ 300 ∧ 0 ≤ k ∧ k ≤ 5) : 0 ≤ (7919 * z + 6151 * t + 3571 * k + 1) * (7919 * z + 6151 * t + 3571 * k + 1) ∧ (7919 * z + 6151 * t + 3571 * k + 1) * (7919 * z + 6151 * t + 3571 * k + 1) ≤ 9223372036854775807 := by
  generalize hx : 7919 * z + 6151 * t + 3571 * k + 1 = x
  have h0 : 0 ≤ x := by omega
  have h1 : x ≤ 100000000 := by omega
  have h2 : x * x ≤ 100000000 * 100000000 := Int.mul_le_mul h1 h1 h0 (by decide)
  exact ⟨Int.mul_nonneg h0 h0, by omega⟩
theorem pX10_within {N : Nat} {a b c : Int} {I : II} {R : RR} (hN : N < 1000) (h1 : InI a) (h2 : InI b) (h3 : InI c) : Spec mX10_within [vI a, vI b, vI c] I R N N (fun rv I' R' => R = R' ∧ I = I' ∧ rv = vI (if b ≤ a ∧ a ≤ c then 1 else 0)) := by
  refine sX10_within hN (gX10_within_0 ⟨h1, h2, fun hc => gX10_within_14 ⟨rfl, rfl, by rw [if_neg (by omega)]⟩, fun hc => ⟨h3, fun hd => gX10_within_14 ⟨rfl, rfl, by rw [if_neg (by omega)]⟩, fun hd => ⟨rfl, rfl, by rw [if_pos (by omega)]⟩⟩⟩)
theorem pX11_in {N : Nat} {a b c : Int} {I : II} {R : RR} (hN : N < 1000) (h1 : InL a) (h2 : InL b) (h3 : InL c) : Spec mX11_in [vL a, vL b, vL c] I R N N (fun rv I' R' => R = R' ∧ I = I' ∧ rv = vI (if b ≤ a ∧ a ≤ c then 1 else 0)) := by
  refine sX11_in hN (gX11_in_0 ⟨h1, h2, fun hc => gX11_in_17 ⟨rfl, rfl, by rw [if_neg (by omega)]⟩, fun hc => ⟨h3, fun hd => gX11_in_17 ⟨rfl, rfl, by rw [if_neg (by omega)]⟩, fun hd => ⟨rfl, rfl, by rw [if_pos (by omega)]⟩⟩⟩)
theorem pX6_has {N r : Nat} {p : Int} {I : II} {R : RR} (hN : N < 1000) (h1 : isO N r 6) (h2 : InI p) (h3 : InI (I r 5)) : Spec mX6_has [vR r, vI p] I R N N (fun rv I' R' => R = R' ∧ I = I' ∧ rv = vI (if 0 ≤ p ∧ p < I r 5 then 1 else 0)) := by
  refine sX6_has hN (gX6_has_0 ⟨h2, fun hc => gX6_has_16 ⟨rfl, rfl, by rw [if_neg (by omega)]⟩, fun hc => ⟨h1, h3, fun hd => gX6_has_16 ⟨rfl, rfl, by rw [if_neg (by omega)]⟩, fun hd => ⟨rfl, rfl, by rw [if_pos (by omega)]⟩⟩⟩)
theorem pX11_isPerson {p : Int} {I : II} {R : RR} (hR : SR R) (h2 : InI p) (h3 : InI (I 70 0 - 1)) : Spec mX11_isPerson [vR 68, vI p] I R 89 89 (fun rv I' R' => R = R' ∧ I = I' ∧ rv = vI (if 0 ≤ p ∧ p ≤ I 70 0 - 1 then 1 else 0)) := by
  refine sX11_isPerson (gX11_isPerson_0 hR ⟨h2, h3, _, pX11_in (by decide) (inL_of h2) ⟨by decide, by decide⟩ (inL_of h3), fun x3 I3 R3 _ hq => ?_⟩)
  obtain ⟨e1, e2, e3⟩ := hq
  exact ⟨e1, rfl, e2, e3⟩
theorem pX11_isRound {a b : Int} {I : II} {R : RR} (hR : SR R) (h1 : InI a) (h2 : InI b) : Spec mX11_isRound [vI a, vI b] I R 89 89 (fun rv I' R' => R = R' ∧ I = I' ∧ rv = vI (if (0 ≤ a ∧ a ≤ 3) ∧ 0 ≤ b ∧ b ≤ 9999 then 1 else 0)) := by
  refine sX11_isRound (gX11_isRound_0 hR ⟨h1, _, pX11_in (by decide) (inL_of h1) ⟨by decide, by decide⟩ ⟨by decide, by decide⟩, fun x2 I2 R2 _ hq => ?_⟩)
  obtain ⟨e1, e2, e3⟩ := hq
  subst e1 e2
  cases e3
  refine ⟨rfl, by split <;> exact ⟨by decide, by decide⟩, fun hc => gX11_isRound_28 hR ⟨rfl, rfl, ?_⟩, fun hc => ⟨h2, _, pX11_in (by decide) (inL_of h2) ⟨by decide, by decide⟩ ⟨by decide, by decide⟩, fun x5 I5 R5 _ hq => ?_⟩⟩
  · rw [if_neg]
    intro hd
    rw [if_pos hd.1] at hc
    cases hc
  · obtain ⟨e1, e2, e3⟩ := hq
    subst e1 e2
    cases e3
    have h0 : 0 ≤ a ∧ a ≤ 3 := Decidable.byContradiction fun q => hc (if_neg q)
    refine ⟨rfl, by split <;> exact ⟨by decide, by decide⟩, fun hd => gX11_isRound_28 hR ⟨rfl, rfl, ?_⟩, fun hd => ⟨rfl, rfl, ?_⟩⟩
    · rw [if_neg]
      intro q
      rw [if_pos q.2] at hd
      cases hd
    · rw [if_pos]
      exact ⟨h0, Decidable.byContradiction fun q => hd (if_neg q)⟩
theorem pX11_byteAt {k : Int} {I : II} {R : RR} (hR : SR R) (h1 : InI k) (h2 : InI (I 68 0)) (h3 : 0 ≤ k ∧ (k < I 68 0 → k < 300)) : Spec mX11_byteAt [vR 68, vI k] I R 89 89 (fun rv I' R' => R = R' ∧ I = I' ∧ rv = vI (if k < I 68 0 then I 69 k.toNat else 0)) := by
  refine sX11_byteAt (gX11_byteAt_0 hR ⟨h1, h2, fun hc => ⟨rfl, rfl, by rw [if_neg (by omega)]⟩, fun hc => ⟨⟨by omega, by omega⟩, rfl, rfl, by rw [if_pos (by omega)]⟩⟩)
theorem pX11_worth {k : Int} {I : II} {R : RR} (hR : SR R) (h1 : 0 ≤ k ∧ k < 10) (h2 : 0 ≤ I 83 k.toNat ∧ I 83 k.toNat < 20) : Spec mX11_worth [vR 68, vI k] I R 89 89 (fun rv I' R' => R = R' ∧ I = I' ∧ rv = vI (I 82 (I 83 k.toNat).toNat)) :=
  sX11_worth (gX11_worth_0 hR ⟨h1, h2, rfl, rfl, rfl⟩)
theorem pX11_costs {k : Int} {I : II} {R : RR} (hR : SR R) (h1 : 0 ≤ k ∧ k < 10) (h2 : 0 ≤ I 84 k.toNat ∧ I 84 k.toNat < 20) : Spec mX11_costs [vR 68, vI k] I R 89 89 (fun rv I' R' => R = R' ∧ I = I' ∧ rv = vI (I 82 (I 84 k.toNat).toNat)) :=
  sX11_costs (gX11_costs_0 hR ⟨h1, h2, rfl, rfl, rfl⟩)
theorem pX7_rest {N : Nat} {d b : Int} {I : II} {R : RR} (hN : N < 1000) (h1 : InI b) (h2 : 0 ≤ d ∧ d ≤ 2147483647) : Spec mX7_rest [vI d, vI b] I R N N (fun rv I' R' => R = R' ∧ I = I' ∧ rv = vI (if 0 < b then d % b else 0)) := by
  refine sX7_rest hN (gX7_rest_0 ⟨h1, fun hc => ⟨rfl, rfl, by rw [if_neg (by omega)]⟩, fun hc => ⟨⟨h2.1, h2.2, by omega, h1.2⟩, rfl, rfl, by rw [if_pos (by omega)]⟩⟩)
theorem pX7_wanders {I : II} {R : RR} (hR : SR R) : Spec mX7_wanders [vR 38] I R 89 89 (fun rv I' R' => R = R' ∧ I = I' ∧ rv = vI (I 38 6 - I 38 5)) := sX7_wanders (gX7_wanders_0 hR ⟨rfl, rfl, rfl⟩)
theorem pX9_isHeard {N r : Nat} {p x : Int} {I : II} {R : RR} (hN : N < 1000) (h1 : isO N r 6) (h2 : isA N (R r 0) 2 20) (h3 : 0 ≤ p ∧ p < 20) (h4 : I (R r 0) p.toNat = 0 ∨ I (R r 0) p.toNat = 1) (h5 : InI (x + I r 9)) (h6 : InI (I r 10)) : Spec mX9_isHeard [vR r, vI p, vI x] I R N N (fun rv I' R' => R = R' ∧ I = I' ∧ rv = vI (if I (R r 0) p.toNat = 0 ∨ x + I r 9 ≤ I r 10 then 1 else 0)) := by
  refine sX9_isHeard hN (gX9_isHeard_0 ⟨h1, h2, h3, by rcases h4 with e | e <;> rw [e] <;> exact ⟨by decide, by decide⟩, fun hc => gX9_isHeard_22 ⟨rfl, rfl, by rw [if_pos (Or.inl hc)]⟩, fun hc => ⟨h5, h6, fun hd => ⟨rfl, rfl, by rw [if_neg (by omega)]⟩, fun hd => gX9_isHeard_22 ⟨rfl, rfl, by rw [if_pos (by omega)]⟩⟩⟩)
theorem pX9_underLid {N r : Nat} {p x : Int} {I : II} {R : RR} (hN : N < 1000) (h1 : isO N r 6) (h2 : isA N (R r 0) 2 20) (h3 : 0 ≤ p ∧ p < 20) (h4 : I (R r 0) p.toNat = 0 ∨ I (R r 0) p.toNat = 1) (h5 : InI x) (h6 : InI (I r 10)) : Spec mX9_underLid [vR r, vI p, vI x] I R N N (fun rv I' R' => R = R' ∧ I = I' ∧ rv = vI (if I (R r 0) p.toNat = 0 then min x (I r 10) else x)) := by
  refine sX9_underLid hN (gX9_underLid_0 ⟨h1, h2, h3, by rcases h4 with e | e <;> rw [e] <;> exact ⟨by decide, by decide⟩, fun hc => ⟨h5, h6, rfl, rfl, by rw [if_pos hc]⟩, fun hc => ⟨rfl, rfl, by rw [if_neg hc]⟩⟩)
theorem pX7_draw {t k : Int} {I : II} {R : RR} (hR : SR R) (h : 0 ≤ I 38 3 ∧ I 38 3 ≤ 9999 ∧ 0 ≤ t ∧ t ≤ 300 ∧ 0 ≤ k ∧ k ≤ 5) : Spec mX7_draw [vR 38, vI t, vI k] I R 89 89 (fun rv I' R' => R = R' ∧ I = I' ∧ rv = vI (drw (I 38 3) t k)) :=
  sX7_draw (gX7_draw_0 hR ⟨⟨by omega, by omega⟩, ⟨by omega, by omega⟩, ⟨by omega, by omega⟩, ⟨(drw_ok h).1, (drw_ok h).2, by decide, by decide⟩, rfl, rfl, rfl⟩)
theorem pX11_draw {t k : Int} {I : II} {R : RR} (hR : SR R) (h : 0 ≤ I 68 21 ∧ I 68 21 ≤ 9999 ∧ 0 ≤ t ∧ t ≤ 300 ∧ 0 ≤ k ∧ k ≤ 5) : Spec mX11_draw [vR 68, vI t, vI k] I R 89 89 (fun rv I' R' => R = R' ∧ I = I' ∧ rv = vI (drw (I 68 21) t k)) :=
  sX11_draw (gX11_draw_0 hR ⟨⟨by omega, by omega⟩, ⟨by omega, by omega⟩, ⟨by omega, by omega⟩, ⟨(drw_ok h).1, (drw_ok h).2, by decide, by decide⟩, rfl, rfl, rfl⟩)
