theorem sX11_shoutBy {Q : QT} {I : II} {R : RR} {a1 : Int} {a2 : Int} {a3 : Int} {a4 : Int} {a5 : Int} {a6 : Int} (h : wp (kN 89) mX11_shoutBy Q 0 [vR 68, vI a1, vI a2, vI a3, vI a4, vI a5, vI a6, none, none, none] [] I R 89) : Spec mX11_shoutBy [vR 68, vI a1, vI a2, vI a3, vI a4, vI a5, vI a6] I R 89 89 Q := Spec_of_wp pyX11_shoutBy rfl (Nat.le_of_ble_eq_true rfl) (Nat.le_refl _) (by decide) h

set_option maxRecDepth 4000 in
theorem gX11_shoutBy_0 {Q : QT} {I : II} {R : RR} (hR : SR R) {a1 : Int} {a2 : Int} {a3 : Int} {a4 : Int} {a5 : Int} {a6 : Int}
    (h : (InI a2) ∧
      ((¬ a2 = 0 →
      (0 ≤ a6 ∧ a6 ≤ 2147483647 ∧ 0 < (100 - a3) ∧ (100 - a3) ≤ 2147483647) ∧
      (InI a1) ∧
      ((¬ a1 = (3 : Int) →
      wp (kN 89) mX11_shoutBy Q 52 [vR 68, vI a1, vI a2, vI a3, vI a4, vI a5, vI a6, vI (a3 + (a6 % (100 - a3))), vI (a3 + (a6 % (100 - a3))), none] [] I R 89) ∧ (a1 = (3 : Int) →
      (InI (4 * a4)) ∧
      (InI (3 * (I 74 0))) ∧
      (((4 * a4) < (3 * (I 74 0)) →
      wp (kN 89) mX11_shoutBy Q 52 [vR 68, vI a1, vI a2, vI a3, vI a4, vI a5, vI a6, vI (a3 + (a6 % (100 - a3))), vI (a3 + (a6 % (100 - a3))), none] [] I R 89) ∧ (¬ (4 * a4) < (3 * (I 74 0)) →
      wp (kN 89) mX11_shoutBy Q 285 [vR 68, none, vI a2, none, none, none, none, none, vI a3, none] [] I R 89))))) ∧ (a2 = 0 →
      (0 ≤ a6 ∧ a6 ≤ 2147483647 ∧ 0 < (a3 + 1) ∧ (a3 + 1) ≤ 2147483647) ∧
      (InI a1) ∧
      ((¬ a1 = (3 : Int) →
      wp (kN 89) mX11_shoutBy Q 52 [vR 68, vI a1, vI a2, vI a3, vI a4, vI a5, vI a6, vI (a6 % (a3 + 1)), vI (a6 % (a3 + 1)), none] [] I R 89) ∧ (a1 = (3 : Int) →
      (InI (4 * a4)) ∧
      (InI (3 * (I 74 0))) ∧
      (((4 * a4) < (3 * (I 74 0)) →
      wp (kN 89) mX11_shoutBy Q 52 [vR 68, vI a1, vI a2, vI a3, vI a4, vI a5, vI a6, vI (a6 % (a3 + 1)), vI (a6 % (a3 + 1)), none] [] I R 89) ∧ (¬ (4 * a4) < (3 * (I 74 0)) →
      wp (kN 89) mX11_shoutBy Q 285 [vR 68, none, vI a2, none, none, none, none, none, vI a3, none] [] I R 89))))))) : wp (kN 89) mX11_shoutBy Q 0 [vR 68, vI a1, vI a2, vI a3, vI a4, vI a5, vI a6, none, none, none] [] I R 89 := by
  refine wp_iload_n (pc' := 1) (q := 2) (i := 2) rfl rfl dX11_shoutBy_0 rfl ?_
  obtain ⟨h1, h⟩ := h
  refine wp_if_ne (pc' := 4) (tgt := 13) h1 dX11_shoutBy_1 rfl rfl (fun hc => ?_) (fun hc => ?_)
  · have h := h.1 hc
    refine wp_iload_n (pc' := 14) (q := 3) (i := 3) rfl rfl dX11_shoutBy_13 rfl ?_
    refine wp_iload (pc' := 16) (i := 6) rfl dX11_shoutBy_14 rfl ?_
    refine wp_bipush (pc' := 18) (by decide) dX11_shoutBy_16 rfl ?_
    refine wp_iload_n (pc' := 19) (q := 3) (i := 3) rfl rfl dX11_shoutBy_18 rfl ?_
    refine wp_isub (pc' := 20) dX11_shoutBy_19 rfl ?_
    obtain ⟨h2, h⟩ := h
    refine wp_irem (pc' := 21) h2 dX11_shoutBy_20 rfl ?_
    refine wp_iadd (pc' := 22) dX11_shoutBy_21 rfl ?_
    refine wp_istore (pc' := 24) (i := 7) (L' := [vR 68, vI a1, vI a2, vI a3, vI a4, vI a5, vI a6, vI (a3 + (a6 % (100 - a3))), none, none]) (by decide) rfl dX11_shoutBy_22 rfl rfl ?_
    refine wp_iload (pc' := 26) (i := 7) rfl dX11_shoutBy_24 rfl ?_
    refine wp_istore (pc' := 28) (i := 8) (L' := [vR 68, vI a1, vI a2, vI a3, vI a4, vI a5, vI a6, vI (a3 + (a6 % (100 - a3))), vI (a3 + (a6 % (100 - a3))), none]) (by decide) rfl dX11_shoutBy_26 rfl rfl ?_
    refine wp_iload_n (pc' := 29) (q := 1) (i := 1) rfl rfl dX11_shoutBy_28 rfl ?_
    refine wp_iconst (pc' := 30) dX11_shoutBy_29 rfl ?_
    obtain ⟨h3, h⟩ := h
    refine wp_icmp_ne (pc' := 33) (tgt := 52) h3 ⟨by decide, by decide⟩ dX11_shoutBy_30 rfl rfl (fun hc => ?_) (fun hc => ?_)
    · have h := h.1 hc
      exact h
    · have h := h.2 hc
      refine wp_iconst (pc' := 34) dX11_shoutBy_33 rfl ?_
      refine wp_iload (pc' := 36) (i := 4) rfl dX11_shoutBy_34 rfl ?_
      refine wp_imul (pc' := 37) dX11_shoutBy_36 rfl ?_
      refine wp_iconst (pc' := 38) dX11_shoutBy_37 rfl ?_
      refine wp_aload_n (pc' := 39) (q := 0) (i := 0) rfl rfl dX11_shoutBy_38 rfl ?_
      refine wp_getRc (pc' := 42) (k := 6) (j := 74) dX11_shoutBy_39 vc10 (by decide) rfl lfX11_25 o_68 (r_68_6 hR) rfl ?_
      refine wp_iconst (pc' := 43) dX11_shoutBy_42 rfl ?_
      refine wp_iald (pc' := 44) (j := 0) dX11_shoutBy_43 a_74 ⟨by decide, by decide⟩ rfl rfl ?_
      refine wp_imul (pc' := 45) dX11_shoutBy_44 rfl ?_
      obtain ⟨h4, h⟩ := h
      obtain ⟨h5, h⟩ := h
      refine wp_icmp_lt (pc' := 48) (tgt := 52) h4 h5 dX11_shoutBy_45 rfl rfl (fun hc => ?_) (fun hc => ?_)
      · have h := h.1 hc
        exact h
      · have h := h.2 hc
        refine wp_iconst (pc' := 49) dX11_shoutBy_48 rfl ?_
        refine wp_goto (tgt := 53) dX11_shoutBy_49 rfl ?_
        refine wp_istore (pc' := 55) (i := 9) (L' := [vR 68, vI a1, vI a2, vI a3, vI a4, vI a5, vI a6, vI (a3 + (a6 % (100 - a3))), vI (a3 + (a6 % (100 - a3))), vI 1]) (by decide) rfl dX11_shoutBy_53 rfl rfl ?_
        refine wp_iload (pc' := 57) (i := 9) rfl dX11_shoutBy_55 rfl ?_
        refine wp_if_eq (pc' := 60) (tgt := 66) ⟨by decide, by decide⟩ dX11_shoutBy_57 rfl rfl (fun hc => by exfalso; revert hc; decide) (fun hc => ?_)
        refine wp_iload_n (pc' := 61) (q := 3) (i := 3) rfl rfl dX11_shoutBy_60 rfl ?_
        refine wp_istore (pc' := 63) (i := 8) (L' := [vR 68, vI a1, vI a2, vI a3, vI a4, vI a5, vI a6, vI (a3 + (a6 % (100 - a3))), vI a3, vI 1]) (by decide) rfl dX11_shoutBy_61 rfl rfl ?_
        refine wp_goto (tgt := 285) dX11_shoutBy_63 rfl ?_
        exact wp_dropP (leP_s (leP_d (leP_s (leP_d (leP_d (leP_d (leP_d (leP_d (leP_s (leP_d leP_n)))))))))) h
  · have h := h.2 hc
    refine wp_iload (pc' := 6) (i := 6) rfl dX11_shoutBy_4 rfl ?_
    refine wp_iload_n (pc' := 7) (q := 3) (i := 3) rfl rfl dX11_shoutBy_6 rfl ?_
    refine wp_iconst (pc' := 8) dX11_shoutBy_7 rfl ?_
    refine wp_iadd (pc' := 9) dX11_shoutBy_8 rfl ?_
    obtain ⟨h6, h⟩ := h
    refine wp_irem (pc' := 10) h6 dX11_shoutBy_9 rfl ?_
    refine wp_goto (tgt := 22) dX11_shoutBy_10 rfl ?_
    refine wp_istore (pc' := 24) (i := 7) (L' := [vR 68, vI a1, vI a2, vI a3, vI a4, vI a5, vI a6, vI (a6 % (a3 + 1)), none, none]) (by decide) rfl dX11_shoutBy_22 rfl rfl ?_
    refine wp_iload (pc' := 26) (i := 7) rfl dX11_shoutBy_24 rfl ?_
    refine wp_istore (pc' := 28) (i := 8) (L' := [vR 68, vI a1, vI a2, vI a3, vI a4, vI a5, vI a6, vI (a6 % (a3 + 1)), vI (a6 % (a3 + 1)), none]) (by decide) rfl dX11_shoutBy_26 rfl rfl ?_
    refine wp_iload_n (pc' := 29) (q := 1) (i := 1) rfl rfl dX11_shoutBy_28 rfl ?_
    refine wp_iconst (pc' := 30) dX11_shoutBy_29 rfl ?_
    obtain ⟨h7, h⟩ := h
    refine wp_icmp_ne (pc' := 33) (tgt := 52) h7 ⟨by decide, by decide⟩ dX11_shoutBy_30 rfl rfl (fun hc => ?_) (fun hc => ?_)
    · have h := h.1 hc
      exact h
    · have h := h.2 hc
      refine wp_iconst (pc' := 34) dX11_shoutBy_33 rfl ?_
      refine wp_iload (pc' := 36) (i := 4) rfl dX11_shoutBy_34 rfl ?_
      refine wp_imul (pc' := 37) dX11_shoutBy_36 rfl ?_
      refine wp_iconst (pc' := 38) dX11_shoutBy_37 rfl ?_
      refine wp_aload_n (pc' := 39) (q := 0) (i := 0) rfl rfl dX11_shoutBy_38 rfl ?_
      refine wp_getRc (pc' := 42) (k := 6) (j := 74) dX11_shoutBy_39 vc10 (by decide) rfl lfX11_25 o_68 (r_68_6 hR) rfl ?_
      refine wp_iconst (pc' := 43) dX11_shoutBy_42 rfl ?_
      refine wp_iald (pc' := 44) (j := 0) dX11_shoutBy_43 a_74 ⟨by decide, by decide⟩ rfl rfl ?_
      refine wp_imul (pc' := 45) dX11_shoutBy_44 rfl ?_
      obtain ⟨h8, h⟩ := h
      obtain ⟨h9, h⟩ := h
      refine wp_icmp_lt (pc' := 48) (tgt := 52) h8 h9 dX11_shoutBy_45 rfl rfl (fun hc => ?_) (fun hc => ?_)
      · have h := h.1 hc
        exact h
      · have h := h.2 hc
        refine wp_iconst (pc' := 49) dX11_shoutBy_48 rfl ?_
        refine wp_goto (tgt := 53) dX11_shoutBy_49 rfl ?_
        refine wp_istore (pc' := 55) (i := 9) (L' := [vR 68, vI a1, vI a2, vI a3, vI a4, vI a5, vI a6, vI (a6 % (a3 + 1)), vI (a6 % (a3 + 1)), vI 1]) (by decide) rfl dX11_shoutBy_53 rfl rfl ?_
        refine wp_iload (pc' := 57) (i := 9) rfl dX11_shoutBy_55 rfl ?_
        refine wp_if_eq (pc' := 60) (tgt := 66) ⟨by decide, by decide⟩ dX11_shoutBy_57 rfl rfl (fun hc => by exfalso; revert hc; decide) (fun hc => ?_)
        refine wp_iload_n (pc' := 61) (q := 3) (i := 3) rfl rfl dX11_shoutBy_60 rfl ?_
        refine wp_istore (pc' := 63) (i := 8) (L' := [vR 68, vI a1, vI a2, vI a3, vI a4, vI a5, vI a6, vI (a6 % (a3 + 1)), vI a3, vI 1]) (by decide) rfl dX11_shoutBy_61 rfl rfl ?_
        refine wp_goto (tgt := 285) dX11_shoutBy_63 rfl ?_
        exact wp_dropP (leP_s (leP_d (leP_s (leP_d (leP_d (leP_d (leP_d (leP_d (leP_s (leP_d leP_n)))))))))) h

set_option maxRecDepth 4000 in
theorem gX11_shoutBy_52 {Q : QT} {I : II} {R : RR} (hR : SR R) {a1 : Int} {a2 : Int} {a3 : Int} {a4 : Int} {a5 : Int} {a6 : Int} {a7 : Int} {a8 : Int}
    (h : (InI a1) ∧
      ((a1 = (1 : Int) →
      wp (kN 89) mX11_shoutBy Q 76 [vR 68, vI a1, vI a2, vI a3, vI a4, vI a5, vI a6, vI a7, vI a8, none] [] I R 89) ∧ (¬ (a1 = (1 : Int)) →
      ((¬ a1 = (3 : Int) →
      wp (kN 89) mX11_shoutBy Q 163 [vR 68, vI a1, vI a2, vI a3, vI a4, none, vI a6, vI a7, vI a8, none] [] I R 89) ∧ (a1 = (3 : Int) →
      wp (kN 89) mX11_shoutBy Q 76 [vR 68, vI a1, vI a2, vI a3, vI a4, vI a5, vI a6, vI a7, vI a8, none] [] I R 89))))) : wp (kN 89) mX11_shoutBy Q 52 [vR 68, vI a1, vI a2, vI a3, vI a4, vI a5, vI a6, vI a7, vI a8, none] [] I R 89 := by
  refine wp_iconst (pc' := 53) dX11_shoutBy_52 rfl ?_
  refine wp_istore (pc' := 55) (i := 9) (L' := [vR 68, vI a1, vI a2, vI a3, vI a4, vI a5, vI a6, vI a7, vI a8, vI 0]) (by decide) rfl dX11_shoutBy_53 rfl rfl ?_
  refine wp_iload (pc' := 57) (i := 9) rfl dX11_shoutBy_55 rfl ?_
  refine wp_if_eq (pc' := 60) (tgt := 66) ⟨by decide, by decide⟩ dX11_shoutBy_57 rfl rfl (fun hc => ?_) (fun hc => by exfalso; revert hc; decide)
  refine wp_iload_n (pc' := 67) (q := 1) (i := 1) rfl rfl dX11_shoutBy_66 rfl ?_
  refine wp_iconst (pc' := 68) dX11_shoutBy_67 rfl ?_
  obtain ⟨h1, h⟩ := h
  refine wp_icmp_eq (pc' := 71) (tgt := 76) h1 ⟨by decide, by decide⟩ dX11_shoutBy_68 rfl rfl (fun hc => ?_) (fun hc => ?_)
  · have h := h.1 hc
    exact wp_dropP (leP_s (leP_s (leP_s (leP_s (leP_s (leP_s (leP_s (leP_s (leP_s (leP_d leP_n)))))))))) h
  · have h := h.2 hc
    refine wp_iload_n (pc' := 72) (q := 1) (i := 1) rfl rfl dX11_shoutBy_71 rfl ?_
    refine wp_iconst (pc' := 73) dX11_shoutBy_72 rfl ?_
    refine wp_icmp_ne (pc' := 76) (tgt := 163) h1 ⟨by decide, by decide⟩ dX11_shoutBy_73 rfl rfl (fun hc => ?_) (fun hc => ?_)
    · have h := h.1 hc
      exact wp_dropP (leP_s (leP_s (leP_s (leP_s (leP_s (leP_d (leP_s (leP_s (leP_s (leP_d leP_n)))))))))) h
    · have h := h.2 hc
      exact wp_dropP (leP_s (leP_s (leP_s (leP_s (leP_s (leP_s (leP_s (leP_s (leP_s (leP_d leP_n)))))))))) h

set_option maxRecDepth 4000 in
theorem gX11_shoutBy_76 {Q : QT} {I : II} {R : RR} (hR : SR R) {a1 : Int} {a2 : Int} {a3 : Int} {a4 : Int} {a5 : Int} {a6 : Int} {a7 : Int} {a8 : Int}
    (h : (InI a5) ∧
      ((a5 < 0 →
      wp (kN 89) mX11_shoutBy Q 163 [vR 68, vI a1, vI a2, vI a3, vI a4, none, vI a6, vI a7, vI a8, none] [] I R 89) ∧ (¬ (a5 < 0) →
      (0 ≤ a6 ∧ a6 ≤ 2147483647 ∧ 0 < ((2 * (I 74 3)) + 1) ∧ ((2 * (I 74 3)) + 1) ≤ 2147483647) ∧
      (InI a2) ∧
      ((¬ a2 = 0 →
      wp (kN 89) mX11_shoutBy Q 116 [vR 68, none, vI a2, vI a3, none, none, none, none, vI ((a5 - (I 74 3)) + (a6 % ((2 * (I 74 3)) + 1))), none] [] I R 89) ∧ (a2 = 0 →
      (InI ((a5 - (I 74 3)) + (a6 % ((2 * (I 74 3)) + 1)))) ∧
      (InI a3) ∧
      ((a3 < ((a5 - (I 74 3)) + (a6 % ((2 * (I 74 3)) + 1))) →
      wp (kN 89) mX11_shoutBy Q 127 [vR 68, none, vI a2, vI a3, none, none, none, none, none, none] [] I R 89) ∧ (¬ (a3 < ((a5 - (I 74 3)) + (a6 % ((2 * (I 74 3)) + 1)))) →
      wp (kN 89) mX11_shoutBy Q 116 [vR 68, none, vI a2, vI a3, none, none, none, none, vI ((a5 - (I 74 3)) + (a6 % ((2 * (I 74 3)) + 1))), none] [] I R 89))))))) : wp (kN 89) mX11_shoutBy Q 76 [vR 68, vI a1, vI a2, vI a3, vI a4, vI a5, vI a6, vI a7, vI a8, none] [] I R 89 := by
  refine wp_iload (pc' := 78) (i := 5) rfl dX11_shoutBy_76 rfl ?_
  obtain ⟨h1, h⟩ := h
  refine wp_if_lt (pc' := 81) (tgt := 163) h1 dX11_shoutBy_78 rfl rfl (fun hc => ?_) (fun hc => ?_)
  · have h := h.1 hc
    exact wp_dropP (leP_s (leP_s (leP_s (leP_s (leP_s (leP_d (leP_s (leP_s (leP_s (leP_s leP_n)))))))))) h
  · have h := h.2 hc
    refine wp_iload (pc' := 83) (i := 5) rfl dX11_shoutBy_81 rfl ?_
    refine wp_aload_n (pc' := 84) (q := 0) (i := 0) rfl rfl dX11_shoutBy_83 rfl ?_
    refine wp_getRc (pc' := 87) (k := 6) (j := 74) dX11_shoutBy_84 vc10 (by decide) rfl lfX11_25 o_68 (r_68_6 hR) rfl ?_
    refine wp_iconst (pc' := 88) dX11_shoutBy_87 rfl ?_
    refine wp_iald (pc' := 89) (j := 3) dX11_shoutBy_88 a_74 ⟨by decide, by decide⟩ rfl rfl ?_
    refine wp_isub (pc' := 90) dX11_shoutBy_89 rfl ?_
    refine wp_iload (pc' := 92) (i := 6) rfl dX11_shoutBy_90 rfl ?_
    refine wp_iconst (pc' := 93) dX11_shoutBy_92 rfl ?_
    refine wp_aload_n (pc' := 94) (q := 0) (i := 0) rfl rfl dX11_shoutBy_93 rfl ?_
    refine wp_getRc (pc' := 97) (k := 6) (j := 74) dX11_shoutBy_94 vc10 (by decide) rfl lfX11_25 o_68 (r_68_6 hR) rfl ?_
    refine wp_iconst (pc' := 98) dX11_shoutBy_97 rfl ?_
    refine wp_iald (pc' := 99) (j := 3) dX11_shoutBy_98 a_74 ⟨by decide, by decide⟩ rfl rfl ?_
    refine wp_imul (pc' := 100) dX11_shoutBy_99 rfl ?_
    refine wp_iconst (pc' := 101) dX11_shoutBy_100 rfl ?_
    refine wp_iadd (pc' := 102) dX11_shoutBy_101 rfl ?_
    obtain ⟨h2, h⟩ := h
    refine wp_irem (pc' := 103) h2 dX11_shoutBy_102 rfl ?_
    refine wp_iadd (pc' := 104) dX11_shoutBy_103 rfl ?_
    refine wp_istore (pc' := 106) (i := 8) (L' := [vR 68, vI a1, vI a2, vI a3, vI a4, vI a5, vI a6, vI a7, vI ((a5 - (I 74 3)) + (a6 % ((2 * (I 74 3)) + 1))), none]) (by decide) rfl dX11_shoutBy_104 rfl rfl ?_
    refine wp_iload_n (pc' := 107) (q := 2) (i := 2) rfl rfl dX11_shoutBy_106 rfl ?_
    obtain ⟨h3, h⟩ := h
    refine wp_if_ne (pc' := 110) (tgt := 116) h3 dX11_shoutBy_107 rfl rfl (fun hc => ?_) (fun hc => ?_)
    · have h := h.1 hc
      exact wp_dropP (leP_s (leP_d (leP_s (leP_s (leP_d (leP_d (leP_d (leP_d (leP_s (leP_s leP_n)))))))))) h
    · have h := h.2 hc
      refine wp_iload (pc' := 112) (i := 8) rfl dX11_shoutBy_110 rfl ?_
      refine wp_iload_n (pc' := 113) (q := 3) (i := 3) rfl rfl dX11_shoutBy_112 rfl ?_
      obtain ⟨h4, h⟩ := h
      obtain ⟨h5, h⟩ := h
      refine wp_icmp_gt (pc' := 116) (tgt := 127) h4 h5 dX11_shoutBy_113 rfl rfl (fun hc => ?_) (fun hc => ?_)
      · have h := h.1 hc
        exact wp_dropP (leP_s (leP_d (leP_s (leP_s (leP_d (leP_d (leP_d (leP_d (leP_d (leP_s leP_n)))))))))) h
      · have h := h.2 hc
        exact wp_dropP (leP_s (leP_d (leP_s (leP_s (leP_d (leP_d (leP_d (leP_d (leP_s (leP_s leP_n)))))))))) h

set_option maxRecDepth 4000 in
theorem gX11_shoutBy_116 {Q : QT} {I : II} {R : RR} (hR : SR R) {a2 : Int} {a3 : Int} {a8 : Int}
    (h : (InI a2) ∧
      ((¬ a2 = (1 : Int) →
      wp (kN 89) mX11_shoutBy Q 131 [vR 68, none, vI a2, none, none, none, none, none, vI a8, none] [] I R 89) ∧ (a2 = (1 : Int) →
      (InI a8) ∧
      (InI a3) ∧
      ((a3 ≤ a8 →
      wp (kN 89) mX11_shoutBy Q 131 [vR 68, none, vI a2, none, none, none, none, none, vI a8, none] [] I R 89) ∧ (¬ (a3 ≤ a8) →
      wp (kN 89) mX11_shoutBy Q 127 [vR 68, none, vI a2, vI a3, none, none, none, none, none, none] [] I R 89))))) : wp (kN 89) mX11_shoutBy Q 116 [vR 68, none, vI a2, vI a3, none, none, none, none, vI a8, none] [] I R 89 := by
  refine wp_iload_n (pc' := 117) (q := 2) (i := 2) rfl rfl dX11_shoutBy_116 rfl ?_
  refine wp_iconst (pc' := 118) dX11_shoutBy_117 rfl ?_
  obtain ⟨h1, h⟩ := h
  refine wp_icmp_ne (pc' := 121) (tgt := 131) h1 ⟨by decide, by decide⟩ dX11_shoutBy_118 rfl rfl (fun hc => ?_) (fun hc => ?_)
  · have h := h.1 hc
    exact wp_dropP (leP_s (leP_s (leP_s (leP_d (leP_s (leP_s (leP_s (leP_s (leP_s (leP_s leP_n)))))))))) h
  · have h := h.2 hc
    refine wp_iload (pc' := 123) (i := 8) rfl dX11_shoutBy_121 rfl ?_
    refine wp_iload_n (pc' := 124) (q := 3) (i := 3) rfl rfl dX11_shoutBy_123 rfl ?_
    obtain ⟨h2, h⟩ := h
    obtain ⟨h3, h⟩ := h
    refine wp_icmp_ge (pc' := 127) (tgt := 131) h2 h3 dX11_shoutBy_124 rfl rfl (fun hc => ?_) (fun hc => ?_)
    · have h := h.1 hc
      exact wp_dropP (leP_s (leP_s (leP_s (leP_d (leP_s (leP_s (leP_s (leP_s (leP_s (leP_s leP_n)))))))))) h
    · have h := h.2 hc
      exact wp_dropP (leP_s (leP_s (leP_s (leP_s (leP_s (leP_s (leP_s (leP_s (leP_d (leP_s leP_n)))))))))) h

set_option maxRecDepth 4000 in
theorem gX11_shoutBy_127 {Q : QT} {I : II} {R : RR} (hR : SR R) {a2 : Int} {a3 : Int}
    (h : (InI a3) ∧
      ((0 ≤ a3 →
      ((a3 ≤ (99 : Int) →
      wp (kN 89) mX11_shoutBy Q 285 [vR 68, none, vI a2, none, none, none, none, none, vI a3, none] [] I R 89) ∧ (¬ (a3 ≤ (99 : Int)) →
      wp (kN 89) mX11_shoutBy Q 285 [vR 68, none, vI a2, none, none, none, none, none, vI 99, none] [] I R 89))) ∧ (¬ (0 ≤ a3) →
      wp (kN 89) mX11_shoutBy Q 285 [vR 68, none, vI a2, none, none, none, none, none, vI 0, none] [] I R 89))) : wp (kN 89) mX11_shoutBy Q 127 [vR 68, none, vI a2, vI a3, none, none, none, none, none, none] [] I R 89 := by
  refine wp_iload_n (pc' := 128) (q := 3) (i := 3) rfl rfl dX11_shoutBy_127 rfl ?_
  refine wp_goto (tgt := 133) dX11_shoutBy_128 rfl ?_
  refine wp_istore (pc' := 135) (i := 8) (L' := [vR 68, none, vI a2, vI a3, none, none, none, none, vI a3, none]) (by decide) rfl dX11_shoutBy_133 rfl rfl ?_
  refine wp_iload (pc' := 137) (i := 8) rfl dX11_shoutBy_135 rfl ?_
  obtain ⟨h1, h⟩ := h
  refine wp_if_ge (pc' := 140) (tgt := 144) h1 dX11_shoutBy_137 rfl rfl (fun hc => ?_) (fun hc => ?_)
  · have h := h.1 hc
    refine wp_iload (pc' := 146) (i := 8) rfl dX11_shoutBy_144 rfl ?_
    refine wp_bipush (pc' := 148) (by decide) dX11_shoutBy_146 rfl ?_
    refine wp_icmp_le (pc' := 151) (tgt := 156) h1 ⟨by decide, by decide⟩ dX11_shoutBy_148 rfl rfl (fun hc => ?_) (fun hc => ?_)
    · have h := h.1 hc
      refine wp_iload (pc' := 158) (i := 8) rfl dX11_shoutBy_156 rfl ?_
      refine wp_istore (pc' := 160) (i := 8) (L' := [vR 68, none, vI a2, vI a3, none, none, none, none, vI a3, none]) (by decide) rfl dX11_shoutBy_158 rfl rfl ?_
      refine wp_goto (tgt := 285) dX11_shoutBy_160 rfl ?_
      exact wp_dropP (leP_s (leP_s (leP_s (leP_d (leP_s (leP_s (leP_s (leP_s (leP_s (leP_s leP_n)))))))))) h
    · have h := h.2 hc
      refine wp_bipush (pc' := 153) (by decide) dX11_shoutBy_151 rfl ?_
      refine wp_goto (tgt := 158) dX11_shoutBy_153 rfl ?_
      refine wp_istore (pc' := 160) (i := 8) (L' := [vR 68, none, vI a2, vI a3, none, none, none, none, vI 99, none]) (by decide) rfl dX11_shoutBy_158 rfl rfl ?_
      refine wp_goto (tgt := 285) dX11_shoutBy_160 rfl ?_
      exact wp_dropP (leP_s (leP_s (leP_s (leP_d (leP_s (leP_s (leP_s (leP_s (leP_s (leP_s leP_n)))))))))) h
  · have h := h.2 hc
    refine wp_iconst (pc' := 141) dX11_shoutBy_140 rfl ?_
    refine wp_goto (tgt := 158) dX11_shoutBy_141 rfl ?_
    refine wp_istore (pc' := 160) (i := 8) (L' := [vR 68, none, vI a2, vI a3, none, none, none, none, vI 0, none]) (by decide) rfl dX11_shoutBy_158 rfl rfl ?_
    refine wp_goto (tgt := 285) dX11_shoutBy_160 rfl ?_
    exact wp_dropP (leP_s (leP_s (leP_s (leP_d (leP_s (leP_s (leP_s (leP_s (leP_s (leP_s leP_n)))))))))) h

set_option maxRecDepth 4000 in
theorem gX11_shoutBy_131 {Q : QT} {I : II} {R : RR} (hR : SR R) {a2 : Int} {a8 : Int}
    (h : (InI a8) ∧
      ((0 ≤ a8 →
      ((a8 ≤ (99 : Int) →
      wp (kN 89) mX11_shoutBy Q 285 [vR 68, none, vI a2, none, none, none, none, none, vI a8, none] [] I R 89) ∧ (¬ (a8 ≤ (99 : Int)) →
      wp (kN 89) mX11_shoutBy Q 285 [vR 68, none, vI a2, none, none, none, none, none, vI 99, none] [] I R 89))) ∧ (¬ (0 ≤ a8) →
      wp (kN 89) mX11_shoutBy Q 285 [vR 68, none, vI a2, none, none, none, none, none, vI 0, none] [] I R 89))) : wp (kN 89) mX11_shoutBy Q 131 [vR 68, none, vI a2, none, none, none, none, none, vI a8, none] [] I R 89 := by
  refine wp_iload (pc' := 133) (i := 8) rfl dX11_shoutBy_131 rfl ?_
  refine wp_istore (pc' := 135) (i := 8) (L' := [vR 68, none, vI a2, none, none, none, none, none, vI a8, none]) (by decide) rfl dX11_shoutBy_133 rfl rfl ?_
  refine wp_iload (pc' := 137) (i := 8) rfl dX11_shoutBy_135 rfl ?_
  obtain ⟨h1, h⟩ := h
  refine wp_if_ge (pc' := 140) (tgt := 144) h1 dX11_shoutBy_137 rfl rfl (fun hc => ?_) (fun hc => ?_)
  · have h := h.1 hc
    refine wp_iload (pc' := 146) (i := 8) rfl dX11_shoutBy_144 rfl ?_
    refine wp_bipush (pc' := 148) (by decide) dX11_shoutBy_146 rfl ?_
    refine wp_icmp_le (pc' := 151) (tgt := 156) h1 ⟨by decide, by decide⟩ dX11_shoutBy_148 rfl rfl (fun hc => ?_) (fun hc => ?_)
    · have h := h.1 hc
      refine wp_iload (pc' := 158) (i := 8) rfl dX11_shoutBy_156 rfl ?_
      refine wp_istore (pc' := 160) (i := 8) (L' := [vR 68, none, vI a2, none, none, none, none, none, vI a8, none]) (by decide) rfl dX11_shoutBy_158 rfl rfl ?_
      refine wp_goto (tgt := 285) dX11_shoutBy_160 rfl ?_
      exact h
    · have h := h.2 hc
      refine wp_bipush (pc' := 153) (by decide) dX11_shoutBy_151 rfl ?_
      refine wp_goto (tgt := 158) dX11_shoutBy_153 rfl ?_
      refine wp_istore (pc' := 160) (i := 8) (L' := [vR 68, none, vI a2, none, none, none, none, none, vI 99, none]) (by decide) rfl dX11_shoutBy_158 rfl rfl ?_
      refine wp_goto (tgt := 285) dX11_shoutBy_160 rfl ?_
      exact h
  · have h := h.2 hc
    refine wp_iconst (pc' := 141) dX11_shoutBy_140 rfl ?_
    refine wp_goto (tgt := 158) dX11_shoutBy_141 rfl ?_
    refine wp_istore (pc' := 160) (i := 8) (L' := [vR 68, none, vI a2, none, none, none, none, none, vI 0, none]) (by decide) rfl dX11_shoutBy_158 rfl rfl ?_
    refine wp_goto (tgt := 285) dX11_shoutBy_160 rfl ?_
    exact h

set_option maxRecDepth 4000 in
theorem gX11_shoutBy_163 {Q : QT} {I : II} {R : RR} (hR : SR R) {a1 : Int} {a2 : Int} {a3 : Int} {a4 : Int} {a6 : Int} {a7 : Int} {a8 : Int}
    (h : (InI a1) ∧
      ((¬ a1 = (2 : Int) →
      ((¬ a1 = (4 : Int) →
      ((¬ a1 = (5 : Int) →
      wp (kN 89) mX11_shoutBy Q 285 [vR 68, none, vI a2, none, none, none, none, none, vI a8, none] [] I R 89) ∧ (a1 = (5 : Int) →
      (0 ≤ a6 ∧ a6 ≤ 2147483647 ∧ 0 < (100 : Int) ∧ (100 : Int) ≤ 2147483647) ∧
      wp (kN 89) mX11_shoutBy Q 285 [vR 68, none, vI a2, none, none, none, none, none, vI (a6 % 100), none] [] I R 89))) ∧ (a1 = (4 : Int) →
      (InI a2) ∧
      ((¬ a2 = 0 →
      (InI a7) ∧
      (InI (I 74 4)) ∧
      ((a7 ≤ (I 74 4) →
      wp (kN 89) mX11_shoutBy Q 285 [vR 68, none, vI a2, none, none, none, none, none, vI (I 74 4), none] [] I R 89) ∧ (¬ (a7 ≤ (I 74 4)) →
      wp (kN 89) mX11_shoutBy Q 285 [vR 68, none, vI a2, none, none, none, none, none, vI a7, none] [] I R 89))) ∧ (a2 = 0 →
      (InI a7) ∧
      (InI (I 74 4)) ∧
      (((I 74 4) ≤ a7 →
      wp (kN 89) mX11_shoutBy Q 285 [vR 68, none, vI a2, none, none, none, none, none, vI (I 74 4), none] [] I R 89) ∧ (¬ (I 74 4) ≤ a7 →
      wp (kN 89) mX11_shoutBy Q 285 [vR 68, none, vI a2, none, none, none, none, none, vI a7, none] [] I R 89))))))) ∧ (a1 = (2 : Int) →
      (InI a2) ∧
      ((¬ a2 = 0 →
      (0 ≤ ((99 - a3) * (a4 + 1)) ∧ ((99 - a3) * (a4 + 1)) ≤ 2147483647 ∧ 0 < (I 74 0) ∧ (I 74 0) ≤ 2147483647) ∧
      wp (kN 89) mX11_shoutBy Q 285 [vR 68, none, vI a2, none, none, none, none, none, vI (99 - (((99 - a3) * (a4 + 1)) / (I 74 0))), none] [] I R 89) ∧ (a2 = 0 →
      (0 ≤ (a3 * (a4 + 1)) ∧ (a3 * (a4 + 1)) ≤ 2147483647 ∧ 0 < (I 74 0) ∧ (I 74 0) ≤ 2147483647) ∧
      wp (kN 89) mX11_shoutBy Q 285 [vR 68, none, vI a2, none, none, none, none, none, vI ((a3 * (a4 + 1)) / (I 74 0)), none] [] I R 89))))) : wp (kN 89) mX11_shoutBy Q 163 [vR 68, vI a1, vI a2, vI a3, vI a4, none, vI a6, vI a7, vI a8, none] [] I R 89 := by
  refine wp_iload_n (pc' := 164) (q := 1) (i := 1) rfl rfl dX11_shoutBy_163 rfl ?_
  refine wp_iconst (pc' := 165) dX11_shoutBy_164 rfl ?_
  obtain ⟨h1, h⟩ := h
  refine wp_icmp_ne (pc' := 168) (tgt := 212) h1 ⟨by decide, by decide⟩ dX11_shoutBy_165 rfl rfl (fun hc => ?_) (fun hc => ?_)
  · have h := h.1 hc
    refine wp_iload_n (pc' := 213) (q := 1) (i := 1) rfl rfl dX11_shoutBy_212 rfl ?_
    refine wp_iconst (pc' := 214) dX11_shoutBy_213 rfl ?_
    refine wp_icmp_ne (pc' := 217) (tgt := 273) h1 ⟨by decide, by decide⟩ dX11_shoutBy_214 rfl rfl (fun hc => ?_) (fun hc => ?_)
    · have h := h.1 hc
      refine wp_iload_n (pc' := 274) (q := 1) (i := 1) rfl rfl dX11_shoutBy_273 rfl ?_
      refine wp_iconst (pc' := 275) dX11_shoutBy_274 rfl ?_
      refine wp_icmp_ne (pc' := 278) (tgt := 285) h1 ⟨by decide, by decide⟩ dX11_shoutBy_275 rfl rfl (fun hc => ?_) (fun hc => ?_)
      · have h := h.1 hc
        exact wp_dropP (leP_s (leP_d (leP_s (leP_d (leP_d (leP_s (leP_d (leP_d (leP_s (leP_s leP_n)))))))))) h
      · have h := h.2 hc
        refine wp_iload (pc' := 280) (i := 6) rfl dX11_shoutBy_278 rfl ?_
        refine wp_bipush (pc' := 282) (by decide) dX11_shoutBy_280 rfl ?_
        obtain ⟨h2, h⟩ := h
        refine wp_irem (pc' := 283) h2 dX11_shoutBy_282 rfl ?_
        refine wp_istore (pc' := 285) (i := 8) (L' := [vR 68, vI a1, vI a2, vI a3, vI a4, none, vI a6, vI a7, vI (a6 % 100), none]) (by decide) rfl dX11_shoutBy_283 rfl rfl ?_
        exact wp_dropP (leP_s (leP_d (leP_s (leP_d (leP_d (leP_s (leP_d (leP_d (leP_s (leP_s leP_n)))))))))) h
    · have h := h.2 hc
      refine wp_iload_n (pc' := 218) (q := 2) (i := 2) rfl rfl dX11_shoutBy_217 rfl ?_
      obtain ⟨h3, h⟩ := h
      refine wp_if_ne (pc' := 221) (tgt := 246) h3 dX11_shoutBy_218 rfl rfl (fun hc => ?_) (fun hc => ?_)
      · have h := h.1 hc
        refine wp_iload (pc' := 248) (i := 7) rfl dX11_shoutBy_246 rfl ?_
        refine wp_aload_n (pc' := 249) (q := 0) (i := 0) rfl rfl dX11_shoutBy_248 rfl ?_
        refine wp_getRc (pc' := 252) (k := 6) (j := 74) dX11_shoutBy_249 vc10 (by decide) rfl lfX11_25 o_68 (r_68_6 hR) rfl ?_
        refine wp_iconst (pc' := 253) dX11_shoutBy_252 rfl ?_
        refine wp_iald (pc' := 254) (j := 4) dX11_shoutBy_253 a_74 ⟨by decide, by decide⟩ rfl rfl ?_
        obtain ⟨h4, h⟩ := h
        obtain ⟨h5, h⟩ := h
        refine wp_icmp_le (pc' := 257) (tgt := 262) h4 h5 dX11_shoutBy_254 rfl rfl (fun hc => ?_) (fun hc => ?_)
        · have h := h.1 hc
          refine wp_aload_n (pc' := 263) (q := 0) (i := 0) rfl rfl dX11_shoutBy_262 rfl ?_
          refine wp_getRc (pc' := 266) (k := 6) (j := 74) dX11_shoutBy_263 vc10 (by decide) rfl lfX11_25 o_68 (r_68_6 hR) rfl ?_
          refine wp_iconst (pc' := 267) dX11_shoutBy_266 rfl ?_
          refine wp_iald (pc' := 268) (j := 4) dX11_shoutBy_267 a_74 ⟨by decide, by decide⟩ rfl rfl ?_
          refine wp_istore (pc' := 270) (i := 8) (L' := [vR 68, vI a1, vI a2, vI a3, vI a4, none, vI a6, vI a7, vI (I 74 4), none]) (by decide) rfl dX11_shoutBy_268 rfl rfl ?_
          refine wp_goto (tgt := 285) dX11_shoutBy_270 rfl ?_
          exact wp_dropP (leP_s (leP_d (leP_s (leP_d (leP_d (leP_s (leP_d (leP_d (leP_s (leP_s leP_n)))))))))) h
        · have h := h.2 hc
          refine wp_iload (pc' := 259) (i := 7) rfl dX11_shoutBy_257 rfl ?_
          refine wp_goto (tgt := 268) dX11_shoutBy_259 rfl ?_
          refine wp_istore (pc' := 270) (i := 8) (L' := [vR 68, vI a1, vI a2, vI a3, vI a4, none, vI a6, vI a7, vI a7, none]) (by decide) rfl dX11_shoutBy_268 rfl rfl ?_
          refine wp_goto (tgt := 285) dX11_shoutBy_270 rfl ?_
          exact wp_dropP (leP_s (leP_d (leP_s (leP_d (leP_d (leP_s (leP_d (leP_d (leP_s (leP_s leP_n)))))))))) h
      · have h := h.2 hc
        refine wp_iload (pc' := 223) (i := 7) rfl dX11_shoutBy_221 rfl ?_
        refine wp_aload_n (pc' := 224) (q := 0) (i := 0) rfl rfl dX11_shoutBy_223 rfl ?_
        refine wp_getRc (pc' := 227) (k := 6) (j := 74) dX11_shoutBy_224 vc10 (by decide) rfl lfX11_25 o_68 (r_68_6 hR) rfl ?_
        refine wp_iconst (pc' := 228) dX11_shoutBy_227 rfl ?_
        refine wp_iald (pc' := 229) (j := 4) dX11_shoutBy_228 a_74 ⟨by decide, by decide⟩ rfl rfl ?_
        obtain ⟨h6, h⟩ := h
        obtain ⟨h7, h⟩ := h
        refine wp_icmp_ge (pc' := 232) (tgt := 237) h6 h7 dX11_shoutBy_229 rfl rfl (fun hc => ?_) (fun hc => ?_)
        · have h := h.1 hc
          refine wp_aload_n (pc' := 238) (q := 0) (i := 0) rfl rfl dX11_shoutBy_237 rfl ?_
          refine wp_getRc (pc' := 241) (k := 6) (j := 74) dX11_shoutBy_238 vc10 (by decide) rfl lfX11_25 o_68 (r_68_6 hR) rfl ?_
          refine wp_iconst (pc' := 242) dX11_shoutBy_241 rfl ?_
          refine wp_iald (pc' := 243) (j := 4) dX11_shoutBy_242 a_74 ⟨by decide, by decide⟩ rfl rfl ?_
          refine wp_goto (tgt := 268) dX11_shoutBy_243 rfl ?_
          refine wp_istore (pc' := 270) (i := 8) (L' := [vR 68, vI a1, vI a2, vI a3, vI a4, none, vI a6, vI a7, vI (I 74 4), none]) (by decide) rfl dX11_shoutBy_268 rfl rfl ?_
          refine wp_goto (tgt := 285) dX11_shoutBy_270 rfl ?_
          exact wp_dropP (leP_s (leP_d (leP_s (leP_d (leP_d (leP_s (leP_d (leP_d (leP_s (leP_s leP_n)))))))))) h
        · have h := h.2 hc
          refine wp_iload (pc' := 234) (i := 7) rfl dX11_shoutBy_232 rfl ?_
          refine wp_goto (tgt := 268) dX11_shoutBy_234 rfl ?_
          refine wp_istore (pc' := 270) (i := 8) (L' := [vR 68, vI a1, vI a2, vI a3, vI a4, none, vI a6, vI a7, vI a7, none]) (by decide) rfl dX11_shoutBy_268 rfl rfl ?_
          refine wp_goto (tgt := 285) dX11_shoutBy_270 rfl ?_
          exact wp_dropP (leP_s (leP_d (leP_s (leP_d (leP_d (leP_s (leP_d (leP_d (leP_s (leP_s leP_n)))))))))) h
  · have h := h.2 hc
    refine wp_iload_n (pc' := 169) (q := 2) (i := 2) rfl rfl dX11_shoutBy_168 rfl ?_
    obtain ⟨h8, h⟩ := h
    refine wp_if_ne (pc' := 172) (tgt := 188) h8 dX11_shoutBy_169 rfl rfl (fun hc => ?_) (fun hc => ?_)
    · have h := h.1 hc
      refine wp_bipush (pc' := 190) (by decide) dX11_shoutBy_188 rfl ?_
      refine wp_bipush (pc' := 192) (by decide) dX11_shoutBy_190 rfl ?_
      refine wp_iload_n (pc' := 193) (q := 3) (i := 3) rfl rfl dX11_shoutBy_192 rfl ?_
      refine wp_isub (pc' := 194) dX11_shoutBy_193 rfl ?_
      refine wp_iload (pc' := 196) (i := 4) rfl dX11_shoutBy_194 rfl ?_
      refine wp_iconst (pc' := 197) dX11_shoutBy_196 rfl ?_
      refine wp_iadd (pc' := 198) dX11_shoutBy_197 rfl ?_
      refine wp_imul (pc' := 199) dX11_shoutBy_198 rfl ?_
      refine wp_aload_n (pc' := 200) (q := 0) (i := 0) rfl rfl dX11_shoutBy_199 rfl ?_
      refine wp_getRc (pc' := 203) (k := 6) (j := 74) dX11_shoutBy_200 vc10 (by decide) rfl lfX11_25 o_68 (r_68_6 hR) rfl ?_
      refine wp_iconst (pc' := 204) dX11_shoutBy_203 rfl ?_
      refine wp_iald (pc' := 205) (j := 0) dX11_shoutBy_204 a_74 ⟨by decide, by decide⟩ rfl rfl ?_
      obtain ⟨h9, h⟩ := h
      refine wp_idiv (pc' := 206) h9 dX11_shoutBy_205 rfl ?_
      refine wp_isub (pc' := 207) dX11_shoutBy_206 rfl ?_
      refine wp_istore (pc' := 209) (i := 8) (L' := [vR 68, vI a1, vI a2, vI a3, vI a4, none, vI a6, vI a7, vI (99 - (((99 - a3) * (a4 + 1)) / (I 74 0))), none]) (by decide) rfl dX11_shoutBy_207 rfl rfl ?_
      refine wp_goto (tgt := 285) dX11_shoutBy_209 rfl ?_
      exact wp_dropP (leP_s (leP_d (leP_s (leP_d (leP_d (leP_s (leP_d (leP_d (leP_s (leP_s leP_n)))))))))) h
    · have h := h.2 hc
      refine wp_iload_n (pc' := 173) (q := 3) (i := 3) rfl rfl dX11_shoutBy_172 rfl ?_
      refine wp_iload (pc' := 175) (i := 4) rfl dX11_shoutBy_173 rfl ?_
      refine wp_iconst (pc' := 176) dX11_shoutBy_175 rfl ?_
      refine wp_iadd (pc' := 177) dX11_shoutBy_176 rfl ?_
      refine wp_imul (pc' := 178) dX11_shoutBy_177 rfl ?_
      refine wp_aload_n (pc' := 179) (q := 0) (i := 0) rfl rfl dX11_shoutBy_178 rfl ?_
      refine wp_getRc (pc' := 182) (k := 6) (j := 74) dX11_shoutBy_179 vc10 (by decide) rfl lfX11_25 o_68 (r_68_6 hR) rfl ?_
      refine wp_iconst (pc' := 183) dX11_shoutBy_182 rfl ?_
      refine wp_iald (pc' := 184) (j := 0) dX11_shoutBy_183 a_74 ⟨by decide, by decide⟩ rfl rfl ?_
      obtain ⟨h10, h⟩ := h
      refine wp_idiv (pc' := 185) h10 dX11_shoutBy_184 rfl ?_
      refine wp_goto (tgt := 207) dX11_shoutBy_185 rfl ?_
      refine wp_istore (pc' := 209) (i := 8) (L' := [vR 68, vI a1, vI a2, vI a3, vI a4, none, vI a6, vI a7, vI ((a3 * (a4 + 1)) / (I 74 0)), none]) (by decide) rfl dX11_shoutBy_207 rfl rfl ?_
      refine wp_goto (tgt := 285) dX11_shoutBy_209 rfl ?_
      exact wp_dropP (leP_s (leP_d (leP_s (leP_d (leP_d (leP_s (leP_d (leP_d (leP_s (leP_s leP_n)))))))))) h

set_option maxRecDepth 4000 in
theorem gX11_shoutBy_285 {Q : QT} {I : II} {R : RR} (hR : SR R) {a2 : Int} {a8 : Int}
    (h : (InI a2) ∧
      ((¬ a2 = (1 : Int) →
      (InI a8) ∧
      (InI (I 74 2)) ∧
      ((a8 ≤ (I 74 2) →
      Q (vI a8) I R) ∧ (¬ (a8 ≤ (I 74 2)) →
      Q (vI (I 74 2)) I R))) ∧ (a2 = (1 : Int) →
      (InI (a8 + (I 74 1))) ∧
      (InI (I 74 2)) ∧
      (((a8 + (I 74 1)) ≤ (I 74 2) →
      Q (vI a8) I R) ∧ (¬ (a8 + (I 74 1)) ≤ (I 74 2) →
      Q (vI (-4)) I R))))) : wp (kN 89) mX11_shoutBy Q 285 [vR 68, none, vI a2, none, none, none, none, none, vI a8, none] [] I R 89 := by
  refine wp_iload_n (pc' := 286) (q := 2) (i := 2) rfl rfl dX11_shoutBy_285 rfl ?_
  refine wp_iconst (pc' := 287) dX11_shoutBy_286 rfl ?_
  obtain ⟨h1, h⟩ := h
  refine wp_icmp_ne (pc' := 290) (tgt := 316) h1 ⟨by decide, by decide⟩ dX11_shoutBy_287 rfl rfl (fun hc => ?_) (fun hc => ?_)
  · have h := h.1 hc
    refine wp_iload (pc' := 318) (i := 8) rfl dX11_shoutBy_316 rfl ?_
    refine wp_aload_n (pc' := 319) (q := 0) (i := 0) rfl rfl dX11_shoutBy_318 rfl ?_
    refine wp_getRc (pc' := 322) (k := 6) (j := 74) dX11_shoutBy_319 vc10 (by decide) rfl lfX11_25 o_68 (r_68_6 hR) rfl ?_
    refine wp_iconst (pc' := 323) dX11_shoutBy_322 rfl ?_
    refine wp_iald (pc' := 324) (j := 2) dX11_shoutBy_323 a_74 ⟨by decide, by decide⟩ rfl rfl ?_
    obtain ⟨h2, h⟩ := h
    obtain ⟨h3, h⟩ := h
    refine wp_icmp_le (pc' := 327) (tgt := 336) h2 h3 dX11_shoutBy_324 rfl rfl (fun hc => ?_) (fun hc => ?_)
    · have h := h.1 hc
      refine wp_iload (pc' := 338) (i := 8) rfl dX11_shoutBy_336 rfl ?_
      exact wp_ireturn dX11_shoutBy_338 rfl rfl h
    · have h := h.2 hc
      refine wp_aload_n (pc' := 328) (q := 0) (i := 0) rfl rfl dX11_shoutBy_327 rfl ?_
      refine wp_getRc (pc' := 331) (k := 6) (j := 74) dX11_shoutBy_328 vc10 (by decide) rfl lfX11_25 o_68 (r_68_6 hR) rfl ?_
      refine wp_iconst (pc' := 332) dX11_shoutBy_331 rfl ?_
      refine wp_iald (pc' := 333) (j := 2) dX11_shoutBy_332 a_74 ⟨by decide, by decide⟩ rfl rfl ?_
      refine wp_goto (tgt := 338) dX11_shoutBy_333 rfl ?_
      exact wp_ireturn dX11_shoutBy_338 rfl rfl h
  · have h := h.2 hc
    refine wp_iload (pc' := 292) (i := 8) rfl dX11_shoutBy_290 rfl ?_
    refine wp_aload_n (pc' := 293) (q := 0) (i := 0) rfl rfl dX11_shoutBy_292 rfl ?_
    refine wp_getRc (pc' := 296) (k := 6) (j := 74) dX11_shoutBy_293 vc10 (by decide) rfl lfX11_25 o_68 (r_68_6 hR) rfl ?_
    refine wp_iconst (pc' := 297) dX11_shoutBy_296 rfl ?_
    refine wp_iald (pc' := 298) (j := 1) dX11_shoutBy_297 a_74 ⟨by decide, by decide⟩ rfl rfl ?_
    refine wp_iadd (pc' := 299) dX11_shoutBy_298 rfl ?_
    refine wp_aload_n (pc' := 300) (q := 0) (i := 0) rfl rfl dX11_shoutBy_299 rfl ?_
    refine wp_getRc (pc' := 303) (k := 6) (j := 74) dX11_shoutBy_300 vc10 (by decide) rfl lfX11_25 o_68 (r_68_6 hR) rfl ?_
    refine wp_iconst (pc' := 304) dX11_shoutBy_303 rfl ?_
    refine wp_iald (pc' := 305) (j := 2) dX11_shoutBy_304 a_74 ⟨by decide, by decide⟩ rfl rfl ?_
    obtain ⟨h4, h⟩ := h
    obtain ⟨h5, h⟩ := h
    refine wp_icmp_le (pc' := 308) (tgt := 313) h4 h5 dX11_shoutBy_305 rfl rfl (fun hc => ?_) (fun hc => ?_)
    · have h := h.1 hc
      refine wp_iload (pc' := 315) (i := 8) rfl dX11_shoutBy_313 rfl ?_
      exact wp_ireturn dX11_shoutBy_315 rfl rfl h
    · have h := h.2 hc
      refine wp_bipush (pc' := 310) (by decide) dX11_shoutBy_308 rfl ?_
      refine wp_goto (tgt := 315) dX11_shoutBy_310 rfl ?_
      exact wp_ireturn dX11_shoutBy_315 rfl rfl h

theorem sX11_shoutOf {Q : QT} {I : II} {R : RR} {a1 : Int} {a2 : Int} {a3 : Int} {a4 : Int} (h : wp (kN 89) mX11_shoutOf Q 0 [vR 68, vI a1, vI a2, vI a3, vI a4] [] I R 89) : Spec mX11_shoutOf [vR 68, vI a1, vI a2, vI a3, vI a4] I R 89 89 Q := Spec_of_wp pyX11_shoutOf rfl (Nat.le_of_ble_eq_true rfl) (Nat.le_refl _) (by decide) h

set_option maxRecDepth 4000 in
theorem gX11_shoutOf_0 {Q : QT} {I : II} {R : RR} (hR : SR R) {a1 : Int} {a2 : Int} {a3 : Int} {a4 : Int}
    (h : (0 ≤ a1 ∧ a1 < 40) ∧
      (0 ≤ I 68 21 ∧ I 68 21 ≤ 9999 ∧ 0 ≤ a3 ∧ a3 ≤ 300 ∧ 0 ≤ a4 ∧ a4 ≤ 5) ∧
      (∃ Q4 : QT, Spec mX11_shoutBy [vR 68, vI (I 73 a1.toNat), vI (I 71 a1.toNat), vI (I 72 a1.toNat), vI a2, vI (I 68 22), vI (drw (I 68 21) a3 a4)] I R 89 89 Q4 ∧ (∀ x4 I4 R4, Q4 (vI x4) I4 R4 →
      R = R4 ∧ Q (vI x4) I4 R))) : wp (kN 89) mX11_shoutOf Q 0 [vR 68, vI a1, vI a2, vI a3, vI a4] [] I R 89 := by
  refine wp_aload_n (pc' := 1) (q := 0) (i := 0) rfl rfl dX11_shoutOf_0 rfl ?_
  refine wp_aload_n (pc' := 2) (q := 0) (i := 0) rfl rfl dX11_shoutOf_1 rfl ?_
  refine wp_getRc (pc' := 5) (k := 5) (j := 73) dX11_shoutOf_2 vc10 (by decide) rfl lfX11_22 o_68 (r_68_5 hR) rfl ?_
  refine wp_iload_n (pc' := 6) (q := 1) (i := 1) rfl rfl dX11_shoutOf_5 rfl ?_
  obtain ⟨h1, h⟩ := h
  refine wp_iald (pc' := 7) (j := a1.toNat) dX11_shoutOf_6 a_73 h1 rfl rfl ?_
  refine wp_aload_n (pc' := 8) (q := 0) (i := 0) rfl rfl dX11_shoutOf_7 rfl ?_
  refine wp_getRc (pc' := 11) (k := 3) (j := 71) dX11_shoutOf_8 vc10 (by decide) rfl lfX11_16 o_68 (r_68_3 hR) rfl ?_
  refine wp_iload_n (pc' := 12) (q := 1) (i := 1) rfl rfl dX11_shoutOf_11 rfl ?_
  refine wp_iald (pc' := 13) (j := a1.toNat) dX11_shoutOf_12 a_71 h1 rfl rfl ?_
  refine wp_aload_n (pc' := 14) (q := 0) (i := 0) rfl rfl dX11_shoutOf_13 rfl ?_
  refine wp_getRc (pc' := 17) (k := 4) (j := 72) dX11_shoutOf_14 vc10 (by decide) rfl lfX11_19 o_68 (r_68_4 hR) rfl ?_
  refine wp_iload_n (pc' := 18) (q := 1) (i := 1) rfl rfl dX11_shoutOf_17 rfl ?_
  refine wp_iald (pc' := 19) (j := a1.toNat) dX11_shoutOf_18 a_72 h1 rfl rfl ?_
  refine wp_iload_n (pc' := 20) (q := 2) (i := 2) rfl rfl dX11_shoutOf_19 rfl ?_
  refine wp_aload_n (pc' := 21) (q := 0) (i := 0) rfl rfl dX11_shoutOf_20 rfl ?_
  refine wp_getI (pc' := 24) (k := 22) dX11_shoutOf_21 vc10 (by decide) rfl lfX11_196 o_68 rfl ?_
  refine wp_aload_n (pc' := 25) (q := 0) (i := 0) rfl rfl dX11_shoutOf_24 rfl ?_
  refine wp_iload_n (pc' := 26) (q := 3) (i := 3) rfl rfl dX11_shoutOf_25 rfl ?_
  refine wp_iload (pc' := 28) (i := 4) rfl dX11_shoutOf_26 rfl ?_
  obtain ⟨h3, h⟩ := h
  refine wp_callV (pc' := 31) (as := [vI a3, vI a4]) (rest := [vI (I 68 22), vI a2, vI (I 72 a1.toNat), vI (I 71 a1.toNat), vI (I 73 a1.toNat), vR 68]) (pX11_draw hR h3) dX11_shoutOf_28 rfl lkX11_199 okX11_draw inX11_draw seX11_draw o_68 vc10 ⟨Nat.le_of_ble_eq_true rfl, Nat.le_of_ble_eq_true rfl⟩ (Nat.le_of_ble_eq_true rfl) (Nat.le_refl _) (Nat.le_refl _) okP_eq okP_eq rfl (rvI rfl (fun x2 I2 R2 hq2 => ?_))
  obtain ⟨eR2, eI2, ex2⟩ := hq2; subst eR2; subst eI2; cases ex2
  obtain ⟨Q4, hs4, h⟩ := h
  refine wp_callV (pc' := 34) (as := [vI (I 73 a1.toNat), vI (I 71 a1.toNat), vI (I 72 a1.toNat), vI a2, vI (I 68 22), vI (drw (I 68 21) a3 a4)]) (rest := []) hs4 dX11_shoutOf_31 rfl lkX11_202 okX11_shoutBy inX11_shoutBy seX11_shoutBy o_68 vc10 ⟨Nat.le_of_ble_eq_true rfl, Nat.le_of_ble_eq_true rfl⟩ (Nat.le_of_ble_eq_true rfl) (Nat.le_refl _) (Nat.le_refl _) okP_eq okP_eq rfl (rvI rfl (fun x4 I4 R4 hq4 => ?_))
  obtain ⟨hRR4, h⟩ := h x4 I4 R4 hq4; subst hRR4
  exact wp_ireturn dX11_shoutOf_34 rfl rfl h

theorem sX11_trade {Q : QT} {I : II} {R : RR} {a1 : Int} {a2 : Int} {a3 : Int} {a4 : Int} (h : wp (kN 89) mX11_trade Q 0 [vR 68, vI a1, vI a2, vI a3, vI a4] [] I R 89) : Spec mX11_trade [vR 68, vI a1, vI a2, vI a3, vI a4] I R 89 89 Q := Spec_of_wp pyX11_trade rfl (Nat.le_of_ble_eq_true rfl) (Nat.le_refl _) (by decide) h

set_option maxRecDepth 4000 in
theorem gX11_trade_0 {Q : QT} {I : II} {R : RR} (hR : SR R) {a1 : Int} {a2 : Int} {a3 : Int} {a4 : Int}
    (h : (0 ≤ a1 ∧ a1 < 20) ∧
      (∀ I2 : II, I2 = up2 I 85 (a1.toNat) a3 →
      (0 ≤ a2 ∧ a2 < 20) ∧
      (∀ I4 : II, I4 = up2 I2 85 (a2.toNat) a3 →
      (0 ≤ a1 ∧ a1 < 40) ∧
      (0 ≤ a2 ∧ a2 < 40) ∧
      (∀ I7 : II, I7 = up2 I4 68 25 ((I4 68 25) + ((I4 72 a1.toNat) - (I4 72 a2.toNat))) →
      (InI (I7 68 24)) ∧
      (((I7 68 24) = 0 →
      (∀ I9 : II, I9 = up2 I7 68 27 a3 →
      (InI (I9 68 24)) ∧
      (((I9 68 24) = 0 →
      (∀ I11 : II, I11 = up2 I9 68 28 a3 →
      (∀ I12 : II, I12 = up2 I11 68 24 ((I11 68 24) + 1) →
      (∀ I13 : II, I13 = up2 I12 68 26 (a4 + 1) →
      (∀ I14 : II, I14 = up2 I13 68 22 a3 →
      Q none I14 R))))) ∧ (¬ (I9 68 24) = 0 →
      (InI a3) ∧
      (InI (I9 68 28)) ∧
      ((a3 ≤ (I9 68 28) →
      (∀ I17 : II, I17 = up2 I9 68 28 (I9 68 28) →
      (∀ I18 : II, I18 = up2 I17 68 24 ((I17 68 24) + 1) →
      (∀ I19 : II, I19 = up2 I18 68 26 (a4 + 1) →
      (∀ I20 : II, I20 = up2 I19 68 22 a3 →
      Q none I20 R))))) ∧ (¬ (a3 ≤ (I9 68 28)) →
      (∀ I21 : II, I21 = up2 I9 68 28 a3 →
      (∀ I22 : II, I22 = up2 I21 68 24 ((I21 68 24) + 1) →
      (∀ I23 : II, I23 = up2 I22 68 26 (a4 + 1) →
      (∀ I24 : II, I24 = up2 I23 68 22 a3 →
      Q none I24 R)))))))))) ∧ (¬ (I7 68 24) = 0 →
      (InI a3) ∧
      (InI (I7 68 27)) ∧
      (((I7 68 27) ≤ a3 →
      (∀ I27 : II, I27 = up2 I7 68 27 (I7 68 27) →
      (InI (I27 68 24)) ∧
      (((I27 68 24) = 0 →
      (∀ I29 : II, I29 = up2 I27 68 28 a3 →
      (∀ I30 : II, I30 = up2 I29 68 24 ((I29 68 24) + 1) →
      (∀ I31 : II, I31 = up2 I30 68 26 (a4 + 1) →
      (∀ I32 : II, I32 = up2 I31 68 22 a3 →
      Q none I32 R))))) ∧ (¬ (I27 68 24) = 0 →
      (InI (I27 68 28)) ∧
      ((a3 ≤ (I27 68 28) →
      (∀ I34 : II, I34 = up2 I27 68 28 (I27 68 28) →
      (∀ I35 : II, I35 = up2 I34 68 24 ((I34 68 24) + 1) →
      (∀ I36 : II, I36 = up2 I35 68 26 (a4 + 1) →
      (∀ I37 : II, I37 = up2 I36 68 22 a3 →
      Q none I37 R))))) ∧ (¬ (a3 ≤ (I27 68 28)) →
      (∀ I38 : II, I38 = up2 I27 68 28 a3 →
      (∀ I39 : II, I39 = up2 I38 68 24 ((I38 68 24) + 1) →
      (∀ I40 : II, I40 = up2 I39 68 26 (a4 + 1) →
      (∀ I41 : II, I41 = up2 I40 68 22 a3 →
      Q none I41 R)))))))))) ∧ (¬ (I7 68 27) ≤ a3 →
      (∀ I42 : II, I42 = up2 I7 68 27 a3 →
      (InI (I42 68 24)) ∧
      (((I42 68 24) = 0 →
      (∀ I44 : II, I44 = up2 I42 68 28 a3 →
      (∀ I45 : II, I45 = up2 I44 68 24 ((I44 68 24) + 1) →
      (∀ I46 : II, I46 = up2 I45 68 26 (a4 + 1) →
      (∀ I47 : II, I47 = up2 I46 68 22 a3 →
      Q none I47 R))))) ∧ (¬ (I42 68 24) = 0 →
      (InI (I42 68 28)) ∧
      ((a3 ≤ (I42 68 28) →
      (∀ I49 : II, I49 = up2 I42 68 28 (I42 68 28) →
      (∀ I50 : II, I50 = up2 I49 68 24 ((I49 68 24) + 1) →
      (∀ I51 : II, I51 = up2 I50 68 26 (a4 + 1) →
      (∀ I52 : II, I52 = up2 I51 68 22 a3 →
      Q none I52 R))))) ∧ (¬ (a3 ≤ (I42 68 28)) →
      (∀ I53 : II, I53 = up2 I42 68 28 a3 →
      (∀ I54 : II, I54 = up2 I53 68 24 ((I53 68 24) + 1) →
      (∀ I55 : II, I55 = up2 I54 68 26 (a4 + 1) →
      (∀ I56 : II, I56 = up2 I55 68 22 a3 →
      Q none I56 R))))))))))))))))) : wp (kN 89) mX11_trade Q 0 [vR 68, vI a1, vI a2, vI a3, vI a4] [] I R 89 := by
  refine wp_aload_n (pc' := 1) (q := 0) (i := 0) rfl rfl dX11_trade_0 rfl ?_
  refine wp_getRc (pc' := 4) (k := 23) (j := 85) dX11_trade_1 vc10 (by decide) rfl lfX11_58 o_68 (r_68_23 hR) rfl ?_
  refine wp_iload_n (pc' := 5) (q := 1) (i := 1) rfl rfl dX11_trade_4 rfl ?_
  refine wp_iload_n (pc' := 6) (q := 3) (i := 3) rfl rfl dX11_trade_5 rfl ?_
  obtain ⟨h1, h⟩ := h
  obtain ⟨I2, eI2⟩ : ∃ z : II, z = up2 I 85 (a1.toNat) a3 := ⟨_, rfl⟩
  have h := h I2 eI2
  refine wp_iast (pc' := 7) (j := a1.toNat) (I' := I2) dX11_trade_6 a_85 h1 rfl rfl eI2 ?_
  refine wp_aload_n (pc' := 8) (q := 0) (i := 0) rfl rfl dX11_trade_7 rfl ?_
  refine wp_getRc (pc' := 11) (k := 23) (j := 85) dX11_trade_8 vc10 (by decide) rfl lfX11_58 o_68 (r_68_23 hR) rfl ?_
  refine wp_iload_n (pc' := 12) (q := 2) (i := 2) rfl rfl dX11_trade_11 rfl ?_
  refine wp_iload_n (pc' := 13) (q := 3) (i := 3) rfl rfl dX11_trade_12 rfl ?_
  obtain ⟨h3, h⟩ := h
  obtain ⟨I4, eI4⟩ : ∃ z : II, z = up2 I2 85 (a2.toNat) a3 := ⟨_, rfl⟩
  have h := h I4 eI4
  refine wp_iast (pc' := 14) (j := a2.toNat) (I' := I4) dX11_trade_13 a_85 h3 rfl rfl eI4 ?_
  refine wp_aload_n (pc' := 15) (q := 0) (i := 0) rfl rfl dX11_trade_14 rfl ?_
  refine wp_dupR (pc' := 16) dX11_trade_15 rfl ?_
  refine wp_getI (pc' := 19) (k := 25) dX11_trade_16 vc10 (by decide) rfl lfX11_206 o_68 rfl ?_
  refine wp_aload_n (pc' := 20) (q := 0) (i := 0) rfl rfl dX11_trade_19 rfl ?_
  refine wp_getRc (pc' := 23) (k := 4) (j := 72) dX11_trade_20 vc10 (by decide) rfl lfX11_19 o_68 (r_68_4 hR) rfl ?_
  refine wp_iload_n (pc' := 24) (q := 1) (i := 1) rfl rfl dX11_trade_23 rfl ?_
  obtain ⟨h5, h⟩ := h
  refine wp_iald (pc' := 25) (j := a1.toNat) dX11_trade_24 a_72 h5 rfl rfl ?_
  refine wp_aload_n (pc' := 26) (q := 0) (i := 0) rfl rfl dX11_trade_25 rfl ?_
  refine wp_getRc (pc' := 29) (k := 4) (j := 72) dX11_trade_26 vc10 (by decide) rfl lfX11_19 o_68 (r_68_4 hR) rfl ?_
  refine wp_iload_n (pc' := 30) (q := 2) (i := 2) rfl rfl dX11_trade_29 rfl ?_
  obtain ⟨h6, h⟩ := h
  refine wp_iald (pc' := 31) (j := a2.toNat) dX11_trade_30 a_72 h6 rfl rfl ?_
  refine wp_isub (pc' := 32) dX11_trade_31 rfl ?_
  refine wp_iadd (pc' := 33) dX11_trade_32 rfl ?_
  obtain ⟨I7, eI7⟩ : ∃ z : II, z = up2 I4 68 25 ((I4 68 25) + ((I4 72 a1.toNat) - (I4 72 a2.toNat))) := ⟨_, rfl⟩
  have h := h I7 eI7
  refine wp_putI (pc' := 36) (k := 25) (I' := I7) dX11_trade_33 vc10 (by decide) rfl rfl (tyX11_ok 25 (by decide)) lfX11_206 o_68 rfl eI7 ?_
  refine wp_aload_n (pc' := 37) (q := 0) (i := 0) rfl rfl dX11_trade_36 rfl ?_
  refine wp_aload_n (pc' := 38) (q := 0) (i := 0) rfl rfl dX11_trade_37 rfl ?_
  refine wp_getI (pc' := 41) (k := 24) dX11_trade_38 vc10 (by decide) rfl lfX11_209 o_68 rfl ?_
  obtain ⟨h8, h⟩ := h
  refine wp_if_eq (pc' := 44) (tgt := 52) h8 dX11_trade_41 rfl rfl (fun hc => ?_) (fun hc => ?_)
  · have h := h.1 hc
    refine wp_iload_n (pc' := 53) (q := 3) (i := 3) rfl rfl dX11_trade_52 rfl ?_
    refine wp_goto (tgt := 60) dX11_trade_53 rfl ?_
    obtain ⟨I9, eI9⟩ : ∃ z : II, z = up2 I7 68 27 a3 := ⟨_, rfl⟩
    have h := h I9 eI9
    refine wp_putI (pc' := 63) (k := 27) (I' := I9) dX11_trade_60 vc10 (by decide) rfl rfl (tyX11_ok 27 (by decide)) lfX11_212 o_68 rfl eI9 ?_
    refine wp_aload_n (pc' := 64) (q := 0) (i := 0) rfl rfl dX11_trade_63 rfl ?_
    refine wp_aload_n (pc' := 65) (q := 0) (i := 0) rfl rfl dX11_trade_64 rfl ?_
    refine wp_getI (pc' := 68) (k := 24) dX11_trade_65 vc10 (by decide) rfl lfX11_209 o_68 rfl ?_
    obtain ⟨h10, h⟩ := h
    refine wp_if_eq (pc' := 71) (tgt := 79) h10 dX11_trade_68 rfl rfl (fun hc => ?_) (fun hc => ?_)
    · have h := h.1 hc
      refine wp_iload_n (pc' := 80) (q := 3) (i := 3) rfl rfl dX11_trade_79 rfl ?_
      refine wp_goto (tgt := 87) dX11_trade_80 rfl ?_
      obtain ⟨I11, eI11⟩ : ∃ z : II, z = up2 I9 68 28 a3 := ⟨_, rfl⟩
      have h := h I11 eI11
      refine wp_putI (pc' := 90) (k := 28) (I' := I11) dX11_trade_87 vc10 (by decide) rfl rfl (tyX11_ok 28 (by decide)) lfX11_215 o_68 rfl eI11 ?_
      refine wp_aload_n (pc' := 91) (q := 0) (i := 0) rfl rfl dX11_trade_90 rfl ?_
      refine wp_dupR (pc' := 92) dX11_trade_91 rfl ?_
      refine wp_getI (pc' := 95) (k := 24) dX11_trade_92 vc10 (by decide) rfl lfX11_209 o_68 rfl ?_
      refine wp_iconst (pc' := 96) dX11_trade_95 rfl ?_
      refine wp_iadd (pc' := 97) dX11_trade_96 rfl ?_
      obtain ⟨I12, eI12⟩ : ∃ z : II, z = up2 I11 68 24 ((I11 68 24) + 1) := ⟨_, rfl⟩
      have h := h I12 eI12
      refine wp_putI (pc' := 100) (k := 24) (I' := I12) dX11_trade_97 vc10 (by decide) rfl rfl (tyX11_ok 24 (by decide)) lfX11_209 o_68 rfl eI12 ?_
      refine wp_aload_n (pc' := 101) (q := 0) (i := 0) rfl rfl dX11_trade_100 rfl ?_
      refine wp_iload (pc' := 103) (i := 4) rfl dX11_trade_101 rfl ?_
      refine wp_iconst (pc' := 104) dX11_trade_103 rfl ?_
      refine wp_iadd (pc' := 105) dX11_trade_104 rfl ?_
      obtain ⟨I13, eI13⟩ : ∃ z : II, z = up2 I12 68 26 (a4 + 1) := ⟨_, rfl⟩
      have h := h I13 eI13
      refine wp_putI (pc' := 108) (k := 26) (I' := I13) dX11_trade_105 vc10 (by decide) rfl rfl (tyX11_ok 26 (by decide)) lfX11_218 o_68 rfl eI13 ?_
      refine wp_aload_n (pc' := 109) (q := 0) (i := 0) rfl rfl dX11_trade_108 rfl ?_
      refine wp_iload_n (pc' := 110) (q := 3) (i := 3) rfl rfl dX11_trade_109 rfl ?_
      obtain ⟨I14, eI14⟩ : ∃ z : II, z = up2 I13 68 22 a3 := ⟨_, rfl⟩
      have h := h I14 eI14
      refine wp_putI (pc' := 113) (k := 22) (I' := I14) dX11_trade_110 vc10 (by decide) rfl rfl (tyX11_ok 22 (by decide)) lfX11_196 o_68 rfl eI14 ?_
      exact wp_vreturn dX11_trade_113 rfl rfl h
    · have h := h.2 hc
      refine wp_iload_n (pc' := 72) (q := 3) (i := 3) rfl rfl dX11_trade_71 rfl ?_
      refine wp_aload_n (pc' := 73) (q := 0) (i := 0) rfl rfl dX11_trade_72 rfl ?_
      refine wp_getI (pc' := 76) (k := 28) dX11_trade_73 vc10 (by decide) rfl lfX11_215 o_68 rfl ?_
      obtain ⟨h15, h⟩ := h
      obtain ⟨h16, h⟩ := h
      refine wp_icmp_le (pc' := 79) (tgt := 83) h15 h16 dX11_trade_76 rfl rfl (fun hc => ?_) (fun hc => ?_)
      · have h := h.1 hc
        refine wp_aload_n (pc' := 84) (q := 0) (i := 0) rfl rfl dX11_trade_83 rfl ?_
        refine wp_getI (pc' := 87) (k := 28) dX11_trade_84 vc10 (by decide) rfl lfX11_215 o_68 rfl ?_
        obtain ⟨I17, eI17⟩ : ∃ z : II, z = up2 I9 68 28 (I9 68 28) := ⟨_, rfl⟩
        have h := h I17 eI17
        refine wp_putI (pc' := 90) (k := 28) (I' := I17) dX11_trade_87 vc10 (by decide) rfl rfl (tyX11_ok 28 (by decide)) lfX11_215 o_68 rfl eI17 ?_
        refine wp_aload_n (pc' := 91) (q := 0) (i := 0) rfl rfl dX11_trade_90 rfl ?_
        refine wp_dupR (pc' := 92) dX11_trade_91 rfl ?_
        refine wp_getI (pc' := 95) (k := 24) dX11_trade_92 vc10 (by decide) rfl lfX11_209 o_68 rfl ?_
        refine wp_iconst (pc' := 96) dX11_trade_95 rfl ?_
        refine wp_iadd (pc' := 97) dX11_trade_96 rfl ?_
        obtain ⟨I18, eI18⟩ : ∃ z : II, z = up2 I17 68 24 ((I17 68 24) + 1) := ⟨_, rfl⟩
        have h := h I18 eI18
        refine wp_putI (pc' := 100) (k := 24) (I' := I18) dX11_trade_97 vc10 (by decide) rfl rfl (tyX11_ok 24 (by decide)) lfX11_209 o_68 rfl eI18 ?_
        refine wp_aload_n (pc' := 101) (q := 0) (i := 0) rfl rfl dX11_trade_100 rfl ?_
        refine wp_iload (pc' := 103) (i := 4) rfl dX11_trade_101 rfl ?_
        refine wp_iconst (pc' := 104) dX11_trade_103 rfl ?_
        refine wp_iadd (pc' := 105) dX11_trade_104 rfl ?_
        obtain ⟨I19, eI19⟩ : ∃ z : II, z = up2 I18 68 26 (a4 + 1) := ⟨_, rfl⟩
        have h := h I19 eI19
        refine wp_putI (pc' := 108) (k := 26) (I' := I19) dX11_trade_105 vc10 (by decide) rfl rfl (tyX11_ok 26 (by decide)) lfX11_218 o_68 rfl eI19 ?_
        refine wp_aload_n (pc' := 109) (q := 0) (i := 0) rfl rfl dX11_trade_108 rfl ?_
        refine wp_iload_n (pc' := 110) (q := 3) (i := 3) rfl rfl dX11_trade_109 rfl ?_
        obtain ⟨I20, eI20⟩ : ∃ z : II, z = up2 I19 68 22 a3 := ⟨_, rfl⟩
        have h := h I20 eI20
        refine wp_putI (pc' := 113) (k := 22) (I' := I20) dX11_trade_110 vc10 (by decide) rfl rfl (tyX11_ok 22 (by decide)) lfX11_196 o_68 rfl eI20 ?_
        exact wp_vreturn dX11_trade_113 rfl rfl h
      · have h := h.2 hc
        refine wp_iload_n (pc' := 80) (q := 3) (i := 3) rfl rfl dX11_trade_79 rfl ?_
        refine wp_goto (tgt := 87) dX11_trade_80 rfl ?_
        obtain ⟨I21, eI21⟩ : ∃ z : II, z = up2 I9 68 28 a3 := ⟨_, rfl⟩
        have h := h I21 eI21
        refine wp_putI (pc' := 90) (k := 28) (I' := I21) dX11_trade_87 vc10 (by decide) rfl rfl (tyX11_ok 28 (by decide)) lfX11_215 o_68 rfl eI21 ?_
        refine wp_aload_n (pc' := 91) (q := 0) (i := 0) rfl rfl dX11_trade_90 rfl ?_
        refine wp_dupR (pc' := 92) dX11_trade_91 rfl ?_
        refine wp_getI (pc' := 95) (k := 24) dX11_trade_92 vc10 (by decide) rfl lfX11_209 o_68 rfl ?_
        refine wp_iconst (pc' := 96) dX11_trade_95 rfl ?_
        refine wp_iadd (pc' := 97) dX11_trade_96 rfl ?_
        obtain ⟨I22, eI22⟩ : ∃ z : II, z = up2 I21 68 24 ((I21 68 24) + 1) := ⟨_, rfl⟩
        have h := h I22 eI22
        refine wp_putI (pc' := 100) (k := 24) (I' := I22) dX11_trade_97 vc10 (by decide) rfl rfl (tyX11_ok 24 (by decide)) lfX11_209 o_68 rfl eI22 ?_
        refine wp_aload_n (pc' := 101) (q := 0) (i := 0) rfl rfl dX11_trade_100 rfl ?_
        refine wp_iload (pc' := 103) (i := 4) rfl dX11_trade_101 rfl ?_
        refine wp_iconst (pc' := 104) dX11_trade_103 rfl ?_
        refine wp_iadd (pc' := 105) dX11_trade_104 rfl ?_
        obtain ⟨I23, eI23⟩ : ∃ z : II, z = up2 I22 68 26 (a4 + 1) := ⟨_, rfl⟩
        have h := h I23 eI23
        refine wp_putI (pc' := 108) (k := 26) (I' := I23) dX11_trade_105 vc10 (by decide) rfl rfl (tyX11_ok 26 (by decide)) lfX11_218 o_68 rfl eI23 ?_
        refine wp_aload_n (pc' := 109) (q := 0) (i := 0) rfl rfl dX11_trade_108 rfl ?_
        refine wp_iload_n (pc' := 110) (q := 3) (i := 3) rfl rfl dX11_trade_109 rfl ?_
        obtain ⟨I24, eI24⟩ : ∃ z : II, z = up2 I23 68 22 a3 := ⟨_, rfl⟩
        have h := h I24 eI24
        refine wp_putI (pc' := 113) (k := 22) (I' := I24) dX11_trade_110 vc10 (by decide) rfl rfl (tyX11_ok 22 (by decide)) lfX11_196 o_68 rfl eI24 ?_
        exact wp_vreturn dX11_trade_113 rfl rfl h
  · have h := h.2 hc
    refine wp_iload_n (pc' := 45) (q := 3) (i := 3) rfl rfl dX11_trade_44 rfl ?_
    refine wp_aload_n (pc' := 46) (q := 0) (i := 0) rfl rfl dX11_trade_45 rfl ?_
    refine wp_getI (pc' := 49) (k := 27) dX11_trade_46 vc10 (by decide) rfl lfX11_212 o_68 rfl ?_
    obtain ⟨h25, h⟩ := h
    obtain ⟨h26, h⟩ := h
    refine wp_icmp_ge (pc' := 52) (tgt := 56) h25 h26 dX11_trade_49 rfl rfl (fun hc => ?_) (fun hc => ?_)
    · have h := h.1 hc
      refine wp_aload_n (pc' := 57) (q := 0) (i := 0) rfl rfl dX11_trade_56 rfl ?_
      refine wp_getI (pc' := 60) (k := 27) dX11_trade_57 vc10 (by decide) rfl lfX11_212 o_68 rfl ?_
      obtain ⟨I27, eI27⟩ : ∃ z : II, z = up2 I7 68 27 (I7 68 27) := ⟨_, rfl⟩
      have h := h I27 eI27
      refine wp_putI (pc' := 63) (k := 27) (I' := I27) dX11_trade_60 vc10 (by decide) rfl rfl (tyX11_ok 27 (by decide)) lfX11_212 o_68 rfl eI27 ?_
      refine wp_aload_n (pc' := 64) (q := 0) (i := 0) rfl rfl dX11_trade_63 rfl ?_
      refine wp_aload_n (pc' := 65) (q := 0) (i := 0) rfl rfl dX11_trade_64 rfl ?_
      refine wp_getI (pc' := 68) (k := 24) dX11_trade_65 vc10 (by decide) rfl lfX11_209 o_68 rfl ?_
      obtain ⟨h28, h⟩ := h
      refine wp_if_eq (pc' := 71) (tgt := 79) h28 dX11_trade_68 rfl rfl (fun hc => ?_) (fun hc => ?_)
      · have h := h.1 hc
        refine wp_iload_n (pc' := 80) (q := 3) (i := 3) rfl rfl dX11_trade_79 rfl ?_
        refine wp_goto (tgt := 87) dX11_trade_80 rfl ?_
        obtain ⟨I29, eI29⟩ : ∃ z : II, z = up2 I27 68 28 a3 := ⟨_, rfl⟩
        have h := h I29 eI29
        refine wp_putI (pc' := 90) (k := 28) (I' := I29) dX11_trade_87 vc10 (by decide) rfl rfl (tyX11_ok 28 (by decide)) lfX11_215 o_68 rfl eI29 ?_
        refine wp_aload_n (pc' := 91) (q := 0) (i := 0) rfl rfl dX11_trade_90 rfl ?_
        refine wp_dupR (pc' := 92) dX11_trade_91 rfl ?_
        refine wp_getI (pc' := 95) (k := 24) dX11_trade_92 vc10 (by decide) rfl lfX11_209 o_68 rfl ?_
        refine wp_iconst (pc' := 96) dX11_trade_95 rfl ?_
        refine wp_iadd (pc' := 97) dX11_trade_96 rfl ?_
        obtain ⟨I30, eI30⟩ : ∃ z : II, z = up2 I29 68 24 ((I29 68 24) + 1) := ⟨_, rfl⟩
        have h := h I30 eI30
        refine wp_putI (pc' := 100) (k := 24) (I' := I30) dX11_trade_97 vc10 (by decide) rfl rfl (tyX11_ok 24 (by decide)) lfX11_209 o_68 rfl eI30 ?_
        refine wp_aload_n (pc' := 101) (q := 0) (i := 0) rfl rfl dX11_trade_100 rfl ?_
        refine wp_iload (pc' := 103) (i := 4) rfl dX11_trade_101 rfl ?_
        refine wp_iconst (pc' := 104) dX11_trade_103 rfl ?_
        refine wp_iadd (pc' := 105) dX11_trade_104 rfl ?_
        obtain ⟨I31, eI31⟩ : ∃ z : II, z = up2 I30 68 26 (a4 + 1) := ⟨_, rfl⟩
        have h := h I31 eI31
        refine wp_putI (pc' := 108) (k := 26) (I' := I31) dX11_trade_105 vc10 (by decide) rfl rfl (tyX11_ok 26 (by decide)) lfX11_218 o_68 rfl eI31 ?_
        refine wp_aload_n (pc' := 109) (q := 0) (i := 0) rfl rfl dX11_trade_108 rfl ?_
        refine wp_iload_n (pc' := 110) (q := 3) (i := 3) rfl rfl dX11_trade_109 rfl ?_
        obtain ⟨I32, eI32⟩ : ∃ z : II, z = up2 I31 68 22 a3 := ⟨_, rfl⟩
        have h := h I32 eI32
        refine wp_putI (pc' := 113) (k := 22) (I' := I32) dX11_trade_110 vc10 (by decide) rfl rfl (tyX11_ok 22 (by decide)) lfX11_196 o_68 rfl eI32 ?_
        exact wp_vreturn dX11_trade_113 rfl rfl h
      · have h := h.2 hc
        refine wp_iload_n (pc' := 72) (q := 3) (i := 3) rfl rfl dX11_trade_71 rfl ?_
        refine wp_aload_n (pc' := 73) (q := 0) (i := 0) rfl rfl dX11_trade_72 rfl ?_
        refine wp_getI (pc' := 76) (k := 28) dX11_trade_73 vc10 (by decide) rfl lfX11_215 o_68 rfl ?_
        obtain ⟨h33, h⟩ := h
        refine wp_icmp_le (pc' := 79) (tgt := 83) h25 h33 dX11_trade_76 rfl rfl (fun hc => ?_) (fun hc => ?_)
        · have h := h.1 hc
          refine wp_aload_n (pc' := 84) (q := 0) (i := 0) rfl rfl dX11_trade_83 rfl ?_
          refine wp_getI (pc' := 87) (k := 28) dX11_trade_84 vc10 (by decide) rfl lfX11_215 o_68 rfl ?_
          obtain ⟨I34, eI34⟩ : ∃ z : II, z = up2 I27 68 28 (I27 68 28) := ⟨_, rfl⟩
          have h := h I34 eI34
          refine wp_putI (pc' := 90) (k := 28) (I' := I34) dX11_trade_87 vc10 (by decide) rfl rfl (tyX11_ok 28 (by decide)) lfX11_215 o_68 rfl eI34 ?_
          refine wp_aload_n (pc' := 91) (q := 0) (i := 0) rfl rfl dX11_trade_90 rfl ?_
          refine wp_dupR (pc' := 92) dX11_trade_91 rfl ?_
          refine wp_getI (pc' := 95) (k := 24) dX11_trade_92 vc10 (by decide) rfl lfX11_209 o_68 rfl ?_
          refine wp_iconst (pc' := 96) dX11_trade_95 rfl ?_
          refine wp_iadd (pc' := 97) dX11_trade_96 rfl ?_
          obtain ⟨I35, eI35⟩ : ∃ z : II, z = up2 I34 68 24 ((I34 68 24) + 1) := ⟨_, rfl⟩
          have h := h I35 eI35
          refine wp_putI (pc' := 100) (k := 24) (I' := I35) dX11_trade_97 vc10 (by decide) rfl rfl (tyX11_ok 24 (by decide)) lfX11_209 o_68 rfl eI35 ?_
          refine wp_aload_n (pc' := 101) (q := 0) (i := 0) rfl rfl dX11_trade_100 rfl ?_
          refine wp_iload (pc' := 103) (i := 4) rfl dX11_trade_101 rfl ?_
          refine wp_iconst (pc' := 104) dX11_trade_103 rfl ?_
          refine wp_iadd (pc' := 105) dX11_trade_104 rfl ?_
          obtain ⟨I36, eI36⟩ : ∃ z : II, z = up2 I35 68 26 (a4 + 1) := ⟨_, rfl⟩
          have h := h I36 eI36
          refine wp_putI (pc' := 108) (k := 26) (I' := I36) dX11_trade_105 vc10 (by decide) rfl rfl (tyX11_ok 26 (by decide)) lfX11_218 o_68 rfl eI36 ?_
          refine wp_aload_n (pc' := 109) (q := 0) (i := 0) rfl rfl dX11_trade_108 rfl ?_
          refine wp_iload_n (pc' := 110) (q := 3) (i := 3) rfl rfl dX11_trade_109 rfl ?_
          obtain ⟨I37, eI37⟩ : ∃ z : II, z = up2 I36 68 22 a3 := ⟨_, rfl⟩
          have h := h I37 eI37
          refine wp_putI (pc' := 113) (k := 22) (I' := I37) dX11_trade_110 vc10 (by decide) rfl rfl (tyX11_ok 22 (by decide)) lfX11_196 o_68 rfl eI37 ?_
          exact wp_vreturn dX11_trade_113 rfl rfl h
        · have h := h.2 hc
          refine wp_iload_n (pc' := 80) (q := 3) (i := 3) rfl rfl dX11_trade_79 rfl ?_
          refine wp_goto (tgt := 87) dX11_trade_80 rfl ?_
          obtain ⟨I38, eI38⟩ : ∃ z : II, z = up2 I27 68 28 a3 := ⟨_, rfl⟩
          have h := h I38 eI38
          refine wp_putI (pc' := 90) (k := 28) (I' := I38) dX11_trade_87 vc10 (by decide) rfl rfl (tyX11_ok 28 (by decide)) lfX11_215 o_68 rfl eI38 ?_
          refine wp_aload_n (pc' := 91) (q := 0) (i := 0) rfl rfl dX11_trade_90 rfl ?_
          refine wp_dupR (pc' := 92) dX11_trade_91 rfl ?_
          refine wp_getI (pc' := 95) (k := 24) dX11_trade_92 vc10 (by decide) rfl lfX11_209 o_68 rfl ?_
          refine wp_iconst (pc' := 96) dX11_trade_95 rfl ?_
          refine wp_iadd (pc' := 97) dX11_trade_96 rfl ?_
          obtain ⟨I39, eI39⟩ : ∃ z : II, z = up2 I38 68 24 ((I38 68 24) + 1) := ⟨_, rfl⟩
          have h := h I39 eI39
          refine wp_putI (pc' := 100) (k := 24) (I' := I39) dX11_trade_97 vc10 (by decide) rfl rfl (tyX11_ok 24 (by decide)) lfX11_209 o_68 rfl eI39 ?_
          refine wp_aload_n (pc' := 101) (q := 0) (i := 0) rfl rfl dX11_trade_100 rfl ?_
          refine wp_iload (pc' := 103) (i := 4) rfl dX11_trade_101 rfl ?_
          refine wp_iconst (pc' := 104) dX11_trade_103 rfl ?_
          refine wp_iadd (pc' := 105) dX11_trade_104 rfl ?_
          obtain ⟨I40, eI40⟩ : ∃ z : II, z = up2 I39 68 26 (a4 + 1) := ⟨_, rfl⟩
          have h := h I40 eI40
          refine wp_putI (pc' := 108) (k := 26) (I' := I40) dX11_trade_105 vc10 (by decide) rfl rfl (tyX11_ok 26 (by decide)) lfX11_218 o_68 rfl eI40 ?_
          refine wp_aload_n (pc' := 109) (q := 0) (i := 0) rfl rfl dX11_trade_108 rfl ?_
          refine wp_iload_n (pc' := 110) (q := 3) (i := 3) rfl rfl dX11_trade_109 rfl ?_
          obtain ⟨I41, eI41⟩ : ∃ z : II, z = up2 I40 68 22 a3 := ⟨_, rfl⟩
          have h := h I41 eI41
          refine wp_putI (pc' := 113) (k := 22) (I' := I41) dX11_trade_110 vc10 (by decide) rfl rfl (tyX11_ok 22 (by decide)) lfX11_196 o_68 rfl eI41 ?_
          exact wp_vreturn dX11_trade_113 rfl rfl h
    · have h := h.2 hc
      refine wp_iload_n (pc' := 53) (q := 3) (i := 3) rfl rfl dX11_trade_52 rfl ?_
      refine wp_goto (tgt := 60) dX11_trade_53 rfl ?_
      obtain ⟨I42, eI42⟩ : ∃ z : II, z = up2 I7 68 27 a3 := ⟨_, rfl⟩
      have h := h I42 eI42
      refine wp_putI (pc' := 63) (k := 27) (I' := I42) dX11_trade_60 vc10 (by decide) rfl rfl (tyX11_ok 27 (by decide)) lfX11_212 o_68 rfl eI42 ?_
      refine wp_aload_n (pc' := 64) (q := 0) (i := 0) rfl rfl dX11_trade_63 rfl ?_
      refine wp_aload_n (pc' := 65) (q := 0) (i := 0) rfl rfl dX11_trade_64 rfl ?_
      refine wp_getI (pc' := 68) (k := 24) dX11_trade_65 vc10 (by decide) rfl lfX11_209 o_68 rfl ?_
      obtain ⟨h43, h⟩ := h
      refine wp_if_eq (pc' := 71) (tgt := 79) h43 dX11_trade_68 rfl rfl (fun hc => ?_) (fun hc => ?_)
      · have h := h.1 hc
        refine wp_iload_n (pc' := 80) (q := 3) (i := 3) rfl rfl dX11_trade_79 rfl ?_
        refine wp_goto (tgt := 87) dX11_trade_80 rfl ?_
        obtain ⟨I44, eI44⟩ : ∃ z : II, z = up2 I42 68 28 a3 := ⟨_, rfl⟩
        have h := h I44 eI44
        refine wp_putI (pc' := 90) (k := 28) (I' := I44) dX11_trade_87 vc10 (by decide) rfl rfl (tyX11_ok 28 (by decide)) lfX11_215 o_68 rfl eI44 ?_
        refine wp_aload_n (pc' := 91) (q := 0) (i := 0) rfl rfl dX11_trade_90 rfl ?_
        refine wp_dupR (pc' := 92) dX11_trade_91 rfl ?_
        refine wp_getI (pc' := 95) (k := 24) dX11_trade_92 vc10 (by decide) rfl lfX11_209 o_68 rfl ?_
        refine wp_iconst (pc' := 96) dX11_trade_95 rfl ?_
        refine wp_iadd (pc' := 97) dX11_trade_96 rfl ?_
        obtain ⟨I45, eI45⟩ : ∃ z : II, z = up2 I44 68 24 ((I44 68 24) + 1) := ⟨_, rfl⟩
        have h := h I45 eI45
        refine wp_putI (pc' := 100) (k := 24) (I' := I45) dX11_trade_97 vc10 (by decide) rfl rfl (tyX11_ok 24 (by decide)) lfX11_209 o_68 rfl eI45 ?_
        refine wp_aload_n (pc' := 101) (q := 0) (i := 0) rfl rfl dX11_trade_100 rfl ?_
        refine wp_iload (pc' := 103) (i := 4) rfl dX11_trade_101 rfl ?_
        refine wp_iconst (pc' := 104) dX11_trade_103 rfl ?_
        refine wp_iadd (pc' := 105) dX11_trade_104 rfl ?_
        obtain ⟨I46, eI46⟩ : ∃ z : II, z = up2 I45 68 26 (a4 + 1) := ⟨_, rfl⟩
        have h := h I46 eI46
        refine wp_putI (pc' := 108) (k := 26) (I' := I46) dX11_trade_105 vc10 (by decide) rfl rfl (tyX11_ok 26 (by decide)) lfX11_218 o_68 rfl eI46 ?_
        refine wp_aload_n (pc' := 109) (q := 0) (i := 0) rfl rfl dX11_trade_108 rfl ?_
        refine wp_iload_n (pc' := 110) (q := 3) (i := 3) rfl rfl dX11_trade_109 rfl ?_
        obtain ⟨I47, eI47⟩ : ∃ z : II, z = up2 I46 68 22 a3 := ⟨_, rfl⟩
        have h := h I47 eI47
        refine wp_putI (pc' := 113) (k := 22) (I' := I47) dX11_trade_110 vc10 (by decide) rfl rfl (tyX11_ok 22 (by decide)) lfX11_196 o_68 rfl eI47 ?_
        exact wp_vreturn dX11_trade_113 rfl rfl h
      · have h := h.2 hc
        refine wp_iload_n (pc' := 72) (q := 3) (i := 3) rfl rfl dX11_trade_71 rfl ?_
        refine wp_aload_n (pc' := 73) (q := 0) (i := 0) rfl rfl dX11_trade_72 rfl ?_
        refine wp_getI (pc' := 76) (k := 28) dX11_trade_73 vc10 (by decide) rfl lfX11_215 o_68 rfl ?_
        obtain ⟨h48, h⟩ := h
        refine wp_icmp_le (pc' := 79) (tgt := 83) h25 h48 dX11_trade_76 rfl rfl (fun hc => ?_) (fun hc => ?_)
        · have h := h.1 hc
          refine wp_aload_n (pc' := 84) (q := 0) (i := 0) rfl rfl dX11_trade_83 rfl ?_
          refine wp_getI (pc' := 87) (k := 28) dX11_trade_84 vc10 (by decide) rfl lfX11_215 o_68 rfl ?_
          obtain ⟨I49, eI49⟩ : ∃ z : II, z = up2 I42 68 28 (I42 68 28) := ⟨_, rfl⟩
          have h := h I49 eI49
          refine wp_putI (pc' := 90) (k := 28) (I' := I49) dX11_trade_87 vc10 (by decide) rfl rfl (tyX11_ok 28 (by decide)) lfX11_215 o_68 rfl eI49 ?_
          refine wp_aload_n (pc' := 91) (q := 0) (i := 0) rfl rfl dX11_trade_90 rfl ?_
          refine wp_dupR (pc' := 92) dX11_trade_91 rfl ?_
          refine wp_getI (pc' := 95) (k := 24) dX11_trade_92 vc10 (by decide) rfl lfX11_209 o_68 rfl ?_
          refine wp_iconst (pc' := 96) dX11_trade_95 rfl ?_
          refine wp_iadd (pc' := 97) dX11_trade_96 rfl ?_
          obtain ⟨I50, eI50⟩ : ∃ z : II, z = up2 I49 68 24 ((I49 68 24) + 1) := ⟨_, rfl⟩
          have h := h I50 eI50
          refine wp_putI (pc' := 100) (k := 24) (I' := I50) dX11_trade_97 vc10 (by decide) rfl rfl (tyX11_ok 24 (by decide)) lfX11_209 o_68 rfl eI50 ?_
          refine wp_aload_n (pc' := 101) (q := 0) (i := 0) rfl rfl dX11_trade_100 rfl ?_
          refine wp_iload (pc' := 103) (i := 4) rfl dX11_trade_101 rfl ?_
          refine wp_iconst (pc' := 104) dX11_trade_103 rfl ?_
          refine wp_iadd (pc' := 105) dX11_trade_104 rfl ?_
          obtain ⟨I51, eI51⟩ : ∃ z : II, z = up2 I50 68 26 (a4 + 1) := ⟨_, rfl⟩
          have h := h I51 eI51
          refine wp_putI (pc' := 108) (k := 26) (I' := I51) dX11_trade_105 vc10 (by decide) rfl rfl (tyX11_ok 26 (by decide)) lfX11_218 o_68 rfl eI51 ?_
          refine wp_aload_n (pc' := 109) (q := 0) (i := 0) rfl rfl dX11_trade_108 rfl ?_
          refine wp_iload_n (pc' := 110) (q := 3) (i := 3) rfl rfl dX11_trade_109 rfl ?_
          obtain ⟨I52, eI52⟩ : ∃ z : II, z = up2 I51 68 22 a3 := ⟨_, rfl⟩
          have h := h I52 eI52
          refine wp_putI (pc' := 113) (k := 22) (I' := I52) dX11_trade_110 vc10 (by decide) rfl rfl (tyX11_ok 22 (by decide)) lfX11_196 o_68 rfl eI52 ?_
          exact wp_vreturn dX11_trade_113 rfl rfl h
        · have h := h.2 hc
          refine wp_iload_n (pc' := 80) (q := 3) (i := 3) rfl rfl dX11_trade_79 rfl ?_
          refine wp_goto (tgt := 87) dX11_trade_80 rfl ?_
          obtain ⟨I53, eI53⟩ : ∃ z : II, z = up2 I42 68 28 a3 := ⟨_, rfl⟩
          have h := h I53 eI53
          refine wp_putI (pc' := 90) (k := 28) (I' := I53) dX11_trade_87 vc10 (by decide) rfl rfl (tyX11_ok 28 (by decide)) lfX11_215 o_68 rfl eI53 ?_
          refine wp_aload_n (pc' := 91) (q := 0) (i := 0) rfl rfl dX11_trade_90 rfl ?_
          refine wp_dupR (pc' := 92) dX11_trade_91 rfl ?_
          refine wp_getI (pc' := 95) (k := 24) dX11_trade_92 vc10 (by decide) rfl lfX11_209 o_68 rfl ?_
          refine wp_iconst (pc' := 96) dX11_trade_95 rfl ?_
          refine wp_iadd (pc' := 97) dX11_trade_96 rfl ?_
          obtain ⟨I54, eI54⟩ : ∃ z : II, z = up2 I53 68 24 ((I53 68 24) + 1) := ⟨_, rfl⟩
          have h := h I54 eI54
          refine wp_putI (pc' := 100) (k := 24) (I' := I54) dX11_trade_97 vc10 (by decide) rfl rfl (tyX11_ok 24 (by decide)) lfX11_209 o_68 rfl eI54 ?_
          refine wp_aload_n (pc' := 101) (q := 0) (i := 0) rfl rfl dX11_trade_100 rfl ?_
          refine wp_iload (pc' := 103) (i := 4) rfl dX11_trade_101 rfl ?_
          refine wp_iconst (pc' := 104) dX11_trade_103 rfl ?_
          refine wp_iadd (pc' := 105) dX11_trade_104 rfl ?_
          obtain ⟨I55, eI55⟩ : ∃ z : II, z = up2 I54 68 26 (a4 + 1) := ⟨_, rfl⟩
          have h := h I55 eI55
          refine wp_putI (pc' := 108) (k := 26) (I' := I55) dX11_trade_105 vc10 (by decide) rfl rfl (tyX11_ok 26 (by decide)) lfX11_218 o_68 rfl eI55 ?_
          refine wp_aload_n (pc' := 109) (q := 0) (i := 0) rfl rfl dX11_trade_108 rfl ?_
          refine wp_iload_n (pc' := 110) (q := 3) (i := 3) rfl rfl dX11_trade_109 rfl ?_
          obtain ⟨I56, eI56⟩ : ∃ z : II, z = up2 I55 68 22 a3 := ⟨_, rfl⟩
          have h := h I56 eI56
          refine wp_putI (pc' := 113) (k := 22) (I' := I56) dX11_trade_110 vc10 (by decide) rfl rfl (tyX11_ok 22 (by decide)) lfX11_196 o_68 rfl eI56 ?_
          exact wp_vreturn dX11_trade_113 rfl rfl h

theorem sX11_note {Q : QT} {I : II} {R : RR} {a1 : Int} {a2 : Int} {a3 : Int} (h : wp (kN 89) mX11_note Q 0 [vR 68, vI a1, vI a2, vI a3] [] I R 89) : Spec mX11_note [vR 68, vI a1, vI a2, vI a3] I R 89 89 Q := Spec_of_wp pyX11_note rfl (Nat.le_of_ble_eq_true rfl) (Nat.le_refl _) (by decide) h

set_option maxRecDepth 4000 in
theorem gX11_note_0 {Q : QT} {I : II} {R : RR} (hR : SR R) {a1 : Int} {a2 : Int} {a3 : Int}
    (h : (InI (I 68 29)) ∧
      (((I 68 29) = 0 →
      wp (kN 89) mX11_note Q 80 [none, none, none, none] [] I R 89) ∧ (¬ (I 68 29) = 0 →
      (InI (I 75 0)) ∧
      (((200 : Int) ≤ (I 75 0) →
      wp (kN 89) mX11_note Q 80 [none, none, none, none] [] I R 89) ∧ (¬ (200 : Int) ≤ (I 75 0) →
      (0 ≤ (I 75 0) ∧ (I 75 0) < 600) ∧
      (∀ I4 : II, I4 = up2 I 76 ((I 75 0).toNat) a1 →
      (0 ≤ (I4 75 0) ∧ (I4 75 0) < 600) ∧
      (∀ I6 : II, I6 = up2 I4 77 ((I4 75 0).toNat) a2 →
      (0 ≤ (I6 75 0) ∧ (I6 75 0) < 600) ∧
      (∀ I8 : II, I8 = up2 I6 78 ((I6 75 0).toNat) a3 →
      (0 ≤ (I8 75 0) ∧ (I8 75 0) < 600) ∧
      (∀ I10 : II, I10 = up2 I8 79 ((I8 75 0).toNat) (I8 68 22) →
      (∀ I11 : II, I11 = up2 I10 75 0 ((I10 75 0) + 1) →
      wp (kN 89) mX11_note Q 80 [none, none, none, none] [] I11 R 89)))))))))) : wp (kN 89) mX11_note Q 0 [vR 68, vI a1, vI a2, vI a3] [] I R 89 := by
  refine wp_aload_n (pc' := 1) (q := 0) (i := 0) rfl rfl dX11_note_0 rfl ?_
  refine wp_getI (pc' := 4) (k := 29) dX11_note_1 vc10 (by decide) rfl lfX11_221 o_68 rfl ?_
  obtain ⟨h1, h⟩ := h
  refine wp_if_eq (pc' := 7) (tgt := 80) h1 dX11_note_4 rfl rfl (fun hc => ?_) (fun hc => ?_)
  · have h := h.1 hc
    exact wp_dropP (leP_d (leP_d (leP_d (leP_d leP_n)))) h
  · have h := h.2 hc
    refine wp_aload_n (pc' := 8) (q := 0) (i := 0) rfl rfl dX11_note_7 rfl ?_
    refine wp_getRc (pc' := 11) (k := 7) (j := 75) dX11_note_8 vc10 (by decide) rfl lfX11_28 o_68 (r_68_7 hR) rfl ?_
    refine wp_iconst (pc' := 12) dX11_note_11 rfl ?_
    refine wp_iald (pc' := 13) (j := 0) dX11_note_12 a_75 ⟨by decide, by decide⟩ rfl rfl ?_
    refine wp_sipush (pc' := 16) (by decide) dX11_note_13 rfl ?_
    obtain ⟨h2, h⟩ := h
    refine wp_icmp_ge (pc' := 19) (tgt := 80) h2 ⟨by decide, by decide⟩ dX11_note_16 rfl rfl (fun hc => ?_) (fun hc => ?_)
    · have h := h.1 hc
      exact wp_dropP (leP_d (leP_d (leP_d (leP_d leP_n)))) h
    · have h := h.2 hc
      refine wp_aload_n (pc' := 20) (q := 0) (i := 0) rfl rfl dX11_note_19 rfl ?_
      refine wp_getRc (pc' := 23) (k := 8) (j := 76) dX11_note_20 vc10 (by decide) rfl lfX11_31 o_68 (r_68_8 hR) rfl ?_
      refine wp_aload_n (pc' := 24) (q := 0) (i := 0) rfl rfl dX11_note_23 rfl ?_
      refine wp_getRc (pc' := 27) (k := 7) (j := 75) dX11_note_24 vc10 (by decide) rfl lfX11_28 o_68 (r_68_7 hR) rfl ?_
      refine wp_iconst (pc' := 28) dX11_note_27 rfl ?_
      refine wp_iald (pc' := 29) (j := 0) dX11_note_28 a_75 ⟨by decide, by decide⟩ rfl rfl ?_
      refine wp_iload_n (pc' := 30) (q := 1) (i := 1) rfl rfl dX11_note_29 rfl ?_
      obtain ⟨h3, h⟩ := h
      obtain ⟨I4, eI4⟩ : ∃ z : II, z = up2 I 76 ((I 75 0).toNat) a1 := ⟨_, rfl⟩
      have h := h I4 eI4
      refine wp_iast (pc' := 31) (j := (I 75 0).toNat) (I' := I4) dX11_note_30 a_76 h3 rfl rfl eI4 ?_
      refine wp_aload_n (pc' := 32) (q := 0) (i := 0) rfl rfl dX11_note_31 rfl ?_
      refine wp_getRc (pc' := 35) (k := 9) (j := 77) dX11_note_32 vc10 (by decide) rfl lfX11_34 o_68 (r_68_9 hR) rfl ?_
      refine wp_aload_n (pc' := 36) (q := 0) (i := 0) rfl rfl dX11_note_35 rfl ?_
      refine wp_getRc (pc' := 39) (k := 7) (j := 75) dX11_note_36 vc10 (by decide) rfl lfX11_28 o_68 (r_68_7 hR) rfl ?_
      refine wp_iconst (pc' := 40) dX11_note_39 rfl ?_
      refine wp_iald (pc' := 41) (j := 0) dX11_note_40 a_75 ⟨by decide, by decide⟩ rfl rfl ?_
      refine wp_iload_n (pc' := 42) (q := 2) (i := 2) rfl rfl dX11_note_41 rfl ?_
      obtain ⟨h5, h⟩ := h
      obtain ⟨I6, eI6⟩ : ∃ z : II, z = up2 I4 77 ((I4 75 0).toNat) a2 := ⟨_, rfl⟩
      have h := h I6 eI6
      refine wp_iast (pc' := 43) (j := (I4 75 0).toNat) (I' := I6) dX11_note_42 a_77 h5 rfl rfl eI6 ?_
      refine wp_aload_n (pc' := 44) (q := 0) (i := 0) rfl rfl dX11_note_43 rfl ?_
      refine wp_getRc (pc' := 47) (k := 10) (j := 78) dX11_note_44 vc10 (by decide) rfl lfX11_37 o_68 (r_68_10 hR) rfl ?_
      refine wp_aload_n (pc' := 48) (q := 0) (i := 0) rfl rfl dX11_note_47 rfl ?_
      refine wp_getRc (pc' := 51) (k := 7) (j := 75) dX11_note_48 vc10 (by decide) rfl lfX11_28 o_68 (r_68_7 hR) rfl ?_
      refine wp_iconst (pc' := 52) dX11_note_51 rfl ?_
      refine wp_iald (pc' := 53) (j := 0) dX11_note_52 a_75 ⟨by decide, by decide⟩ rfl rfl ?_
      refine wp_iload_n (pc' := 54) (q := 3) (i := 3) rfl rfl dX11_note_53 rfl ?_
      obtain ⟨h7, h⟩ := h
      obtain ⟨I8, eI8⟩ : ∃ z : II, z = up2 I6 78 ((I6 75 0).toNat) a3 := ⟨_, rfl⟩
      have h := h I8 eI8
      refine wp_iast (pc' := 55) (j := (I6 75 0).toNat) (I' := I8) dX11_note_54 a_78 h7 rfl rfl eI8 ?_
      refine wp_aload_n (pc' := 56) (q := 0) (i := 0) rfl rfl dX11_note_55 rfl ?_
      refine wp_getRc (pc' := 59) (k := 11) (j := 79) dX11_note_56 vc10 (by decide) rfl lfX11_40 o_68 (r_68_11 hR) rfl ?_
      refine wp_aload_n (pc' := 60) (q := 0) (i := 0) rfl rfl dX11_note_59 rfl ?_
      refine wp_getRc (pc' := 63) (k := 7) (j := 75) dX11_note_60 vc10 (by decide) rfl lfX11_28 o_68 (r_68_7 hR) rfl ?_
      refine wp_iconst (pc' := 64) dX11_note_63 rfl ?_
      refine wp_iald (pc' := 65) (j := 0) dX11_note_64 a_75 ⟨by decide, by decide⟩ rfl rfl ?_
      refine wp_aload_n (pc' := 66) (q := 0) (i := 0) rfl rfl dX11_note_65 rfl ?_
      refine wp_getI (pc' := 69) (k := 22) dX11_note_66 vc10 (by decide) rfl lfX11_196 o_68 rfl ?_
      obtain ⟨h9, h⟩ := h
      obtain ⟨I10, eI10⟩ : ∃ z : II, z = up2 I8 79 ((I8 75 0).toNat) (I8 68 22) := ⟨_, rfl⟩
      have h := h I10 eI10
      refine wp_iast (pc' := 70) (j := (I8 75 0).toNat) (I' := I10) dX11_note_69 a_79 h9 rfl rfl eI10 ?_
      refine wp_aload_n (pc' := 71) (q := 0) (i := 0) rfl rfl dX11_note_70 rfl ?_
      refine wp_getRc (pc' := 74) (k := 7) (j := 75) dX11_note_71 vc10 (by decide) rfl lfX11_28 o_68 (r_68_7 hR) rfl ?_
      refine wp_iconst (pc' := 75) dX11_note_74 rfl ?_
      refine wp_dup2 (pc' := 76) dX11_note_75 rfl ?_
      refine wp_iald (pc' := 77) (j := 0) dX11_note_76 a_75 ⟨by decide, by decide⟩ rfl rfl ?_
      refine wp_iconst (pc' := 78) dX11_note_77 rfl ?_
      refine wp_iadd (pc' := 79) dX11_note_78 rfl ?_
      obtain ⟨I11, eI11⟩ : ∃ z : II, z = up2 I10 75 0 ((I10 75 0) + 1) := ⟨_, rfl⟩
      have h := h I11 eI11
      refine wp_iast (pc' := 80) (j := 0) (I' := I11) dX11_note_79 a_75 ⟨by decide, by decide⟩ rfl rfl eI11 ?_
      exact wp_dropP (leP_d (leP_d (leP_d (leP_d leP_n)))) h

set_option maxRecDepth 4000 in
theorem gX11_note_80 {Q : QT} {I : II} {R : RR} (hR : SR R) 
    (h : Q none I R) : wp (kN 89) mX11_note Q 80 [none, none, none, none] [] I R 89 := by
  exact wp_vreturn dX11_note_80 rfl rfl h

theorem sX11_goShouts {Q : QT} {I : II} {R : RR}  (h : wp (kN 89) mX11_goShouts Q 0 [vR 68, none, none, none, none, none, none, none, none] [] I R 89) : Spec mX11_goShouts [vR 68] I R 89 89 Q := Spec_of_wp pyX11_goShouts rfl (Nat.le_of_ble_eq_true rfl) (Nat.le_refl _) (by decide) h

set_option maxRecDepth 4000 in
theorem gX11_goShouts_0 {Q : QT} {I : II} {R : RR} (hR : SR R) 
    (h : wp (kN 89) mX11_goShouts Q 14 [vR 68, vI (-4), vI 0, vI (-4), vI 0, vI 0, none, none, none] [] I R 89) : wp (kN 89) mX11_goShouts Q 0 [vR 68, none, none, none, none, none, none, none, none] [] I R 89 := by
  refine wp_bipush (pc' := 2) (by decide) dX11_goShouts_0 rfl ?_
  refine wp_istore_n (pc' := 3) (q := 1) (i := 1) (L' := [vR 68, vI (-4), none, none, none, none, none, none, none]) rfl (by decide) rfl dX11_goShouts_2 rfl rfl ?_
  refine wp_iconst (pc' := 4) dX11_goShouts_3 rfl ?_
  refine wp_istore_n (pc' := 5) (q := 2) (i := 2) (L' := [vR 68, vI (-4), vI 0, none, none, none, none, none, none]) rfl (by decide) rfl dX11_goShouts_4 rfl rfl ?_
  refine wp_bipush (pc' := 7) (by decide) dX11_goShouts_5 rfl ?_
  refine wp_istore_n (pc' := 8) (q := 3) (i := 3) (L' := [vR 68, vI (-4), vI 0, vI (-4), none, none, none, none, none]) rfl (by decide) rfl dX11_goShouts_7 rfl rfl ?_
  refine wp_iconst (pc' := 9) dX11_goShouts_8 rfl ?_
  refine wp_istore (pc' := 11) (i := 4) (L' := [vR 68, vI (-4), vI 0, vI (-4), vI 0, none, none, none, none]) (by decide) rfl dX11_goShouts_9 rfl rfl ?_
  refine wp_iconst (pc' := 12) dX11_goShouts_11 rfl ?_
  refine wp_istore (pc' := 14) (i := 5) (L' := [vR 68, vI (-4), vI 0, vI (-4), vI 0, vI 0, none, none, none]) (by decide) rfl dX11_goShouts_12 rfl rfl ?_
  exact h

set_option maxRecDepth 4000 in
theorem gX11_goShouts_14 {Q : QT} {I : II} {R : RR} (hR : SR R) {a1 : Int} {a2 : Int} {a3 : Int} {a4 : Int} {a5 : Int}
    (h : (InI a5) ∧
      (InI (I 74 0)) ∧
      (((I 74 0) ≤ a5 →
      Q none I R) ∧ (¬ (I 74 0) ≤ a5 →
      (0 ≤ I 68 21 ∧ I 68 21 ≤ 9999 ∧ 0 ≤ a5 ∧ a5 ≤ 300 ∧ 0 ≤ (0 : Int) ∧ (0 : Int) ≤ 5) ∧
      (0 ≤ (drw (I 68 21) a5 0) ∧ (drw (I 68 21) a5 0) ≤ 2147483647 ∧ 0 < (I 70 0) ∧ (I 70 0) ≤ 2147483647) ∧
      (∃ Q6 : QT, Spec mX11_shoutOf [vR 68, vI ((drw (I 68 21) a5 0) % (I 70 0)), vI a5, vI a5, vI 1] I R 89 89 Q6 ∧ (∀ x6 I6 R6, Q6 (vI x6) I6 R6 →
      R = R6 ∧ (0 ≤ ((drw (I 68 21) a5 0) % (I 70 0)) ∧ ((drw (I 68 21) a5 0) % (I 70 0)) < 20) ∧
      (InI (I6 85 ((drw (I 68 21) a5 0) % (I 70 0)).toNat)) ∧
      ((¬ (I6 85 ((drw (I 68 21) a5 0) % (I 70 0)).toNat) = (-4 : Int) →
      wp (kN 89) mX11_goShouts Q 274 [vR 68, vI a1, vI a2, vI a3, vI a4, vI a5, none, none, none] [] I6 R 89) ∧ ((I6 85 ((drw (I 68 21) a5 0) % (I 70 0)).toNat) = (-4 : Int) →
      (InI x6) ∧
      ((x6 < 0 →
      wp (kN 89) mX11_goShouts Q 274 [vR 68, vI a1, vI a2, vI a3, vI a4, vI a5, none, none, none] [] I6 R 89) ∧ (¬ (x6 < 0) →
      (∃ Q10 : QT, Spec mX11_note [vR 68, vI ((drw (I 68 21) a5 0) % (I 70 0)), vI x6, vI a5] I6 R 89 89 Q10 ∧ (∀ I10 R10, Q10 none I10 R10 →
      R = R10 ∧ (0 ≤ ((drw (I 68 21) a5 0) % (I 70 0)) ∧ ((drw (I 68 21) a5 0) % (I 70 0)) < 40) ∧
      (InI (I10 71 ((drw (I 68 21) a5 0) % (I 70 0)).toNat)) ∧
      ((¬ (I10 71 ((drw (I 68 21) a5 0) % (I 70 0)).toNat) = 0 →
      (InI a1) ∧
      ((a1 < 0 →
      wp (kN 89) mX11_goShouts Q 138 [vR 68, vI a1, vI a2, vI a3, vI a4, vI a5, vI ((drw (I 68 21) a5 0) % (I 70 0)), vI x6, none] [] I10 R 89) ∧ (¬ (a1 < 0) →
      (InI (x6 + (I10 74 1))) ∧
      (InI a2) ∧
      ((a2 < (x6 + (I10 74 1)) →
      wp (kN 89) mX11_goShouts Q 138 [vR 68, vI a1, vI a2, vI a3, vI a4, vI a5, vI ((drw (I 68 21) a5 0) % (I 70 0)), vI x6, none] [] I10 R 89) ∧ (¬ (a2 < (x6 + (I10 74 1))) →
      ((¬ (I10 71 ((drw (I 68 21) a5 0) % (I 70 0)).toNat) = 0 →
      ((¬ (I10 71 ((drw (I 68 21) a5 0) % (I 70 0)).toNat) = 0 →
      ((¬ (I10 71 ((drw (I 68 21) a5 0) % (I 70 0)).toNat) = 0 →
      (∃ Q16 : QT, Spec mX11_trade [vR 68, vI a1, vI ((drw (I 68 21) a5 0) % (I 70 0)), vI a2, vI a5] I10 R 89 89 Q16 ∧ (∀ I16 R16, Q16 none I16 R16 →
      R = R16 ∧ wp (kN 89) mX11_goShouts Q 274 [vR 68, vI (-4), vI a2, vI (-4), vI a4, vI a5, none, none, none] [] I16 R 89))) ∧ ((I10 71 ((drw (I 68 21) a5 0) % (I 70 0)).toNat) = 0 →
      (∃ Q17 : QT, Spec mX11_trade [vR 68, vI a1, vI ((drw (I 68 21) a5 0) % (I 70 0)), vI (a4 + (I10 74 1)), vI a5] I10 R 89 89 Q17 ∧ (∀ I17 R17, Q17 none I17 R17 →
      R = R17 ∧ wp (kN 89) mX11_goShouts Q 274 [vR 68, vI (-4), vI a2, vI (-4), vI a4, vI a5, none, none, none] [] I17 R 89))))) ∧ ((I10 71 ((drw (I 68 21) a5 0) % (I 70 0)).toNat) = 0 →
      ((¬ (I10 71 ((drw (I 68 21) a5 0) % (I 70 0)).toNat) = 0 →
      (∃ Q18 : QT, Spec mX11_trade [vR 68, vI a1, vI a3, vI a2, vI a5] I10 R 89 89 Q18 ∧ (∀ I18 R18, Q18 none I18 R18 →
      R = R18 ∧ wp (kN 89) mX11_goShouts Q 274 [vR 68, vI (-4), vI a2, vI (-4), vI a4, vI a5, none, none, none] [] I18 R 89))) ∧ ((I10 71 ((drw (I 68 21) a5 0) % (I 70 0)).toNat) = 0 →
      (∃ Q19 : QT, Spec mX11_trade [vR 68, vI a1, vI a3, vI (a4 + (I10 74 1)), vI a5] I10 R 89 89 Q19 ∧ (∀ I19 R19, Q19 none I19 R19 →
      R = R19 ∧ wp (kN 89) mX11_goShouts Q 274 [vR 68, vI (-4), vI a2, vI (-4), vI a4, vI a5, none, none, none] [] I19 R 89))))))) ∧ ((I10 71 ((drw (I 68 21) a5 0) % (I 70 0)).toNat) = 0 →
      ((¬ (I10 71 ((drw (I 68 21) a5 0) % (I 70 0)).toNat) = 0 →
      ((¬ (I10 71 ((drw (I 68 21) a5 0) % (I 70 0)).toNat) = 0 →
      (∃ Q20 : QT, Spec mX11_trade [vR 68, vI ((drw (I 68 21) a5 0) % (I 70 0)), vI ((drw (I 68 21) a5 0) % (I 70 0)), vI a2, vI a5] I10 R 89 89 Q20 ∧ (∀ I20 R20, Q20 none I20 R20 →
      R = R20 ∧ wp (kN 89) mX11_goShouts Q 274 [vR 68, vI (-4), vI a2, vI (-4), vI a4, vI a5, none, none, none] [] I20 R 89))) ∧ ((I10 71 ((drw (I 68 21) a5 0) % (I 70 0)).toNat) = 0 →
      (∃ Q21 : QT, Spec mX11_trade [vR 68, vI ((drw (I 68 21) a5 0) % (I 70 0)), vI ((drw (I 68 21) a5 0) % (I 70 0)), vI (a4 + (I10 74 1)), vI a5] I10 R 89 89 Q21 ∧ (∀ I21 R21, Q21 none I21 R21 →
      R = R21 ∧ wp (kN 89) mX11_goShouts Q 274 [vR 68, vI (-4), vI a2, vI (-4), vI a4, vI a5, none, none, none] [] I21 R 89))))) ∧ ((I10 71 ((drw (I 68 21) a5 0) % (I 70 0)).toNat) = 0 →
      ((¬ (I10 71 ((drw (I 68 21) a5 0) % (I 70 0)).toNat) = 0 →
      (∃ Q22 : QT, Spec mX11_trade [vR 68, vI ((drw (I 68 21) a5 0) % (I 70 0)), vI a3, vI a2, vI a5] I10 R 89 89 Q22 ∧ (∀ I22 R22, Q22 none I22 R22 →
      R = R22 ∧ wp (kN 89) mX11_goShouts Q 274 [vR 68, vI (-4), vI a2, vI (-4), vI a4, vI a5, none, none, none] [] I22 R 89))) ∧ ((I10 71 ((drw (I 68 21) a5 0) % (I 70 0)).toNat) = 0 →
      (∃ Q23 : QT, Spec mX11_trade [vR 68, vI ((drw (I 68 21) a5 0) % (I 70 0)), vI a3, vI (a4 + (I10 74 1)), vI a5] I10 R 89 89 Q23 ∧ (∀ I23 R23, Q23 none I23 R23 →
      R = R23 ∧ wp (kN 89) mX11_goShouts Q 274 [vR 68, vI (-4), vI a2, vI (-4), vI a4, vI a5, none, none, none] [] I23 R 89))))))))))))) ∧ ((I10 71 ((drw (I 68 21) a5 0) % (I 70 0)).toNat) = 0 →
      (InI a3) ∧
      ((a3 < 0 →
      wp (kN 89) mX11_goShouts Q 113 [vR 68, vI a1, vI a2, vI a3, vI a4, vI a5, vI ((drw (I 68 21) a5 0) % (I 70 0)), vI x6, none] [] I10 R 89) ∧ (¬ (a3 < 0) →
      (InI (a4 + (I10 74 1))) ∧
      ((x6 < (a4 + (I10 74 1)) →
      wp (kN 89) mX11_goShouts Q 113 [vR 68, vI a1, vI a2, vI a3, vI a4, vI a5, vI ((drw (I 68 21) a5 0) % (I 70 0)), vI x6, none] [] I10 R 89) ∧ (¬ (x6 < (a4 + (I10 74 1))) →
      ((¬ (I10 71 ((drw (I 68 21) a5 0) % (I 70 0)).toNat) = 0 →
      ((¬ (I10 71 ((drw (I 68 21) a5 0) % (I 70 0)).toNat) = 0 →
      ((¬ (I10 71 ((drw (I 68 21) a5 0) % (I 70 0)).toNat) = 0 →
      (∃ Q26 : QT, Spec mX11_trade [vR 68, vI a1, vI ((drw (I 68 21) a5 0) % (I 70 0)), vI a2, vI a5] I10 R 89 89 Q26 ∧ (∀ I26 R26, Q26 none I26 R26 →
      R = R26 ∧ wp (kN 89) mX11_goShouts Q 274 [vR 68, vI (-4), vI a2, vI (-4), vI a4, vI a5, none, none, none] [] I26 R 89))) ∧ ((I10 71 ((drw (I 68 21) a5 0) % (I 70 0)).toNat) = 0 →
      (∃ Q27 : QT, Spec mX11_trade [vR 68, vI a1, vI ((drw (I 68 21) a5 0) % (I 70 0)), vI (a4 + (I10 74 1)), vI a5] I10 R 89 89 Q27 ∧ (∀ I27 R27, Q27 none I27 R27 →
      R = R27 ∧ wp (kN 89) mX11_goShouts Q 274 [vR 68, vI (-4), vI a2, vI (-4), vI a4, vI a5, none, none, none] [] I27 R 89))))) ∧ ((I10 71 ((drw (I 68 21) a5 0) % (I 70 0)).toNat) = 0 →
      ((¬ (I10 71 ((drw (I 68 21) a5 0) % (I 70 0)).toNat) = 0 →
      (∃ Q28 : QT, Spec mX11_trade [vR 68, vI a1, vI a3, vI a2, vI a5] I10 R 89 89 Q28 ∧ (∀ I28 R28, Q28 none I28 R28 →
      R = R28 ∧ wp (kN 89) mX11_goShouts Q 274 [vR 68, vI (-4), vI a2, vI (-4), vI a4, vI a5, none, none, none] [] I28 R 89))) ∧ ((I10 71 ((drw (I 68 21) a5 0) % (I 70 0)).toNat) = 0 →
      (∃ Q29 : QT, Spec mX11_trade [vR 68, vI a1, vI a3, vI (a4 + (I10 74 1)), vI a5] I10 R 89 89 Q29 ∧ (∀ I29 R29, Q29 none I29 R29 →
      R = R29 ∧ wp (kN 89) mX11_goShouts Q 274 [vR 68, vI (-4), vI a2, vI (-4), vI a4, vI a5, none, none, none] [] I29 R 89))))))) ∧ ((I10 71 ((drw (I 68 21) a5 0) % (I 70 0)).toNat) = 0 →
      ((¬ (I10 71 ((drw (I 68 21) a5 0) % (I 70 0)).toNat) = 0 →
      ((¬ (I10 71 ((drw (I 68 21) a5 0) % (I 70 0)).toNat) = 0 →
      (∃ Q30 : QT, Spec mX11_trade [vR 68, vI ((drw (I 68 21) a5 0) % (I 70 0)), vI ((drw (I 68 21) a5 0) % (I 70 0)), vI a2, vI a5] I10 R 89 89 Q30 ∧ (∀ I30 R30, Q30 none I30 R30 →
      R = R30 ∧ wp (kN 89) mX11_goShouts Q 274 [vR 68, vI (-4), vI a2, vI (-4), vI a4, vI a5, none, none, none] [] I30 R 89))) ∧ ((I10 71 ((drw (I 68 21) a5 0) % (I 70 0)).toNat) = 0 →
      (∃ Q31 : QT, Spec mX11_trade [vR 68, vI ((drw (I 68 21) a5 0) % (I 70 0)), vI ((drw (I 68 21) a5 0) % (I 70 0)), vI (a4 + (I10 74 1)), vI a5] I10 R 89 89 Q31 ∧ (∀ I31 R31, Q31 none I31 R31 →
      R = R31 ∧ wp (kN 89) mX11_goShouts Q 274 [vR 68, vI (-4), vI a2, vI (-4), vI a4, vI a5, none, none, none] [] I31 R 89))))) ∧ ((I10 71 ((drw (I 68 21) a5 0) % (I 70 0)).toNat) = 0 →
      ((¬ (I10 71 ((drw (I 68 21) a5 0) % (I 70 0)).toNat) = 0 →
      (∃ Q32 : QT, Spec mX11_trade [vR 68, vI ((drw (I 68 21) a5 0) % (I 70 0)), vI a3, vI a2, vI a5] I10 R 89 89 Q32 ∧ (∀ I32 R32, Q32 none I32 R32 →
      R = R32 ∧ wp (kN 89) mX11_goShouts Q 274 [vR 68, vI (-4), vI a2, vI (-4), vI a4, vI a5, none, none, none] [] I32 R 89))) ∧ ((I10 71 ((drw (I 68 21) a5 0) % (I 70 0)).toNat) = 0 →
      (∃ Q33 : QT, Spec mX11_trade [vR 68, vI ((drw (I 68 21) a5 0) % (I 70 0)), vI a3, vI (a4 + (I10 74 1)), vI a5] I10 R 89 89 Q33 ∧ (∀ I33 R33, Q33 none I33 R33 →
      R = R33 ∧ wp (kN 89) mX11_goShouts Q 274 [vR 68, vI (-4), vI a2, vI (-4), vI a4, vI a5, none, none, none] [] I33 R 89))))))))))))))))))))))))) : wp (kN 89) mX11_goShouts Q 14 [vR 68, vI a1, vI a2, vI a3, vI a4, vI a5, none, none, none] [] I R 89 := by
  refine wp_iload (pc' := 16) (i := 5) rfl dX11_goShouts_14 rfl ?_
  refine wp_aload_n (pc' := 17) (q := 0) (i := 0) rfl rfl dX11_goShouts_16 rfl ?_
  refine wp_getRc (pc' := 20) (k := 6) (j := 74) dX11_goShouts_17 vc10 (by decide) rfl lfX11_25 o_68 (r_68_6 hR) rfl ?_
  refine wp_iconst (pc' := 21) dX11_goShouts_20 rfl ?_
  refine wp_iald (pc' := 22) (j := 0) dX11_goShouts_21 a_74 ⟨by decide, by decide⟩ rfl rfl ?_
  obtain ⟨h1, h⟩ := h
  obtain ⟨h2, h⟩ := h
  refine wp_icmp_ge (pc' := 25) (tgt := 280) h1 h2 dX11_goShouts_22 rfl rfl (fun hc => ?_) (fun hc => ?_)
  · have h := h.1 hc
    exact wp_vreturn dX11_goShouts_280 rfl rfl h
  · have h := h.2 hc
    refine wp_aload_n (pc' := 26) (q := 0) (i := 0) rfl rfl dX11_goShouts_25 rfl ?_
    refine wp_iload (pc' := 28) (i := 5) rfl dX11_goShouts_26 rfl ?_
    refine wp_iconst (pc' := 29) dX11_goShouts_28 rfl ?_
    obtain ⟨h4, h⟩ := h
    refine wp_callV (pc' := 32) (as := [vI a5, vI 0]) (rest := []) (pX11_draw hR h4) dX11_goShouts_29 rfl lkX11_199 okX11_draw inX11_draw seX11_draw o_68 vc10 ⟨Nat.le_of_ble_eq_true rfl, Nat.le_of_ble_eq_true rfl⟩ (Nat.le_of_ble_eq_true rfl) (Nat.le_refl _) (Nat.le_refl _) okP_eq okP_eq rfl (rvI rfl (fun x3 I3 R3 hq3 => ?_))
    obtain ⟨eR3, eI3, ex3⟩ := hq3; subst eR3; subst eI3; cases ex3
    refine wp_aload_n (pc' := 33) (q := 0) (i := 0) rfl rfl dX11_goShouts_32 rfl ?_
    refine wp_getRc (pc' := 36) (k := 2) (j := 70) dX11_goShouts_33 vc10 (by decide) rfl lfX11_13 o_68 (r_68_2 hR) rfl ?_
    refine wp_iconst (pc' := 37) dX11_goShouts_36 rfl ?_
    refine wp_iald (pc' := 38) (j := 0) dX11_goShouts_37 a_70 ⟨by decide, by decide⟩ rfl rfl ?_
    obtain ⟨h5, h⟩ := h
    refine wp_irem (pc' := 39) h5 dX11_goShouts_38 rfl ?_
    refine wp_istore (pc' := 41) (i := 6) (L' := [vR 68, vI a1, vI a2, vI a3, vI a4, vI a5, vI ((drw (I 68 21) a5 0) % (I 70 0)), none, none]) (by decide) rfl dX11_goShouts_39 rfl rfl ?_
    refine wp_aload_n (pc' := 42) (q := 0) (i := 0) rfl rfl dX11_goShouts_41 rfl ?_
    refine wp_iload (pc' := 44) (i := 6) rfl dX11_goShouts_42 rfl ?_
    refine wp_iload (pc' := 46) (i := 5) rfl dX11_goShouts_44 rfl ?_
    refine wp_iload (pc' := 48) (i := 5) rfl dX11_goShouts_46 rfl ?_
    refine wp_iconst (pc' := 49) dX11_goShouts_48 rfl ?_
    obtain ⟨Q6, hs6, h⟩ := h
    refine wp_callV (pc' := 52) (as := [vI ((drw (I 68 21) a5 0) % (I 70 0)), vI a5, vI a5, vI 1]) (rest := []) hs6 dX11_goShouts_49 rfl lkX11_225 okX11_shoutOf inX11_shoutOf seX11_shoutOf o_68 vc10 ⟨Nat.le_of_ble_eq_true rfl, Nat.le_of_ble_eq_true rfl⟩ (Nat.le_of_ble_eq_true rfl) (Nat.le_refl _) (Nat.le_refl _) okP_eq okP_eq rfl (rvI rfl (fun x6 I6 R6 hq6 => ?_))
    obtain ⟨hRR6, h⟩ := h x6 I6 R6 hq6; subst hRR6
    refine wp_istore (pc' := 54) (i := 7) (L' := [vR 68, vI a1, vI a2, vI a3, vI a4, vI a5, vI ((drw (I 68 21) a5 0) % (I 70 0)), vI x6, none]) (by decide) rfl dX11_goShouts_52 rfl rfl ?_
    refine wp_aload_n (pc' := 55) (q := 0) (i := 0) rfl rfl dX11_goShouts_54 rfl ?_
    refine wp_getRc (pc' := 58) (k := 23) (j := 85) dX11_goShouts_55 vc10 (by decide) rfl lfX11_58 o_68 (r_68_23 hR) rfl ?_
    refine wp_iload (pc' := 60) (i := 6) rfl dX11_goShouts_58 rfl ?_
    obtain ⟨h7, h⟩ := h
    refine wp_iald (pc' := 61) (j := ((drw (I 68 21) a5 0) % (I 70 0)).toNat) dX11_goShouts_60 a_85 h7 rfl rfl ?_
    refine wp_bipush (pc' := 63) (by decide) dX11_goShouts_61 rfl ?_
    obtain ⟨h8, h⟩ := h
    refine wp_icmp_ne (pc' := 66) (tgt := 274) h8 ⟨by decide, by decide⟩ dX11_goShouts_63 rfl rfl (fun hc => ?_) (fun hc => ?_)
    · have h := h.1 hc
      exact wp_dropP (leP_s (leP_s (leP_s (leP_s (leP_s (leP_s (leP_d (leP_d (leP_s leP_n))))))))) h
    · have h := h.2 hc
      refine wp_iload (pc' := 68) (i := 7) rfl dX11_goShouts_66 rfl ?_
      obtain ⟨h9, h⟩ := h
      refine wp_if_lt (pc' := 71) (tgt := 274) h9 dX11_goShouts_68 rfl rfl (fun hc => ?_) (fun hc => ?_)
      · have h := h.1 hc
        exact wp_dropP (leP_s (leP_s (leP_s (leP_s (leP_s (leP_s (leP_d (leP_d (leP_s leP_n))))))))) h
      · have h := h.2 hc
        refine wp_aload_n (pc' := 72) (q := 0) (i := 0) rfl rfl dX11_goShouts_71 rfl ?_
        refine wp_iload (pc' := 74) (i := 6) rfl dX11_goShouts_72 rfl ?_
        refine wp_iload (pc' := 76) (i := 7) rfl dX11_goShouts_74 rfl ?_
        refine wp_iload (pc' := 78) (i := 5) rfl dX11_goShouts_76 rfl ?_
        obtain ⟨Q10, hs10, h⟩ := h
        refine wp_callV (pc' := 81) (as := [vI ((drw (I 68 21) a5 0) % (I 70 0)), vI x6, vI a5]) (rest := []) hs10 dX11_goShouts_78 rfl lkX11_229 okX11_note inX11_note seX11_note o_68 vc10 ⟨Nat.le_of_ble_eq_true rfl, Nat.le_of_ble_eq_true rfl⟩ (Nat.le_of_ble_eq_true rfl) (Nat.le_refl _) (Nat.le_refl _) okP_eq okP_eq rfl (rvV rfl (fun I10 R10 hq10 => ?_))
        obtain ⟨hRR10, h⟩ := h I10 R10 hq10; subst hRR10
        refine wp_aload_n (pc' := 82) (q := 0) (i := 0) rfl rfl dX11_goShouts_81 rfl ?_
        refine wp_getRc (pc' := 85) (k := 3) (j := 71) dX11_goShouts_82 vc10 (by decide) rfl lfX11_16 o_68 (r_68_3 hR) rfl ?_
        refine wp_iload (pc' := 87) (i := 6) rfl dX11_goShouts_85 rfl ?_
        obtain ⟨h11, h⟩ := h
        refine wp_iald (pc' := 88) (j := ((drw (I 68 21) a5 0) % (I 70 0)).toNat) dX11_goShouts_87 a_71 h11 rfl rfl ?_
        obtain ⟨h12, h⟩ := h
        refine wp_if_ne (pc' := 91) (tgt := 117) h12 dX11_goShouts_88 rfl rfl (fun hc => ?_) (fun hc => ?_)
        · have h := h.1 hc
          refine wp_iload_n (pc' := 118) (q := 1) (i := 1) rfl rfl dX11_goShouts_117 rfl ?_
          obtain ⟨h13, h⟩ := h
          refine wp_if_lt (pc' := 121) (tgt := 138) h13 dX11_goShouts_118 rfl rfl (fun hc => ?_) (fun hc => ?_)
          · have h := h.1 hc
            exact h
          · have h := h.2 hc
            refine wp_iload (pc' := 123) (i := 7) rfl dX11_goShouts_121 rfl ?_
            refine wp_aload_n (pc' := 124) (q := 0) (i := 0) rfl rfl dX11_goShouts_123 rfl ?_
            refine wp_getRc (pc' := 127) (k := 6) (j := 74) dX11_goShouts_124 vc10 (by decide) rfl lfX11_25 o_68 (r_68_6 hR) rfl ?_
            refine wp_iconst (pc' := 128) dX11_goShouts_127 rfl ?_
            refine wp_iald (pc' := 129) (j := 1) dX11_goShouts_128 a_74 ⟨by decide, by decide⟩ rfl rfl ?_
            refine wp_iadd (pc' := 130) dX11_goShouts_129 rfl ?_
            refine wp_iload_n (pc' := 131) (q := 2) (i := 2) rfl rfl dX11_goShouts_130 rfl ?_
            obtain ⟨h14, h⟩ := h
            obtain ⟨h15, h⟩ := h
            refine wp_icmp_gt (pc' := 134) (tgt := 138) h14 h15 dX11_goShouts_131 rfl rfl (fun hc => ?_) (fun hc => ?_)
            · have h := h.1 hc
              exact h
            · have h := h.2 hc
              refine wp_iconst (pc' := 135) dX11_goShouts_134 rfl ?_
              refine wp_goto (tgt := 139) dX11_goShouts_135 rfl ?_
              refine wp_istore (pc' := 141) (i := 8) (L' := [vR 68, vI a1, vI a2, vI a3, vI a4, vI a5, vI ((drw (I 68 21) a5 0) % (I 70 0)), vI x6, vI 1]) (by decide) rfl dX11_goShouts_139 rfl rfl ?_
              refine wp_iload (pc' := 143) (i := 8) rfl dX11_goShouts_141 rfl ?_
              refine wp_if_eq (pc' := 146) (tgt := 216) ⟨by decide, by decide⟩ dX11_goShouts_143 rfl rfl (fun hc => by exfalso; revert hc; decide) (fun hc => ?_)
              refine wp_aload_n (pc' := 147) (q := 0) (i := 0) rfl rfl dX11_goShouts_146 rfl ?_
              refine wp_aload_n (pc' := 148) (q := 0) (i := 0) rfl rfl dX11_goShouts_147 rfl ?_
              refine wp_getRc (pc' := 151) (k := 3) (j := 71) dX11_goShouts_148 vc10 (by decide) rfl lfX11_16 o_68 (r_68_3 hR) rfl ?_
              refine wp_iload (pc' := 153) (i := 6) rfl dX11_goShouts_151 rfl ?_
              refine wp_iald (pc' := 154) (j := ((drw (I 68 21) a5 0) % (I 70 0)).toNat) dX11_goShouts_153 a_71 h11 rfl rfl ?_
              refine wp_if_ne (pc' := 157) (tgt := 162) h12 dX11_goShouts_154 rfl rfl (fun hc => ?_) (fun hc => ?_)
              · have h := h.1 hc
                refine wp_iload_n (pc' := 163) (q := 1) (i := 1) rfl rfl dX11_goShouts_162 rfl ?_
                refine wp_aload_n (pc' := 164) (q := 0) (i := 0) rfl rfl dX11_goShouts_163 rfl ?_
                refine wp_getRc (pc' := 167) (k := 3) (j := 71) dX11_goShouts_164 vc10 (by decide) rfl lfX11_16 o_68 (r_68_3 hR) rfl ?_
                refine wp_iload (pc' := 169) (i := 6) rfl dX11_goShouts_167 rfl ?_
                refine wp_iald (pc' := 170) (j := ((drw (I 68 21) a5 0) % (I 70 0)).toNat) dX11_goShouts_169 a_71 h11 rfl rfl ?_
                refine wp_if_ne (pc' := 173) (tgt := 177) h12 dX11_goShouts_170 rfl rfl (fun hc => ?_) (fun hc => ?_)
                · have h := h.1 hc
                  refine wp_iload (pc' := 179) (i := 6) rfl dX11_goShouts_177 rfl ?_
                  refine wp_aload_n (pc' := 180) (q := 0) (i := 0) rfl rfl dX11_goShouts_179 rfl ?_
                  refine wp_getRc (pc' := 183) (k := 3) (j := 71) dX11_goShouts_180 vc10 (by decide) rfl lfX11_16 o_68 (r_68_3 hR) rfl ?_
                  refine wp_iload (pc' := 185) (i := 6) rfl dX11_goShouts_183 rfl ?_
                  refine wp_iald (pc' := 186) (j := ((drw (I 68 21) a5 0) % (I 70 0)).toNat) dX11_goShouts_185 a_71 h11 rfl rfl ?_
                  refine wp_if_ne (pc' := 189) (tgt := 201) h12 dX11_goShouts_186 rfl rfl (fun hc => ?_) (fun hc => ?_)
                  · have h := h.1 hc
                    refine wp_iload_n (pc' := 202) (q := 2) (i := 2) rfl rfl dX11_goShouts_201 rfl ?_
                    refine wp_iload (pc' := 204) (i := 5) rfl dX11_goShouts_202 rfl ?_
                    obtain ⟨Q16, hs16, h⟩ := h
                    refine wp_callV (pc' := 207) (as := [vI a1, vI ((drw (I 68 21) a5 0) % (I 70 0)), vI a2, vI a5]) (rest := []) hs16 dX11_goShouts_204 rfl lkX11_233 okX11_trade inX11_trade seX11_trade o_68 vc10 ⟨Nat.le_of_ble_eq_true rfl, Nat.le_of_ble_eq_true rfl⟩ (Nat.le_of_ble_eq_true rfl) (Nat.le_refl _) (Nat.le_refl _) okP_eq okP_eq rfl (rvV rfl (fun I16 R16 hq16 => ?_))
                    obtain ⟨hRR16, h⟩ := h I16 R16 hq16; subst hRR16
                    refine wp_bipush (pc' := 209) (by decide) dX11_goShouts_207 rfl ?_
                    refine wp_istore_n (pc' := 210) (q := 1) (i := 1) (L' := [vR 68, vI (-4), vI a2, vI a3, vI a4, vI a5, vI ((drw (I 68 21) a5 0) % (I 70 0)), vI x6, vI 1]) rfl (by decide) rfl dX11_goShouts_209 rfl rfl ?_
                    refine wp_bipush (pc' := 212) (by decide) dX11_goShouts_210 rfl ?_
                    refine wp_istore_n (pc' := 213) (q := 3) (i := 3) (L' := [vR 68, vI (-4), vI a2, vI (-4), vI a4, vI a5, vI ((drw (I 68 21) a5 0) % (I 70 0)), vI x6, vI 1]) rfl (by decide) rfl dX11_goShouts_212 rfl rfl ?_
                    refine wp_goto (tgt := 274) dX11_goShouts_213 rfl ?_
                    exact wp_dropP (leP_s (leP_s (leP_s (leP_s (leP_s (leP_s (leP_d (leP_d (leP_d leP_n))))))))) h
                  · have h := h.2 hc
                    refine wp_iload (pc' := 191) (i := 4) rfl dX11_goShouts_189 rfl ?_
                    refine wp_aload_n (pc' := 192) (q := 0) (i := 0) rfl rfl dX11_goShouts_191 rfl ?_
                    refine wp_getRc (pc' := 195) (k := 6) (j := 74) dX11_goShouts_192 vc10 (by decide) rfl lfX11_25 o_68 (r_68_6 hR) rfl ?_
                    refine wp_iconst (pc' := 196) dX11_goShouts_195 rfl ?_
                    refine wp_iald (pc' := 197) (j := 1) dX11_goShouts_196 a_74 ⟨by decide, by decide⟩ rfl rfl ?_
                    refine wp_iadd (pc' := 198) dX11_goShouts_197 rfl ?_
                    refine wp_goto (tgt := 202) dX11_goShouts_198 rfl ?_
                    refine wp_iload (pc' := 204) (i := 5) rfl dX11_goShouts_202 rfl ?_
                    obtain ⟨Q17, hs17, h⟩ := h
                    refine wp_callV (pc' := 207) (as := [vI a1, vI ((drw (I 68 21) a5 0) % (I 70 0)), vI (a4 + (I10 74 1)), vI a5]) (rest := []) hs17 dX11_goShouts_204 rfl lkX11_233 okX11_trade inX11_trade seX11_trade o_68 vc10 ⟨Nat.le_of_ble_eq_true rfl, Nat.le_of_ble_eq_true rfl⟩ (Nat.le_of_ble_eq_true rfl) (Nat.le_refl _) (Nat.le_refl _) okP_eq okP_eq rfl (rvV rfl (fun I17 R17 hq17 => ?_))
                    obtain ⟨hRR17, h⟩ := h I17 R17 hq17; subst hRR17
                    refine wp_bipush (pc' := 209) (by decide) dX11_goShouts_207 rfl ?_
                    refine wp_istore_n (pc' := 210) (q := 1) (i := 1) (L' := [vR 68, vI (-4), vI a2, vI a3, vI a4, vI a5, vI ((drw (I 68 21) a5 0) % (I 70 0)), vI x6, vI 1]) rfl (by decide) rfl dX11_goShouts_209 rfl rfl ?_
                    refine wp_bipush (pc' := 212) (by decide) dX11_goShouts_210 rfl ?_
                    refine wp_istore_n (pc' := 213) (q := 3) (i := 3) (L' := [vR 68, vI (-4), vI a2, vI (-4), vI a4, vI a5, vI ((drw (I 68 21) a5 0) % (I 70 0)), vI x6, vI 1]) rfl (by decide) rfl dX11_goShouts_212 rfl rfl ?_
                    refine wp_goto (tgt := 274) dX11_goShouts_213 rfl ?_
                    exact wp_dropP (leP_s (leP_s (leP_s (leP_s (leP_s (leP_s (leP_d (leP_d (leP_d leP_n))))))))) h
                · have h := h.2 hc
                  refine wp_iload_n (pc' := 174) (q := 3) (i := 3) rfl rfl dX11_goShouts_173 rfl ?_
                  refine wp_goto (tgt := 179) dX11_goShouts_174 rfl ?_
                  refine wp_aload_n (pc' := 180) (q := 0) (i := 0) rfl rfl dX11_goShouts_179 rfl ?_
                  refine wp_getRc (pc' := 183) (k := 3) (j := 71) dX11_goShouts_180 vc10 (by decide) rfl lfX11_16 o_68 (r_68_3 hR) rfl ?_
                  refine wp_iload (pc' := 185) (i := 6) rfl dX11_goShouts_183 rfl ?_
                  refine wp_iald (pc' := 186) (j := ((drw (I 68 21) a5 0) % (I 70 0)).toNat) dX11_goShouts_185 a_71 h11 rfl rfl ?_
                  refine wp_if_ne (pc' := 189) (tgt := 201) h12 dX11_goShouts_186 rfl rfl (fun hc => ?_) (fun hc => ?_)
                  · have h := h.1 hc
                    refine wp_iload_n (pc' := 202) (q := 2) (i := 2) rfl rfl dX11_goShouts_201 rfl ?_
                    refine wp_iload (pc' := 204) (i := 5) rfl dX11_goShouts_202 rfl ?_
                    obtain ⟨Q18, hs18, h⟩ := h
                    refine wp_callV (pc' := 207) (as := [vI a1, vI a3, vI a2, vI a5]) (rest := []) hs18 dX11_goShouts_204 rfl lkX11_233 okX11_trade inX11_trade seX11_trade o_68 vc10 ⟨Nat.le_of_ble_eq_true rfl, Nat.le_of_ble_eq_true rfl⟩ (Nat.le_of_ble_eq_true rfl) (Nat.le_refl _) (Nat.le_refl _) okP_eq okP_eq rfl (rvV rfl (fun I18 R18 hq18 => ?_))
                    obtain ⟨hRR18, h⟩ := h I18 R18 hq18; subst hRR18
                    refine wp_bipush (pc' := 209) (by decide) dX11_goShouts_207 rfl ?_
                    refine wp_istore_n (pc' := 210) (q := 1) (i := 1) (L' := [vR 68, vI (-4), vI a2, vI a3, vI a4, vI a5, vI ((drw (I 68 21) a5 0) % (I 70 0)), vI x6, vI 1]) rfl (by decide) rfl dX11_goShouts_209 rfl rfl ?_
                    refine wp_bipush (pc' := 212) (by decide) dX11_goShouts_210 rfl ?_
                    refine wp_istore_n (pc' := 213) (q := 3) (i := 3) (L' := [vR 68, vI (-4), vI a2, vI (-4), vI a4, vI a5, vI ((drw (I 68 21) a5 0) % (I 70 0)), vI x6, vI 1]) rfl (by decide) rfl dX11_goShouts_212 rfl rfl ?_
                    refine wp_goto (tgt := 274) dX11_goShouts_213 rfl ?_
                    exact wp_dropP (leP_s (leP_s (leP_s (leP_s (leP_s (leP_s (leP_d (leP_d (leP_d leP_n))))))))) h
                  · have h := h.2 hc
                    refine wp_iload (pc' := 191) (i := 4) rfl dX11_goShouts_189 rfl ?_
                    refine wp_aload_n (pc' := 192) (q := 0) (i := 0) rfl rfl dX11_goShouts_191 rfl ?_
                    refine wp_getRc (pc' := 195) (k := 6) (j := 74) dX11_goShouts_192 vc10 (by decide) rfl lfX11_25 o_68 (r_68_6 hR) rfl ?_
                    refine wp_iconst (pc' := 196) dX11_goShouts_195 rfl ?_
                    refine wp_iald (pc' := 197) (j := 1) dX11_goShouts_196 a_74 ⟨by decide, by decide⟩ rfl rfl ?_
                    refine wp_iadd (pc' := 198) dX11_goShouts_197 rfl ?_
                    refine wp_goto (tgt := 202) dX11_goShouts_198 rfl ?_
                    refine wp_iload (pc' := 204) (i := 5) rfl dX11_goShouts_202 rfl ?_
                    obtain ⟨Q19, hs19, h⟩ := h
                    refine wp_callV (pc' := 207) (as := [vI a1, vI a3, vI (a4 + (I10 74 1)), vI a5]) (rest := []) hs19 dX11_goShouts_204 rfl lkX11_233 okX11_trade inX11_trade seX11_trade o_68 vc10 ⟨Nat.le_of_ble_eq_true rfl, Nat.le_of_ble_eq_true rfl⟩ (Nat.le_of_ble_eq_true rfl) (Nat.le_refl _) (Nat.le_refl _) okP_eq okP_eq rfl (rvV rfl (fun I19 R19 hq19 => ?_))
                    obtain ⟨hRR19, h⟩ := h I19 R19 hq19; subst hRR19
                    refine wp_bipush (pc' := 209) (by decide) dX11_goShouts_207 rfl ?_
                    refine wp_istore_n (pc' := 210) (q := 1) (i := 1) (L' := [vR 68, vI (-4), vI a2, vI a3, vI a4, vI a5, vI ((drw (I 68 21) a5 0) % (I 70 0)), vI x6, vI 1]) rfl (by decide) rfl dX11_goShouts_209 rfl rfl ?_
                    refine wp_bipush (pc' := 212) (by decide) dX11_goShouts_210 rfl ?_
                    refine wp_istore_n (pc' := 213) (q := 3) (i := 3) (L' := [vR 68, vI (-4), vI a2, vI (-4), vI a4, vI a5, vI ((drw (I 68 21) a5 0) % (I 70 0)), vI x6, vI 1]) rfl (by decide) rfl dX11_goShouts_212 rfl rfl ?_
                    refine wp_goto (tgt := 274) dX11_goShouts_213 rfl ?_
                    exact wp_dropP (leP_s (leP_s (leP_s (leP_s (leP_s (leP_s (leP_d (leP_d (leP_d leP_n))))))))) h
              · have h := h.2 hc
                refine wp_iload (pc' := 159) (i := 6) rfl dX11_goShouts_157 rfl ?_
                refine wp_goto (tgt := 163) dX11_goShouts_159 rfl ?_
                refine wp_aload_n (pc' := 164) (q := 0) (i := 0) rfl rfl dX11_goShouts_163 rfl ?_
                refine wp_getRc (pc' := 167) (k := 3) (j := 71) dX11_goShouts_164 vc10 (by decide) rfl lfX11_16 o_68 (r_68_3 hR) rfl ?_
                refine wp_iload (pc' := 169) (i := 6) rfl dX11_goShouts_167 rfl ?_
                refine wp_iald (pc' := 170) (j := ((drw (I 68 21) a5 0) % (I 70 0)).toNat) dX11_goShouts_169 a_71 h11 rfl rfl ?_
                refine wp_if_ne (pc' := 173) (tgt := 177) h12 dX11_goShouts_170 rfl rfl (fun hc => ?_) (fun hc => ?_)
                · have h := h.1 hc
                  refine wp_iload (pc' := 179) (i := 6) rfl dX11_goShouts_177 rfl ?_
                  refine wp_aload_n (pc' := 180) (q := 0) (i := 0) rfl rfl dX11_goShouts_179 rfl ?_
                  refine wp_getRc (pc' := 183) (k := 3) (j := 71) dX11_goShouts_180 vc10 (by decide) rfl lfX11_16 o_68 (r_68_3 hR) rfl ?_
                  refine wp_iload (pc' := 185) (i := 6) rfl dX11_goShouts_183 rfl ?_
                  refine wp_iald (pc' := 186) (j := ((drw (I 68 21) a5 0) % (I 70 0)).toNat) dX11_goShouts_185 a_71 h11 rfl rfl ?_
                  refine wp_if_ne (pc' := 189) (tgt := 201) h12 dX11_goShouts_186 rfl rfl (fun hc => ?_) (fun hc => ?_)
                  · have h := h.1 hc
                    refine wp_iload_n (pc' := 202) (q := 2) (i := 2) rfl rfl dX11_goShouts_201 rfl ?_
                    refine wp_iload (pc' := 204) (i := 5) rfl dX11_goShouts_202 rfl ?_
                    obtain ⟨Q20, hs20, h⟩ := h
                    refine wp_callV (pc' := 207) (as := [vI ((drw (I 68 21) a5 0) % (I 70 0)), vI ((drw (I 68 21) a5 0) % (I 70 0)), vI a2, vI a5]) (rest := []) hs20 dX11_goShouts_204 rfl lkX11_233 okX11_trade inX11_trade seX11_trade o_68 vc10 ⟨Nat.le_of_ble_eq_true rfl, Nat.le_of_ble_eq_true rfl⟩ (Nat.le_of_ble_eq_true rfl) (Nat.le_refl _) (Nat.le_refl _) okP_eq okP_eq rfl (rvV rfl (fun I20 R20 hq20 => ?_))
                    obtain ⟨hRR20, h⟩ := h I20 R20 hq20; subst hRR20
                    refine wp_bipush (pc' := 209) (by decide) dX11_goShouts_207 rfl ?_
                    refine wp_istore_n (pc' := 210) (q := 1) (i := 1) (L' := [vR 68, vI (-4), vI a2, vI a3, vI a4, vI a5, vI ((drw (I 68 21) a5 0) % (I 70 0)), vI x6, vI 1]) rfl (by decide) rfl dX11_goShouts_209 rfl rfl ?_
                    refine wp_bipush (pc' := 212) (by decide) dX11_goShouts_210 rfl ?_
                    refine wp_istore_n (pc' := 213) (q := 3) (i := 3) (L' := [vR 68, vI (-4), vI a2, vI (-4), vI a4, vI a5, vI ((drw (I 68 21) a5 0) % (I 70 0)), vI x6, vI 1]) rfl (by decide) rfl dX11_goShouts_212 rfl rfl ?_
                    refine wp_goto (tgt := 274) dX11_goShouts_213 rfl ?_
                    exact wp_dropP (leP_s (leP_s (leP_s (leP_s (leP_s (leP_s (leP_d (leP_d (leP_d leP_n))))))))) h
                  · have h := h.2 hc
                    refine wp_iload (pc' := 191) (i := 4) rfl dX11_goShouts_189 rfl ?_
                    refine wp_aload_n (pc' := 192) (q := 0) (i := 0) rfl rfl dX11_goShouts_191 rfl ?_
                    refine wp_getRc (pc' := 195) (k := 6) (j := 74) dX11_goShouts_192 vc10 (by decide) rfl lfX11_25 o_68 (r_68_6 hR) rfl ?_
                    refine wp_iconst (pc' := 196) dX11_goShouts_195 rfl ?_
                    refine wp_iald (pc' := 197) (j := 1) dX11_goShouts_196 a_74 ⟨by decide, by decide⟩ rfl rfl ?_
                    refine wp_iadd (pc' := 198) dX11_goShouts_197 rfl ?_
                    refine wp_goto (tgt := 202) dX11_goShouts_198 rfl ?_
                    refine wp_iload (pc' := 204) (i := 5) rfl dX11_goShouts_202 rfl ?_
                    obtain ⟨Q21, hs21, h⟩ := h
                    refine wp_callV (pc' := 207) (as := [vI ((drw (I 68 21) a5 0) % (I 70 0)), vI ((drw (I 68 21) a5 0) % (I 70 0)), vI (a4 + (I10 74 1)), vI a5]) (rest := []) hs21 dX11_goShouts_204 rfl lkX11_233 okX11_trade inX11_trade seX11_trade o_68 vc10 ⟨Nat.le_of_ble_eq_true rfl, Nat.le_of_ble_eq_true rfl⟩ (Nat.le_of_ble_eq_true rfl) (Nat.le_refl _) (Nat.le_refl _) okP_eq okP_eq rfl (rvV rfl (fun I21 R21 hq21 => ?_))
                    obtain ⟨hRR21, h⟩ := h I21 R21 hq21; subst hRR21
                    refine wp_bipush (pc' := 209) (by decide) dX11_goShouts_207 rfl ?_
                    refine wp_istore_n (pc' := 210) (q := 1) (i := 1) (L' := [vR 68, vI (-4), vI a2, vI a3, vI a4, vI a5, vI ((drw (I 68 21) a5 0) % (I 70 0)), vI x6, vI 1]) rfl (by decide) rfl dX11_goShouts_209 rfl rfl ?_
                    refine wp_bipush (pc' := 212) (by decide) dX11_goShouts_210 rfl ?_
                    refine wp_istore_n (pc' := 213) (q := 3) (i := 3) (L' := [vR 68, vI (-4), vI a2, vI (-4), vI a4, vI a5, vI ((drw (I 68 21) a5 0) % (I 70 0)), vI x6, vI 1]) rfl (by decide) rfl dX11_goShouts_212 rfl rfl ?_
                    refine wp_goto (tgt := 274) dX11_goShouts_213 rfl ?_
                    exact wp_dropP (leP_s (leP_s (leP_s (leP_s (leP_s (leP_s (leP_d (leP_d (leP_d leP_n))))))))) h
                · have h := h.2 hc
                  refine wp_iload_n (pc' := 174) (q := 3) (i := 3) rfl rfl dX11_goShouts_173 rfl ?_
                  refine wp_goto (tgt := 179) dX11_goShouts_174 rfl ?_
                  refine wp_aload_n (pc' := 180) (q := 0) (i := 0) rfl rfl dX11_goShouts_179 rfl ?_
                  refine wp_getRc (pc' := 183) (k := 3) (j := 71) dX11_goShouts_180 vc10 (by decide) rfl lfX11_16 o_68 (r_68_3 hR) rfl ?_
                  refine wp_iload (pc' := 185) (i := 6) rfl dX11_goShouts_183 rfl ?_
                  refine wp_iald (pc' := 186) (j := ((drw (I 68 21) a5 0) % (I 70 0)).toNat) dX11_goShouts_185 a_71 h11 rfl rfl ?_
                  refine wp_if_ne (pc' := 189) (tgt := 201) h12 dX11_goShouts_186 rfl rfl (fun hc => ?_) (fun hc => ?_)
                  · have h := h.1 hc
                    refine wp_iload_n (pc' := 202) (q := 2) (i := 2) rfl rfl dX11_goShouts_201 rfl ?_
                    refine wp_iload (pc' := 204) (i := 5) rfl dX11_goShouts_202 rfl ?_
                    obtain ⟨Q22, hs22, h⟩ := h
                    refine wp_callV (pc' := 207) (as := [vI ((drw (I 68 21) a5 0) % (I 70 0)), vI a3, vI a2, vI a5]) (rest := []) hs22 dX11_goShouts_204 rfl lkX11_233 okX11_trade inX11_trade seX11_trade o_68 vc10 ⟨Nat.le_of_ble_eq_true rfl, Nat.le_of_ble_eq_true rfl⟩ (Nat.le_of_ble_eq_true rfl) (Nat.le_refl _) (Nat.le_refl _) okP_eq okP_eq rfl (rvV rfl (fun I22 R22 hq22 => ?_))
                    obtain ⟨hRR22, h⟩ := h I22 R22 hq22; subst hRR22
                    refine wp_bipush (pc' := 209) (by decide) dX11_goShouts_207 rfl ?_
                    refine wp_istore_n (pc' := 210) (q := 1) (i := 1) (L' := [vR 68, vI (-4), vI a2, vI a3, vI a4, vI a5, vI ((drw (I 68 21) a5 0) % (I 70 0)), vI x6, vI 1]) rfl (by decide) rfl dX11_goShouts_209 rfl rfl ?_
                    refine wp_bipush (pc' := 212) (by decide) dX11_goShouts_210 rfl ?_
                    refine wp_istore_n (pc' := 213) (q := 3) (i := 3) (L' := [vR 68, vI (-4), vI a2, vI (-4), vI a4, vI a5, vI ((drw (I 68 21) a5 0) % (I 70 0)), vI x6, vI 1]) rfl (by decide) rfl dX11_goShouts_212 rfl rfl ?_
                    refine wp_goto (tgt := 274) dX11_goShouts_213 rfl ?_
                    exact wp_dropP (leP_s (leP_s (leP_s (leP_s (leP_s (leP_s (leP_d (leP_d (leP_d leP_n))))))))) h
                  · have h := h.2 hc
                    refine wp_iload (pc' := 191) (i := 4) rfl dX11_goShouts_189 rfl ?_
                    refine wp_aload_n (pc' := 192) (q := 0) (i := 0) rfl rfl dX11_goShouts_191 rfl ?_
                    refine wp_getRc (pc' := 195) (k := 6) (j := 74) dX11_goShouts_192 vc10 (by decide) rfl lfX11_25 o_68 (r_68_6 hR) rfl ?_
                    refine wp_iconst (pc' := 196) dX11_goShouts_195 rfl ?_
                    refine wp_iald (pc' := 197) (j := 1) dX11_goShouts_196 a_74 ⟨by decide, by decide⟩ rfl rfl ?_
                    refine wp_iadd (pc' := 198) dX11_goShouts_197 rfl ?_
                    refine wp_goto (tgt := 202) dX11_goShouts_198 rfl ?_
                    refine wp_iload (pc' := 204) (i := 5) rfl dX11_goShouts_202 rfl ?_
                    obtain ⟨Q23, hs23, h⟩ := h
                    refine wp_callV (pc' := 207) (as := [vI ((drw (I 68 21) a5 0) % (I 70 0)), vI a3, vI (a4 + (I10 74 1)), vI a5]) (rest := []) hs23 dX11_goShouts_204 rfl lkX11_233 okX11_trade inX11_trade seX11_trade o_68 vc10 ⟨Nat.le_of_ble_eq_true rfl, Nat.le_of_ble_eq_true rfl⟩ (Nat.le_of_ble_eq_true rfl) (Nat.le_refl _) (Nat.le_refl _) okP_eq okP_eq rfl (rvV rfl (fun I23 R23 hq23 => ?_))
                    obtain ⟨hRR23, h⟩ := h I23 R23 hq23; subst hRR23
                    refine wp_bipush (pc' := 209) (by decide) dX11_goShouts_207 rfl ?_
                    refine wp_istore_n (pc' := 210) (q := 1) (i := 1) (L' := [vR 68, vI (-4), vI a2, vI a3, vI a4, vI a5, vI ((drw (I 68 21) a5 0) % (I 70 0)), vI x6, vI 1]) rfl (by decide) rfl dX11_goShouts_209 rfl rfl ?_
                    refine wp_bipush (pc' := 212) (by decide) dX11_goShouts_210 rfl ?_
                    refine wp_istore_n (pc' := 213) (q := 3) (i := 3) (L' := [vR 68, vI (-4), vI a2, vI (-4), vI a4, vI a5, vI ((drw (I 68 21) a5 0) % (I 70 0)), vI x6, vI 1]) rfl (by decide) rfl dX11_goShouts_212 rfl rfl ?_
                    refine wp_goto (tgt := 274) dX11_goShouts_213 rfl ?_
                    exact wp_dropP (leP_s (leP_s (leP_s (leP_s (leP_s (leP_s (leP_d (leP_d (leP_d leP_n))))))))) h
        · have h := h.2 hc
          refine wp_iload_n (pc' := 92) (q := 3) (i := 3) rfl rfl dX11_goShouts_91 rfl ?_
          obtain ⟨h24, h⟩ := h
          refine wp_if_lt (pc' := 95) (tgt := 113) h24 dX11_goShouts_92 rfl rfl (fun hc => ?_) (fun hc => ?_)
          · have h := h.1 hc
            exact h
          · have h := h.2 hc
            refine wp_iload (pc' := 97) (i := 7) rfl dX11_goShouts_95 rfl ?_
            refine wp_iload (pc' := 99) (i := 4) rfl dX11_goShouts_97 rfl ?_
            refine wp_aload_n (pc' := 100) (q := 0) (i := 0) rfl rfl dX11_goShouts_99 rfl ?_
            refine wp_getRc (pc' := 103) (k := 6) (j := 74) dX11_goShouts_100 vc10 (by decide) rfl lfX11_25 o_68 (r_68_6 hR) rfl ?_
            refine wp_iconst (pc' := 104) dX11_goShouts_103 rfl ?_
            refine wp_iald (pc' := 105) (j := 1) dX11_goShouts_104 a_74 ⟨by decide, by decide⟩ rfl rfl ?_
            refine wp_iadd (pc' := 106) dX11_goShouts_105 rfl ?_
            obtain ⟨h25, h⟩ := h
            refine wp_icmp_lt (pc' := 109) (tgt := 113) h9 h25 dX11_goShouts_106 rfl rfl (fun hc => ?_) (fun hc => ?_)
            · have h := h.1 hc
              exact h
            · have h := h.2 hc
              refine wp_iconst (pc' := 110) dX11_goShouts_109 rfl ?_
              refine wp_goto (tgt := 139) dX11_goShouts_110 rfl ?_
              refine wp_istore (pc' := 141) (i := 8) (L' := [vR 68, vI a1, vI a2, vI a3, vI a4, vI a5, vI ((drw (I 68 21) a5 0) % (I 70 0)), vI x6, vI 1]) (by decide) rfl dX11_goShouts_139 rfl rfl ?_
              refine wp_iload (pc' := 143) (i := 8) rfl dX11_goShouts_141 rfl ?_
              refine wp_if_eq (pc' := 146) (tgt := 216) ⟨by decide, by decide⟩ dX11_goShouts_143 rfl rfl (fun hc => by exfalso; revert hc; decide) (fun hc => ?_)
              refine wp_aload_n (pc' := 147) (q := 0) (i := 0) rfl rfl dX11_goShouts_146 rfl ?_
              refine wp_aload_n (pc' := 148) (q := 0) (i := 0) rfl rfl dX11_goShouts_147 rfl ?_
              refine wp_getRc (pc' := 151) (k := 3) (j := 71) dX11_goShouts_148 vc10 (by decide) rfl lfX11_16 o_68 (r_68_3 hR) rfl ?_
              refine wp_iload (pc' := 153) (i := 6) rfl dX11_goShouts_151 rfl ?_
              refine wp_iald (pc' := 154) (j := ((drw (I 68 21) a5 0) % (I 70 0)).toNat) dX11_goShouts_153 a_71 h11 rfl rfl ?_
              refine wp_if_ne (pc' := 157) (tgt := 162) h12 dX11_goShouts_154 rfl rfl (fun hc => ?_) (fun hc => ?_)
              · have h := h.1 hc
                refine wp_iload_n (pc' := 163) (q := 1) (i := 1) rfl rfl dX11_goShouts_162 rfl ?_
                refine wp_aload_n (pc' := 164) (q := 0) (i := 0) rfl rfl dX11_goShouts_163 rfl ?_
                refine wp_getRc (pc' := 167) (k := 3) (j := 71) dX11_goShouts_164 vc10 (by decide) rfl lfX11_16 o_68 (r_68_3 hR) rfl ?_
                refine wp_iload (pc' := 169) (i := 6) rfl dX11_goShouts_167 rfl ?_
                refine wp_iald (pc' := 170) (j := ((drw (I 68 21) a5 0) % (I 70 0)).toNat) dX11_goShouts_169 a_71 h11 rfl rfl ?_
                refine wp_if_ne (pc' := 173) (tgt := 177) h12 dX11_goShouts_170 rfl rfl (fun hc => ?_) (fun hc => ?_)
                · have h := h.1 hc
                  refine wp_iload (pc' := 179) (i := 6) rfl dX11_goShouts_177 rfl ?_
                  refine wp_aload_n (pc' := 180) (q := 0) (i := 0) rfl rfl dX11_goShouts_179 rfl ?_
                  refine wp_getRc (pc' := 183) (k := 3) (j := 71) dX11_goShouts_180 vc10 (by decide) rfl lfX11_16 o_68 (r_68_3 hR) rfl ?_
                  refine wp_iload (pc' := 185) (i := 6) rfl dX11_goShouts_183 rfl ?_
                  refine wp_iald (pc' := 186) (j := ((drw (I 68 21) a5 0) % (I 70 0)).toNat) dX11_goShouts_185 a_71 h11 rfl rfl ?_
                  refine wp_if_ne (pc' := 189) (tgt := 201) h12 dX11_goShouts_186 rfl rfl (fun hc => ?_) (fun hc => ?_)
                  · have h := h.1 hc
                    refine wp_iload_n (pc' := 202) (q := 2) (i := 2) rfl rfl dX11_goShouts_201 rfl ?_
                    refine wp_iload (pc' := 204) (i := 5) rfl dX11_goShouts_202 rfl ?_
                    obtain ⟨Q26, hs26, h⟩ := h
                    refine wp_callV (pc' := 207) (as := [vI a1, vI ((drw (I 68 21) a5 0) % (I 70 0)), vI a2, vI a5]) (rest := []) hs26 dX11_goShouts_204 rfl lkX11_233 okX11_trade inX11_trade seX11_trade o_68 vc10 ⟨Nat.le_of_ble_eq_true rfl, Nat.le_of_ble_eq_true rfl⟩ (Nat.le_of_ble_eq_true rfl) (Nat.le_refl _) (Nat.le_refl _) okP_eq okP_eq rfl (rvV rfl (fun I26 R26 hq26 => ?_))
                    obtain ⟨hRR26, h⟩ := h I26 R26 hq26; subst hRR26
                    refine wp_bipush (pc' := 209) (by decide) dX11_goShouts_207 rfl ?_
                    refine wp_istore_n (pc' := 210) (q := 1) (i := 1) (L' := [vR 68, vI (-4), vI a2, vI a3, vI a4, vI a5, vI ((drw (I 68 21) a5 0) % (I 70 0)), vI x6, vI 1]) rfl (by decide) rfl dX11_goShouts_209 rfl rfl ?_
                    refine wp_bipush (pc' := 212) (by decide) dX11_goShouts_210 rfl ?_
                    refine wp_istore_n (pc' := 213) (q := 3) (i := 3) (L' := [vR 68, vI (-4), vI a2, vI (-4), vI a4, vI a5, vI ((drw (I 68 21) a5 0) % (I 70 0)), vI x6, vI 1]) rfl (by decide) rfl dX11_goShouts_212 rfl rfl ?_
                    refine wp_goto (tgt := 274) dX11_goShouts_213 rfl ?_
                    exact wp_dropP (leP_s (leP_s (leP_s (leP_s (leP_s (leP_s (leP_d (leP_d (leP_d leP_n))))))))) h
                  · have h := h.2 hc
                    refine wp_iload (pc' := 191) (i := 4) rfl dX11_goShouts_189 rfl ?_
                    refine wp_aload_n (pc' := 192) (q := 0) (i := 0) rfl rfl dX11_goShouts_191 rfl ?_
                    refine wp_getRc (pc' := 195) (k := 6) (j := 74) dX11_goShouts_192 vc10 (by decide) rfl lfX11_25 o_68 (r_68_6 hR) rfl ?_
                    refine wp_iconst (pc' := 196) dX11_goShouts_195 rfl ?_
                    refine wp_iald (pc' := 197) (j := 1) dX11_goShouts_196 a_74 ⟨by decide, by decide⟩ rfl rfl ?_
                    refine wp_iadd (pc' := 198) dX11_goShouts_197 rfl ?_
                    refine wp_goto (tgt := 202) dX11_goShouts_198 rfl ?_
                    refine wp_iload (pc' := 204) (i := 5) rfl dX11_goShouts_202 rfl ?_
                    obtain ⟨Q27, hs27, h⟩ := h
                    refine wp_callV (pc' := 207) (as := [vI a1, vI ((drw (I 68 21) a5 0) % (I 70 0)), vI (a4 + (I10 74 1)), vI a5]) (rest := []) hs27 dX11_goShouts_204 rfl lkX11_233 okX11_trade inX11_trade seX11_trade o_68 vc10 ⟨Nat.le_of_ble_eq_true rfl, Nat.le_of_ble_eq_true rfl⟩ (Nat.le_of_ble_eq_true rfl) (Nat.le_refl _) (Nat.le_refl _) okP_eq okP_eq rfl (rvV rfl (fun I27 R27 hq27 => ?_))
                    obtain ⟨hRR27, h⟩ := h I27 R27 hq27; subst hRR27
                    refine wp_bipush (pc' := 209) (by decide) dX11_goShouts_207 rfl ?_
                    refine wp_istore_n (pc' := 210) (q := 1) (i := 1) (L' := [vR 68, vI (-4), vI a2, vI a3, vI a4, vI a5, vI ((drw (I 68 21) a5 0) % (I 70 0)), vI x6, vI 1]) rfl (by decide) rfl dX11_goShouts_209 rfl rfl ?_
                    refine wp_bipush (pc' := 212) (by decide) dX11_goShouts_210 rfl ?_
                    refine wp_istore_n (pc' := 213) (q := 3) (i := 3) (L' := [vR 68, vI (-4), vI a2, vI (-4), vI a4, vI a5, vI ((drw (I 68 21) a5 0) % (I 70 0)), vI x6, vI 1]) rfl (by decide) rfl dX11_goShouts_212 rfl rfl ?_
                    refine wp_goto (tgt := 274) dX11_goShouts_213 rfl ?_
                    exact wp_dropP (leP_s (leP_s (leP_s (leP_s (leP_s (leP_s (leP_d (leP_d (leP_d leP_n))))))))) h
                · have h := h.2 hc
                  refine wp_iload_n (pc' := 174) (q := 3) (i := 3) rfl rfl dX11_goShouts_173 rfl ?_
                  refine wp_goto (tgt := 179) dX11_goShouts_174 rfl ?_
                  refine wp_aload_n (pc' := 180) (q := 0) (i := 0) rfl rfl dX11_goShouts_179 rfl ?_
                  refine wp_getRc (pc' := 183) (k := 3) (j := 71) dX11_goShouts_180 vc10 (by decide) rfl lfX11_16 o_68 (r_68_3 hR) rfl ?_
                  refine wp_iload (pc' := 185) (i := 6) rfl dX11_goShouts_183 rfl ?_
                  refine wp_iald (pc' := 186) (j := ((drw (I 68 21) a5 0) % (I 70 0)).toNat) dX11_goShouts_185 a_71 h11 rfl rfl ?_
                  refine wp_if_ne (pc' := 189) (tgt := 201) h12 dX11_goShouts_186 rfl rfl (fun hc => ?_) (fun hc => ?_)
                  · have h := h.1 hc
                    refine wp_iload_n (pc' := 202) (q := 2) (i := 2) rfl rfl dX11_goShouts_201 rfl ?_
                    refine wp_iload (pc' := 204) (i := 5) rfl dX11_goShouts_202 rfl ?_
                    obtain ⟨Q28, hs28, h⟩ := h
                    refine wp_callV (pc' := 207) (as := [vI a1, vI a3, vI a2, vI a5]) (rest := []) hs28 dX11_goShouts_204 rfl lkX11_233 okX11_trade inX11_trade seX11_trade o_68 vc10 ⟨Nat.le_of_ble_eq_true rfl, Nat.le_of_ble_eq_true rfl⟩ (Nat.le_of_ble_eq_true rfl) (Nat.le_refl _) (Nat.le_refl _) okP_eq okP_eq rfl (rvV rfl (fun I28 R28 hq28 => ?_))
                    obtain ⟨hRR28, h⟩ := h I28 R28 hq28; subst hRR28
                    refine wp_bipush (pc' := 209) (by decide) dX11_goShouts_207 rfl ?_
                    refine wp_istore_n (pc' := 210) (q := 1) (i := 1) (L' := [vR 68, vI (-4), vI a2, vI a3, vI a4, vI a5, vI ((drw (I 68 21) a5 0) % (I 70 0)), vI x6, vI 1]) rfl (by decide) rfl dX11_goShouts_209 rfl rfl ?_
                    refine wp_bipush (pc' := 212) (by decide) dX11_goShouts_210 rfl ?_
                    refine wp_istore_n (pc' := 213) (q := 3) (i := 3) (L' := [vR 68, vI (-4), vI a2, vI (-4), vI a4, vI a5, vI ((drw (I 68 21) a5 0) % (I 70 0)), vI x6, vI 1]) rfl (by decide) rfl dX11_goShouts_212 rfl rfl ?_
                    refine wp_goto (tgt := 274) dX11_goShouts_213 rfl ?_
                    exact wp_dropP (leP_s (leP_s (leP_s (leP_s (leP_s (leP_s (leP_d (leP_d (leP_d leP_n))))))))) h
                  · have h := h.2 hc
                    refine wp_iload (pc' := 191) (i := 4) rfl dX11_goShouts_189 rfl ?_
                    refine wp_aload_n (pc' := 192) (q := 0) (i := 0) rfl rfl dX11_goShouts_191 rfl ?_
                    refine wp_getRc (pc' := 195) (k := 6) (j := 74) dX11_goShouts_192 vc10 (by decide) rfl lfX11_25 o_68 (r_68_6 hR) rfl ?_
                    refine wp_iconst (pc' := 196) dX11_goShouts_195 rfl ?_
                    refine wp_iald (pc' := 197) (j := 1) dX11_goShouts_196 a_74 ⟨by decide, by decide⟩ rfl rfl ?_
                    refine wp_iadd (pc' := 198) dX11_goShouts_197 rfl ?_
                    refine wp_goto (tgt := 202) dX11_goShouts_198 rfl ?_
                    refine wp_iload (pc' := 204) (i := 5) rfl dX11_goShouts_202 rfl ?_
                    obtain ⟨Q29, hs29, h⟩ := h
                    refine wp_callV (pc' := 207) (as := [vI a1, vI a3, vI (a4 + (I10 74 1)), vI a5]) (rest := []) hs29 dX11_goShouts_204 rfl lkX11_233 okX11_trade inX11_trade seX11_trade o_68 vc10 ⟨Nat.le_of_ble_eq_true rfl, Nat.le_of_ble_eq_true rfl⟩ (Nat.le_of_ble_eq_true rfl) (Nat.le_refl _) (Nat.le_refl _) okP_eq okP_eq rfl (rvV rfl (fun I29 R29 hq29 => ?_))
                    obtain ⟨hRR29, h⟩ := h I29 R29 hq29; subst hRR29
                    refine wp_bipush (pc' := 209) (by decide) dX11_goShouts_207 rfl ?_
                    refine wp_istore_n (pc' := 210) (q := 1) (i := 1) (L' := [vR 68, vI (-4), vI a2, vI a3, vI a4, vI a5, vI ((drw (I 68 21) a5 0) % (I 70 0)), vI x6, vI 1]) rfl (by decide) rfl dX11_goShouts_209 rfl rfl ?_
                    refine wp_bipush (pc' := 212) (by decide) dX11_goShouts_210 rfl ?_
                    refine wp_istore_n (pc' := 213) (q := 3) (i := 3) (L' := [vR 68, vI (-4), vI a2, vI (-4), vI a4, vI a5, vI ((drw (I 68 21) a5 0) % (I 70 0)), vI x6, vI 1]) rfl (by decide) rfl dX11_goShouts_212 rfl rfl ?_
                    refine wp_goto (tgt := 274) dX11_goShouts_213 rfl ?_
                    exact wp_dropP (leP_s (leP_s (leP_s (leP_s (leP_s (leP_s (leP_d (leP_d (leP_d leP_n))))))))) h
              · have h := h.2 hc
                refine wp_iload (pc' := 159) (i := 6) rfl dX11_goShouts_157 rfl ?_
                refine wp_goto (tgt := 163) dX11_goShouts_159 rfl ?_
                refine wp_aload_n (pc' := 164) (q := 0) (i := 0) rfl rfl dX11_goShouts_163 rfl ?_
                refine wp_getRc (pc' := 167) (k := 3) (j := 71) dX11_goShouts_164 vc10 (by decide) rfl lfX11_16 o_68 (r_68_3 hR) rfl ?_
                refine wp_iload (pc' := 169) (i := 6) rfl dX11_goShouts_167 rfl ?_
                refine wp_iald (pc' := 170) (j := ((drw (I 68 21) a5 0) % (I 70 0)).toNat) dX11_goShouts_169 a_71 h11 rfl rfl ?_
                refine wp_if_ne (pc' := 173) (tgt := 177) h12 dX11_goShouts_170 rfl rfl (fun hc => ?_) (fun hc => ?_)
                · have h := h.1 hc
                  refine wp_iload (pc' := 179) (i := 6) rfl dX11_goShouts_177 rfl ?_
                  refine wp_aload_n (pc' := 180) (q := 0) (i := 0) rfl rfl dX11_goShouts_179 rfl ?_
                  refine wp_getRc (pc' := 183) (k := 3) (j := 71) dX11_goShouts_180 vc10 (by decide) rfl lfX11_16 o_68 (r_68_3 hR) rfl ?_
                  refine wp_iload (pc' := 185) (i := 6) rfl dX11_goShouts_183 rfl ?_
                  refine wp_iald (pc' := 186) (j := ((drw (I 68 21) a5 0) % (I 70 0)).toNat) dX11_goShouts_185 a_71 h11 rfl rfl ?_
                  refine wp_if_ne (pc' := 189) (tgt := 201) h12 dX11_goShouts_186 rfl rfl (fun hc => ?_) (fun hc => ?_)
                  · have h := h.1 hc
                    refine wp_iload_n (pc' := 202) (q := 2) (i := 2) rfl rfl dX11_goShouts_201 rfl ?_
                    refine wp_iload (pc' := 204) (i := 5) rfl dX11_goShouts_202 rfl ?_
                    obtain ⟨Q30, hs30, h⟩ := h
                    refine wp_callV (pc' := 207) (as := [vI ((drw (I 68 21) a5 0) % (I 70 0)), vI ((drw (I 68 21) a5 0) % (I 70 0)), vI a2, vI a5]) (rest := []) hs30 dX11_goShouts_204 rfl lkX11_233 okX11_trade inX11_trade seX11_trade o_68 vc10 ⟨Nat.le_of_ble_eq_true rfl, Nat.le_of_ble_eq_true rfl⟩ (Nat.le_of_ble_eq_true rfl) (Nat.le_refl _) (Nat.le_refl _) okP_eq okP_eq rfl (rvV rfl (fun I30 R30 hq30 => ?_))
                    obtain ⟨hRR30, h⟩ := h I30 R30 hq30; subst hRR30
                    refine wp_bipush (pc' := 209) (by decide) dX11_goShouts_207 rfl ?_
                    refine wp_istore_n (pc' := 210) (q := 1) (i := 1) (L' := [vR 68, vI (-4), vI a2, vI a3, vI a4, vI a5, vI ((drw (I 68 21) a5 0) % (I 70 0)), vI x6, vI 1]) rfl (by decide) rfl dX11_goShouts_209 rfl rfl ?_
                    refine wp_bipush (pc' := 212) (by decide) dX11_goShouts_210 rfl ?_
                    refine wp_istore_n (pc' := 213) (q := 3) (i := 3) (L' := [vR 68, vI (-4), vI a2, vI (-4), vI a4, vI a5, vI ((drw (I 68 21) a5 0) % (I 70 0)), vI x6, vI 1]) rfl (by decide) rfl dX11_goShouts_212 rfl rfl ?_
                    refine wp_goto (tgt := 274) dX11_goShouts_213 rfl ?_
                    exact wp_dropP (leP_s (leP_s (leP_s (leP_s (leP_s (leP_s (leP_d (leP_d (leP_d leP_n))))))))) h
                  · have h := h.2 hc
                    refine wp_iload (pc' := 191) (i := 4) rfl dX11_goShouts_189 rfl ?_
                    refine wp_aload_n (pc' := 192) (q := 0) (i := 0) rfl rfl dX11_goShouts_191 rfl ?_
                    refine wp_getRc (pc' := 195) (k := 6) (j := 74) dX11_goShouts_192 vc10 (by decide) rfl lfX11_25 o_68 (r_68_6 hR) rfl ?_
                    refine wp_iconst (pc' := 196) dX11_goShouts_195 rfl ?_
                    refine wp_iald (pc' := 197) (j := 1) dX11_goShouts_196 a_74 ⟨by decide, by decide⟩ rfl rfl ?_
                    refine wp_iadd (pc' := 198) dX11_goShouts_197 rfl ?_
                    refine wp_goto (tgt := 202) dX11_goShouts_198 rfl ?_
                    refine wp_iload (pc' := 204) (i := 5) rfl dX11_goShouts_202 rfl ?_
                    obtain ⟨Q31, hs31, h⟩ := h
                    refine wp_callV (pc' := 207) (as := [vI ((drw (I 68 21) a5 0) % (I 70 0)), vI ((drw (I 68 21) a5 0) % (I 70 0)), vI (a4 + (I10 74 1)), vI a5]) (rest := []) hs31 dX11_goShouts_204 rfl lkX11_233 okX11_trade inX11_trade seX11_trade o_68 vc10 ⟨Nat.le_of_ble_eq_true rfl, Nat.le_of_ble_eq_true rfl⟩ (Nat.le_of_ble_eq_true rfl) (Nat.le_refl _) (Nat.le_refl _) okP_eq okP_eq rfl (rvV rfl (fun I31 R31 hq31 => ?_))
                    obtain ⟨hRR31, h⟩ := h I31 R31 hq31; subst hRR31
                    refine wp_bipush (pc' := 209) (by decide) dX11_goShouts_207 rfl ?_
                    refine wp_istore_n (pc' := 210) (q := 1) (i := 1) (L' := [vR 68, vI (-4), vI a2, vI a3, vI a4, vI a5, vI ((drw (I 68 21) a5 0) % (I 70 0)), vI x6, vI 1]) rfl (by decide) rfl dX11_goShouts_209 rfl rfl ?_
                    refine wp_bipush (pc' := 212) (by decide) dX11_goShouts_210 rfl ?_
                    refine wp_istore_n (pc' := 213) (q := 3) (i := 3) (L' := [vR 68, vI (-4), vI a2, vI (-4), vI a4, vI a5, vI ((drw (I 68 21) a5 0) % (I 70 0)), vI x6, vI 1]) rfl (by decide) rfl dX11_goShouts_212 rfl rfl ?_
                    refine wp_goto (tgt := 274) dX11_goShouts_213 rfl ?_
                    exact wp_dropP (leP_s (leP_s (leP_s (leP_s (leP_s (leP_s (leP_d (leP_d (leP_d leP_n))))))))) h
                · have h := h.2 hc
                  refine wp_iload_n (pc' := 174) (q := 3) (i := 3) rfl rfl dX11_goShouts_173 rfl ?_
                  refine wp_goto (tgt := 179) dX11_goShouts_174 rfl ?_
                  refine wp_aload_n (pc' := 180) (q := 0) (i := 0) rfl rfl dX11_goShouts_179 rfl ?_
                  refine wp_getRc (pc' := 183) (k := 3) (j := 71) dX11_goShouts_180 vc10 (by decide) rfl lfX11_16 o_68 (r_68_3 hR) rfl ?_
                  refine wp_iload (pc' := 185) (i := 6) rfl dX11_goShouts_183 rfl ?_
                  refine wp_iald (pc' := 186) (j := ((drw (I 68 21) a5 0) % (I 70 0)).toNat) dX11_goShouts_185 a_71 h11 rfl rfl ?_
                  refine wp_if_ne (pc' := 189) (tgt := 201) h12 dX11_goShouts_186 rfl rfl (fun hc => ?_) (fun hc => ?_)
                  · have h := h.1 hc
                    refine wp_iload_n (pc' := 202) (q := 2) (i := 2) rfl rfl dX11_goShouts_201 rfl ?_
                    refine wp_iload (pc' := 204) (i := 5) rfl dX11_goShouts_202 rfl ?_
                    obtain ⟨Q32, hs32, h⟩ := h
                    refine wp_callV (pc' := 207) (as := [vI ((drw (I 68 21) a5 0) % (I 70 0)), vI a3, vI a2, vI a5]) (rest := []) hs32 dX11_goShouts_204 rfl lkX11_233 okX11_trade inX11_trade seX11_trade o_68 vc10 ⟨Nat.le_of_ble_eq_true rfl, Nat.le_of_ble_eq_true rfl⟩ (Nat.le_of_ble_eq_true rfl) (Nat.le_refl _) (Nat.le_refl _) okP_eq okP_eq rfl (rvV rfl (fun I32 R32 hq32 => ?_))
                    obtain ⟨hRR32, h⟩ := h I32 R32 hq32; subst hRR32
                    refine wp_bipush (pc' := 209) (by decide) dX11_goShouts_207 rfl ?_
                    refine wp_istore_n (pc' := 210) (q := 1) (i := 1) (L' := [vR 68, vI (-4), vI a2, vI a3, vI a4, vI a5, vI ((drw (I 68 21) a5 0) % (I 70 0)), vI x6, vI 1]) rfl (by decide) rfl dX11_goShouts_209 rfl rfl ?_
                    refine wp_bipush (pc' := 212) (by decide) dX11_goShouts_210 rfl ?_
                    refine wp_istore_n (pc' := 213) (q := 3) (i := 3) (L' := [vR 68, vI (-4), vI a2, vI (-4), vI a4, vI a5, vI ((drw (I 68 21) a5 0) % (I 70 0)), vI x6, vI 1]) rfl (by decide) rfl dX11_goShouts_212 rfl rfl ?_
                    refine wp_goto (tgt := 274) dX11_goShouts_213 rfl ?_
                    exact wp_dropP (leP_s (leP_s (leP_s (leP_s (leP_s (leP_s (leP_d (leP_d (leP_d leP_n))))))))) h
                  · have h := h.2 hc
                    refine wp_iload (pc' := 191) (i := 4) rfl dX11_goShouts_189 rfl ?_
                    refine wp_aload_n (pc' := 192) (q := 0) (i := 0) rfl rfl dX11_goShouts_191 rfl ?_
                    refine wp_getRc (pc' := 195) (k := 6) (j := 74) dX11_goShouts_192 vc10 (by decide) rfl lfX11_25 o_68 (r_68_6 hR) rfl ?_
                    refine wp_iconst (pc' := 196) dX11_goShouts_195 rfl ?_
                    refine wp_iald (pc' := 197) (j := 1) dX11_goShouts_196 a_74 ⟨by decide, by decide⟩ rfl rfl ?_
                    refine wp_iadd (pc' := 198) dX11_goShouts_197 rfl ?_
                    refine wp_goto (tgt := 202) dX11_goShouts_198 rfl ?_
                    refine wp_iload (pc' := 204) (i := 5) rfl dX11_goShouts_202 rfl ?_
                    obtain ⟨Q33, hs33, h⟩ := h
                    refine wp_callV (pc' := 207) (as := [vI ((drw (I 68 21) a5 0) % (I 70 0)), vI a3, vI (a4 + (I10 74 1)), vI a5]) (rest := []) hs33 dX11_goShouts_204 rfl lkX11_233 okX11_trade inX11_trade seX11_trade o_68 vc10 ⟨Nat.le_of_ble_eq_true rfl, Nat.le_of_ble_eq_true rfl⟩ (Nat.le_of_ble_eq_true rfl) (Nat.le_refl _) (Nat.le_refl _) okP_eq okP_eq rfl (rvV rfl (fun I33 R33 hq33 => ?_))
                    obtain ⟨hRR33, h⟩ := h I33 R33 hq33; subst hRR33
                    refine wp_bipush (pc' := 209) (by decide) dX11_goShouts_207 rfl ?_
                    refine wp_istore_n (pc' := 210) (q := 1) (i := 1) (L' := [vR 68, vI (-4), vI a2, vI a3, vI a4, vI a5, vI ((drw (I 68 21) a5 0) % (I 70 0)), vI x6, vI 1]) rfl (by decide) rfl dX11_goShouts_209 rfl rfl ?_
                    refine wp_bipush (pc' := 212) (by decide) dX11_goShouts_210 rfl ?_
                    refine wp_istore_n (pc' := 213) (q := 3) (i := 3) (L' := [vR 68, vI (-4), vI a2, vI (-4), vI a4, vI a5, vI ((drw (I 68 21) a5 0) % (I 70 0)), vI x6, vI 1]) rfl (by decide) rfl dX11_goShouts_212 rfl rfl ?_
                    refine wp_goto (tgt := 274) dX11_goShouts_213 rfl ?_
                    exact wp_dropP (leP_s (leP_s (leP_s (leP_s (leP_s (leP_s (leP_d (leP_d (leP_d leP_n))))))))) h

set_option maxRecDepth 4000 in
theorem gX11_goShouts_113 {Q : QT} {I : II} {R : RR} (hR : SR R) {a1 : Int} {a2 : Int} {a3 : Int} {a4 : Int} {a5 : Int} {a6 : Int} {a7 : Int}
    (h : (0 ≤ a6 ∧ a6 < 40) ∧
      (InI (I 71 a6.toNat)) ∧
      ((¬ (I 71 a6.toNat) = 0 →
      wp (kN 89) mX11_goShouts Q 245 [vR 68, vI a1, vI a2, vI a3, vI a4, vI a5, vI a6, vI a7, none] [] I R 89) ∧ ((I 71 a6.toNat) = 0 →
      (InI a1) ∧
      ((a1 < 0 →
      wp (kN 89) mX11_goShouts Q 236 [vR 68, none, none, vI a3, vI a4, vI a5, vI a6, vI a7, none] [] I R 89) ∧ (¬ (a1 < 0) →
      (InI a7) ∧
      (InI a2) ∧
      ((a7 ≤ a2 →
      wp (kN 89) mX11_goShouts Q 245 [vR 68, vI a1, vI a2, vI a3, vI a4, vI a5, vI a6, vI a7, none] [] I R 89) ∧ (¬ (a7 ≤ a2) →
      wp (kN 89) mX11_goShouts Q 236 [vR 68, none, none, vI a3, vI a4, vI a5, vI a6, vI a7, none] [] I R 89))))))) : wp (kN 89) mX11_goShouts Q 113 [vR 68, vI a1, vI a2, vI a3, vI a4, vI a5, vI a6, vI a7, none] [] I R 89 := by
  refine wp_iconst (pc' := 114) dX11_goShouts_113 rfl ?_
  refine wp_goto (tgt := 139) dX11_goShouts_114 rfl ?_
  refine wp_istore (pc' := 141) (i := 8) (L' := [vR 68, vI a1, vI a2, vI a3, vI a4, vI a5, vI a6, vI a7, vI 0]) (by decide) rfl dX11_goShouts_139 rfl rfl ?_
  refine wp_iload (pc' := 143) (i := 8) rfl dX11_goShouts_141 rfl ?_
  refine wp_if_eq (pc' := 146) (tgt := 216) ⟨by decide, by decide⟩ dX11_goShouts_143 rfl rfl (fun hc => ?_) (fun hc => by exfalso; revert hc; decide)
  refine wp_aload_n (pc' := 217) (q := 0) (i := 0) rfl rfl dX11_goShouts_216 rfl ?_
  refine wp_getRc (pc' := 220) (k := 3) (j := 71) dX11_goShouts_217 vc10 (by decide) rfl lfX11_16 o_68 (r_68_3 hR) rfl ?_
  refine wp_iload (pc' := 222) (i := 6) rfl dX11_goShouts_220 rfl ?_
  obtain ⟨h1, h⟩ := h
  refine wp_iald (pc' := 223) (j := a6.toNat) dX11_goShouts_222 a_71 h1 rfl rfl ?_
  obtain ⟨h2, h⟩ := h
  refine wp_if_ne (pc' := 226) (tgt := 245) h2 dX11_goShouts_223 rfl rfl (fun hc => ?_) (fun hc => ?_)
  · have h := h.1 hc
    exact wp_dropP (leP_s (leP_s (leP_s (leP_s (leP_s (leP_s (leP_s (leP_s (leP_d leP_n))))))))) h
  · have h := h.2 hc
    refine wp_iload_n (pc' := 227) (q := 1) (i := 1) rfl rfl dX11_goShouts_226 rfl ?_
    obtain ⟨h3, h⟩ := h
    refine wp_if_lt (pc' := 230) (tgt := 236) h3 dX11_goShouts_227 rfl rfl (fun hc => ?_) (fun hc => ?_)
    · have h := h.1 hc
      exact wp_dropP (leP_s (leP_d (leP_d (leP_s (leP_s (leP_s (leP_s (leP_s (leP_d leP_n))))))))) h
    · have h := h.2 hc
      refine wp_iload (pc' := 232) (i := 7) rfl dX11_goShouts_230 rfl ?_
      refine wp_iload_n (pc' := 233) (q := 2) (i := 2) rfl rfl dX11_goShouts_232 rfl ?_
      obtain ⟨h4, h⟩ := h
      obtain ⟨h5, h⟩ := h
      refine wp_icmp_le (pc' := 236) (tgt := 245) h4 h5 dX11_goShouts_233 rfl rfl (fun hc => ?_) (fun hc => ?_)
      · have h := h.1 hc
        exact wp_dropP (leP_s (leP_s (leP_s (leP_s (leP_s (leP_s (leP_s (leP_s (leP_d leP_n))))))))) h
      · have h := h.2 hc
        exact wp_dropP (leP_s (leP_d (leP_d (leP_s (leP_s (leP_s (leP_s (leP_s (leP_d leP_n))))))))) h

set_option maxRecDepth 4000 in
theorem gX11_goShouts_138 {Q : QT} {I : II} {R : RR} (hR : SR R) {a1 : Int} {a2 : Int} {a3 : Int} {a4 : Int} {a5 : Int} {a6 : Int} {a7 : Int}
    (h : (0 ≤ a6 ∧ a6 < 40) ∧
      (InI (I 71 a6.toNat)) ∧
      ((¬ (I 71 a6.toNat) = 0 →
      wp (kN 89) mX11_goShouts Q 245 [vR 68, vI a1, vI a2, vI a3, vI a4, vI a5, vI a6, vI a7, none] [] I R 89) ∧ ((I 71 a6.toNat) = 0 →
      (InI a1) ∧
      ((a1 < 0 →
      wp (kN 89) mX11_goShouts Q 236 [vR 68, none, none, vI a3, vI a4, vI a5, vI a6, vI a7, none] [] I R 89) ∧ (¬ (a1 < 0) →
      (InI a7) ∧
      (InI a2) ∧
      ((a7 ≤ a2 →
      wp (kN 89) mX11_goShouts Q 245 [vR 68, vI a1, vI a2, vI a3, vI a4, vI a5, vI a6, vI a7, none] [] I R 89) ∧ (¬ (a7 ≤ a2) →
      wp (kN 89) mX11_goShouts Q 236 [vR 68, none, none, vI a3, vI a4, vI a5, vI a6, vI a7, none] [] I R 89))))))) : wp (kN 89) mX11_goShouts Q 138 [vR 68, vI a1, vI a2, vI a3, vI a4, vI a5, vI a6, vI a7, none] [] I R 89 := by
  refine wp_iconst (pc' := 139) dX11_goShouts_138 rfl ?_
  refine wp_istore (pc' := 141) (i := 8) (L' := [vR 68, vI a1, vI a2, vI a3, vI a4, vI a5, vI a6, vI a7, vI 0]) (by decide) rfl dX11_goShouts_139 rfl rfl ?_
  refine wp_iload (pc' := 143) (i := 8) rfl dX11_goShouts_141 rfl ?_
  refine wp_if_eq (pc' := 146) (tgt := 216) ⟨by decide, by decide⟩ dX11_goShouts_143 rfl rfl (fun hc => ?_) (fun hc => by exfalso; revert hc; decide)
  refine wp_aload_n (pc' := 217) (q := 0) (i := 0) rfl rfl dX11_goShouts_216 rfl ?_
  refine wp_getRc (pc' := 220) (k := 3) (j := 71) dX11_goShouts_217 vc10 (by decide) rfl lfX11_16 o_68 (r_68_3 hR) rfl ?_
  refine wp_iload (pc' := 222) (i := 6) rfl dX11_goShouts_220 rfl ?_
  obtain ⟨h1, h⟩ := h
  refine wp_iald (pc' := 223) (j := a6.toNat) dX11_goShouts_222 a_71 h1 rfl rfl ?_
  obtain ⟨h2, h⟩ := h
  refine wp_if_ne (pc' := 226) (tgt := 245) h2 dX11_goShouts_223 rfl rfl (fun hc => ?_) (fun hc => ?_)
  · have h := h.1 hc
    exact wp_dropP (leP_s (leP_s (leP_s (leP_s (leP_s (leP_s (leP_s (leP_s (leP_d leP_n))))))))) h
  · have h := h.2 hc
    refine wp_iload_n (pc' := 227) (q := 1) (i := 1) rfl rfl dX11_goShouts_226 rfl ?_
    obtain ⟨h3, h⟩ := h
    refine wp_if_lt (pc' := 230) (tgt := 236) h3 dX11_goShouts_227 rfl rfl (fun hc => ?_) (fun hc => ?_)
    · have h := h.1 hc
      exact wp_dropP (leP_s (leP_d (leP_d (leP_s (leP_s (leP_s (leP_s (leP_s (leP_d leP_n))))))))) h
    · have h := h.2 hc
      refine wp_iload (pc' := 232) (i := 7) rfl dX11_goShouts_230 rfl ?_
      refine wp_iload_n (pc' := 233) (q := 2) (i := 2) rfl rfl dX11_goShouts_232 rfl ?_
      obtain ⟨h4, h⟩ := h
      obtain ⟨h5, h⟩ := h
      refine wp_icmp_le (pc' := 236) (tgt := 245) h4 h5 dX11_goShouts_233 rfl rfl (fun hc => ?_) (fun hc => ?_)
      · have h := h.1 hc
        exact wp_dropP (leP_s (leP_s (leP_s (leP_s (leP_s (leP_s (leP_s (leP_s (leP_d leP_n))))))))) h
      · have h := h.2 hc
        exact wp_dropP (leP_s (leP_d (leP_d (leP_s (leP_s (leP_s (leP_s (leP_s (leP_d leP_n))))))))) h

set_option maxRecDepth 4000 in
theorem gX11_goShouts_236 {Q : QT} {I : II} {R : RR} (hR : SR R) {a3 : Int} {a4 : Int} {a5 : Int} {a6 : Int} {a7 : Int}
    (h : wp (kN 89) mX11_goShouts Q 274 [vR 68, vI a6, vI a7, vI a3, vI a4, vI a5, none, none, none] [] I R 89) : wp (kN 89) mX11_goShouts Q 236 [vR 68, none, none, vI a3, vI a4, vI a5, vI a6, vI a7, none] [] I R 89 := by
  refine wp_iload (pc' := 238) (i := 6) rfl dX11_goShouts_236 rfl ?_
  refine wp_istore_n (pc' := 239) (q := 1) (i := 1) (L' := [vR 68, vI a6, none, vI a3, vI a4, vI a5, vI a6, vI a7, none]) rfl (by decide) rfl dX11_goShouts_238 rfl rfl ?_
  refine wp_iload (pc' := 241) (i := 7) rfl dX11_goShouts_239 rfl ?_
  refine wp_istore_n (pc' := 242) (q := 2) (i := 2) (L' := [vR 68, vI a6, vI a7, vI a3, vI a4, vI a5, vI a6, vI a7, none]) rfl (by decide) rfl dX11_goShouts_241 rfl rfl ?_
  refine wp_goto (tgt := 274) dX11_goShouts_242 rfl ?_
  exact wp_dropP (leP_s (leP_s (leP_s (leP_s (leP_s (leP_s (leP_d (leP_d (leP_s leP_n))))))))) h

set_option maxRecDepth 4000 in
theorem gX11_goShouts_245 {Q : QT} {I : II} {R : RR} (hR : SR R) {a1 : Int} {a2 : Int} {a3 : Int} {a4 : Int} {a5 : Int} {a6 : Int} {a7 : Int}
    (h : (0 ≤ a6 ∧ a6 < 40) ∧
      (InI (I 71 a6.toNat)) ∧
      ((¬ (I 71 a6.toNat) = (1 : Int) →
      wp (kN 89) mX11_goShouts Q 274 [vR 68, vI a1, vI a2, vI a3, vI a4, vI a5, none, none, none] [] I R 89) ∧ ((I 71 a6.toNat) = (1 : Int) →
      (InI a3) ∧
      ((a3 < 0 →
      wp (kN 89) mX11_goShouts Q 267 [vR 68, vI a1, vI a2, none, none, vI a5, vI a6, vI a7, none] [] I R 89) ∧ (¬ (a3 < 0) →
      (InI a7) ∧
      (InI a4) ∧
      ((a4 ≤ a7 →
      wp (kN 89) mX11_goShouts Q 274 [vR 68, vI a1, vI a2, vI a3, vI a4, vI a5, none, none, none] [] I R 89) ∧ (¬ (a4 ≤ a7) →
      wp (kN 89) mX11_goShouts Q 267 [vR 68, vI a1, vI a2, none, none, vI a5, vI a6, vI a7, none] [] I R 89))))))) : wp (kN 89) mX11_goShouts Q 245 [vR 68, vI a1, vI a2, vI a3, vI a4, vI a5, vI a6, vI a7, none] [] I R 89 := by
  refine wp_aload_n (pc' := 246) (q := 0) (i := 0) rfl rfl dX11_goShouts_245 rfl ?_
  refine wp_getRc (pc' := 249) (k := 3) (j := 71) dX11_goShouts_246 vc10 (by decide) rfl lfX11_16 o_68 (r_68_3 hR) rfl ?_
  refine wp_iload (pc' := 251) (i := 6) rfl dX11_goShouts_249 rfl ?_
  obtain ⟨h1, h⟩ := h
  refine wp_iald (pc' := 252) (j := a6.toNat) dX11_goShouts_251 a_71 h1 rfl rfl ?_
  refine wp_iconst (pc' := 253) dX11_goShouts_252 rfl ?_
  obtain ⟨h2, h⟩ := h
  refine wp_icmp_ne (pc' := 256) (tgt := 274) h2 ⟨by decide, by decide⟩ dX11_goShouts_253 rfl rfl (fun hc => ?_) (fun hc => ?_)
  · have h := h.1 hc
    exact wp_dropP (leP_s (leP_s (leP_s (leP_s (leP_s (leP_s (leP_d (leP_d (leP_s leP_n))))))))) h
  · have h := h.2 hc
    refine wp_iload_n (pc' := 257) (q := 3) (i := 3) rfl rfl dX11_goShouts_256 rfl ?_
    obtain ⟨h3, h⟩ := h
    refine wp_if_lt (pc' := 260) (tgt := 267) h3 dX11_goShouts_257 rfl rfl (fun hc => ?_) (fun hc => ?_)
    · have h := h.1 hc
      exact wp_dropP (leP_s (leP_s (leP_s (leP_d (leP_d (leP_s (leP_s (leP_s (leP_s leP_n))))))))) h
    · have h := h.2 hc
      refine wp_iload (pc' := 262) (i := 7) rfl dX11_goShouts_260 rfl ?_
      refine wp_iload (pc' := 264) (i := 4) rfl dX11_goShouts_262 rfl ?_
      obtain ⟨h4, h⟩ := h
      obtain ⟨h5, h⟩ := h
      refine wp_icmp_ge (pc' := 267) (tgt := 274) h4 h5 dX11_goShouts_264 rfl rfl (fun hc => ?_) (fun hc => ?_)
      · have h := h.1 hc
        exact wp_dropP (leP_s (leP_s (leP_s (leP_s (leP_s (leP_s (leP_d (leP_d (leP_s leP_n))))))))) h
      · have h := h.2 hc
        exact wp_dropP (leP_s (leP_s (leP_s (leP_d (leP_d (leP_s (leP_s (leP_s (leP_s leP_n))))))))) h

set_option maxRecDepth 4000 in
theorem gX11_goShouts_267 {Q : QT} {I : II} {R : RR} (hR : SR R) {a1 : Int} {a2 : Int} {a5 : Int} {a6 : Int} {a7 : Int}
    (h : wp (kN 89) mX11_goShouts Q 274 [vR 68, vI a1, vI a2, vI a6, vI a7, vI a5, none, none, none] [] I R 89) : wp (kN 89) mX11_goShouts Q 267 [vR 68, vI a1, vI a2, none, none, vI a5, vI a6, vI a7, none] [] I R 89 := by
  refine wp_iload (pc' := 269) (i := 6) rfl dX11_goShouts_267 rfl ?_
  refine wp_istore_n (pc' := 270) (q := 3) (i := 3) (L' := [vR 68, vI a1, vI a2, vI a6, none, vI a5, vI a6, vI a7, none]) rfl (by decide) rfl dX11_goShouts_269 rfl rfl ?_
  refine wp_iload (pc' := 272) (i := 7) rfl dX11_goShouts_270 rfl ?_
  refine wp_istore (pc' := 274) (i := 4) (L' := [vR 68, vI a1, vI a2, vI a6, vI a7, vI a5, vI a6, vI a7, none]) (by decide) rfl dX11_goShouts_272 rfl rfl ?_
  exact wp_dropP (leP_s (leP_s (leP_s (leP_s (leP_s (leP_s (leP_d (leP_d (leP_s leP_n))))))))) h

set_option maxRecDepth 4000 in
theorem gX11_goShouts_274 {Q : QT} {I : II} {R : RR} (hR : SR R) {a1 : Int} {a2 : Int} {a3 : Int} {a4 : Int} {a5 : Int}
    (h : wp (kN 89) mX11_goShouts Q 14 [vR 68, vI a1, vI a2, vI a3, vI a4, vI (a5 + 1), none, none, none] [] I R 89) : wp (kN 89) mX11_goShouts Q 274 [vR 68, vI a1, vI a2, vI a3, vI a4, vI a5, none, none, none] [] I R 89 := by
  refine wp_iinc (pc' := 277) (i := 5) (L' := [vR 68, vI a1, vI a2, vI a3, vI a4, vI (a5 + 1), none, none, none]) rfl (by decide) rfl dX11_goShouts_274 rfl rfl ?_
  refine wp_goto (tgt := 14) dX11_goShouts_277 rfl ?_
  exact h

theorem sX11_personOf {Q : QT} {I : II} {R : RR} {a1 : Int} {a2 : Int} (h : wp (kN 89) mX11_personOf Q 0 [vR 68, vI a1, vI a2, none, none] [] I R 89) : Spec mX11_personOf [vR 68, vI a1, vI a2] I R 89 89 Q := Spec_of_wp pyX11_personOf rfl (Nat.le_of_ble_eq_true rfl) (Nat.le_refl _) (by decide) h

set_option maxRecDepth 4000 in
theorem gX11_personOf_0 {Q : QT} {I : II} {R : RR} (hR : SR R) {a1 : Int} {a2 : Int}
    (h : wp (kN 89) mX11_personOf Q 5 [vR 68, vI a1, none, vI a2, vI 0] [] I R 89) : wp (kN 89) mX11_personOf Q 0 [vR 68, vI a1, vI a2, none, none] [] I R 89 := by
  refine wp_iload_n (pc' := 1) (q := 2) (i := 2) rfl rfl dX11_personOf_0 rfl ?_
  refine wp_istore_n (pc' := 2) (q := 3) (i := 3) (L' := [vR 68, vI a1, vI a2, vI a2, none]) rfl (by decide) rfl dX11_personOf_1 rfl rfl ?_
  refine wp_iconst (pc' := 3) dX11_personOf_2 rfl ?_
  refine wp_istore (pc' := 5) (i := 4) (L' := [vR 68, vI a1, vI a2, vI a2, vI 0]) (by decide) rfl dX11_personOf_3 rfl rfl ?_
  exact wp_dropP (leP_s (leP_s (leP_d (leP_s (leP_s leP_n))))) h

set_option maxRecDepth 4000 in
theorem gX11_personOf_5 {Q : QT} {I : II} {R : RR} (hR : SR R) {a1 : Int} {a3 : Int} {a4 : Int}
    (h : (0 ≤ a4 ∧ a4 < 40) ∧
      (InI (I 71 a4.toNat)) ∧
      (InI a1) ∧
      ((¬ (I 71 a4.toNat) = a1 →
      wp (kN 89) mX11_personOf Q 20 [vR 68, vI a1, none, vI a3, vI a4] [] I R 89) ∧ ((I 71 a4.toNat) = a1 →
      (InI a3) ∧
      ((a3 ≤ 0 →
      Q (vI a4) I R) ∧ (¬ (a3 ≤ 0) →
      wp (kN 89) mX11_personOf Q 20 [vR 68, vI a1, none, vI a3, vI a4] [] I R 89))))) : wp (kN 89) mX11_personOf Q 5 [vR 68, vI a1, none, vI a3, vI a4] [] I R 89 := by
  refine wp_aload_n (pc' := 6) (q := 0) (i := 0) rfl rfl dX11_personOf_5 rfl ?_
  refine wp_getRc (pc' := 9) (k := 3) (j := 71) dX11_personOf_6 vc10 (by decide) rfl lfX11_16 o_68 (r_68_3 hR) rfl ?_
  refine wp_iload (pc' := 11) (i := 4) rfl dX11_personOf_9 rfl ?_
  obtain ⟨h1, h⟩ := h
  refine wp_iald (pc' := 12) (j := a4.toNat) dX11_personOf_11 a_71 h1 rfl rfl ?_
  refine wp_iload_n (pc' := 13) (q := 1) (i := 1) rfl rfl dX11_personOf_12 rfl ?_
  obtain ⟨h2, h⟩ := h
  obtain ⟨h3, h⟩ := h
  refine wp_icmp_ne (pc' := 16) (tgt := 20) h2 h3 dX11_personOf_13 rfl rfl (fun hc => ?_) (fun hc => ?_)
  · have h := h.1 hc
    exact h
  · have h := h.2 hc
    refine wp_iload_n (pc' := 17) (q := 3) (i := 3) rfl rfl dX11_personOf_16 rfl ?_
    obtain ⟨h4, h⟩ := h
    refine wp_if_le (pc' := 20) (tgt := 45) h4 dX11_personOf_17 rfl rfl (fun hc => ?_) (fun hc => ?_)
    · have h := h.1 hc
      refine wp_iload (pc' := 47) (i := 4) rfl dX11_personOf_45 rfl ?_
      exact wp_ireturn dX11_personOf_47 rfl rfl h
    · have h := h.2 hc
      exact h

set_option maxRecDepth 4000 in
theorem gX11_personOf_20 {Q : QT} {I : II} {R : RR} (hR : SR R) {a1 : Int} {a3 : Int} {a4 : Int}
    (h : (0 ≤ a4 ∧ a4 < 40) ∧
      (InI (I 71 a4.toNat)) ∧
      (InI a1) ∧
      ((¬ (I 71 a4.toNat) = a1 →
      wp (kN 89) mX11_personOf Q 5 [vR 68, vI a1, none, vI (a3 - 0), vI (a4 + 1)] [] I R 89) ∧ ((I 71 a4.toNat) = a1 →
      wp (kN 89) mX11_personOf Q 5 [vR 68, vI a1, none, vI (a3 - 1), vI (a4 + 1)] [] I R 89))) : wp (kN 89) mX11_personOf Q 20 [vR 68, vI a1, none, vI a3, vI a4] [] I R 89 := by
  refine wp_iload_n (pc' := 21) (q := 3) (i := 3) rfl rfl dX11_personOf_20 rfl ?_
  refine wp_aload_n (pc' := 22) (q := 0) (i := 0) rfl rfl dX11_personOf_21 rfl ?_
  refine wp_getRc (pc' := 25) (k := 3) (j := 71) dX11_personOf_22 vc10 (by decide) rfl lfX11_16 o_68 (r_68_3 hR) rfl ?_
  refine wp_iload (pc' := 27) (i := 4) rfl dX11_personOf_25 rfl ?_
  obtain ⟨h1, h⟩ := h
  refine wp_iald (pc' := 28) (j := a4.toNat) dX11_personOf_27 a_71 h1 rfl rfl ?_
  refine wp_iload_n (pc' := 29) (q := 1) (i := 1) rfl rfl dX11_personOf_28 rfl ?_
  obtain ⟨h2, h⟩ := h
  obtain ⟨h3, h⟩ := h
  refine wp_icmp_ne (pc' := 32) (tgt := 36) h2 h3 dX11_personOf_29 rfl rfl (fun hc => ?_) (fun hc => ?_)
  · have h := h.1 hc
    refine wp_iconst (pc' := 37) dX11_personOf_36 rfl ?_
    refine wp_isub (pc' := 38) dX11_personOf_37 rfl ?_
    refine wp_istore_n (pc' := 39) (q := 3) (i := 3) (L' := [vR 68, vI a1, none, vI (a3 - 0), vI a4]) rfl (by decide) rfl dX11_personOf_38 rfl rfl ?_
    refine wp_iinc (pc' := 42) (i := 4) (L' := [vR 68, vI a1, none, vI (a3 - 0), vI (a4 + 1)]) rfl (by decide) rfl dX11_personOf_39 rfl rfl ?_
    refine wp_goto (tgt := 5) dX11_personOf_42 rfl ?_
    exact h
  · have h := h.2 hc
    refine wp_iconst (pc' := 33) dX11_personOf_32 rfl ?_
    refine wp_goto (tgt := 37) dX11_personOf_33 rfl ?_
    refine wp_isub (pc' := 38) dX11_personOf_37 rfl ?_
    refine wp_istore_n (pc' := 39) (q := 3) (i := 3) (L' := [vR 68, vI a1, none, vI (a3 - 1), vI a4]) rfl (by decide) rfl dX11_personOf_38 rfl rfl ?_
    refine wp_iinc (pc' := 42) (i := 4) (L' := [vR 68, vI a1, none, vI (a3 - 1), vI (a4 + 1)]) rfl (by decide) rfl dX11_personOf_39 rfl rfl ?_
    refine wp_goto (tgt := 5) dX11_personOf_42 rfl ?_
    exact h

theorem sX11_goPairs {Q : QT} {I : II} {R : RR}  (h : wp (kN 89) mX11_goPairs Q 0 [vR 68, none, none, none, none] [] I R 89) : Spec mX11_goPairs [vR 68] I R 89 89 Q := Spec_of_wp pyX11_goPairs rfl (Nat.le_of_ble_eq_true rfl) (Nat.le_refl _) (by decide) h

set_option maxRecDepth 4000 in
theorem gX11_goPairs_0 {Q : QT} {I : II} {R : RR} (hR : SR R) 
    (h : wp (kN 89) mX11_goPairs Q 2 [vR 68, vI 0, none, none, none] [] I R 89) : wp (kN 89) mX11_goPairs Q 0 [vR 68, none, none, none, none] [] I R 89 := by
  refine wp_iconst (pc' := 1) dX11_goPairs_0 rfl ?_
  refine wp_istore_n (pc' := 2) (q := 1) (i := 1) (L' := [vR 68, vI 0, none, none, none]) rfl (by decide) rfl dX11_goPairs_1 rfl rfl ?_
  exact h

set_option maxRecDepth 4000 in
theorem gX11_goPairs_2 {Q : QT} {I : II} {R : RR} (hR : SR R) {a1 : Int}
    (h : (InI a1) ∧
      (InI (I 74 0)) ∧
      (((I 74 0) ≤ a1 →
      Q none I R) ∧ (¬ (I 74 0) ≤ a1 →
      (0 ≤ I 68 21 ∧ I 68 21 ≤ 9999 ∧ 0 ≤ a1 ∧ a1 ≤ 300 ∧ 0 ≤ (0 : Int) ∧ (0 : Int) ≤ 5) ∧
      (∃ Q5 : QT, Spec mX11_manyOf [vR 68, vI 0] I R 89 89 Q5 ∧ (∀ x5 I5 R5, Q5 (vI x5) I5 R5 →
      R = R5 ∧ (0 ≤ (drw (I 68 21) a1 0) ∧ (drw (I 68 21) a1 0) ≤ 2147483647 ∧ 0 < x5 ∧ x5 ≤ 2147483647) ∧
      (∃ Q7 : QT, Spec mX11_personOf [vR 68, vI 0, vI ((drw (I 68 21) a1 0) % x5)] I5 R 89 89 Q7 ∧ (∀ x7 I7 R7, Q7 (vI x7) I7 R7 →
      R = R7 ∧ (0 ≤ I7 68 21 ∧ I7 68 21 ≤ 9999 ∧ 0 ≤ a1 ∧ a1 ≤ 300 ∧ 0 ≤ (2 : Int) ∧ (2 : Int) ≤ 5) ∧
      (∃ Q10 : QT, Spec mX11_manyOf [vR 68, vI 1] I7 R 89 89 Q10 ∧ (∀ x10 I10 R10, Q10 (vI x10) I10 R10 →
      R = R10 ∧ (0 ≤ (drw (I7 68 21) a1 2) ∧ (drw (I7 68 21) a1 2) ≤ 2147483647 ∧ 0 < x10 ∧ x10 ≤ 2147483647) ∧
      (∃ Q12 : QT, Spec mX11_personOf [vR 68, vI 1, vI ((drw (I7 68 21) a1 2) % x10)] I10 R 89 89 Q12 ∧ (∀ x12 I12 R12, Q12 (vI x12) I12 R12 →
      R = R12 ∧ (0 ≤ x7 ∧ x7 < 20) ∧
      (InI (I12 85 x7.toNat)) ∧
      ((¬ (I12 85 x7.toNat) = (-4 : Int) →
      wp (kN 89) mX11_goPairs Q 121 [vR 68, vI a1, none, none, none] [] I12 R 89) ∧ ((I12 85 x7.toNat) = (-4 : Int) →
      (0 ≤ x12 ∧ x12 < 20) ∧
      (InI (I12 85 x12.toNat)) ∧
      ((¬ (I12 85 x12.toNat) = (-4 : Int) →
      wp (kN 89) mX11_goPairs Q 121 [vR 68, vI a1, none, none, none] [] I12 R 89) ∧ ((I12 85 x12.toNat) = (-4 : Int) →
      (∃ Q17 : QT, Spec mX11_shoutOf [vR 68, vI x12, vI a1, vI a1, vI 3] I12 R 89 89 Q17 ∧ (∀ x17 I17 R17, Q17 (vI x17) I17 R17 →
      R = R17 ∧ (InI x17) ∧
      ((x17 < 0 →
      wp (kN 89) mX11_goPairs Q 121 [vR 68, vI a1, none, none, none] [] I17 R 89) ∧ (¬ (x17 < 0) →
      (∃ Q19 : QT, Spec mX11_shoutOf [vR 68, vI x7, vI a1, vI a1, vI 1] I17 R 89 89 Q19 ∧ (∀ x19 I19 R19, Q19 (vI x19) I19 R19 →
      R = R19 ∧ (InI x19) ∧
      (InI (x17 + (I19 74 1))) ∧
      ((x19 < (x17 + (I19 74 1)) →
      wp (kN 89) mX11_goPairs Q 121 [vR 68, vI a1, none, none, none] [] I19 R 89) ∧ (¬ (x19 < (x17 + (I19 74 1))) →
      (∃ Q22 : QT, Spec mX11_trade [vR 68, vI x7, vI x12, vI (x17 + (I19 74 1)), vI a1] I19 R 89 89 Q22 ∧ (∀ I22 R22, Q22 none I22 R22 →
      R = R22 ∧ wp (kN 89) mX11_goPairs Q 121 [vR 68, vI a1, none, none, none] [] I22 R 89))))))))))))))))))))))))) : wp (kN 89) mX11_goPairs Q 2 [vR 68, vI a1, none, none, none] [] I R 89 := by
  refine wp_iload_n (pc' := 3) (q := 1) (i := 1) rfl rfl dX11_goPairs_2 rfl ?_
  refine wp_aload_n (pc' := 4) (q := 0) (i := 0) rfl rfl dX11_goPairs_3 rfl ?_
  refine wp_getRc (pc' := 7) (k := 6) (j := 74) dX11_goPairs_4 vc10 (by decide) rfl lfX11_25 o_68 (r_68_6 hR) rfl ?_
  refine wp_iconst (pc' := 8) dX11_goPairs_7 rfl ?_
  refine wp_iald (pc' := 9) (j := 0) dX11_goPairs_8 a_74 ⟨by decide, by decide⟩ rfl rfl ?_
  obtain ⟨h1, h⟩ := h
  obtain ⟨h2, h⟩ := h
  refine wp_icmp_ge (pc' := 12) (tgt := 127) h1 h2 dX11_goPairs_9 rfl rfl (fun hc => ?_) (fun hc => ?_)
  · have h := h.1 hc
    exact wp_vreturn dX11_goPairs_127 rfl rfl h
  · have h := h.2 hc
    refine wp_aload_n (pc' := 13) (q := 0) (i := 0) rfl rfl dX11_goPairs_12 rfl ?_
    refine wp_iconst (pc' := 14) dX11_goPairs_13 rfl ?_
    refine wp_aload_n (pc' := 15) (q := 0) (i := 0) rfl rfl dX11_goPairs_14 rfl ?_
    refine wp_iload_n (pc' := 16) (q := 1) (i := 1) rfl rfl dX11_goPairs_15 rfl ?_
    refine wp_iconst (pc' := 17) dX11_goPairs_16 rfl ?_
    obtain ⟨h4, h⟩ := h
    refine wp_callV (pc' := 20) (as := [vI a1, vI 0]) (rest := [vI 0, vR 68]) (pX11_draw hR h4) dX11_goPairs_17 rfl lkX11_199 okX11_draw inX11_draw seX11_draw o_68 vc10 ⟨Nat.le_of_ble_eq_true rfl, Nat.le_of_ble_eq_true rfl⟩ (Nat.le_of_ble_eq_true rfl) (Nat.le_refl _) (Nat.le_refl _) okP_eq okP_eq rfl (rvI rfl (fun x3 I3 R3 hq3 => ?_))
    obtain ⟨eR3, eI3, ex3⟩ := hq3; subst eR3; subst eI3; cases ex3
    refine wp_aload_n (pc' := 21) (q := 0) (i := 0) rfl rfl dX11_goPairs_20 rfl ?_
    refine wp_iconst (pc' := 22) dX11_goPairs_21 rfl ?_
    obtain ⟨Q5, hs5, h⟩ := h
    refine wp_callV (pc' := 25) (as := [vI 0]) (rest := [vI (drw (I 68 21) a1 0), vI 0, vR 68]) hs5 dX11_goPairs_22 rfl lkX11_169 okX11_manyOf inX11_manyOf seX11_manyOf o_68 vc10 ⟨Nat.le_of_ble_eq_true rfl, Nat.le_of_ble_eq_true rfl⟩ (Nat.le_of_ble_eq_true rfl) (Nat.le_refl _) (Nat.le_refl _) okP_eq okP_eq rfl (rvI rfl (fun x5 I5 R5 hq5 => ?_))
    obtain ⟨hRR5, h⟩ := h x5 I5 R5 hq5; subst hRR5
    obtain ⟨h6, h⟩ := h
    refine wp_irem (pc' := 26) h6 dX11_goPairs_25 rfl ?_
    obtain ⟨Q7, hs7, h⟩ := h
    refine wp_callV (pc' := 29) (as := [vI 0, vI ((drw (I 68 21) a1 0) % x5)]) (rest := []) hs7 dX11_goPairs_26 rfl lkX11_237 okX11_personOf inX11_personOf seX11_personOf o_68 vc10 ⟨Nat.le_of_ble_eq_true rfl, Nat.le_of_ble_eq_true rfl⟩ (Nat.le_of_ble_eq_true rfl) (Nat.le_refl _) (Nat.le_refl _) okP_eq okP_eq rfl (rvI rfl (fun x7 I7 R7 hq7 => ?_))
    obtain ⟨hRR7, h⟩ := h x7 I7 R7 hq7; subst hRR7
    refine wp_istore_n (pc' := 30) (q := 2) (i := 2) (L' := [vR 68, vI a1, vI x7, none, none]) rfl (by decide) rfl dX11_goPairs_29 rfl rfl ?_
    refine wp_aload_n (pc' := 31) (q := 0) (i := 0) rfl rfl dX11_goPairs_30 rfl ?_
    refine wp_iconst (pc' := 32) dX11_goPairs_31 rfl ?_
    refine wp_aload_n (pc' := 33) (q := 0) (i := 0) rfl rfl dX11_goPairs_32 rfl ?_
    refine wp_iload_n (pc' := 34) (q := 1) (i := 1) rfl rfl dX11_goPairs_33 rfl ?_
    refine wp_iconst (pc' := 35) dX11_goPairs_34 rfl ?_
    obtain ⟨h9, h⟩ := h
    refine wp_callV (pc' := 38) (as := [vI a1, vI 2]) (rest := [vI 1, vR 68]) (pX11_draw hR h9) dX11_goPairs_35 rfl lkX11_199 okX11_draw inX11_draw seX11_draw o_68 vc10 ⟨Nat.le_of_ble_eq_true rfl, Nat.le_of_ble_eq_true rfl⟩ (Nat.le_of_ble_eq_true rfl) (Nat.le_refl _) (Nat.le_refl _) okP_eq okP_eq rfl (rvI rfl (fun x8 I8 R8 hq8 => ?_))
    obtain ⟨eR8, eI8, ex8⟩ := hq8; subst eR8; subst eI8; cases ex8
    refine wp_aload_n (pc' := 39) (q := 0) (i := 0) rfl rfl dX11_goPairs_38 rfl ?_
    refine wp_iconst (pc' := 40) dX11_goPairs_39 rfl ?_
    obtain ⟨Q10, hs10, h⟩ := h
    refine wp_callV (pc' := 43) (as := [vI 1]) (rest := [vI (drw (I7 68 21) a1 2), vI 1, vR 68]) hs10 dX11_goPairs_40 rfl lkX11_169 okX11_manyOf inX11_manyOf seX11_manyOf o_68 vc10 ⟨Nat.le_of_ble_eq_true rfl, Nat.le_of_ble_eq_true rfl⟩ (Nat.le_of_ble_eq_true rfl) (Nat.le_refl _) (Nat.le_refl _) okP_eq okP_eq rfl (rvI rfl (fun x10 I10 R10 hq10 => ?_))
    obtain ⟨hRR10, h⟩ := h x10 I10 R10 hq10; subst hRR10
    obtain ⟨h11, h⟩ := h
    refine wp_irem (pc' := 44) h11 dX11_goPairs_43 rfl ?_
    obtain ⟨Q12, hs12, h⟩ := h
    refine wp_callV (pc' := 47) (as := [vI 1, vI ((drw (I7 68 21) a1 2) % x10)]) (rest := []) hs12 dX11_goPairs_44 rfl lkX11_237 okX11_personOf inX11_personOf seX11_personOf o_68 vc10 ⟨Nat.le_of_ble_eq_true rfl, Nat.le_of_ble_eq_true rfl⟩ (Nat.le_of_ble_eq_true rfl) (Nat.le_refl _) (Nat.le_refl _) okP_eq okP_eq rfl (rvI rfl (fun x12 I12 R12 hq12 => ?_))
    obtain ⟨hRR12, h⟩ := h x12 I12 R12 hq12; subst hRR12
    refine wp_istore_n (pc' := 48) (q := 3) (i := 3) (L' := [vR 68, vI a1, vI x7, vI x12, none]) rfl (by decide) rfl dX11_goPairs_47 rfl rfl ?_
    refine wp_aload_n (pc' := 49) (q := 0) (i := 0) rfl rfl dX11_goPairs_48 rfl ?_
    refine wp_getRc (pc' := 52) (k := 23) (j := 85) dX11_goPairs_49 vc10 (by decide) rfl lfX11_58 o_68 (r_68_23 hR) rfl ?_
    refine wp_iload_n (pc' := 53) (q := 2) (i := 2) rfl rfl dX11_goPairs_52 rfl ?_
    obtain ⟨h13, h⟩ := h
    refine wp_iald (pc' := 54) (j := x7.toNat) dX11_goPairs_53 a_85 h13 rfl rfl ?_
    refine wp_bipush (pc' := 56) (by decide) dX11_goPairs_54 rfl ?_
    obtain ⟨h14, h⟩ := h
    refine wp_icmp_ne (pc' := 59) (tgt := 121) h14 ⟨by decide, by decide⟩ dX11_goPairs_56 rfl rfl (fun hc => ?_) (fun hc => ?_)
    · have h := h.1 hc
      exact wp_dropP (leP_s (leP_s (leP_d (leP_d (leP_s leP_n))))) h
    · have h := h.2 hc
      refine wp_aload_n (pc' := 60) (q := 0) (i := 0) rfl rfl dX11_goPairs_59 rfl ?_
      refine wp_getRc (pc' := 63) (k := 23) (j := 85) dX11_goPairs_60 vc10 (by decide) rfl lfX11_58 o_68 (r_68_23 hR) rfl ?_
      refine wp_iload_n (pc' := 64) (q := 3) (i := 3) rfl rfl dX11_goPairs_63 rfl ?_
      obtain ⟨h15, h⟩ := h
      refine wp_iald (pc' := 65) (j := x12.toNat) dX11_goPairs_64 a_85 h15 rfl rfl ?_
      refine wp_bipush (pc' := 67) (by decide) dX11_goPairs_65 rfl ?_
      obtain ⟨h16, h⟩ := h
      refine wp_icmp_ne (pc' := 70) (tgt := 121) h16 ⟨by decide, by decide⟩ dX11_goPairs_67 rfl rfl (fun hc => ?_) (fun hc => ?_)
      · have h := h.1 hc
        exact wp_dropP (leP_s (leP_s (leP_d (leP_d (leP_s leP_n))))) h
      · have h := h.2 hc
        refine wp_aload_n (pc' := 71) (q := 0) (i := 0) rfl rfl dX11_goPairs_70 rfl ?_
        refine wp_iload_n (pc' := 72) (q := 3) (i := 3) rfl rfl dX11_goPairs_71 rfl ?_
        refine wp_iload_n (pc' := 73) (q := 1) (i := 1) rfl rfl dX11_goPairs_72 rfl ?_
        refine wp_iload_n (pc' := 74) (q := 1) (i := 1) rfl rfl dX11_goPairs_73 rfl ?_
        refine wp_iconst (pc' := 75) dX11_goPairs_74 rfl ?_
        obtain ⟨Q17, hs17, h⟩ := h
        refine wp_callV (pc' := 78) (as := [vI x12, vI a1, vI a1, vI 3]) (rest := []) hs17 dX11_goPairs_75 rfl lkX11_225 okX11_shoutOf inX11_shoutOf seX11_shoutOf o_68 vc10 ⟨Nat.le_of_ble_eq_true rfl, Nat.le_of_ble_eq_true rfl⟩ (Nat.le_of_ble_eq_true rfl) (Nat.le_refl _) (Nat.le_refl _) okP_eq okP_eq rfl (rvI rfl (fun x17 I17 R17 hq17 => ?_))
        obtain ⟨hRR17, h⟩ := h x17 I17 R17 hq17; subst hRR17
        refine wp_istore (pc' := 80) (i := 4) (L' := [vR 68, vI a1, vI x7, vI x12, vI x17]) (by decide) rfl dX11_goPairs_78 rfl rfl ?_
        refine wp_iload (pc' := 82) (i := 4) rfl dX11_goPairs_80 rfl ?_
        obtain ⟨h18, h⟩ := h
        refine wp_if_lt (pc' := 85) (tgt := 121) h18 dX11_goPairs_82 rfl rfl (fun hc => ?_) (fun hc => ?_)
        · have h := h.1 hc
          exact wp_dropP (leP_s (leP_s (leP_d (leP_d (leP_d leP_n))))) h
        · have h := h.2 hc
          refine wp_aload_n (pc' := 86) (q := 0) (i := 0) rfl rfl dX11_goPairs_85 rfl ?_
          refine wp_iload_n (pc' := 87) (q := 2) (i := 2) rfl rfl dX11_goPairs_86 rfl ?_
          refine wp_iload_n (pc' := 88) (q := 1) (i := 1) rfl rfl dX11_goPairs_87 rfl ?_
          refine wp_iload_n (pc' := 89) (q := 1) (i := 1) rfl rfl dX11_goPairs_88 rfl ?_
          refine wp_iconst (pc' := 90) dX11_goPairs_89 rfl ?_
          obtain ⟨Q19, hs19, h⟩ := h
          refine wp_callV (pc' := 93) (as := [vI x7, vI a1, vI a1, vI 1]) (rest := []) hs19 dX11_goPairs_90 rfl lkX11_225 okX11_shoutOf inX11_shoutOf seX11_shoutOf o_68 vc10 ⟨Nat.le_of_ble_eq_true rfl, Nat.le_of_ble_eq_true rfl⟩ (Nat.le_of_ble_eq_true rfl) (Nat.le_refl _) (Nat.le_refl _) okP_eq okP_eq rfl (rvI rfl (fun x19 I19 R19 hq19 => ?_))
          obtain ⟨hRR19, h⟩ := h x19 I19 R19 hq19; subst hRR19
          refine wp_iload (pc' := 95) (i := 4) rfl dX11_goPairs_93 rfl ?_
          refine wp_aload_n (pc' := 96) (q := 0) (i := 0) rfl rfl dX11_goPairs_95 rfl ?_
          refine wp_getRc (pc' := 99) (k := 6) (j := 74) dX11_goPairs_96 vc10 (by decide) rfl lfX11_25 o_68 (r_68_6 hR) rfl ?_
          refine wp_iconst (pc' := 100) dX11_goPairs_99 rfl ?_
          refine wp_iald (pc' := 101) (j := 1) dX11_goPairs_100 a_74 ⟨by decide, by decide⟩ rfl rfl ?_
          refine wp_iadd (pc' := 102) dX11_goPairs_101 rfl ?_
          obtain ⟨h20, h⟩ := h
          obtain ⟨h21, h⟩ := h
          refine wp_icmp_lt (pc' := 105) (tgt := 121) h20 h21 dX11_goPairs_102 rfl rfl (fun hc => ?_) (fun hc => ?_)
          · have h := h.1 hc
            exact wp_dropP (leP_s (leP_s (leP_d (leP_d (leP_d leP_n))))) h
          · have h := h.2 hc
            refine wp_aload_n (pc' := 106) (q := 0) (i := 0) rfl rfl dX11_goPairs_105 rfl ?_
            refine wp_iload_n (pc' := 107) (q := 2) (i := 2) rfl rfl dX11_goPairs_106 rfl ?_
            refine wp_iload_n (pc' := 108) (q := 3) (i := 3) rfl rfl dX11_goPairs_107 rfl ?_
            refine wp_iload (pc' := 110) (i := 4) rfl dX11_goPairs_108 rfl ?_
            refine wp_aload_n (pc' := 111) (q := 0) (i := 0) rfl rfl dX11_goPairs_110 rfl ?_
            refine wp_getRc (pc' := 114) (k := 6) (j := 74) dX11_goPairs_111 vc10 (by decide) rfl lfX11_25 o_68 (r_68_6 hR) rfl ?_
            refine wp_iconst (pc' := 115) dX11_goPairs_114 rfl ?_
            refine wp_iald (pc' := 116) (j := 1) dX11_goPairs_115 a_74 ⟨by decide, by decide⟩ rfl rfl ?_
            refine wp_iadd (pc' := 117) dX11_goPairs_116 rfl ?_
            refine wp_iload_n (pc' := 118) (q := 1) (i := 1) rfl rfl dX11_goPairs_117 rfl ?_
            obtain ⟨Q22, hs22, h⟩ := h
            refine wp_callV (pc' := 121) (as := [vI x7, vI x12, vI (x17 + (I19 74 1)), vI a1]) (rest := []) hs22 dX11_goPairs_118 rfl lkX11_233 okX11_trade inX11_trade seX11_trade o_68 vc10 ⟨Nat.le_of_ble_eq_true rfl, Nat.le_of_ble_eq_true rfl⟩ (Nat.le_of_ble_eq_true rfl) (Nat.le_refl _) (Nat.le_refl _) okP_eq okP_eq rfl (rvV rfl (fun I22 R22 hq22 => ?_))
            obtain ⟨hRR22, h⟩ := h I22 R22 hq22; subst hRR22
            exact wp_dropP (leP_s (leP_s (leP_d (leP_d (leP_d leP_n))))) h

set_option maxRecDepth 4000 in
theorem gX11_goPairs_121 {Q : QT} {I : II} {R : RR} (hR : SR R) {a1 : Int}
    (h : wp (kN 89) mX11_goPairs Q 2 [vR 68, vI (a1 + 1), none, none, none] [] I R 89) : wp (kN 89) mX11_goPairs Q 121 [vR 68, vI a1, none, none, none] [] I R 89 := by
  refine wp_iinc (pc' := 124) (i := 1) (L' := [vR 68, vI (a1 + 1), none, none, none]) rfl (by decide) rfl dX11_goPairs_121 rfl rfl ?_
  refine wp_goto (tgt := 2) dX11_goPairs_124 rfl ?_
  exact h

theorem sX11_goPosted {Q : QT} {I : II} {R : RR}  (h : wp (kN 89) mX11_goPosted Q 0 [vR 68, none, none, none, none, none] [] I R 89) : Spec mX11_goPosted [vR 68] I R 89 89 Q := Spec_of_wp pyX11_goPosted rfl (Nat.le_of_ble_eq_true rfl) (Nat.le_refl _) (by decide) h

set_option maxRecDepth 4000 in
theorem gX11_goPosted_0 {Q : QT} {I : II} {R : RR} (hR : SR R) 
    (h : wp (kN 89) mX11_goPosted Q 2 [vR 68, vI 0, none, none, none, none] [] I R 89) : wp (kN 89) mX11_goPosted Q 0 [vR 68, none, none, none, none, none] [] I R 89 := by
  refine wp_iconst (pc' := 1) dX11_goPosted_0 rfl ?_
  refine wp_istore_n (pc' := 2) (q := 1) (i := 1) (L' := [vR 68, vI 0, none, none, none, none]) rfl (by decide) rfl dX11_goPosted_1 rfl rfl ?_
  exact h

set_option maxRecDepth 4000 in
theorem gX11_goPosted_2 {Q : QT} {I : II} {R : RR} (hR : SR R) {a1 : Int}
    (h : (InI a1) ∧
      (InI (I 70 0)) ∧
      (((I 70 0) ≤ a1 →
      wp (kN 89) mX11_goPosted Q 49 [vR 68, vI 0, none, none, none, none] [] I R 89) ∧ (¬ (I 70 0) ≤ a1 →
      (0 ≤ a1 ∧ a1 < 40) ∧
      (InI (I 71 a1.toNat)) ∧
      ((¬ (I 71 a1.toNat) = (1 : Int) →
      (0 ≤ a1 ∧ a1 < 20) ∧
      (∀ I6 : II, I6 = up2 I 86 (a1.toNat) (-4) →
      wp (kN 89) mX11_goPosted Q 2 [vR 68, vI (a1 + 1), none, none, none, none] [] I6 R 89)) ∧ ((I 71 a1.toNat) = (1 : Int) →
      (∃ Q7 : QT, Spec mX11_shoutOf [vR 68, vI a1, vI 0, vI a1, vI 1] I R 89 89 Q7 ∧ (∀ x7 I7 R7, Q7 (vI x7) I7 R7 →
      R = R7 ∧ (0 ≤ a1 ∧ a1 < 20) ∧
      (∀ I9 : II, I9 = up2 I7 86 (a1.toNat) x7 →
      wp (kN 89) mX11_goPosted Q 2 [vR 68, vI (a1 + 1), none, none, none, none] [] I9 R 89)))))))) : wp (kN 89) mX11_goPosted Q 2 [vR 68, vI a1, none, none, none, none] [] I R 89 := by
  refine wp_iload_n (pc' := 3) (q := 1) (i := 1) rfl rfl dX11_goPosted_2 rfl ?_
  refine wp_aload_n (pc' := 4) (q := 0) (i := 0) rfl rfl dX11_goPosted_3 rfl ?_
  refine wp_getRc (pc' := 7) (k := 2) (j := 70) dX11_goPosted_4 vc10 (by decide) rfl lfX11_13 o_68 (r_68_2 hR) rfl ?_
  refine wp_iconst (pc' := 8) dX11_goPosted_7 rfl ?_
  refine wp_iald (pc' := 9) (j := 0) dX11_goPosted_8 a_70 ⟨by decide, by decide⟩ rfl rfl ?_
  obtain ⟨h1, h⟩ := h
  obtain ⟨h2, h⟩ := h
  refine wp_icmp_ge (pc' := 12) (tgt := 47) h1 h2 dX11_goPosted_9 rfl rfl (fun hc => ?_) (fun hc => ?_)
  · have h := h.1 hc
    refine wp_iconst (pc' := 48) dX11_goPosted_47 rfl ?_
    refine wp_istore_n (pc' := 49) (q := 1) (i := 1) (L' := [vR 68, vI 0, none, none, none, none]) rfl (by decide) rfl dX11_goPosted_48 rfl rfl ?_
    exact h
  · have h := h.2 hc
    refine wp_aload_n (pc' := 13) (q := 0) (i := 0) rfl rfl dX11_goPosted_12 rfl ?_
    refine wp_getRc (pc' := 16) (k := 30) (j := 86) dX11_goPosted_13 vc10 (by decide) rfl lfX11_61 o_68 (r_68_30 hR) rfl ?_
    refine wp_iload_n (pc' := 17) (q := 1) (i := 1) rfl rfl dX11_goPosted_16 rfl ?_
    refine wp_aload_n (pc' := 18) (q := 0) (i := 0) rfl rfl dX11_goPosted_17 rfl ?_
    refine wp_getRc (pc' := 21) (k := 3) (j := 71) dX11_goPosted_18 vc10 (by decide) rfl lfX11_16 o_68 (r_68_3 hR) rfl ?_
    refine wp_iload_n (pc' := 22) (q := 1) (i := 1) rfl rfl dX11_goPosted_21 rfl ?_
    obtain ⟨h3, h⟩ := h
    refine wp_iald (pc' := 23) (j := a1.toNat) dX11_goPosted_22 a_71 h3 rfl rfl ?_
    refine wp_iconst (pc' := 24) dX11_goPosted_23 rfl ?_
    obtain ⟨h4, h⟩ := h
    refine wp_icmp_ne (pc' := 27) (tgt := 38) h4 ⟨by decide, by decide⟩ dX11_goPosted_24 rfl rfl (fun hc => ?_) (fun hc => ?_)
    · have h := h.1 hc
      refine wp_bipush (pc' := 40) (by decide) dX11_goPosted_38 rfl ?_
      obtain ⟨h5, h⟩ := h
      obtain ⟨I6, eI6⟩ : ∃ z : II, z = up2 I 86 (a1.toNat) (-4) := ⟨_, rfl⟩
      have h := h I6 eI6
      refine wp_iast (pc' := 41) (j := a1.toNat) (I' := I6) dX11_goPosted_40 a_86 h5 rfl rfl eI6 ?_
      refine wp_iinc (pc' := 44) (i := 1) (L' := [vR 68, vI (a1 + 1), none, none, none, none]) rfl (by decide) rfl dX11_goPosted_41 rfl rfl ?_
      refine wp_goto (tgt := 2) dX11_goPosted_44 rfl ?_
      exact h
    · have h := h.2 hc
      refine wp_aload_n (pc' := 28) (q := 0) (i := 0) rfl rfl dX11_goPosted_27 rfl ?_
      refine wp_iload_n (pc' := 29) (q := 1) (i := 1) rfl rfl dX11_goPosted_28 rfl ?_
      refine wp_iconst (pc' := 30) dX11_goPosted_29 rfl ?_
      refine wp_iload_n (pc' := 31) (q := 1) (i := 1) rfl rfl dX11_goPosted_30 rfl ?_
      refine wp_iconst (pc' := 32) dX11_goPosted_31 rfl ?_
      obtain ⟨Q7, hs7, h⟩ := h
      refine wp_callV (pc' := 35) (as := [vI a1, vI 0, vI a1, vI 1]) (rest := [vI a1, vR 86]) hs7 dX11_goPosted_32 rfl lkX11_225 okX11_shoutOf inX11_shoutOf seX11_shoutOf o_68 vc10 ⟨Nat.le_of_ble_eq_true rfl, Nat.le_of_ble_eq_true rfl⟩ (Nat.le_of_ble_eq_true rfl) (Nat.le_refl _) (Nat.le_refl _) okP_eq okP_eq rfl (rvI rfl (fun x7 I7 R7 hq7 => ?_))
      obtain ⟨hRR7, h⟩ := h x7 I7 R7 hq7; subst hRR7
      refine wp_goto (tgt := 40) dX11_goPosted_35 rfl ?_
      obtain ⟨h8, h⟩ := h
      obtain ⟨I9, eI9⟩ : ∃ z : II, z = up2 I7 86 (a1.toNat) x7 := ⟨_, rfl⟩
      have h := h I9 eI9
      refine wp_iast (pc' := 41) (j := a1.toNat) (I' := I9) dX11_goPosted_40 a_86 h8 rfl rfl eI9 ?_
      refine wp_iinc (pc' := 44) (i := 1) (L' := [vR 68, vI (a1 + 1), none, none, none, none]) rfl (by decide) rfl dX11_goPosted_41 rfl rfl ?_
      refine wp_goto (tgt := 2) dX11_goPosted_44 rfl ?_
      exact h

set_option maxRecDepth 4000 in
theorem gX11_goPosted_49 {Q : QT} {I : II} {R : RR} (hR : SR R) {a1 : Int}
    (h : (InI a1) ∧
      (InI (I 74 0)) ∧
      (((I 74 0) ≤ a1 →
      Q none I R) ∧ (¬ (I 74 0) ≤ a1 →
      (0 ≤ I 68 21 ∧ I 68 21 ≤ 9999 ∧ 0 ≤ a1 ∧ a1 ≤ 300 ∧ 0 ≤ (0 : Int) ∧ (0 : Int) ≤ 5) ∧
      (∃ Q5 : QT, Spec mX11_manyOf [vR 68, vI 0] I R 89 89 Q5 ∧ (∀ x5 I5 R5, Q5 (vI x5) I5 R5 →
      R = R5 ∧ (0 ≤ (drw (I 68 21) a1 0) ∧ (drw (I 68 21) a1 0) ≤ 2147483647 ∧ 0 < x5 ∧ x5 ≤ 2147483647) ∧
      (∃ Q7 : QT, Spec mX11_personOf [vR 68, vI 0, vI ((drw (I 68 21) a1 0) % x5)] I5 R 89 89 Q7 ∧ (∀ x7 I7 R7, Q7 (vI x7) I7 R7 →
      R = R7 ∧ wp (kN 89) mX11_goPosted Q 83 [vR 68, vI a1, vI x7, vI (-4), vI 0, none] [] I7 R 89))))))) : wp (kN 89) mX11_goPosted Q 49 [vR 68, vI a1, none, none, none, none] [] I R 89 := by
  refine wp_iload_n (pc' := 50) (q := 1) (i := 1) rfl rfl dX11_goPosted_49 rfl ?_
  refine wp_aload_n (pc' := 51) (q := 0) (i := 0) rfl rfl dX11_goPosted_50 rfl ?_
  refine wp_getRc (pc' := 54) (k := 6) (j := 74) dX11_goPosted_51 vc10 (by decide) rfl lfX11_25 o_68 (r_68_6 hR) rfl ?_
  refine wp_iconst (pc' := 55) dX11_goPosted_54 rfl ?_
  refine wp_iald (pc' := 56) (j := 0) dX11_goPosted_55 a_74 ⟨by decide, by decide⟩ rfl rfl ?_
  obtain ⟨h1, h⟩ := h
  obtain ⟨h2, h⟩ := h
  refine wp_icmp_ge (pc' := 59) (tgt := 235) h1 h2 dX11_goPosted_56 rfl rfl (fun hc => ?_) (fun hc => ?_)
  · have h := h.1 hc
    exact wp_vreturn dX11_goPosted_235 rfl rfl h
  · have h := h.2 hc
    refine wp_aload_n (pc' := 60) (q := 0) (i := 0) rfl rfl dX11_goPosted_59 rfl ?_
    refine wp_iconst (pc' := 61) dX11_goPosted_60 rfl ?_
    refine wp_aload_n (pc' := 62) (q := 0) (i := 0) rfl rfl dX11_goPosted_61 rfl ?_
    refine wp_iload_n (pc' := 63) (q := 1) (i := 1) rfl rfl dX11_goPosted_62 rfl ?_
    refine wp_iconst (pc' := 64) dX11_goPosted_63 rfl ?_
    obtain ⟨h4, h⟩ := h
    refine wp_callV (pc' := 67) (as := [vI a1, vI 0]) (rest := [vI 0, vR 68]) (pX11_draw hR h4) dX11_goPosted_64 rfl lkX11_199 okX11_draw inX11_draw seX11_draw o_68 vc10 ⟨Nat.le_of_ble_eq_true rfl, Nat.le_of_ble_eq_true rfl⟩ (Nat.le_of_ble_eq_true rfl) (Nat.le_refl _) (Nat.le_refl _) okP_eq okP_eq rfl (rvI rfl (fun x3 I3 R3 hq3 => ?_))
    obtain ⟨eR3, eI3, ex3⟩ := hq3; subst eR3; subst eI3; cases ex3
    refine wp_aload_n (pc' := 68) (q := 0) (i := 0) rfl rfl dX11_goPosted_67 rfl ?_
    refine wp_iconst (pc' := 69) dX11_goPosted_68 rfl ?_
    obtain ⟨Q5, hs5, h⟩ := h
    refine wp_callV (pc' := 72) (as := [vI 0]) (rest := [vI (drw (I 68 21) a1 0), vI 0, vR 68]) hs5 dX11_goPosted_69 rfl lkX11_169 okX11_manyOf inX11_manyOf seX11_manyOf o_68 vc10 ⟨Nat.le_of_ble_eq_true rfl, Nat.le_of_ble_eq_true rfl⟩ (Nat.le_of_ble_eq_true rfl) (Nat.le_refl _) (Nat.le_refl _) okP_eq okP_eq rfl (rvI rfl (fun x5 I5 R5 hq5 => ?_))
    obtain ⟨hRR5, h⟩ := h x5 I5 R5 hq5; subst hRR5
    obtain ⟨h6, h⟩ := h
    refine wp_irem (pc' := 73) h6 dX11_goPosted_72 rfl ?_
    obtain ⟨Q7, hs7, h⟩ := h
    refine wp_callV (pc' := 76) (as := [vI 0, vI ((drw (I 68 21) a1 0) % x5)]) (rest := []) hs7 dX11_goPosted_73 rfl lkX11_237 okX11_personOf inX11_personOf seX11_personOf o_68 vc10 ⟨Nat.le_of_ble_eq_true rfl, Nat.le_of_ble_eq_true rfl⟩ (Nat.le_of_ble_eq_true rfl) (Nat.le_refl _) (Nat.le_refl _) okP_eq okP_eq rfl (rvI rfl (fun x7 I7 R7 hq7 => ?_))
    obtain ⟨hRR7, h⟩ := h x7 I7 R7 hq7; subst hRR7
    refine wp_istore_n (pc' := 77) (q := 2) (i := 2) (L' := [vR 68, vI a1, vI x7, none, none, none]) rfl (by decide) rfl dX11_goPosted_76 rfl rfl ?_
    refine wp_bipush (pc' := 79) (by decide) dX11_goPosted_77 rfl ?_
    refine wp_istore_n (pc' := 80) (q := 3) (i := 3) (L' := [vR 68, vI a1, vI x7, vI (-4), none, none]) rfl (by decide) rfl dX11_goPosted_79 rfl rfl ?_
    refine wp_iconst (pc' := 81) dX11_goPosted_80 rfl ?_
    refine wp_istore (pc' := 83) (i := 4) (L' := [vR 68, vI a1, vI x7, vI (-4), vI 0, none]) (by decide) rfl dX11_goPosted_81 rfl rfl ?_
    exact h

set_option maxRecDepth 4000 in
theorem gX11_goPosted_83 {Q : QT} {I : II} {R : RR} (hR : SR R) {a1 : Int} {a2 : Int} {a3 : Int} {a4 : Int}
    (h : (InI a4) ∧
      (InI (I 70 0)) ∧
      (((I 70 0) ≤ a4 →
      (0 ≤ a2 ∧ a2 < 20) ∧
      (InI (I 85 a2.toNat)) ∧
      ((¬ (I 85 a2.toNat) = (-4 : Int) →
      wp (kN 89) mX11_goPosted Q 229 [vR 68, vI a1, none, none, none, none] [] I R 89) ∧ ((I 85 a2.toNat) = (-4 : Int) →
      (InI a3) ∧
      ((a3 < 0 →
      wp (kN 89) mX11_goPosted Q 229 [vR 68, vI a1, none, none, none, none] [] I R 89) ∧ (¬ (a3 < 0) →
      (0 ≤ a3 ∧ a3 < 20) ∧
      (0 ≤ a2 ∧ a2 < 40) ∧
      (InI ((I 86 a3.toNat) + (I 74 1))) ∧
      (InI (I 72 a2.toNat)) ∧
      (((I 72 a2.toNat) < ((I 86 a3.toNat) + (I 74 1)) →
      wp (kN 89) mX11_goPosted Q 229 [vR 68, vI a1, none, none, none, none] [] I R 89) ∧ (¬ (I 72 a2.toNat) < ((I 86 a3.toNat) + (I 74 1)) →
      (∃ Q10 : QT, Spec mX11_trade [vR 68, vI a2, vI a3, vI ((I 86 a3.toNat) + (I 74 1)), vI a1] I R 89 89 Q10 ∧ (∀ I10 R10, Q10 none I10 R10 →
      R = R10 ∧ wp (kN 89) mX11_goPosted Q 229 [vR 68, vI a1, none, none, none, none] [] I10 R 89))))))))) ∧ (¬ (I 70 0) ≤ a4 →
      (0 ≤ a4 ∧ a4 < 40) ∧
      (InI (I 71 a4.toNat)) ∧
      ((¬ (I 71 a4.toNat) = (1 : Int) →
      wp (kN 89) mX11_goPosted Q 131 [vR 68, vI a1, vI a2, vI a3, vI a4, none] [] I R 89) ∧ ((I 71 a4.toNat) = (1 : Int) →
      (0 ≤ a4 ∧ a4 < 20) ∧
      (InI (I 85 a4.toNat)) ∧
      ((¬ (I 85 a4.toNat) = (-4 : Int) →
      wp (kN 89) mX11_goPosted Q 131 [vR 68, vI a1, vI a2, vI a3, vI a4, none] [] I R 89) ∧ ((I 85 a4.toNat) = (-4 : Int) →
      (InI (I 86 a4.toNat)) ∧
      (((I 86 a4.toNat) < 0 →
      wp (kN 89) mX11_goPosted Q 131 [vR 68, vI a1, vI a2, vI a3, vI a4, none] [] I R 89) ∧ (¬ (I 86 a4.toNat) < 0 →
      (InI a3) ∧
      ((a3 < 0 →
      wp (kN 89) mX11_goPosted Q 159 [vR 68, vI a1, vI a2, none, vI a4, none] [] I R 89) ∧ (¬ (a3 < 0) →
      (0 ≤ a3 ∧ a3 < 20) ∧
      (InI (I 86 a3.toNat)) ∧
      (((I 86 a3.toNat) ≤ (I 86 a4.toNat) →
      wp (kN 89) mX11_goPosted Q 164 [vR 68, vI a1, vI a2, vI a3, vI a4, none] [] I R 89) ∧ (¬ (I 86 a3.toNat) ≤ (I 86 a4.toNat) →
      wp (kN 89) mX11_goPosted Q 159 [vR 68, vI a1, vI a2, none, vI a4, none] [] I R 89))))))))))))) : wp (kN 89) mX11_goPosted Q 83 [vR 68, vI a1, vI a2, vI a3, vI a4, none] [] I R 89 := by
  refine wp_iload (pc' := 85) (i := 4) rfl dX11_goPosted_83 rfl ?_
  refine wp_aload_n (pc' := 86) (q := 0) (i := 0) rfl rfl dX11_goPosted_85 rfl ?_
  refine wp_getRc (pc' := 89) (k := 2) (j := 70) dX11_goPosted_86 vc10 (by decide) rfl lfX11_13 o_68 (r_68_2 hR) rfl ?_
  refine wp_iconst (pc' := 90) dX11_goPosted_89 rfl ?_
  refine wp_iald (pc' := 91) (j := 0) dX11_goPosted_90 a_70 ⟨by decide, by decide⟩ rfl rfl ?_
  obtain ⟨h1, h⟩ := h
  obtain ⟨h2, h⟩ := h
  refine wp_icmp_ge (pc' := 94) (tgt := 172) h1 h2 dX11_goPosted_91 rfl rfl (fun hc => ?_) (fun hc => ?_)
  · have h := h.1 hc
    refine wp_aload_n (pc' := 173) (q := 0) (i := 0) rfl rfl dX11_goPosted_172 rfl ?_
    refine wp_getRc (pc' := 176) (k := 23) (j := 85) dX11_goPosted_173 vc10 (by decide) rfl lfX11_58 o_68 (r_68_23 hR) rfl ?_
    refine wp_iload_n (pc' := 177) (q := 2) (i := 2) rfl rfl dX11_goPosted_176 rfl ?_
    obtain ⟨h3, h⟩ := h
    refine wp_iald (pc' := 178) (j := a2.toNat) dX11_goPosted_177 a_85 h3 rfl rfl ?_
    refine wp_bipush (pc' := 180) (by decide) dX11_goPosted_178 rfl ?_
    obtain ⟨h4, h⟩ := h
    refine wp_icmp_ne (pc' := 183) (tgt := 229) h4 ⟨by decide, by decide⟩ dX11_goPosted_180 rfl rfl (fun hc => ?_) (fun hc => ?_)
    · have h := h.1 hc
      exact wp_dropP (leP_s (leP_s (leP_d (leP_d (leP_d (leP_s leP_n)))))) h
    · have h := h.2 hc
      refine wp_iload_n (pc' := 184) (q := 3) (i := 3) rfl rfl dX11_goPosted_183 rfl ?_
      obtain ⟨h5, h⟩ := h
      refine wp_if_lt (pc' := 187) (tgt := 229) h5 dX11_goPosted_184 rfl rfl (fun hc => ?_) (fun hc => ?_)
      · have h := h.1 hc
        exact wp_dropP (leP_s (leP_s (leP_d (leP_d (leP_d (leP_s leP_n)))))) h
      · have h := h.2 hc
        refine wp_aload_n (pc' := 188) (q := 0) (i := 0) rfl rfl dX11_goPosted_187 rfl ?_
        refine wp_getRc (pc' := 191) (k := 30) (j := 86) dX11_goPosted_188 vc10 (by decide) rfl lfX11_61 o_68 (r_68_30 hR) rfl ?_
        refine wp_iload_n (pc' := 192) (q := 3) (i := 3) rfl rfl dX11_goPosted_191 rfl ?_
        obtain ⟨h6, h⟩ := h
        refine wp_iald (pc' := 193) (j := a3.toNat) dX11_goPosted_192 a_86 h6 rfl rfl ?_
        refine wp_aload_n (pc' := 194) (q := 0) (i := 0) rfl rfl dX11_goPosted_193 rfl ?_
        refine wp_getRc (pc' := 197) (k := 6) (j := 74) dX11_goPosted_194 vc10 (by decide) rfl lfX11_25 o_68 (r_68_6 hR) rfl ?_
        refine wp_iconst (pc' := 198) dX11_goPosted_197 rfl ?_
        refine wp_iald (pc' := 199) (j := 1) dX11_goPosted_198 a_74 ⟨by decide, by decide⟩ rfl rfl ?_
        refine wp_iadd (pc' := 200) dX11_goPosted_199 rfl ?_
        refine wp_aload_n (pc' := 201) (q := 0) (i := 0) rfl rfl dX11_goPosted_200 rfl ?_
        refine wp_getRc (pc' := 204) (k := 4) (j := 72) dX11_goPosted_201 vc10 (by decide) rfl lfX11_19 o_68 (r_68_4 hR) rfl ?_
        refine wp_iload_n (pc' := 205) (q := 2) (i := 2) rfl rfl dX11_goPosted_204 rfl ?_
        obtain ⟨h7, h⟩ := h
        refine wp_iald (pc' := 206) (j := a2.toNat) dX11_goPosted_205 a_72 h7 rfl rfl ?_
        obtain ⟨h8, h⟩ := h
        obtain ⟨h9, h⟩ := h
        refine wp_icmp_gt (pc' := 209) (tgt := 229) h8 h9 dX11_goPosted_206 rfl rfl (fun hc => ?_) (fun hc => ?_)
        · have h := h.1 hc
          exact wp_dropP (leP_s (leP_s (leP_d (leP_d (leP_d (leP_s leP_n)))))) h
        · have h := h.2 hc
          refine wp_aload_n (pc' := 210) (q := 0) (i := 0) rfl rfl dX11_goPosted_209 rfl ?_
          refine wp_iload_n (pc' := 211) (q := 2) (i := 2) rfl rfl dX11_goPosted_210 rfl ?_
          refine wp_iload_n (pc' := 212) (q := 3) (i := 3) rfl rfl dX11_goPosted_211 rfl ?_
          refine wp_aload_n (pc' := 213) (q := 0) (i := 0) rfl rfl dX11_goPosted_212 rfl ?_
          refine wp_getRc (pc' := 216) (k := 30) (j := 86) dX11_goPosted_213 vc10 (by decide) rfl lfX11_61 o_68 (r_68_30 hR) rfl ?_
          refine wp_iload_n (pc' := 217) (q := 3) (i := 3) rfl rfl dX11_goPosted_216 rfl ?_
          refine wp_iald (pc' := 218) (j := a3.toNat) dX11_goPosted_217 a_86 h6 rfl rfl ?_
          refine wp_aload_n (pc' := 219) (q := 0) (i := 0) rfl rfl dX11_goPosted_218 rfl ?_
          refine wp_getRc (pc' := 222) (k := 6) (j := 74) dX11_goPosted_219 vc10 (by decide) rfl lfX11_25 o_68 (r_68_6 hR) rfl ?_
          refine wp_iconst (pc' := 223) dX11_goPosted_222 rfl ?_
          refine wp_iald (pc' := 224) (j := 1) dX11_goPosted_223 a_74 ⟨by decide, by decide⟩ rfl rfl ?_
          refine wp_iadd (pc' := 225) dX11_goPosted_224 rfl ?_
          refine wp_iload_n (pc' := 226) (q := 1) (i := 1) rfl rfl dX11_goPosted_225 rfl ?_
          obtain ⟨Q10, hs10, h⟩ := h
          refine wp_callV (pc' := 229) (as := [vI a2, vI a3, vI ((I 86 a3.toNat) + (I 74 1)), vI a1]) (rest := []) hs10 dX11_goPosted_226 rfl lkX11_233 okX11_trade inX11_trade seX11_trade o_68 vc10 ⟨Nat.le_of_ble_eq_true rfl, Nat.le_of_ble_eq_true rfl⟩ (Nat.le_of_ble_eq_true rfl) (Nat.le_refl _) (Nat.le_refl _) okP_eq okP_eq rfl (rvV rfl (fun I10 R10 hq10 => ?_))
          obtain ⟨hRR10, h⟩ := h I10 R10 hq10; subst hRR10
          exact wp_dropP (leP_s (leP_s (leP_d (leP_d (leP_d (leP_s leP_n)))))) h
  · have h := h.2 hc
    refine wp_aload_n (pc' := 95) (q := 0) (i := 0) rfl rfl dX11_goPosted_94 rfl ?_
    refine wp_getRc (pc' := 98) (k := 3) (j := 71) dX11_goPosted_95 vc10 (by decide) rfl lfX11_16 o_68 (r_68_3 hR) rfl ?_
    refine wp_iload (pc' := 100) (i := 4) rfl dX11_goPosted_98 rfl ?_
    obtain ⟨h11, h⟩ := h
    refine wp_iald (pc' := 101) (j := a4.toNat) dX11_goPosted_100 a_71 h11 rfl rfl ?_
    refine wp_iconst (pc' := 102) dX11_goPosted_101 rfl ?_
    obtain ⟨h12, h⟩ := h
    refine wp_icmp_ne (pc' := 105) (tgt := 131) h12 ⟨by decide, by decide⟩ dX11_goPosted_102 rfl rfl (fun hc => ?_) (fun hc => ?_)
    · have h := h.1 hc
      exact h
    · have h := h.2 hc
      refine wp_aload_n (pc' := 106) (q := 0) (i := 0) rfl rfl dX11_goPosted_105 rfl ?_
      refine wp_getRc (pc' := 109) (k := 23) (j := 85) dX11_goPosted_106 vc10 (by decide) rfl lfX11_58 o_68 (r_68_23 hR) rfl ?_
      refine wp_iload (pc' := 111) (i := 4) rfl dX11_goPosted_109 rfl ?_
      obtain ⟨h13, h⟩ := h
      refine wp_iald (pc' := 112) (j := a4.toNat) dX11_goPosted_111 a_85 h13 rfl rfl ?_
      refine wp_bipush (pc' := 114) (by decide) dX11_goPosted_112 rfl ?_
      obtain ⟨h14, h⟩ := h
      refine wp_icmp_ne (pc' := 117) (tgt := 131) h14 ⟨by decide, by decide⟩ dX11_goPosted_114 rfl rfl (fun hc => ?_) (fun hc => ?_)
      · have h := h.1 hc
        exact h
      · have h := h.2 hc
        refine wp_aload_n (pc' := 118) (q := 0) (i := 0) rfl rfl dX11_goPosted_117 rfl ?_
        refine wp_getRc (pc' := 121) (k := 30) (j := 86) dX11_goPosted_118 vc10 (by decide) rfl lfX11_61 o_68 (r_68_30 hR) rfl ?_
        refine wp_iload (pc' := 123) (i := 4) rfl dX11_goPosted_121 rfl ?_
        refine wp_iald (pc' := 124) (j := a4.toNat) dX11_goPosted_123 a_86 h13 rfl rfl ?_
        obtain ⟨h15, h⟩ := h
        refine wp_if_lt (pc' := 127) (tgt := 131) h15 dX11_goPosted_124 rfl rfl (fun hc => ?_) (fun hc => ?_)
        · have h := h.1 hc
          exact h
        · have h := h.2 hc
          refine wp_iconst (pc' := 128) dX11_goPosted_127 rfl ?_
          refine wp_goto (tgt := 132) dX11_goPosted_128 rfl ?_
          refine wp_istore (pc' := 134) (i := 5) (L' := [vR 68, vI a1, vI a2, vI a3, vI a4, vI 1]) (by decide) rfl dX11_goPosted_132 rfl rfl ?_
          refine wp_iload (pc' := 136) (i := 5) rfl dX11_goPosted_134 rfl ?_
          refine wp_if_eq (pc' := 139) (tgt := 164) ⟨by decide, by decide⟩ dX11_goPosted_136 rfl rfl (fun hc => by exfalso; revert hc; decide) (fun hc => ?_)
          refine wp_iload_n (pc' := 140) (q := 3) (i := 3) rfl rfl dX11_goPosted_139 rfl ?_
          obtain ⟨h16, h⟩ := h
          refine wp_if_lt (pc' := 143) (tgt := 159) h16 dX11_goPosted_140 rfl rfl (fun hc => ?_) (fun hc => ?_)
          · have h := h.1 hc
            exact wp_dropP (leP_s (leP_s (leP_s (leP_d (leP_s (leP_d leP_n)))))) h
          · have h := h.2 hc
            refine wp_aload_n (pc' := 144) (q := 0) (i := 0) rfl rfl dX11_goPosted_143 rfl ?_
            refine wp_getRc (pc' := 147) (k := 30) (j := 86) dX11_goPosted_144 vc10 (by decide) rfl lfX11_61 o_68 (r_68_30 hR) rfl ?_
            refine wp_iload (pc' := 149) (i := 4) rfl dX11_goPosted_147 rfl ?_
            refine wp_iald (pc' := 150) (j := a4.toNat) dX11_goPosted_149 a_86 h13 rfl rfl ?_
            refine wp_aload_n (pc' := 151) (q := 0) (i := 0) rfl rfl dX11_goPosted_150 rfl ?_
            refine wp_getRc (pc' := 154) (k := 30) (j := 86) dX11_goPosted_151 vc10 (by decide) rfl lfX11_61 o_68 (r_68_30 hR) rfl ?_
            refine wp_iload_n (pc' := 155) (q := 3) (i := 3) rfl rfl dX11_goPosted_154 rfl ?_
            obtain ⟨h17, h⟩ := h
            refine wp_iald (pc' := 156) (j := a3.toNat) dX11_goPosted_155 a_86 h17 rfl rfl ?_
            obtain ⟨h18, h⟩ := h
            refine wp_icmp_ge (pc' := 159) (tgt := 164) h15 h18 dX11_goPosted_156 rfl rfl (fun hc => ?_) (fun hc => ?_)
            · have h := h.1 hc
              exact wp_dropP (leP_s (leP_s (leP_s (leP_s (leP_s (leP_d leP_n)))))) h
            · have h := h.2 hc
              exact wp_dropP (leP_s (leP_s (leP_s (leP_d (leP_s (leP_d leP_n)))))) h

set_option maxRecDepth 4000 in
theorem gX11_goPosted_131 {Q : QT} {I : II} {R : RR} (hR : SR R) {a1 : Int} {a2 : Int} {a3 : Int} {a4 : Int}
    (h : wp (kN 89) mX11_goPosted Q 164 [vR 68, vI a1, vI a2, vI a3, vI a4, none] [] I R 89) : wp (kN 89) mX11_goPosted Q 131 [vR 68, vI a1, vI a2, vI a3, vI a4, none] [] I R 89 := by
  refine wp_iconst (pc' := 132) dX11_goPosted_131 rfl ?_
  refine wp_istore (pc' := 134) (i := 5) (L' := [vR 68, vI a1, vI a2, vI a3, vI a4, vI 0]) (by decide) rfl dX11_goPosted_132 rfl rfl ?_
  refine wp_iload (pc' := 136) (i := 5) rfl dX11_goPosted_134 rfl ?_
  refine wp_if_eq (pc' := 139) (tgt := 164) ⟨by decide, by decide⟩ dX11_goPosted_136 rfl rfl (fun hc => ?_) (fun hc => by exfalso; revert hc; decide)
  exact wp_dropP (leP_s (leP_s (leP_s (leP_s (leP_s (leP_d leP_n)))))) h

set_option maxRecDepth 4000 in
theorem gX11_goPosted_159 {Q : QT} {I : II} {R : RR} (hR : SR R) {a1 : Int} {a2 : Int} {a4 : Int}
    (h : wp (kN 89) mX11_goPosted Q 83 [vR 68, vI a1, vI a2, vI a4, vI (a4 + 1), none] [] I R 89) : wp (kN 89) mX11_goPosted Q 159 [vR 68, vI a1, vI a2, none, vI a4, none] [] I R 89 := by
  refine wp_iload (pc' := 161) (i := 4) rfl dX11_goPosted_159 rfl ?_
  refine wp_goto (tgt := 165) dX11_goPosted_161 rfl ?_
  refine wp_istore_n (pc' := 166) (q := 3) (i := 3) (L' := [vR 68, vI a1, vI a2, vI a4, vI a4, none]) rfl (by decide) rfl dX11_goPosted_165 rfl rfl ?_
  refine wp_iinc (pc' := 169) (i := 4) (L' := [vR 68, vI a1, vI a2, vI a4, vI (a4 + 1), none]) rfl (by decide) rfl dX11_goPosted_166 rfl rfl ?_
  refine wp_goto (tgt := 83) dX11_goPosted_169 rfl ?_
  exact h

set_option maxRecDepth 4000 in
theorem gX11_goPosted_164 {Q : QT} {I : II} {R : RR} (hR : SR R) {a1 : Int} {a2 : Int} {a3 : Int} {a4 : Int}
    (h : wp (kN 89) mX11_goPosted Q 83 [vR 68, vI a1, vI a2, vI a3, vI (a4 + 1), none] [] I R 89) : wp (kN 89) mX11_goPosted Q 164 [vR 68, vI a1, vI a2, vI a3, vI a4, none] [] I R 89 := by
  refine wp_iload_n (pc' := 165) (q := 3) (i := 3) rfl rfl dX11_goPosted_164 rfl ?_
  refine wp_istore_n (pc' := 166) (q := 3) (i := 3) (L' := [vR 68, vI a1, vI a2, vI a3, vI a4, none]) rfl (by decide) rfl dX11_goPosted_165 rfl rfl ?_
  refine wp_iinc (pc' := 169) (i := 4) (L' := [vR 68, vI a1, vI a2, vI a3, vI (a4 + 1), none]) rfl (by decide) rfl dX11_goPosted_166 rfl rfl ?_
  refine wp_goto (tgt := 83) dX11_goPosted_169 rfl ?_
  exact h

set_option maxRecDepth 4000 in
theorem gX11_goPosted_229 {Q : QT} {I : II} {R : RR} (hR : SR R) {a1 : Int}
    (h : wp (kN 89) mX11_goPosted Q 49 [vR 68, vI (a1 + 1), none, none, none, none] [] I R 89) : wp (kN 89) mX11_goPosted Q 229 [vR 68, vI a1, none, none, none, none] [] I R 89 := by
  refine wp_iinc (pc' := 232) (i := 1) (L' := [vR 68, vI (a1 + 1), none, none, none, none]) rfl (by decide) rfl dX11_goPosted_229 rfl rfl ?_
  refine wp_goto (tgt := 49) dX11_goPosted_232 rfl ?_
  exact h

theorem sX11_goBell {Q : QT} {I : II} {R : RR}  (h : wp (kN 89) mX11_goBell Q 0 [vR 68, none, none, none] [] I R 89) : Spec mX11_goBell [vR 68] I R 89 89 Q := Spec_of_wp pyX11_goBell rfl (Nat.le_of_ble_eq_true rfl) (Nat.le_refl _) (by decide) h

set_option maxRecDepth 4000 in
theorem gX11_goBell_0 {Q : QT} {I : II} {R : RR} (hR : SR R) 
    (h : wp (kN 89) mX11_goBell Q 2 [vR 68, vI 0, none, none] [] I R 89) : wp (kN 89) mX11_goBell Q 0 [vR 68, none, none, none] [] I R 89 := by
  refine wp_iconst (pc' := 1) dX11_goBell_0 rfl ?_
  refine wp_istore_n (pc' := 2) (q := 1) (i := 1) (L' := [vR 68, vI 0, none, none]) rfl (by decide) rfl dX11_goBell_1 rfl rfl ?_
  exact h

set_option maxRecDepth 4000 in
theorem gX11_goBell_2 {Q : QT} {I : II} {R : RR} (hR : SR R) {a1 : Int}
    (h : (InI a1) ∧
      (InI (I 70 0)) ∧
      (((I 70 0) ≤ a1 →
      (∃ Q3 : QT, Spec mX11_layLines [vR 68] I R 89 89 Q3 ∧ (∀ I3 R3, Q3 none I3 R3 →
      R = R3 ∧ (∃ Q4 : QT, Spec mX11_quantity [vR 68, vI (I3 74 1)] I3 R 89 89 Q4 ∧ (∀ x4 I4 R4, Q4 (vI x4) I4 R4 →
      R = R4 ∧ (InI x4) ∧
      ((x4 ≤ 0 →
      wp (kN 89) mX11_goBell Q 101 [none, none, none, none] [] I4 R 89) ∧ (¬ (x4 ≤ 0) →
      (∃ Q6 : QT, Spec mX11_lowest [vR 68, vI x4, vI (I4 74 1)] I4 R 89 89 Q6 ∧ (∀ x6 I6 R6, Q6 (vI x6) I6 R6 →
      R = R6 ∧ wp (kN 89) mX11_goBell Q 72 [vR 68, vI x4, vI x6, vI 0] [] I6 R 89))))))))) ∧ (¬ (I 70 0) ≤ a1 →
      (∃ Q7 : QT, Spec mX11_shoutOf [vR 68, vI a1, vI ((I 74 0) - 1), vI a1, vI 1] I R 89 89 Q7 ∧ (∀ x7 I7 R7, Q7 (vI x7) I7 R7 →
      R = R7 ∧ (0 ≤ a1 ∧ a1 < 20) ∧
      (∀ I9 : II, I9 = up2 I7 82 (a1.toNat) x7 →
      wp (kN 89) mX11_goBell Q 2 [vR 68, vI (a1 + 1), none, none] [] I9 R 89)))))) : wp (kN 89) mX11_goBell Q 2 [vR 68, vI a1, none, none] [] I R 89 := by
  refine wp_iload_n (pc' := 3) (q := 1) (i := 1) rfl rfl dX11_goBell_2 rfl ?_
  refine wp_aload_n (pc' := 4) (q := 0) (i := 0) rfl rfl dX11_goBell_3 rfl ?_
  refine wp_getRc (pc' := 7) (k := 2) (j := 70) dX11_goBell_4 vc10 (by decide) rfl lfX11_13 o_68 (r_68_2 hR) rfl ?_
  refine wp_iconst (pc' := 8) dX11_goBell_7 rfl ?_
  refine wp_iald (pc' := 9) (j := 0) dX11_goBell_8 a_70 ⟨by decide, by decide⟩ rfl rfl ?_
  obtain ⟨h1, h⟩ := h
  obtain ⟨h2, h⟩ := h
  refine wp_icmp_ge (pc' := 12) (tgt := 39) h1 h2 dX11_goBell_9 rfl rfl (fun hc => ?_) (fun hc => ?_)
  · have h := h.1 hc
    refine wp_aload_n (pc' := 40) (q := 0) (i := 0) rfl rfl dX11_goBell_39 rfl ?_
    obtain ⟨Q3, hs3, h⟩ := h
    refine wp_callV (pc' := 43) (as := []) (rest := []) hs3 dX11_goBell_40 rfl lkX11_151 okX11_layLines inX11_layLines seX11_layLines o_68 vc10 ⟨Nat.le_of_ble_eq_true rfl, Nat.le_of_ble_eq_true rfl⟩ (Nat.le_of_ble_eq_true rfl) (Nat.le_refl _) (Nat.le_refl _) okP_eq okP_eq rfl (rvV rfl (fun I3 R3 hq3 => ?_))
    obtain ⟨hRR3, h⟩ := h I3 R3 hq3; subst hRR3
    refine wp_aload_n (pc' := 44) (q := 0) (i := 0) rfl rfl dX11_goBell_43 rfl ?_
    refine wp_aload_n (pc' := 45) (q := 0) (i := 0) rfl rfl dX11_goBell_44 rfl ?_
    refine wp_getRc (pc' := 48) (k := 6) (j := 74) dX11_goBell_45 vc10 (by decide) rfl lfX11_25 o_68 (r_68_6 hR) rfl ?_
    refine wp_iconst (pc' := 49) dX11_goBell_48 rfl ?_
    refine wp_iald (pc' := 50) (j := 1) dX11_goBell_49 a_74 ⟨by decide, by decide⟩ rfl rfl ?_
    obtain ⟨Q4, hs4, h⟩ := h
    refine wp_callV (pc' := 53) (as := [vI (I3 74 1)]) (rest := []) hs4 dX11_goBell_50 rfl lkX11_154 okX11_quantity inX11_quantity seX11_quantity o_68 vc10 ⟨Nat.le_of_ble_eq_true rfl, Nat.le_of_ble_eq_true rfl⟩ (Nat.le_of_ble_eq_true rfl) (Nat.le_refl _) (Nat.le_refl _) okP_eq okP_eq rfl (rvI rfl (fun x4 I4 R4 hq4 => ?_))
    obtain ⟨hRR4, h⟩ := h x4 I4 R4 hq4; subst hRR4
    refine wp_istore_n (pc' := 54) (q := 1) (i := 1) (L' := [vR 68, vI x4, none, none]) rfl (by decide) rfl dX11_goBell_53 rfl rfl ?_
    refine wp_iload_n (pc' := 55) (q := 1) (i := 1) rfl rfl dX11_goBell_54 rfl ?_
    obtain ⟨h5, h⟩ := h
    refine wp_if_le (pc' := 58) (tgt := 101) h5 dX11_goBell_55 rfl rfl (fun hc => ?_) (fun hc => ?_)
    · have h := h.1 hc
      exact wp_dropP (leP_d (leP_d (leP_s (leP_s leP_n)))) h
    · have h := h.2 hc
      refine wp_aload_n (pc' := 59) (q := 0) (i := 0) rfl rfl dX11_goBell_58 rfl ?_
      refine wp_iload_n (pc' := 60) (q := 1) (i := 1) rfl rfl dX11_goBell_59 rfl ?_
      refine wp_aload_n (pc' := 61) (q := 0) (i := 0) rfl rfl dX11_goBell_60 rfl ?_
      refine wp_getRc (pc' := 64) (k := 6) (j := 74) dX11_goBell_61 vc10 (by decide) rfl lfX11_25 o_68 (r_68_6 hR) rfl ?_
      refine wp_iconst (pc' := 65) dX11_goBell_64 rfl ?_
      refine wp_iald (pc' := 66) (j := 1) dX11_goBell_65 a_74 ⟨by decide, by decide⟩ rfl rfl ?_
      obtain ⟨Q6, hs6, h⟩ := h
      refine wp_callV (pc' := 69) (as := [vI x4, vI (I4 74 1)]) (rest := []) hs6 dX11_goBell_66 rfl lkX11_160 okX11_lowest inX11_lowest seX11_lowest o_68 vc10 ⟨Nat.le_of_ble_eq_true rfl, Nat.le_of_ble_eq_true rfl⟩ (Nat.le_of_ble_eq_true rfl) (Nat.le_refl _) (Nat.le_refl _) okP_eq okP_eq rfl (rvI rfl (fun x6 I6 R6 hq6 => ?_))
      obtain ⟨hRR6, h⟩ := h x6 I6 R6 hq6; subst hRR6
      refine wp_istore_n (pc' := 70) (q := 2) (i := 2) (L' := [vR 68, vI x4, vI x6, none]) rfl (by decide) rfl dX11_goBell_69 rfl rfl ?_
      refine wp_iconst (pc' := 71) dX11_goBell_70 rfl ?_
      refine wp_istore_n (pc' := 72) (q := 3) (i := 3) (L' := [vR 68, vI x4, vI x6, vI 0]) rfl (by decide) rfl dX11_goBell_71 rfl rfl ?_
      exact h
  · have h := h.2 hc
    refine wp_aload_n (pc' := 13) (q := 0) (i := 0) rfl rfl dX11_goBell_12 rfl ?_
    refine wp_getRc (pc' := 16) (k := 16) (j := 82) dX11_goBell_13 vc10 (by decide) rfl lfX11_49 o_68 (r_68_16 hR) rfl ?_
    refine wp_iload_n (pc' := 17) (q := 1) (i := 1) rfl rfl dX11_goBell_16 rfl ?_
    refine wp_aload_n (pc' := 18) (q := 0) (i := 0) rfl rfl dX11_goBell_17 rfl ?_
    refine wp_iload_n (pc' := 19) (q := 1) (i := 1) rfl rfl dX11_goBell_18 rfl ?_
    refine wp_aload_n (pc' := 20) (q := 0) (i := 0) rfl rfl dX11_goBell_19 rfl ?_
    refine wp_getRc (pc' := 23) (k := 6) (j := 74) dX11_goBell_20 vc10 (by decide) rfl lfX11_25 o_68 (r_68_6 hR) rfl ?_
    refine wp_iconst (pc' := 24) dX11_goBell_23 rfl ?_
    refine wp_iald (pc' := 25) (j := 0) dX11_goBell_24 a_74 ⟨by decide, by decide⟩ rfl rfl ?_
    refine wp_iconst (pc' := 26) dX11_goBell_25 rfl ?_
    refine wp_isub (pc' := 27) dX11_goBell_26 rfl ?_
    refine wp_iload_n (pc' := 28) (q := 1) (i := 1) rfl rfl dX11_goBell_27 rfl ?_
    refine wp_iconst (pc' := 29) dX11_goBell_28 rfl ?_
    obtain ⟨Q7, hs7, h⟩ := h
    refine wp_callV (pc' := 32) (as := [vI a1, vI ((I 74 0) - 1), vI a1, vI 1]) (rest := [vI a1, vR 82]) hs7 dX11_goBell_29 rfl lkX11_225 okX11_shoutOf inX11_shoutOf seX11_shoutOf o_68 vc10 ⟨Nat.le_of_ble_eq_true rfl, Nat.le_of_ble_eq_true rfl⟩ (Nat.le_of_ble_eq_true rfl) (Nat.le_refl _) (Nat.le_refl _) okP_eq okP_eq rfl (rvI rfl (fun x7 I7 R7 hq7 => ?_))
    obtain ⟨hRR7, h⟩ := h x7 I7 R7 hq7; subst hRR7
    obtain ⟨h8, h⟩ := h
    obtain ⟨I9, eI9⟩ : ∃ z : II, z = up2 I7 82 (a1.toNat) x7 := ⟨_, rfl⟩
    have h := h I9 eI9
    refine wp_iast (pc' := 33) (j := a1.toNat) (I' := I9) dX11_goBell_32 a_82 h8 rfl rfl eI9 ?_
    refine wp_iinc (pc' := 36) (i := 1) (L' := [vR 68, vI (a1 + 1), none, none]) rfl (by decide) rfl dX11_goBell_33 rfl rfl ?_
    refine wp_goto (tgt := 2) dX11_goBell_36 rfl ?_
    exact h

set_option maxRecDepth 4000 in
theorem gX11_goBell_72 {Q : QT} {I : II} {R : RR} (hR : SR R) {a1 : Int} {a2 : Int} {a3 : Int}
    (h : (InI a3) ∧
      (InI a1) ∧
      ((a1 ≤ a3 →
      wp (kN 89) mX11_goBell Q 101 [none, none, none, none] [] I R 89) ∧ (¬ (a1 ≤ a3) →
      (0 ≤ a3 ∧ a3 < 10) ∧
      (∃ Q4 : QT, Spec mX11_trade [vR 68, vI (I 83 a3.toNat), vI (I 84 a3.toNat), vI a2, vI 0] I R 89 89 Q4 ∧ (∀ I4 R4, Q4 none I4 R4 →
      R = R4 ∧ wp (kN 89) mX11_goBell Q 72 [vR 68, vI a1, vI a2, vI (a3 + 1)] [] I4 R 89))))) : wp (kN 89) mX11_goBell Q 72 [vR 68, vI a1, vI a2, vI a3] [] I R 89 := by
  refine wp_iload_n (pc' := 73) (q := 3) (i := 3) rfl rfl dX11_goBell_72 rfl ?_
  refine wp_iload_n (pc' := 74) (q := 1) (i := 1) rfl rfl dX11_goBell_73 rfl ?_
  obtain ⟨h1, h⟩ := h
  obtain ⟨h2, h⟩ := h
  refine wp_icmp_ge (pc' := 77) (tgt := 101) h1 h2 dX11_goBell_74 rfl rfl (fun hc => ?_) (fun hc => ?_)
  · have h := h.1 hc
    exact wp_dropP (leP_d (leP_d (leP_d (leP_d leP_n)))) h
  · have h := h.2 hc
    refine wp_aload_n (pc' := 78) (q := 0) (i := 0) rfl rfl dX11_goBell_77 rfl ?_
    refine wp_aload_n (pc' := 79) (q := 0) (i := 0) rfl rfl dX11_goBell_78 rfl ?_
    refine wp_getRc (pc' := 82) (k := 17) (j := 83) dX11_goBell_79 vc10 (by decide) rfl lfX11_52 o_68 (r_68_17 hR) rfl ?_
    refine wp_iload_n (pc' := 83) (q := 3) (i := 3) rfl rfl dX11_goBell_82 rfl ?_
    obtain ⟨h3, h⟩ := h
    refine wp_iald (pc' := 84) (j := a3.toNat) dX11_goBell_83 a_83 h3 rfl rfl ?_
    refine wp_aload_n (pc' := 85) (q := 0) (i := 0) rfl rfl dX11_goBell_84 rfl ?_
    refine wp_getRc (pc' := 88) (k := 18) (j := 84) dX11_goBell_85 vc10 (by decide) rfl lfX11_55 o_68 (r_68_18 hR) rfl ?_
    refine wp_iload_n (pc' := 89) (q := 3) (i := 3) rfl rfl dX11_goBell_88 rfl ?_
    refine wp_iald (pc' := 90) (j := a3.toNat) dX11_goBell_89 a_84 h3 rfl rfl ?_
    refine wp_iload_n (pc' := 91) (q := 2) (i := 2) rfl rfl dX11_goBell_90 rfl ?_
    refine wp_iconst (pc' := 92) dX11_goBell_91 rfl ?_
    obtain ⟨Q4, hs4, h⟩ := h
    refine wp_callV (pc' := 95) (as := [vI (I 83 a3.toNat), vI (I 84 a3.toNat), vI a2, vI 0]) (rest := []) hs4 dX11_goBell_92 rfl lkX11_233 okX11_trade inX11_trade seX11_trade o_68 vc10 ⟨Nat.le_of_ble_eq_true rfl, Nat.le_of_ble_eq_true rfl⟩ (Nat.le_of_ble_eq_true rfl) (Nat.le_refl _) (Nat.le_refl _) okP_eq okP_eq rfl (rvV rfl (fun I4 R4 hq4 => ?_))
    obtain ⟨hRR4, h⟩ := h I4 R4 hq4; subst hRR4
    refine wp_iinc (pc' := 98) (i := 3) (L' := [vR 68, vI a1, vI a2, vI (a3 + 1)]) rfl (by decide) rfl dX11_goBell_95 rfl rfl ?_
    refine wp_goto (tgt := 72) dX11_goBell_98 rfl ?_
    exact h

set_option maxRecDepth 4000 in
theorem gX11_goBell_101 {Q : QT} {I : II} {R : RR} (hR : SR R) 
    (h : Q none I R) : wp (kN 89) mX11_goBell Q 101 [none, none, none, none] [] I R 89 := by
  exact wp_vreturn dX11_goBell_101 rfl rfl h

theorem sX11_goRound {Q : QT} {I : II} {R : RR} {a1 : Int} {a2 : Int} {a3 : Int} (h : wp (kN 89) mX11_goRound Q 0 [vR 68, vI a1, vI a2, vI a3, none] [] I R 89) : Spec mX11_goRound [vR 68, vI a1, vI a2, vI a3] I R 89 89 Q := Spec_of_wp pyX11_goRound rfl (Nat.le_of_ble_eq_true rfl) (Nat.le_refl _) (by decide) h

set_option maxRecDepth 4000 in
theorem gX11_goRound_0 {Q : QT} {I : II} {R : RR} (hR : SR R) {a1 : Int} {a2 : Int} {a3 : Int}
    (h : (∀ I1 : II, I1 = up2 I 68 21 a2 →
      (∀ I2 : II, I2 = up2 I1 68 22 (-4) →
      (∀ I3 : II, I3 = up2 I2 68 24 0 →
      (∀ I4 : II, I4 = up2 I3 68 25 0 →
      (∀ I5 : II, I5 = up2 I4 68 26 0 →
      (∀ I6 : II, I6 = up2 I5 68 27 0 →
      (∀ I7 : II, I7 = up2 I6 68 28 0 →
      (InI a3) ∧
      ((a3 = 0 →
      (∀ I9 : II, I9 = up2 I7 68 29 0 →
      (InI (I9 68 29)) ∧
      (((I9 68 29) = 0 →
      (∀ I11 : II, I11 = up2 I9 75 0 (I9 75 0) →
      wp (kN 89) mX11_goRound Q 79 [vR 68, vI a1, none, none, vI 0] [] I11 R 89)) ∧ (¬ (I9 68 29) = 0 →
      (∀ I12 : II, I12 = up2 I9 75 0 0 →
      wp (kN 89) mX11_goRound Q 79 [vR 68, vI a1, none, none, vI 0] [] I12 R 89))))) ∧ (¬ (a3 = 0) →
      (InI a1) ∧
      ((¬ a1 = 0 →
      (∀ I14 : II, I14 = up2 I7 68 29 0 →
      (InI (I14 68 29)) ∧
      (((I14 68 29) = 0 →
      (∀ I16 : II, I16 = up2 I14 75 0 (I14 75 0) →
      wp (kN 89) mX11_goRound Q 79 [vR 68, vI a1, none, none, vI 0] [] I16 R 89)) ∧ (¬ (I14 68 29) = 0 →
      (∀ I17 : II, I17 = up2 I14 75 0 0 →
      wp (kN 89) mX11_goRound Q 79 [vR 68, vI a1, none, none, vI 0] [] I17 R 89))))) ∧ (a1 = 0 →
      (∀ I18 : II, I18 = up2 I7 68 29 1 →
      (InI (I18 68 29)) ∧
      (((I18 68 29) = 0 →
      (∀ I20 : II, I20 = up2 I18 75 0 (I18 75 0) →
      wp (kN 89) mX11_goRound Q 79 [vR 68, vI a1, none, none, vI 0] [] I20 R 89)) ∧ (¬ (I18 68 29) = 0 →
      (∀ I21 : II, I21 = up2 I18 75 0 0 →
      wp (kN 89) mX11_goRound Q 79 [vR 68, vI a1, none, none, vI 0] [] I21 R 89)))))))))))))))) : wp (kN 89) mX11_goRound Q 0 [vR 68, vI a1, vI a2, vI a3, none] [] I R 89 := by
  refine wp_aload_n (pc' := 1) (q := 0) (i := 0) rfl rfl dX11_goRound_0 rfl ?_
  refine wp_iload_n (pc' := 2) (q := 2) (i := 2) rfl rfl dX11_goRound_1 rfl ?_
  obtain ⟨I1, eI1⟩ : ∃ z : II, z = up2 I 68 21 a2 := ⟨_, rfl⟩
  have h := h I1 eI1
  refine wp_putI (pc' := 5) (k := 21) (I' := I1) dX11_goRound_2 vc10 (by decide) rfl rfl (tyX11_ok 21 (by decide)) lfX11_187 o_68 rfl eI1 ?_
  refine wp_aload_n (pc' := 6) (q := 0) (i := 0) rfl rfl dX11_goRound_5 rfl ?_
  refine wp_bipush (pc' := 8) (by decide) dX11_goRound_6 rfl ?_
  obtain ⟨I2, eI2⟩ : ∃ z : II, z = up2 I1 68 22 (-4) := ⟨_, rfl⟩
  have h := h I2 eI2
  refine wp_putI (pc' := 11) (k := 22) (I' := I2) dX11_goRound_8 vc10 (by decide) rfl rfl (tyX11_ok 22 (by decide)) lfX11_196 o_68 rfl eI2 ?_
  refine wp_aload_n (pc' := 12) (q := 0) (i := 0) rfl rfl dX11_goRound_11 rfl ?_
  refine wp_iconst (pc' := 13) dX11_goRound_12 rfl ?_
  obtain ⟨I3, eI3⟩ : ∃ z : II, z = up2 I2 68 24 0 := ⟨_, rfl⟩
  have h := h I3 eI3
  refine wp_putI (pc' := 16) (k := 24) (I' := I3) dX11_goRound_13 vc10 (by decide) rfl rfl (tyX11_ok 24 (by decide)) lfX11_209 o_68 rfl eI3 ?_
  refine wp_aload_n (pc' := 17) (q := 0) (i := 0) rfl rfl dX11_goRound_16 rfl ?_
  refine wp_iconst (pc' := 18) dX11_goRound_17 rfl ?_
  obtain ⟨I4, eI4⟩ : ∃ z : II, z = up2 I3 68 25 0 := ⟨_, rfl⟩
  have h := h I4 eI4
  refine wp_putI (pc' := 21) (k := 25) (I' := I4) dX11_goRound_18 vc10 (by decide) rfl rfl (tyX11_ok 25 (by decide)) lfX11_206 o_68 rfl eI4 ?_
  refine wp_aload_n (pc' := 22) (q := 0) (i := 0) rfl rfl dX11_goRound_21 rfl ?_
  refine wp_iconst (pc' := 23) dX11_goRound_22 rfl ?_
  obtain ⟨I5, eI5⟩ : ∃ z : II, z = up2 I4 68 26 0 := ⟨_, rfl⟩
  have h := h I5 eI5
  refine wp_putI (pc' := 26) (k := 26) (I' := I5) dX11_goRound_23 vc10 (by decide) rfl rfl (tyX11_ok 26 (by decide)) lfX11_218 o_68 rfl eI5 ?_
  refine wp_aload_n (pc' := 27) (q := 0) (i := 0) rfl rfl dX11_goRound_26 rfl ?_
  refine wp_iconst (pc' := 28) dX11_goRound_27 rfl ?_
  obtain ⟨I6, eI6⟩ : ∃ z : II, z = up2 I5 68 27 0 := ⟨_, rfl⟩
  have h := h I6 eI6
  refine wp_putI (pc' := 31) (k := 27) (I' := I6) dX11_goRound_28 vc10 (by decide) rfl rfl (tyX11_ok 27 (by decide)) lfX11_212 o_68 rfl eI6 ?_
  refine wp_aload_n (pc' := 32) (q := 0) (i := 0) rfl rfl dX11_goRound_31 rfl ?_
  refine wp_iconst (pc' := 33) dX11_goRound_32 rfl ?_
  obtain ⟨I7, eI7⟩ : ∃ z : II, z = up2 I6 68 28 0 := ⟨_, rfl⟩
  have h := h I7 eI7
  refine wp_putI (pc' := 36) (k := 28) (I' := I7) dX11_goRound_33 vc10 (by decide) rfl rfl (tyX11_ok 28 (by decide)) lfX11_215 o_68 rfl eI7 ?_
  refine wp_aload_n (pc' := 37) (q := 0) (i := 0) rfl rfl dX11_goRound_36 rfl ?_
  refine wp_iload_n (pc' := 38) (q := 3) (i := 3) rfl rfl dX11_goRound_37 rfl ?_
  obtain ⟨h8, h⟩ := h
  refine wp_if_eq (pc' := 41) (tgt := 49) h8 dX11_goRound_38 rfl rfl (fun hc => ?_) (fun hc => ?_)
  · have h := h.1 hc
    refine wp_iconst (pc' := 50) dX11_goRound_49 rfl ?_
    obtain ⟨I9, eI9⟩ : ∃ z : II, z = up2 I7 68 29 0 := ⟨_, rfl⟩
    have h := h I9 eI9
    refine wp_putZ (pc' := 53) (k := 29) (I' := I9) (by decide) dX11_goRound_50 vc10 (by decide) rfl rfl (tyX11_ok 29 (by decide)) lfX11_221 o_68 rfl eI9 ?_
    refine wp_aload_n (pc' := 54) (q := 0) (i := 0) rfl rfl dX11_goRound_53 rfl ?_
    refine wp_getRc (pc' := 57) (k := 7) (j := 75) dX11_goRound_54 vc10 (by decide) rfl lfX11_28 o_68 (r_68_7 hR) rfl ?_
    refine wp_iconst (pc' := 58) dX11_goRound_57 rfl ?_
    refine wp_aload_n (pc' := 59) (q := 0) (i := 0) rfl rfl dX11_goRound_58 rfl ?_
    refine wp_getI (pc' := 62) (k := 29) dX11_goRound_59 vc10 (by decide) rfl lfX11_221 o_68 rfl ?_
    obtain ⟨h10, h⟩ := h
    refine wp_if_eq (pc' := 65) (tgt := 69) h10 dX11_goRound_62 rfl rfl (fun hc => ?_) (fun hc => ?_)
    · have h := h.1 hc
      refine wp_aload_n (pc' := 70) (q := 0) (i := 0) rfl rfl dX11_goRound_69 rfl ?_
      refine wp_getRc (pc' := 73) (k := 7) (j := 75) dX11_goRound_70 vc10 (by decide) rfl lfX11_28 o_68 (r_68_7 hR) rfl ?_
      refine wp_iconst (pc' := 74) dX11_goRound_73 rfl ?_
      refine wp_iald (pc' := 75) (j := 0) dX11_goRound_74 a_75 ⟨by decide, by decide⟩ rfl rfl ?_
      obtain ⟨I11, eI11⟩ : ∃ z : II, z = up2 I9 75 0 (I9 75 0) := ⟨_, rfl⟩
      have h := h I11 eI11
      refine wp_iast (pc' := 76) (j := 0) (I' := I11) dX11_goRound_75 a_75 ⟨by decide, by decide⟩ rfl rfl eI11 ?_
      refine wp_iconst (pc' := 77) dX11_goRound_76 rfl ?_
      refine wp_istore (pc' := 79) (i := 4) (L' := [vR 68, vI a1, vI a2, vI a3, vI 0]) (by decide) rfl dX11_goRound_77 rfl rfl ?_
      exact wp_dropP (leP_s (leP_s (leP_d (leP_d (leP_s leP_n))))) h
    · have h := h.2 hc
      refine wp_iconst (pc' := 66) dX11_goRound_65 rfl ?_
      refine wp_goto (tgt := 75) dX11_goRound_66 rfl ?_
      obtain ⟨I12, eI12⟩ : ∃ z : II, z = up2 I9 75 0 0 := ⟨_, rfl⟩
      have h := h I12 eI12
      refine wp_iast (pc' := 76) (j := 0) (I' := I12) dX11_goRound_75 a_75 ⟨by decide, by decide⟩ rfl rfl eI12 ?_
      refine wp_iconst (pc' := 77) dX11_goRound_76 rfl ?_
      refine wp_istore (pc' := 79) (i := 4) (L' := [vR 68, vI a1, vI a2, vI a3, vI 0]) (by decide) rfl dX11_goRound_77 rfl rfl ?_
      exact wp_dropP (leP_s (leP_s (leP_d (leP_d (leP_s leP_n))))) h
  · have h := h.2 hc
    refine wp_iload_n (pc' := 42) (q := 1) (i := 1) rfl rfl dX11_goRound_41 rfl ?_
    obtain ⟨h13, h⟩ := h
    refine wp_if_ne (pc' := 45) (tgt := 49) h13 dX11_goRound_42 rfl rfl (fun hc => ?_) (fun hc => ?_)
    · have h := h.1 hc
      refine wp_iconst (pc' := 50) dX11_goRound_49 rfl ?_
      obtain ⟨I14, eI14⟩ : ∃ z : II, z = up2 I7 68 29 0 := ⟨_, rfl⟩
      have h := h I14 eI14
      refine wp_putZ (pc' := 53) (k := 29) (I' := I14) (by decide) dX11_goRound_50 vc10 (by decide) rfl rfl (tyX11_ok 29 (by decide)) lfX11_221 o_68 rfl eI14 ?_
      refine wp_aload_n (pc' := 54) (q := 0) (i := 0) rfl rfl dX11_goRound_53 rfl ?_
      refine wp_getRc (pc' := 57) (k := 7) (j := 75) dX11_goRound_54 vc10 (by decide) rfl lfX11_28 o_68 (r_68_7 hR) rfl ?_
      refine wp_iconst (pc' := 58) dX11_goRound_57 rfl ?_
      refine wp_aload_n (pc' := 59) (q := 0) (i := 0) rfl rfl dX11_goRound_58 rfl ?_
      refine wp_getI (pc' := 62) (k := 29) dX11_goRound_59 vc10 (by decide) rfl lfX11_221 o_68 rfl ?_
      obtain ⟨h15, h⟩ := h
      refine wp_if_eq (pc' := 65) (tgt := 69) h15 dX11_goRound_62 rfl rfl (fun hc => ?_) (fun hc => ?_)
      · have h := h.1 hc
        refine wp_aload_n (pc' := 70) (q := 0) (i := 0) rfl rfl dX11_goRound_69 rfl ?_
        refine wp_getRc (pc' := 73) (k := 7) (j := 75) dX11_goRound_70 vc10 (by decide) rfl lfX11_28 o_68 (r_68_7 hR) rfl ?_
        refine wp_iconst (pc' := 74) dX11_goRound_73 rfl ?_
        refine wp_iald (pc' := 75) (j := 0) dX11_goRound_74 a_75 ⟨by decide, by decide⟩ rfl rfl ?_
        obtain ⟨I16, eI16⟩ : ∃ z : II, z = up2 I14 75 0 (I14 75 0) := ⟨_, rfl⟩
        have h := h I16 eI16
        refine wp_iast (pc' := 76) (j := 0) (I' := I16) dX11_goRound_75 a_75 ⟨by decide, by decide⟩ rfl rfl eI16 ?_
        refine wp_iconst (pc' := 77) dX11_goRound_76 rfl ?_
        refine wp_istore (pc' := 79) (i := 4) (L' := [vR 68, vI a1, vI a2, vI a3, vI 0]) (by decide) rfl dX11_goRound_77 rfl rfl ?_
        exact wp_dropP (leP_s (leP_s (leP_d (leP_d (leP_s leP_n))))) h
      · have h := h.2 hc
        refine wp_iconst (pc' := 66) dX11_goRound_65 rfl ?_
        refine wp_goto (tgt := 75) dX11_goRound_66 rfl ?_
        obtain ⟨I17, eI17⟩ : ∃ z : II, z = up2 I14 75 0 0 := ⟨_, rfl⟩
        have h := h I17 eI17
        refine wp_iast (pc' := 76) (j := 0) (I' := I17) dX11_goRound_75 a_75 ⟨by decide, by decide⟩ rfl rfl eI17 ?_
        refine wp_iconst (pc' := 77) dX11_goRound_76 rfl ?_
        refine wp_istore (pc' := 79) (i := 4) (L' := [vR 68, vI a1, vI a2, vI a3, vI 0]) (by decide) rfl dX11_goRound_77 rfl rfl ?_
        exact wp_dropP (leP_s (leP_s (leP_d (leP_d (leP_s leP_n))))) h
    · have h := h.2 hc
      refine wp_iconst (pc' := 46) dX11_goRound_45 rfl ?_
      refine wp_goto (tgt := 50) dX11_goRound_46 rfl ?_
      obtain ⟨I18, eI18⟩ : ∃ z : II, z = up2 I7 68 29 1 := ⟨_, rfl⟩
      have h := h I18 eI18
      refine wp_putZ (pc' := 53) (k := 29) (I' := I18) (by decide) dX11_goRound_50 vc10 (by decide) rfl rfl (tyX11_ok 29 (by decide)) lfX11_221 o_68 rfl eI18 ?_
      refine wp_aload_n (pc' := 54) (q := 0) (i := 0) rfl rfl dX11_goRound_53 rfl ?_
      refine wp_getRc (pc' := 57) (k := 7) (j := 75) dX11_goRound_54 vc10 (by decide) rfl lfX11_28 o_68 (r_68_7 hR) rfl ?_
      refine wp_iconst (pc' := 58) dX11_goRound_57 rfl ?_
      refine wp_aload_n (pc' := 59) (q := 0) (i := 0) rfl rfl dX11_goRound_58 rfl ?_
      refine wp_getI (pc' := 62) (k := 29) dX11_goRound_59 vc10 (by decide) rfl lfX11_221 o_68 rfl ?_
      obtain ⟨h19, h⟩ := h
      refine wp_if_eq (pc' := 65) (tgt := 69) h19 dX11_goRound_62 rfl rfl (fun hc => ?_) (fun hc => ?_)
      · have h := h.1 hc
        refine wp_aload_n (pc' := 70) (q := 0) (i := 0) rfl rfl dX11_goRound_69 rfl ?_
        refine wp_getRc (pc' := 73) (k := 7) (j := 75) dX11_goRound_70 vc10 (by decide) rfl lfX11_28 o_68 (r_68_7 hR) rfl ?_
        refine wp_iconst (pc' := 74) dX11_goRound_73 rfl ?_
        refine wp_iald (pc' := 75) (j := 0) dX11_goRound_74 a_75 ⟨by decide, by decide⟩ rfl rfl ?_
        obtain ⟨I20, eI20⟩ : ∃ z : II, z = up2 I18 75 0 (I18 75 0) := ⟨_, rfl⟩
        have h := h I20 eI20
        refine wp_iast (pc' := 76) (j := 0) (I' := I20) dX11_goRound_75 a_75 ⟨by decide, by decide⟩ rfl rfl eI20 ?_
        refine wp_iconst (pc' := 77) dX11_goRound_76 rfl ?_
        refine wp_istore (pc' := 79) (i := 4) (L' := [vR 68, vI a1, vI a2, vI a3, vI 0]) (by decide) rfl dX11_goRound_77 rfl rfl ?_
        exact wp_dropP (leP_s (leP_s (leP_d (leP_d (leP_s leP_n))))) h
      · have h := h.2 hc
        refine wp_iconst (pc' := 66) dX11_goRound_65 rfl ?_
        refine wp_goto (tgt := 75) dX11_goRound_66 rfl ?_
        obtain ⟨I21, eI21⟩ : ∃ z : II, z = up2 I18 75 0 0 := ⟨_, rfl⟩
        have h := h I21 eI21
        refine wp_iast (pc' := 76) (j := 0) (I' := I21) dX11_goRound_75 a_75 ⟨by decide, by decide⟩ rfl rfl eI21 ?_
        refine wp_iconst (pc' := 77) dX11_goRound_76 rfl ?_
        refine wp_istore (pc' := 79) (i := 4) (L' := [vR 68, vI a1, vI a2, vI a3, vI 0]) (by decide) rfl dX11_goRound_77 rfl rfl ?_
        exact wp_dropP (leP_s (leP_s (leP_d (leP_d (leP_s leP_n))))) h

set_option maxRecDepth 4000 in
theorem gX11_goRound_79 {Q : QT} {I : II} {R : RR} (hR : SR R) {a1 : Int} {a4 : Int}
    (h : (InI a4) ∧
      (((20 : Int) ≤ a4 →
      (InI a1) ∧
      ((a1 < 0 ∨ 2 < a1 →
      (∃ Q3 : QT, Spec mX11_goBell [vR 68] I R 89 89 Q3 ∧ (∀ I3 R3, Q3 none I3 R3 →
      R = R3 ∧ wp (kN 89) mX11_goRound Q 153 [none, none, none, none, none] [] I3 R 89))) ∧ (a1 = 0 →
      (∃ Q4 : QT, Spec mX11_goShouts [vR 68] I R 89 89 Q4 ∧ (∀ I4 R4, Q4 none I4 R4 →
      R = R4 ∧ wp (kN 89) mX11_goRound Q 153 [none, none, none, none, none] [] I4 R 89))) ∧ (a1 = 1 →
      (∃ Q5 : QT, Spec mX11_goPairs [vR 68] I R 89 89 Q5 ∧ (∀ I5 R5, Q5 none I5 R5 →
      R = R5 ∧ wp (kN 89) mX11_goRound Q 153 [none, none, none, none, none] [] I5 R 89))) ∧ (a1 = 2 →
      (∃ Q6 : QT, Spec mX11_goPosted [vR 68] I R 89 89 Q6 ∧ (∀ I6 R6, Q6 none I6 R6 →
      R = R6 ∧ wp (kN 89) mX11_goRound Q 153 [none, none, none, none, none] [] I6 R 89))))) ∧ (¬ (20 : Int) ≤ a4 →
      (0 ≤ a4 ∧ a4 < 20) ∧
      (∀ I8 : II, I8 = up2 I 85 (a4.toNat) (-4) →
      wp (kN 89) mX11_goRound Q 79 [vR 68, vI a1, none, none, vI (a4 + 1)] [] I8 R 89)))) : wp (kN 89) mX11_goRound Q 79 [vR 68, vI a1, none, none, vI a4] [] I R 89 := by
  refine wp_iload (pc' := 81) (i := 4) rfl dX11_goRound_79 rfl ?_
  refine wp_bipush (pc' := 83) (by decide) dX11_goRound_81 rfl ?_
  obtain ⟨h1, h⟩ := h
  refine wp_icmp_ge (pc' := 86) (tgt := 101) h1 ⟨by decide, by decide⟩ dX11_goRound_83 rfl rfl (fun hc => ?_) (fun hc => ?_)
  · have h := h.1 hc
    refine wp_iload_n (pc' := 102) (q := 1) (i := 1) rfl rfl dX11_goRound_101 rfl ?_
    obtain ⟨h2, h⟩ := h
    refine wp_table (tgtD := 149) h2 dX11_goRound_102 rfl (fun hc => ?_) (fun j hj hle => ?_)
    · have h := h.1 hc
      refine wp_aload_n (pc' := 150) (q := 0) (i := 0) rfl rfl dX11_goRound_149 rfl ?_
      obtain ⟨Q3, hs3, h⟩ := h
      refine wp_callV (pc' := 153) (as := []) (rest := []) hs3 dX11_goRound_150 rfl lkX11_249 okX11_goBell inX11_goBell seX11_goBell o_68 vc10 ⟨Nat.le_of_ble_eq_true rfl, Nat.le_of_ble_eq_true rfl⟩ (Nat.le_of_ble_eq_true rfl) (Nat.le_refl _) (Nat.le_refl _) okP_eq okP_eq rfl (rvV rfl (fun I3 R3 hq3 => ?_))
      obtain ⟨hRR3, h⟩ := h I3 R3 hq3; subst hRR3
      exact wp_dropP (leP_d (leP_d (leP_s (leP_s (leP_d leP_n))))) h
    · have hj9 : j = 0 ∨ j = 1 ∨ j = 2 := by omega
      rcases hj9 with rfl | rfl | rfl
      · refine ⟨26, 128, rfl, rfl, ?_⟩
        have h := h.2.1 (by omega)
        refine wp_aload_n (pc' := 129) (q := 0) (i := 0) rfl rfl dX11_goRound_128 rfl ?_
        obtain ⟨Q4, hs4, h⟩ := h
        refine wp_callV (pc' := 132) (as := []) (rest := []) hs4 dX11_goRound_129 rfl lkX11_240 okX11_goShouts inX11_goShouts seX11_goShouts o_68 vc10 ⟨Nat.le_of_ble_eq_true rfl, Nat.le_of_ble_eq_true rfl⟩ (Nat.le_of_ble_eq_true rfl) (Nat.le_refl _) (Nat.le_refl _) okP_eq okP_eq rfl (rvV rfl (fun I4 R4 hq4 => ?_))
        obtain ⟨hRR4, h⟩ := h I4 R4 hq4; subst hRR4
        refine wp_goto (tgt := 153) dX11_goRound_132 rfl ?_
        exact wp_dropP (leP_d (leP_d (leP_s (leP_s (leP_d leP_n))))) h
      · refine ⟨33, 135, rfl, rfl, ?_⟩
        have h := h.2.2.1 (by omega)
        refine wp_aload_n (pc' := 136) (q := 0) (i := 0) rfl rfl dX11_goRound_135 rfl ?_
        obtain ⟨Q5, hs5, h⟩ := h
        refine wp_callV (pc' := 139) (as := []) (rest := []) hs5 dX11_goRound_136 rfl lkX11_243 okX11_goPairs inX11_goPairs seX11_goPairs o_68 vc10 ⟨Nat.le_of_ble_eq_true rfl, Nat.le_of_ble_eq_true rfl⟩ (Nat.le_of_ble_eq_true rfl) (Nat.le_refl _) (Nat.le_refl _) okP_eq okP_eq rfl (rvV rfl (fun I5 R5 hq5 => ?_))
        obtain ⟨hRR5, h⟩ := h I5 R5 hq5; subst hRR5
        refine wp_goto (tgt := 153) dX11_goRound_139 rfl ?_
        exact wp_dropP (leP_d (leP_d (leP_s (leP_s (leP_d leP_n))))) h
      · refine ⟨40, 142, rfl, rfl, ?_⟩
        have h := h.2.2.2 (by omega)
        refine wp_aload_n (pc' := 143) (q := 0) (i := 0) rfl rfl dX11_goRound_142 rfl ?_
        obtain ⟨Q6, hs6, h⟩ := h
        refine wp_callV (pc' := 146) (as := []) (rest := []) hs6 dX11_goRound_143 rfl lkX11_246 okX11_goPosted inX11_goPosted seX11_goPosted o_68 vc10 ⟨Nat.le_of_ble_eq_true rfl, Nat.le_of_ble_eq_true rfl⟩ (Nat.le_of_ble_eq_true rfl) (Nat.le_refl _) (Nat.le_refl _) okP_eq okP_eq rfl (rvV rfl (fun I6 R6 hq6 => ?_))
        obtain ⟨hRR6, h⟩ := h I6 R6 hq6; subst hRR6
        refine wp_goto (tgt := 153) dX11_goRound_146 rfl ?_
        exact wp_dropP (leP_d (leP_d (leP_s (leP_s (leP_d leP_n))))) h
  · have h := h.2 hc
    refine wp_aload_n (pc' := 87) (q := 0) (i := 0) rfl rfl dX11_goRound_86 rfl ?_
    refine wp_getRc (pc' := 90) (k := 23) (j := 85) dX11_goRound_87 vc10 (by decide) rfl lfX11_58 o_68 (r_68_23 hR) rfl ?_
    refine wp_iload (pc' := 92) (i := 4) rfl dX11_goRound_90 rfl ?_
    refine wp_bipush (pc' := 94) (by decide) dX11_goRound_92 rfl ?_
    obtain ⟨h7, h⟩ := h
    obtain ⟨I8, eI8⟩ : ∃ z : II, z = up2 I 85 (a4.toNat) (-4) := ⟨_, rfl⟩
    have h := h I8 eI8
    refine wp_iast (pc' := 95) (j := a4.toNat) (I' := I8) dX11_goRound_94 a_85 h7 rfl rfl eI8 ?_
    refine wp_iinc (pc' := 98) (i := 4) (L' := [vR 68, vI a1, none, none, vI (a4 + 1)]) rfl (by decide) rfl dX11_goRound_95 rfl rfl ?_
    refine wp_goto (tgt := 79) dX11_goRound_98 rfl ?_
    exact h

set_option maxRecDepth 4000 in
theorem gX11_goRound_153 {Q : QT} {I : II} {R : RR} (hR : SR R) 
    (h : Q none I R) : wp (kN 89) mX11_goRound Q 153 [none, none, none, none, none] [] I R 89 := by
  exact wp_vreturn dX11_goRound_153 rfl rfl h

theorem sX11_round {Q : QT} {I : II} {R : RR} {a1 : Int} {a2 : Int} {a3 : Int} (h : wp (kN 89) mX11_round Q 0 [vR 68, vI a1, vI a2, vI a3] [] I R 89) : Spec mX11_round [vR 68, vI a1, vI a2, vI a3] I R 89 89 Q := Spec_of_wp pyX11_round rfl (Nat.le_of_ble_eq_true rfl) (Nat.le_refl _) (by decide) h

set_option maxRecDepth 4000 in
theorem gX11_round_0 {Q : QT} {I : II} {R : RR} (hR : SR R) {a1 : Int} {a2 : Int} {a3 : Int}
    (h : (InI a1) ∧
      (InI a2) ∧
      (((0 ≤ a1 ∧ a1 ≤ 3) ∧ 0 ≤ a2 ∧ a2 ≤ 9999 →
      (InI a3) ∧
      (((0 : Int) ≤ a3 ∧ a3 ≤ (3 : Int) →
      (∃ Q6 : QT, Spec mX11_goRound [vR 68, vI a1, vI a2, vI 1] I R 89 89 Q6 ∧ (∀ I6 R6, Q6 none I6 R6 →
      R = R6 ∧ ((¬ a3 = 0 →
      ((¬ a3 = (1 : Int) →
      ((¬ a3 = (2 : Int) →
      Q (vI ((I6 68 28) - (I6 68 27))) I6 R) ∧ (a3 = (2 : Int) →
      Q (vI (I6 68 26)) I6 R))) ∧ (a3 = (1 : Int) →
      Q (vI (I6 68 25)) I6 R))) ∧ (a3 = 0 →
      Q (vI (I6 68 24)) I6 R))))) ∧ (¬ ((0 : Int) ≤ a3 ∧ a3 ≤ (3 : Int)) →
      wp (kN 89) mX11_round Q 20 [none, none, none, none] [] I R 89))) ∧ (¬ ((0 ≤ a1 ∧ a1 ≤ 3) ∧ 0 ≤ a2 ∧ a2 ≤ 9999) →
      wp (kN 89) mX11_round Q 20 [none, none, none, none] [] I R 89))) : wp (kN 89) mX11_round Q 0 [vR 68, vI a1, vI a2, vI a3] [] I R 89 := by
  refine wp_iload_n (pc' := 1) (q := 1) (i := 1) rfl rfl dX11_round_0 rfl ?_
  refine wp_iload_n (pc' := 2) (q := 2) (i := 2) rfl rfl dX11_round_1 rfl ?_
  obtain ⟨h2, h⟩ := h
  obtain ⟨h3, h⟩ := h
  refine wp_callS (pc' := 5) (as := [vI a1, vI a2]) (rest := []) (pX11_isRound hR h2 h3) dX11_round_2 rfl lkX11_254 okX11_isRound stX11_isRound ⟨Nat.le_of_ble_eq_true rfl, Nat.le_of_ble_eq_true rfl⟩ (Nat.le_of_ble_eq_true rfl) (Nat.le_refl _) (Nat.le_refl _) okP_eq okP_eq rfl (rvZ rfl (fun x1 I1 R1 hz1 hq1 => ?_))
  obtain ⟨eR1, eI1, ex1⟩ := hq1; subst eR1; subst eI1; cases ex1
  by_cases hc : (0 ≤ a1 ∧ a1 ≤ 3) ∧ 0 ≤ a2 ∧ a2 ≤ 9999
  · rw [if_pos hc]; have h := h.1 hc
    refine wp_if_eq (pc' := 8) (tgt := 20) ⟨by decide, by decide⟩ dX11_round_5 rfl rfl (fun hc => by exfalso; revert hc; decide) (fun hc => ?_)
    refine wp_iload_n (pc' := 9) (q := 3) (i := 3) rfl rfl dX11_round_8 rfl ?_
    obtain ⟨h4, h⟩ := h
    refine wp_i2l (pc' := 10) h4 dX11_round_9 rfl ?_
    refine wp_lconst (pc' := 11) dX11_round_10 rfl ?_
    refine wp_ldc2 (pc' := 14) (x := 3) lcX11_100 (by decide +kernel) dX11_round_11 rfl ?_
    refine wp_callS (pc' := 17) (as := [vL a3, vL 0, vL 3]) (rest := []) (pX11_in (by decide) (inL_of h4) ⟨by decide, by decide⟩ ⟨by decide, by decide⟩) dX11_round_14 rfl lkX11_79 okX11_in stX11_in ⟨Nat.le_of_ble_eq_true rfl, Nat.le_of_ble_eq_true rfl⟩ (Nat.le_of_ble_eq_true rfl) (Nat.le_refl _) (Nat.le_refl _) okP_eq okP_eq rfl (rvZ rfl (fun x5 I5 R5 hz5 hq5 => ?_))
    obtain ⟨eR5, eI5, ex5⟩ := hq5; subst eR5; subst eI5; cases ex5
    by_cases hc : (0 : Int) ≤ a3 ∧ a3 ≤ (3 : Int)
    · rw [if_pos hc]; have h := h.1 hc
      refine wp_if_ne (pc' := 20) (tgt := 24) ⟨by decide, by decide⟩ dX11_round_17 rfl rfl (fun hc => ?_) (fun hc => by exfalso; revert hc; decide)
      refine wp_aload_n (pc' := 25) (q := 0) (i := 0) rfl rfl dX11_round_24 rfl ?_
      refine wp_iload_n (pc' := 26) (q := 1) (i := 1) rfl rfl dX11_round_25 rfl ?_
      refine wp_iload_n (pc' := 27) (q := 2) (i := 2) rfl rfl dX11_round_26 rfl ?_
      refine wp_iconst (pc' := 28) dX11_round_27 rfl ?_
      obtain ⟨Q6, hs6, h⟩ := h
      refine wp_callV (pc' := 31) (as := [vI a1, vI a2, vI 1]) (rest := []) hs6 dX11_round_28 rfl lkX11_257 okX11_goRound inX11_goRound seX11_goRound o_68 vc10 ⟨Nat.le_of_ble_eq_true rfl, Nat.le_of_ble_eq_true rfl⟩ (Nat.le_of_ble_eq_true rfl) (Nat.le_refl _) (Nat.le_refl _) okP_eq okP_eq rfl (rvV rfl (fun I6 R6 hq6 => ?_))
      obtain ⟨hRR6, h⟩ := h I6 R6 hq6; subst hRR6
      refine wp_iload_n (pc' := 32) (q := 3) (i := 3) rfl rfl dX11_round_31 rfl ?_
      refine wp_if_ne (pc' := 35) (tgt := 42) h4 dX11_round_32 rfl rfl (fun hc => ?_) (fun hc => ?_)
      · have h := h.1 hc
        refine wp_iload_n (pc' := 43) (q := 3) (i := 3) rfl rfl dX11_round_42 rfl ?_
        refine wp_iconst (pc' := 44) dX11_round_43 rfl ?_
        refine wp_icmp_ne (pc' := 47) (tgt := 54) h4 ⟨by decide, by decide⟩ dX11_round_44 rfl rfl (fun hc => ?_) (fun hc => ?_)
        · have h := h.1 hc
          refine wp_iload_n (pc' := 55) (q := 3) (i := 3) rfl rfl dX11_round_54 rfl ?_
          refine wp_iconst (pc' := 56) dX11_round_55 rfl ?_
          refine wp_icmp_ne (pc' := 59) (tgt := 66) h4 ⟨by decide, by decide⟩ dX11_round_56 rfl rfl (fun hc => ?_) (fun hc => ?_)
          · have h := h.1 hc
            refine wp_aload_n (pc' := 67) (q := 0) (i := 0) rfl rfl dX11_round_66 rfl ?_
            refine wp_getI (pc' := 70) (k := 28) dX11_round_67 vc10 (by decide) rfl lfX11_215 o_68 rfl ?_
            refine wp_aload_n (pc' := 71) (q := 0) (i := 0) rfl rfl dX11_round_70 rfl ?_
            refine wp_getI (pc' := 74) (k := 27) dX11_round_71 vc10 (by decide) rfl lfX11_212 o_68 rfl ?_
            refine wp_isub (pc' := 75) dX11_round_74 rfl ?_
            exact wp_ireturn dX11_round_75 rfl rfl h
          · have h := h.2 hc
            refine wp_aload_n (pc' := 60) (q := 0) (i := 0) rfl rfl dX11_round_59 rfl ?_
            refine wp_getI (pc' := 63) (k := 26) dX11_round_60 vc10 (by decide) rfl lfX11_218 o_68 rfl ?_
            refine wp_goto (tgt := 75) dX11_round_63 rfl ?_
            exact wp_ireturn dX11_round_75 rfl rfl h
        · have h := h.2 hc
          refine wp_aload_n (pc' := 48) (q := 0) (i := 0) rfl rfl dX11_round_47 rfl ?_
          refine wp_getI (pc' := 51) (k := 25) dX11_round_48 vc10 (by decide) rfl lfX11_206 o_68 rfl ?_
          refine wp_goto (tgt := 75) dX11_round_51 rfl ?_
          exact wp_ireturn dX11_round_75 rfl rfl h
      · have h := h.2 hc
        refine wp_aload_n (pc' := 36) (q := 0) (i := 0) rfl rfl dX11_round_35 rfl ?_
        refine wp_getI (pc' := 39) (k := 24) dX11_round_36 vc10 (by decide) rfl lfX11_209 o_68 rfl ?_
        refine wp_goto (tgt := 75) dX11_round_39 rfl ?_
        exact wp_ireturn dX11_round_75 rfl rfl h
    · rw [if_neg hc]; have h := h.2 hc
      refine wp_if_ne (pc' := 20) (tgt := 24) ⟨by decide, by decide⟩ dX11_round_17 rfl rfl (fun hc => by exfalso; revert hc; decide) (fun hc => ?_)
      exact wp_dropP (leP_d (leP_d (leP_d (leP_d leP_n)))) h
  · rw [if_neg hc]; have h := h.2 hc
    refine wp_if_eq (pc' := 8) (tgt := 20) ⟨by decide, by decide⟩ dX11_round_5 rfl rfl (fun hc => ?_) (fun hc => by exfalso; revert hc; decide)
    exact wp_dropP (leP_d (leP_d (leP_d (leP_d leP_n)))) h

set_option maxRecDepth 4000 in
theorem gX11_round_20 {Q : QT} {I : II} {R : RR} (hR : SR R) 
    (h : Q (vI (-10000)) I R) : wp (kN 89) mX11_round Q 20 [none, none, none, none] [] I R 89 := by
  refine wp_sipush (pc' := 23) (by decide) dX11_round_20 rfl ?_
  exact wp_ireturn dX11_round_23 rfl rfl h

theorem sX11_of {Q : QT} {I : II} {R : RR} {a1 : Int} {a2 : Int} {a3 : Int} (h : wp (kN 89) mX11_of Q 0 [vR 68, vI a1, vI a2, vI a3] [] I R 89) : Spec mX11_of [vR 68, vI a1, vI a2, vI a3] I R 89 89 Q := Spec_of_wp pyX11_of rfl (Nat.le_of_ble_eq_true rfl) (Nat.le_refl _) (by decide) h

set_option maxRecDepth 4000 in
theorem gX11_of_0 {Q : QT} {I : II} {R : RR} (hR : SR R) {a1 : Int} {a2 : Int} {a3 : Int}
    (h : (InI a1) ∧
      (InI a2) ∧
      (((0 ≤ a1 ∧ a1 ≤ 3) ∧ 0 ≤ a2 ∧ a2 ≤ 9999 →
      (InI a3) ∧
      (InI (I 70 0 - 1)) ∧
      ((0 ≤ a3 ∧ a3 ≤ I 70 0 - 1 →
      (∃ Q7 : QT, Spec mX11_goRound [vR 68, vI a1, vI a2, vI 1] I R 89 89 Q7 ∧ (∀ I7 R7, Q7 none I7 R7 →
      R = R7 ∧ (0 ≤ a3 ∧ a3 < 20) ∧
      Q (vI (I7 85 a3.toNat)) I7 R))) ∧ (¬ (0 ≤ a3 ∧ a3 ≤ I 70 0 - 1) →
      wp (kN 89) mX11_of Q 16 [none, none, none, none] [] I R 89))) ∧ (¬ ((0 ≤ a1 ∧ a1 ≤ 3) ∧ 0 ≤ a2 ∧ a2 ≤ 9999) →
      wp (kN 89) mX11_of Q 16 [none, none, none, none] [] I R 89))) : wp (kN 89) mX11_of Q 0 [vR 68, vI a1, vI a2, vI a3] [] I R 89 := by
  refine wp_iload_n (pc' := 1) (q := 1) (i := 1) rfl rfl dX11_of_0 rfl ?_
  refine wp_iload_n (pc' := 2) (q := 2) (i := 2) rfl rfl dX11_of_1 rfl ?_
  obtain ⟨h2, h⟩ := h
  obtain ⟨h3, h⟩ := h
  refine wp_callS (pc' := 5) (as := [vI a1, vI a2]) (rest := []) (pX11_isRound hR h2 h3) dX11_of_2 rfl lkX11_254 okX11_isRound stX11_isRound ⟨Nat.le_of_ble_eq_true rfl, Nat.le_of_ble_eq_true rfl⟩ (Nat.le_of_ble_eq_true rfl) (Nat.le_refl _) (Nat.le_refl _) okP_eq okP_eq rfl (rvZ rfl (fun x1 I1 R1 hz1 hq1 => ?_))
  obtain ⟨eR1, eI1, ex1⟩ := hq1; subst eR1; subst eI1; cases ex1
  by_cases hc : (0 ≤ a1 ∧ a1 ≤ 3) ∧ 0 ≤ a2 ∧ a2 ≤ 9999
  · rw [if_pos hc]; have h := h.1 hc
    refine wp_if_eq (pc' := 8) (tgt := 16) ⟨by decide, by decide⟩ dX11_of_5 rfl rfl (fun hc => by exfalso; revert hc; decide) (fun hc => ?_)
    refine wp_aload_n (pc' := 9) (q := 0) (i := 0) rfl rfl dX11_of_8 rfl ?_
    refine wp_iload_n (pc' := 10) (q := 3) (i := 3) rfl rfl dX11_of_9 rfl ?_
    obtain ⟨h5, h⟩ := h
    obtain ⟨h6, h⟩ := h
    refine wp_callV (pc' := 13) (as := [vI a3]) (rest := []) (pX11_isPerson hR h5 h6) dX11_of_10 rfl lkX11_127 okX11_isPerson inX11_isPerson seX11_isPerson o_68 vc10 ⟨Nat.le_of_ble_eq_true rfl, Nat.le_of_ble_eq_true rfl⟩ (Nat.le_of_ble_eq_true rfl) (Nat.le_refl _) (Nat.le_refl _) okP_eq okP_eq rfl (rvZ rfl (fun x4 I4 R4 hz4 hq4 => ?_))
    obtain ⟨eR4, eI4, ex4⟩ := hq4; subst eR4; subst eI4; cases ex4
    by_cases hc : 0 ≤ a3 ∧ a3 ≤ I 70 0 - 1
    · rw [if_pos hc]; have h := h.1 hc
      refine wp_if_ne (pc' := 16) (tgt := 18) ⟨by decide, by decide⟩ dX11_of_13 rfl rfl (fun hc => ?_) (fun hc => by exfalso; revert hc; decide)
      refine wp_aload_n (pc' := 19) (q := 0) (i := 0) rfl rfl dX11_of_18 rfl ?_
      refine wp_iload_n (pc' := 20) (q := 1) (i := 1) rfl rfl dX11_of_19 rfl ?_
      refine wp_iload_n (pc' := 21) (q := 2) (i := 2) rfl rfl dX11_of_20 rfl ?_
      refine wp_iconst (pc' := 22) dX11_of_21 rfl ?_
      obtain ⟨Q7, hs7, h⟩ := h
      refine wp_callV (pc' := 25) (as := [vI a1, vI a2, vI 1]) (rest := []) hs7 dX11_of_22 rfl lkX11_257 okX11_goRound inX11_goRound seX11_goRound o_68 vc10 ⟨Nat.le_of_ble_eq_true rfl, Nat.le_of_ble_eq_true rfl⟩ (Nat.le_of_ble_eq_true rfl) (Nat.le_refl _) (Nat.le_refl _) okP_eq okP_eq rfl (rvV rfl (fun I7 R7 hq7 => ?_))
      obtain ⟨hRR7, h⟩ := h I7 R7 hq7; subst hRR7
      refine wp_aload_n (pc' := 26) (q := 0) (i := 0) rfl rfl dX11_of_25 rfl ?_
      refine wp_getRc (pc' := 29) (k := 23) (j := 85) dX11_of_26 vc10 (by decide) rfl lfX11_58 o_68 (r_68_23 hR) rfl ?_
      refine wp_iload_n (pc' := 30) (q := 3) (i := 3) rfl rfl dX11_of_29 rfl ?_
      obtain ⟨h8, h⟩ := h
      refine wp_iald (pc' := 31) (j := a3.toNat) dX11_of_30 a_85 h8 rfl rfl ?_
      exact wp_ireturn dX11_of_31 rfl rfl h
    · rw [if_neg hc]; have h := h.2 hc
      refine wp_if_ne (pc' := 16) (tgt := 18) ⟨by decide, by decide⟩ dX11_of_13 rfl rfl (fun hc => by exfalso; revert hc; decide) (fun hc => ?_)
      exact wp_dropP (leP_d (leP_d (leP_d (leP_d leP_n)))) h
  · rw [if_neg hc]; have h := h.2 hc
    refine wp_if_eq (pc' := 8) (tgt := 16) ⟨by decide, by decide⟩ dX11_of_5 rfl rfl (fun hc => ?_) (fun hc => by exfalso; revert hc; decide)
    exact wp_dropP (leP_d (leP_d (leP_d (leP_d leP_n)))) h

set_option maxRecDepth 4000 in
theorem gX11_of_16 {Q : QT} {I : II} {R : RR} (hR : SR R) 
    (h : Q (vI (-1)) I R) : wp (kN 89) mX11_of Q 16 [none, none, none, none] [] I R 89 := by
  refine wp_iconst (pc' := 17) dX11_of_16 rfl ?_
  exact wp_ireturn dX11_of_17 rfl rfl h

theorem sX11_layMeans {Q : QT} {I : II} {R : RR} {a1 : Int} {a2 : Int} (h : wp (kN 89) mX11_layMeans Q 0 [vR 68, vI a1, vI a2, none] [] I R 89) : Spec mX11_layMeans [vR 68, vI a1, vI a2] I R 89 89 Q := Spec_of_wp pyX11_layMeans rfl (Nat.le_of_ble_eq_true rfl) (Nat.le_refl _) (by decide) h

set_option maxRecDepth 4000 in
theorem gX11_layMeans_0 {Q : QT} {I : II} {R : RR} (hR : SR R) {a1 : Int} {a2 : Int}
    (h : wp (kN 89) mX11_layMeans Q 2 [vR 68, vI a1, vI a2, vI 0] [] I R 89) : wp (kN 89) mX11_layMeans Q 0 [vR 68, vI a1, vI a2, none] [] I R 89 := by
  refine wp_iconst (pc' := 1) dX11_layMeans_0 rfl ?_
  refine wp_istore_n (pc' := 2) (q := 3) (i := 3) (L' := [vR 68, vI a1, vI a2, vI 0]) rfl (by decide) rfl dX11_layMeans_1 rfl rfl ?_
  exact h

set_option maxRecDepth 4000 in
theorem gX11_layMeans_2 {Q : QT} {I : II} {R : RR} (hR : SR R) {a1 : Int} {a2 : Int} {a3 : Int}
    (h : (InI a3) ∧
      (((3 : Int) ≤ a3 →
      wp (kN 89) mX11_layMeans Q 26 [vR 68, vI a1, vI a2, vI 0] [] I R 89) ∧ (¬ (3 : Int) ≤ a3 →
      (0 ≤ ((3 * a1) + a3) ∧ ((3 * a1) + a3) < 12) ∧
      (∀ I3 : II, I3 = up2 I 87 (((3 * a1) + a3).toNat) 0 →
      wp (kN 89) mX11_layMeans Q 2 [vR 68, vI a1, vI a2, vI (a3 + 1)] [] I3 R 89)))) : wp (kN 89) mX11_layMeans Q 2 [vR 68, vI a1, vI a2, vI a3] [] I R 89 := by
  refine wp_iload_n (pc' := 3) (q := 3) (i := 3) rfl rfl dX11_layMeans_2 rfl ?_
  refine wp_iconst (pc' := 4) dX11_layMeans_3 rfl ?_
  obtain ⟨h1, h⟩ := h
  refine wp_icmp_ge (pc' := 7) (tgt := 24) h1 ⟨by decide, by decide⟩ dX11_layMeans_4 rfl rfl (fun hc => ?_) (fun hc => ?_)
  · have h := h.1 hc
    refine wp_iconst (pc' := 25) dX11_layMeans_24 rfl ?_
    refine wp_istore_n (pc' := 26) (q := 3) (i := 3) (L' := [vR 68, vI a1, vI a2, vI 0]) rfl (by decide) rfl dX11_layMeans_25 rfl rfl ?_
    exact h
  · have h := h.2 hc
    refine wp_aload_n (pc' := 8) (q := 0) (i := 0) rfl rfl dX11_layMeans_7 rfl ?_
    refine wp_getRc (pc' := 11) (k := 31) (j := 87) dX11_layMeans_8 vc10 (by decide) rfl lfX11_64 o_68 (r_68_31 hR) rfl ?_
    refine wp_iconst (pc' := 12) dX11_layMeans_11 rfl ?_
    refine wp_iload_n (pc' := 13) (q := 1) (i := 1) rfl rfl dX11_layMeans_12 rfl ?_
    refine wp_imul (pc' := 14) dX11_layMeans_13 rfl ?_
    refine wp_iload_n (pc' := 15) (q := 3) (i := 3) rfl rfl dX11_layMeans_14 rfl ?_
    refine wp_iadd (pc' := 16) dX11_layMeans_15 rfl ?_
    refine wp_iconst (pc' := 17) dX11_layMeans_16 rfl ?_
    obtain ⟨h2, h⟩ := h
    obtain ⟨I3, eI3⟩ : ∃ z : II, z = up2 I 87 (((3 * a1) + a3).toNat) 0 := ⟨_, rfl⟩
    have h := h I3 eI3
    refine wp_iast (pc' := 18) (j := ((3 * a1) + a3).toNat) (I' := I3) dX11_layMeans_17 a_87 h2 rfl rfl eI3 ?_
    refine wp_iinc (pc' := 21) (i := 3) (L' := [vR 68, vI a1, vI a2, vI (a3 + 1)]) rfl (by decide) rfl dX11_layMeans_18 rfl rfl ?_
    refine wp_goto (tgt := 2) dX11_layMeans_21 rfl ?_
    exact h

set_option maxRecDepth 4000 in
theorem gX11_layMeans_26 {Q : QT} {I : II} {R : RR} (hR : SR R) {a1 : Int} {a2 : Int} {a3 : Int}
    (h : (InI a3) ∧
      (((10 : Int) ≤ a3 →
      Q none I R) ∧ (¬ (10 : Int) ≤ a3 →
      (0 ≤ (a2 + a3) ∧ (a2 + a3) ≤ 2147483647 ∧ 0 < (10000 : Int) ∧ (10000 : Int) ≤ 2147483647) ∧
      (∃ Q3 : QT, Spec mX11_goRound [vR 68, vI a1, vI ((a2 + a3) % 10000), vI 0] I R 89 89 Q3 ∧ (∀ I3 R3, Q3 none I3 R3 →
      R = R3 ∧ (0 ≤ (3 * a1) ∧ (3 * a1) < 12) ∧
      (∀ I5 : II, I5 = up2 I3 87 ((3 * a1).toNat) ((I3 87 (3 * a1).toNat) + (I3 68 25)) →
      (0 ≤ ((3 * a1) + 1) ∧ ((3 * a1) + 1) < 12) ∧
      (∀ I7 : II, I7 = up2 I5 87 (((3 * a1) + 1).toNat) ((I5 87 ((3 * a1) + 1).toNat) + (I5 68 26)) →
      (0 ≤ ((3 * a1) + 2) ∧ ((3 * a1) + 2) < 12) ∧
      (∀ I9 : II, I9 = up2 I7 87 (((3 * a1) + 2).toNat) ((I7 87 ((3 * a1) + 2).toNat) + ((I7 68 28) - (I7 68 27))) →
      wp (kN 89) mX11_layMeans Q 26 [vR 68, vI a1, vI a2, vI (a3 + 1)] [] I9 R 89)))))))) : wp (kN 89) mX11_layMeans Q 26 [vR 68, vI a1, vI a2, vI a3] [] I R 89 := by
  refine wp_iload_n (pc' := 27) (q := 3) (i := 3) rfl rfl dX11_layMeans_26 rfl ?_
  refine wp_bipush (pc' := 29) (by decide) dX11_layMeans_27 rfl ?_
  obtain ⟨h1, h⟩ := h
  refine wp_icmp_ge (pc' := 32) (tgt := 105) h1 ⟨by decide, by decide⟩ dX11_layMeans_29 rfl rfl (fun hc => ?_) (fun hc => ?_)
  · have h := h.1 hc
    exact wp_vreturn dX11_layMeans_105 rfl rfl h
  · have h := h.2 hc
    refine wp_aload_n (pc' := 33) (q := 0) (i := 0) rfl rfl dX11_layMeans_32 rfl ?_
    refine wp_iload_n (pc' := 34) (q := 1) (i := 1) rfl rfl dX11_layMeans_33 rfl ?_
    refine wp_iload_n (pc' := 35) (q := 2) (i := 2) rfl rfl dX11_layMeans_34 rfl ?_
    refine wp_iload_n (pc' := 36) (q := 3) (i := 3) rfl rfl dX11_layMeans_35 rfl ?_
    refine wp_iadd (pc' := 37) dX11_layMeans_36 rfl ?_
    refine wp_sipush (pc' := 40) (by decide) dX11_layMeans_37 rfl ?_
    obtain ⟨h2, h⟩ := h
    refine wp_irem (pc' := 41) h2 dX11_layMeans_40 rfl ?_
    refine wp_iconst (pc' := 42) dX11_layMeans_41 rfl ?_
    obtain ⟨Q3, hs3, h⟩ := h
    refine wp_callV (pc' := 45) (as := [vI a1, vI ((a2 + a3) % 10000), vI 0]) (rest := []) hs3 dX11_layMeans_42 rfl lkX11_257 okX11_goRound inX11_goRound seX11_goRound o_68 vc10 ⟨Nat.le_of_ble_eq_true rfl, Nat.le_of_ble_eq_true rfl⟩ (Nat.le_of_ble_eq_true rfl) (Nat.le_refl _) (Nat.le_refl _) okP_eq okP_eq rfl (rvV rfl (fun I3 R3 hq3 => ?_))
    obtain ⟨hRR3, h⟩ := h I3 R3 hq3; subst hRR3
    refine wp_aload_n (pc' := 46) (q := 0) (i := 0) rfl rfl dX11_layMeans_45 rfl ?_
    refine wp_getRc (pc' := 49) (k := 31) (j := 87) dX11_layMeans_46 vc10 (by decide) rfl lfX11_64 o_68 (r_68_31 hR) rfl ?_
    refine wp_iconst (pc' := 50) dX11_layMeans_49 rfl ?_
    refine wp_iload_n (pc' := 51) (q := 1) (i := 1) rfl rfl dX11_layMeans_50 rfl ?_
    refine wp_imul (pc' := 52) dX11_layMeans_51 rfl ?_
    refine wp_dup2 (pc' := 53) dX11_layMeans_52 rfl ?_
    obtain ⟨h4, h⟩ := h
    refine wp_iald (pc' := 54) (j := (3 * a1).toNat) dX11_layMeans_53 a_87 h4 rfl rfl ?_
    refine wp_aload_n (pc' := 55) (q := 0) (i := 0) rfl rfl dX11_layMeans_54 rfl ?_
    refine wp_getI (pc' := 58) (k := 25) dX11_layMeans_55 vc10 (by decide) rfl lfX11_206 o_68 rfl ?_
    refine wp_iadd (pc' := 59) dX11_layMeans_58 rfl ?_
    obtain ⟨I5, eI5⟩ : ∃ z : II, z = up2 I3 87 ((3 * a1).toNat) ((I3 87 (3 * a1).toNat) + (I3 68 25)) := ⟨_, rfl⟩
    have h := h I5 eI5
    refine wp_iast (pc' := 60) (j := (3 * a1).toNat) (I' := I5) dX11_layMeans_59 a_87 h4 rfl rfl eI5 ?_
    refine wp_aload_n (pc' := 61) (q := 0) (i := 0) rfl rfl dX11_layMeans_60 rfl ?_
    refine wp_getRc (pc' := 64) (k := 31) (j := 87) dX11_layMeans_61 vc10 (by decide) rfl lfX11_64 o_68 (r_68_31 hR) rfl ?_
    refine wp_iconst (pc' := 65) dX11_layMeans_64 rfl ?_
    refine wp_iload_n (pc' := 66) (q := 1) (i := 1) rfl rfl dX11_layMeans_65 rfl ?_
    refine wp_imul (pc' := 67) dX11_layMeans_66 rfl ?_
    refine wp_iconst (pc' := 68) dX11_layMeans_67 rfl ?_
    refine wp_iadd (pc' := 69) dX11_layMeans_68 rfl ?_
    refine wp_dup2 (pc' := 70) dX11_layMeans_69 rfl ?_
    obtain ⟨h6, h⟩ := h
    refine wp_iald (pc' := 71) (j := ((3 * a1) + 1).toNat) dX11_layMeans_70 a_87 h6 rfl rfl ?_
    refine wp_aload_n (pc' := 72) (q := 0) (i := 0) rfl rfl dX11_layMeans_71 rfl ?_
    refine wp_getI (pc' := 75) (k := 26) dX11_layMeans_72 vc10 (by decide) rfl lfX11_218 o_68 rfl ?_
    refine wp_iadd (pc' := 76) dX11_layMeans_75 rfl ?_
    obtain ⟨I7, eI7⟩ : ∃ z : II, z = up2 I5 87 (((3 * a1) + 1).toNat) ((I5 87 ((3 * a1) + 1).toNat) + (I5 68 26)) := ⟨_, rfl⟩
    have h := h I7 eI7
    refine wp_iast (pc' := 77) (j := ((3 * a1) + 1).toNat) (I' := I7) dX11_layMeans_76 a_87 h6 rfl rfl eI7 ?_
    refine wp_aload_n (pc' := 78) (q := 0) (i := 0) rfl rfl dX11_layMeans_77 rfl ?_
    refine wp_getRc (pc' := 81) (k := 31) (j := 87) dX11_layMeans_78 vc10 (by decide) rfl lfX11_64 o_68 (r_68_31 hR) rfl ?_
    refine wp_iconst (pc' := 82) dX11_layMeans_81 rfl ?_
    refine wp_iload_n (pc' := 83) (q := 1) (i := 1) rfl rfl dX11_layMeans_82 rfl ?_
    refine wp_imul (pc' := 84) dX11_layMeans_83 rfl ?_
    refine wp_iconst (pc' := 85) dX11_layMeans_84 rfl ?_
    refine wp_iadd (pc' := 86) dX11_layMeans_85 rfl ?_
    refine wp_dup2 (pc' := 87) dX11_layMeans_86 rfl ?_
    obtain ⟨h8, h⟩ := h
    refine wp_iald (pc' := 88) (j := ((3 * a1) + 2).toNat) dX11_layMeans_87 a_87 h8 rfl rfl ?_
    refine wp_aload_n (pc' := 89) (q := 0) (i := 0) rfl rfl dX11_layMeans_88 rfl ?_
    refine wp_getI (pc' := 92) (k := 28) dX11_layMeans_89 vc10 (by decide) rfl lfX11_215 o_68 rfl ?_
    refine wp_aload_n (pc' := 93) (q := 0) (i := 0) rfl rfl dX11_layMeans_92 rfl ?_
    refine wp_getI (pc' := 96) (k := 27) dX11_layMeans_93 vc10 (by decide) rfl lfX11_212 o_68 rfl ?_
    refine wp_isub (pc' := 97) dX11_layMeans_96 rfl ?_
    refine wp_iadd (pc' := 98) dX11_layMeans_97 rfl ?_
    obtain ⟨I9, eI9⟩ : ∃ z : II, z = up2 I7 87 (((3 * a1) + 2).toNat) ((I7 87 ((3 * a1) + 2).toNat) + ((I7 68 28) - (I7 68 27))) := ⟨_, rfl⟩
    have h := h I9 eI9
    refine wp_iast (pc' := 99) (j := ((3 * a1) + 2).toNat) (I' := I9) dX11_layMeans_98 a_87 h8 rfl rfl eI9 ?_
    refine wp_iinc (pc' := 102) (i := 3) (L' := [vR 68, vI a1, vI a2, vI (a3 + 1)]) rfl (by decide) rfl dX11_layMeans_99 rfl rfl ?_
    refine wp_goto (tgt := 26) dX11_layMeans_102 rfl ?_
    exact h

theorem sX11_means {Q : QT} {I : II} {R : RR} {a1 : Int} {a2 : Int} {a3 : Int} (h : wp (kN 89) mX11_means Q 0 [vR 68, vI a1, vI a2, vI a3] [] I R 89) : Spec mX11_means [vR 68, vI a1, vI a2, vI a3] I R 89 89 Q := Spec_of_wp pyX11_means rfl (Nat.le_of_ble_eq_true rfl) (Nat.le_refl _) (by decide) h

set_option maxRecDepth 4000 in
theorem gX11_means_0 {Q : QT} {I : II} {R : RR} (hR : SR R) {a1 : Int} {a2 : Int} {a3 : Int}
    (h : (InI a1) ∧
      (InI a2) ∧
      (((0 ≤ a1 ∧ a1 ≤ 3) ∧ 0 ≤ a2 ∧ a2 ≤ 9999 →
      (InI a3) ∧
      (((0 : Int) ≤ a3 ∧ a3 ≤ (2 : Int) →
      (∃ Q6 : QT, Spec mX11_layMeans [vR 68, vI a1, vI a2] I R 89 89 Q6 ∧ (∀ I6 R6, Q6 none I6 R6 →
      R = R6 ∧ (0 ≤ ((3 * a1) + a3) ∧ ((3 * a1) + a3) < 12) ∧
      Q (vI (I6 87 ((3 * a1) + a3).toNat)) I6 R))) ∧ (¬ ((0 : Int) ≤ a3 ∧ a3 ≤ (2 : Int)) →
      wp (kN 89) mX11_means Q 20 [none, none, none, none] [] I R 89))) ∧ (¬ ((0 ≤ a1 ∧ a1 ≤ 3) ∧ 0 ≤ a2 ∧ a2 ≤ 9999) →
      wp (kN 89) mX11_means Q 20 [none, none, none, none] [] I R 89))) : wp (kN 89) mX11_means Q 0 [vR 68, vI a1, vI a2, vI a3] [] I R 89 := by
  refine wp_iload_n (pc' := 1) (q := 1) (i := 1) rfl rfl dX11_means_0 rfl ?_
  refine wp_iload_n (pc' := 2) (q := 2) (i := 2) rfl rfl dX11_means_1 rfl ?_
  obtain ⟨h2, h⟩ := h
  obtain ⟨h3, h⟩ := h
  refine wp_callS (pc' := 5) (as := [vI a1, vI a2]) (rest := []) (pX11_isRound hR h2 h3) dX11_means_2 rfl lkX11_254 okX11_isRound stX11_isRound ⟨Nat.le_of_ble_eq_true rfl, Nat.le_of_ble_eq_true rfl⟩ (Nat.le_of_ble_eq_true rfl) (Nat.le_refl _) (Nat.le_refl _) okP_eq okP_eq rfl (rvZ rfl (fun x1 I1 R1 hz1 hq1 => ?_))
  obtain ⟨eR1, eI1, ex1⟩ := hq1; subst eR1; subst eI1; cases ex1
  by_cases hc : (0 ≤ a1 ∧ a1 ≤ 3) ∧ 0 ≤ a2 ∧ a2 ≤ 9999
  · rw [if_pos hc]; have h := h.1 hc
    refine wp_if_eq (pc' := 8) (tgt := 20) ⟨by decide, by decide⟩ dX11_means_5 rfl rfl (fun hc => by exfalso; revert hc; decide) (fun hc => ?_)
    refine wp_iload_n (pc' := 9) (q := 3) (i := 3) rfl rfl dX11_means_8 rfl ?_
    obtain ⟨h4, h⟩ := h
    refine wp_i2l (pc' := 10) h4 dX11_means_9 rfl ?_
    refine wp_lconst (pc' := 11) dX11_means_10 rfl ?_
    refine wp_ldc2 (pc' := 14) (x := 2) lcX11_130 (by decide +kernel) dX11_means_11 rfl ?_
    refine wp_callS (pc' := 17) (as := [vL a3, vL 0, vL 2]) (rest := []) (pX11_in (by decide) (inL_of h4) ⟨by decide, by decide⟩ ⟨by decide, by decide⟩) dX11_means_14 rfl lkX11_79 okX11_in stX11_in ⟨Nat.le_of_ble_eq_true rfl, Nat.le_of_ble_eq_true rfl⟩ (Nat.le_of_ble_eq_true rfl) (Nat.le_refl _) (Nat.le_refl _) okP_eq okP_eq rfl (rvZ rfl (fun x5 I5 R5 hz5 hq5 => ?_))
    obtain ⟨eR5, eI5, ex5⟩ := hq5; subst eR5; subst eI5; cases ex5
    by_cases hc : (0 : Int) ≤ a3 ∧ a3 ≤ (2 : Int)
    · rw [if_pos hc]; have h := h.1 hc
      refine wp_if_ne (pc' := 20) (tgt := 24) ⟨by decide, by decide⟩ dX11_means_17 rfl rfl (fun hc => ?_) (fun hc => by exfalso; revert hc; decide)
      refine wp_aload_n (pc' := 25) (q := 0) (i := 0) rfl rfl dX11_means_24 rfl ?_
      refine wp_iload_n (pc' := 26) (q := 1) (i := 1) rfl rfl dX11_means_25 rfl ?_
      refine wp_iload_n (pc' := 27) (q := 2) (i := 2) rfl rfl dX11_means_26 rfl ?_
      obtain ⟨Q6, hs6, h⟩ := h
      refine wp_callV (pc' := 30) (as := [vI a1, vI a2]) (rest := []) hs6 dX11_means_27 rfl lkX11_261 okX11_layMeans inX11_layMeans seX11_layMeans o_68 vc10 ⟨Nat.le_of_ble_eq_true rfl, Nat.le_of_ble_eq_true rfl⟩ (Nat.le_of_ble_eq_true rfl) (Nat.le_refl _) (Nat.le_refl _) okP_eq okP_eq rfl (rvV rfl (fun I6 R6 hq6 => ?_))
      obtain ⟨hRR6, h⟩ := h I6 R6 hq6; subst hRR6
      refine wp_aload_n (pc' := 31) (q := 0) (i := 0) rfl rfl dX11_means_30 rfl ?_
      refine wp_getRc (pc' := 34) (k := 31) (j := 87) dX11_means_31 vc10 (by decide) rfl lfX11_64 o_68 (r_68_31 hR) rfl ?_
      refine wp_iconst (pc' := 35) dX11_means_34 rfl ?_
      refine wp_iload_n (pc' := 36) (q := 1) (i := 1) rfl rfl dX11_means_35 rfl ?_
      refine wp_imul (pc' := 37) dX11_means_36 rfl ?_
      refine wp_iload_n (pc' := 38) (q := 3) (i := 3) rfl rfl dX11_means_37 rfl ?_
      refine wp_iadd (pc' := 39) dX11_means_38 rfl ?_
      obtain ⟨h7, h⟩ := h
      refine wp_iald (pc' := 40) (j := ((3 * a1) + a3).toNat) dX11_means_39 a_87 h7 rfl rfl ?_
      exact wp_ireturn dX11_means_40 rfl rfl h
    · rw [if_neg hc]; have h := h.2 hc
      refine wp_if_ne (pc' := 20) (tgt := 24) ⟨by decide, by decide⟩ dX11_means_17 rfl rfl (fun hc => by exfalso; revert hc; decide) (fun hc => ?_)
      exact wp_dropP (leP_d (leP_d (leP_d (leP_d leP_n)))) h
  · rw [if_neg hc]; have h := h.2 hc
    refine wp_if_eq (pc' := 8) (tgt := 20) ⟨by decide, by decide⟩ dX11_means_5 rfl rfl (fun hc => ?_) (fun hc => by exfalso; revert hc; decide)
    exact wp_dropP (leP_d (leP_d (leP_d (leP_d leP_n)))) h

set_option maxRecDepth 4000 in
theorem gX11_means_20 {Q : QT} {I : II} {R : RR} (hR : SR R) 
    (h : Q (vI (-10000)) I R) : wp (kN 89) mX11_means Q 20 [none, none, none, none] [] I R 89 := by
  refine wp_sipush (pc' := 23) (by decide) dX11_means_20 rfl ?_
  exact wp_ireturn dX11_means_23 rfl rfl h

theorem sX11_bestBy {Q : QT} {I : II} {R : RR} {a1 : Int} (h : wp (kN 89) mX11_bestBy Q 0 [vR 68, vI a1, none, none, none] [] I R 89) : Spec mX11_bestBy [vR 68, vI a1] I R 89 89 Q := Spec_of_wp pyX11_bestBy rfl (Nat.le_of_ble_eq_true rfl) (Nat.le_refl _) (by decide) h

set_option maxRecDepth 4000 in
theorem gX11_bestBy_0 {Q : QT} {I : II} {R : RR} (hR : SR R) {a1 : Int}
    (h : wp (kN 89) mX11_bestBy Q 4 [vR 68, vI a1, vI 0, vI 1, none] [] I R 89) : wp (kN 89) mX11_bestBy Q 0 [vR 68, vI a1, none, none, none] [] I R 89 := by
  refine wp_iconst (pc' := 1) dX11_bestBy_0 rfl ?_
  refine wp_istore_n (pc' := 2) (q := 2) (i := 2) (L' := [vR 68, vI a1, vI 0, none, none]) rfl (by decide) rfl dX11_bestBy_1 rfl rfl ?_
  refine wp_iconst (pc' := 3) dX11_bestBy_2 rfl ?_
  refine wp_istore_n (pc' := 4) (q := 3) (i := 3) (L' := [vR 68, vI a1, vI 0, vI 1, none]) rfl (by decide) rfl dX11_bestBy_3 rfl rfl ?_
  exact h

set_option maxRecDepth 4000 in
theorem gX11_bestBy_4 {Q : QT} {I : II} {R : RR} (hR : SR R) {a1 : Int} {a2 : Int} {a3 : Int}
    (h : (InI a3) ∧
      (((4 : Int) ≤ a3 →
      Q (vI a2) I R) ∧ (¬ (4 : Int) ≤ a3 →
      (0 ≤ ((3 * a3) + a1) ∧ ((3 * a3) + a1) < 12) ∧
      (0 ≤ ((3 * a2) + a1) ∧ ((3 * a2) + a1) < 12) ∧
      (InI a1) ∧
      ((¬ a1 = 0 →
      wp (kN 89) mX11_bestBy Q 41 [vR 68, vI a1, vI a2, vI a3, vI ((I 87 ((3 * a3) + a1).toNat) - (I 87 ((3 * a2) + a1).toNat))] [] I R 89) ∧ (a1 = 0 →
      (InI ((I 87 ((3 * a3) + a1).toNat) - (I 87 ((3 * a2) + a1).toNat))) ∧
      ((0 < ((I 87 ((3 * a3) + a1).toNat) - (I 87 ((3 * a2) + a1).toNat)) →
      wp (kN 89) mX11_bestBy Q 50 [vR 68, vI a1, none, vI a3, none] [] I R 89) ∧ (¬ (0 < ((I 87 ((3 * a3) + a1).toNat) - (I 87 ((3 * a2) + a1).toNat))) →
      wp (kN 89) mX11_bestBy Q 41 [vR 68, vI a1, vI a2, vI a3, vI ((I 87 ((3 * a3) + a1).toNat) - (I 87 ((3 * a2) + a1).toNat))] [] I R 89))))))) : wp (kN 89) mX11_bestBy Q 4 [vR 68, vI a1, vI a2, vI a3, none] [] I R 89 := by
  refine wp_iload_n (pc' := 5) (q := 3) (i := 3) rfl rfl dX11_bestBy_4 rfl ?_
  refine wp_iconst (pc' := 6) dX11_bestBy_5 rfl ?_
  obtain ⟨h1, h⟩ := h
  refine wp_icmp_ge (pc' := 9) (tgt := 62) h1 ⟨by decide, by decide⟩ dX11_bestBy_6 rfl rfl (fun hc => ?_) (fun hc => ?_)
  · have h := h.1 hc
    refine wp_iload_n (pc' := 63) (q := 2) (i := 2) rfl rfl dX11_bestBy_62 rfl ?_
    exact wp_ireturn dX11_bestBy_63 rfl rfl h
  · have h := h.2 hc
    refine wp_aload_n (pc' := 10) (q := 0) (i := 0) rfl rfl dX11_bestBy_9 rfl ?_
    refine wp_getRc (pc' := 13) (k := 31) (j := 87) dX11_bestBy_10 vc10 (by decide) rfl lfX11_64 o_68 (r_68_31 hR) rfl ?_
    refine wp_iconst (pc' := 14) dX11_bestBy_13 rfl ?_
    refine wp_iload_n (pc' := 15) (q := 3) (i := 3) rfl rfl dX11_bestBy_14 rfl ?_
    refine wp_imul (pc' := 16) dX11_bestBy_15 rfl ?_
    refine wp_iload_n (pc' := 17) (q := 1) (i := 1) rfl rfl dX11_bestBy_16 rfl ?_
    refine wp_iadd (pc' := 18) dX11_bestBy_17 rfl ?_
    obtain ⟨h2, h⟩ := h
    refine wp_iald (pc' := 19) (j := ((3 * a3) + a1).toNat) dX11_bestBy_18 a_87 h2 rfl rfl ?_
    refine wp_aload_n (pc' := 20) (q := 0) (i := 0) rfl rfl dX11_bestBy_19 rfl ?_
    refine wp_getRc (pc' := 23) (k := 31) (j := 87) dX11_bestBy_20 vc10 (by decide) rfl lfX11_64 o_68 (r_68_31 hR) rfl ?_
    refine wp_iconst (pc' := 24) dX11_bestBy_23 rfl ?_
    refine wp_iload_n (pc' := 25) (q := 2) (i := 2) rfl rfl dX11_bestBy_24 rfl ?_
    refine wp_imul (pc' := 26) dX11_bestBy_25 rfl ?_
    refine wp_iload_n (pc' := 27) (q := 1) (i := 1) rfl rfl dX11_bestBy_26 rfl ?_
    refine wp_iadd (pc' := 28) dX11_bestBy_27 rfl ?_
    obtain ⟨h3, h⟩ := h
    refine wp_iald (pc' := 29) (j := ((3 * a2) + a1).toNat) dX11_bestBy_28 a_87 h3 rfl rfl ?_
    refine wp_isub (pc' := 30) dX11_bestBy_29 rfl ?_
    refine wp_istore (pc' := 32) (i := 4) (L' := [vR 68, vI a1, vI a2, vI a3, vI ((I 87 ((3 * a3) + a1).toNat) - (I 87 ((3 * a2) + a1).toNat))]) (by decide) rfl dX11_bestBy_30 rfl rfl ?_
    refine wp_iload_n (pc' := 33) (q := 1) (i := 1) rfl rfl dX11_bestBy_32 rfl ?_
    obtain ⟨h4, h⟩ := h
    refine wp_if_ne (pc' := 36) (tgt := 41) h4 dX11_bestBy_33 rfl rfl (fun hc => ?_) (fun hc => ?_)
    · have h := h.1 hc
      exact h
    · have h := h.2 hc
      refine wp_iload (pc' := 38) (i := 4) rfl dX11_bestBy_36 rfl ?_
      obtain ⟨h5, h⟩ := h
      refine wp_if_gt (pc' := 41) (tgt := 50) h5 dX11_bestBy_38 rfl rfl (fun hc => ?_) (fun hc => ?_)
      · have h := h.1 hc
        exact wp_dropP (leP_s (leP_s (leP_d (leP_s (leP_d leP_n))))) h
      · have h := h.2 hc
        exact h

set_option maxRecDepth 4000 in
theorem gX11_bestBy_41 {Q : QT} {I : II} {R : RR} (hR : SR R) {a1 : Int} {a2 : Int} {a3 : Int} {a4 : Int}
    (h : (InI a1) ∧
      ((a1 ≤ 0 →
      wp (kN 89) mX11_bestBy Q 54 [vR 68, vI a1, vI a2, vI a3, none] [] I R 89) ∧ (¬ (a1 ≤ 0) →
      (InI a4) ∧
      ((0 ≤ a4 →
      wp (kN 89) mX11_bestBy Q 54 [vR 68, vI a1, vI a2, vI a3, none] [] I R 89) ∧ (¬ (0 ≤ a4) →
      wp (kN 89) mX11_bestBy Q 50 [vR 68, vI a1, none, vI a3, none] [] I R 89))))) : wp (kN 89) mX11_bestBy Q 41 [vR 68, vI a1, vI a2, vI a3, vI a4] [] I R 89 := by
  refine wp_iload_n (pc' := 42) (q := 1) (i := 1) rfl rfl dX11_bestBy_41 rfl ?_
  obtain ⟨h1, h⟩ := h
  refine wp_if_le (pc' := 45) (tgt := 54) h1 dX11_bestBy_42 rfl rfl (fun hc => ?_) (fun hc => ?_)
  · have h := h.1 hc
    exact wp_dropP (leP_s (leP_s (leP_s (leP_s (leP_d leP_n))))) h
  · have h := h.2 hc
    refine wp_iload (pc' := 47) (i := 4) rfl dX11_bestBy_45 rfl ?_
    obtain ⟨h2, h⟩ := h
    refine wp_if_ge (pc' := 50) (tgt := 54) h2 dX11_bestBy_47 rfl rfl (fun hc => ?_) (fun hc => ?_)
    · have h := h.1 hc
      exact wp_dropP (leP_s (leP_s (leP_s (leP_s (leP_d leP_n))))) h
    · have h := h.2 hc
      exact wp_dropP (leP_s (leP_s (leP_d (leP_s (leP_d leP_n))))) h

set_option maxRecDepth 4000 in
theorem gX11_bestBy_50 {Q : QT} {I : II} {R : RR} (hR : SR R) {a1 : Int} {a3 : Int}
    (h : wp (kN 89) mX11_bestBy Q 4 [vR 68, vI a1, vI a3, vI (a3 + 1), none] [] I R 89) : wp (kN 89) mX11_bestBy Q 50 [vR 68, vI a1, none, vI a3, none] [] I R 89 := by
  refine wp_iload_n (pc' := 51) (q := 3) (i := 3) rfl rfl dX11_bestBy_50 rfl ?_
  refine wp_goto (tgt := 55) dX11_bestBy_51 rfl ?_
  refine wp_istore_n (pc' := 56) (q := 2) (i := 2) (L' := [vR 68, vI a1, vI a3, vI a3, none]) rfl (by decide) rfl dX11_bestBy_55 rfl rfl ?_
  refine wp_iinc (pc' := 59) (i := 3) (L' := [vR 68, vI a1, vI a3, vI (a3 + 1), none]) rfl (by decide) rfl dX11_bestBy_56 rfl rfl ?_
  refine wp_goto (tgt := 4) dX11_bestBy_59 rfl ?_
  exact h

set_option maxRecDepth 4000 in
theorem gX11_bestBy_54 {Q : QT} {I : II} {R : RR} (hR : SR R) {a1 : Int} {a2 : Int} {a3 : Int}
    (h : wp (kN 89) mX11_bestBy Q 4 [vR 68, vI a1, vI a2, vI (a3 + 1), none] [] I R 89) : wp (kN 89) mX11_bestBy Q 54 [vR 68, vI a1, vI a2, vI a3, none] [] I R 89 := by
  refine wp_iload_n (pc' := 55) (q := 2) (i := 2) rfl rfl dX11_bestBy_54 rfl ?_
  refine wp_istore_n (pc' := 56) (q := 2) (i := 2) (L' := [vR 68, vI a1, vI a2, vI a3, none]) rfl (by decide) rfl dX11_bestBy_55 rfl rfl ?_
  refine wp_iinc (pc' := 59) (i := 3) (L' := [vR 68, vI a1, vI a2, vI (a3 + 1), none]) rfl (by decide) rfl dX11_bestBy_56 rfl rfl ?_
  refine wp_goto (tgt := 4) dX11_bestBy_59 rfl ?_
  exact h

theorem sX11_rules {Q : QT} {I : II} {R : RR} {a1 : Int} {a2 : Int} (h : wp (kN 89) mX11_rules Q 0 [vR 68, vI a1, vI a2, none] [] I R 89) : Spec mX11_rules [vR 68, vI a1, vI a2] I R 89 89 Q := Spec_of_wp pyX11_rules rfl (Nat.le_of_ble_eq_true rfl) (Nat.le_refl _) (by decide) h

set_option maxRecDepth 4000 in
theorem gX11_rules_0 {Q : QT} {I : II} {R : RR} (hR : SR R) {a1 : Int} {a2 : Int}
    (h : (InI a1) ∧
      (((0 : Int) ≤ a1 ∧ a1 ≤ (9999 : Int) →
      (InI a2) ∧
      (((0 : Int) ≤ a2 ∧ a2 ≤ (3 : Int) →
      wp (kN 89) mX11_rules Q 28 [vR 68, vI a1, vI a2, vI 0] [] I R 89) ∧ (¬ ((0 : Int) ≤ a2 ∧ a2 ≤ (3 : Int)) →
      wp (kN 89) mX11_rules Q 24 [none, none, none, none] [] I R 89))) ∧ (¬ ((0 : Int) ≤ a1 ∧ a1 ≤ (9999 : Int)) →
      wp (kN 89) mX11_rules Q 24 [none, none, none, none] [] I R 89))) : wp (kN 89) mX11_rules Q 0 [vR 68, vI a1, vI a2, none] [] I R 89 := by
  refine wp_iload_n (pc' := 1) (q := 1) (i := 1) rfl rfl dX11_rules_0 rfl ?_
  obtain ⟨h1, h⟩ := h
  refine wp_i2l (pc' := 2) h1 dX11_rules_1 rfl ?_
  refine wp_lconst (pc' := 3) dX11_rules_2 rfl ?_
  refine wp_ldc2 (pc' := 6) (x := 9999) lcX11_252 (by decide +kernel) dX11_rules_3 rfl ?_
  refine wp_callS (pc' := 9) (as := [vL a1, vL 0, vL 9999]) (rest := []) (pX11_in (by decide) (inL_of h1) ⟨by decide, by decide⟩ ⟨by decide, by decide⟩) dX11_rules_6 rfl lkX11_79 okX11_in stX11_in ⟨Nat.le_of_ble_eq_true rfl, Nat.le_of_ble_eq_true rfl⟩ (Nat.le_of_ble_eq_true rfl) (Nat.le_refl _) (Nat.le_refl _) okP_eq okP_eq rfl (rvZ rfl (fun x2 I2 R2 hz2 hq2 => ?_))
  obtain ⟨eR2, eI2, ex2⟩ := hq2; subst eR2; subst eI2; cases ex2
  by_cases hc : (0 : Int) ≤ a1 ∧ a1 ≤ (9999 : Int)
  · rw [if_pos hc]; have h := h.1 hc
    refine wp_if_eq (pc' := 12) (tgt := 24) ⟨by decide, by decide⟩ dX11_rules_9 rfl rfl (fun hc => by exfalso; revert hc; decide) (fun hc => ?_)
    refine wp_iload_n (pc' := 13) (q := 2) (i := 2) rfl rfl dX11_rules_12 rfl ?_
    obtain ⟨h3, h⟩ := h
    refine wp_i2l (pc' := 14) h3 dX11_rules_13 rfl ?_
    refine wp_lconst (pc' := 15) dX11_rules_14 rfl ?_
    refine wp_ldc2 (pc' := 18) (x := 3) lcX11_100 (by decide +kernel) dX11_rules_15 rfl ?_
    refine wp_callS (pc' := 21) (as := [vL a2, vL 0, vL 3]) (rest := []) (pX11_in (by decide) (inL_of h3) ⟨by decide, by decide⟩ ⟨by decide, by decide⟩) dX11_rules_18 rfl lkX11_79 okX11_in stX11_in ⟨Nat.le_of_ble_eq_true rfl, Nat.le_of_ble_eq_true rfl⟩ (Nat.le_of_ble_eq_true rfl) (Nat.le_refl _) (Nat.le_refl _) okP_eq okP_eq rfl (rvZ rfl (fun x4 I4 R4 hz4 hq4 => ?_))
    obtain ⟨eR4, eI4, ex4⟩ := hq4; subst eR4; subst eI4; cases ex4
    by_cases hc : (0 : Int) ≤ a2 ∧ a2 ≤ (3 : Int)
    · rw [if_pos hc]; have h := h.1 hc
      refine wp_if_ne (pc' := 24) (tgt := 26) ⟨by decide, by decide⟩ dX11_rules_21 rfl rfl (fun hc => ?_) (fun hc => by exfalso; revert hc; decide)
      refine wp_iconst (pc' := 27) dX11_rules_26 rfl ?_
      refine wp_istore_n (pc' := 28) (q := 3) (i := 3) (L' := [vR 68, vI a1, vI a2, vI 0]) rfl (by decide) rfl dX11_rules_27 rfl rfl ?_
      exact h
    · rw [if_neg hc]; have h := h.2 hc
      refine wp_if_ne (pc' := 24) (tgt := 26) ⟨by decide, by decide⟩ dX11_rules_21 rfl rfl (fun hc => by exfalso; revert hc; decide) (fun hc => ?_)
      exact wp_dropP (leP_d (leP_d (leP_d (leP_s leP_n)))) h
  · rw [if_neg hc]; have h := h.2 hc
    refine wp_if_eq (pc' := 12) (tgt := 24) ⟨by decide, by decide⟩ dX11_rules_9 rfl rfl (fun hc => ?_) (fun hc => by exfalso; revert hc; decide)
    exact wp_dropP (leP_d (leP_d (leP_d (leP_s leP_n)))) h

set_option maxRecDepth 4000 in
theorem gX11_rules_24 {Q : QT} {I : II} {R : RR} (hR : SR R) 
    (h : Q (vI (-1)) I R) : wp (kN 89) mX11_rules Q 24 [none, none, none, none] [] I R 89 := by
  refine wp_iconst (pc' := 25) dX11_rules_24 rfl ?_
  exact wp_ireturn dX11_rules_25 rfl rfl h

set_option maxRecDepth 4000 in
theorem gX11_rules_28 {Q : QT} {I : II} {R : RR} (hR : SR R) {a1 : Int} {a2 : Int} {a3 : Int}
    (h : (InI a3) ∧
      (((4 : Int) ≤ a3 →
      (InI a2) ∧
      (((3 : Int) ≤ a2 →
      (∃ Q3 : QT, Spec mX11_bestBy [vR 68, vI 0] I R 89 89 Q3 ∧ (∀ x3 I3 R3, Q3 (vI x3) I3 R3 →
      R = R3 ∧ (∃ Q4 : QT, Spec mX11_bestBy [vR 68, vI 1] I3 R 89 89 Q4 ∧ (∀ x4 I4 R4, Q4 (vI x4) I4 R4 →
      R = R4 ∧ (InI x3) ∧
      (InI x4) ∧
      ((¬ x3 = x4 →
      wp (kN 89) mX11_rules Q 90 [none, none, none, none] [] I4 R 89) ∧ (x3 = x4 →
      (∃ Q7 : QT, Spec mX11_bestBy [vR 68, vI 1] I4 R 89 89 Q7 ∧ (∀ x7 I7 R7, Q7 (vI x7) I7 R7 →
      R = R7 ∧ (∃ Q8 : QT, Spec mX11_bestBy [vR 68, vI 2] I7 R 89 89 Q8 ∧ (∀ x8 I8 R8, Q8 (vI x8) I8 R8 →
      R = R8 ∧ (InI x7) ∧
      (InI x8) ∧
      ((¬ x7 = x8 →
      wp (kN 89) mX11_rules Q 90 [none, none, none, none] [] I8 R 89) ∧ (x7 = x8 →
      (∃ Q11 : QT, Spec mX11_bestBy [vR 68, vI 0] I8 R 89 89 Q11 ∧ (∀ x11 I11 R11, Q11 (vI x11) I11 R11 →
      R = R11 ∧ Q (vI x11) I11 R))))))))))))))) ∧ (¬ (3 : Int) ≤ a2 →
      (∃ Q12 : QT, Spec mX11_bestBy [vR 68, vI a2] I R 89 89 Q12 ∧ (∀ x12 I12 R12, Q12 (vI x12) I12 R12 →
      R = R12 ∧ Q (vI x12) I12 R))))) ∧ (¬ (4 : Int) ≤ a3 →
      (∃ Q13 : QT, Spec mX11_layMeans [vR 68, vI a3, vI a1] I R 89 89 Q13 ∧ (∀ I13 R13, Q13 none I13 R13 →
      R = R13 ∧ wp (kN 89) mX11_rules Q 28 [vR 68, vI a1, vI a2, vI (a3 + 1)] [] I13 R 89))))) : wp (kN 89) mX11_rules Q 28 [vR 68, vI a1, vI a2, vI a3] [] I R 89 := by
  refine wp_iload_n (pc' := 29) (q := 3) (i := 3) rfl rfl dX11_rules_28 rfl ?_
  refine wp_iconst (pc' := 30) dX11_rules_29 rfl ?_
  obtain ⟨h1, h⟩ := h
  refine wp_icmp_ge (pc' := 33) (tgt := 45) h1 ⟨by decide, by decide⟩ dX11_rules_30 rfl rfl (fun hc => ?_) (fun hc => ?_)
  · have h := h.1 hc
    refine wp_iload_n (pc' := 46) (q := 2) (i := 2) rfl rfl dX11_rules_45 rfl ?_
    refine wp_iconst (pc' := 47) dX11_rules_46 rfl ?_
    obtain ⟨h2, h⟩ := h
    refine wp_icmp_ge (pc' := 50) (tgt := 56) h2 ⟨by decide, by decide⟩ dX11_rules_47 rfl rfl (fun hc => ?_) (fun hc => ?_)
    · have h := h.1 hc
      refine wp_aload_n (pc' := 57) (q := 0) (i := 0) rfl rfl dX11_rules_56 rfl ?_
      refine wp_iconst (pc' := 58) dX11_rules_57 rfl ?_
      obtain ⟨Q3, hs3, h⟩ := h
      refine wp_callV (pc' := 61) (as := [vI 0]) (rest := []) hs3 dX11_rules_58 rfl lkX11_265 okX11_bestBy inX11_bestBy seX11_bestBy o_68 vc10 ⟨Nat.le_of_ble_eq_true rfl, Nat.le_of_ble_eq_true rfl⟩ (Nat.le_of_ble_eq_true rfl) (Nat.le_refl _) (Nat.le_refl _) okP_eq okP_eq rfl (rvI rfl (fun x3 I3 R3 hq3 => ?_))
      obtain ⟨hRR3, h⟩ := h x3 I3 R3 hq3; subst hRR3
      refine wp_aload_n (pc' := 62) (q := 0) (i := 0) rfl rfl dX11_rules_61 rfl ?_
      refine wp_iconst (pc' := 63) dX11_rules_62 rfl ?_
      obtain ⟨Q4, hs4, h⟩ := h
      refine wp_callV (pc' := 66) (as := [vI 1]) (rest := [vI x3]) hs4 dX11_rules_63 rfl lkX11_265 okX11_bestBy inX11_bestBy seX11_bestBy o_68 vc10 ⟨Nat.le_of_ble_eq_true rfl, Nat.le_of_ble_eq_true rfl⟩ (Nat.le_of_ble_eq_true rfl) (Nat.le_refl _) (Nat.le_refl _) okP_eq okP_eq rfl (rvI rfl (fun x4 I4 R4 hq4 => ?_))
      obtain ⟨hRR4, h⟩ := h x4 I4 R4 hq4; subst hRR4
      obtain ⟨h5, h⟩ := h
      obtain ⟨h6, h⟩ := h
      refine wp_icmp_ne (pc' := 69) (tgt := 90) h5 h6 dX11_rules_66 rfl rfl (fun hc => ?_) (fun hc => ?_)
      · have h := h.1 hc
        exact wp_dropP (leP_d (leP_d (leP_d (leP_d leP_n)))) h
      · have h := h.2 hc
        refine wp_aload_n (pc' := 70) (q := 0) (i := 0) rfl rfl dX11_rules_69 rfl ?_
        refine wp_iconst (pc' := 71) dX11_rules_70 rfl ?_
        obtain ⟨Q7, hs7, h⟩ := h
        refine wp_callV (pc' := 74) (as := [vI 1]) (rest := []) hs7 dX11_rules_71 rfl lkX11_265 okX11_bestBy inX11_bestBy seX11_bestBy o_68 vc10 ⟨Nat.le_of_ble_eq_true rfl, Nat.le_of_ble_eq_true rfl⟩ (Nat.le_of_ble_eq_true rfl) (Nat.le_refl _) (Nat.le_refl _) okP_eq okP_eq rfl (rvI rfl (fun x7 I7 R7 hq7 => ?_))
        obtain ⟨hRR7, h⟩ := h x7 I7 R7 hq7; subst hRR7
        refine wp_aload_n (pc' := 75) (q := 0) (i := 0) rfl rfl dX11_rules_74 rfl ?_
        refine wp_iconst (pc' := 76) dX11_rules_75 rfl ?_
        obtain ⟨Q8, hs8, h⟩ := h
        refine wp_callV (pc' := 79) (as := [vI 2]) (rest := [vI x7]) hs8 dX11_rules_76 rfl lkX11_265 okX11_bestBy inX11_bestBy seX11_bestBy o_68 vc10 ⟨Nat.le_of_ble_eq_true rfl, Nat.le_of_ble_eq_true rfl⟩ (Nat.le_of_ble_eq_true rfl) (Nat.le_refl _) (Nat.le_refl _) okP_eq okP_eq rfl (rvI rfl (fun x8 I8 R8 hq8 => ?_))
        obtain ⟨hRR8, h⟩ := h x8 I8 R8 hq8; subst hRR8
        obtain ⟨h9, h⟩ := h
        obtain ⟨h10, h⟩ := h
        refine wp_icmp_ne (pc' := 82) (tgt := 90) h9 h10 dX11_rules_79 rfl rfl (fun hc => ?_) (fun hc => ?_)
        · have h := h.1 hc
          exact wp_dropP (leP_d (leP_d (leP_d (leP_d leP_n)))) h
        · have h := h.2 hc
          refine wp_aload_n (pc' := 83) (q := 0) (i := 0) rfl rfl dX11_rules_82 rfl ?_
          refine wp_iconst (pc' := 84) dX11_rules_83 rfl ?_
          obtain ⟨Q11, hs11, h⟩ := h
          refine wp_callV (pc' := 87) (as := [vI 0]) (rest := []) hs11 dX11_rules_84 rfl lkX11_265 okX11_bestBy inX11_bestBy seX11_bestBy o_68 vc10 ⟨Nat.le_of_ble_eq_true rfl, Nat.le_of_ble_eq_true rfl⟩ (Nat.le_of_ble_eq_true rfl) (Nat.le_refl _) (Nat.le_refl _) okP_eq okP_eq rfl (rvI rfl (fun x11 I11 R11 hq11 => ?_))
          obtain ⟨hRR11, h⟩ := h x11 I11 R11 hq11; subst hRR11
          refine wp_goto (tgt := 92) dX11_rules_87 rfl ?_
          exact wp_ireturn dX11_rules_92 rfl rfl h
    · have h := h.2 hc
      refine wp_aload_n (pc' := 51) (q := 0) (i := 0) rfl rfl dX11_rules_50 rfl ?_
      refine wp_iload_n (pc' := 52) (q := 2) (i := 2) rfl rfl dX11_rules_51 rfl ?_
      obtain ⟨Q12, hs12, h⟩ := h
      refine wp_callV (pc' := 55) (as := [vI a2]) (rest := []) hs12 dX11_rules_52 rfl lkX11_265 okX11_bestBy inX11_bestBy seX11_bestBy o_68 vc10 ⟨Nat.le_of_ble_eq_true rfl, Nat.le_of_ble_eq_true rfl⟩ (Nat.le_of_ble_eq_true rfl) (Nat.le_refl _) (Nat.le_refl _) okP_eq okP_eq rfl (rvI rfl (fun x12 I12 R12 hq12 => ?_))
      obtain ⟨hRR12, h⟩ := h x12 I12 R12 hq12; subst hRR12
      exact wp_ireturn dX11_rules_55 rfl rfl h
  · have h := h.2 hc
    refine wp_aload_n (pc' := 34) (q := 0) (i := 0) rfl rfl dX11_rules_33 rfl ?_
    refine wp_iload_n (pc' := 35) (q := 3) (i := 3) rfl rfl dX11_rules_34 rfl ?_
    refine wp_iload_n (pc' := 36) (q := 1) (i := 1) rfl rfl dX11_rules_35 rfl ?_
    obtain ⟨Q13, hs13, h⟩ := h
    refine wp_callV (pc' := 39) (as := [vI a3, vI a1]) (rest := []) hs13 dX11_rules_36 rfl lkX11_261 okX11_layMeans inX11_layMeans seX11_layMeans o_68 vc10 ⟨Nat.le_of_ble_eq_true rfl, Nat.le_of_ble_eq_true rfl⟩ (Nat.le_of_ble_eq_true rfl) (Nat.le_refl _) (Nat.le_refl _) okP_eq okP_eq rfl (rvV rfl (fun I13 R13 hq13 => ?_))
    obtain ⟨hRR13, h⟩ := h I13 R13 hq13; subst hRR13
    refine wp_iinc (pc' := 42) (i := 3) (L' := [vR 68, vI a1, vI a2, vI (a3 + 1)]) rfl (by decide) rfl dX11_rules_39 rfl rfl ?_
    refine wp_goto (tgt := 28) dX11_rules_42 rfl ?_
    exact h

set_option maxRecDepth 4000 in
theorem gX11_rules_90 {Q : QT} {I : II} {R : RR} (hR : SR R) 
    (h : Q (vI (-4)) I R) : wp (kN 89) mX11_rules Q 90 [none, none, none, none] [] I R 89 := by
  refine wp_bipush (pc' := 92) (by decide) dX11_rules_90 rfl ?_
  exact wp_ireturn dX11_rules_92 rfl rfl h

theorem sX11_shout {Q : QT} {I : II} {R : RR} {a1 : Int} {a2 : Int} (h : wp (kN 89) mX11_shout Q 0 [vR 68, vI a1, vI a2] [] I R 89) : Spec mX11_shout [vR 68, vI a1, vI a2] I R 89 89 Q := Spec_of_wp pyX11_shout rfl (Nat.le_of_ble_eq_true rfl) (Nat.le_refl _) (by decide) h

set_option maxRecDepth 4000 in
theorem gX11_shout_0 {Q : QT} {I : II} {R : RR} (hR : SR R) {a1 : Int} {a2 : Int}
    (h : (InI a1) ∧
      (InI ((I 75 0) - 1)) ∧
      (((0 : Int) ≤ a1 ∧ a1 ≤ ((I 75 0) - 1) →
      (InI a2) ∧
      (((0 : Int) ≤ a2 ∧ a2 ≤ (3 : Int) →
      ((¬ a2 = 0 →
      ((¬ a2 = (1 : Int) →
      ((¬ a2 = (2 : Int) →
      (0 ≤ a1 ∧ a1 < 600) ∧
      Q (vI (I 79 a1.toNat)) I R) ∧ (a2 = (2 : Int) →
      (0 ≤ a1 ∧ a1 < 600) ∧
      Q (vI (I 78 a1.toNat)) I R))) ∧ (a2 = (1 : Int) →
      (0 ≤ a1 ∧ a1 < 600) ∧
      Q (vI (I 77 a1.toNat)) I R))) ∧ (a2 = 0 →
      (0 ≤ a1 ∧ a1 < 600) ∧
      Q (vI (I 76 a1.toNat)) I R))) ∧ (¬ ((0 : Int) ≤ a2 ∧ a2 ≤ (3 : Int)) →
      wp (kN 89) mX11_shout Q 30 [none, none, none] [] I R 89))) ∧ (¬ ((0 : Int) ≤ a1 ∧ a1 ≤ ((I 75 0) - 1)) →
      wp (kN 89) mX11_shout Q 30 [none, none, none] [] I R 89))) : wp (kN 89) mX11_shout Q 0 [vR 68, vI a1, vI a2] [] I R 89 := by
  refine wp_iload_n (pc' := 1) (q := 1) (i := 1) rfl rfl dX11_shout_0 rfl ?_
  obtain ⟨h1, h⟩ := h
  refine wp_i2l (pc' := 2) h1 dX11_shout_1 rfl ?_
  refine wp_lconst (pc' := 3) dX11_shout_2 rfl ?_
  refine wp_aload_n (pc' := 4) (q := 0) (i := 0) rfl rfl dX11_shout_3 rfl ?_
  refine wp_getRc (pc' := 7) (k := 7) (j := 75) dX11_shout_4 vc10 (by decide) rfl lfX11_28 o_68 (r_68_7 hR) rfl ?_
  refine wp_iconst (pc' := 8) dX11_shout_7 rfl ?_
  refine wp_iald (pc' := 9) (j := 0) dX11_shout_8 a_75 ⟨by decide, by decide⟩ rfl rfl ?_
  refine wp_iconst (pc' := 10) dX11_shout_9 rfl ?_
  refine wp_isub (pc' := 11) dX11_shout_10 rfl ?_
  obtain ⟨h2, h⟩ := h
  refine wp_i2l (pc' := 12) h2 dX11_shout_11 rfl ?_
  refine wp_callS (pc' := 15) (as := [vL a1, vL 0, vL ((I 75 0) - 1)]) (rest := []) (pX11_in (by decide) (inL_of h1) ⟨by decide, by decide⟩ (inL_of h2)) dX11_shout_12 rfl lkX11_79 okX11_in stX11_in ⟨Nat.le_of_ble_eq_true rfl, Nat.le_of_ble_eq_true rfl⟩ (Nat.le_of_ble_eq_true rfl) (Nat.le_refl _) (Nat.le_refl _) okP_eq okP_eq rfl (rvZ rfl (fun x3 I3 R3 hz3 hq3 => ?_))
  obtain ⟨eR3, eI3, ex3⟩ := hq3; subst eR3; subst eI3; cases ex3
  by_cases hc : (0 : Int) ≤ a1 ∧ a1 ≤ ((I 75 0) - 1)
  · rw [if_pos hc]; have h := h.1 hc
    refine wp_if_eq (pc' := 18) (tgt := 30) ⟨by decide, by decide⟩ dX11_shout_15 rfl rfl (fun hc => by exfalso; revert hc; decide) (fun hc => ?_)
    refine wp_iload_n (pc' := 19) (q := 2) (i := 2) rfl rfl dX11_shout_18 rfl ?_
    obtain ⟨h4, h⟩ := h
    refine wp_i2l (pc' := 20) h4 dX11_shout_19 rfl ?_
    refine wp_lconst (pc' := 21) dX11_shout_20 rfl ?_
    refine wp_ldc2 (pc' := 24) (x := 3) lcX11_100 (by decide +kernel) dX11_shout_21 rfl ?_
    refine wp_callS (pc' := 27) (as := [vL a2, vL 0, vL 3]) (rest := []) (pX11_in (by decide) (inL_of h4) ⟨by decide, by decide⟩ ⟨by decide, by decide⟩) dX11_shout_24 rfl lkX11_79 okX11_in stX11_in ⟨Nat.le_of_ble_eq_true rfl, Nat.le_of_ble_eq_true rfl⟩ (Nat.le_of_ble_eq_true rfl) (Nat.le_refl _) (Nat.le_refl _) okP_eq okP_eq rfl (rvZ rfl (fun x5 I5 R5 hz5 hq5 => ?_))
    obtain ⟨eR5, eI5, ex5⟩ := hq5; subst eR5; subst eI5; cases ex5
    by_cases hc : (0 : Int) ≤ a2 ∧ a2 ≤ (3 : Int)
    · rw [if_pos hc]; have h := h.1 hc
      refine wp_if_ne (pc' := 30) (tgt := 32) ⟨by decide, by decide⟩ dX11_shout_27 rfl rfl (fun hc => ?_) (fun hc => by exfalso; revert hc; decide)
      refine wp_iload_n (pc' := 33) (q := 2) (i := 2) rfl rfl dX11_shout_32 rfl ?_
      refine wp_if_ne (pc' := 36) (tgt := 45) h4 dX11_shout_33 rfl rfl (fun hc => ?_) (fun hc => ?_)
      · have h := h.1 hc
        refine wp_iload_n (pc' := 46) (q := 2) (i := 2) rfl rfl dX11_shout_45 rfl ?_
        refine wp_iconst (pc' := 47) dX11_shout_46 rfl ?_
        refine wp_icmp_ne (pc' := 50) (tgt := 59) h4 ⟨by decide, by decide⟩ dX11_shout_47 rfl rfl (fun hc => ?_) (fun hc => ?_)
        · have h := h.1 hc
          refine wp_iload_n (pc' := 60) (q := 2) (i := 2) rfl rfl dX11_shout_59 rfl ?_
          refine wp_iconst (pc' := 61) dX11_shout_60 rfl ?_
          refine wp_icmp_ne (pc' := 64) (tgt := 73) h4 ⟨by decide, by decide⟩ dX11_shout_61 rfl rfl (fun hc => ?_) (fun hc => ?_)
          · have h := h.1 hc
            refine wp_aload_n (pc' := 74) (q := 0) (i := 0) rfl rfl dX11_shout_73 rfl ?_
            refine wp_getRc (pc' := 77) (k := 11) (j := 79) dX11_shout_74 vc10 (by decide) rfl lfX11_40 o_68 (r_68_11 hR) rfl ?_
            refine wp_iload_n (pc' := 78) (q := 1) (i := 1) rfl rfl dX11_shout_77 rfl ?_
            obtain ⟨h6, h⟩ := h
            refine wp_iald (pc' := 79) (j := a1.toNat) dX11_shout_78 a_79 h6 rfl rfl ?_
            exact wp_ireturn dX11_shout_79 rfl rfl h
          · have h := h.2 hc
            refine wp_aload_n (pc' := 65) (q := 0) (i := 0) rfl rfl dX11_shout_64 rfl ?_
            refine wp_getRc (pc' := 68) (k := 10) (j := 78) dX11_shout_65 vc10 (by decide) rfl lfX11_37 o_68 (r_68_10 hR) rfl ?_
            refine wp_iload_n (pc' := 69) (q := 1) (i := 1) rfl rfl dX11_shout_68 rfl ?_
            obtain ⟨h7, h⟩ := h
            refine wp_iald (pc' := 70) (j := a1.toNat) dX11_shout_69 a_78 h7 rfl rfl ?_
            refine wp_goto (tgt := 79) dX11_shout_70 rfl ?_
            exact wp_ireturn dX11_shout_79 rfl rfl h
        · have h := h.2 hc
          refine wp_aload_n (pc' := 51) (q := 0) (i := 0) rfl rfl dX11_shout_50 rfl ?_
          refine wp_getRc (pc' := 54) (k := 9) (j := 77) dX11_shout_51 vc10 (by decide) rfl lfX11_34 o_68 (r_68_9 hR) rfl ?_
          refine wp_iload_n (pc' := 55) (q := 1) (i := 1) rfl rfl dX11_shout_54 rfl ?_
          obtain ⟨h8, h⟩ := h
          refine wp_iald (pc' := 56) (j := a1.toNat) dX11_shout_55 a_77 h8 rfl rfl ?_
          refine wp_goto (tgt := 79) dX11_shout_56 rfl ?_
          exact wp_ireturn dX11_shout_79 rfl rfl h
      · have h := h.2 hc
        refine wp_aload_n (pc' := 37) (q := 0) (i := 0) rfl rfl dX11_shout_36 rfl ?_
        refine wp_getRc (pc' := 40) (k := 8) (j := 76) dX11_shout_37 vc10 (by decide) rfl lfX11_31 o_68 (r_68_8 hR) rfl ?_
        refine wp_iload_n (pc' := 41) (q := 1) (i := 1) rfl rfl dX11_shout_40 rfl ?_
        obtain ⟨h9, h⟩ := h
        refine wp_iald (pc' := 42) (j := a1.toNat) dX11_shout_41 a_76 h9 rfl rfl ?_
        refine wp_goto (tgt := 79) dX11_shout_42 rfl ?_
        exact wp_ireturn dX11_shout_79 rfl rfl h
    · rw [if_neg hc]; have h := h.2 hc
      refine wp_if_ne (pc' := 30) (tgt := 32) ⟨by decide, by decide⟩ dX11_shout_27 rfl rfl (fun hc => by exfalso; revert hc; decide) (fun hc => ?_)
      exact wp_dropP (leP_d (leP_d (leP_d leP_n))) h
  · rw [if_neg hc]; have h := h.2 hc
    refine wp_if_eq (pc' := 18) (tgt := 30) ⟨by decide, by decide⟩ dX11_shout_15 rfl rfl (fun hc => ?_) (fun hc => by exfalso; revert hc; decide)
    exact wp_dropP (leP_d (leP_d (leP_d leP_n))) h

set_option maxRecDepth 4000 in
theorem gX11_shout_30 {Q : QT} {I : II} {R : RR} (hR : SR R) 
    (h : Q (vI (-1)) I R) : wp (kN 89) mX11_shout Q 30 [none, none, none] [] I R 89 := by
  refine wp_iconst (pc' := 31) dX11_shout_30 rfl ?_
  exact wp_ireturn dX11_shout_31 rfl rfl h

theorem sX11_knownOf {Q : QT} {I : II} {R : RR} {a1 : Int} (h : wp (kN 89) mX11_knownOf Q 0 [vR 68, vI a1, none, none, none] [] I R 89) : Spec mX11_knownOf [vR 68, vI a1] I R 89 89 Q := Spec_of_wp pyX11_knownOf rfl (Nat.le_of_ble_eq_true rfl) (Nat.le_refl _) (by decide) h

set_option maxRecDepth 4000 in
theorem gX11_knownOf_0 {Q : QT} {I : II} {R : RR} (hR : SR R) {a1 : Int}
    (h : (0 ≤ a1 ∧ a1 < 40) ∧
      (InI (I 71 a1.toNat)) ∧
      ((¬ (I 71 a1.toNat) = 0 →
      wp (kN 89) mX11_knownOf Q 18 [vR 68, vI a1, vI 99, vI 0, none] [] I R 89) ∧ ((I 71 a1.toNat) = 0 →
      wp (kN 89) mX11_knownOf Q 18 [vR 68, vI a1, vI 0, vI 0, none] [] I R 89))) : wp (kN 89) mX11_knownOf Q 0 [vR 68, vI a1, none, none, none] [] I R 89 := by
  refine wp_aload_n (pc' := 1) (q := 0) (i := 0) rfl rfl dX11_knownOf_0 rfl ?_
  refine wp_getRc (pc' := 4) (k := 3) (j := 71) dX11_knownOf_1 vc10 (by decide) rfl lfX11_16 o_68 (r_68_3 hR) rfl ?_
  refine wp_iload_n (pc' := 5) (q := 1) (i := 1) rfl rfl dX11_knownOf_4 rfl ?_
  obtain ⟨h1, h⟩ := h
  refine wp_iald (pc' := 6) (j := a1.toNat) dX11_knownOf_5 a_71 h1 rfl rfl ?_
  obtain ⟨h2, h⟩ := h
  refine wp_if_ne (pc' := 9) (tgt := 13) h2 dX11_knownOf_6 rfl rfl (fun hc => ?_) (fun hc => ?_)
  · have h := h.1 hc
    refine wp_bipush (pc' := 15) (by decide) dX11_knownOf_13 rfl ?_
    refine wp_istore_n (pc' := 16) (q := 2) (i := 2) (L' := [vR 68, vI a1, vI 99, none, none]) rfl (by decide) rfl dX11_knownOf_15 rfl rfl ?_
    refine wp_iconst (pc' := 17) dX11_knownOf_16 rfl ?_
    refine wp_istore_n (pc' := 18) (q := 3) (i := 3) (L' := [vR 68, vI a1, vI 99, vI 0, none]) rfl (by decide) rfl dX11_knownOf_17 rfl rfl ?_
    exact h
  · have h := h.2 hc
    refine wp_iconst (pc' := 10) dX11_knownOf_9 rfl ?_
    refine wp_goto (tgt := 15) dX11_knownOf_10 rfl ?_
    refine wp_istore_n (pc' := 16) (q := 2) (i := 2) (L' := [vR 68, vI a1, vI 0, none, none]) rfl (by decide) rfl dX11_knownOf_15 rfl rfl ?_
    refine wp_iconst (pc' := 17) dX11_knownOf_16 rfl ?_
    refine wp_istore_n (pc' := 18) (q := 3) (i := 3) (L' := [vR 68, vI a1, vI 0, vI 0, none]) rfl (by decide) rfl dX11_knownOf_17 rfl rfl ?_
    exact h

set_option maxRecDepth 4000 in
theorem gX11_knownOf_18 {Q : QT} {I : II} {R : RR} (hR : SR R) {a1 : Int} {a2 : Int} {a3 : Int}
    (h : (InI a3) ∧
      (InI (I 75 0)) ∧
      (((I 75 0) ≤ a3 →
      Q (vI a2) I R) ∧ (¬ (I 75 0) ≤ a3 →
      (0 ≤ a1 ∧ a1 < 40) ∧
      (InI (I 71 a1.toNat)) ∧
      ((¬ (I 71 a1.toNat) = 0 →
      (0 ≤ a3 ∧ a3 < 600) ∧
      (InI (I 77 a3.toNat)) ∧
      (InI a2) ∧
      ((a2 ≤ (I 77 a3.toNat) →
      (InI (I 76 a3.toNat)) ∧
      (InI a1) ∧
      ((¬ (I 76 a3.toNat) = a1 →
      wp (kN 89) mX11_knownOf Q 96 [vR 68, vI a1, vI a2, vI a3, none] [] I R 89) ∧ ((I 76 a3.toNat) = a1 →
      wp (kN 89) mX11_knownOf Q 96 [vR 68, vI a1, vI a2, vI a3, none] [] I R 89))) ∧ (¬ (a2 ≤ (I 77 a3.toNat)) →
      (InI (I 76 a3.toNat)) ∧
      (InI a1) ∧
      ((¬ (I 76 a3.toNat) = a1 →
      wp (kN 89) mX11_knownOf Q 96 [vR 68, vI a1, vI a2, vI a3, none] [] I R 89) ∧ ((I 76 a3.toNat) = a1 →
      wp (kN 89) mX11_knownOf Q 18 [vR 68, vI a1, vI (I 77 a3.toNat), vI (a3 + 1), none] [] I R 89))))) ∧ ((I 71 a1.toNat) = 0 →
      (0 ≤ a3 ∧ a3 < 600) ∧
      (InI (I 77 a3.toNat)) ∧
      (InI a2) ∧
      (((I 77 a3.toNat) ≤ a2 →
      (InI (I 76 a3.toNat)) ∧
      (InI a1) ∧
      ((¬ (I 76 a3.toNat) = a1 →
      wp (kN 89) mX11_knownOf Q 96 [vR 68, vI a1, vI a2, vI a3, none] [] I R 89) ∧ ((I 76 a3.toNat) = a1 →
      wp (kN 89) mX11_knownOf Q 96 [vR 68, vI a1, vI a2, vI a3, none] [] I R 89))) ∧ (¬ (I 77 a3.toNat) ≤ a2 →
      (InI (I 76 a3.toNat)) ∧
      (InI a1) ∧
      ((¬ (I 76 a3.toNat) = a1 →
      wp (kN 89) mX11_knownOf Q 96 [vR 68, vI a1, vI a2, vI a3, none] [] I R 89) ∧ ((I 76 a3.toNat) = a1 →
      wp (kN 89) mX11_knownOf Q 18 [vR 68, vI a1, vI (I 77 a3.toNat), vI (a3 + 1), none] [] I R 89))))))))) : wp (kN 89) mX11_knownOf Q 18 [vR 68, vI a1, vI a2, vI a3, none] [] I R 89 := by
  refine wp_iload_n (pc' := 19) (q := 3) (i := 3) rfl rfl dX11_knownOf_18 rfl ?_
  refine wp_aload_n (pc' := 20) (q := 0) (i := 0) rfl rfl dX11_knownOf_19 rfl ?_
  refine wp_getRc (pc' := 23) (k := 7) (j := 75) dX11_knownOf_20 vc10 (by decide) rfl lfX11_28 o_68 (r_68_7 hR) rfl ?_
  refine wp_iconst (pc' := 24) dX11_knownOf_23 rfl ?_
  refine wp_iald (pc' := 25) (j := 0) dX11_knownOf_24 a_75 ⟨by decide, by decide⟩ rfl rfl ?_
  obtain ⟨h1, h⟩ := h
  obtain ⟨h2, h⟩ := h
  refine wp_icmp_ge (pc' := 28) (tgt := 104) h1 h2 dX11_knownOf_25 rfl rfl (fun hc => ?_) (fun hc => ?_)
  · have h := h.1 hc
    refine wp_iload_n (pc' := 105) (q := 2) (i := 2) rfl rfl dX11_knownOf_104 rfl ?_
    exact wp_ireturn dX11_knownOf_105 rfl rfl h
  · have h := h.2 hc
    refine wp_aload_n (pc' := 29) (q := 0) (i := 0) rfl rfl dX11_knownOf_28 rfl ?_
    refine wp_getRc (pc' := 32) (k := 3) (j := 71) dX11_knownOf_29 vc10 (by decide) rfl lfX11_16 o_68 (r_68_3 hR) rfl ?_
    refine wp_iload_n (pc' := 33) (q := 1) (i := 1) rfl rfl dX11_knownOf_32 rfl ?_
    obtain ⟨h3, h⟩ := h
    refine wp_iald (pc' := 34) (j := a1.toNat) dX11_knownOf_33 a_71 h3 rfl rfl ?_
    obtain ⟨h4, h⟩ := h
    refine wp_if_ne (pc' := 37) (tgt := 55) h4 dX11_knownOf_34 rfl rfl (fun hc => ?_) (fun hc => ?_)
    · have h := h.1 hc
      refine wp_aload_n (pc' := 56) (q := 0) (i := 0) rfl rfl dX11_knownOf_55 rfl ?_
      refine wp_getRc (pc' := 59) (k := 9) (j := 77) dX11_knownOf_56 vc10 (by decide) rfl lfX11_34 o_68 (r_68_9 hR) rfl ?_
      refine wp_iload_n (pc' := 60) (q := 3) (i := 3) rfl rfl dX11_knownOf_59 rfl ?_
      obtain ⟨h5, h⟩ := h
      refine wp_iald (pc' := 61) (j := a3.toNat) dX11_knownOf_60 a_77 h5 rfl rfl ?_
      refine wp_iload_n (pc' := 62) (q := 2) (i := 2) rfl rfl dX11_knownOf_61 rfl ?_
      obtain ⟨h6, h⟩ := h
      obtain ⟨h7, h⟩ := h
      refine wp_icmp_ge (pc' := 65) (tgt := 69) h6 h7 dX11_knownOf_62 rfl rfl (fun hc => ?_) (fun hc => ?_)
      · have h := h.1 hc
        refine wp_iconst (pc' := 70) dX11_knownOf_69 rfl ?_
        refine wp_istore (pc' := 72) (i := 4) (L' := [vR 68, vI a1, vI a2, vI a3, vI 0]) (by decide) rfl dX11_knownOf_70 rfl rfl ?_
        refine wp_aload_n (pc' := 73) (q := 0) (i := 0) rfl rfl dX11_knownOf_72 rfl ?_
        refine wp_getRc (pc' := 76) (k := 8) (j := 76) dX11_knownOf_73 vc10 (by decide) rfl lfX11_31 o_68 (r_68_8 hR) rfl ?_
        refine wp_iload_n (pc' := 77) (q := 3) (i := 3) rfl rfl dX11_knownOf_76 rfl ?_
        refine wp_iald (pc' := 78) (j := a3.toNat) dX11_knownOf_77 a_76 h5 rfl rfl ?_
        refine wp_iload_n (pc' := 79) (q := 1) (i := 1) rfl rfl dX11_knownOf_78 rfl ?_
        obtain ⟨h8, h⟩ := h
        obtain ⟨h9, h⟩ := h
        refine wp_icmp_ne (pc' := 82) (tgt := 96) h8 h9 dX11_knownOf_79 rfl rfl (fun hc => ?_) (fun hc => ?_)
        · have h := h.1 hc
          exact wp_dropP (leP_s (leP_s (leP_s (leP_s (leP_d leP_n))))) h
        · have h := h.2 hc
          refine wp_iload (pc' := 84) (i := 4) rfl dX11_knownOf_82 rfl ?_
          refine wp_if_eq (pc' := 87) (tgt := 96) ⟨by decide, by decide⟩ dX11_knownOf_84 rfl rfl (fun hc => ?_) (fun hc => by exfalso; revert hc; decide)
          exact wp_dropP (leP_s (leP_s (leP_s (leP_s (leP_d leP_n))))) h
      · have h := h.2 hc
        refine wp_iconst (pc' := 66) dX11_knownOf_65 rfl ?_
        refine wp_goto (tgt := 70) dX11_knownOf_66 rfl ?_
        refine wp_istore (pc' := 72) (i := 4) (L' := [vR 68, vI a1, vI a2, vI a3, vI 1]) (by decide) rfl dX11_knownOf_70 rfl rfl ?_
        refine wp_aload_n (pc' := 73) (q := 0) (i := 0) rfl rfl dX11_knownOf_72 rfl ?_
        refine wp_getRc (pc' := 76) (k := 8) (j := 76) dX11_knownOf_73 vc10 (by decide) rfl lfX11_31 o_68 (r_68_8 hR) rfl ?_
        refine wp_iload_n (pc' := 77) (q := 3) (i := 3) rfl rfl dX11_knownOf_76 rfl ?_
        refine wp_iald (pc' := 78) (j := a3.toNat) dX11_knownOf_77 a_76 h5 rfl rfl ?_
        refine wp_iload_n (pc' := 79) (q := 1) (i := 1) rfl rfl dX11_knownOf_78 rfl ?_
        obtain ⟨h10, h⟩ := h
        obtain ⟨h11, h⟩ := h
        refine wp_icmp_ne (pc' := 82) (tgt := 96) h10 h11 dX11_knownOf_79 rfl rfl (fun hc => ?_) (fun hc => ?_)
        · have h := h.1 hc
          exact wp_dropP (leP_s (leP_s (leP_s (leP_s (leP_d leP_n))))) h
        · have h := h.2 hc
          refine wp_iload (pc' := 84) (i := 4) rfl dX11_knownOf_82 rfl ?_
          refine wp_if_eq (pc' := 87) (tgt := 96) ⟨by decide, by decide⟩ dX11_knownOf_84 rfl rfl (fun hc => by exfalso; revert hc; decide) (fun hc => ?_)
          refine wp_aload_n (pc' := 88) (q := 0) (i := 0) rfl rfl dX11_knownOf_87 rfl ?_
          refine wp_getRc (pc' := 91) (k := 9) (j := 77) dX11_knownOf_88 vc10 (by decide) rfl lfX11_34 o_68 (r_68_9 hR) rfl ?_
          refine wp_iload_n (pc' := 92) (q := 3) (i := 3) rfl rfl dX11_knownOf_91 rfl ?_
          refine wp_iald (pc' := 93) (j := a3.toNat) dX11_knownOf_92 a_77 h5 rfl rfl ?_
          refine wp_goto (tgt := 97) dX11_knownOf_93 rfl ?_
          refine wp_istore_n (pc' := 98) (q := 2) (i := 2) (L' := [vR 68, vI a1, vI (I 77 a3.toNat), vI a3, vI 1]) rfl (by decide) rfl dX11_knownOf_97 rfl rfl ?_
          refine wp_iinc (pc' := 101) (i := 3) (L' := [vR 68, vI a1, vI (I 77 a3.toNat), vI (a3 + 1), vI 1]) rfl (by decide) rfl dX11_knownOf_98 rfl rfl ?_
          refine wp_goto (tgt := 18) dX11_knownOf_101 rfl ?_
          exact wp_dropP (leP_s (leP_s (leP_s (leP_s (leP_d leP_n))))) h
    · have h := h.2 hc
      refine wp_aload_n (pc' := 38) (q := 0) (i := 0) rfl rfl dX11_knownOf_37 rfl ?_
      refine wp_getRc (pc' := 41) (k := 9) (j := 77) dX11_knownOf_38 vc10 (by decide) rfl lfX11_34 o_68 (r_68_9 hR) rfl ?_
      refine wp_iload_n (pc' := 42) (q := 3) (i := 3) rfl rfl dX11_knownOf_41 rfl ?_
      obtain ⟨h12, h⟩ := h
      refine wp_iald (pc' := 43) (j := a3.toNat) dX11_knownOf_42 a_77 h12 rfl rfl ?_
      refine wp_iload_n (pc' := 44) (q := 2) (i := 2) rfl rfl dX11_knownOf_43 rfl ?_
      obtain ⟨h13, h⟩ := h
      obtain ⟨h14, h⟩ := h
      refine wp_icmp_le (pc' := 47) (tgt := 51) h13 h14 dX11_knownOf_44 rfl rfl (fun hc => ?_) (fun hc => ?_)
      · have h := h.1 hc
        refine wp_iconst (pc' := 52) dX11_knownOf_51 rfl ?_
        refine wp_goto (tgt := 70) dX11_knownOf_52 rfl ?_
        refine wp_istore (pc' := 72) (i := 4) (L' := [vR 68, vI a1, vI a2, vI a3, vI 0]) (by decide) rfl dX11_knownOf_70 rfl rfl ?_
        refine wp_aload_n (pc' := 73) (q := 0) (i := 0) rfl rfl dX11_knownOf_72 rfl ?_
        refine wp_getRc (pc' := 76) (k := 8) (j := 76) dX11_knownOf_73 vc10 (by decide) rfl lfX11_31 o_68 (r_68_8 hR) rfl ?_
        refine wp_iload_n (pc' := 77) (q := 3) (i := 3) rfl rfl dX11_knownOf_76 rfl ?_
        refine wp_iald (pc' := 78) (j := a3.toNat) dX11_knownOf_77 a_76 h12 rfl rfl ?_
        refine wp_iload_n (pc' := 79) (q := 1) (i := 1) rfl rfl dX11_knownOf_78 rfl ?_
        obtain ⟨h15, h⟩ := h
        obtain ⟨h16, h⟩ := h
        refine wp_icmp_ne (pc' := 82) (tgt := 96) h15 h16 dX11_knownOf_79 rfl rfl (fun hc => ?_) (fun hc => ?_)
        · have h := h.1 hc
          exact wp_dropP (leP_s (leP_s (leP_s (leP_s (leP_d leP_n))))) h
        · have h := h.2 hc
          refine wp_iload (pc' := 84) (i := 4) rfl dX11_knownOf_82 rfl ?_
          refine wp_if_eq (pc' := 87) (tgt := 96) ⟨by decide, by decide⟩ dX11_knownOf_84 rfl rfl (fun hc => ?_) (fun hc => by exfalso; revert hc; decide)
          exact wp_dropP (leP_s (leP_s (leP_s (leP_s (leP_d leP_n))))) h
      · have h := h.2 hc
        refine wp_iconst (pc' := 48) dX11_knownOf_47 rfl ?_
        refine wp_goto (tgt := 70) dX11_knownOf_48 rfl ?_
        refine wp_istore (pc' := 72) (i := 4) (L' := [vR 68, vI a1, vI a2, vI a3, vI 1]) (by decide) rfl dX11_knownOf_70 rfl rfl ?_
        refine wp_aload_n (pc' := 73) (q := 0) (i := 0) rfl rfl dX11_knownOf_72 rfl ?_
        refine wp_getRc (pc' := 76) (k := 8) (j := 76) dX11_knownOf_73 vc10 (by decide) rfl lfX11_31 o_68 (r_68_8 hR) rfl ?_
        refine wp_iload_n (pc' := 77) (q := 3) (i := 3) rfl rfl dX11_knownOf_76 rfl ?_
        refine wp_iald (pc' := 78) (j := a3.toNat) dX11_knownOf_77 a_76 h12 rfl rfl ?_
        refine wp_iload_n (pc' := 79) (q := 1) (i := 1) rfl rfl dX11_knownOf_78 rfl ?_
        obtain ⟨h17, h⟩ := h
        obtain ⟨h18, h⟩ := h
        refine wp_icmp_ne (pc' := 82) (tgt := 96) h17 h18 dX11_knownOf_79 rfl rfl (fun hc => ?_) (fun hc => ?_)
        · have h := h.1 hc
          exact wp_dropP (leP_s (leP_s (leP_s (leP_s (leP_d leP_n))))) h
        · have h := h.2 hc
          refine wp_iload (pc' := 84) (i := 4) rfl dX11_knownOf_82 rfl ?_
          refine wp_if_eq (pc' := 87) (tgt := 96) ⟨by decide, by decide⟩ dX11_knownOf_84 rfl rfl (fun hc => by exfalso; revert hc; decide) (fun hc => ?_)
          refine wp_aload_n (pc' := 88) (q := 0) (i := 0) rfl rfl dX11_knownOf_87 rfl ?_
          refine wp_getRc (pc' := 91) (k := 9) (j := 77) dX11_knownOf_88 vc10 (by decide) rfl lfX11_34 o_68 (r_68_9 hR) rfl ?_
          refine wp_iload_n (pc' := 92) (q := 3) (i := 3) rfl rfl dX11_knownOf_91 rfl ?_
          refine wp_iald (pc' := 93) (j := a3.toNat) dX11_knownOf_92 a_77 h12 rfl rfl ?_
          refine wp_goto (tgt := 97) dX11_knownOf_93 rfl ?_
          refine wp_istore_n (pc' := 98) (q := 2) (i := 2) (L' := [vR 68, vI a1, vI (I 77 a3.toNat), vI a3, vI 1]) rfl (by decide) rfl dX11_knownOf_97 rfl rfl ?_
          refine wp_iinc (pc' := 101) (i := 3) (L' := [vR 68, vI a1, vI (I 77 a3.toNat), vI (a3 + 1), vI 1]) rfl (by decide) rfl dX11_knownOf_98 rfl rfl ?_
          refine wp_goto (tgt := 18) dX11_knownOf_101 rfl ?_
          exact wp_dropP (leP_s (leP_s (leP_s (leP_s (leP_d leP_n))))) h

set_option maxRecDepth 4000 in
theorem gX11_knownOf_96 {Q : QT} {I : II} {R : RR} (hR : SR R) {a1 : Int} {a2 : Int} {a3 : Int}
    (h : wp (kN 89) mX11_knownOf Q 18 [vR 68, vI a1, vI a2, vI (a3 + 1), none] [] I R 89) : wp (kN 89) mX11_knownOf Q 96 [vR 68, vI a1, vI a2, vI a3, none] [] I R 89 := by
  refine wp_iload_n (pc' := 97) (q := 2) (i := 2) rfl rfl dX11_knownOf_96 rfl ?_
  refine wp_istore_n (pc' := 98) (q := 2) (i := 2) (L' := [vR 68, vI a1, vI a2, vI a3, none]) rfl (by decide) rfl dX11_knownOf_97 rfl rfl ?_
  refine wp_iinc (pc' := 101) (i := 3) (L' := [vR 68, vI a1, vI a2, vI (a3 + 1), none]) rfl (by decide) rfl dX11_knownOf_98 rfl rfl ?_
  refine wp_goto (tgt := 18) dX11_knownOf_101 rfl ?_
  exact h

theorem sX11_known {Q : QT} {I : II} {R : RR} {a1 : Int} (h : wp (kN 89) mX11_known Q 0 [vR 68, vI a1] [] I R 89) : Spec mX11_known [vR 68, vI a1] I R 89 89 Q := Spec_of_wp pyX11_known rfl (Nat.le_of_ble_eq_true rfl) (Nat.le_refl _) (by decide) h

set_option maxRecDepth 4000 in
theorem gX11_known_0 {Q : QT} {I : II} {R : RR} (hR : SR R) {a1 : Int}
    (h : (InI a1) ∧
      (InI (I 70 0 - 1)) ∧
      ((0 ≤ a1 ∧ a1 ≤ I 70 0 - 1 →
      (∃ Q4 : QT, Spec mX11_knownOf [vR 68, vI a1] I R 89 89 Q4 ∧ (∀ x4 I4 R4, Q4 (vI x4) I4 R4 →
      R = R4 ∧ Q (vI x4) I4 R))) ∧ (¬ (0 ≤ a1 ∧ a1 ≤ I 70 0 - 1) →
      Q (vI (-1)) I R))) : wp (kN 89) mX11_known Q 0 [vR 68, vI a1] [] I R 89 := by
  refine wp_aload_n (pc' := 1) (q := 0) (i := 0) rfl rfl dX11_known_0 rfl ?_
  refine wp_iload_n (pc' := 2) (q := 1) (i := 1) rfl rfl dX11_known_1 rfl ?_
  obtain ⟨h2, h⟩ := h
  obtain ⟨h3, h⟩ := h
  refine wp_callV (pc' := 5) (as := [vI a1]) (rest := []) (pX11_isPerson hR h2 h3) dX11_known_2 rfl lkX11_127 okX11_isPerson inX11_isPerson seX11_isPerson o_68 vc10 ⟨Nat.le_of_ble_eq_true rfl, Nat.le_of_ble_eq_true rfl⟩ (Nat.le_of_ble_eq_true rfl) (Nat.le_refl _) (Nat.le_refl _) okP_eq okP_eq rfl (rvZ rfl (fun x1 I1 R1 hz1 hq1 => ?_))
  obtain ⟨eR1, eI1, ex1⟩ := hq1; subst eR1; subst eI1; cases ex1
  by_cases hc : 0 ≤ a1 ∧ a1 ≤ I 70 0 - 1
  · rw [if_pos hc]; have h := h.1 hc
    refine wp_if_eq (pc' := 8) (tgt := 16) ⟨by decide, by decide⟩ dX11_known_5 rfl rfl (fun hc => by exfalso; revert hc; decide) (fun hc => ?_)
    refine wp_aload_n (pc' := 9) (q := 0) (i := 0) rfl rfl dX11_known_8 rfl ?_
    refine wp_iload_n (pc' := 10) (q := 1) (i := 1) rfl rfl dX11_known_9 rfl ?_
    obtain ⟨Q4, hs4, h⟩ := h
    refine wp_callV (pc' := 13) (as := [vI a1]) (rest := []) hs4 dX11_known_10 rfl lkX11_268 okX11_knownOf inX11_knownOf seX11_knownOf o_68 vc10 ⟨Nat.le_of_ble_eq_true rfl, Nat.le_of_ble_eq_true rfl⟩ (Nat.le_of_ble_eq_true rfl) (Nat.le_refl _) (Nat.le_refl _) okP_eq okP_eq rfl (rvI rfl (fun x4 I4 R4 hq4 => ?_))
    obtain ⟨hRR4, h⟩ := h x4 I4 R4 hq4; subst hRR4
    refine wp_goto (tgt := 17) dX11_known_13 rfl ?_
    exact wp_ireturn dX11_known_17 rfl rfl h
  · rw [if_neg hc]; have h := h.2 hc
    refine wp_if_eq (pc' := 8) (tgt := 16) ⟨by decide, by decide⟩ dX11_known_5 rfl rfl (fun hc => ?_) (fun hc => by exfalso; revert hc; decide)
    refine wp_iconst (pc' := 17) dX11_known_16 rfl ?_
    exact wp_ireturn dX11_known_17 rfl rfl h

theorem sX11_least {Q : QT} {I : II} {R : RR} {a1 : Int} (h : wp (kN 89) mX11_least Q 0 [vR 68, vI a1, none] [] I R 89) : Spec mX11_least [vR 68, vI a1] I R 89 89 Q := Spec_of_wp pyX11_least rfl (Nat.le_of_ble_eq_true rfl) (Nat.le_refl _) (by decide) h

set_option maxRecDepth 4000 in
theorem gX11_least_0 {Q : QT} {I : II} {R : RR} (hR : SR R) {a1 : Int}
    (h : (InI a1) ∧
      (((0 : Int) ≤ a1 ∧ a1 ≤ (1 : Int) →
      wp (kN 89) mX11_least Q 14 [vR 68, vI a1, vI 0] [] I R 89) ∧ (¬ ((0 : Int) ≤ a1 ∧ a1 ≤ (1 : Int)) →
      Q (vI (-1)) I R))) : wp (kN 89) mX11_least Q 0 [vR 68, vI a1, none] [] I R 89 := by
  refine wp_iload_n (pc' := 1) (q := 1) (i := 1) rfl rfl dX11_least_0 rfl ?_
  obtain ⟨h1, h⟩ := h
  refine wp_i2l (pc' := 2) h1 dX11_least_1 rfl ?_
  refine wp_lconst (pc' := 3) dX11_least_2 rfl ?_
  refine wp_lconst (pc' := 4) dX11_least_3 rfl ?_
  refine wp_callS (pc' := 7) (as := [vL a1, vL 0, vL 1]) (rest := []) (pX11_in (by decide) (inL_of h1) ⟨by decide, by decide⟩ ⟨by decide, by decide⟩) dX11_least_4 rfl lkX11_79 okX11_in stX11_in ⟨Nat.le_of_ble_eq_true rfl, Nat.le_of_ble_eq_true rfl⟩ (Nat.le_of_ble_eq_true rfl) (Nat.le_refl _) (Nat.le_refl _) okP_eq okP_eq rfl (rvZ rfl (fun x2 I2 R2 hz2 hq2 => ?_))
  obtain ⟨eR2, eI2, ex2⟩ := hq2; subst eR2; subst eI2; cases ex2
  by_cases hc : (0 : Int) ≤ a1 ∧ a1 ≤ (1 : Int)
  · rw [if_pos hc]; have h := h.1 hc
    refine wp_if_ne (pc' := 10) (tgt := 12) ⟨by decide, by decide⟩ dX11_least_7 rfl rfl (fun hc => ?_) (fun hc => by exfalso; revert hc; decide)
    refine wp_iconst (pc' := 13) dX11_least_12 rfl ?_
    refine wp_istore_n (pc' := 14) (q := 2) (i := 2) (L' := [vR 68, vI a1, vI 0]) rfl (by decide) rfl dX11_least_13 rfl rfl ?_
    exact h
  · rw [if_neg hc]; have h := h.2 hc
    refine wp_if_ne (pc' := 10) (tgt := 12) ⟨by decide, by decide⟩ dX11_least_7 rfl rfl (fun hc => by exfalso; revert hc; decide) (fun hc => ?_)
    refine wp_iconst (pc' := 11) dX11_least_10 rfl ?_
    exact wp_ireturn dX11_least_11 rfl rfl h

set_option maxRecDepth 4000 in
theorem gX11_least_14 {Q : QT} {I : II} {R : RR} (hR : SR R) {a1 : Int} {a2 : Int}
    (h : (InI a2) ∧
      (InI (I 70 0)) ∧
      (((I 70 0) ≤ a2 →
      (∃ Q3 : QT, Spec mX11_layLines [vR 68] I R 89 89 Q3 ∧ (∀ I3 R3, Q3 none I3 R3 →
      R = R3 ∧ (∃ Q4 : QT, Spec mX11_quantity [vR 68, vI (I3 74 1)] I3 R 89 89 Q4 ∧ (∀ x4 I4 R4, Q4 (vI x4) I4 R4 →
      R = R4 ∧ (InI a1) ∧
      ((¬ a1 = 0 →
      (∃ Q6 : QT, Spec mX11_gainOf [vR 68, vI x4] I4 R 89 89 Q6 ∧ (∀ x6 I6 R6, Q6 (vI x6) I6 R6 →
      R = R6 ∧ Q (vI x6) I6 R))) ∧ (a1 = 0 →
      Q (vI x4) I4 R))))))) ∧ (¬ (I 70 0) ≤ a2 →
      (∃ Q7 : QT, Spec mX11_knownOf [vR 68, vI a2] I R 89 89 Q7 ∧ (∀ x7 I7 R7, Q7 (vI x7) I7 R7 →
      R = R7 ∧ (0 ≤ a2 ∧ a2 < 20) ∧
      (∀ I9 : II, I9 = up2 I7 82 (a2.toNat) x7 →
      wp (kN 89) mX11_least Q 14 [vR 68, vI a1, vI (a2 + 1)] [] I9 R 89)))))) : wp (kN 89) mX11_least Q 14 [vR 68, vI a1, vI a2] [] I R 89 := by
  refine wp_iload_n (pc' := 15) (q := 2) (i := 2) rfl rfl dX11_least_14 rfl ?_
  refine wp_aload_n (pc' := 16) (q := 0) (i := 0) rfl rfl dX11_least_15 rfl ?_
  refine wp_getRc (pc' := 19) (k := 2) (j := 70) dX11_least_16 vc10 (by decide) rfl lfX11_13 o_68 (r_68_2 hR) rfl ?_
  refine wp_iconst (pc' := 20) dX11_least_19 rfl ?_
  refine wp_iald (pc' := 21) (j := 0) dX11_least_20 a_70 ⟨by decide, by decide⟩ rfl rfl ?_
  obtain ⟨h1, h⟩ := h
  obtain ⟨h2, h⟩ := h
  refine wp_icmp_ge (pc' := 24) (tgt := 41) h1 h2 dX11_least_21 rfl rfl (fun hc => ?_) (fun hc => ?_)
  · have h := h.1 hc
    refine wp_aload_n (pc' := 42) (q := 0) (i := 0) rfl rfl dX11_least_41 rfl ?_
    obtain ⟨Q3, hs3, h⟩ := h
    refine wp_callV (pc' := 45) (as := []) (rest := []) hs3 dX11_least_42 rfl lkX11_151 okX11_layLines inX11_layLines seX11_layLines o_68 vc10 ⟨Nat.le_of_ble_eq_true rfl, Nat.le_of_ble_eq_true rfl⟩ (Nat.le_of_ble_eq_true rfl) (Nat.le_refl _) (Nat.le_refl _) okP_eq okP_eq rfl (rvV rfl (fun I3 R3 hq3 => ?_))
    obtain ⟨hRR3, h⟩ := h I3 R3 hq3; subst hRR3
    refine wp_aload_n (pc' := 46) (q := 0) (i := 0) rfl rfl dX11_least_45 rfl ?_
    refine wp_aload_n (pc' := 47) (q := 0) (i := 0) rfl rfl dX11_least_46 rfl ?_
    refine wp_getRc (pc' := 50) (k := 6) (j := 74) dX11_least_47 vc10 (by decide) rfl lfX11_25 o_68 (r_68_6 hR) rfl ?_
    refine wp_iconst (pc' := 51) dX11_least_50 rfl ?_
    refine wp_iald (pc' := 52) (j := 1) dX11_least_51 a_74 ⟨by decide, by decide⟩ rfl rfl ?_
    obtain ⟨Q4, hs4, h⟩ := h
    refine wp_callV (pc' := 55) (as := [vI (I3 74 1)]) (rest := []) hs4 dX11_least_52 rfl lkX11_154 okX11_quantity inX11_quantity seX11_quantity o_68 vc10 ⟨Nat.le_of_ble_eq_true rfl, Nat.le_of_ble_eq_true rfl⟩ (Nat.le_of_ble_eq_true rfl) (Nat.le_refl _) (Nat.le_refl _) okP_eq okP_eq rfl (rvI rfl (fun x4 I4 R4 hq4 => ?_))
    obtain ⟨hRR4, h⟩ := h x4 I4 R4 hq4; subst hRR4
    refine wp_istore_n (pc' := 56) (q := 2) (i := 2) (L' := [vR 68, vI a1, vI x4]) rfl (by decide) rfl dX11_least_55 rfl rfl ?_
    refine wp_iload_n (pc' := 57) (q := 1) (i := 1) rfl rfl dX11_least_56 rfl ?_
    obtain ⟨h5, h⟩ := h
    refine wp_if_ne (pc' := 60) (tgt := 64) h5 dX11_least_57 rfl rfl (fun hc => ?_) (fun hc => ?_)
    · have h := h.1 hc
      refine wp_aload_n (pc' := 65) (q := 0) (i := 0) rfl rfl dX11_least_64 rfl ?_
      refine wp_iload_n (pc' := 66) (q := 2) (i := 2) rfl rfl dX11_least_65 rfl ?_
      obtain ⟨Q6, hs6, h⟩ := h
      refine wp_callV (pc' := 69) (as := [vI x4]) (rest := []) hs6 dX11_least_66 rfl lkX11_157 okX11_gainOf inX11_gainOf seX11_gainOf o_68 vc10 ⟨Nat.le_of_ble_eq_true rfl, Nat.le_of_ble_eq_true rfl⟩ (Nat.le_of_ble_eq_true rfl) (Nat.le_refl _) (Nat.le_refl _) okP_eq okP_eq rfl (rvI rfl (fun x6 I6 R6 hq6 => ?_))
      obtain ⟨hRR6, h⟩ := h x6 I6 R6 hq6; subst hRR6
      exact wp_ireturn dX11_least_69 rfl rfl h
    · have h := h.2 hc
      refine wp_iload_n (pc' := 61) (q := 2) (i := 2) rfl rfl dX11_least_60 rfl ?_
      refine wp_goto (tgt := 69) dX11_least_61 rfl ?_
      exact wp_ireturn dX11_least_69 rfl rfl h
  · have h := h.2 hc
    refine wp_aload_n (pc' := 25) (q := 0) (i := 0) rfl rfl dX11_least_24 rfl ?_
    refine wp_getRc (pc' := 28) (k := 16) (j := 82) dX11_least_25 vc10 (by decide) rfl lfX11_49 o_68 (r_68_16 hR) rfl ?_
    refine wp_iload_n (pc' := 29) (q := 2) (i := 2) rfl rfl dX11_least_28 rfl ?_
    refine wp_aload_n (pc' := 30) (q := 0) (i := 0) rfl rfl dX11_least_29 rfl ?_
    refine wp_iload_n (pc' := 31) (q := 2) (i := 2) rfl rfl dX11_least_30 rfl ?_
    obtain ⟨Q7, hs7, h⟩ := h
    refine wp_callV (pc' := 34) (as := [vI a2]) (rest := [vI a2, vR 82]) hs7 dX11_least_31 rfl lkX11_268 okX11_knownOf inX11_knownOf seX11_knownOf o_68 vc10 ⟨Nat.le_of_ble_eq_true rfl, Nat.le_of_ble_eq_true rfl⟩ (Nat.le_of_ble_eq_true rfl) (Nat.le_refl _) (Nat.le_refl _) okP_eq okP_eq rfl (rvI rfl (fun x7 I7 R7 hq7 => ?_))
    obtain ⟨hRR7, h⟩ := h x7 I7 R7 hq7; subst hRR7
    obtain ⟨h8, h⟩ := h
    obtain ⟨I9, eI9⟩ : ∃ z : II, z = up2 I7 82 (a2.toNat) x7 := ⟨_, rfl⟩
    have h := h I9 eI9
    refine wp_iast (pc' := 35) (j := a2.toNat) (I' := I9) dX11_least_34 a_82 h8 rfl rfl eI9 ?_
    refine wp_iinc (pc' := 38) (i := 2) (L' := [vR 68, vI a1, vI (a2 + 1)]) rfl (by decide) rfl dX11_least_35 rfl rfl ?_
    refine wp_goto (tgt := 14) dX11_least_38 rfl ?_
    exact h

theorem sX11_mayBe {Q : QT} {I : II} {R : RR} {a1 : Int} {a2 : Int} (h : wp (kN 89) mX11_mayBe Q 0 [vR 68, vI a1, vI a2, none, none] [] I R 89) : Spec mX11_mayBe [vR 68, vI a1, vI a2] I R 89 89 Q := Spec_of_wp pyX11_mayBe rfl (Nat.le_of_ble_eq_true rfl) (Nat.le_refl _) (by decide) h

set_option maxRecDepth 4000 in
theorem gX11_mayBe_0 {Q : QT} {I : II} {R : RR} (hR : SR R) {a1 : Int} {a2 : Int}
    (h : (0 ≤ a2 ∧ a2 < 600) ∧
      wp (kN 89) mX11_mayBe Q 10 [vR 68, vI a1, vI a2, vI (I 76 a2.toNat), vI 0] [] I R 89) : wp (kN 89) mX11_mayBe Q 0 [vR 68, vI a1, vI a2, none, none] [] I R 89 := by
  refine wp_aload_n (pc' := 1) (q := 0) (i := 0) rfl rfl dX11_mayBe_0 rfl ?_
  refine wp_getRc (pc' := 4) (k := 8) (j := 76) dX11_mayBe_1 vc10 (by decide) rfl lfX11_31 o_68 (r_68_8 hR) rfl ?_
  refine wp_iload_n (pc' := 5) (q := 2) (i := 2) rfl rfl dX11_mayBe_4 rfl ?_
  obtain ⟨h1, h⟩ := h
  refine wp_iald (pc' := 6) (j := a2.toNat) dX11_mayBe_5 a_76 h1 rfl rfl ?_
  refine wp_istore_n (pc' := 7) (q := 3) (i := 3) (L' := [vR 68, vI a1, vI a2, vI (I 76 a2.toNat), none]) rfl (by decide) rfl dX11_mayBe_6 rfl rfl ?_
  refine wp_iconst (pc' := 8) dX11_mayBe_7 rfl ?_
  refine wp_istore (pc' := 10) (i := 4) (L' := [vR 68, vI a1, vI a2, vI (I 76 a2.toNat), vI 0]) (by decide) rfl dX11_mayBe_8 rfl rfl ?_
  exact h

set_option maxRecDepth 4000 in
theorem gX11_mayBe_10 {Q : QT} {I : II} {R : RR} (hR : SR R) {a1 : Int} {a2 : Int} {a3 : Int} {a4 : Int}
    (h : (InI a4) ∧
      (((101 : Int) ≤ a4 →
      Q (vI 0) I R) ∧ (¬ (101 : Int) ≤ a4 →
      (0 ≤ a3 ∧ a3 < 40) ∧
      (0 ≤ a2 ∧ a2 < 600) ∧
      (∃ Q4 : QT, Spec mX11_shoutBy [vR 68, vI a1, vI (I 71 a3.toNat), vI (I 72 a3.toNat), vI (I 78 a2.toNat), vI (I 79 a2.toNat), vI a4] I R 89 89 Q4 ∧ (∀ x4 I4 R4, Q4 (vI x4) I4 R4 →
      R = R4 ∧ (InI x4) ∧
      (InI (I4 77 a2.toNat)) ∧
      ((¬ x4 = (I4 77 a2.toNat) →
      wp (kN 89) mX11_mayBe Q 10 [vR 68, vI a1, vI a2, vI a3, vI (a4 + 1)] [] I4 R 89) ∧ (x4 = (I4 77 a2.toNat) →
      Q (vI 1) I4 R))))))) : wp (kN 89) mX11_mayBe Q 10 [vR 68, vI a1, vI a2, vI a3, vI a4] [] I R 89 := by
  refine wp_iload (pc' := 12) (i := 4) rfl dX11_mayBe_10 rfl ?_
  refine wp_bipush (pc' := 14) (by decide) dX11_mayBe_12 rfl ?_
  obtain ⟨h1, h⟩ := h
  refine wp_icmp_ge (pc' := 17) (tgt := 65) h1 ⟨by decide, by decide⟩ dX11_mayBe_14 rfl rfl (fun hc => ?_) (fun hc => ?_)
  · have h := h.1 hc
    refine wp_iconst (pc' := 66) dX11_mayBe_65 rfl ?_
    exact wp_zreturn dX11_mayBe_66 rfl rfl (Or.inl rfl) h
  · have h := h.2 hc
    refine wp_aload_n (pc' := 18) (q := 0) (i := 0) rfl rfl dX11_mayBe_17 rfl ?_
    refine wp_iload_n (pc' := 19) (q := 1) (i := 1) rfl rfl dX11_mayBe_18 rfl ?_
    refine wp_aload_n (pc' := 20) (q := 0) (i := 0) rfl rfl dX11_mayBe_19 rfl ?_
    refine wp_getRc (pc' := 23) (k := 3) (j := 71) dX11_mayBe_20 vc10 (by decide) rfl lfX11_16 o_68 (r_68_3 hR) rfl ?_
    refine wp_iload_n (pc' := 24) (q := 3) (i := 3) rfl rfl dX11_mayBe_23 rfl ?_
    obtain ⟨h2, h⟩ := h
    refine wp_iald (pc' := 25) (j := a3.toNat) dX11_mayBe_24 a_71 h2 rfl rfl ?_
    refine wp_aload_n (pc' := 26) (q := 0) (i := 0) rfl rfl dX11_mayBe_25 rfl ?_
    refine wp_getRc (pc' := 29) (k := 4) (j := 72) dX11_mayBe_26 vc10 (by decide) rfl lfX11_19 o_68 (r_68_4 hR) rfl ?_
    refine wp_iload_n (pc' := 30) (q := 3) (i := 3) rfl rfl dX11_mayBe_29 rfl ?_
    refine wp_iald (pc' := 31) (j := a3.toNat) dX11_mayBe_30 a_72 h2 rfl rfl ?_
    refine wp_aload_n (pc' := 32) (q := 0) (i := 0) rfl rfl dX11_mayBe_31 rfl ?_
    refine wp_getRc (pc' := 35) (k := 10) (j := 78) dX11_mayBe_32 vc10 (by decide) rfl lfX11_37 o_68 (r_68_10 hR) rfl ?_
    refine wp_iload_n (pc' := 36) (q := 2) (i := 2) rfl rfl dX11_mayBe_35 rfl ?_
    obtain ⟨h3, h⟩ := h
    refine wp_iald (pc' := 37) (j := a2.toNat) dX11_mayBe_36 a_78 h3 rfl rfl ?_
    refine wp_aload_n (pc' := 38) (q := 0) (i := 0) rfl rfl dX11_mayBe_37 rfl ?_
    refine wp_getRc (pc' := 41) (k := 11) (j := 79) dX11_mayBe_38 vc10 (by decide) rfl lfX11_40 o_68 (r_68_11 hR) rfl ?_
    refine wp_iload_n (pc' := 42) (q := 2) (i := 2) rfl rfl dX11_mayBe_41 rfl ?_
    refine wp_iald (pc' := 43) (j := a2.toNat) dX11_mayBe_42 a_79 h3 rfl rfl ?_
    refine wp_iload (pc' := 45) (i := 4) rfl dX11_mayBe_43 rfl ?_
    obtain ⟨Q4, hs4, h⟩ := h
    refine wp_callV (pc' := 48) (as := [vI a1, vI (I 71 a3.toNat), vI (I 72 a3.toNat), vI (I 78 a2.toNat), vI (I 79 a2.toNat), vI a4]) (rest := []) hs4 dX11_mayBe_45 rfl lkX11_202 okX11_shoutBy inX11_shoutBy seX11_shoutBy o_68 vc10 ⟨Nat.le_of_ble_eq_true rfl, Nat.le_of_ble_eq_true rfl⟩ (Nat.le_of_ble_eq_true rfl) (Nat.le_refl _) (Nat.le_refl _) okP_eq okP_eq rfl (rvI rfl (fun x4 I4 R4 hq4 => ?_))
    obtain ⟨hRR4, h⟩ := h x4 I4 R4 hq4; subst hRR4
    refine wp_aload_n (pc' := 49) (q := 0) (i := 0) rfl rfl dX11_mayBe_48 rfl ?_
    refine wp_getRc (pc' := 52) (k := 9) (j := 77) dX11_mayBe_49 vc10 (by decide) rfl lfX11_34 o_68 (r_68_9 hR) rfl ?_
    refine wp_iload_n (pc' := 53) (q := 2) (i := 2) rfl rfl dX11_mayBe_52 rfl ?_
    refine wp_iald (pc' := 54) (j := a2.toNat) dX11_mayBe_53 a_77 h3 rfl rfl ?_
    obtain ⟨h5, h⟩ := h
    obtain ⟨h6, h⟩ := h
    refine wp_icmp_ne (pc' := 57) (tgt := 59) h5 h6 dX11_mayBe_54 rfl rfl (fun hc => ?_) (fun hc => ?_)
    · have h := h.1 hc
      refine wp_iinc (pc' := 62) (i := 4) (L' := [vR 68, vI a1, vI a2, vI a3, vI (a4 + 1)]) rfl (by decide) rfl dX11_mayBe_59 rfl rfl ?_
      refine wp_goto (tgt := 10) dX11_mayBe_62 rfl ?_
      exact h
    · have h := h.2 hc
      refine wp_iconst (pc' := 58) dX11_mayBe_57 rfl ?_
      exact wp_zreturn dX11_mayBe_58 rfl rfl (Or.inr rfl) h

theorem sX11_laws {Q : QT} {I : II} {R : RR} {a1 : Int} (h : wp (kN 89) mX11_laws Q 0 [vR 68, vI a1, none, none, none, none] [] I R 89) : Spec mX11_laws [vR 68, vI a1] I R 89 89 Q := Spec_of_wp pyX11_laws rfl (Nat.le_of_ble_eq_true rfl) (Nat.le_refl _) (by decide) h

set_option maxRecDepth 4000 in
theorem gX11_laws_0 {Q : QT} {I : II} {R : RR} (hR : SR R) {a1 : Int}
    (h : (InI a1) ∧
      (InI (I 70 0 - 1)) ∧
      ((0 ≤ a1 ∧ a1 ≤ I 70 0 - 1 →
      wp (kN 89) mX11_laws Q 14 [vR 68, vI a1, vI 0, vI 0, none, none] [] I R 89) ∧ (¬ (0 ≤ a1 ∧ a1 ≤ I 70 0 - 1) →
      Q (vI (-1)) I R))) : wp (kN 89) mX11_laws Q 0 [vR 68, vI a1, none, none, none, none] [] I R 89 := by
  refine wp_aload_n (pc' := 1) (q := 0) (i := 0) rfl rfl dX11_laws_0 rfl ?_
  refine wp_iload_n (pc' := 2) (q := 1) (i := 1) rfl rfl dX11_laws_1 rfl ?_
  obtain ⟨h2, h⟩ := h
  obtain ⟨h3, h⟩ := h
  refine wp_callV (pc' := 5) (as := [vI a1]) (rest := []) (pX11_isPerson hR h2 h3) dX11_laws_2 rfl lkX11_127 okX11_isPerson inX11_isPerson seX11_isPerson o_68 vc10 ⟨Nat.le_of_ble_eq_true rfl, Nat.le_of_ble_eq_true rfl⟩ (Nat.le_of_ble_eq_true rfl) (Nat.le_refl _) (Nat.le_refl _) okP_eq okP_eq rfl (rvZ rfl (fun x1 I1 R1 hz1 hq1 => ?_))
  obtain ⟨eR1, eI1, ex1⟩ := hq1; subst eR1; subst eI1; cases ex1
  by_cases hc : 0 ≤ a1 ∧ a1 ≤ I 70 0 - 1
  · rw [if_pos hc]; have h := h.1 hc
    refine wp_if_ne (pc' := 8) (tgt := 10) ⟨by decide, by decide⟩ dX11_laws_5 rfl rfl (fun hc => ?_) (fun hc => by exfalso; revert hc; decide)
    refine wp_iconst (pc' := 11) dX11_laws_10 rfl ?_
    refine wp_istore_n (pc' := 12) (q := 2) (i := 2) (L' := [vR 68, vI a1, vI 0, none, none, none]) rfl (by decide) rfl dX11_laws_11 rfl rfl ?_
    refine wp_iconst (pc' := 13) dX11_laws_12 rfl ?_
    refine wp_istore_n (pc' := 14) (q := 3) (i := 3) (L' := [vR 68, vI a1, vI 0, vI 0, none, none]) rfl (by decide) rfl dX11_laws_13 rfl rfl ?_
    exact h
  · rw [if_neg hc]; have h := h.2 hc
    refine wp_if_ne (pc' := 8) (tgt := 10) ⟨by decide, by decide⟩ dX11_laws_5 rfl rfl (fun hc => by exfalso; revert hc; decide) (fun hc => ?_)
    refine wp_iconst (pc' := 9) dX11_laws_8 rfl ?_
    exact wp_ireturn dX11_laws_9 rfl rfl h

set_option maxRecDepth 4000 in
theorem gX11_laws_14 {Q : QT} {I : II} {R : RR} (hR : SR R) {a1 : Int} {a2 : Int} {a3 : Int}
    (h : (InI a3) ∧
      (((6 : Int) ≤ a3 →
      Q (vI a2) I R) ∧ (¬ (6 : Int) ≤ a3 →
      wp (kN 89) mX11_laws Q 26 [vR 68, vI a1, vI a2, vI a3, vI 1, vI 0] [] I R 89))) : wp (kN 89) mX11_laws Q 14 [vR 68, vI a1, vI a2, vI a3, none, none] [] I R 89 := by
  refine wp_iload_n (pc' := 15) (q := 3) (i := 3) rfl rfl dX11_laws_14 rfl ?_
  refine wp_bipush (pc' := 17) (by decide) dX11_laws_15 rfl ?_
  obtain ⟨h1, h⟩ := h
  refine wp_icmp_ge (pc' := 20) (tgt := 97) h1 ⟨by decide, by decide⟩ dX11_laws_17 rfl rfl (fun hc => ?_) (fun hc => ?_)
  · have h := h.1 hc
    refine wp_iload_n (pc' := 98) (q := 2) (i := 2) rfl rfl dX11_laws_97 rfl ?_
    exact wp_ireturn dX11_laws_98 rfl rfl h
  · have h := h.2 hc
    refine wp_iconst (pc' := 21) dX11_laws_20 rfl ?_
    refine wp_istore (pc' := 23) (i := 4) (L' := [vR 68, vI a1, vI a2, vI a3, vI 1, none]) (by decide) rfl dX11_laws_21 rfl rfl ?_
    refine wp_iconst (pc' := 24) dX11_laws_23 rfl ?_
    refine wp_istore (pc' := 26) (i := 5) (L' := [vR 68, vI a1, vI a2, vI a3, vI 1, vI 0]) (by decide) rfl dX11_laws_24 rfl rfl ?_
    exact h

set_option maxRecDepth 4000 in
theorem gX11_laws_26 {Q : QT} {I : II} {R : RR} (hR : SR R) {a1 : Int} {a2 : Int} {a3 : Int} {a4 : Int} {a5 : Int}
    (h : (InI a5) ∧
      (InI (I 75 0)) ∧
      (((I 75 0) ≤ a5 →
      wp (kN 89) mX11_laws Q 76 [vR 68, vI a1, vI a2, vI a3, vI a4, none] [] I R 89) ∧ (¬ (I 75 0) ≤ a5 →
      (InI a4) ∧
      ((a4 = 0 →
      wp (kN 89) mX11_laws Q 76 [vR 68, vI a1, vI a2, vI a3, vI a4, none] [] I R 89) ∧ (¬ (a4 = 0) →
      (0 ≤ a5 ∧ a5 < 600) ∧
      (InI (I 76 a5.toNat)) ∧
      (InI a1) ∧
      ((¬ (I 76 a5.toNat) = a1 →
      wp (kN 89) mX11_laws Q 63 [vR 68, vI a1, vI a2, vI a3, none, vI a5] [] I R 89) ∧ ((I 76 a5.toNat) = a1 →
      (∃ Q7 : QT, Spec mX11_mayBe [vR 68, vI a3, vI a5] I R 89 89 Q7 ∧ (∀ x7 I7 R7, (x7 = 0 ∨ x7 = 1) → Q7 (vI x7) I7 R7 →
      R = R7 ∧ (InI x7) ∧
      ((x7 = 0 →
      wp (kN 89) mX11_laws Q 26 [vR 68, vI a1, vI a2, vI a3, vI 0, vI (a5 + 1)] [] I7 R 89) ∧ (¬ (x7 = 0) →
      wp (kN 89) mX11_laws Q 63 [vR 68, vI a1, vI a2, vI a3, none, vI a5] [] I7 R 89))))))))))) : wp (kN 89) mX11_laws Q 26 [vR 68, vI a1, vI a2, vI a3, vI a4, vI a5] [] I R 89 := by
  refine wp_iload (pc' := 28) (i := 5) rfl dX11_laws_26 rfl ?_
  refine wp_aload_n (pc' := 29) (q := 0) (i := 0) rfl rfl dX11_laws_28 rfl ?_
  refine wp_getRc (pc' := 32) (k := 7) (j := 75) dX11_laws_29 vc10 (by decide) rfl lfX11_28 o_68 (r_68_7 hR) rfl ?_
  refine wp_iconst (pc' := 33) dX11_laws_32 rfl ?_
  refine wp_iald (pc' := 34) (j := 0) dX11_laws_33 a_75 ⟨by decide, by decide⟩ rfl rfl ?_
  obtain ⟨h1, h⟩ := h
  obtain ⟨h2, h⟩ := h
  refine wp_icmp_ge (pc' := 37) (tgt := 76) h1 h2 dX11_laws_34 rfl rfl (fun hc => ?_) (fun hc => ?_)
  · have h := h.1 hc
    exact wp_dropP (leP_s (leP_s (leP_s (leP_s (leP_s (leP_d leP_n)))))) h
  · have h := h.2 hc
    refine wp_iload (pc' := 39) (i := 4) rfl dX11_laws_37 rfl ?_
    obtain ⟨h3, h⟩ := h
    refine wp_if_eq (pc' := 42) (tgt := 76) h3 dX11_laws_39 rfl rfl (fun hc => ?_) (fun hc => ?_)
    · have h := h.1 hc
      exact wp_dropP (leP_s (leP_s (leP_s (leP_s (leP_s (leP_d leP_n)))))) h
    · have h := h.2 hc
      refine wp_aload_n (pc' := 43) (q := 0) (i := 0) rfl rfl dX11_laws_42 rfl ?_
      refine wp_getRc (pc' := 46) (k := 8) (j := 76) dX11_laws_43 vc10 (by decide) rfl lfX11_31 o_68 (r_68_8 hR) rfl ?_
      refine wp_iload (pc' := 48) (i := 5) rfl dX11_laws_46 rfl ?_
      obtain ⟨h4, h⟩ := h
      refine wp_iald (pc' := 49) (j := a5.toNat) dX11_laws_48 a_76 h4 rfl rfl ?_
      refine wp_iload_n (pc' := 50) (q := 1) (i := 1) rfl rfl dX11_laws_49 rfl ?_
      obtain ⟨h5, h⟩ := h
      obtain ⟨h6, h⟩ := h
      refine wp_icmp_ne (pc' := 53) (tgt := 63) h5 h6 dX11_laws_50 rfl rfl (fun hc => ?_) (fun hc => ?_)
      · have h := h.1 hc
        exact wp_dropP (leP_s (leP_s (leP_s (leP_s (leP_d (leP_s leP_n)))))) h
      · have h := h.2 hc
        refine wp_aload_n (pc' := 54) (q := 0) (i := 0) rfl rfl dX11_laws_53 rfl ?_
        refine wp_iload_n (pc' := 55) (q := 3) (i := 3) rfl rfl dX11_laws_54 rfl ?_
        refine wp_iload (pc' := 57) (i := 5) rfl dX11_laws_55 rfl ?_
        obtain ⟨Q7, hs7, h⟩ := h
        refine wp_callV (pc' := 60) (as := [vI a3, vI a5]) (rest := []) hs7 dX11_laws_57 rfl lkX11_271 okX11_mayBe inX11_mayBe seX11_mayBe o_68 vc10 ⟨Nat.le_of_ble_eq_true rfl, Nat.le_of_ble_eq_true rfl⟩ (Nat.le_of_ble_eq_true rfl) (Nat.le_refl _) (Nat.le_refl _) okP_eq okP_eq rfl (rvZ rfl (fun x7 I7 R7 hz7 hq7 => ?_))
        obtain ⟨hRR7, h⟩ := h x7 I7 R7 hz7 hq7; subst hRR7
        obtain ⟨h8, h⟩ := h
        refine wp_if_eq (pc' := 63) (tgt := 67) h8 dX11_laws_60 rfl rfl (fun hc => ?_) (fun hc => ?_)
        · have h := h.1 hc
          refine wp_iconst (pc' := 68) dX11_laws_67 rfl ?_
          refine wp_istore (pc' := 70) (i := 4) (L' := [vR 68, vI a1, vI a2, vI a3, vI 0, vI a5]) (by decide) rfl dX11_laws_68 rfl rfl ?_
          refine wp_iinc (pc' := 73) (i := 5) (L' := [vR 68, vI a1, vI a2, vI a3, vI 0, vI (a5 + 1)]) rfl (by decide) rfl dX11_laws_70 rfl rfl ?_
          refine wp_goto (tgt := 26) dX11_laws_73 rfl ?_
          exact h
        · have h := h.2 hc
          exact wp_dropP (leP_s (leP_s (leP_s (leP_s (leP_d (leP_s leP_n)))))) h

set_option maxRecDepth 4000 in
theorem gX11_laws_63 {Q : QT} {I : II} {R : RR} (hR : SR R) {a1 : Int} {a2 : Int} {a3 : Int} {a5 : Int}
    (h : wp (kN 89) mX11_laws Q 26 [vR 68, vI a1, vI a2, vI a3, vI 1, vI (a5 + 1)] [] I R 89) : wp (kN 89) mX11_laws Q 63 [vR 68, vI a1, vI a2, vI a3, none, vI a5] [] I R 89 := by
  refine wp_iconst (pc' := 64) dX11_laws_63 rfl ?_
  refine wp_goto (tgt := 68) dX11_laws_64 rfl ?_
  refine wp_istore (pc' := 70) (i := 4) (L' := [vR 68, vI a1, vI a2, vI a3, vI 1, vI a5]) (by decide) rfl dX11_laws_68 rfl rfl ?_
  refine wp_iinc (pc' := 73) (i := 5) (L' := [vR 68, vI a1, vI a2, vI a3, vI 1, vI (a5 + 1)]) rfl (by decide) rfl dX11_laws_70 rfl rfl ?_
  refine wp_goto (tgt := 26) dX11_laws_73 rfl ?_
  exact h

set_option maxRecDepth 4000 in
theorem gX11_laws_76 {Q : QT} {I : II} {R : RR} (hR : SR R) {a1 : Int} {a2 : Int} {a3 : Int} {a4 : Int}
    (h : (InI a4) ∧
      ((a4 = 0 →
      wp (kN 89) mX11_laws Q 14 [vR 68, vI a1, vI (i32 a2 ||| i32 0).toInt, vI (a3 + 1), none, none] [] I R 89) ∧ (¬ (a4 = 0) →
      wp (kN 89) mX11_laws Q 14 [vR 68, vI a1, vI (i32 a2 ||| i32 ((i32 1 <<< (i32 a3 &&& 31)).toInt)).toInt, vI (a3 + 1), none, none] [] I R 89))) : wp (kN 89) mX11_laws Q 76 [vR 68, vI a1, vI a2, vI a3, vI a4, none] [] I R 89 := by
  refine wp_iload_n (pc' := 77) (q := 2) (i := 2) rfl rfl dX11_laws_76 rfl ?_
  refine wp_iload (pc' := 79) (i := 4) rfl dX11_laws_77 rfl ?_
  obtain ⟨h1, h⟩ := h
  refine wp_if_eq (pc' := 82) (tgt := 88) h1 dX11_laws_79 rfl rfl (fun hc => ?_) (fun hc => ?_)
  · have h := h.1 hc
    refine wp_iconst (pc' := 89) dX11_laws_88 rfl ?_
    refine wp_ior (pc' := 90) dX11_laws_89 rfl ?_
    refine wp_istore_n (pc' := 91) (q := 2) (i := 2) (L' := [vR 68, vI a1, vI (i32 a2 ||| i32 0).toInt, vI a3, vI a4, none]) rfl (by decide) rfl dX11_laws_90 rfl rfl ?_
    refine wp_iinc (pc' := 94) (i := 3) (L' := [vR 68, vI a1, vI (i32 a2 ||| i32 0).toInt, vI (a3 + 1), vI a4, none]) rfl (by decide) rfl dX11_laws_91 rfl rfl ?_
    refine wp_goto (tgt := 14) dX11_laws_94 rfl ?_
    exact wp_dropP (leP_s (leP_s (leP_s (leP_s (leP_d (leP_s leP_n)))))) h
  · have h := h.2 hc
    refine wp_iconst (pc' := 83) dX11_laws_82 rfl ?_
    refine wp_iload_n (pc' := 84) (q := 3) (i := 3) rfl rfl dX11_laws_83 rfl ?_
    refine wp_ishl (pc' := 85) dX11_laws_84 rfl ?_
    refine wp_goto (tgt := 89) dX11_laws_85 rfl ?_
    refine wp_ior (pc' := 90) dX11_laws_89 rfl ?_
    refine wp_istore_n (pc' := 91) (q := 2) (i := 2) (L' := [vR 68, vI a1, vI (i32 a2 ||| i32 ((i32 1 <<< (i32 a3 &&& 31)).toInt)).toInt, vI a3, vI a4, none]) rfl (by decide) rfl dX11_laws_90 rfl rfl ?_
    refine wp_iinc (pc' := 94) (i := 3) (L' := [vR 68, vI a1, vI (i32 a2 ||| i32 ((i32 1 <<< (i32 a3 &&& 31)).toInt)).toInt, vI (a3 + 1), vI a4, none]) rfl (by decide) rfl dX11_laws_91 rfl rfl ?_
    refine wp_goto (tgt := 14) dX11_laws_94 rfl ?_
    exact wp_dropP (leP_s (leP_s (leP_s (leP_s (leP_d (leP_s leP_n)))))) h

theorem sX11_layRooms {Q : QT} {I : II} {R : RR} {a1 : Int} (h : wp (kN 89) mX11_layRooms Q 0 [vR 68, vI a1, none, none] [] I R 89) : Spec mX11_layRooms [vR 68, vI a1] I R 89 89 Q := Spec_of_wp pyX11_layRooms rfl (Nat.le_of_ble_eq_true rfl) (Nat.le_refl _) (by decide) h

set_option maxRecDepth 4000 in
theorem gX11_layRooms_0 {Q : QT} {I : II} {R : RR} (hR : SR R) {a1 : Int}
    (h : (∃ Q1 : QT, Spec mX11_showTrue [vR 68] I R 89 89 Q1 ∧ (∀ I1 R1, Q1 none I1 R1 →
      R = R1 ∧ (∃ Q2 : QT, Spec mX11_layLines [vR 68] I1 R 89 89 Q2 ∧ (∀ I2 R2, Q2 none I2 R2 →
      R = R2 ∧ wp (kN 89) mX11_layRooms Q 10 [vR 68, vI a1, vI 0, none] [] I2 R 89))))) : wp (kN 89) mX11_layRooms Q 0 [vR 68, vI a1, none, none] [] I R 89 := by
  refine wp_aload_n (pc' := 1) (q := 0) (i := 0) rfl rfl dX11_layRooms_0 rfl ?_
  obtain ⟨Q1, hs1, h⟩ := h
  refine wp_callV (pc' := 4) (as := []) (rest := []) hs1 dX11_layRooms_1 rfl lkX11_148 okX11_showTrue inX11_showTrue seX11_showTrue o_68 vc10 ⟨Nat.le_of_ble_eq_true rfl, Nat.le_of_ble_eq_true rfl⟩ (Nat.le_of_ble_eq_true rfl) (Nat.le_refl _) (Nat.le_refl _) okP_eq okP_eq rfl (rvV rfl (fun I1 R1 hq1 => ?_))
  obtain ⟨hRR1, h⟩ := h I1 R1 hq1; subst hRR1
  refine wp_aload_n (pc' := 5) (q := 0) (i := 0) rfl rfl dX11_layRooms_4 rfl ?_
  obtain ⟨Q2, hs2, h⟩ := h
  refine wp_callV (pc' := 8) (as := []) (rest := []) hs2 dX11_layRooms_5 rfl lkX11_151 okX11_layLines inX11_layLines seX11_layLines o_68 vc10 ⟨Nat.le_of_ble_eq_true rfl, Nat.le_of_ble_eq_true rfl⟩ (Nat.le_of_ble_eq_true rfl) (Nat.le_refl _) (Nat.le_refl _) okP_eq okP_eq rfl (rvV rfl (fun I2 R2 hq2 => ?_))
  obtain ⟨hRR2, h⟩ := h I2 R2 hq2; subst hRR2
  refine wp_iconst (pc' := 9) dX11_layRooms_8 rfl ?_
  refine wp_istore_n (pc' := 10) (q := 2) (i := 2) (L' := [vR 68, vI a1, vI 0, none]) rfl (by decide) rfl dX11_layRooms_9 rfl rfl ?_
  exact h

set_option maxRecDepth 4000 in
theorem gX11_layRooms_10 {Q : QT} {I : II} {R : RR} (hR : SR R) {a1 : Int} {a2 : Int}
    (h : (InI a2) ∧
      (((2 : Int) ≤ a2 →
      Q none I R) ∧ (¬ (2 : Int) ≤ a2 →
      (0 ≤ (2 * a2) ∧ (2 * a2) < 4) ∧
      (∀ I3 : II, I3 = up2 I 89 ((2 * a2).toNat) 0 →
      (0 ≤ ((2 * a2) + 1) ∧ ((2 * a2) + 1) < 4) ∧
      (∀ I5 : II, I5 = up2 I3 89 (((2 * a2) + 1).toNat) 0 →
      (0 ≤ (22 * a2) ∧ (22 * a2) < 44) ∧
      (∀ I7 : II, I7 = up2 I5 88 ((22 * a2).toNat) 0 →
      (0 ≤ ((22 * a2) + 11) ∧ ((22 * a2) + 11) < 44) ∧
      (∀ I9 : II, I9 = up2 I7 88 (((22 * a2) + 11).toNat) 0 →
      wp (kN 89) mX11_layRooms Q 60 [vR 68, vI a1, vI a2, vI 0] [] I9 R 89))))))) : wp (kN 89) mX11_layRooms Q 10 [vR 68, vI a1, vI a2, none] [] I R 89 := by
  refine wp_iload_n (pc' := 11) (q := 2) (i := 2) rfl rfl dX11_layRooms_10 rfl ?_
  refine wp_iconst (pc' := 12) dX11_layRooms_11 rfl ?_
  obtain ⟨h1, h⟩ := h
  refine wp_icmp_ge (pc' := 15) (tgt := 246) h1 ⟨by decide, by decide⟩ dX11_layRooms_12 rfl rfl (fun hc => ?_) (fun hc => ?_)
  · have h := h.1 hc
    exact wp_vreturn dX11_layRooms_246 rfl rfl h
  · have h := h.2 hc
    refine wp_aload_n (pc' := 16) (q := 0) (i := 0) rfl rfl dX11_layRooms_15 rfl ?_
    refine wp_getRc (pc' := 19) (k := 33) (j := 89) dX11_layRooms_16 vc10 (by decide) rfl lfX11_70 o_68 (r_68_33 hR) rfl ?_
    refine wp_iconst (pc' := 20) dX11_layRooms_19 rfl ?_
    refine wp_iload_n (pc' := 21) (q := 2) (i := 2) rfl rfl dX11_layRooms_20 rfl ?_
    refine wp_imul (pc' := 22) dX11_layRooms_21 rfl ?_
    refine wp_iconst (pc' := 23) dX11_layRooms_22 rfl ?_
    obtain ⟨h2, h⟩ := h
    obtain ⟨I3, eI3⟩ : ∃ z : II, z = up2 I 89 ((2 * a2).toNat) 0 := ⟨_, rfl⟩
    have h := h I3 eI3
    refine wp_iast (pc' := 24) (j := (2 * a2).toNat) (I' := I3) dX11_layRooms_23 a_89 h2 rfl rfl eI3 ?_
    refine wp_aload_n (pc' := 25) (q := 0) (i := 0) rfl rfl dX11_layRooms_24 rfl ?_
    refine wp_getRc (pc' := 28) (k := 33) (j := 89) dX11_layRooms_25 vc10 (by decide) rfl lfX11_70 o_68 (r_68_33 hR) rfl ?_
    refine wp_iconst (pc' := 29) dX11_layRooms_28 rfl ?_
    refine wp_iload_n (pc' := 30) (q := 2) (i := 2) rfl rfl dX11_layRooms_29 rfl ?_
    refine wp_imul (pc' := 31) dX11_layRooms_30 rfl ?_
    refine wp_iconst (pc' := 32) dX11_layRooms_31 rfl ?_
    refine wp_iadd (pc' := 33) dX11_layRooms_32 rfl ?_
    refine wp_iconst (pc' := 34) dX11_layRooms_33 rfl ?_
    obtain ⟨h4, h⟩ := h
    obtain ⟨I5, eI5⟩ : ∃ z : II, z = up2 I3 89 (((2 * a2) + 1).toNat) 0 := ⟨_, rfl⟩
    have h := h I5 eI5
    refine wp_iast (pc' := 35) (j := ((2 * a2) + 1).toNat) (I' := I5) dX11_layRooms_34 a_89 h4 rfl rfl eI5 ?_
    refine wp_aload_n (pc' := 36) (q := 0) (i := 0) rfl rfl dX11_layRooms_35 rfl ?_
    refine wp_getRc (pc' := 39) (k := 32) (j := 88) dX11_layRooms_36 vc10 (by decide) rfl lfX11_67 o_68 (r_68_32 hR) rfl ?_
    refine wp_bipush (pc' := 41) (by decide) dX11_layRooms_39 rfl ?_
    refine wp_iload_n (pc' := 42) (q := 2) (i := 2) rfl rfl dX11_layRooms_41 rfl ?_
    refine wp_imul (pc' := 43) dX11_layRooms_42 rfl ?_
    refine wp_iconst (pc' := 44) dX11_layRooms_43 rfl ?_
    obtain ⟨h6, h⟩ := h
    obtain ⟨I7, eI7⟩ : ∃ z : II, z = up2 I5 88 ((22 * a2).toNat) 0 := ⟨_, rfl⟩
    have h := h I7 eI7
    refine wp_iast (pc' := 45) (j := (22 * a2).toNat) (I' := I7) dX11_layRooms_44 a_88 h6 rfl rfl eI7 ?_
    refine wp_aload_n (pc' := 46) (q := 0) (i := 0) rfl rfl dX11_layRooms_45 rfl ?_
    refine wp_getRc (pc' := 49) (k := 32) (j := 88) dX11_layRooms_46 vc10 (by decide) rfl lfX11_67 o_68 (r_68_32 hR) rfl ?_
    refine wp_bipush (pc' := 51) (by decide) dX11_layRooms_49 rfl ?_
    refine wp_iload_n (pc' := 52) (q := 2) (i := 2) rfl rfl dX11_layRooms_51 rfl ?_
    refine wp_imul (pc' := 53) dX11_layRooms_52 rfl ?_
    refine wp_bipush (pc' := 55) (by decide) dX11_layRooms_53 rfl ?_
    refine wp_iadd (pc' := 56) dX11_layRooms_55 rfl ?_
    refine wp_iconst (pc' := 57) dX11_layRooms_56 rfl ?_
    obtain ⟨h8, h⟩ := h
    obtain ⟨I9, eI9⟩ : ∃ z : II, z = up2 I7 88 (((22 * a2) + 11).toNat) 0 := ⟨_, rfl⟩
    have h := h I9 eI9
    refine wp_iast (pc' := 58) (j := ((22 * a2) + 11).toNat) (I' := I9) dX11_layRooms_57 a_88 h8 rfl rfl eI9 ?_
    refine wp_iconst (pc' := 59) dX11_layRooms_58 rfl ?_
    refine wp_istore_n (pc' := 60) (q := 3) (i := 3) (L' := [vR 68, vI a1, vI a2, vI 0]) rfl (by decide) rfl dX11_layRooms_59 rfl rfl ?_
    exact h

set_option maxRecDepth 4000 in
theorem gX11_layRooms_60 {Q : QT} {I : II} {R : RR} (hR : SR R) {a1 : Int} {a2 : Int} {a3 : Int}
    (h : (InI a3) ∧
      (InI (I 68 19)) ∧
      (((I 68 19) ≤ a3 →
      wp (kN 89) mX11_layRooms Q 146 [vR 68, vI a1, vI a2, vI 0] [] I R 89) ∧ (¬ (I 68 19) ≤ a3 →
      (0 ≤ a3 ∧ a3 < 10) ∧
      (InI ((i32 ((i32 a1 >>> (i32 (I 83 a3.toNat) &&& 31)).toInt) &&& i32 1).toInt)) ∧
      (InI a2) ∧
      ((¬ (i32 ((i32 a1 >>> (i32 (I 83 a3.toNat) &&& 31)).toInt) &&& i32 1).toInt = a2 →
      wp (kN 89) mX11_layRooms Q 138 [vR 68, vI a1, vI a2, vI a3] [] I R 89) ∧ ((i32 ((i32 a1 >>> (i32 (I 83 a3.toNat) &&& 31)).toInt) &&& i32 1).toInt = a2 →
      (0 ≤ (2 * a2) ∧ (2 * a2) < 4) ∧
      (∀ I7 : II, I7 = up2 I 89 ((2 * a2).toNat) ((I 89 (2 * a2).toNat) + 1) →
      (0 ≤ (((22 * a2) + (I7 89 (2 * a2).toNat)) - 1) ∧ (((22 * a2) + (I7 89 (2 * a2).toNat)) - 1) < 44) ∧
      (0 ≤ I7 83 (a3).toNat ∧ I7 83 (a3).toNat < 20) ∧
      (0 ≤ ((22 * a2) + (I7 89 (2 * a2).toNat)) ∧ ((22 * a2) + (I7 89 (2 * a2).toNat)) < 44) ∧
      (∀ I12 : II, I12 = up2 I7 88 (((22 * a2) + (I7 89 (2 * a2).toNat)).toNat) ((I7 88 (((22 * a2) + (I7 89 (2 * a2).toNat)) - 1).toNat) + (I7 82 (I7 83 (a3).toNat).toNat)) →
      wp (kN 89) mX11_layRooms Q 138 [vR 68, vI a1, vI a2, vI a3] [] I12 R 89))))))) : wp (kN 89) mX11_layRooms Q 60 [vR 68, vI a1, vI a2, vI a3] [] I R 89 := by
  refine wp_iload_n (pc' := 61) (q := 3) (i := 3) rfl rfl dX11_layRooms_60 rfl ?_
  refine wp_aload_n (pc' := 62) (q := 0) (i := 0) rfl rfl dX11_layRooms_61 rfl ?_
  refine wp_getI (pc' := 65) (k := 19) dX11_layRooms_62 vc10 (by decide) rfl lfX11_134 o_68 rfl ?_
  obtain ⟨h1, h⟩ := h
  obtain ⟨h2, h⟩ := h
  refine wp_icmp_ge (pc' := 68) (tgt := 144) h1 h2 dX11_layRooms_65 rfl rfl (fun hc => ?_) (fun hc => ?_)
  · have h := h.1 hc
    refine wp_iconst (pc' := 145) dX11_layRooms_144 rfl ?_
    refine wp_istore_n (pc' := 146) (q := 3) (i := 3) (L' := [vR 68, vI a1, vI a2, vI 0]) rfl (by decide) rfl dX11_layRooms_145 rfl rfl ?_
    exact h
  · have h := h.2 hc
    refine wp_iload_n (pc' := 69) (q := 1) (i := 1) rfl rfl dX11_layRooms_68 rfl ?_
    refine wp_aload_n (pc' := 70) (q := 0) (i := 0) rfl rfl dX11_layRooms_69 rfl ?_
    refine wp_getRc (pc' := 73) (k := 17) (j := 83) dX11_layRooms_70 vc10 (by decide) rfl lfX11_52 o_68 (r_68_17 hR) rfl ?_
    refine wp_iload_n (pc' := 74) (q := 3) (i := 3) rfl rfl dX11_layRooms_73 rfl ?_
    obtain ⟨h3, h⟩ := h
    refine wp_iald (pc' := 75) (j := a3.toNat) dX11_layRooms_74 a_83 h3 rfl rfl ?_
    refine wp_ishr (pc' := 76) dX11_layRooms_75 rfl ?_
    refine wp_iconst (pc' := 77) dX11_layRooms_76 rfl ?_
    refine wp_iand (pc' := 78) dX11_layRooms_77 rfl ?_
    refine wp_iload_n (pc' := 79) (q := 2) (i := 2) rfl rfl dX11_layRooms_78 rfl ?_
    obtain ⟨h4, h⟩ := h
    obtain ⟨h5, h⟩ := h
    refine wp_icmp_ne (pc' := 82) (tgt := 138) h4 h5 dX11_layRooms_79 rfl rfl (fun hc => ?_) (fun hc => ?_)
    · have h := h.1 hc
      exact h
    · have h := h.2 hc
      refine wp_aload_n (pc' := 83) (q := 0) (i := 0) rfl rfl dX11_layRooms_82 rfl ?_
      refine wp_getRc (pc' := 86) (k := 33) (j := 89) dX11_layRooms_83 vc10 (by decide) rfl lfX11_70 o_68 (r_68_33 hR) rfl ?_
      refine wp_iconst (pc' := 87) dX11_layRooms_86 rfl ?_
      refine wp_iload_n (pc' := 88) (q := 2) (i := 2) rfl rfl dX11_layRooms_87 rfl ?_
      refine wp_imul (pc' := 89) dX11_layRooms_88 rfl ?_
      refine wp_dup2 (pc' := 90) dX11_layRooms_89 rfl ?_
      obtain ⟨h6, h⟩ := h
      refine wp_iald (pc' := 91) (j := (2 * a2).toNat) dX11_layRooms_90 a_89 h6 rfl rfl ?_
      refine wp_iconst (pc' := 92) dX11_layRooms_91 rfl ?_
      refine wp_iadd (pc' := 93) dX11_layRooms_92 rfl ?_
      obtain ⟨I7, eI7⟩ : ∃ z : II, z = up2 I 89 ((2 * a2).toNat) ((I 89 (2 * a2).toNat) + 1) := ⟨_, rfl⟩
      have h := h I7 eI7
      refine wp_iast (pc' := 94) (j := (2 * a2).toNat) (I' := I7) dX11_layRooms_93 a_89 h6 rfl rfl eI7 ?_
      refine wp_aload_n (pc' := 95) (q := 0) (i := 0) rfl rfl dX11_layRooms_94 rfl ?_
      refine wp_getRc (pc' := 98) (k := 32) (j := 88) dX11_layRooms_95 vc10 (by decide) rfl lfX11_67 o_68 (r_68_32 hR) rfl ?_
      refine wp_bipush (pc' := 100) (by decide) dX11_layRooms_98 rfl ?_
      refine wp_iload_n (pc' := 101) (q := 2) (i := 2) rfl rfl dX11_layRooms_100 rfl ?_
      refine wp_imul (pc' := 102) dX11_layRooms_101 rfl ?_
      refine wp_aload_n (pc' := 103) (q := 0) (i := 0) rfl rfl dX11_layRooms_102 rfl ?_
      refine wp_getRc (pc' := 106) (k := 33) (j := 89) dX11_layRooms_103 vc10 (by decide) rfl lfX11_70 o_68 (r_68_33 hR) rfl ?_
      refine wp_iconst (pc' := 107) dX11_layRooms_106 rfl ?_
      refine wp_iload_n (pc' := 108) (q := 2) (i := 2) rfl rfl dX11_layRooms_107 rfl ?_
      refine wp_imul (pc' := 109) dX11_layRooms_108 rfl ?_
      refine wp_iald (pc' := 110) (j := (2 * a2).toNat) dX11_layRooms_109 a_89 h6 rfl rfl ?_
      refine wp_iadd (pc' := 111) dX11_layRooms_110 rfl ?_
      refine wp_aload_n (pc' := 112) (q := 0) (i := 0) rfl rfl dX11_layRooms_111 rfl ?_
      refine wp_getRc (pc' := 115) (k := 32) (j := 88) dX11_layRooms_112 vc10 (by decide) rfl lfX11_67 o_68 (r_68_32 hR) rfl ?_
      refine wp_bipush (pc' := 117) (by decide) dX11_layRooms_115 rfl ?_
      refine wp_iload_n (pc' := 118) (q := 2) (i := 2) rfl rfl dX11_layRooms_117 rfl ?_
      refine wp_imul (pc' := 119) dX11_layRooms_118 rfl ?_
      refine wp_aload_n (pc' := 120) (q := 0) (i := 0) rfl rfl dX11_layRooms_119 rfl ?_
      refine wp_getRc (pc' := 123) (k := 33) (j := 89) dX11_layRooms_120 vc10 (by decide) rfl lfX11_70 o_68 (r_68_33 hR) rfl ?_
      refine wp_iconst (pc' := 124) dX11_layRooms_123 rfl ?_
      refine wp_iload_n (pc' := 125) (q := 2) (i := 2) rfl rfl dX11_layRooms_124 rfl ?_
      refine wp_imul (pc' := 126) dX11_layRooms_125 rfl ?_
      refine wp_iald (pc' := 127) (j := (2 * a2).toNat) dX11_layRooms_126 a_89 h6 rfl rfl ?_
      refine wp_iadd (pc' := 128) dX11_layRooms_127 rfl ?_
      refine wp_iconst (pc' := 129) dX11_layRooms_128 rfl ?_
      refine wp_isub (pc' := 130) dX11_layRooms_129 rfl ?_
      obtain ⟨h8, h⟩ := h
      refine wp_iald (pc' := 131) (j := (((22 * a2) + (I7 89 (2 * a2).toNat)) - 1).toNat) dX11_layRooms_130 a_88 h8 rfl rfl ?_
      refine wp_aload_n (pc' := 132) (q := 0) (i := 0) rfl rfl dX11_layRooms_131 rfl ?_
      refine wp_iload_n (pc' := 133) (q := 3) (i := 3) rfl rfl dX11_layRooms_132 rfl ?_
      obtain ⟨h10, h⟩ := h
      refine wp_callV (pc' := 136) (as := [vI a3]) (rest := [vI (I7 88 (((22 * a2) + (I7 89 (2 * a2).toNat)) - 1).toNat), vI ((22 * a2) + (I7 89 (2 * a2).toNat)), vR 88]) (pX11_worth hR h3 h10) dX11_layRooms_133 rfl lkX11_140 okX11_worth inX11_worth seX11_worth o_68 vc10 ⟨Nat.le_of_ble_eq_true rfl, Nat.le_of_ble_eq_true rfl⟩ (Nat.le_of_ble_eq_true rfl) (Nat.le_refl _) (Nat.le_refl _) okP_eq okP_eq rfl (rvI rfl (fun x9 I9 R9 hq9 => ?_))
      obtain ⟨eR9, eI9, ex9⟩ := hq9; subst eR9; subst eI9; cases ex9
      refine wp_iadd (pc' := 137) dX11_layRooms_136 rfl ?_
      obtain ⟨h11, h⟩ := h
      obtain ⟨I12, eI12⟩ : ∃ z : II, z = up2 I7 88 (((22 * a2) + (I7 89 (2 * a2).toNat)).toNat) ((I7 88 (((22 * a2) + (I7 89 (2 * a2).toNat)) - 1).toNat) + (I7 82 (I7 83 (a3).toNat).toNat)) := ⟨_, rfl⟩
      have h := h I12 eI12
      refine wp_iast (pc' := 138) (j := ((22 * a2) + (I7 89 (2 * a2).toNat)).toNat) (I' := I12) dX11_layRooms_137 a_88 h11 rfl rfl eI12 ?_
      exact h

set_option maxRecDepth 4000 in
theorem gX11_layRooms_138 {Q : QT} {I : II} {R : RR} (hR : SR R) {a1 : Int} {a2 : Int} {a3 : Int}
    (h : wp (kN 89) mX11_layRooms Q 60 [vR 68, vI a1, vI a2, vI (a3 + 1)] [] I R 89) : wp (kN 89) mX11_layRooms Q 138 [vR 68, vI a1, vI a2, vI a3] [] I R 89 := by
  refine wp_iinc (pc' := 141) (i := 3) (L' := [vR 68, vI a1, vI a2, vI (a3 + 1)]) rfl (by decide) rfl dX11_layRooms_138 rfl rfl ?_
  refine wp_goto (tgt := 60) dX11_layRooms_141 rfl ?_
  exact h

set_option maxRecDepth 4000 in
theorem gX11_layRooms_146 {Q : QT} {I : II} {R : RR} (hR : SR R) {a1 : Int} {a2 : Int} {a3 : Int}
    (h : (InI a3) ∧
      (InI (I 68 20)) ∧
      (((I 68 20) ≤ a3 →
      wp (kN 89) mX11_layRooms Q 10 [vR 68, vI a1, vI (a2 + 1), none] [] I R 89) ∧ (¬ (I 68 20) ≤ a3 →
      (0 ≤ a3 ∧ a3 < 10) ∧
      (InI ((i32 ((i32 a1 >>> (i32 (I 84 a3.toNat) &&& 31)).toInt) &&& i32 1).toInt)) ∧
      (InI a2) ∧
      ((¬ (i32 ((i32 a1 >>> (i32 (I 84 a3.toNat) &&& 31)).toInt) &&& i32 1).toInt = a2 →
      wp (kN 89) mX11_layRooms Q 234 [vR 68, vI a1, vI a2, vI a3] [] I R 89) ∧ ((i32 ((i32 a1 >>> (i32 (I 84 a3.toNat) &&& 31)).toInt) &&& i32 1).toInt = a2 →
      (0 ≤ ((2 * a2) + 1) ∧ ((2 * a2) + 1) < 4) ∧
      (∀ I7 : II, I7 = up2 I 89 (((2 * a2) + 1).toNat) ((I 89 ((2 * a2) + 1).toNat) + 1) →
      (0 ≤ (((22 * a2) + 10) + (I7 89 ((2 * a2) + 1).toNat)) ∧ (((22 * a2) + 10) + (I7 89 ((2 * a2) + 1).toNat)) < 44) ∧
      (0 ≤ I7 84 (a3).toNat ∧ I7 84 (a3).toNat < 20) ∧
      (0 ≤ (((22 * a2) + 11) + (I7 89 ((2 * a2) + 1).toNat)) ∧ (((22 * a2) + 11) + (I7 89 ((2 * a2) + 1).toNat)) < 44) ∧
      (∀ I12 : II, I12 = up2 I7 88 ((((22 * a2) + 11) + (I7 89 ((2 * a2) + 1).toNat)).toNat) ((I7 88 (((22 * a2) + 10) + (I7 89 ((2 * a2) + 1).toNat)).toNat) + (I7 82 (I7 84 (a3).toNat).toNat)) →
      wp (kN 89) mX11_layRooms Q 234 [vR 68, vI a1, vI a2, vI a3] [] I12 R 89))))))) : wp (kN 89) mX11_layRooms Q 146 [vR 68, vI a1, vI a2, vI a3] [] I R 89 := by
  refine wp_iload_n (pc' := 147) (q := 3) (i := 3) rfl rfl dX11_layRooms_146 rfl ?_
  refine wp_aload_n (pc' := 148) (q := 0) (i := 0) rfl rfl dX11_layRooms_147 rfl ?_
  refine wp_getI (pc' := 151) (k := 20) dX11_layRooms_148 vc10 (by decide) rfl lfX11_137 o_68 rfl ?_
  obtain ⟨h1, h⟩ := h
  obtain ⟨h2, h⟩ := h
  refine wp_icmp_ge (pc' := 154) (tgt := 240) h1 h2 dX11_layRooms_151 rfl rfl (fun hc => ?_) (fun hc => ?_)
  · have h := h.1 hc
    refine wp_iinc (pc' := 243) (i := 2) (L' := [vR 68, vI a1, vI (a2 + 1), vI a3]) rfl (by decide) rfl dX11_layRooms_240 rfl rfl ?_
    refine wp_goto (tgt := 10) dX11_layRooms_243 rfl ?_
    exact wp_dropP (leP_s (leP_s (leP_s (leP_d leP_n)))) h
  · have h := h.2 hc
    refine wp_iload_n (pc' := 155) (q := 1) (i := 1) rfl rfl dX11_layRooms_154 rfl ?_
    refine wp_aload_n (pc' := 156) (q := 0) (i := 0) rfl rfl dX11_layRooms_155 rfl ?_
    refine wp_getRc (pc' := 159) (k := 18) (j := 84) dX11_layRooms_156 vc10 (by decide) rfl lfX11_55 o_68 (r_68_18 hR) rfl ?_
    refine wp_iload_n (pc' := 160) (q := 3) (i := 3) rfl rfl dX11_layRooms_159 rfl ?_
    obtain ⟨h3, h⟩ := h
    refine wp_iald (pc' := 161) (j := a3.toNat) dX11_layRooms_160 a_84 h3 rfl rfl ?_
    refine wp_ishr (pc' := 162) dX11_layRooms_161 rfl ?_
    refine wp_iconst (pc' := 163) dX11_layRooms_162 rfl ?_
    refine wp_iand (pc' := 164) dX11_layRooms_163 rfl ?_
    refine wp_iload_n (pc' := 165) (q := 2) (i := 2) rfl rfl dX11_layRooms_164 rfl ?_
    obtain ⟨h4, h⟩ := h
    obtain ⟨h5, h⟩ := h
    refine wp_icmp_ne (pc' := 168) (tgt := 234) h4 h5 dX11_layRooms_165 rfl rfl (fun hc => ?_) (fun hc => ?_)
    · have h := h.1 hc
      exact h
    · have h := h.2 hc
      refine wp_aload_n (pc' := 169) (q := 0) (i := 0) rfl rfl dX11_layRooms_168 rfl ?_
      refine wp_getRc (pc' := 172) (k := 33) (j := 89) dX11_layRooms_169 vc10 (by decide) rfl lfX11_70 o_68 (r_68_33 hR) rfl ?_
      refine wp_iconst (pc' := 173) dX11_layRooms_172 rfl ?_
      refine wp_iload_n (pc' := 174) (q := 2) (i := 2) rfl rfl dX11_layRooms_173 rfl ?_
      refine wp_imul (pc' := 175) dX11_layRooms_174 rfl ?_
      refine wp_iconst (pc' := 176) dX11_layRooms_175 rfl ?_
      refine wp_iadd (pc' := 177) dX11_layRooms_176 rfl ?_
      refine wp_dup2 (pc' := 178) dX11_layRooms_177 rfl ?_
      obtain ⟨h6, h⟩ := h
      refine wp_iald (pc' := 179) (j := ((2 * a2) + 1).toNat) dX11_layRooms_178 a_89 h6 rfl rfl ?_
      refine wp_iconst (pc' := 180) dX11_layRooms_179 rfl ?_
      refine wp_iadd (pc' := 181) dX11_layRooms_180 rfl ?_
      obtain ⟨I7, eI7⟩ : ∃ z : II, z = up2 I 89 (((2 * a2) + 1).toNat) ((I 89 ((2 * a2) + 1).toNat) + 1) := ⟨_, rfl⟩
      have h := h I7 eI7
      refine wp_iast (pc' := 182) (j := ((2 * a2) + 1).toNat) (I' := I7) dX11_layRooms_181 a_89 h6 rfl rfl eI7 ?_
      refine wp_aload_n (pc' := 183) (q := 0) (i := 0) rfl rfl dX11_layRooms_182 rfl ?_
      refine wp_getRc (pc' := 186) (k := 32) (j := 88) dX11_layRooms_183 vc10 (by decide) rfl lfX11_67 o_68 (r_68_32 hR) rfl ?_
      refine wp_bipush (pc' := 188) (by decide) dX11_layRooms_186 rfl ?_
      refine wp_iload_n (pc' := 189) (q := 2) (i := 2) rfl rfl dX11_layRooms_188 rfl ?_
      refine wp_imul (pc' := 190) dX11_layRooms_189 rfl ?_
      refine wp_bipush (pc' := 192) (by decide) dX11_layRooms_190 rfl ?_
      refine wp_iadd (pc' := 193) dX11_layRooms_192 rfl ?_
      refine wp_aload_n (pc' := 194) (q := 0) (i := 0) rfl rfl dX11_layRooms_193 rfl ?_
      refine wp_getRc (pc' := 197) (k := 33) (j := 89) dX11_layRooms_194 vc10 (by decide) rfl lfX11_70 o_68 (r_68_33 hR) rfl ?_
      refine wp_iconst (pc' := 198) dX11_layRooms_197 rfl ?_
      refine wp_iload_n (pc' := 199) (q := 2) (i := 2) rfl rfl dX11_layRooms_198 rfl ?_
      refine wp_imul (pc' := 200) dX11_layRooms_199 rfl ?_
      refine wp_iconst (pc' := 201) dX11_layRooms_200 rfl ?_
      refine wp_iadd (pc' := 202) dX11_layRooms_201 rfl ?_
      refine wp_iald (pc' := 203) (j := ((2 * a2) + 1).toNat) dX11_layRooms_202 a_89 h6 rfl rfl ?_
      refine wp_iadd (pc' := 204) dX11_layRooms_203 rfl ?_
      refine wp_aload_n (pc' := 205) (q := 0) (i := 0) rfl rfl dX11_layRooms_204 rfl ?_
      refine wp_getRc (pc' := 208) (k := 32) (j := 88) dX11_layRooms_205 vc10 (by decide) rfl lfX11_67 o_68 (r_68_32 hR) rfl ?_
      refine wp_bipush (pc' := 210) (by decide) dX11_layRooms_208 rfl ?_
      refine wp_iload_n (pc' := 211) (q := 2) (i := 2) rfl rfl dX11_layRooms_210 rfl ?_
      refine wp_imul (pc' := 212) dX11_layRooms_211 rfl ?_
      refine wp_bipush (pc' := 214) (by decide) dX11_layRooms_212 rfl ?_
      refine wp_iadd (pc' := 215) dX11_layRooms_214 rfl ?_
      refine wp_aload_n (pc' := 216) (q := 0) (i := 0) rfl rfl dX11_layRooms_215 rfl ?_
      refine wp_getRc (pc' := 219) (k := 33) (j := 89) dX11_layRooms_216 vc10 (by decide) rfl lfX11_70 o_68 (r_68_33 hR) rfl ?_
      refine wp_iconst (pc' := 220) dX11_layRooms_219 rfl ?_
      refine wp_iload_n (pc' := 221) (q := 2) (i := 2) rfl rfl dX11_layRooms_220 rfl ?_
      refine wp_imul (pc' := 222) dX11_layRooms_221 rfl ?_
      refine wp_iconst (pc' := 223) dX11_layRooms_222 rfl ?_
      refine wp_iadd (pc' := 224) dX11_layRooms_223 rfl ?_
      refine wp_iald (pc' := 225) (j := ((2 * a2) + 1).toNat) dX11_layRooms_224 a_89 h6 rfl rfl ?_
      refine wp_iadd (pc' := 226) dX11_layRooms_225 rfl ?_
      obtain ⟨h8, h⟩ := h
      refine wp_iald (pc' := 227) (j := (((22 * a2) + 10) + (I7 89 ((2 * a2) + 1).toNat)).toNat) dX11_layRooms_226 a_88 h8 rfl rfl ?_
      refine wp_aload_n (pc' := 228) (q := 0) (i := 0) rfl rfl dX11_layRooms_227 rfl ?_
      refine wp_iload_n (pc' := 229) (q := 3) (i := 3) rfl rfl dX11_layRooms_228 rfl ?_
      obtain ⟨h10, h⟩ := h
      refine wp_callV (pc' := 232) (as := [vI a3]) (rest := [vI (I7 88 (((22 * a2) + 10) + (I7 89 ((2 * a2) + 1).toNat)).toNat), vI (((22 * a2) + 11) + (I7 89 ((2 * a2) + 1).toNat)), vR 88]) (pX11_costs hR h3 h10) dX11_layRooms_229 rfl lkX11_143 okX11_costs inX11_costs seX11_costs o_68 vc10 ⟨Nat.le_of_ble_eq_true rfl, Nat.le_of_ble_eq_true rfl⟩ (Nat.le_of_ble_eq_true rfl) (Nat.le_refl _) (Nat.le_refl _) okP_eq okP_eq rfl (rvI rfl (fun x9 I9 R9 hq9 => ?_))
      obtain ⟨eR9, eI9, ex9⟩ := hq9; subst eR9; subst eI9; cases ex9
      refine wp_iadd (pc' := 233) dX11_layRooms_232 rfl ?_
      obtain ⟨h11, h⟩ := h
      obtain ⟨I12, eI12⟩ : ∃ z : II, z = up2 I7 88 ((((22 * a2) + 11) + (I7 89 ((2 * a2) + 1).toNat)).toNat) ((I7 88 (((22 * a2) + 10) + (I7 89 ((2 * a2) + 1).toNat)).toNat) + (I7 82 (I7 84 (a3).toNat).toNat)) := ⟨_, rfl⟩
      have h := h I12 eI12
      refine wp_iast (pc' := 234) (j := (((22 * a2) + 11) + (I7 89 ((2 * a2) + 1).toNat)).toNat) (I' := I12) dX11_layRooms_233 a_88 h11 rfl rfl eI12 ?_
      exact h

set_option maxRecDepth 4000 in
theorem gX11_layRooms_234 {Q : QT} {I : II} {R : RR} (hR : SR R) {a1 : Int} {a2 : Int} {a3 : Int}
    (h : wp (kN 89) mX11_layRooms Q 146 [vR 68, vI a1, vI a2, vI (a3 + 1)] [] I R 89) : wp (kN 89) mX11_layRooms Q 234 [vR 68, vI a1, vI a2, vI a3] [] I R 89 := by
  refine wp_iinc (pc' := 237) (i := 3) (L' := [vR 68, vI a1, vI a2, vI (a3 + 1)]) rfl (by decide) rfl dX11_layRooms_234 rfl rfl ?_
  refine wp_goto (tgt := 146) dX11_layRooms_237 rfl ?_
  exact h

theorem sX11_carried {Q : QT} {I : II} {R : RR} {a1 : Int} {a2 : Int} (h : wp (kN 89) mX11_carried Q 0 [vR 68, vI a1, vI a2, none, none, none, none, none, none] [] I R 89) : Spec mX11_carried [vR 68, vI a1, vI a2] I R 89 89 Q := Spec_of_wp pyX11_carried rfl (Nat.le_of_ble_eq_true rfl) (Nat.le_refl _) (by decide) h

set_option maxRecDepth 4000 in
theorem gX11_carried_0 {Q : QT} {I : II} {R : RR} (hR : SR R) {a1 : Int} {a2 : Int}
    (h : wp (kN 89) mX11_carried Q 7 [vR 68, vI a1, vI a2, vI (-10000), vI 0, none, none, none, none] [] I R 89) : wp (kN 89) mX11_carried Q 0 [vR 68, vI a1, vI a2, none, none, none, none, none, none] [] I R 89 := by
  refine wp_sipush (pc' := 3) (by decide) dX11_carried_0 rfl ?_
  refine wp_istore_n (pc' := 4) (q := 3) (i := 3) (L' := [vR 68, vI a1, vI a2, vI (-10000), none, none, none, none, none]) rfl (by decide) rfl dX11_carried_3 rfl rfl ?_
  refine wp_iconst (pc' := 5) dX11_carried_4 rfl ?_
  refine wp_istore (pc' := 7) (i := 4) (L' := [vR 68, vI a1, vI a2, vI (-10000), vI 0, none, none, none, none]) (by decide) rfl dX11_carried_5 rfl rfl ?_
  exact h

set_option maxRecDepth 4000 in
theorem gX11_carried_7 {Q : QT} {I : II} {R : RR} (hR : SR R) {a1 : Int} {a2 : Int} {a3 : Int} {a4 : Int}
    (h : (InI a4) ∧
      (InI (I 89 0)) ∧
      (((I 89 0) < a4 →
      Q (vI a3) I R) ∧ (¬ (I 89 0) < a4 →
      wp (kN 89) mX11_carried Q 21 [vR 68, vI a1, vI a2, vI a3, vI a4, vI 0, none, none, none] [] I R 89))) : wp (kN 89) mX11_carried Q 7 [vR 68, vI a1, vI a2, vI a3, vI a4, none, none, none, none] [] I R 89 := by
  refine wp_iload (pc' := 9) (i := 4) rfl dX11_carried_7 rfl ?_
  refine wp_aload_n (pc' := 10) (q := 0) (i := 0) rfl rfl dX11_carried_9 rfl ?_
  refine wp_getRc (pc' := 13) (k := 33) (j := 89) dX11_carried_10 vc10 (by decide) rfl lfX11_70 o_68 (r_68_33 hR) rfl ?_
  refine wp_iconst (pc' := 14) dX11_carried_13 rfl ?_
  refine wp_iald (pc' := 15) (j := 0) dX11_carried_14 a_89 ⟨by decide, by decide⟩ rfl rfl ?_
  obtain ⟨h1, h⟩ := h
  obtain ⟨h2, h⟩ := h
  refine wp_icmp_gt (pc' := 18) (tgt := 158) h1 h2 dX11_carried_15 rfl rfl (fun hc => ?_) (fun hc => ?_)
  · have h := h.1 hc
    refine wp_iload_n (pc' := 159) (q := 3) (i := 3) rfl rfl dX11_carried_158 rfl ?_
    exact wp_ireturn dX11_carried_159 rfl rfl h
  · have h := h.2 hc
    refine wp_iconst (pc' := 19) dX11_carried_18 rfl ?_
    refine wp_istore (pc' := 21) (i := 5) (L' := [vR 68, vI a1, vI a2, vI a3, vI a4, vI 0, none, none, none]) (by decide) rfl dX11_carried_19 rfl rfl ?_
    exact h

set_option maxRecDepth 4000 in
theorem gX11_carried_21 {Q : QT} {I : II} {R : RR} (hR : SR R) {a1 : Int} {a2 : Int} {a3 : Int} {a4 : Int} {a5 : Int}
    (h : (InI a5) ∧
      (InI (I 89 2)) ∧
      (((I 89 2) < a5 →
      wp (kN 89) mX11_carried Q 7 [vR 68, vI a1, vI a2, vI a3, vI (a4 + 1), none, none, none, none] [] I R 89) ∧ (¬ (I 89 2) < a5 →
      (InI (a4 + a1)) ∧
      (InI (I 89 1)) ∧
      (((0 : Int) ≤ (a4 + a1) ∧ (a4 + a1) ≤ (I 89 1) →
      (InI (a5 - a1)) ∧
      (InI (I 89 3)) ∧
      (((0 : Int) ≤ (a5 - a1) ∧ (a5 - a1) ≤ (I 89 3) →
      (0 ≤ a4 ∧ a4 < 44) ∧
      (0 ≤ (11 + (a4 + a1)) ∧ (11 + (a4 + a1)) < 44) ∧
      (0 ≤ (22 + a5) ∧ (22 + a5) < 44) ∧
      (0 ≤ (33 + (a5 - a1)) ∧ (33 + (a5 - a1)) < 44) ∧
      (InI a1) ∧
      ((0 ≤ a1 →
      (InI (((((I 88 a4.toNat) - (I 88 (11 + (a4 + a1)).toNat)) + (I 88 (22 + a5).toNat)) - (I 88 (33 + (a5 - a1)).toNat)) - (a2 * a1))) ∧
      (InI a3) ∧
      (((((((I 88 a4.toNat) - (I 88 (11 + (a4 + a1)).toNat)) + (I 88 (22 + a5).toNat)) - (I 88 (33 + (a5 - a1)).toNat)) - (a2 * a1)) ≤ a3 →
      wp (kN 89) mX11_carried Q 146 [vR 68, vI a1, vI a2, vI a3, vI a4, vI a5, none, none, none] [] I R 89) ∧ (¬ (((((I 88 a4.toNat) - (I 88 (11 + (a4 + a1)).toNat)) + (I 88 (22 + a5).toNat)) - (I 88 (33 + (a5 - a1)).toNat)) - (a2 * a1)) ≤ a3 →
      wp (kN 89) mX11_carried Q 146 [vR 68, vI a1, vI a2, vI (((((I 88 a4.toNat) - (I 88 (11 + (a4 + a1)).toNat)) + (I 88 (22 + a5).toNat)) - (I 88 (33 + (a5 - a1)).toNat)) - (a2 * a1)), vI a4, vI a5, none, none, none] [] I R 89))) ∧ (¬ (0 ≤ a1) →
      (InI (((((I 88 a4.toNat) - (I 88 (11 + (a4 + a1)).toNat)) + (I 88 (22 + a5).toNat)) - (I 88 (33 + (a5 - a1)).toNat)) - (a2 * (-a1)))) ∧
      (InI a3) ∧
      (((((((I 88 a4.toNat) - (I 88 (11 + (a4 + a1)).toNat)) + (I 88 (22 + a5).toNat)) - (I 88 (33 + (a5 - a1)).toNat)) - (a2 * (-a1))) ≤ a3 →
      wp (kN 89) mX11_carried Q 146 [vR 68, vI a1, vI a2, vI a3, vI a4, vI a5, none, none, none] [] I R 89) ∧ (¬ (((((I 88 a4.toNat) - (I 88 (11 + (a4 + a1)).toNat)) + (I 88 (22 + a5).toNat)) - (I 88 (33 + (a5 - a1)).toNat)) - (a2 * (-a1))) ≤ a3 →
      wp (kN 89) mX11_carried Q 146 [vR 68, vI a1, vI a2, vI (((((I 88 a4.toNat) - (I 88 (11 + (a4 + a1)).toNat)) + (I 88 (22 + a5).toNat)) - (I 88 (33 + (a5 - a1)).toNat)) - (a2 * (-a1))), vI a4, vI a5, none, none, none] [] I R 89))))) ∧ (¬ ((0 : Int) ≤ (a5 - a1) ∧ (a5 - a1) ≤ (I 89 3)) →
      wp (kN 89) mX11_carried Q 146 [vR 68, vI a1, vI a2, vI a3, vI a4, vI a5, none, none, none] [] I R 89))) ∧ (¬ ((0 : Int) ≤ (a4 + a1) ∧ (a4 + a1) ≤ (I 89 1)) →
      wp (kN 89) mX11_carried Q 146 [vR 68, vI a1, vI a2, vI a3, vI a4, vI a5, none, none, none] [] I R 89))))) : wp (kN 89) mX11_carried Q 21 [vR 68, vI a1, vI a2, vI a3, vI a4, vI a5, none, none, none] [] I R 89 := by
  refine wp_iload (pc' := 23) (i := 5) rfl dX11_carried_21 rfl ?_
  refine wp_aload_n (pc' := 24) (q := 0) (i := 0) rfl rfl dX11_carried_23 rfl ?_
  refine wp_getRc (pc' := 27) (k := 33) (j := 89) dX11_carried_24 vc10 (by decide) rfl lfX11_70 o_68 (r_68_33 hR) rfl ?_
  refine wp_iconst (pc' := 28) dX11_carried_27 rfl ?_
  refine wp_iald (pc' := 29) (j := 2) dX11_carried_28 a_89 ⟨by decide, by decide⟩ rfl rfl ?_
  obtain ⟨h1, h⟩ := h
  obtain ⟨h2, h⟩ := h
  refine wp_icmp_gt (pc' := 32) (tgt := 152) h1 h2 dX11_carried_29 rfl rfl (fun hc => ?_) (fun hc => ?_)
  · have h := h.1 hc
    refine wp_iinc (pc' := 155) (i := 4) (L' := [vR 68, vI a1, vI a2, vI a3, vI (a4 + 1), vI a5, none, none, none]) rfl (by decide) rfl dX11_carried_152 rfl rfl ?_
    refine wp_goto (tgt := 7) dX11_carried_155 rfl ?_
    exact wp_dropP (leP_s (leP_s (leP_s (leP_s (leP_s (leP_d (leP_s (leP_s (leP_s leP_n))))))))) h
  · have h := h.2 hc
    refine wp_iload (pc' := 34) (i := 4) rfl dX11_carried_32 rfl ?_
    refine wp_iload_n (pc' := 35) (q := 1) (i := 1) rfl rfl dX11_carried_34 rfl ?_
    refine wp_iadd (pc' := 36) dX11_carried_35 rfl ?_
    refine wp_istore (pc' := 38) (i := 6) (L' := [vR 68, vI a1, vI a2, vI a3, vI a4, vI a5, vI (a4 + a1), none, none]) (by decide) rfl dX11_carried_36 rfl rfl ?_
    refine wp_iload (pc' := 40) (i := 5) rfl dX11_carried_38 rfl ?_
    refine wp_iload_n (pc' := 41) (q := 1) (i := 1) rfl rfl dX11_carried_40 rfl ?_
    refine wp_isub (pc' := 42) dX11_carried_41 rfl ?_
    refine wp_istore (pc' := 44) (i := 7) (L' := [vR 68, vI a1, vI a2, vI a3, vI a4, vI a5, vI (a4 + a1), vI (a5 - a1), none]) (by decide) rfl dX11_carried_42 rfl rfl ?_
    refine wp_iload (pc' := 46) (i := 6) rfl dX11_carried_44 rfl ?_
    obtain ⟨h3, h⟩ := h
    refine wp_i2l (pc' := 47) h3 dX11_carried_46 rfl ?_
    refine wp_lconst (pc' := 48) dX11_carried_47 rfl ?_
    refine wp_aload_n (pc' := 49) (q := 0) (i := 0) rfl rfl dX11_carried_48 rfl ?_
    refine wp_getRc (pc' := 52) (k := 33) (j := 89) dX11_carried_49 vc10 (by decide) rfl lfX11_70 o_68 (r_68_33 hR) rfl ?_
    refine wp_iconst (pc' := 53) dX11_carried_52 rfl ?_
    refine wp_iald (pc' := 54) (j := 1) dX11_carried_53 a_89 ⟨by decide, by decide⟩ rfl rfl ?_
    obtain ⟨h4, h⟩ := h
    refine wp_i2l (pc' := 55) h4 dX11_carried_54 rfl ?_
    refine wp_callS (pc' := 58) (as := [vL (a4 + a1), vL 0, vL (I 89 1)]) (rest := []) (pX11_in (by decide) (inL_of h3) ⟨by decide, by decide⟩ (inL_of h4)) dX11_carried_55 rfl lkX11_79 okX11_in stX11_in ⟨Nat.le_of_ble_eq_true rfl, Nat.le_of_ble_eq_true rfl⟩ (Nat.le_of_ble_eq_true rfl) (Nat.le_refl _) (Nat.le_refl _) okP_eq okP_eq rfl (rvZ rfl (fun x5 I5 R5 hz5 hq5 => ?_))
    obtain ⟨eR5, eI5, ex5⟩ := hq5; subst eR5; subst eI5; cases ex5
    by_cases hc : (0 : Int) ≤ (a4 + a1) ∧ (a4 + a1) ≤ (I 89 1)
    · rw [if_pos hc]; have h := h.1 hc
      refine wp_if_eq (pc' := 61) (tgt := 146) ⟨by decide, by decide⟩ dX11_carried_58 rfl rfl (fun hc => by exfalso; revert hc; decide) (fun hc => ?_)
      refine wp_iload (pc' := 63) (i := 7) rfl dX11_carried_61 rfl ?_
      obtain ⟨h6, h⟩ := h
      refine wp_i2l (pc' := 64) h6 dX11_carried_63 rfl ?_
      refine wp_lconst (pc' := 65) dX11_carried_64 rfl ?_
      refine wp_aload_n (pc' := 66) (q := 0) (i := 0) rfl rfl dX11_carried_65 rfl ?_
      refine wp_getRc (pc' := 69) (k := 33) (j := 89) dX11_carried_66 vc10 (by decide) rfl lfX11_70 o_68 (r_68_33 hR) rfl ?_
      refine wp_iconst (pc' := 70) dX11_carried_69 rfl ?_
      refine wp_iald (pc' := 71) (j := 3) dX11_carried_70 a_89 ⟨by decide, by decide⟩ rfl rfl ?_
      obtain ⟨h7, h⟩ := h
      refine wp_i2l (pc' := 72) h7 dX11_carried_71 rfl ?_
      refine wp_callS (pc' := 75) (as := [vL (a5 - a1), vL 0, vL (I 89 3)]) (rest := []) (pX11_in (by decide) (inL_of h6) ⟨by decide, by decide⟩ (inL_of h7)) dX11_carried_72 rfl lkX11_79 okX11_in stX11_in ⟨Nat.le_of_ble_eq_true rfl, Nat.le_of_ble_eq_true rfl⟩ (Nat.le_of_ble_eq_true rfl) (Nat.le_refl _) (Nat.le_refl _) okP_eq okP_eq rfl (rvZ rfl (fun x8 I8 R8 hz8 hq8 => ?_))
      obtain ⟨eR8, eI8, ex8⟩ := hq8; subst eR8; subst eI8; cases ex8
      by_cases hc : (0 : Int) ≤ (a5 - a1) ∧ (a5 - a1) ≤ (I 89 3)
      · rw [if_pos hc]; have h := h.1 hc
        refine wp_if_eq (pc' := 78) (tgt := 146) ⟨by decide, by decide⟩ dX11_carried_75 rfl rfl (fun hc => by exfalso; revert hc; decide) (fun hc => ?_)
        refine wp_aload_n (pc' := 79) (q := 0) (i := 0) rfl rfl dX11_carried_78 rfl ?_
        refine wp_getRc (pc' := 82) (k := 32) (j := 88) dX11_carried_79 vc10 (by decide) rfl lfX11_67 o_68 (r_68_32 hR) rfl ?_
        refine wp_iload (pc' := 84) (i := 4) rfl dX11_carried_82 rfl ?_
        obtain ⟨h9, h⟩ := h
        refine wp_iald (pc' := 85) (j := a4.toNat) dX11_carried_84 a_88 h9 rfl rfl ?_
        refine wp_aload_n (pc' := 86) (q := 0) (i := 0) rfl rfl dX11_carried_85 rfl ?_
        refine wp_getRc (pc' := 89) (k := 32) (j := 88) dX11_carried_86 vc10 (by decide) rfl lfX11_67 o_68 (r_68_32 hR) rfl ?_
        refine wp_bipush (pc' := 91) (by decide) dX11_carried_89 rfl ?_
        refine wp_iload (pc' := 93) (i := 6) rfl dX11_carried_91 rfl ?_
        refine wp_iadd (pc' := 94) dX11_carried_93 rfl ?_
        obtain ⟨h10, h⟩ := h
        refine wp_iald (pc' := 95) (j := (11 + (a4 + a1)).toNat) dX11_carried_94 a_88 h10 rfl rfl ?_
        refine wp_isub (pc' := 96) dX11_carried_95 rfl ?_
        refine wp_aload_n (pc' := 97) (q := 0) (i := 0) rfl rfl dX11_carried_96 rfl ?_
        refine wp_getRc (pc' := 100) (k := 32) (j := 88) dX11_carried_97 vc10 (by decide) rfl lfX11_67 o_68 (r_68_32 hR) rfl ?_
        refine wp_bipush (pc' := 102) (by decide) dX11_carried_100 rfl ?_
        refine wp_iload (pc' := 104) (i := 5) rfl dX11_carried_102 rfl ?_
        refine wp_iadd (pc' := 105) dX11_carried_104 rfl ?_
        obtain ⟨h11, h⟩ := h
        refine wp_iald (pc' := 106) (j := (22 + a5).toNat) dX11_carried_105 a_88 h11 rfl rfl ?_
        refine wp_iadd (pc' := 107) dX11_carried_106 rfl ?_
        refine wp_aload_n (pc' := 108) (q := 0) (i := 0) rfl rfl dX11_carried_107 rfl ?_
        refine wp_getRc (pc' := 111) (k := 32) (j := 88) dX11_carried_108 vc10 (by decide) rfl lfX11_67 o_68 (r_68_32 hR) rfl ?_
        refine wp_bipush (pc' := 113) (by decide) dX11_carried_111 rfl ?_
        refine wp_iload (pc' := 115) (i := 7) rfl dX11_carried_113 rfl ?_
        refine wp_iadd (pc' := 116) dX11_carried_115 rfl ?_
        obtain ⟨h12, h⟩ := h
        refine wp_iald (pc' := 117) (j := (33 + (a5 - a1)).toNat) dX11_carried_116 a_88 h12 rfl rfl ?_
        refine wp_isub (pc' := 118) dX11_carried_117 rfl ?_
        refine wp_iload_n (pc' := 119) (q := 2) (i := 2) rfl rfl dX11_carried_118 rfl ?_
        refine wp_iload_n (pc' := 120) (q := 1) (i := 1) rfl rfl dX11_carried_119 rfl ?_
        obtain ⟨h13, h⟩ := h
        refine wp_if_ge (pc' := 123) (tgt := 128) h13 dX11_carried_120 rfl rfl (fun hc => ?_) (fun hc => ?_)
        · have h := h.1 hc
          refine wp_iload_n (pc' := 129) (q := 1) (i := 1) rfl rfl dX11_carried_128 rfl ?_
          refine wp_imul (pc' := 130) dX11_carried_129 rfl ?_
          refine wp_isub (pc' := 131) dX11_carried_130 rfl ?_
          refine wp_istore (pc' := 133) (i := 8) (L' := [vR 68, vI a1, vI a2, vI a3, vI a4, vI a5, vI (a4 + a1), vI (a5 - a1), vI (((((I 88 a4.toNat) - (I 88 (11 + (a4 + a1)).toNat)) + (I 88 (22 + a5).toNat)) - (I 88 (33 + (a5 - a1)).toNat)) - (a2 * a1))]) (by decide) rfl dX11_carried_131 rfl rfl ?_
          refine wp_iload (pc' := 135) (i := 8) rfl dX11_carried_133 rfl ?_
          refine wp_iload_n (pc' := 136) (q := 3) (i := 3) rfl rfl dX11_carried_135 rfl ?_
          obtain ⟨h14, h⟩ := h
          obtain ⟨h15, h⟩ := h
          refine wp_icmp_le (pc' := 139) (tgt := 144) h14 h15 dX11_carried_136 rfl rfl (fun hc => ?_) (fun hc => ?_)
          · have h := h.1 hc
            refine wp_iload_n (pc' := 145) (q := 3) (i := 3) rfl rfl dX11_carried_144 rfl ?_
            refine wp_istore_n (pc' := 146) (q := 3) (i := 3) (L' := [vR 68, vI a1, vI a2, vI a3, vI a4, vI a5, vI (a4 + a1), vI (a5 - a1), vI (((((I 88 a4.toNat) - (I 88 (11 + (a4 + a1)).toNat)) + (I 88 (22 + a5).toNat)) - (I 88 (33 + (a5 - a1)).toNat)) - (a2 * a1))]) rfl (by decide) rfl dX11_carried_145 rfl rfl ?_
            exact wp_dropP (leP_s (leP_s (leP_s (leP_s (leP_s (leP_s (leP_d (leP_d (leP_d leP_n))))))))) h
          · have h := h.2 hc
            refine wp_iload (pc' := 141) (i := 8) rfl dX11_carried_139 rfl ?_
            refine wp_goto (tgt := 145) dX11_carried_141 rfl ?_
            refine wp_istore_n (pc' := 146) (q := 3) (i := 3) (L' := [vR 68, vI a1, vI a2, vI (((((I 88 a4.toNat) - (I 88 (11 + (a4 + a1)).toNat)) + (I 88 (22 + a5).toNat)) - (I 88 (33 + (a5 - a1)).toNat)) - (a2 * a1)), vI a4, vI a5, vI (a4 + a1), vI (a5 - a1), vI (((((I 88 a4.toNat) - (I 88 (11 + (a4 + a1)).toNat)) + (I 88 (22 + a5).toNat)) - (I 88 (33 + (a5 - a1)).toNat)) - (a2 * a1))]) rfl (by decide) rfl dX11_carried_145 rfl rfl ?_
            exact wp_dropP (leP_s (leP_s (leP_s (leP_s (leP_s (leP_s (leP_d (leP_d (leP_d leP_n))))))))) h
        · have h := h.2 hc
          refine wp_iload_n (pc' := 124) (q := 1) (i := 1) rfl rfl dX11_carried_123 rfl ?_
          refine wp_ineg (pc' := 125) dX11_carried_124 rfl ?_
          refine wp_goto (tgt := 129) dX11_carried_125 rfl ?_
          refine wp_imul (pc' := 130) dX11_carried_129 rfl ?_
          refine wp_isub (pc' := 131) dX11_carried_130 rfl ?_
          refine wp_istore (pc' := 133) (i := 8) (L' := [vR 68, vI a1, vI a2, vI a3, vI a4, vI a5, vI (a4 + a1), vI (a5 - a1), vI (((((I 88 a4.toNat) - (I 88 (11 + (a4 + a1)).toNat)) + (I 88 (22 + a5).toNat)) - (I 88 (33 + (a5 - a1)).toNat)) - (a2 * (-a1)))]) (by decide) rfl dX11_carried_131 rfl rfl ?_
          refine wp_iload (pc' := 135) (i := 8) rfl dX11_carried_133 rfl ?_
          refine wp_iload_n (pc' := 136) (q := 3) (i := 3) rfl rfl dX11_carried_135 rfl ?_
          obtain ⟨h16, h⟩ := h
          obtain ⟨h17, h⟩ := h
          refine wp_icmp_le (pc' := 139) (tgt := 144) h16 h17 dX11_carried_136 rfl rfl (fun hc => ?_) (fun hc => ?_)
          · have h := h.1 hc
            refine wp_iload_n (pc' := 145) (q := 3) (i := 3) rfl rfl dX11_carried_144 rfl ?_
            refine wp_istore_n (pc' := 146) (q := 3) (i := 3) (L' := [vR 68, vI a1, vI a2, vI a3, vI a4, vI a5, vI (a4 + a1), vI (a5 - a1), vI (((((I 88 a4.toNat) - (I 88 (11 + (a4 + a1)).toNat)) + (I 88 (22 + a5).toNat)) - (I 88 (33 + (a5 - a1)).toNat)) - (a2 * (-a1)))]) rfl (by decide) rfl dX11_carried_145 rfl rfl ?_
            exact wp_dropP (leP_s (leP_s (leP_s (leP_s (leP_s (leP_s (leP_d (leP_d (leP_d leP_n))))))))) h
          · have h := h.2 hc
            refine wp_iload (pc' := 141) (i := 8) rfl dX11_carried_139 rfl ?_
            refine wp_goto (tgt := 145) dX11_carried_141 rfl ?_
            refine wp_istore_n (pc' := 146) (q := 3) (i := 3) (L' := [vR 68, vI a1, vI a2, vI (((((I 88 a4.toNat) - (I 88 (11 + (a4 + a1)).toNat)) + (I 88 (22 + a5).toNat)) - (I 88 (33 + (a5 - a1)).toNat)) - (a2 * (-a1))), vI a4, vI a5, vI (a4 + a1), vI (a5 - a1), vI (((((I 88 a4.toNat) - (I 88 (11 + (a4 + a1)).toNat)) + (I 88 (22 + a5).toNat)) - (I 88 (33 + (a5 - a1)).toNat)) - (a2 * (-a1)))]) rfl (by decide) rfl dX11_carried_145 rfl rfl ?_
            exact wp_dropP (leP_s (leP_s (leP_s (leP_s (leP_s (leP_s (leP_d (leP_d (leP_d leP_n))))))))) h
      · rw [if_neg hc]; have h := h.2 hc
        refine wp_if_eq (pc' := 78) (tgt := 146) ⟨by decide, by decide⟩ dX11_carried_75 rfl rfl (fun hc => ?_) (fun hc => by exfalso; revert hc; decide)
        exact wp_dropP (leP_s (leP_s (leP_s (leP_s (leP_s (leP_s (leP_d (leP_d (leP_s leP_n))))))))) h
    · rw [if_neg hc]; have h := h.2 hc
      refine wp_if_eq (pc' := 61) (tgt := 146) ⟨by decide, by decide⟩ dX11_carried_58 rfl rfl (fun hc => ?_) (fun hc => by exfalso; revert hc; decide)
      exact wp_dropP (leP_s (leP_s (leP_s (leP_s (leP_s (leP_s (leP_d (leP_d (leP_s leP_n))))))))) h

set_option maxRecDepth 4000 in
theorem gX11_carried_146 {Q : QT} {I : II} {R : RR} (hR : SR R) {a1 : Int} {a2 : Int} {a3 : Int} {a4 : Int} {a5 : Int}
    (h : wp (kN 89) mX11_carried Q 21 [vR 68, vI a1, vI a2, vI a3, vI a4, vI (a5 + 1), none, none, none] [] I R 89) : wp (kN 89) mX11_carried Q 146 [vR 68, vI a1, vI a2, vI a3, vI a4, vI a5, none, none, none] [] I R 89 := by
  refine wp_iinc (pc' := 149) (i := 5) (L' := [vR 68, vI a1, vI a2, vI a3, vI a4, vI (a5 + 1), none, none, none]) rfl (by decide) rfl dX11_carried_146 rfl rfl ?_
  refine wp_goto (tgt := 21) dX11_carried_149 rfl ?_
  exact h

theorem sX11_two {Q : QT} {I : II} {R : RR} {a1 : Int} {a2 : Int} {a3 : Int} (h : wp (kN 89) mX11_two Q 0 [vR 68, vI a1, vI a2, vI a3, none, none] [] I R 89) : Spec mX11_two [vR 68, vI a1, vI a2, vI a3] I R 89 89 Q := Spec_of_wp pyX11_two rfl (Nat.le_of_ble_eq_true rfl) (Nat.le_refl _) (by decide) h

set_option maxRecDepth 4000 in
theorem gX11_two_0 {Q : QT} {I : II} {R : RR} (hR : SR R) {a1 : Int} {a2 : Int} {a3 : Int}
    (h : (InI a1) ∧
      (InI ((i32 1 <<< (i32 (I 70 0) &&& 31)).toInt - 1)) ∧
      (((0 : Int) ≤ a1 ∧ a1 ≤ ((i32 1 <<< (i32 (I 70 0) &&& 31)).toInt - 1) →
      (InI a2) ∧
      (((0 : Int) ≤ a2 ∧ a2 ≤ (99 : Int) →
      (InI a3) ∧
      (((0 : Int) ≤ a3 ∧ a3 ≤ (1 : Int) →
      (∃ Q8 : QT, Spec mX11_layRooms [vR 68, vI a1] I R 89 89 Q8 ∧ (∀ I8 R8, Q8 none I8 R8 →
      R = R8 ∧ wp (kN 89) mX11_two Q 57 [vR 68, none, vI a2, vI a3, vI 0, vI 1] [] I8 R 89))) ∧ (¬ ((0 : Int) ≤ a3 ∧ a3 ≤ (1 : Int)) →
      wp (kN 89) mX11_two Q 42 [none, none, none, none, none, none] [] I R 89))) ∧ (¬ ((0 : Int) ≤ a2 ∧ a2 ≤ (99 : Int)) →
      wp (kN 89) mX11_two Q 42 [none, none, none, none, none, none] [] I R 89))) ∧ (¬ ((0 : Int) ≤ a1 ∧ a1 ≤ ((i32 1 <<< (i32 (I 70 0) &&& 31)).toInt - 1)) →
      wp (kN 89) mX11_two Q 42 [none, none, none, none, none, none] [] I R 89))) : wp (kN 89) mX11_two Q 0 [vR 68, vI a1, vI a2, vI a3, none, none] [] I R 89 := by
  refine wp_iload_n (pc' := 1) (q := 1) (i := 1) rfl rfl dX11_two_0 rfl ?_
  obtain ⟨h1, h⟩ := h
  refine wp_i2l (pc' := 2) h1 dX11_two_1 rfl ?_
  refine wp_lconst (pc' := 3) dX11_two_2 rfl ?_
  refine wp_iconst (pc' := 4) dX11_two_3 rfl ?_
  refine wp_aload_n (pc' := 5) (q := 0) (i := 0) rfl rfl dX11_two_4 rfl ?_
  refine wp_getRc (pc' := 8) (k := 2) (j := 70) dX11_two_5 vc10 (by decide) rfl lfX11_13 o_68 (r_68_2 hR) rfl ?_
  refine wp_iconst (pc' := 9) dX11_two_8 rfl ?_
  refine wp_iald (pc' := 10) (j := 0) dX11_two_9 a_70 ⟨by decide, by decide⟩ rfl rfl ?_
  refine wp_ishl (pc' := 11) dX11_two_10 rfl ?_
  refine wp_iconst (pc' := 12) dX11_two_11 rfl ?_
  refine wp_isub (pc' := 13) dX11_two_12 rfl ?_
  obtain ⟨h2, h⟩ := h
  refine wp_i2l (pc' := 14) h2 dX11_two_13 rfl ?_
  refine wp_callS (pc' := 17) (as := [vL a1, vL 0, vL ((i32 1 <<< (i32 (I 70 0) &&& 31)).toInt - 1)]) (rest := []) (pX11_in (by decide) (inL_of h1) ⟨by decide, by decide⟩ (inL_of h2)) dX11_two_14 rfl lkX11_79 okX11_in stX11_in ⟨Nat.le_of_ble_eq_true rfl, Nat.le_of_ble_eq_true rfl⟩ (Nat.le_of_ble_eq_true rfl) (Nat.le_refl _) (Nat.le_refl _) okP_eq okP_eq rfl (rvZ rfl (fun x3 I3 R3 hz3 hq3 => ?_))
  obtain ⟨eR3, eI3, ex3⟩ := hq3; subst eR3; subst eI3; cases ex3
  by_cases hc : (0 : Int) ≤ a1 ∧ a1 ≤ ((i32 1 <<< (i32 (I 70 0) &&& 31)).toInt - 1)
  · rw [if_pos hc]; have h := h.1 hc
    refine wp_if_eq (pc' := 20) (tgt := 42) ⟨by decide, by decide⟩ dX11_two_17 rfl rfl (fun hc => by exfalso; revert hc; decide) (fun hc => ?_)
    refine wp_iload_n (pc' := 21) (q := 2) (i := 2) rfl rfl dX11_two_20 rfl ?_
    obtain ⟨h4, h⟩ := h
    refine wp_i2l (pc' := 22) h4 dX11_two_21 rfl ?_
    refine wp_lconst (pc' := 23) dX11_two_22 rfl ?_
    refine wp_ldc2 (pc' := 26) (x := 99) lcX11_180 (by decide +kernel) dX11_two_23 rfl ?_
    refine wp_callS (pc' := 29) (as := [vL a2, vL 0, vL 99]) (rest := []) (pX11_in (by decide) (inL_of h4) ⟨by decide, by decide⟩ ⟨by decide, by decide⟩) dX11_two_26 rfl lkX11_79 okX11_in stX11_in ⟨Nat.le_of_ble_eq_true rfl, Nat.le_of_ble_eq_true rfl⟩ (Nat.le_of_ble_eq_true rfl) (Nat.le_refl _) (Nat.le_refl _) okP_eq okP_eq rfl (rvZ rfl (fun x5 I5 R5 hz5 hq5 => ?_))
    obtain ⟨eR5, eI5, ex5⟩ := hq5; subst eR5; subst eI5; cases ex5
    by_cases hc : (0 : Int) ≤ a2 ∧ a2 ≤ (99 : Int)
    · rw [if_pos hc]; have h := h.1 hc
      refine wp_if_eq (pc' := 32) (tgt := 42) ⟨by decide, by decide⟩ dX11_two_29 rfl rfl (fun hc => by exfalso; revert hc; decide) (fun hc => ?_)
      refine wp_iload_n (pc' := 33) (q := 3) (i := 3) rfl rfl dX11_two_32 rfl ?_
      obtain ⟨h6, h⟩ := h
      refine wp_i2l (pc' := 34) h6 dX11_two_33 rfl ?_
      refine wp_lconst (pc' := 35) dX11_two_34 rfl ?_
      refine wp_lconst (pc' := 36) dX11_two_35 rfl ?_
      refine wp_callS (pc' := 39) (as := [vL a3, vL 0, vL 1]) (rest := []) (pX11_in (by decide) (inL_of h6) ⟨by decide, by decide⟩ ⟨by decide, by decide⟩) dX11_two_36 rfl lkX11_79 okX11_in stX11_in ⟨Nat.le_of_ble_eq_true rfl, Nat.le_of_ble_eq_true rfl⟩ (Nat.le_of_ble_eq_true rfl) (Nat.le_refl _) (Nat.le_refl _) okP_eq okP_eq rfl (rvZ rfl (fun x7 I7 R7 hz7 hq7 => ?_))
      obtain ⟨eR7, eI7, ex7⟩ := hq7; subst eR7; subst eI7; cases ex7
      by_cases hc : (0 : Int) ≤ a3 ∧ a3 ≤ (1 : Int)
      · rw [if_pos hc]; have h := h.1 hc
        refine wp_if_ne (pc' := 42) (tgt := 46) ⟨by decide, by decide⟩ dX11_two_39 rfl rfl (fun hc => ?_) (fun hc => by exfalso; revert hc; decide)
        refine wp_aload_n (pc' := 47) (q := 0) (i := 0) rfl rfl dX11_two_46 rfl ?_
        refine wp_iload_n (pc' := 48) (q := 1) (i := 1) rfl rfl dX11_two_47 rfl ?_
        obtain ⟨Q8, hs8, h⟩ := h
        refine wp_callV (pc' := 51) (as := [vI a1]) (rest := []) hs8 dX11_two_48 rfl lkX11_274 okX11_layRooms inX11_layRooms seX11_layRooms o_68 vc10 ⟨Nat.le_of_ble_eq_true rfl, Nat.le_of_ble_eq_true rfl⟩ (Nat.le_of_ble_eq_true rfl) (Nat.le_refl _) (Nat.le_refl _) okP_eq okP_eq rfl (rvV rfl (fun I8 R8 hq8 => ?_))
        obtain ⟨hRR8, h⟩ := h I8 R8 hq8; subst hRR8
        refine wp_iconst (pc' := 52) dX11_two_51 rfl ?_
        refine wp_istore (pc' := 54) (i := 4) (L' := [vR 68, vI a1, vI a2, vI a3, vI 0, none]) (by decide) rfl dX11_two_52 rfl rfl ?_
        refine wp_iconst (pc' := 55) dX11_two_54 rfl ?_
        refine wp_istore (pc' := 57) (i := 5) (L' := [vR 68, vI a1, vI a2, vI a3, vI 0, vI 1]) (by decide) rfl dX11_two_55 rfl rfl ?_
        exact wp_dropP (leP_s (leP_d (leP_s (leP_s (leP_s (leP_s leP_n)))))) h
      · rw [if_neg hc]; have h := h.2 hc
        refine wp_if_ne (pc' := 42) (tgt := 46) ⟨by decide, by decide⟩ dX11_two_39 rfl rfl (fun hc => by exfalso; revert hc; decide) (fun hc => ?_)
        exact wp_dropP (leP_d (leP_d (leP_d (leP_d (leP_s (leP_s leP_n)))))) h
    · rw [if_neg hc]; have h := h.2 hc
      refine wp_if_eq (pc' := 32) (tgt := 42) ⟨by decide, by decide⟩ dX11_two_29 rfl rfl (fun hc => ?_) (fun hc => by exfalso; revert hc; decide)
      exact wp_dropP (leP_d (leP_d (leP_d (leP_d (leP_s (leP_s leP_n)))))) h
  · rw [if_neg hc]; have h := h.2 hc
    refine wp_if_eq (pc' := 20) (tgt := 42) ⟨by decide, by decide⟩ dX11_two_17 rfl rfl (fun hc => ?_) (fun hc => by exfalso; revert hc; decide)
    exact wp_dropP (leP_d (leP_d (leP_d (leP_d (leP_s (leP_s leP_n)))))) h

set_option maxRecDepth 4000 in
theorem gX11_two_42 {Q : QT} {I : II} {R : RR} (hR : SR R) 
    (h : Q (vI (-10000)) I R) : wp (kN 89) mX11_two Q 42 [none, none, none, none, none, none] [] I R 89 := by
  refine wp_sipush (pc' := 45) (by decide) dX11_two_42 rfl ?_
  exact wp_ireturn dX11_two_45 rfl rfl h

set_option maxRecDepth 4000 in
theorem gX11_two_57 {Q : QT} {I : II} {R : RR} (hR : SR R) {a2 : Int} {a3 : Int} {a4 : Int} {a5 : Int}
    (h : (InI a5) ∧
      (((10 : Int) < a5 →
      (InI a3) ∧
      ((¬ a3 = 0 →
      Q (vI a4) I R) ∧ (a3 = 0 →
      (∃ Q3 : QT, Spec mX11_carried [vR 68, vI a4, vI a2] I R 89 89 Q3 ∧ (∀ x3 I3 R3, Q3 (vI x3) I3 R3 →
      R = R3 ∧ Q (vI x3) I3 R))))) ∧ (¬ (10 : Int) < a5 →
      (∃ Q4 : QT, Spec mX11_carried [vR 68, vI a5, vI a2] I R 89 89 Q4 ∧ (∀ x4 I4 R4, Q4 (vI x4) I4 R4 →
      R = R4 ∧ (∃ Q5 : QT, Spec mX11_carried [vR 68, vI a4, vI a2] I4 R 89 89 Q5 ∧ (∀ x5 I5 R5, Q5 (vI x5) I5 R5 →
      R = R5 ∧ (InI x4) ∧
      (InI x5) ∧
      ((x4 ≤ x5 →
      (∃ Q8 : QT, Spec mX11_carried [vR 68, vI (-a5), vI a2] I5 R 89 89 Q8 ∧ (∀ x8 I8 R8, Q8 (vI x8) I8 R8 →
      R = R8 ∧ (∃ Q9 : QT, Spec mX11_carried [vR 68, vI a4, vI a2] I8 R 89 89 Q9 ∧ (∀ x9 I9 R9, Q9 (vI x9) I9 R9 →
      R = R9 ∧ (InI x8) ∧
      (InI x9) ∧
      ((x8 ≤ x9 →
      wp (kN 89) mX11_two Q 57 [vR 68, none, vI a2, vI a3, vI a4, vI (a5 + 1)] [] I9 R 89) ∧ (¬ (x8 ≤ x9) →
      wp (kN 89) mX11_two Q 57 [vR 68, none, vI a2, vI a3, vI (-a5), vI (a5 + 1)] [] I9 R 89))))))) ∧ (¬ (x4 ≤ x5) →
      (∃ Q12 : QT, Spec mX11_carried [vR 68, vI (-a5), vI a2] I5 R 89 89 Q12 ∧ (∀ x12 I12 R12, Q12 (vI x12) I12 R12 →
      R = R12 ∧ (∃ Q13 : QT, Spec mX11_carried [vR 68, vI a5, vI a2] I12 R 89 89 Q13 ∧ (∀ x13 I13 R13, Q13 (vI x13) I13 R13 →
      R = R13 ∧ (InI x12) ∧
      (InI x13) ∧
      ((x12 ≤ x13 →
      wp (kN 89) mX11_two Q 57 [vR 68, none, vI a2, vI a3, vI a5, vI (a5 + 1)] [] I13 R 89) ∧ (¬ (x12 ≤ x13) →
      wp (kN 89) mX11_two Q 57 [vR 68, none, vI a2, vI a3, vI (-a5), vI (a5 + 1)] [] I13 R 89))))))))))))))) : wp (kN 89) mX11_two Q 57 [vR 68, none, vI a2, vI a3, vI a4, vI a5] [] I R 89 := by
  refine wp_iload (pc' := 59) (i := 5) rfl dX11_two_57 rfl ?_
  refine wp_bipush (pc' := 61) (by decide) dX11_two_59 rfl ?_
  obtain ⟨h1, h⟩ := h
  refine wp_icmp_gt (pc' := 64) (tgt := 124) h1 ⟨by decide, by decide⟩ dX11_two_61 rfl rfl (fun hc => ?_) (fun hc => ?_)
  · have h := h.1 hc
    refine wp_iload_n (pc' := 125) (q := 3) (i := 3) rfl rfl dX11_two_124 rfl ?_
    obtain ⟨h2, h⟩ := h
    refine wp_if_ne (pc' := 128) (tgt := 138) h2 dX11_two_125 rfl rfl (fun hc => ?_) (fun hc => ?_)
    · have h := h.1 hc
      refine wp_iload (pc' := 140) (i := 4) rfl dX11_two_138 rfl ?_
      exact wp_ireturn dX11_two_140 rfl rfl h
    · have h := h.2 hc
      refine wp_aload_n (pc' := 129) (q := 0) (i := 0) rfl rfl dX11_two_128 rfl ?_
      refine wp_iload (pc' := 131) (i := 4) rfl dX11_two_129 rfl ?_
      refine wp_iload_n (pc' := 132) (q := 2) (i := 2) rfl rfl dX11_two_131 rfl ?_
      obtain ⟨Q3, hs3, h⟩ := h
      refine wp_callV (pc' := 135) (as := [vI a4, vI a2]) (rest := []) hs3 dX11_two_132 rfl lkX11_277 okX11_carried inX11_carried seX11_carried o_68 vc10 ⟨Nat.le_of_ble_eq_true rfl, Nat.le_of_ble_eq_true rfl⟩ (Nat.le_of_ble_eq_true rfl) (Nat.le_refl _) (Nat.le_refl _) okP_eq okP_eq rfl (rvI rfl (fun x3 I3 R3 hq3 => ?_))
      obtain ⟨hRR3, h⟩ := h x3 I3 R3 hq3; subst hRR3
      refine wp_goto (tgt := 140) dX11_two_135 rfl ?_
      exact wp_ireturn dX11_two_140 rfl rfl h
  · have h := h.2 hc
    refine wp_aload_n (pc' := 65) (q := 0) (i := 0) rfl rfl dX11_two_64 rfl ?_
    refine wp_iload (pc' := 67) (i := 5) rfl dX11_two_65 rfl ?_
    refine wp_iload_n (pc' := 68) (q := 2) (i := 2) rfl rfl dX11_two_67 rfl ?_
    obtain ⟨Q4, hs4, h⟩ := h
    refine wp_callV (pc' := 71) (as := [vI a5, vI a2]) (rest := []) hs4 dX11_two_68 rfl lkX11_277 okX11_carried inX11_carried seX11_carried o_68 vc10 ⟨Nat.le_of_ble_eq_true rfl, Nat.le_of_ble_eq_true rfl⟩ (Nat.le_of_ble_eq_true rfl) (Nat.le_refl _) (Nat.le_refl _) okP_eq okP_eq rfl (rvI rfl (fun x4 I4 R4 hq4 => ?_))
    obtain ⟨hRR4, h⟩ := h x4 I4 R4 hq4; subst hRR4
    refine wp_aload_n (pc' := 72) (q := 0) (i := 0) rfl rfl dX11_two_71 rfl ?_
    refine wp_iload (pc' := 74) (i := 4) rfl dX11_two_72 rfl ?_
    refine wp_iload_n (pc' := 75) (q := 2) (i := 2) rfl rfl dX11_two_74 rfl ?_
    obtain ⟨Q5, hs5, h⟩ := h
    refine wp_callV (pc' := 78) (as := [vI a4, vI a2]) (rest := [vI x4]) hs5 dX11_two_75 rfl lkX11_277 okX11_carried inX11_carried seX11_carried o_68 vc10 ⟨Nat.le_of_ble_eq_true rfl, Nat.le_of_ble_eq_true rfl⟩ (Nat.le_of_ble_eq_true rfl) (Nat.le_refl _) (Nat.le_refl _) okP_eq okP_eq rfl (rvI rfl (fun x5 I5 R5 hq5 => ?_))
    obtain ⟨hRR5, h⟩ := h x5 I5 R5 hq5; subst hRR5
    obtain ⟨h6, h⟩ := h
    obtain ⟨h7, h⟩ := h
    refine wp_icmp_le (pc' := 81) (tgt := 86) h6 h7 dX11_two_78 rfl rfl (fun hc => ?_) (fun hc => ?_)
    · have h := h.1 hc
      refine wp_iload (pc' := 88) (i := 4) rfl dX11_two_86 rfl ?_
      refine wp_istore (pc' := 90) (i := 4) (L' := [vR 68, none, vI a2, vI a3, vI a4, vI a5]) (by decide) rfl dX11_two_88 rfl rfl ?_
      refine wp_aload_n (pc' := 91) (q := 0) (i := 0) rfl rfl dX11_two_90 rfl ?_
      refine wp_iload (pc' := 93) (i := 5) rfl dX11_two_91 rfl ?_
      refine wp_ineg (pc' := 94) dX11_two_93 rfl ?_
      refine wp_iload_n (pc' := 95) (q := 2) (i := 2) rfl rfl dX11_two_94 rfl ?_
      obtain ⟨Q8, hs8, h⟩ := h
      refine wp_callV (pc' := 98) (as := [vI (-a5), vI a2]) (rest := []) hs8 dX11_two_95 rfl lkX11_277 okX11_carried inX11_carried seX11_carried o_68 vc10 ⟨Nat.le_of_ble_eq_true rfl, Nat.le_of_ble_eq_true rfl⟩ (Nat.le_of_ble_eq_true rfl) (Nat.le_refl _) (Nat.le_refl _) okP_eq okP_eq rfl (rvI rfl (fun x8 I8 R8 hq8 => ?_))
      obtain ⟨hRR8, h⟩ := h x8 I8 R8 hq8; subst hRR8
      refine wp_aload_n (pc' := 99) (q := 0) (i := 0) rfl rfl dX11_two_98 rfl ?_
      refine wp_iload (pc' := 101) (i := 4) rfl dX11_two_99 rfl ?_
      refine wp_iload_n (pc' := 102) (q := 2) (i := 2) rfl rfl dX11_two_101 rfl ?_
      obtain ⟨Q9, hs9, h⟩ := h
      refine wp_callV (pc' := 105) (as := [vI a4, vI a2]) (rest := [vI x8]) hs9 dX11_two_102 rfl lkX11_277 okX11_carried inX11_carried seX11_carried o_68 vc10 ⟨Nat.le_of_ble_eq_true rfl, Nat.le_of_ble_eq_true rfl⟩ (Nat.le_of_ble_eq_true rfl) (Nat.le_refl _) (Nat.le_refl _) okP_eq okP_eq rfl (rvI rfl (fun x9 I9 R9 hq9 => ?_))
      obtain ⟨hRR9, h⟩ := h x9 I9 R9 hq9; subst hRR9
      obtain ⟨h10, h⟩ := h
      obtain ⟨h11, h⟩ := h
      refine wp_icmp_le (pc' := 108) (tgt := 114) h10 h11 dX11_two_105 rfl rfl (fun hc => ?_) (fun hc => ?_)
      · have h := h.1 hc
        refine wp_iload (pc' := 116) (i := 4) rfl dX11_two_114 rfl ?_
        refine wp_istore (pc' := 118) (i := 4) (L' := [vR 68, none, vI a2, vI a3, vI a4, vI a5]) (by decide) rfl dX11_two_116 rfl rfl ?_
        refine wp_iinc (pc' := 121) (i := 5) (L' := [vR 68, none, vI a2, vI a3, vI a4, vI (a5 + 1)]) rfl (by decide) rfl dX11_two_118 rfl rfl ?_
        refine wp_goto (tgt := 57) dX11_two_121 rfl ?_
        exact h
      · have h := h.2 hc
        refine wp_iload (pc' := 110) (i := 5) rfl dX11_two_108 rfl ?_
        refine wp_ineg (pc' := 111) dX11_two_110 rfl ?_
        refine wp_goto (tgt := 116) dX11_two_111 rfl ?_
        refine wp_istore (pc' := 118) (i := 4) (L' := [vR 68, none, vI a2, vI a3, vI (-a5), vI a5]) (by decide) rfl dX11_two_116 rfl rfl ?_
        refine wp_iinc (pc' := 121) (i := 5) (L' := [vR 68, none, vI a2, vI a3, vI (-a5), vI (a5 + 1)]) rfl (by decide) rfl dX11_two_118 rfl rfl ?_
        refine wp_goto (tgt := 57) dX11_two_121 rfl ?_
        exact h
    · have h := h.2 hc
      refine wp_iload (pc' := 83) (i := 5) rfl dX11_two_81 rfl ?_
      refine wp_goto (tgt := 88) dX11_two_83 rfl ?_
      refine wp_istore (pc' := 90) (i := 4) (L' := [vR 68, none, vI a2, vI a3, vI a5, vI a5]) (by decide) rfl dX11_two_88 rfl rfl ?_
      refine wp_aload_n (pc' := 91) (q := 0) (i := 0) rfl rfl dX11_two_90 rfl ?_
      refine wp_iload (pc' := 93) (i := 5) rfl dX11_two_91 rfl ?_
      refine wp_ineg (pc' := 94) dX11_two_93 rfl ?_
      refine wp_iload_n (pc' := 95) (q := 2) (i := 2) rfl rfl dX11_two_94 rfl ?_
      obtain ⟨Q12, hs12, h⟩ := h
      refine wp_callV (pc' := 98) (as := [vI (-a5), vI a2]) (rest := []) hs12 dX11_two_95 rfl lkX11_277 okX11_carried inX11_carried seX11_carried o_68 vc10 ⟨Nat.le_of_ble_eq_true rfl, Nat.le_of_ble_eq_true rfl⟩ (Nat.le_of_ble_eq_true rfl) (Nat.le_refl _) (Nat.le_refl _) okP_eq okP_eq rfl (rvI rfl (fun x12 I12 R12 hq12 => ?_))
      obtain ⟨hRR12, h⟩ := h x12 I12 R12 hq12; subst hRR12
      refine wp_aload_n (pc' := 99) (q := 0) (i := 0) rfl rfl dX11_two_98 rfl ?_
      refine wp_iload (pc' := 101) (i := 4) rfl dX11_two_99 rfl ?_
      refine wp_iload_n (pc' := 102) (q := 2) (i := 2) rfl rfl dX11_two_101 rfl ?_
      obtain ⟨Q13, hs13, h⟩ := h
      refine wp_callV (pc' := 105) (as := [vI a5, vI a2]) (rest := [vI x12]) hs13 dX11_two_102 rfl lkX11_277 okX11_carried inX11_carried seX11_carried o_68 vc10 ⟨Nat.le_of_ble_eq_true rfl, Nat.le_of_ble_eq_true rfl⟩ (Nat.le_of_ble_eq_true rfl) (Nat.le_refl _) (Nat.le_refl _) okP_eq okP_eq rfl (rvI rfl (fun x13 I13 R13 hq13 => ?_))
      obtain ⟨hRR13, h⟩ := h x13 I13 R13 hq13; subst hRR13
      obtain ⟨h14, h⟩ := h
      obtain ⟨h15, h⟩ := h
      refine wp_icmp_le (pc' := 108) (tgt := 114) h14 h15 dX11_two_105 rfl rfl (fun hc => ?_) (fun hc => ?_)
      · have h := h.1 hc
        refine wp_iload (pc' := 116) (i := 4) rfl dX11_two_114 rfl ?_
        refine wp_istore (pc' := 118) (i := 4) (L' := [vR 68, none, vI a2, vI a3, vI a5, vI a5]) (by decide) rfl dX11_two_116 rfl rfl ?_
        refine wp_iinc (pc' := 121) (i := 5) (L' := [vR 68, none, vI a2, vI a3, vI a5, vI (a5 + 1)]) rfl (by decide) rfl dX11_two_118 rfl rfl ?_
        refine wp_goto (tgt := 57) dX11_two_121 rfl ?_
        exact h
      · have h := h.2 hc
        refine wp_iload (pc' := 110) (i := 5) rfl dX11_two_108 rfl ?_
        refine wp_ineg (pc' := 111) dX11_two_110 rfl ?_
        refine wp_goto (tgt := 116) dX11_two_111 rfl ?_
        refine wp_istore (pc' := 118) (i := 4) (L' := [vR 68, none, vI a2, vI a3, vI (-a5), vI a5]) (by decide) rfl dX11_two_116 rfl rfl ?_
        refine wp_iinc (pc' := 121) (i := 5) (L' := [vR 68, none, vI a2, vI a3, vI (-a5), vI (a5 + 1)]) rfl (by decide) rfl dX11_two_118 rfl rfl ?_
        refine wp_goto (tgt := 57) dX11_two_121 rfl ?_
        exact h

theorem sX11_copyLog {Q : QT} {I : II} {R : RR} {a1 : Int} {a2 : Int} (h : wp (kN 89) mX11_copyLog Q 0 [vR 68, vI a1, vI a2, none] [] I R 89) : Spec mX11_copyLog [vR 68, vI a1, vI a2] I R 89 89 Q := Spec_of_wp pyX11_copyLog rfl (Nat.le_of_ble_eq_true rfl) (Nat.le_refl _) (by decide) h

set_option maxRecDepth 4000 in
theorem gX11_copyLog_0 {Q : QT} {I : II} {R : RR} (hR : SR R) {a1 : Int} {a2 : Int}
    (h : (0 ≤ a1 ∧ a1 < 3) ∧
      (0 ≤ a2 ∧ a2 < 3) ∧
      (∀ I3 : II, I3 = up2 I 75 (a2.toNat) (I 75 a1.toNat) →
      wp (kN 89) mX11_copyLog Q 14 [vR 68, vI a1, vI a2, vI 0] [] I3 R 89)) : wp (kN 89) mX11_copyLog Q 0 [vR 68, vI a1, vI a2, none] [] I R 89 := by
  refine wp_aload_n (pc' := 1) (q := 0) (i := 0) rfl rfl dX11_copyLog_0 rfl ?_
  refine wp_getRc (pc' := 4) (k := 7) (j := 75) dX11_copyLog_1 vc10 (by decide) rfl lfX11_28 o_68 (r_68_7 hR) rfl ?_
  refine wp_iload_n (pc' := 5) (q := 2) (i := 2) rfl rfl dX11_copyLog_4 rfl ?_
  refine wp_aload_n (pc' := 6) (q := 0) (i := 0) rfl rfl dX11_copyLog_5 rfl ?_
  refine wp_getRc (pc' := 9) (k := 7) (j := 75) dX11_copyLog_6 vc10 (by decide) rfl lfX11_28 o_68 (r_68_7 hR) rfl ?_
  refine wp_iload_n (pc' := 10) (q := 1) (i := 1) rfl rfl dX11_copyLog_9 rfl ?_
  obtain ⟨h1, h⟩ := h
  refine wp_iald (pc' := 11) (j := a1.toNat) dX11_copyLog_10 a_75 h1 rfl rfl ?_
  obtain ⟨h2, h⟩ := h
  obtain ⟨I3, eI3⟩ : ∃ z : II, z = up2 I 75 (a2.toNat) (I 75 a1.toNat) := ⟨_, rfl⟩
  have h := h I3 eI3
  refine wp_iast (pc' := 12) (j := a2.toNat) (I' := I3) dX11_copyLog_11 a_75 h2 rfl rfl eI3 ?_
  refine wp_iconst (pc' := 13) dX11_copyLog_12 rfl ?_
  refine wp_istore_n (pc' := 14) (q := 3) (i := 3) (L' := [vR 68, vI a1, vI a2, vI 0]) rfl (by decide) rfl dX11_copyLog_13 rfl rfl ?_
  exact h

set_option maxRecDepth 4000 in
theorem gX11_copyLog_14 {Q : QT} {I : II} {R : RR} (hR : SR R) {a1 : Int} {a2 : Int} {a3 : Int}
    (h : (0 ≤ a1 ∧ a1 < 3) ∧
      (InI a3) ∧
      (InI (I 75 a1.toNat)) ∧
      (((I 75 a1.toNat) ≤ a3 →
      Q none I R) ∧ (¬ (I 75 a1.toNat) ≤ a3 →
      (0 ≤ ((200 * a1) + a3) ∧ ((200 * a1) + a3) < 600) ∧
      (0 ≤ ((200 * a2) + a3) ∧ ((200 * a2) + a3) < 600) ∧
      (∀ I6 : II, I6 = up2 I 76 (((200 * a2) + a3).toNat) (I 76 ((200 * a1) + a3).toNat) →
      (∀ I7 : II, I7 = up2 I6 77 (((200 * a2) + a3).toNat) (I6 77 ((200 * a1) + a3).toNat) →
      (∀ I8 : II, I8 = up2 I7 78 (((200 * a2) + a3).toNat) (I7 78 ((200 * a1) + a3).toNat) →
      (∀ I9 : II, I9 = up2 I8 79 (((200 * a2) + a3).toNat) (I8 79 ((200 * a1) + a3).toNat) →
      wp (kN 89) mX11_copyLog Q 14 [vR 68, vI a1, vI a2, vI (a3 + 1)] [] I9 R 89))))))) : wp (kN 89) mX11_copyLog Q 14 [vR 68, vI a1, vI a2, vI a3] [] I R 89 := by
  refine wp_iload_n (pc' := 15) (q := 3) (i := 3) rfl rfl dX11_copyLog_14 rfl ?_
  refine wp_aload_n (pc' := 16) (q := 0) (i := 0) rfl rfl dX11_copyLog_15 rfl ?_
  refine wp_getRc (pc' := 19) (k := 7) (j := 75) dX11_copyLog_16 vc10 (by decide) rfl lfX11_28 o_68 (r_68_7 hR) rfl ?_
  refine wp_iload_n (pc' := 20) (q := 1) (i := 1) rfl rfl dX11_copyLog_19 rfl ?_
  obtain ⟨h1, h⟩ := h
  refine wp_iald (pc' := 21) (j := a1.toNat) dX11_copyLog_20 a_75 h1 rfl rfl ?_
  obtain ⟨h2, h⟩ := h
  obtain ⟨h3, h⟩ := h
  refine wp_icmp_ge (pc' := 24) (tgt := 126) h2 h3 dX11_copyLog_21 rfl rfl (fun hc => ?_) (fun hc => ?_)
  · have h := h.1 hc
    exact wp_vreturn dX11_copyLog_126 rfl rfl h
  · have h := h.2 hc
    refine wp_aload_n (pc' := 25) (q := 0) (i := 0) rfl rfl dX11_copyLog_24 rfl ?_
    refine wp_getRc (pc' := 28) (k := 8) (j := 76) dX11_copyLog_25 vc10 (by decide) rfl lfX11_31 o_68 (r_68_8 hR) rfl ?_
    refine wp_sipush (pc' := 31) (by decide) dX11_copyLog_28 rfl ?_
    refine wp_iload_n (pc' := 32) (q := 2) (i := 2) rfl rfl dX11_copyLog_31 rfl ?_
    refine wp_imul (pc' := 33) dX11_copyLog_32 rfl ?_
    refine wp_iload_n (pc' := 34) (q := 3) (i := 3) rfl rfl dX11_copyLog_33 rfl ?_
    refine wp_iadd (pc' := 35) dX11_copyLog_34 rfl ?_
    refine wp_aload_n (pc' := 36) (q := 0) (i := 0) rfl rfl dX11_copyLog_35 rfl ?_
    refine wp_getRc (pc' := 39) (k := 8) (j := 76) dX11_copyLog_36 vc10 (by decide) rfl lfX11_31 o_68 (r_68_8 hR) rfl ?_
    refine wp_sipush (pc' := 42) (by decide) dX11_copyLog_39 rfl ?_
    refine wp_iload_n (pc' := 43) (q := 1) (i := 1) rfl rfl dX11_copyLog_42 rfl ?_
    refine wp_imul (pc' := 44) dX11_copyLog_43 rfl ?_
    refine wp_iload_n (pc' := 45) (q := 3) (i := 3) rfl rfl dX11_copyLog_44 rfl ?_
    refine wp_iadd (pc' := 46) dX11_copyLog_45 rfl ?_
    obtain ⟨h4, h⟩ := h
    refine wp_iald (pc' := 47) (j := ((200 * a1) + a3).toNat) dX11_copyLog_46 a_76 h4 rfl rfl ?_
    obtain ⟨h5, h⟩ := h
    obtain ⟨I6, eI6⟩ : ∃ z : II, z = up2 I 76 (((200 * a2) + a3).toNat) (I 76 ((200 * a1) + a3).toNat) := ⟨_, rfl⟩
    have h := h I6 eI6
    refine wp_iast (pc' := 48) (j := ((200 * a2) + a3).toNat) (I' := I6) dX11_copyLog_47 a_76 h5 rfl rfl eI6 ?_
    refine wp_aload_n (pc' := 49) (q := 0) (i := 0) rfl rfl dX11_copyLog_48 rfl ?_
    refine wp_getRc (pc' := 52) (k := 9) (j := 77) dX11_copyLog_49 vc10 (by decide) rfl lfX11_34 o_68 (r_68_9 hR) rfl ?_
    refine wp_sipush (pc' := 55) (by decide) dX11_copyLog_52 rfl ?_
    refine wp_iload_n (pc' := 56) (q := 2) (i := 2) rfl rfl dX11_copyLog_55 rfl ?_
    refine wp_imul (pc' := 57) dX11_copyLog_56 rfl ?_
    refine wp_iload_n (pc' := 58) (q := 3) (i := 3) rfl rfl dX11_copyLog_57 rfl ?_
    refine wp_iadd (pc' := 59) dX11_copyLog_58 rfl ?_
    refine wp_aload_n (pc' := 60) (q := 0) (i := 0) rfl rfl dX11_copyLog_59 rfl ?_
    refine wp_getRc (pc' := 63) (k := 9) (j := 77) dX11_copyLog_60 vc10 (by decide) rfl lfX11_34 o_68 (r_68_9 hR) rfl ?_
    refine wp_sipush (pc' := 66) (by decide) dX11_copyLog_63 rfl ?_
    refine wp_iload_n (pc' := 67) (q := 1) (i := 1) rfl rfl dX11_copyLog_66 rfl ?_
    refine wp_imul (pc' := 68) dX11_copyLog_67 rfl ?_
    refine wp_iload_n (pc' := 69) (q := 3) (i := 3) rfl rfl dX11_copyLog_68 rfl ?_
    refine wp_iadd (pc' := 70) dX11_copyLog_69 rfl ?_
    refine wp_iald (pc' := 71) (j := ((200 * a1) + a3).toNat) dX11_copyLog_70 a_77 h4 rfl rfl ?_
    obtain ⟨I7, eI7⟩ : ∃ z : II, z = up2 I6 77 (((200 * a2) + a3).toNat) (I6 77 ((200 * a1) + a3).toNat) := ⟨_, rfl⟩
    have h := h I7 eI7
    refine wp_iast (pc' := 72) (j := ((200 * a2) + a3).toNat) (I' := I7) dX11_copyLog_71 a_77 h5 rfl rfl eI7 ?_
    refine wp_aload_n (pc' := 73) (q := 0) (i := 0) rfl rfl dX11_copyLog_72 rfl ?_
    refine wp_getRc (pc' := 76) (k := 10) (j := 78) dX11_copyLog_73 vc10 (by decide) rfl lfX11_37 o_68 (r_68_10 hR) rfl ?_
    refine wp_sipush (pc' := 79) (by decide) dX11_copyLog_76 rfl ?_
    refine wp_iload_n (pc' := 80) (q := 2) (i := 2) rfl rfl dX11_copyLog_79 rfl ?_
    refine wp_imul (pc' := 81) dX11_copyLog_80 rfl ?_
    refine wp_iload_n (pc' := 82) (q := 3) (i := 3) rfl rfl dX11_copyLog_81 rfl ?_
    refine wp_iadd (pc' := 83) dX11_copyLog_82 rfl ?_
    refine wp_aload_n (pc' := 84) (q := 0) (i := 0) rfl rfl dX11_copyLog_83 rfl ?_
    refine wp_getRc (pc' := 87) (k := 10) (j := 78) dX11_copyLog_84 vc10 (by decide) rfl lfX11_37 o_68 (r_68_10 hR) rfl ?_
    refine wp_sipush (pc' := 90) (by decide) dX11_copyLog_87 rfl ?_
    refine wp_iload_n (pc' := 91) (q := 1) (i := 1) rfl rfl dX11_copyLog_90 rfl ?_
    refine wp_imul (pc' := 92) dX11_copyLog_91 rfl ?_
    refine wp_iload_n (pc' := 93) (q := 3) (i := 3) rfl rfl dX11_copyLog_92 rfl ?_
    refine wp_iadd (pc' := 94) dX11_copyLog_93 rfl ?_
    refine wp_iald (pc' := 95) (j := ((200 * a1) + a3).toNat) dX11_copyLog_94 a_78 h4 rfl rfl ?_
    obtain ⟨I8, eI8⟩ : ∃ z : II, z = up2 I7 78 (((200 * a2) + a3).toNat) (I7 78 ((200 * a1) + a3).toNat) := ⟨_, rfl⟩
    have h := h I8 eI8
    refine wp_iast (pc' := 96) (j := ((200 * a2) + a3).toNat) (I' := I8) dX11_copyLog_95 a_78 h5 rfl rfl eI8 ?_
    refine wp_aload_n (pc' := 97) (q := 0) (i := 0) rfl rfl dX11_copyLog_96 rfl ?_
    refine wp_getRc (pc' := 100) (k := 11) (j := 79) dX11_copyLog_97 vc10 (by decide) rfl lfX11_40 o_68 (r_68_11 hR) rfl ?_
    refine wp_sipush (pc' := 103) (by decide) dX11_copyLog_100 rfl ?_
    refine wp_iload_n (pc' := 104) (q := 2) (i := 2) rfl rfl dX11_copyLog_103 rfl ?_
    refine wp_imul (pc' := 105) dX11_copyLog_104 rfl ?_
    refine wp_iload_n (pc' := 106) (q := 3) (i := 3) rfl rfl dX11_copyLog_105 rfl ?_
    refine wp_iadd (pc' := 107) dX11_copyLog_106 rfl ?_
    refine wp_aload_n (pc' := 108) (q := 0) (i := 0) rfl rfl dX11_copyLog_107 rfl ?_
    refine wp_getRc (pc' := 111) (k := 11) (j := 79) dX11_copyLog_108 vc10 (by decide) rfl lfX11_40 o_68 (r_68_11 hR) rfl ?_
    refine wp_sipush (pc' := 114) (by decide) dX11_copyLog_111 rfl ?_
    refine wp_iload_n (pc' := 115) (q := 1) (i := 1) rfl rfl dX11_copyLog_114 rfl ?_
    refine wp_imul (pc' := 116) dX11_copyLog_115 rfl ?_
    refine wp_iload_n (pc' := 117) (q := 3) (i := 3) rfl rfl dX11_copyLog_116 rfl ?_
    refine wp_iadd (pc' := 118) dX11_copyLog_117 rfl ?_
    refine wp_iald (pc' := 119) (j := ((200 * a1) + a3).toNat) dX11_copyLog_118 a_79 h4 rfl rfl ?_
    obtain ⟨I9, eI9⟩ : ∃ z : II, z = up2 I8 79 (((200 * a2) + a3).toNat) (I8 79 ((200 * a1) + a3).toNat) := ⟨_, rfl⟩
    have h := h I9 eI9
    refine wp_iast (pc' := 120) (j := ((200 * a2) + a3).toNat) (I' := I9) dX11_copyLog_119 a_79 h5 rfl rfl eI9 ?_
    refine wp_iinc (pc' := 123) (i := 3) (L' := [vR 68, vI a1, vI a2, vI (a3 + 1)]) rfl (by decide) rfl dX11_copyLog_120 rfl rfl ?_
    refine wp_goto (tgt := 14) dX11_copyLog_123 rfl ?_
    exact h

theorem sX11_keep {Q : QT} {I : II} {R : RR}  (h : wp (kN 89) mX11_keep Q 0 [vR 68, none] [] I R 89) : Spec mX11_keep [vR 68] I R 89 89 Q := Spec_of_wp pyX11_keep rfl (Nat.le_of_ble_eq_true rfl) (Nat.le_refl _) (by decide) h

set_option maxRecDepth 4000 in
theorem gX11_keep_0 {Q : QT} {I : II} {R : RR} (hR : SR R) 
    (h : (InI (I 68 13)) ∧
      ((¬ (I 68 13) = (2 : Int) →
      (∀ I2 : II, I2 = up2 I 68 13 ((I 68 13) + 1) →
      (∃ Q3 : QT, Spec mX11_copyLog [vR 68, vI 0, vI (I2 68 13)] I2 R 89 89 Q3 ∧ (∀ I3 R3, Q3 none I3 R3 →
      R = R3 ∧ wp (kN 89) mX11_keep Q 32 [vR 68, vI 0] [] I3 R 89)))) ∧ ((I 68 13) = (2 : Int) →
      Q (vI (-3)) I R))) : wp (kN 89) mX11_keep Q 0 [vR 68, none] [] I R 89 := by
  refine wp_aload_n (pc' := 1) (q := 0) (i := 0) rfl rfl dX11_keep_0 rfl ?_
  refine wp_getI (pc' := 4) (k := 13) dX11_keep_1 vc10 (by decide) rfl lfX11_124 o_68 rfl ?_
  refine wp_iconst (pc' := 5) dX11_keep_4 rfl ?_
  obtain ⟨h1, h⟩ := h
  refine wp_icmp_ne (pc' := 8) (tgt := 11) h1 ⟨by decide, by decide⟩ dX11_keep_5 rfl rfl (fun hc => ?_) (fun hc => ?_)
  · have h := h.1 hc
    refine wp_aload_n (pc' := 12) (q := 0) (i := 0) rfl rfl dX11_keep_11 rfl ?_
    refine wp_dupR (pc' := 13) dX11_keep_12 rfl ?_
    refine wp_getI (pc' := 16) (k := 13) dX11_keep_13 vc10 (by decide) rfl lfX11_124 o_68 rfl ?_
    refine wp_iconst (pc' := 17) dX11_keep_16 rfl ?_
    refine wp_iadd (pc' := 18) dX11_keep_17 rfl ?_
    obtain ⟨I2, eI2⟩ : ∃ z : II, z = up2 I 68 13 ((I 68 13) + 1) := ⟨_, rfl⟩
    have h := h I2 eI2
    refine wp_putI (pc' := 21) (k := 13) (I' := I2) dX11_keep_18 vc10 (by decide) rfl rfl (tyX11_ok 13 (by decide)) lfX11_124 o_68 rfl eI2 ?_
    refine wp_aload_n (pc' := 22) (q := 0) (i := 0) rfl rfl dX11_keep_21 rfl ?_
    refine wp_iconst (pc' := 23) dX11_keep_22 rfl ?_
    refine wp_aload_n (pc' := 24) (q := 0) (i := 0) rfl rfl dX11_keep_23 rfl ?_
    refine wp_getI (pc' := 27) (k := 13) dX11_keep_24 vc10 (by decide) rfl lfX11_124 o_68 rfl ?_
    obtain ⟨Q3, hs3, h⟩ := h
    refine wp_callV (pc' := 30) (as := [vI 0, vI (I2 68 13)]) (rest := []) hs3 dX11_keep_27 rfl lkX11_280 okX11_copyLog inX11_copyLog seX11_copyLog o_68 vc10 ⟨Nat.le_of_ble_eq_true rfl, Nat.le_of_ble_eq_true rfl⟩ (Nat.le_of_ble_eq_true rfl) (Nat.le_refl _) (Nat.le_refl _) okP_eq okP_eq rfl (rvV rfl (fun I3 R3 hq3 => ?_))
    obtain ⟨hRR3, h⟩ := h I3 R3 hq3; subst hRR3
    refine wp_iconst (pc' := 31) dX11_keep_30 rfl ?_
    refine wp_istore_n (pc' := 32) (q := 1) (i := 1) (L' := [vR 68, vI 0]) rfl (by decide) rfl dX11_keep_31 rfl rfl ?_
    exact h
  · have h := h.2 hc
    refine wp_bipush (pc' := 10) (by decide) dX11_keep_8 rfl ?_
    exact wp_ireturn dX11_keep_10 rfl rfl h

set_option maxRecDepth 4000 in
theorem gX11_keep_32 {Q : QT} {I : II} {R : RR} (hR : SR R) {a1 : Int}
    (h : (InI a1) ∧
      (((20 : Int) ≤ a1 →
      Q (vI (I 68 13)) I R) ∧ (¬ (20 : Int) ≤ a1 →
      (0 ≤ a1 ∧ a1 < 40) ∧
      (0 ≤ (((20 * (I 68 13)) - 20) + a1) ∧ (((20 * (I 68 13)) - 20) + a1) < 40) ∧
      (∀ I4 : II, I4 = up2 I 80 ((((20 * (I 68 13)) - 20) + a1).toNat) (I 73 a1.toNat) →
      wp (kN 89) mX11_keep Q 32 [vR 68, vI (a1 + 1)] [] I4 R 89)))) : wp (kN 89) mX11_keep Q 32 [vR 68, vI a1] [] I R 89 := by
  refine wp_iload_n (pc' := 33) (q := 1) (i := 1) rfl rfl dX11_keep_32 rfl ?_
  refine wp_bipush (pc' := 35) (by decide) dX11_keep_33 rfl ?_
  obtain ⟨h1, h⟩ := h
  refine wp_icmp_ge (pc' := 38) (tgt := 67) h1 ⟨by decide, by decide⟩ dX11_keep_35 rfl rfl (fun hc => ?_) (fun hc => ?_)
  · have h := h.1 hc
    refine wp_aload_n (pc' := 68) (q := 0) (i := 0) rfl rfl dX11_keep_67 rfl ?_
    refine wp_getI (pc' := 71) (k := 13) dX11_keep_68 vc10 (by decide) rfl lfX11_124 o_68 rfl ?_
    exact wp_ireturn dX11_keep_71 rfl rfl h
  · have h := h.2 hc
    refine wp_aload_n (pc' := 39) (q := 0) (i := 0) rfl rfl dX11_keep_38 rfl ?_
    refine wp_getRc (pc' := 42) (k := 12) (j := 80) dX11_keep_39 vc10 (by decide) rfl lfX11_43 o_68 (r_68_12 hR) rfl ?_
    refine wp_bipush (pc' := 44) (by decide) dX11_keep_42 rfl ?_
    refine wp_aload_n (pc' := 45) (q := 0) (i := 0) rfl rfl dX11_keep_44 rfl ?_
    refine wp_getI (pc' := 48) (k := 13) dX11_keep_45 vc10 (by decide) rfl lfX11_124 o_68 rfl ?_
    refine wp_imul (pc' := 49) dX11_keep_48 rfl ?_
    refine wp_bipush (pc' := 51) (by decide) dX11_keep_49 rfl ?_
    refine wp_isub (pc' := 52) dX11_keep_51 rfl ?_
    refine wp_iload_n (pc' := 53) (q := 1) (i := 1) rfl rfl dX11_keep_52 rfl ?_
    refine wp_iadd (pc' := 54) dX11_keep_53 rfl ?_
    refine wp_aload_n (pc' := 55) (q := 0) (i := 0) rfl rfl dX11_keep_54 rfl ?_
    refine wp_getRc (pc' := 58) (k := 5) (j := 73) dX11_keep_55 vc10 (by decide) rfl lfX11_22 o_68 (r_68_5 hR) rfl ?_
    refine wp_iload_n (pc' := 59) (q := 1) (i := 1) rfl rfl dX11_keep_58 rfl ?_
    obtain ⟨h2, h⟩ := h
    refine wp_iald (pc' := 60) (j := a1.toNat) dX11_keep_59 a_73 h2 rfl rfl ?_
    obtain ⟨h3, h⟩ := h
    obtain ⟨I4, eI4⟩ : ∃ z : II, z = up2 I 80 ((((20 * (I 68 13)) - 20) + a1).toNat) (I 73 a1.toNat) := ⟨_, rfl⟩
    have h := h I4 eI4
    refine wp_iast (pc' := 61) (j := (((20 * (I 68 13)) - 20) + a1).toNat) (I' := I4) dX11_keep_60 a_80 h3 rfl rfl eI4 ?_
    refine wp_iinc (pc' := 64) (i := 1) (L' := [vR 68, vI (a1 + 1)]) rfl (by decide) rfl dX11_keep_61 rfl rfl ?_
    refine wp_goto (tgt := 32) dX11_keep_64 rfl ?_
    exact h

theorem sX11_back {Q : QT} {I : II} {R : RR}  (h : wp (kN 89) mX11_back Q 0 [vR 68, none] [] I R 89) : Spec mX11_back [vR 68] I R 89 89 Q := Spec_of_wp pyX11_back rfl (Nat.le_of_ble_eq_true rfl) (Nat.le_refl _) (by decide) h

set_option maxRecDepth 4000 in
theorem gX11_back_0 {Q : QT} {I : II} {R : RR} (hR : SR R) 
    (h : (InI (I 68 13)) ∧
      ((¬ (I 68 13) = 0 →
      (∃ Q2 : QT, Spec mX11_copyLog [vR 68, vI (I 68 13), vI 0] I R 89 89 Q2 ∧ (∀ I2 R2, Q2 none I2 R2 →
      R = R2 ∧ wp (kN 89) mX11_back Q 21 [vR 68, vI 0] [] I2 R 89))) ∧ ((I 68 13) = 0 →
      Q (vI (-2)) I R))) : wp (kN 89) mX11_back Q 0 [vR 68, none] [] I R 89 := by
  refine wp_aload_n (pc' := 1) (q := 0) (i := 0) rfl rfl dX11_back_0 rfl ?_
  refine wp_getI (pc' := 4) (k := 13) dX11_back_1 vc10 (by decide) rfl lfX11_124 o_68 rfl ?_
  obtain ⟨h1, h⟩ := h
  refine wp_if_ne (pc' := 7) (tgt := 10) h1 dX11_back_4 rfl rfl (fun hc => ?_) (fun hc => ?_)
  · have h := h.1 hc
    refine wp_aload_n (pc' := 11) (q := 0) (i := 0) rfl rfl dX11_back_10 rfl ?_
    refine wp_aload_n (pc' := 12) (q := 0) (i := 0) rfl rfl dX11_back_11 rfl ?_
    refine wp_getI (pc' := 15) (k := 13) dX11_back_12 vc10 (by decide) rfl lfX11_124 o_68 rfl ?_
    refine wp_iconst (pc' := 16) dX11_back_15 rfl ?_
    obtain ⟨Q2, hs2, h⟩ := h
    refine wp_callV (pc' := 19) (as := [vI (I 68 13), vI 0]) (rest := []) hs2 dX11_back_16 rfl lkX11_280 okX11_copyLog inX11_copyLog seX11_copyLog o_68 vc10 ⟨Nat.le_of_ble_eq_true rfl, Nat.le_of_ble_eq_true rfl⟩ (Nat.le_of_ble_eq_true rfl) (Nat.le_refl _) (Nat.le_refl _) okP_eq okP_eq rfl (rvV rfl (fun I2 R2 hq2 => ?_))
    obtain ⟨hRR2, h⟩ := h I2 R2 hq2; subst hRR2
    refine wp_iconst (pc' := 20) dX11_back_19 rfl ?_
    refine wp_istore_n (pc' := 21) (q := 1) (i := 1) (L' := [vR 68, vI 0]) rfl (by decide) rfl dX11_back_20 rfl rfl ?_
    exact h
  · have h := h.2 hc
    refine wp_bipush (pc' := 9) (by decide) dX11_back_7 rfl ?_
    exact wp_ireturn dX11_back_9 rfl rfl h

set_option maxRecDepth 4000 in
theorem gX11_back_21 {Q : QT} {I : II} {R : RR} (hR : SR R) {a1 : Int}
    (h : (InI a1) ∧
      (((20 : Int) ≤ a1 →
      (∀ I2 : II, I2 = up2 I 68 13 ((I 68 13) - 1) →
      Q (vI (I2 68 13)) I2 R)) ∧ (¬ (20 : Int) ≤ a1 →
      (0 ≤ (((20 * (I 68 13)) - 20) + a1) ∧ (((20 * (I 68 13)) - 20) + a1) < 40) ∧
      (0 ≤ a1 ∧ a1 < 40) ∧
      (∀ I5 : II, I5 = up2 I 73 (a1.toNat) (I 80 (((20 * (I 68 13)) - 20) + a1).toNat) →
      wp (kN 89) mX11_back Q 21 [vR 68, vI (a1 + 1)] [] I5 R 89)))) : wp (kN 89) mX11_back Q 21 [vR 68, vI a1] [] I R 89 := by
  refine wp_iload_n (pc' := 22) (q := 1) (i := 1) rfl rfl dX11_back_21 rfl ?_
  refine wp_bipush (pc' := 24) (by decide) dX11_back_22 rfl ?_
  obtain ⟨h1, h⟩ := h
  refine wp_icmp_ge (pc' := 27) (tgt := 56) h1 ⟨by decide, by decide⟩ dX11_back_24 rfl rfl (fun hc => ?_) (fun hc => ?_)
  · have h := h.1 hc
    refine wp_aload_n (pc' := 57) (q := 0) (i := 0) rfl rfl dX11_back_56 rfl ?_
    refine wp_dupR (pc' := 58) dX11_back_57 rfl ?_
    refine wp_getI (pc' := 61) (k := 13) dX11_back_58 vc10 (by decide) rfl lfX11_124 o_68 rfl ?_
    refine wp_iconst (pc' := 62) dX11_back_61 rfl ?_
    refine wp_isub (pc' := 63) dX11_back_62 rfl ?_
    obtain ⟨I2, eI2⟩ : ∃ z : II, z = up2 I 68 13 ((I 68 13) - 1) := ⟨_, rfl⟩
    have h := h I2 eI2
    refine wp_putI (pc' := 66) (k := 13) (I' := I2) dX11_back_63 vc10 (by decide) rfl rfl (tyX11_ok 13 (by decide)) lfX11_124 o_68 rfl eI2 ?_
    refine wp_aload_n (pc' := 67) (q := 0) (i := 0) rfl rfl dX11_back_66 rfl ?_
    refine wp_getI (pc' := 70) (k := 13) dX11_back_67 vc10 (by decide) rfl lfX11_124 o_68 rfl ?_
    exact wp_ireturn dX11_back_70 rfl rfl h
  · have h := h.2 hc
    refine wp_aload_n (pc' := 28) (q := 0) (i := 0) rfl rfl dX11_back_27 rfl ?_
    refine wp_getRc (pc' := 31) (k := 5) (j := 73) dX11_back_28 vc10 (by decide) rfl lfX11_22 o_68 (r_68_5 hR) rfl ?_
    refine wp_iload_n (pc' := 32) (q := 1) (i := 1) rfl rfl dX11_back_31 rfl ?_
    refine wp_aload_n (pc' := 33) (q := 0) (i := 0) rfl rfl dX11_back_32 rfl ?_
    refine wp_getRc (pc' := 36) (k := 12) (j := 80) dX11_back_33 vc10 (by decide) rfl lfX11_43 o_68 (r_68_12 hR) rfl ?_
    refine wp_bipush (pc' := 38) (by decide) dX11_back_36 rfl ?_
    refine wp_aload_n (pc' := 39) (q := 0) (i := 0) rfl rfl dX11_back_38 rfl ?_
    refine wp_getI (pc' := 42) (k := 13) dX11_back_39 vc10 (by decide) rfl lfX11_124 o_68 rfl ?_
    refine wp_imul (pc' := 43) dX11_back_42 rfl ?_
    refine wp_bipush (pc' := 45) (by decide) dX11_back_43 rfl ?_
    refine wp_isub (pc' := 46) dX11_back_45 rfl ?_
    refine wp_iload_n (pc' := 47) (q := 1) (i := 1) rfl rfl dX11_back_46 rfl ?_
    refine wp_iadd (pc' := 48) dX11_back_47 rfl ?_
    obtain ⟨h3, h⟩ := h
    refine wp_iald (pc' := 49) (j := (((20 * (I 68 13)) - 20) + a1).toNat) dX11_back_48 a_80 h3 rfl rfl ?_
    obtain ⟨h4, h⟩ := h
    obtain ⟨I5, eI5⟩ : ∃ z : II, z = up2 I 73 (a1.toNat) (I 80 (((20 * (I 68 13)) - 20) + a1).toNat) := ⟨_, rfl⟩
    have h := h I5 eI5
    refine wp_iast (pc' := 50) (j := a1.toNat) (I' := I5) dX11_back_49 a_73 h4 rfl rfl eI5 ?_
    refine wp_iinc (pc' := 53) (i := 1) (L' := [vR 68, vI (a1 + 1)]) rfl (by decide) rfl dX11_back_50 rfl rfl ?_
    refine wp_goto (tgt := 21) dX11_back_53 rfl ?_
    exact h

theorem sX11_count {Q : QT} {I : II} {R : RR} {a1 : Int} (h : wp (kN 89) mX11_count Q 0 [vR 68, vI a1] [] I R 89) : Spec mX11_count [vR 68, vI a1] I R 89 89 Q := Spec_of_wp pyX11_count rfl (Nat.le_of_ble_eq_true rfl) (Nat.le_refl _) (by decide) h

set_option maxRecDepth 4000 in
theorem gX11_count_0 {Q : QT} {I : II} {R : RR} (hR : SR R) {a1 : Int}
    (h : (InI a1) ∧
      ((a1 < 0 ∨ 6 < a1 →
      Q (vI (-1)) I R) ∧ (a1 = 0 →
      Q (vI (I 70 0)) I R) ∧ (a1 = 1 →
      (∃ Q2 : QT, Spec mX11_manyOf [vR 68, vI 0] I R 89 89 Q2 ∧ (∀ x2 I2 R2, Q2 (vI x2) I2 R2 →
      R = R2 ∧ Q (vI x2) I2 R))) ∧ (a1 = 2 →
      (∃ Q3 : QT, Spec mX11_manyOf [vR 68, vI 1] I R 89 89 Q3 ∧ (∀ x3 I3 R3, Q3 (vI x3) I3 R3 →
      R = R3 ∧ Q (vI x3) I3 R))) ∧ (a1 = 3 →
      Q (vI (I 68 0)) I R) ∧ (a1 = 4 →
      Q (vI (I 75 0)) I R) ∧ (a1 = 5 →
      Q (vI (I 68 13)) I R) ∧ (a1 = 6 →
      Q (vI (I 74 0)) I R))) : wp (kN 89) mX11_count Q 0 [vR 68, vI a1] [] I R 89 := by
  refine wp_iload_n (pc' := 1) (q := 1) (i := 1) rfl rfl dX11_count_0 rfl ?_
  obtain ⟨h1, h⟩ := h
  refine wp_table (tgtD := 87) h1 dX11_count_1 rfl (fun hc => ?_) (fun j hj hle => ?_)
  · have h := h.1 hc
    refine wp_iconst (pc' := 88) dX11_count_87 rfl ?_
    exact wp_ireturn dX11_count_88 rfl rfl h
  · have hj9 : j = 0 ∨ j = 1 ∨ j = 2 ∨ j = 3 ∨ j = 4 ∨ j = 5 ∨ j = 6 := by omega
    rcases hj9 with rfl | rfl | rfl | rfl | rfl | rfl | rfl
    · refine ⟨43, 44, rfl, rfl, ?_⟩
      have h := h.2.1 (by omega)
      refine wp_aload_n (pc' := 45) (q := 0) (i := 0) rfl rfl dX11_count_44 rfl ?_
      refine wp_getRc (pc' := 48) (k := 2) (j := 70) dX11_count_45 vc10 (by decide) rfl lfX11_13 o_68 (r_68_2 hR) rfl ?_
      refine wp_iconst (pc' := 49) dX11_count_48 rfl ?_
      refine wp_iald (pc' := 50) (j := 0) dX11_count_49 a_70 ⟨by decide, by decide⟩ rfl rfl ?_
      exact wp_ireturn dX11_count_50 rfl rfl h
    · refine ⟨50, 51, rfl, rfl, ?_⟩
      have h := h.2.2.1 (by omega)
      refine wp_aload_n (pc' := 52) (q := 0) (i := 0) rfl rfl dX11_count_51 rfl ?_
      refine wp_iconst (pc' := 53) dX11_count_52 rfl ?_
      obtain ⟨Q2, hs2, h⟩ := h
      refine wp_callV (pc' := 56) (as := [vI 0]) (rest := []) hs2 dX11_count_53 rfl lkX11_169 okX11_manyOf inX11_manyOf seX11_manyOf o_68 vc10 ⟨Nat.le_of_ble_eq_true rfl, Nat.le_of_ble_eq_true rfl⟩ (Nat.le_of_ble_eq_true rfl) (Nat.le_refl _) (Nat.le_refl _) okP_eq okP_eq rfl (rvI rfl (fun x2 I2 R2 hq2 => ?_))
      obtain ⟨hRR2, h⟩ := h x2 I2 R2 hq2; subst hRR2
      exact wp_ireturn dX11_count_56 rfl rfl h
    · refine ⟨56, 57, rfl, rfl, ?_⟩
      have h := h.2.2.2.1 (by omega)
      refine wp_aload_n (pc' := 58) (q := 0) (i := 0) rfl rfl dX11_count_57 rfl ?_
      refine wp_iconst (pc' := 59) dX11_count_58 rfl ?_
      obtain ⟨Q3, hs3, h⟩ := h
      refine wp_callV (pc' := 62) (as := [vI 1]) (rest := []) hs3 dX11_count_59 rfl lkX11_169 okX11_manyOf inX11_manyOf seX11_manyOf o_68 vc10 ⟨Nat.le_of_ble_eq_true rfl, Nat.le_of_ble_eq_true rfl⟩ (Nat.le_of_ble_eq_true rfl) (Nat.le_refl _) (Nat.le_refl _) okP_eq okP_eq rfl (rvI rfl (fun x3 I3 R3 hq3 => ?_))
      obtain ⟨hRR3, h⟩ := h x3 I3 R3 hq3; subst hRR3
      exact wp_ireturn dX11_count_62 rfl rfl h
    · refine ⟨62, 63, rfl, rfl, ?_⟩
      have h := h.2.2.2.2.1 (by omega)
      refine wp_aload_n (pc' := 64) (q := 0) (i := 0) rfl rfl dX11_count_63 rfl ?_
      refine wp_getI (pc' := 67) (k := 0) dX11_count_64 vc10 (by decide) rfl lfX11_83 o_68 rfl ?_
      exact wp_ireturn dX11_count_67 rfl rfl h
    · refine ⟨67, 68, rfl, rfl, ?_⟩
      have h := h.2.2.2.2.2.1 (by omega)
      refine wp_aload_n (pc' := 69) (q := 0) (i := 0) rfl rfl dX11_count_68 rfl ?_
      refine wp_getRc (pc' := 72) (k := 7) (j := 75) dX11_count_69 vc10 (by decide) rfl lfX11_28 o_68 (r_68_7 hR) rfl ?_
      refine wp_iconst (pc' := 73) dX11_count_72 rfl ?_
      refine wp_iald (pc' := 74) (j := 0) dX11_count_73 a_75 ⟨by decide, by decide⟩ rfl rfl ?_
      exact wp_ireturn dX11_count_74 rfl rfl h
    · refine ⟨74, 75, rfl, rfl, ?_⟩
      have h := h.2.2.2.2.2.2.1 (by omega)
      refine wp_aload_n (pc' := 76) (q := 0) (i := 0) rfl rfl dX11_count_75 rfl ?_
      refine wp_getI (pc' := 79) (k := 13) dX11_count_76 vc10 (by decide) rfl lfX11_124 o_68 rfl ?_
      exact wp_ireturn dX11_count_79 rfl rfl h
    · refine ⟨79, 80, rfl, rfl, ?_⟩
      have h := h.2.2.2.2.2.2.2 (by omega)
      refine wp_aload_n (pc' := 81) (q := 0) (i := 0) rfl rfl dX11_count_80 rfl ?_
      refine wp_getRc (pc' := 84) (k := 6) (j := 74) dX11_count_81 vc10 (by decide) rfl lfX11_25 o_68 (r_68_6 hR) rfl ?_
      refine wp_iconst (pc' := 85) dX11_count_84 rfl ?_
      refine wp_iald (pc' := 86) (j := 0) dX11_count_85 a_74 ⟨by decide, by decide⟩ rfl rfl ?_
      exact wp_ireturn dX11_count_86 rfl rfl h

