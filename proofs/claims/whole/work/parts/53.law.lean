/-! THE LAW -/
theorem toInt_in (z : Int32) : InI z.toInt := by
  have h1 := z.toBitVec.isLt
  show -2147483648 ≤ z.toBitVec.toInt ∧ z.toBitVec.toInt ≤ 2147483647
  rw [BitVec.toInt_eq_toNat_cond]
  split <;> omega
theorem wp_icmp_same {K : KT} {mt : MI} {Q : QT} {pc : Nat} {L S : List AV} {I : II} {R : RR} {N : Nat} {x : Int} {off : Int} {tgt : Nat} (hd : decode mt.2.1 pc = .ok (.if_icmp .eq off, 3)) (ht : (pc : Int) + off = (tgt : Int)) (kt : wp K mt Q tgt L S I R N) : wp K mt Q pc L (vI x :: vI x :: S) I R N := by
  intro p l e Rm s m args below meth c A D ρ0 ca0 N0 QQ g H locs ls ρ ca hs
  exact lv_icmp_eq g.1 g.2.1 hd ht (fun _ => kt p l e Rm s m args below meth c A D ρ0 ca0 N0 QQ g H locs ls ρ ca hs) (fun h => absurd rfl h)
theorem lg_same (x : Int64) : lg_cmp x x = i32 0 := by
  unfold lg_cmp
  rw [if_neg (by rw [gt_iff_lt, Int64.lt_iff_toInt_lt]; omega), if_pos rfl]
  rfl
theorem wp_lcmp_same {K : KT} {mt : MI} {Q : QT} {pc pc' : Nat} {L S : List AV} {I : II} {R : RR} {N : Nat} {x : Int} (hd : decode mt.2.1 pc = .ok (.lcmp, 1)) (hp : pc + 1 = pc') (kk : wp K mt Q pc' L (vI 0 :: S) I R N) : wp K mt Q pc L (vL x :: vL x :: S) I R N := by
  subst hp
  refine wp_step (fun p l e Rm s m args below meth c H locs cells slots QQ ls ρ hx hb hl hown hts k => ?_) kk
  refine W.lcmp hx hb hd ?_
  rw [lg_same]; exact k
abbrev KL (SL : Nat) (xs : Nat → Int32) : KT := (89, SL + 1, xs)
def QL : QT := fun rv _ _ => rv = vI 1

set_option maxHeartbeats 4000000 in
theorem lc_0 {SL i : Nat} {xs : Nat → Int32} {I : II} {R : RR} (hi : i + 4 ≤ SL) (hI : Inv I R) (k8 : ∀ I2 R2, Inv I2 R2 → wp (KL SL xs) mL_law QL 800 [vR 1000, vR 1, vR 68, vI (i : Int)] [] I2 R2 89) : wp (KL SL xs) mL_law QL 140 [vR 1000, vR 1, vR 68, vI (i : Int)] [] I R 89 := by
  refine wp_aload_n (pc' := 141) (q := 1) (i := 1) rfl rfl dL_law_140 rfl ?_
  refine wp_aload_n (pc' := 142) (q := 0) (i := 0) rfl rfl dL_law_141 rfl ?_
  refine wp_iload_n (pc' := 143) (q := 3) (i := 3) rfl rfl dL_law_142 rfl ?_
  refine wp_iconst (pc' := 144) dL_law_143 rfl ?_
  refine wp_iadd (pc' := 145) dL_law_144 rfl ?_
  refine wp_sld (pc' := 146) (by decide) dL_law_145 (show 0 ≤ (i : Int) + 1 ∧ (i : Int) + 1 < ((SL + 1 - 1 : Nat) : Int) by omega) rfl ?_
  refine wp_aload_n (pc' := 147) (q := 0) (i := 0) rfl rfl dL_law_146 rfl ?_
  refine wp_iload_n (pc' := 148) (q := 3) (i := 3) rfl rfl dL_law_147 rfl ?_
  refine wp_iconst (pc' := 149) dL_law_148 rfl ?_
  refine wp_iadd (pc' := 150) dL_law_149 rfl ?_
  refine wp_sld (pc' := 151) (by decide) dL_law_150 (show 0 ≤ (i : Int) + 2 ∧ (i : Int) + 2 < ((SL + 1 - 1 : Nat) : Int) by omega) rfl ?_
  refine wp_i2l (pc' := 152) (toInt_in _) dL_law_151 rfl ?_
  refine wp_bipush (pc' := 154) (by decide) dL_law_152 rfl ?_
  refine wp_lshl (pc' := 155) dL_law_154 rfl ?_
  refine wp_aload_n (pc' := 156) (q := 0) (i := 0) rfl rfl dL_law_155 rfl ?_
  refine wp_iload_n (pc' := 157) (q := 3) (i := 3) rfl rfl dL_law_156 rfl ?_
  refine wp_iconst (pc' := 158) dL_law_157 rfl ?_
  refine wp_iadd (pc' := 159) dL_law_158 rfl ?_
  refine wp_sld (pc' := 160) (by decide) dL_law_159 (show 0 ≤ (i : Int) + 3 ∧ (i : Int) + 3 < ((SL + 1 - 1 : Nat) : Int) by omega) rfl ?_
  refine wp_i2l (pc' := 161) (toInt_in _) dL_law_160 rfl ?_
  refine wp_ldc2 (pc' := 164) (x := 4294967295) lcL_13 (by decide +kernel) dL_law_161 rfl ?_
  refine wp_land (pc' := 165) dL_law_164 rfl ?_
  refine wp_lor (pc' := 166) dL_law_165 rfl ?_
  obtain ⟨QX, sX, kX⟩ := pr_write (n := (xs ((i : Int) + 1).toNat).toInt) (v := (i64 ((i64 (xs ((i : Int) + 2).toNat).toInt <<< ((i32 32).toInt64 &&& 63)).toInt) ||| i64 ((i64 ((xs ((i : Int) + 3).toNat).toInt) &&& i64 (4294967295)).toInt)).toInt) hI (toInt_in _)
  refine wp_callV (pc' := 169) (as := [vI (xs ((i : Int) + 1).toNat).toInt, vL (i64 ((i64 (xs ((i : Int) + 2).toNat).toInt <<< ((i32 32).toInt64 &&& 63)).toInt) ||| i64 ((i64 ((xs ((i : Int) + 3).toNat).toInt) &&& i64 (4294967295)).toInt)).toInt]) (rest := []) sX dL_law_166 rfl lkL_15 okX10_write inX10_write seX10_write o_1 vc9 ⟨Nat.le_of_ble_eq_true rfl, Nat.le_of_ble_eq_true rfl⟩ (Nat.le_of_ble_eq_true rfl) (Nat.le_refl _) (Nat.le_refl _) okP_eq okP_eq rfl (rvI rfl (fun x I1 R1 hq1 => ?_))
  obtain ⟨QM, sM, kM⟩ := kX x I1 R1 hq1
  refine wp_aload_n (pc' := 170) (q := 2) (i := 2) rfl rfl dL_law_169 rfl ?_
  refine wp_aload_n (pc' := 171) (q := 0) (i := 0) rfl rfl dL_law_170 rfl ?_
  refine wp_iload_n (pc' := 172) (q := 3) (i := 3) rfl rfl dL_law_171 rfl ?_
  refine wp_iconst (pc' := 173) dL_law_172 rfl ?_
  refine wp_iadd (pc' := 174) dL_law_173 rfl ?_
  refine wp_sld (pc' := 175) (by decide) dL_law_174 (show 0 ≤ (i : Int) + 1 ∧ (i : Int) + 1 < ((SL + 1 - 1 : Nat) : Int) by omega) rfl ?_
  refine wp_aload_n (pc' := 176) (q := 0) (i := 0) rfl rfl dL_law_175 rfl ?_
  refine wp_iload_n (pc' := 177) (q := 3) (i := 3) rfl rfl dL_law_176 rfl ?_
  refine wp_iconst (pc' := 178) dL_law_177 rfl ?_
  refine wp_iadd (pc' := 179) dL_law_178 rfl ?_
  refine wp_sld (pc' := 180) (by decide) dL_law_179 (show 0 ≤ (i : Int) + 2 ∧ (i : Int) + 2 < ((SL + 1 - 1 : Nat) : Int) by omega) rfl ?_
  refine wp_i2l (pc' := 181) (toInt_in _) dL_law_180 rfl ?_
  refine wp_bipush (pc' := 183) (by decide) dL_law_181 rfl ?_
  refine wp_lshl (pc' := 184) dL_law_183 rfl ?_
  refine wp_aload_n (pc' := 185) (q := 0) (i := 0) rfl rfl dL_law_184 rfl ?_
  refine wp_iload_n (pc' := 186) (q := 3) (i := 3) rfl rfl dL_law_185 rfl ?_
  refine wp_iconst (pc' := 187) dL_law_186 rfl ?_
  refine wp_iadd (pc' := 188) dL_law_187 rfl ?_
  refine wp_sld (pc' := 189) (by decide) dL_law_188 (show 0 ≤ (i : Int) + 3 ∧ (i : Int) + 3 < ((SL + 1 - 1 : Nat) : Int) by omega) rfl ?_
  refine wp_i2l (pc' := 190) (toInt_in _) dL_law_189 rfl ?_
  refine wp_ldc2 (pc' := 193) (x := 4294967295) lcL_13 (by decide +kernel) dL_law_190 rfl ?_
  refine wp_land (pc' := 194) dL_law_193 rfl ?_
  refine wp_lor (pc' := 195) dL_law_194 rfl ?_
  refine wp_callV (pc' := 198) (as := [vI (xs ((i : Int) + 1).toNat).toInt, vL (i64 ((i64 (xs ((i : Int) + 2).toNat).toInt <<< ((i32 32).toInt64 &&& 63)).toInt) ||| i64 ((i64 ((xs ((i : Int) + 3).toNat).toInt) &&& i64 (4294967295)).toInt)).toInt]) (rest := [vI x]) sM dL_law_195 rfl lkL_19 okX11_write inX11_write seX11_write o_68 vc10 ⟨Nat.le_of_ble_eq_true rfl, Nat.le_of_ble_eq_true rfl⟩ (Nat.le_of_ble_eq_true rfl) (Nat.le_refl _) (Nat.le_refl _) okP_eq okP_eq rfl (rvI rfl (fun y I2 R2 hq2 => ?_))
  obtain ⟨e2, hI2⟩ := kM y I2 R2 hq2
  rw [e2]
  refine wp_icmp_same (tgt := 800) dL_law_198 rfl ?_
  exact k8 I2 R2 hI2

set_option maxHeartbeats 4000000 in
theorem lc_1 {SL i : Nat} {xs : Nat → Int32} {I : II} {R : RR} (hi : i + 4 ≤ SL) (hI : Inv I R) (k8 : ∀ I2 R2, Inv I2 R2 → wp (KL SL xs) mL_law QL 800 [vR 1000, vR 1, vR 68, vI (i : Int)] [] I2 R2 89) : wp (KL SL xs) mL_law QL 203 [vR 1000, vR 1, vR 68, vI (i : Int)] [] I R 89 := by
  refine wp_aload_n (pc' := 204) (q := 1) (i := 1) rfl rfl dL_law_203 rfl ?_
  obtain ⟨QX, sX, kX⟩ := pr_wipe hI
  refine wp_callV (pc' := 207) (as := []) (rest := []) sX dL_law_204 rfl lkL_20 okX10_wipe inX10_wipe seX10_wipe o_1 vc9 ⟨Nat.le_of_ble_eq_true rfl, Nat.le_of_ble_eq_true rfl⟩ (Nat.le_of_ble_eq_true rfl) (Nat.le_refl _) (Nat.le_refl _) okP_eq okP_eq rfl (rvI rfl (fun x I1 R1 hq1 => ?_))
  obtain ⟨QM, sM, kM⟩ := kX x I1 R1 hq1
  refine wp_aload_n (pc' := 208) (q := 2) (i := 2) rfl rfl dL_law_207 rfl ?_
  refine wp_callV (pc' := 211) (as := []) (rest := [vI x]) sM dL_law_208 rfl lkL_24 okX11_wipe inX11_wipe seX11_wipe o_68 vc10 ⟨Nat.le_of_ble_eq_true rfl, Nat.le_of_ble_eq_true rfl⟩ (Nat.le_of_ble_eq_true rfl) (Nat.le_refl _) (Nat.le_refl _) okP_eq okP_eq rfl (rvI rfl (fun y I2 R2 hq2 => ?_))
  obtain ⟨e2, hI2⟩ := kM y I2 R2 hq2
  rw [e2]
  refine wp_icmp_same (tgt := 800) dL_law_211 rfl ?_
  exact k8 I2 R2 hI2

set_option maxHeartbeats 4000000 in
theorem lc_2 {SL i : Nat} {xs : Nat → Int32} {I : II} {R : RR} (hi : i + 4 ≤ SL) (hI : Inv I R) (k8 : ∀ I2 R2, Inv I2 R2 → wp (KL SL xs) mL_law QL 800 [vR 1000, vR 1, vR 68, vI (i : Int)] [] I2 R2 89) : wp (KL SL xs) mL_law QL 216 [vR 1000, vR 1, vR 68, vI (i : Int)] [] I R 89 := by
  refine wp_aload_n (pc' := 217) (q := 1) (i := 1) rfl rfl dL_law_216 rfl ?_
  obtain ⟨QX, sX, kX⟩ := pr_fault hI
  refine wp_callV (pc' := 220) (as := []) (rest := []) sX dL_law_217 rfl lkL_25 okX10_fault inX10_fault seX10_fault o_1 vc9 ⟨Nat.le_of_ble_eq_true rfl, Nat.le_of_ble_eq_true rfl⟩ (Nat.le_of_ble_eq_true rfl) (Nat.le_refl _) (Nat.le_refl _) okP_eq okP_eq rfl (rvI rfl (fun x I1 R1 hq1 => ?_))
  obtain ⟨QM, sM, kM⟩ := kX x I1 R1 hq1
  refine wp_aload_n (pc' := 221) (q := 2) (i := 2) rfl rfl dL_law_220 rfl ?_
  refine wp_callV (pc' := 224) (as := []) (rest := [vI x]) sM dL_law_221 rfl lkL_28 okX11_fault inX11_fault seX11_fault o_68 vc10 ⟨Nat.le_of_ble_eq_true rfl, Nat.le_of_ble_eq_true rfl⟩ (Nat.le_of_ble_eq_true rfl) (Nat.le_refl _) (Nat.le_refl _) okP_eq okP_eq rfl (rvI rfl (fun y I2 R2 hq2 => ?_))
  obtain ⟨e2, hI2⟩ := kM y I2 R2 hq2
  rw [e2]
  refine wp_icmp_same (tgt := 800) dL_law_224 rfl ?_
  exact k8 I2 R2 hI2

set_option maxHeartbeats 4000000 in
theorem lc_3 {SL i : Nat} {xs : Nat → Int32} {I : II} {R : RR} (hi : i + 4 ≤ SL) (hI : Inv I R) (k8 : ∀ I2 R2, Inv I2 R2 → wp (KL SL xs) mL_law QL 800 [vR 1000, vR 1, vR 68, vI (i : Int)] [] I2 R2 89) : wp (KL SL xs) mL_law QL 229 [vR 1000, vR 1, vR 68, vI (i : Int)] [] I R 89 := by
  refine wp_aload_n (pc' := 230) (q := 1) (i := 1) rfl rfl dL_law_229 rfl ?_
  obtain ⟨QX, sX, kX⟩ := pr_lay hI
  refine wp_callV (pc' := 233) (as := []) (rest := []) sX dL_law_230 rfl lkL_29 okX10_lay inX10_lay seX10_lay o_1 vc9 ⟨Nat.le_of_ble_eq_true rfl, Nat.le_of_ble_eq_true rfl⟩ (Nat.le_of_ble_eq_true rfl) (Nat.le_refl _) (Nat.le_refl _) okP_eq okP_eq rfl (rvI rfl (fun x I1 R1 hq1 => ?_))
  obtain ⟨QM, sM, kM⟩ := kX x I1 R1 hq1
  refine wp_aload_n (pc' := 234) (q := 2) (i := 2) rfl rfl dL_law_233 rfl ?_
  refine wp_callV (pc' := 237) (as := []) (rest := [vI x]) sM dL_law_234 rfl lkL_32 okX11_lay inX11_lay seX11_lay o_68 vc10 ⟨Nat.le_of_ble_eq_true rfl, Nat.le_of_ble_eq_true rfl⟩ (Nat.le_of_ble_eq_true rfl) (Nat.le_refl _) (Nat.le_refl _) okP_eq okP_eq rfl (rvI rfl (fun y I2 R2 hq2 => ?_))
  obtain ⟨e2, hI2⟩ := kM y I2 R2 hq2
  rw [e2]
  refine wp_icmp_same (tgt := 800) dL_law_237 rfl ?_
  exact k8 I2 R2 hI2

set_option maxHeartbeats 4000000 in
theorem lc_4 {SL i : Nat} {xs : Nat → Int32} {I : II} {R : RR} (hi : i + 4 ≤ SL) (hI : Inv I R) (k8 : ∀ I2 R2, Inv I2 R2 → wp (KL SL xs) mL_law QL 800 [vR 1000, vR 1, vR 68, vI (i : Int)] [] I2 R2 89) : wp (KL SL xs) mL_law QL 242 [vR 1000, vR 1, vR 68, vI (i : Int)] [] I R 89 := by
  refine wp_aload_n (pc' := 243) (q := 1) (i := 1) rfl rfl dL_law_242 rfl ?_
  refine wp_aload_n (pc' := 244) (q := 0) (i := 0) rfl rfl dL_law_243 rfl ?_
  refine wp_iload_n (pc' := 245) (q := 3) (i := 3) rfl rfl dL_law_244 rfl ?_
  refine wp_iconst (pc' := 246) dL_law_245 rfl ?_
  refine wp_iadd (pc' := 247) dL_law_246 rfl ?_
  refine wp_sld (pc' := 248) (by decide) dL_law_247 (show 0 ≤ (i : Int) + 1 ∧ (i : Int) + 1 < ((SL + 1 - 1 : Nat) : Int) by omega) rfl ?_
  refine wp_aload_n (pc' := 249) (q := 0) (i := 0) rfl rfl dL_law_248 rfl ?_
  refine wp_iload_n (pc' := 250) (q := 3) (i := 3) rfl rfl dL_law_249 rfl ?_
  refine wp_iconst (pc' := 251) dL_law_250 rfl ?_
  refine wp_iadd (pc' := 252) dL_law_251 rfl ?_
  refine wp_sld (pc' := 253) (by decide) dL_law_252 (show 0 ≤ (i : Int) + 2 ∧ (i : Int) + 2 < ((SL + 1 - 1 : Nat) : Int) by omega) rfl ?_
  obtain ⟨QX, sX, kX⟩ := pr_person hI (toInt_in (xs ((i : Int) + 1).toNat)) (toInt_in (xs ((i : Int) + 2).toNat))
  refine wp_callV (pc' := 256) (as := [vI (xs ((i : Int) + 1).toNat).toInt, vI (xs ((i : Int) + 2).toNat).toInt]) (rest := []) sX dL_law_253 rfl lkL_33 okX10_person inX10_person seX10_person o_1 vc9 ⟨Nat.le_of_ble_eq_true rfl, Nat.le_of_ble_eq_true rfl⟩ (Nat.le_of_ble_eq_true rfl) (Nat.le_refl _) (Nat.le_refl _) okP_eq okP_eq rfl (rvI rfl (fun x I1 R1 hq1 => ?_))
  obtain ⟨QM, sM, kM⟩ := kX x I1 R1 hq1
  refine wp_aload_n (pc' := 257) (q := 2) (i := 2) rfl rfl dL_law_256 rfl ?_
  refine wp_aload_n (pc' := 258) (q := 0) (i := 0) rfl rfl dL_law_257 rfl ?_
  refine wp_iload_n (pc' := 259) (q := 3) (i := 3) rfl rfl dL_law_258 rfl ?_
  refine wp_iconst (pc' := 260) dL_law_259 rfl ?_
  refine wp_iadd (pc' := 261) dL_law_260 rfl ?_
  refine wp_sld (pc' := 262) (by decide) dL_law_261 (show 0 ≤ (i : Int) + 1 ∧ (i : Int) + 1 < ((SL + 1 - 1 : Nat) : Int) by omega) rfl ?_
  refine wp_aload_n (pc' := 263) (q := 0) (i := 0) rfl rfl dL_law_262 rfl ?_
  refine wp_iload_n (pc' := 264) (q := 3) (i := 3) rfl rfl dL_law_263 rfl ?_
  refine wp_iconst (pc' := 265) dL_law_264 rfl ?_
  refine wp_iadd (pc' := 266) dL_law_265 rfl ?_
  refine wp_sld (pc' := 267) (by decide) dL_law_266 (show 0 ≤ (i : Int) + 2 ∧ (i : Int) + 2 < ((SL + 1 - 1 : Nat) : Int) by omega) rfl ?_
  refine wp_callV (pc' := 270) (as := [vI (xs ((i : Int) + 1).toNat).toInt, vI (xs ((i : Int) + 2).toNat).toInt]) (rest := [vI x]) sM dL_law_267 rfl lkL_37 okX11_person inX11_person seX11_person o_68 vc10 ⟨Nat.le_of_ble_eq_true rfl, Nat.le_of_ble_eq_true rfl⟩ (Nat.le_of_ble_eq_true rfl) (Nat.le_refl _) (Nat.le_refl _) okP_eq okP_eq rfl (rvI rfl (fun y I2 R2 hq2 => ?_))
  obtain ⟨e2, hI2⟩ := kM y I2 R2 hq2
  rw [e2]
  refine wp_icmp_same (tgt := 800) dL_law_270 rfl ?_
  exact k8 I2 R2 hI2

set_option maxHeartbeats 4000000 in
theorem lc_5 {SL i : Nat} {xs : Nat → Int32} {I : II} {R : RR} (hi : i + 4 ≤ SL) (hI : Inv I R) (k8 : ∀ I2 R2, Inv I2 R2 → wp (KL SL xs) mL_law QL 800 [vR 1000, vR 1, vR 68, vI (i : Int)] [] I2 R2 89) : wp (KL SL xs) mL_law QL 275 [vR 1000, vR 1, vR 68, vI (i : Int)] [] I R 89 := by
  refine wp_aload_n (pc' := 276) (q := 1) (i := 1) rfl rfl dL_law_275 rfl ?_
  refine wp_aload_n (pc' := 277) (q := 0) (i := 0) rfl rfl dL_law_276 rfl ?_
  refine wp_iload_n (pc' := 278) (q := 3) (i := 3) rfl rfl dL_law_277 rfl ?_
  refine wp_iconst (pc' := 279) dL_law_278 rfl ?_
  refine wp_iadd (pc' := 280) dL_law_279 rfl ?_
  refine wp_sld (pc' := 281) (by decide) dL_law_280 (show 0 ≤ (i : Int) + 1 ∧ (i : Int) + 1 < ((SL + 1 - 1 : Nat) : Int) by omega) rfl ?_
  refine wp_aload_n (pc' := 282) (q := 0) (i := 0) rfl rfl dL_law_281 rfl ?_
  refine wp_iload_n (pc' := 283) (q := 3) (i := 3) rfl rfl dL_law_282 rfl ?_
  refine wp_iconst (pc' := 284) dL_law_283 rfl ?_
  refine wp_iadd (pc' := 285) dL_law_284 rfl ?_
  refine wp_sld (pc' := 286) (by decide) dL_law_285 (show 0 ≤ (i : Int) + 2 ∧ (i : Int) + 2 < ((SL + 1 - 1 : Nat) : Int) by omega) rfl ?_
  obtain ⟨QX, sX, kX⟩ := pr_law hI (toInt_in (xs ((i : Int) + 1).toNat)) (toInt_in (xs ((i : Int) + 2).toNat))
  refine wp_callV (pc' := 289) (as := [vI (xs ((i : Int) + 1).toNat).toInt, vI (xs ((i : Int) + 2).toNat).toInt]) (rest := []) sX dL_law_286 rfl lkL_38 okX10_law inX10_law seX10_law o_1 vc9 ⟨Nat.le_of_ble_eq_true rfl, Nat.le_of_ble_eq_true rfl⟩ (Nat.le_of_ble_eq_true rfl) (Nat.le_refl _) (Nat.le_refl _) okP_eq okP_eq rfl (rvI rfl (fun x I1 R1 hq1 => ?_))
  obtain ⟨QM, sM, kM⟩ := kX x I1 R1 hq1
  refine wp_aload_n (pc' := 290) (q := 2) (i := 2) rfl rfl dL_law_289 rfl ?_
  refine wp_aload_n (pc' := 291) (q := 0) (i := 0) rfl rfl dL_law_290 rfl ?_
  refine wp_iload_n (pc' := 292) (q := 3) (i := 3) rfl rfl dL_law_291 rfl ?_
  refine wp_iconst (pc' := 293) dL_law_292 rfl ?_
  refine wp_iadd (pc' := 294) dL_law_293 rfl ?_
  refine wp_sld (pc' := 295) (by decide) dL_law_294 (show 0 ≤ (i : Int) + 1 ∧ (i : Int) + 1 < ((SL + 1 - 1 : Nat) : Int) by omega) rfl ?_
  refine wp_aload_n (pc' := 296) (q := 0) (i := 0) rfl rfl dL_law_295 rfl ?_
  refine wp_iload_n (pc' := 297) (q := 3) (i := 3) rfl rfl dL_law_296 rfl ?_
  refine wp_iconst (pc' := 298) dL_law_297 rfl ?_
  refine wp_iadd (pc' := 299) dL_law_298 rfl ?_
  refine wp_sld (pc' := 300) (by decide) dL_law_299 (show 0 ≤ (i : Int) + 2 ∧ (i : Int) + 2 < ((SL + 1 - 1 : Nat) : Int) by omega) rfl ?_
  refine wp_callV (pc' := 303) (as := [vI (xs ((i : Int) + 1).toNat).toInt, vI (xs ((i : Int) + 2).toNat).toInt]) (rest := [vI x]) sM dL_law_300 rfl lkL_41 okX11_law inX11_law seX11_law o_68 vc10 ⟨Nat.le_of_ble_eq_true rfl, Nat.le_of_ble_eq_true rfl⟩ (Nat.le_of_ble_eq_true rfl) (Nat.le_refl _) (Nat.le_refl _) okP_eq okP_eq rfl (rvI rfl (fun y I2 R2 hq2 => ?_))
  obtain ⟨e2, hI2⟩ := kM y I2 R2 hq2
  rw [e2]
  refine wp_icmp_same (tgt := 800) dL_law_303 rfl ?_
  exact k8 I2 R2 hI2

set_option maxHeartbeats 4000000 in
theorem lc_6 {SL i : Nat} {xs : Nat → Int32} {I : II} {R : RR} (hi : i + 4 ≤ SL) (hI : Inv I R) (k8 : ∀ I2 R2, Inv I2 R2 → wp (KL SL xs) mL_law QL 800 [vR 1000, vR 1, vR 68, vI (i : Int)] [] I2 R2 89) : wp (KL SL xs) mL_law QL 308 [vR 1000, vR 1, vR 68, vI (i : Int)] [] I R 89 := by
  refine wp_aload_n (pc' := 309) (q := 1) (i := 1) rfl rfl dL_law_308 rfl ?_
  refine wp_aload_n (pc' := 310) (q := 0) (i := 0) rfl rfl dL_law_309 rfl ?_
  refine wp_iload_n (pc' := 311) (q := 3) (i := 3) rfl rfl dL_law_310 rfl ?_
  refine wp_iconst (pc' := 312) dL_law_311 rfl ?_
  refine wp_iadd (pc' := 313) dL_law_312 rfl ?_
  refine wp_sld (pc' := 314) (by decide) dL_law_313 (show 0 ≤ (i : Int) + 1 ∧ (i : Int) + 1 < ((SL + 1 - 1 : Nat) : Int) by omega) rfl ?_
  obtain ⟨QX, sX, kX⟩ := pr_lines hI (toInt_in (xs ((i : Int) + 1).toNat))
  refine wp_callV (pc' := 317) (as := [vI (xs ((i : Int) + 1).toNat).toInt]) (rest := []) sX dL_law_314 rfl lkL_42 okX10_lines inX10_lines seX10_lines o_1 vc9 ⟨Nat.le_of_ble_eq_true rfl, Nat.le_of_ble_eq_true rfl⟩ (Nat.le_of_ble_eq_true rfl) (Nat.le_refl _) (Nat.le_refl _) okP_eq okP_eq rfl (rvI rfl (fun x I1 R1 hq1 => ?_))
  obtain ⟨QM, sM, kM⟩ := kX x I1 R1 hq1
  refine wp_aload_n (pc' := 318) (q := 2) (i := 2) rfl rfl dL_law_317 rfl ?_
  refine wp_aload_n (pc' := 319) (q := 0) (i := 0) rfl rfl dL_law_318 rfl ?_
  refine wp_iload_n (pc' := 320) (q := 3) (i := 3) rfl rfl dL_law_319 rfl ?_
  refine wp_iconst (pc' := 321) dL_law_320 rfl ?_
  refine wp_iadd (pc' := 322) dL_law_321 rfl ?_
  refine wp_sld (pc' := 323) (by decide) dL_law_322 (show 0 ≤ (i : Int) + 1 ∧ (i : Int) + 1 < ((SL + 1 - 1 : Nat) : Int) by omega) rfl ?_
  refine wp_callV (pc' := 326) (as := [vI (xs ((i : Int) + 1).toNat).toInt]) (rest := [vI x]) sM dL_law_323 rfl lkL_46 okX11_lines inX11_lines seX11_lines o_68 vc10 ⟨Nat.le_of_ble_eq_true rfl, Nat.le_of_ble_eq_true rfl⟩ (Nat.le_of_ble_eq_true rfl) (Nat.le_refl _) (Nat.le_refl _) okP_eq okP_eq rfl (rvI rfl (fun y I2 R2 hq2 => ?_))
  obtain ⟨e2, hI2⟩ := kM y I2 R2 hq2
  rw [e2]
  refine wp_icmp_same (tgt := 800) dL_law_326 rfl ?_
  exact k8 I2 R2 hI2

set_option maxHeartbeats 4000000 in
theorem lc_7 {SL i : Nat} {xs : Nat → Int32} {I : II} {R : RR} (hi : i + 4 ≤ SL) (hI : Inv I R) (k8 : ∀ I2 R2, Inv I2 R2 → wp (KL SL xs) mL_law QL 800 [vR 1000, vR 1, vR 68, vI (i : Int)] [] I2 R2 89) : wp (KL SL xs) mL_law QL 331 [vR 1000, vR 1, vR 68, vI (i : Int)] [] I R 89 := by
  refine wp_aload_n (pc' := 332) (q := 1) (i := 1) rfl rfl dL_law_331 rfl ?_
  refine wp_aload_n (pc' := 333) (q := 0) (i := 0) rfl rfl dL_law_332 rfl ?_
  refine wp_iload_n (pc' := 334) (q := 3) (i := 3) rfl rfl dL_law_333 rfl ?_
  refine wp_iconst (pc' := 335) dL_law_334 rfl ?_
  refine wp_iadd (pc' := 336) dL_law_335 rfl ?_
  refine wp_sld (pc' := 337) (by decide) dL_law_336 (show 0 ≤ (i : Int) + 1 ∧ (i : Int) + 1 < ((SL + 1 - 1 : Nat) : Int) by omega) rfl ?_
  obtain ⟨QX, sX, kX⟩ := pr_served hI (toInt_in (xs ((i : Int) + 1).toNat))
  refine wp_callV (pc' := 340) (as := [vI (xs ((i : Int) + 1).toNat).toInt]) (rest := []) sX dL_law_337 rfl lkL_47 okX10_served inX10_served seX10_served o_1 vc9 ⟨Nat.le_of_ble_eq_true rfl, Nat.le_of_ble_eq_true rfl⟩ (Nat.le_of_ble_eq_true rfl) (Nat.le_refl _) (Nat.le_refl _) okP_eq okP_eq rfl (rvI rfl (fun x I1 R1 hq1 => ?_))
  obtain ⟨QM, sM, kM⟩ := kX x I1 R1 hq1
  refine wp_aload_n (pc' := 341) (q := 2) (i := 2) rfl rfl dL_law_340 rfl ?_
  refine wp_aload_n (pc' := 342) (q := 0) (i := 0) rfl rfl dL_law_341 rfl ?_
  refine wp_iload_n (pc' := 343) (q := 3) (i := 3) rfl rfl dL_law_342 rfl ?_
  refine wp_iconst (pc' := 344) dL_law_343 rfl ?_
  refine wp_iadd (pc' := 345) dL_law_344 rfl ?_
  refine wp_sld (pc' := 346) (by decide) dL_law_345 (show 0 ≤ (i : Int) + 1 ∧ (i : Int) + 1 < ((SL + 1 - 1 : Nat) : Int) by omega) rfl ?_
  refine wp_callV (pc' := 349) (as := [vI (xs ((i : Int) + 1).toNat).toInt]) (rest := [vI x]) sM dL_law_346 rfl lkL_50 okX11_served inX11_served seX11_served o_68 vc10 ⟨Nat.le_of_ble_eq_true rfl, Nat.le_of_ble_eq_true rfl⟩ (Nat.le_of_ble_eq_true rfl) (Nat.le_refl _) (Nat.le_refl _) okP_eq okP_eq rfl (rvI rfl (fun y I2 R2 hq2 => ?_))
  obtain ⟨e2, hI2⟩ := kM y I2 R2 hq2
  rw [e2]
  refine wp_icmp_same (tgt := 800) dL_law_349 rfl ?_
  exact k8 I2 R2 hI2

set_option maxHeartbeats 4000000 in
theorem lc_8 {SL i : Nat} {xs : Nat → Int32} {I : II} {R : RR} (hi : i + 4 ≤ SL) (hI : Inv I R) (k8 : ∀ I2 R2, Inv I2 R2 → wp (KL SL xs) mL_law QL 800 [vR 1000, vR 1, vR 68, vI (i : Int)] [] I2 R2 89) : wp (KL SL xs) mL_law QL 354 [vR 1000, vR 1, vR 68, vI (i : Int)] [] I R 89 := by
  refine wp_aload_n (pc' := 355) (q := 1) (i := 1) rfl rfl dL_law_354 rfl ?_
  refine wp_aload_n (pc' := 356) (q := 0) (i := 0) rfl rfl dL_law_355 rfl ?_
  refine wp_iload_n (pc' := 357) (q := 3) (i := 3) rfl rfl dL_law_356 rfl ?_
  refine wp_iconst (pc' := 358) dL_law_357 rfl ?_
  refine wp_iadd (pc' := 359) dL_law_358 rfl ?_
  refine wp_sld (pc' := 360) (by decide) dL_law_359 (show 0 ≤ (i : Int) + 1 ∧ (i : Int) + 1 < ((SL + 1 - 1 : Nat) : Int) by omega) rfl ?_
  obtain ⟨QX, sX, kX⟩ := pr_pairs hI (toInt_in (xs ((i : Int) + 1).toNat))
  refine wp_callV (pc' := 363) (as := [vI (xs ((i : Int) + 1).toNat).toInt]) (rest := []) sX dL_law_360 rfl lkL_51 okX10_pairs inX10_pairs seX10_pairs o_1 vc9 ⟨Nat.le_of_ble_eq_true rfl, Nat.le_of_ble_eq_true rfl⟩ (Nat.le_of_ble_eq_true rfl) (Nat.le_refl _) (Nat.le_refl _) okP_eq okP_eq rfl (rvL rfl (fun x I1 R1 hq1 => ?_))
  obtain ⟨QM, sM, kM⟩ := kX x I1 R1 hq1
  refine wp_aload_n (pc' := 364) (q := 2) (i := 2) rfl rfl dL_law_363 rfl ?_
  refine wp_aload_n (pc' := 365) (q := 0) (i := 0) rfl rfl dL_law_364 rfl ?_
  refine wp_iload_n (pc' := 366) (q := 3) (i := 3) rfl rfl dL_law_365 rfl ?_
  refine wp_iconst (pc' := 367) dL_law_366 rfl ?_
  refine wp_iadd (pc' := 368) dL_law_367 rfl ?_
  refine wp_sld (pc' := 369) (by decide) dL_law_368 (show 0 ≤ (i : Int) + 1 ∧ (i : Int) + 1 < ((SL + 1 - 1 : Nat) : Int) by omega) rfl ?_
  refine wp_callV (pc' := 372) (as := [vI (xs ((i : Int) + 1).toNat).toInt]) (rest := [vL x]) sM dL_law_369 rfl lkL_55 okX11_pairs inX11_pairs seX11_pairs o_68 vc10 ⟨Nat.le_of_ble_eq_true rfl, Nat.le_of_ble_eq_true rfl⟩ (Nat.le_of_ble_eq_true rfl) (Nat.le_refl _) (Nat.le_refl _) okP_eq okP_eq rfl (rvL rfl (fun y I2 R2 hq2 => ?_))
  obtain ⟨e2, hI2⟩ := kM y I2 R2 hq2
  rw [e2]
  refine wp_lcmp_same (pc' := 373) dL_law_372 rfl ?_
  refine wp_if_eq (pc' := 376) (tgt := 800) ⟨by decide, by decide⟩ dL_law_373 rfl rfl (fun _ => ?_) (fun hc => absurd rfl hc)
  exact k8 I2 R2 hI2

set_option maxHeartbeats 4000000 in
theorem lc_9 {SL i : Nat} {xs : Nat → Int32} {I : II} {R : RR} (hi : i + 4 ≤ SL) (hI : Inv I R) (k8 : ∀ I2 R2, Inv I2 R2 → wp (KL SL xs) mL_law QL 800 [vR 1000, vR 1, vR 68, vI (i : Int)] [] I2 R2 89) : wp (KL SL xs) mL_law QL 378 [vR 1000, vR 1, vR 68, vI (i : Int)] [] I R 89 := by
  refine wp_aload_n (pc' := 379) (q := 1) (i := 1) rfl rfl dL_law_378 rfl ?_
  refine wp_aload_n (pc' := 380) (q := 0) (i := 0) rfl rfl dL_law_379 rfl ?_
  refine wp_iload_n (pc' := 381) (q := 3) (i := 3) rfl rfl dL_law_380 rfl ?_
  refine wp_iconst (pc' := 382) dL_law_381 rfl ?_
  refine wp_iadd (pc' := 383) dL_law_382 rfl ?_
  refine wp_sld (pc' := 384) (by decide) dL_law_383 (show 0 ≤ (i : Int) + 1 ∧ (i : Int) + 1 < ((SL + 1 - 1 : Nat) : Int) by omega) rfl ?_
  refine wp_aload_n (pc' := 385) (q := 0) (i := 0) rfl rfl dL_law_384 rfl ?_
  refine wp_iload_n (pc' := 386) (q := 3) (i := 3) rfl rfl dL_law_385 rfl ?_
  refine wp_iconst (pc' := 387) dL_law_386 rfl ?_
  refine wp_iadd (pc' := 388) dL_law_387 rfl ?_
  refine wp_sld (pc' := 389) (by decide) dL_law_388 (show 0 ≤ (i : Int) + 2 ∧ (i : Int) + 2 < ((SL + 1 - 1 : Nat) : Int) by omega) rfl ?_
  obtain ⟨QX, sX, kX⟩ := pr_bell hI (toInt_in (xs ((i : Int) + 1).toNat)) (toInt_in (xs ((i : Int) + 2).toNat))
  refine wp_callV (pc' := 392) (as := [vI (xs ((i : Int) + 1).toNat).toInt, vI (xs ((i : Int) + 2).toNat).toInt]) (rest := []) sX dL_law_389 rfl lkL_56 okX10_bell inX10_bell seX10_bell o_1 vc9 ⟨Nat.le_of_ble_eq_true rfl, Nat.le_of_ble_eq_true rfl⟩ (Nat.le_of_ble_eq_true rfl) (Nat.le_refl _) (Nat.le_refl _) okP_eq okP_eq rfl (rvI rfl (fun x I1 R1 hq1 => ?_))
  obtain ⟨QM, sM, kM⟩ := kX x I1 R1 hq1
  refine wp_aload_n (pc' := 393) (q := 2) (i := 2) rfl rfl dL_law_392 rfl ?_
  refine wp_aload_n (pc' := 394) (q := 0) (i := 0) rfl rfl dL_law_393 rfl ?_
  refine wp_iload_n (pc' := 395) (q := 3) (i := 3) rfl rfl dL_law_394 rfl ?_
  refine wp_iconst (pc' := 396) dL_law_395 rfl ?_
  refine wp_iadd (pc' := 397) dL_law_396 rfl ?_
  refine wp_sld (pc' := 398) (by decide) dL_law_397 (show 0 ≤ (i : Int) + 1 ∧ (i : Int) + 1 < ((SL + 1 - 1 : Nat) : Int) by omega) rfl ?_
  refine wp_aload_n (pc' := 399) (q := 0) (i := 0) rfl rfl dL_law_398 rfl ?_
  refine wp_iload_n (pc' := 400) (q := 3) (i := 3) rfl rfl dL_law_399 rfl ?_
  refine wp_iconst (pc' := 401) dL_law_400 rfl ?_
  refine wp_iadd (pc' := 402) dL_law_401 rfl ?_
  refine wp_sld (pc' := 403) (by decide) dL_law_402 (show 0 ≤ (i : Int) + 2 ∧ (i : Int) + 2 < ((SL + 1 - 1 : Nat) : Int) by omega) rfl ?_
  refine wp_callV (pc' := 406) (as := [vI (xs ((i : Int) + 1).toNat).toInt, vI (xs ((i : Int) + 2).toNat).toInt]) (rest := [vI x]) sM dL_law_403 rfl lkL_59 okX11_bell inX11_bell seX11_bell o_68 vc10 ⟨Nat.le_of_ble_eq_true rfl, Nat.le_of_ble_eq_true rfl⟩ (Nat.le_of_ble_eq_true rfl) (Nat.le_refl _) (Nat.le_refl _) okP_eq okP_eq rfl (rvI rfl (fun y I2 R2 hq2 => ?_))
  obtain ⟨e2, hI2⟩ := kM y I2 R2 hq2
  rw [e2]
  refine wp_icmp_same (tgt := 800) dL_law_406 rfl ?_
  exact k8 I2 R2 hI2

set_option maxHeartbeats 4000000 in
theorem lc_10 {SL i : Nat} {xs : Nat → Int32} {I : II} {R : RR} (hi : i + 4 ≤ SL) (hI : Inv I R) (k8 : ∀ I2 R2, Inv I2 R2 → wp (KL SL xs) mL_law QL 800 [vR 1000, vR 1, vR 68, vI (i : Int)] [] I2 R2 89) : wp (KL SL xs) mL_law QL 411 [vR 1000, vR 1, vR 68, vI (i : Int)] [] I R 89 := by
  refine wp_aload_n (pc' := 412) (q := 1) (i := 1) rfl rfl dL_law_411 rfl ?_
  refine wp_aload_n (pc' := 413) (q := 0) (i := 0) rfl rfl dL_law_412 rfl ?_
  refine wp_iload_n (pc' := 414) (q := 3) (i := 3) rfl rfl dL_law_413 rfl ?_
  refine wp_iconst (pc' := 415) dL_law_414 rfl ?_
  refine wp_iadd (pc' := 416) dL_law_415 rfl ?_
  refine wp_sld (pc' := 417) (by decide) dL_law_416 (show 0 ≤ (i : Int) + 1 ∧ (i : Int) + 1 < ((SL + 1 - 1 : Nat) : Int) by omega) rfl ?_
  refine wp_aload_n (pc' := 418) (q := 0) (i := 0) rfl rfl dL_law_417 rfl ?_
  refine wp_iload_n (pc' := 419) (q := 3) (i := 3) rfl rfl dL_law_418 rfl ?_
  refine wp_iconst (pc' := 420) dL_law_419 rfl ?_
  refine wp_iadd (pc' := 421) dL_law_420 rfl ?_
  refine wp_sld (pc' := 422) (by decide) dL_law_421 (show 0 ≤ (i : Int) + 2 ∧ (i : Int) + 2 < ((SL + 1 - 1 : Nat) : Int) by omega) rfl ?_
  obtain ⟨QX, sX, kX⟩ := pr_best hI (toInt_in (xs ((i : Int) + 1).toNat)) (toInt_in (xs ((i : Int) + 2).toNat))
  refine wp_callV (pc' := 425) (as := [vI (xs ((i : Int) + 1).toNat).toInt, vI (xs ((i : Int) + 2).toNat).toInt]) (rest := []) sX dL_law_422 rfl lkL_60 okX10_best inX10_best seX10_best o_1 vc9 ⟨Nat.le_of_ble_eq_true rfl, Nat.le_of_ble_eq_true rfl⟩ (Nat.le_of_ble_eq_true rfl) (Nat.le_refl _) (Nat.le_refl _) okP_eq okP_eq rfl (rvI rfl (fun x I1 R1 hq1 => ?_))
  obtain ⟨QM, sM, kM⟩ := kX x I1 R1 hq1
  refine wp_aload_n (pc' := 426) (q := 2) (i := 2) rfl rfl dL_law_425 rfl ?_
  refine wp_aload_n (pc' := 427) (q := 0) (i := 0) rfl rfl dL_law_426 rfl ?_
  refine wp_iload_n (pc' := 428) (q := 3) (i := 3) rfl rfl dL_law_427 rfl ?_
  refine wp_iconst (pc' := 429) dL_law_428 rfl ?_
  refine wp_iadd (pc' := 430) dL_law_429 rfl ?_
  refine wp_sld (pc' := 431) (by decide) dL_law_430 (show 0 ≤ (i : Int) + 1 ∧ (i : Int) + 1 < ((SL + 1 - 1 : Nat) : Int) by omega) rfl ?_
  refine wp_aload_n (pc' := 432) (q := 0) (i := 0) rfl rfl dL_law_431 rfl ?_
  refine wp_iload_n (pc' := 433) (q := 3) (i := 3) rfl rfl dL_law_432 rfl ?_
  refine wp_iconst (pc' := 434) dL_law_433 rfl ?_
  refine wp_iadd (pc' := 435) dL_law_434 rfl ?_
  refine wp_sld (pc' := 436) (by decide) dL_law_435 (show 0 ≤ (i : Int) + 2 ∧ (i : Int) + 2 < ((SL + 1 - 1 : Nat) : Int) by omega) rfl ?_
  refine wp_callV (pc' := 439) (as := [vI (xs ((i : Int) + 1).toNat).toInt, vI (xs ((i : Int) + 2).toNat).toInt]) (rest := [vI x]) sM dL_law_436 rfl lkL_63 okX11_best inX11_best seX11_best o_68 vc10 ⟨Nat.le_of_ble_eq_true rfl, Nat.le_of_ble_eq_true rfl⟩ (Nat.le_of_ble_eq_true rfl) (Nat.le_refl _) (Nat.le_refl _) okP_eq okP_eq rfl (rvI rfl (fun y I2 R2 hq2 => ?_))
  obtain ⟨e2, hI2⟩ := kM y I2 R2 hq2
  rw [e2]
  refine wp_icmp_same (tgt := 800) dL_law_439 rfl ?_
  exact k8 I2 R2 hI2

set_option maxHeartbeats 4000000 in
theorem lc_11 {SL i : Nat} {xs : Nat → Int32} {I : II} {R : RR} (hi : i + 4 ≤ SL) (hI : Inv I R) (k8 : ∀ I2 R2, Inv I2 R2 → wp (KL SL xs) mL_law QL 800 [vR 1000, vR 1, vR 68, vI (i : Int)] [] I2 R2 89) : wp (KL SL xs) mL_law QL 444 [vR 1000, vR 1, vR 68, vI (i : Int)] [] I R 89 := by
  refine wp_aload_n (pc' := 445) (q := 1) (i := 1) rfl rfl dL_law_444 rfl ?_
  refine wp_aload_n (pc' := 446) (q := 0) (i := 0) rfl rfl dL_law_445 rfl ?_
  refine wp_iload_n (pc' := 447) (q := 3) (i := 3) rfl rfl dL_law_446 rfl ?_
  refine wp_iconst (pc' := 448) dL_law_447 rfl ?_
  refine wp_iadd (pc' := 449) dL_law_448 rfl ?_
  refine wp_sld (pc' := 450) (by decide) dL_law_449 (show 0 ≤ (i : Int) + 1 ∧ (i : Int) + 1 < ((SL + 1 - 1 : Nat) : Int) by omega) rfl ?_
  refine wp_aload_n (pc' := 451) (q := 0) (i := 0) rfl rfl dL_law_450 rfl ?_
  refine wp_iload_n (pc' := 452) (q := 3) (i := 3) rfl rfl dL_law_451 rfl ?_
  refine wp_iconst (pc' := 453) dL_law_452 rfl ?_
  refine wp_iadd (pc' := 454) dL_law_453 rfl ?_
  refine wp_sld (pc' := 455) (by decide) dL_law_454 (show 0 ≤ (i : Int) + 2 ∧ (i : Int) + 2 < ((SL + 1 - 1 : Nat) : Int) by omega) rfl ?_
  refine wp_aload_n (pc' := 456) (q := 0) (i := 0) rfl rfl dL_law_455 rfl ?_
  refine wp_iload_n (pc' := 457) (q := 3) (i := 3) rfl rfl dL_law_456 rfl ?_
  refine wp_iconst (pc' := 458) dL_law_457 rfl ?_
  refine wp_iadd (pc' := 459) dL_law_458 rfl ?_
  refine wp_sld (pc' := 460) (by decide) dL_law_459 (show 0 ≤ (i : Int) + 3 ∧ (i : Int) + 3 < ((SL + 1 - 1 : Nat) : Int) by omega) rfl ?_
  obtain ⟨QX, sX, kX⟩ := pr_round hI (toInt_in (xs ((i : Int) + 1).toNat)) (toInt_in (xs ((i : Int) + 2).toNat)) (toInt_in (xs ((i : Int) + 3).toNat))
  refine wp_callV (pc' := 463) (as := [vI (xs ((i : Int) + 1).toNat).toInt, vI (xs ((i : Int) + 2).toNat).toInt, vI (xs ((i : Int) + 3).toNat).toInt]) (rest := []) sX dL_law_460 rfl lkL_64 okX10_round inX10_round seX10_round o_1 vc9 ⟨Nat.le_of_ble_eq_true rfl, Nat.le_of_ble_eq_true rfl⟩ (Nat.le_of_ble_eq_true rfl) (Nat.le_refl _) (Nat.le_refl _) okP_eq okP_eq rfl (rvI rfl (fun x I1 R1 hq1 => ?_))
  obtain ⟨QM, sM, kM⟩ := kX x I1 R1 hq1
  refine wp_aload_n (pc' := 464) (q := 2) (i := 2) rfl rfl dL_law_463 rfl ?_
  refine wp_aload_n (pc' := 465) (q := 0) (i := 0) rfl rfl dL_law_464 rfl ?_
  refine wp_iload_n (pc' := 466) (q := 3) (i := 3) rfl rfl dL_law_465 rfl ?_
  refine wp_iconst (pc' := 467) dL_law_466 rfl ?_
  refine wp_iadd (pc' := 468) dL_law_467 rfl ?_
  refine wp_sld (pc' := 469) (by decide) dL_law_468 (show 0 ≤ (i : Int) + 1 ∧ (i : Int) + 1 < ((SL + 1 - 1 : Nat) : Int) by omega) rfl ?_
  refine wp_aload_n (pc' := 470) (q := 0) (i := 0) rfl rfl dL_law_469 rfl ?_
  refine wp_iload_n (pc' := 471) (q := 3) (i := 3) rfl rfl dL_law_470 rfl ?_
  refine wp_iconst (pc' := 472) dL_law_471 rfl ?_
  refine wp_iadd (pc' := 473) dL_law_472 rfl ?_
  refine wp_sld (pc' := 474) (by decide) dL_law_473 (show 0 ≤ (i : Int) + 2 ∧ (i : Int) + 2 < ((SL + 1 - 1 : Nat) : Int) by omega) rfl ?_
  refine wp_aload_n (pc' := 475) (q := 0) (i := 0) rfl rfl dL_law_474 rfl ?_
  refine wp_iload_n (pc' := 476) (q := 3) (i := 3) rfl rfl dL_law_475 rfl ?_
  refine wp_iconst (pc' := 477) dL_law_476 rfl ?_
  refine wp_iadd (pc' := 478) dL_law_477 rfl ?_
  refine wp_sld (pc' := 479) (by decide) dL_law_478 (show 0 ≤ (i : Int) + 3 ∧ (i : Int) + 3 < ((SL + 1 - 1 : Nat) : Int) by omega) rfl ?_
  refine wp_callV (pc' := 482) (as := [vI (xs ((i : Int) + 1).toNat).toInt, vI (xs ((i : Int) + 2).toNat).toInt, vI (xs ((i : Int) + 3).toNat).toInt]) (rest := [vI x]) sM dL_law_479 rfl lkL_68 okX11_round inX11_round seX11_round o_68 vc10 ⟨Nat.le_of_ble_eq_true rfl, Nat.le_of_ble_eq_true rfl⟩ (Nat.le_of_ble_eq_true rfl) (Nat.le_refl _) (Nat.le_refl _) okP_eq okP_eq rfl (rvI rfl (fun y I2 R2 hq2 => ?_))
  obtain ⟨e2, hI2⟩ := kM y I2 R2 hq2
  rw [e2]
  refine wp_icmp_same (tgt := 800) dL_law_482 rfl ?_
  exact k8 I2 R2 hI2

set_option maxHeartbeats 4000000 in
theorem lc_12 {SL i : Nat} {xs : Nat → Int32} {I : II} {R : RR} (hi : i + 4 ≤ SL) (hI : Inv I R) (k8 : ∀ I2 R2, Inv I2 R2 → wp (KL SL xs) mL_law QL 800 [vR 1000, vR 1, vR 68, vI (i : Int)] [] I2 R2 89) : wp (KL SL xs) mL_law QL 487 [vR 1000, vR 1, vR 68, vI (i : Int)] [] I R 89 := by
  refine wp_aload_n (pc' := 488) (q := 1) (i := 1) rfl rfl dL_law_487 rfl ?_
  refine wp_aload_n (pc' := 489) (q := 0) (i := 0) rfl rfl dL_law_488 rfl ?_
  refine wp_iload_n (pc' := 490) (q := 3) (i := 3) rfl rfl dL_law_489 rfl ?_
  refine wp_iconst (pc' := 491) dL_law_490 rfl ?_
  refine wp_iadd (pc' := 492) dL_law_491 rfl ?_
  refine wp_sld (pc' := 493) (by decide) dL_law_492 (show 0 ≤ (i : Int) + 1 ∧ (i : Int) + 1 < ((SL + 1 - 1 : Nat) : Int) by omega) rfl ?_
  refine wp_aload_n (pc' := 494) (q := 0) (i := 0) rfl rfl dL_law_493 rfl ?_
  refine wp_iload_n (pc' := 495) (q := 3) (i := 3) rfl rfl dL_law_494 rfl ?_
  refine wp_iconst (pc' := 496) dL_law_495 rfl ?_
  refine wp_iadd (pc' := 497) dL_law_496 rfl ?_
  refine wp_sld (pc' := 498) (by decide) dL_law_497 (show 0 ≤ (i : Int) + 2 ∧ (i : Int) + 2 < ((SL + 1 - 1 : Nat) : Int) by omega) rfl ?_
  refine wp_aload_n (pc' := 499) (q := 0) (i := 0) rfl rfl dL_law_498 rfl ?_
  refine wp_iload_n (pc' := 500) (q := 3) (i := 3) rfl rfl dL_law_499 rfl ?_
  refine wp_iconst (pc' := 501) dL_law_500 rfl ?_
  refine wp_iadd (pc' := 502) dL_law_501 rfl ?_
  refine wp_sld (pc' := 503) (by decide) dL_law_502 (show 0 ≤ (i : Int) + 3 ∧ (i : Int) + 3 < ((SL + 1 - 1 : Nat) : Int) by omega) rfl ?_
  obtain ⟨QX, sX, kX⟩ := pr_of hI (toInt_in (xs ((i : Int) + 1).toNat)) (toInt_in (xs ((i : Int) + 2).toNat)) (toInt_in (xs ((i : Int) + 3).toNat))
  refine wp_callV (pc' := 506) (as := [vI (xs ((i : Int) + 1).toNat).toInt, vI (xs ((i : Int) + 2).toNat).toInt, vI (xs ((i : Int) + 3).toNat).toInt]) (rest := []) sX dL_law_503 rfl lkL_69 okX10_of inX10_of seX10_of o_1 vc9 ⟨Nat.le_of_ble_eq_true rfl, Nat.le_of_ble_eq_true rfl⟩ (Nat.le_of_ble_eq_true rfl) (Nat.le_refl _) (Nat.le_refl _) okP_eq okP_eq rfl (rvI rfl (fun x I1 R1 hq1 => ?_))
  obtain ⟨QM, sM, kM⟩ := kX x I1 R1 hq1
  refine wp_aload_n (pc' := 507) (q := 2) (i := 2) rfl rfl dL_law_506 rfl ?_
  refine wp_aload_n (pc' := 508) (q := 0) (i := 0) rfl rfl dL_law_507 rfl ?_
  refine wp_iload_n (pc' := 509) (q := 3) (i := 3) rfl rfl dL_law_508 rfl ?_
  refine wp_iconst (pc' := 510) dL_law_509 rfl ?_
  refine wp_iadd (pc' := 511) dL_law_510 rfl ?_
  refine wp_sld (pc' := 512) (by decide) dL_law_511 (show 0 ≤ (i : Int) + 1 ∧ (i : Int) + 1 < ((SL + 1 - 1 : Nat) : Int) by omega) rfl ?_
  refine wp_aload_n (pc' := 513) (q := 0) (i := 0) rfl rfl dL_law_512 rfl ?_
  refine wp_iload_n (pc' := 514) (q := 3) (i := 3) rfl rfl dL_law_513 rfl ?_
  refine wp_iconst (pc' := 515) dL_law_514 rfl ?_
  refine wp_iadd (pc' := 516) dL_law_515 rfl ?_
  refine wp_sld (pc' := 517) (by decide) dL_law_516 (show 0 ≤ (i : Int) + 2 ∧ (i : Int) + 2 < ((SL + 1 - 1 : Nat) : Int) by omega) rfl ?_
  refine wp_aload_n (pc' := 518) (q := 0) (i := 0) rfl rfl dL_law_517 rfl ?_
  refine wp_iload_n (pc' := 519) (q := 3) (i := 3) rfl rfl dL_law_518 rfl ?_
  refine wp_iconst (pc' := 520) dL_law_519 rfl ?_
  refine wp_iadd (pc' := 521) dL_law_520 rfl ?_
  refine wp_sld (pc' := 522) (by decide) dL_law_521 (show 0 ≤ (i : Int) + 3 ∧ (i : Int) + 3 < ((SL + 1 - 1 : Nat) : Int) by omega) rfl ?_
  refine wp_callV (pc' := 525) (as := [vI (xs ((i : Int) + 1).toNat).toInt, vI (xs ((i : Int) + 2).toNat).toInt, vI (xs ((i : Int) + 3).toNat).toInt]) (rest := [vI x]) sM dL_law_522 rfl lkL_72 okX11_of inX11_of seX11_of o_68 vc10 ⟨Nat.le_of_ble_eq_true rfl, Nat.le_of_ble_eq_true rfl⟩ (Nat.le_of_ble_eq_true rfl) (Nat.le_refl _) (Nat.le_refl _) okP_eq okP_eq rfl (rvI rfl (fun y I2 R2 hq2 => ?_))
  obtain ⟨e2, hI2⟩ := kM y I2 R2 hq2
  rw [e2]
  refine wp_icmp_same (tgt := 800) dL_law_525 rfl ?_
  exact k8 I2 R2 hI2

set_option maxHeartbeats 4000000 in
theorem lc_13 {SL i : Nat} {xs : Nat → Int32} {I : II} {R : RR} (hi : i + 4 ≤ SL) (hI : Inv I R) (k8 : ∀ I2 R2, Inv I2 R2 → wp (KL SL xs) mL_law QL 800 [vR 1000, vR 1, vR 68, vI (i : Int)] [] I2 R2 89) : wp (KL SL xs) mL_law QL 530 [vR 1000, vR 1, vR 68, vI (i : Int)] [] I R 89 := by
  refine wp_aload_n (pc' := 531) (q := 1) (i := 1) rfl rfl dL_law_530 rfl ?_
  refine wp_aload_n (pc' := 532) (q := 0) (i := 0) rfl rfl dL_law_531 rfl ?_
  refine wp_iload_n (pc' := 533) (q := 3) (i := 3) rfl rfl dL_law_532 rfl ?_
  refine wp_iconst (pc' := 534) dL_law_533 rfl ?_
  refine wp_iadd (pc' := 535) dL_law_534 rfl ?_
  refine wp_sld (pc' := 536) (by decide) dL_law_535 (show 0 ≤ (i : Int) + 1 ∧ (i : Int) + 1 < ((SL + 1 - 1 : Nat) : Int) by omega) rfl ?_
  refine wp_aload_n (pc' := 537) (q := 0) (i := 0) rfl rfl dL_law_536 rfl ?_
  refine wp_iload_n (pc' := 538) (q := 3) (i := 3) rfl rfl dL_law_537 rfl ?_
  refine wp_iconst (pc' := 539) dL_law_538 rfl ?_
  refine wp_iadd (pc' := 540) dL_law_539 rfl ?_
  refine wp_sld (pc' := 541) (by decide) dL_law_540 (show 0 ≤ (i : Int) + 2 ∧ (i : Int) + 2 < ((SL + 1 - 1 : Nat) : Int) by omega) rfl ?_
  refine wp_aload_n (pc' := 542) (q := 0) (i := 0) rfl rfl dL_law_541 rfl ?_
  refine wp_iload_n (pc' := 543) (q := 3) (i := 3) rfl rfl dL_law_542 rfl ?_
  refine wp_iconst (pc' := 544) dL_law_543 rfl ?_
  refine wp_iadd (pc' := 545) dL_law_544 rfl ?_
  refine wp_sld (pc' := 546) (by decide) dL_law_545 (show 0 ≤ (i : Int) + 3 ∧ (i : Int) + 3 < ((SL + 1 - 1 : Nat) : Int) by omega) rfl ?_
  obtain ⟨QX, sX, kX⟩ := pr_means hI (toInt_in (xs ((i : Int) + 1).toNat)) (toInt_in (xs ((i : Int) + 2).toNat)) (toInt_in (xs ((i : Int) + 3).toNat))
  refine wp_callV (pc' := 549) (as := [vI (xs ((i : Int) + 1).toNat).toInt, vI (xs ((i : Int) + 2).toNat).toInt, vI (xs ((i : Int) + 3).toNat).toInt]) (rest := []) sX dL_law_546 rfl lkL_73 okX10_means inX10_means seX10_means o_1 vc9 ⟨Nat.le_of_ble_eq_true rfl, Nat.le_of_ble_eq_true rfl⟩ (Nat.le_of_ble_eq_true rfl) (Nat.le_refl _) (Nat.le_refl _) okP_eq okP_eq rfl (rvI rfl (fun x I1 R1 hq1 => ?_))
  obtain ⟨QM, sM, kM⟩ := kX x I1 R1 hq1
  refine wp_aload_n (pc' := 550) (q := 2) (i := 2) rfl rfl dL_law_549 rfl ?_
  refine wp_aload_n (pc' := 551) (q := 0) (i := 0) rfl rfl dL_law_550 rfl ?_
  refine wp_iload_n (pc' := 552) (q := 3) (i := 3) rfl rfl dL_law_551 rfl ?_
  refine wp_iconst (pc' := 553) dL_law_552 rfl ?_
  refine wp_iadd (pc' := 554) dL_law_553 rfl ?_
  refine wp_sld (pc' := 555) (by decide) dL_law_554 (show 0 ≤ (i : Int) + 1 ∧ (i : Int) + 1 < ((SL + 1 - 1 : Nat) : Int) by omega) rfl ?_
  refine wp_aload_n (pc' := 556) (q := 0) (i := 0) rfl rfl dL_law_555 rfl ?_
  refine wp_iload_n (pc' := 557) (q := 3) (i := 3) rfl rfl dL_law_556 rfl ?_
  refine wp_iconst (pc' := 558) dL_law_557 rfl ?_
  refine wp_iadd (pc' := 559) dL_law_558 rfl ?_
  refine wp_sld (pc' := 560) (by decide) dL_law_559 (show 0 ≤ (i : Int) + 2 ∧ (i : Int) + 2 < ((SL + 1 - 1 : Nat) : Int) by omega) rfl ?_
  refine wp_aload_n (pc' := 561) (q := 0) (i := 0) rfl rfl dL_law_560 rfl ?_
  refine wp_iload_n (pc' := 562) (q := 3) (i := 3) rfl rfl dL_law_561 rfl ?_
  refine wp_iconst (pc' := 563) dL_law_562 rfl ?_
  refine wp_iadd (pc' := 564) dL_law_563 rfl ?_
  refine wp_sld (pc' := 565) (by decide) dL_law_564 (show 0 ≤ (i : Int) + 3 ∧ (i : Int) + 3 < ((SL + 1 - 1 : Nat) : Int) by omega) rfl ?_
  refine wp_callV (pc' := 568) (as := [vI (xs ((i : Int) + 1).toNat).toInt, vI (xs ((i : Int) + 2).toNat).toInt, vI (xs ((i : Int) + 3).toNat).toInt]) (rest := [vI x]) sM dL_law_565 rfl lkL_76 okX11_means inX11_means seX11_means o_68 vc10 ⟨Nat.le_of_ble_eq_true rfl, Nat.le_of_ble_eq_true rfl⟩ (Nat.le_of_ble_eq_true rfl) (Nat.le_refl _) (Nat.le_refl _) okP_eq okP_eq rfl (rvI rfl (fun y I2 R2 hq2 => ?_))
  obtain ⟨e2, hI2⟩ := kM y I2 R2 hq2
  rw [e2]
  refine wp_icmp_same (tgt := 800) dL_law_568 rfl ?_
  exact k8 I2 R2 hI2

set_option maxHeartbeats 4000000 in
theorem lc_14 {SL i : Nat} {xs : Nat → Int32} {I : II} {R : RR} (hi : i + 4 ≤ SL) (hI : Inv I R) (k8 : ∀ I2 R2, Inv I2 R2 → wp (KL SL xs) mL_law QL 800 [vR 1000, vR 1, vR 68, vI (i : Int)] [] I2 R2 89) : wp (KL SL xs) mL_law QL 573 [vR 1000, vR 1, vR 68, vI (i : Int)] [] I R 89 := by
  refine wp_aload_n (pc' := 574) (q := 1) (i := 1) rfl rfl dL_law_573 rfl ?_
  refine wp_aload_n (pc' := 575) (q := 0) (i := 0) rfl rfl dL_law_574 rfl ?_
  refine wp_iload_n (pc' := 576) (q := 3) (i := 3) rfl rfl dL_law_575 rfl ?_
  refine wp_iconst (pc' := 577) dL_law_576 rfl ?_
  refine wp_iadd (pc' := 578) dL_law_577 rfl ?_
  refine wp_sld (pc' := 579) (by decide) dL_law_578 (show 0 ≤ (i : Int) + 1 ∧ (i : Int) + 1 < ((SL + 1 - 1 : Nat) : Int) by omega) rfl ?_
  refine wp_aload_n (pc' := 580) (q := 0) (i := 0) rfl rfl dL_law_579 rfl ?_
  refine wp_iload_n (pc' := 581) (q := 3) (i := 3) rfl rfl dL_law_580 rfl ?_
  refine wp_iconst (pc' := 582) dL_law_581 rfl ?_
  refine wp_iadd (pc' := 583) dL_law_582 rfl ?_
  refine wp_sld (pc' := 584) (by decide) dL_law_583 (show 0 ≤ (i : Int) + 2 ∧ (i : Int) + 2 < ((SL + 1 - 1 : Nat) : Int) by omega) rfl ?_
  obtain ⟨QX, sX, kX⟩ := pr_rules hI (toInt_in (xs ((i : Int) + 1).toNat)) (toInt_in (xs ((i : Int) + 2).toNat))
  refine wp_callV (pc' := 587) (as := [vI (xs ((i : Int) + 1).toNat).toInt, vI (xs ((i : Int) + 2).toNat).toInt]) (rest := []) sX dL_law_584 rfl lkL_77 okX10_rules inX10_rules seX10_rules o_1 vc9 ⟨Nat.le_of_ble_eq_true rfl, Nat.le_of_ble_eq_true rfl⟩ (Nat.le_of_ble_eq_true rfl) (Nat.le_refl _) (Nat.le_refl _) okP_eq okP_eq rfl (rvI rfl (fun x I1 R1 hq1 => ?_))
  obtain ⟨QM, sM, kM⟩ := kX x I1 R1 hq1
  refine wp_aload_n (pc' := 588) (q := 2) (i := 2) rfl rfl dL_law_587 rfl ?_
  refine wp_aload_n (pc' := 589) (q := 0) (i := 0) rfl rfl dL_law_588 rfl ?_
  refine wp_iload_n (pc' := 590) (q := 3) (i := 3) rfl rfl dL_law_589 rfl ?_
  refine wp_iconst (pc' := 591) dL_law_590 rfl ?_
  refine wp_iadd (pc' := 592) dL_law_591 rfl ?_
  refine wp_sld (pc' := 593) (by decide) dL_law_592 (show 0 ≤ (i : Int) + 1 ∧ (i : Int) + 1 < ((SL + 1 - 1 : Nat) : Int) by omega) rfl ?_
  refine wp_aload_n (pc' := 594) (q := 0) (i := 0) rfl rfl dL_law_593 rfl ?_
  refine wp_iload_n (pc' := 595) (q := 3) (i := 3) rfl rfl dL_law_594 rfl ?_
  refine wp_iconst (pc' := 596) dL_law_595 rfl ?_
  refine wp_iadd (pc' := 597) dL_law_596 rfl ?_
  refine wp_sld (pc' := 598) (by decide) dL_law_597 (show 0 ≤ (i : Int) + 2 ∧ (i : Int) + 2 < ((SL + 1 - 1 : Nat) : Int) by omega) rfl ?_
  refine wp_callV (pc' := 601) (as := [vI (xs ((i : Int) + 1).toNat).toInt, vI (xs ((i : Int) + 2).toNat).toInt]) (rest := [vI x]) sM dL_law_598 rfl lkL_80 okX11_rules inX11_rules seX11_rules o_68 vc10 ⟨Nat.le_of_ble_eq_true rfl, Nat.le_of_ble_eq_true rfl⟩ (Nat.le_of_ble_eq_true rfl) (Nat.le_refl _) (Nat.le_refl _) okP_eq okP_eq rfl (rvI rfl (fun y I2 R2 hq2 => ?_))
  obtain ⟨e2, hI2⟩ := kM y I2 R2 hq2
  rw [e2]
  refine wp_icmp_same (tgt := 800) dL_law_601 rfl ?_
  exact k8 I2 R2 hI2

set_option maxHeartbeats 4000000 in
theorem lc_15 {SL i : Nat} {xs : Nat → Int32} {I : II} {R : RR} (hi : i + 4 ≤ SL) (hI : Inv I R) (k8 : ∀ I2 R2, Inv I2 R2 → wp (KL SL xs) mL_law QL 800 [vR 1000, vR 1, vR 68, vI (i : Int)] [] I2 R2 89) : wp (KL SL xs) mL_law QL 606 [vR 1000, vR 1, vR 68, vI (i : Int)] [] I R 89 := by
  refine wp_aload_n (pc' := 607) (q := 1) (i := 1) rfl rfl dL_law_606 rfl ?_
  refine wp_aload_n (pc' := 608) (q := 0) (i := 0) rfl rfl dL_law_607 rfl ?_
  refine wp_iload_n (pc' := 609) (q := 3) (i := 3) rfl rfl dL_law_608 rfl ?_
  refine wp_iconst (pc' := 610) dL_law_609 rfl ?_
  refine wp_iadd (pc' := 611) dL_law_610 rfl ?_
  refine wp_sld (pc' := 612) (by decide) dL_law_611 (show 0 ≤ (i : Int) + 1 ∧ (i : Int) + 1 < ((SL + 1 - 1 : Nat) : Int) by omega) rfl ?_
  refine wp_aload_n (pc' := 613) (q := 0) (i := 0) rfl rfl dL_law_612 rfl ?_
  refine wp_iload_n (pc' := 614) (q := 3) (i := 3) rfl rfl dL_law_613 rfl ?_
  refine wp_iconst (pc' := 615) dL_law_614 rfl ?_
  refine wp_iadd (pc' := 616) dL_law_615 rfl ?_
  refine wp_sld (pc' := 617) (by decide) dL_law_616 (show 0 ≤ (i : Int) + 2 ∧ (i : Int) + 2 < ((SL + 1 - 1 : Nat) : Int) by omega) rfl ?_
  obtain ⟨QX, sX, kX⟩ := pr_shout hI (toInt_in (xs ((i : Int) + 1).toNat)) (toInt_in (xs ((i : Int) + 2).toNat))
  refine wp_callV (pc' := 620) (as := [vI (xs ((i : Int) + 1).toNat).toInt, vI (xs ((i : Int) + 2).toNat).toInt]) (rest := []) sX dL_law_617 rfl lkL_81 okX10_shout inX10_shout seX10_shout o_1 vc9 ⟨Nat.le_of_ble_eq_true rfl, Nat.le_of_ble_eq_true rfl⟩ (Nat.le_of_ble_eq_true rfl) (Nat.le_refl _) (Nat.le_refl _) okP_eq okP_eq rfl (rvI rfl (fun x I1 R1 hq1 => ?_))
  obtain ⟨QM, sM, kM⟩ := kX x I1 R1 hq1
  refine wp_aload_n (pc' := 621) (q := 2) (i := 2) rfl rfl dL_law_620 rfl ?_
  refine wp_aload_n (pc' := 622) (q := 0) (i := 0) rfl rfl dL_law_621 rfl ?_
  refine wp_iload_n (pc' := 623) (q := 3) (i := 3) rfl rfl dL_law_622 rfl ?_
  refine wp_iconst (pc' := 624) dL_law_623 rfl ?_
  refine wp_iadd (pc' := 625) dL_law_624 rfl ?_
  refine wp_sld (pc' := 626) (by decide) dL_law_625 (show 0 ≤ (i : Int) + 1 ∧ (i : Int) + 1 < ((SL + 1 - 1 : Nat) : Int) by omega) rfl ?_
  refine wp_aload_n (pc' := 627) (q := 0) (i := 0) rfl rfl dL_law_626 rfl ?_
  refine wp_iload_n (pc' := 628) (q := 3) (i := 3) rfl rfl dL_law_627 rfl ?_
  refine wp_iconst (pc' := 629) dL_law_628 rfl ?_
  refine wp_iadd (pc' := 630) dL_law_629 rfl ?_
  refine wp_sld (pc' := 631) (by decide) dL_law_630 (show 0 ≤ (i : Int) + 2 ∧ (i : Int) + 2 < ((SL + 1 - 1 : Nat) : Int) by omega) rfl ?_
  refine wp_callV (pc' := 634) (as := [vI (xs ((i : Int) + 1).toNat).toInt, vI (xs ((i : Int) + 2).toNat).toInt]) (rest := [vI x]) sM dL_law_631 rfl lkL_84 okX11_shout inX11_shout seX11_shout o_68 vc10 ⟨Nat.le_of_ble_eq_true rfl, Nat.le_of_ble_eq_true rfl⟩ (Nat.le_of_ble_eq_true rfl) (Nat.le_refl _) (Nat.le_refl _) okP_eq okP_eq rfl (rvI rfl (fun y I2 R2 hq2 => ?_))
  obtain ⟨e2, hI2⟩ := kM y I2 R2 hq2
  rw [e2]
  refine wp_icmp_same (tgt := 800) dL_law_634 rfl ?_
  exact k8 I2 R2 hI2

set_option maxHeartbeats 4000000 in
theorem lc_16 {SL i : Nat} {xs : Nat → Int32} {I : II} {R : RR} (hi : i + 4 ≤ SL) (hI : Inv I R) (k8 : ∀ I2 R2, Inv I2 R2 → wp (KL SL xs) mL_law QL 800 [vR 1000, vR 1, vR 68, vI (i : Int)] [] I2 R2 89) : wp (KL SL xs) mL_law QL 639 [vR 1000, vR 1, vR 68, vI (i : Int)] [] I R 89 := by
  refine wp_aload_n (pc' := 640) (q := 1) (i := 1) rfl rfl dL_law_639 rfl ?_
  refine wp_aload_n (pc' := 641) (q := 0) (i := 0) rfl rfl dL_law_640 rfl ?_
  refine wp_iload_n (pc' := 642) (q := 3) (i := 3) rfl rfl dL_law_641 rfl ?_
  refine wp_iconst (pc' := 643) dL_law_642 rfl ?_
  refine wp_iadd (pc' := 644) dL_law_643 rfl ?_
  refine wp_sld (pc' := 645) (by decide) dL_law_644 (show 0 ≤ (i : Int) + 1 ∧ (i : Int) + 1 < ((SL + 1 - 1 : Nat) : Int) by omega) rfl ?_
  obtain ⟨QX, sX, kX⟩ := pr_known hI (toInt_in (xs ((i : Int) + 1).toNat))
  refine wp_callV (pc' := 648) (as := [vI (xs ((i : Int) + 1).toNat).toInt]) (rest := []) sX dL_law_645 rfl lkL_85 okX10_known inX10_known seX10_known o_1 vc9 ⟨Nat.le_of_ble_eq_true rfl, Nat.le_of_ble_eq_true rfl⟩ (Nat.le_of_ble_eq_true rfl) (Nat.le_refl _) (Nat.le_refl _) okP_eq okP_eq rfl (rvI rfl (fun x I1 R1 hq1 => ?_))
  obtain ⟨QM, sM, kM⟩ := kX x I1 R1 hq1
  refine wp_aload_n (pc' := 649) (q := 2) (i := 2) rfl rfl dL_law_648 rfl ?_
  refine wp_aload_n (pc' := 650) (q := 0) (i := 0) rfl rfl dL_law_649 rfl ?_
  refine wp_iload_n (pc' := 651) (q := 3) (i := 3) rfl rfl dL_law_650 rfl ?_
  refine wp_iconst (pc' := 652) dL_law_651 rfl ?_
  refine wp_iadd (pc' := 653) dL_law_652 rfl ?_
  refine wp_sld (pc' := 654) (by decide) dL_law_653 (show 0 ≤ (i : Int) + 1 ∧ (i : Int) + 1 < ((SL + 1 - 1 : Nat) : Int) by omega) rfl ?_
  refine wp_callV (pc' := 657) (as := [vI (xs ((i : Int) + 1).toNat).toInt]) (rest := [vI x]) sM dL_law_654 rfl lkL_88 okX11_known inX11_known seX11_known o_68 vc10 ⟨Nat.le_of_ble_eq_true rfl, Nat.le_of_ble_eq_true rfl⟩ (Nat.le_of_ble_eq_true rfl) (Nat.le_refl _) (Nat.le_refl _) okP_eq okP_eq rfl (rvI rfl (fun y I2 R2 hq2 => ?_))
  obtain ⟨e2, hI2⟩ := kM y I2 R2 hq2
  rw [e2]
  refine wp_icmp_same (tgt := 800) dL_law_657 rfl ?_
  exact k8 I2 R2 hI2

set_option maxHeartbeats 4000000 in
theorem lc_17 {SL i : Nat} {xs : Nat → Int32} {I : II} {R : RR} (hi : i + 4 ≤ SL) (hI : Inv I R) (k8 : ∀ I2 R2, Inv I2 R2 → wp (KL SL xs) mL_law QL 800 [vR 1000, vR 1, vR 68, vI (i : Int)] [] I2 R2 89) : wp (KL SL xs) mL_law QL 662 [vR 1000, vR 1, vR 68, vI (i : Int)] [] I R 89 := by
  refine wp_aload_n (pc' := 663) (q := 1) (i := 1) rfl rfl dL_law_662 rfl ?_
  refine wp_aload_n (pc' := 664) (q := 0) (i := 0) rfl rfl dL_law_663 rfl ?_
  refine wp_iload_n (pc' := 665) (q := 3) (i := 3) rfl rfl dL_law_664 rfl ?_
  refine wp_iconst (pc' := 666) dL_law_665 rfl ?_
  refine wp_iadd (pc' := 667) dL_law_666 rfl ?_
  refine wp_sld (pc' := 668) (by decide) dL_law_667 (show 0 ≤ (i : Int) + 1 ∧ (i : Int) + 1 < ((SL + 1 - 1 : Nat) : Int) by omega) rfl ?_
  obtain ⟨QX, sX, kX⟩ := pr_least hI (toInt_in (xs ((i : Int) + 1).toNat))
  refine wp_callV (pc' := 671) (as := [vI (xs ((i : Int) + 1).toNat).toInt]) (rest := []) sX dL_law_668 rfl lkL_89 okX10_least inX10_least seX10_least o_1 vc9 ⟨Nat.le_of_ble_eq_true rfl, Nat.le_of_ble_eq_true rfl⟩ (Nat.le_of_ble_eq_true rfl) (Nat.le_refl _) (Nat.le_refl _) okP_eq okP_eq rfl (rvI rfl (fun x I1 R1 hq1 => ?_))
  obtain ⟨QM, sM, kM⟩ := kX x I1 R1 hq1
  refine wp_aload_n (pc' := 672) (q := 2) (i := 2) rfl rfl dL_law_671 rfl ?_
  refine wp_aload_n (pc' := 673) (q := 0) (i := 0) rfl rfl dL_law_672 rfl ?_
  refine wp_iload_n (pc' := 674) (q := 3) (i := 3) rfl rfl dL_law_673 rfl ?_
  refine wp_iconst (pc' := 675) dL_law_674 rfl ?_
  refine wp_iadd (pc' := 676) dL_law_675 rfl ?_
  refine wp_sld (pc' := 677) (by decide) dL_law_676 (show 0 ≤ (i : Int) + 1 ∧ (i : Int) + 1 < ((SL + 1 - 1 : Nat) : Int) by omega) rfl ?_
  refine wp_callV (pc' := 680) (as := [vI (xs ((i : Int) + 1).toNat).toInt]) (rest := [vI x]) sM dL_law_677 rfl lkL_92 okX11_least inX11_least seX11_least o_68 vc10 ⟨Nat.le_of_ble_eq_true rfl, Nat.le_of_ble_eq_true rfl⟩ (Nat.le_of_ble_eq_true rfl) (Nat.le_refl _) (Nat.le_refl _) okP_eq okP_eq rfl (rvI rfl (fun y I2 R2 hq2 => ?_))
  obtain ⟨e2, hI2⟩ := kM y I2 R2 hq2
  rw [e2]
  refine wp_icmp_same (tgt := 800) dL_law_680 rfl ?_
  exact k8 I2 R2 hI2

set_option maxHeartbeats 4000000 in
theorem lc_18 {SL i : Nat} {xs : Nat → Int32} {I : II} {R : RR} (hi : i + 4 ≤ SL) (hI : Inv I R) (k8 : ∀ I2 R2, Inv I2 R2 → wp (KL SL xs) mL_law QL 800 [vR 1000, vR 1, vR 68, vI (i : Int)] [] I2 R2 89) : wp (KL SL xs) mL_law QL 685 [vR 1000, vR 1, vR 68, vI (i : Int)] [] I R 89 := by
  refine wp_aload_n (pc' := 686) (q := 1) (i := 1) rfl rfl dL_law_685 rfl ?_
  refine wp_aload_n (pc' := 687) (q := 0) (i := 0) rfl rfl dL_law_686 rfl ?_
  refine wp_iload_n (pc' := 688) (q := 3) (i := 3) rfl rfl dL_law_687 rfl ?_
  refine wp_iconst (pc' := 689) dL_law_688 rfl ?_
  refine wp_iadd (pc' := 690) dL_law_689 rfl ?_
  refine wp_sld (pc' := 691) (by decide) dL_law_690 (show 0 ≤ (i : Int) + 1 ∧ (i : Int) + 1 < ((SL + 1 - 1 : Nat) : Int) by omega) rfl ?_
  obtain ⟨QX, sX, kX⟩ := pr_laws hI (toInt_in (xs ((i : Int) + 1).toNat))
  refine wp_callV (pc' := 694) (as := [vI (xs ((i : Int) + 1).toNat).toInt]) (rest := []) sX dL_law_691 rfl lkL_93 okX10_laws inX10_laws seX10_laws o_1 vc9 ⟨Nat.le_of_ble_eq_true rfl, Nat.le_of_ble_eq_true rfl⟩ (Nat.le_of_ble_eq_true rfl) (Nat.le_refl _) (Nat.le_refl _) okP_eq okP_eq rfl (rvI rfl (fun x I1 R1 hq1 => ?_))
  obtain ⟨QM, sM, kM⟩ := kX x I1 R1 hq1
  refine wp_aload_n (pc' := 695) (q := 2) (i := 2) rfl rfl dL_law_694 rfl ?_
  refine wp_aload_n (pc' := 696) (q := 0) (i := 0) rfl rfl dL_law_695 rfl ?_
  refine wp_iload_n (pc' := 697) (q := 3) (i := 3) rfl rfl dL_law_696 rfl ?_
  refine wp_iconst (pc' := 698) dL_law_697 rfl ?_
  refine wp_iadd (pc' := 699) dL_law_698 rfl ?_
  refine wp_sld (pc' := 700) (by decide) dL_law_699 (show 0 ≤ (i : Int) + 1 ∧ (i : Int) + 1 < ((SL + 1 - 1 : Nat) : Int) by omega) rfl ?_
  refine wp_callV (pc' := 703) (as := [vI (xs ((i : Int) + 1).toNat).toInt]) (rest := [vI x]) sM dL_law_700 rfl lkL_96 okX11_laws inX11_laws seX11_laws o_68 vc10 ⟨Nat.le_of_ble_eq_true rfl, Nat.le_of_ble_eq_true rfl⟩ (Nat.le_of_ble_eq_true rfl) (Nat.le_refl _) (Nat.le_refl _) okP_eq okP_eq rfl (rvI rfl (fun y I2 R2 hq2 => ?_))
  obtain ⟨e2, hI2⟩ := kM y I2 R2 hq2
  rw [e2]
  refine wp_icmp_same (tgt := 800) dL_law_703 rfl ?_
  exact k8 I2 R2 hI2

set_option maxHeartbeats 4000000 in
theorem lc_19 {SL i : Nat} {xs : Nat → Int32} {I : II} {R : RR} (hi : i + 4 ≤ SL) (hI : Inv I R) (k8 : ∀ I2 R2, Inv I2 R2 → wp (KL SL xs) mL_law QL 800 [vR 1000, vR 1, vR 68, vI (i : Int)] [] I2 R2 89) : wp (KL SL xs) mL_law QL 708 [vR 1000, vR 1, vR 68, vI (i : Int)] [] I R 89 := by
  refine wp_aload_n (pc' := 709) (q := 1) (i := 1) rfl rfl dL_law_708 rfl ?_
  refine wp_aload_n (pc' := 710) (q := 0) (i := 0) rfl rfl dL_law_709 rfl ?_
  refine wp_iload_n (pc' := 711) (q := 3) (i := 3) rfl rfl dL_law_710 rfl ?_
  refine wp_iconst (pc' := 712) dL_law_711 rfl ?_
  refine wp_iadd (pc' := 713) dL_law_712 rfl ?_
  refine wp_sld (pc' := 714) (by decide) dL_law_713 (show 0 ≤ (i : Int) + 1 ∧ (i : Int) + 1 < ((SL + 1 - 1 : Nat) : Int) by omega) rfl ?_
  refine wp_aload_n (pc' := 715) (q := 0) (i := 0) rfl rfl dL_law_714 rfl ?_
  refine wp_iload_n (pc' := 716) (q := 3) (i := 3) rfl rfl dL_law_715 rfl ?_
  refine wp_iconst (pc' := 717) dL_law_716 rfl ?_
  refine wp_iadd (pc' := 718) dL_law_717 rfl ?_
  refine wp_sld (pc' := 719) (by decide) dL_law_718 (show 0 ≤ (i : Int) + 2 ∧ (i : Int) + 2 < ((SL + 1 - 1 : Nat) : Int) by omega) rfl ?_
  refine wp_aload_n (pc' := 720) (q := 0) (i := 0) rfl rfl dL_law_719 rfl ?_
  refine wp_iload_n (pc' := 721) (q := 3) (i := 3) rfl rfl dL_law_720 rfl ?_
  refine wp_iconst (pc' := 722) dL_law_721 rfl ?_
  refine wp_iadd (pc' := 723) dL_law_722 rfl ?_
  refine wp_sld (pc' := 724) (by decide) dL_law_723 (show 0 ≤ (i : Int) + 3 ∧ (i : Int) + 3 < ((SL + 1 - 1 : Nat) : Int) by omega) rfl ?_
  obtain ⟨QX, sX, kX⟩ := pr_two hI (toInt_in (xs ((i : Int) + 1).toNat)) (toInt_in (xs ((i : Int) + 2).toNat)) (toInt_in (xs ((i : Int) + 3).toNat))
  refine wp_callV (pc' := 727) (as := [vI (xs ((i : Int) + 1).toNat).toInt, vI (xs ((i : Int) + 2).toNat).toInt, vI (xs ((i : Int) + 3).toNat).toInt]) (rest := []) sX dL_law_724 rfl lkL_97 okX10_two inX10_two seX10_two o_1 vc9 ⟨Nat.le_of_ble_eq_true rfl, Nat.le_of_ble_eq_true rfl⟩ (Nat.le_of_ble_eq_true rfl) (Nat.le_refl _) (Nat.le_refl _) okP_eq okP_eq rfl (rvI rfl (fun x I1 R1 hq1 => ?_))
  obtain ⟨QM, sM, kM⟩ := kX x I1 R1 hq1
  refine wp_aload_n (pc' := 728) (q := 2) (i := 2) rfl rfl dL_law_727 rfl ?_
  refine wp_aload_n (pc' := 729) (q := 0) (i := 0) rfl rfl dL_law_728 rfl ?_
  refine wp_iload_n (pc' := 730) (q := 3) (i := 3) rfl rfl dL_law_729 rfl ?_
  refine wp_iconst (pc' := 731) dL_law_730 rfl ?_
  refine wp_iadd (pc' := 732) dL_law_731 rfl ?_
  refine wp_sld (pc' := 733) (by decide) dL_law_732 (show 0 ≤ (i : Int) + 1 ∧ (i : Int) + 1 < ((SL + 1 - 1 : Nat) : Int) by omega) rfl ?_
  refine wp_aload_n (pc' := 734) (q := 0) (i := 0) rfl rfl dL_law_733 rfl ?_
  refine wp_iload_n (pc' := 735) (q := 3) (i := 3) rfl rfl dL_law_734 rfl ?_
  refine wp_iconst (pc' := 736) dL_law_735 rfl ?_
  refine wp_iadd (pc' := 737) dL_law_736 rfl ?_
  refine wp_sld (pc' := 738) (by decide) dL_law_737 (show 0 ≤ (i : Int) + 2 ∧ (i : Int) + 2 < ((SL + 1 - 1 : Nat) : Int) by omega) rfl ?_
  refine wp_aload_n (pc' := 739) (q := 0) (i := 0) rfl rfl dL_law_738 rfl ?_
  refine wp_iload_n (pc' := 740) (q := 3) (i := 3) rfl rfl dL_law_739 rfl ?_
  refine wp_iconst (pc' := 741) dL_law_740 rfl ?_
  refine wp_iadd (pc' := 742) dL_law_741 rfl ?_
  refine wp_sld (pc' := 743) (by decide) dL_law_742 (show 0 ≤ (i : Int) + 3 ∧ (i : Int) + 3 < ((SL + 1 - 1 : Nat) : Int) by omega) rfl ?_
  refine wp_callV (pc' := 746) (as := [vI (xs ((i : Int) + 1).toNat).toInt, vI (xs ((i : Int) + 2).toNat).toInt, vI (xs ((i : Int) + 3).toNat).toInt]) (rest := [vI x]) sM dL_law_743 rfl lkL_100 okX11_two inX11_two seX11_two o_68 vc10 ⟨Nat.le_of_ble_eq_true rfl, Nat.le_of_ble_eq_true rfl⟩ (Nat.le_of_ble_eq_true rfl) (Nat.le_refl _) (Nat.le_refl _) okP_eq okP_eq rfl (rvI rfl (fun y I2 R2 hq2 => ?_))
  obtain ⟨e2, hI2⟩ := kM y I2 R2 hq2
  rw [e2]
  refine wp_icmp_same (tgt := 800) dL_law_746 rfl ?_
  exact k8 I2 R2 hI2

set_option maxHeartbeats 4000000 in
theorem lc_20 {SL i : Nat} {xs : Nat → Int32} {I : II} {R : RR} (hi : i + 4 ≤ SL) (hI : Inv I R) (k8 : ∀ I2 R2, Inv I2 R2 → wp (KL SL xs) mL_law QL 800 [vR 1000, vR 1, vR 68, vI (i : Int)] [] I2 R2 89) : wp (KL SL xs) mL_law QL 751 [vR 1000, vR 1, vR 68, vI (i : Int)] [] I R 89 := by
  refine wp_aload_n (pc' := 752) (q := 1) (i := 1) rfl rfl dL_law_751 rfl ?_
  obtain ⟨QX, sX, kX⟩ := pr_keep hI
  refine wp_callV (pc' := 755) (as := []) (rest := []) sX dL_law_752 rfl lkL_101 okX10_keep inX10_keep seX10_keep o_1 vc9 ⟨Nat.le_of_ble_eq_true rfl, Nat.le_of_ble_eq_true rfl⟩ (Nat.le_of_ble_eq_true rfl) (Nat.le_refl _) (Nat.le_refl _) okP_eq okP_eq rfl (rvI rfl (fun x I1 R1 hq1 => ?_))
  obtain ⟨QM, sM, kM⟩ := kX x I1 R1 hq1
  refine wp_aload_n (pc' := 756) (q := 2) (i := 2) rfl rfl dL_law_755 rfl ?_
  refine wp_callV (pc' := 759) (as := []) (rest := [vI x]) sM dL_law_756 rfl lkL_104 okX11_keep inX11_keep seX11_keep o_68 vc10 ⟨Nat.le_of_ble_eq_true rfl, Nat.le_of_ble_eq_true rfl⟩ (Nat.le_of_ble_eq_true rfl) (Nat.le_refl _) (Nat.le_refl _) okP_eq okP_eq rfl (rvI rfl (fun y I2 R2 hq2 => ?_))
  obtain ⟨e2, hI2⟩ := kM y I2 R2 hq2
  rw [e2]
  refine wp_icmp_same (tgt := 800) dL_law_759 rfl ?_
  exact k8 I2 R2 hI2

set_option maxHeartbeats 4000000 in
theorem lc_21 {SL i : Nat} {xs : Nat → Int32} {I : II} {R : RR} (hi : i + 4 ≤ SL) (hI : Inv I R) (k8 : ∀ I2 R2, Inv I2 R2 → wp (KL SL xs) mL_law QL 800 [vR 1000, vR 1, vR 68, vI (i : Int)] [] I2 R2 89) : wp (KL SL xs) mL_law QL 764 [vR 1000, vR 1, vR 68, vI (i : Int)] [] I R 89 := by
  refine wp_aload_n (pc' := 765) (q := 1) (i := 1) rfl rfl dL_law_764 rfl ?_
  obtain ⟨QX, sX, kX⟩ := pr_back hI
  refine wp_callV (pc' := 768) (as := []) (rest := []) sX dL_law_765 rfl lkL_105 okX10_back inX10_back seX10_back o_1 vc9 ⟨Nat.le_of_ble_eq_true rfl, Nat.le_of_ble_eq_true rfl⟩ (Nat.le_of_ble_eq_true rfl) (Nat.le_refl _) (Nat.le_refl _) okP_eq okP_eq rfl (rvI rfl (fun x I1 R1 hq1 => ?_))
  obtain ⟨QM, sM, kM⟩ := kX x I1 R1 hq1
  refine wp_aload_n (pc' := 769) (q := 2) (i := 2) rfl rfl dL_law_768 rfl ?_
  refine wp_callV (pc' := 772) (as := []) (rest := [vI x]) sM dL_law_769 rfl lkL_108 okX11_back inX11_back seX11_back o_68 vc10 ⟨Nat.le_of_ble_eq_true rfl, Nat.le_of_ble_eq_true rfl⟩ (Nat.le_of_ble_eq_true rfl) (Nat.le_refl _) (Nat.le_refl _) okP_eq okP_eq rfl (rvI rfl (fun y I2 R2 hq2 => ?_))
  obtain ⟨e2, hI2⟩ := kM y I2 R2 hq2
  rw [e2]
  refine wp_icmp_same (tgt := 800) dL_law_772 rfl ?_
  exact k8 I2 R2 hI2

set_option maxHeartbeats 4000000 in
theorem lc_22 {SL i : Nat} {xs : Nat → Int32} {I : II} {R : RR} (hi : i + 4 ≤ SL) (hI : Inv I R) (k8 : ∀ I2 R2, Inv I2 R2 → wp (KL SL xs) mL_law QL 800 [vR 1000, vR 1, vR 68, vI (i : Int)] [] I2 R2 89) : wp (KL SL xs) mL_law QL 777 [vR 1000, vR 1, vR 68, vI (i : Int)] [] I R 89 := by
  refine wp_aload_n (pc' := 778) (q := 1) (i := 1) rfl rfl dL_law_777 rfl ?_
  refine wp_aload_n (pc' := 779) (q := 0) (i := 0) rfl rfl dL_law_778 rfl ?_
  refine wp_iload_n (pc' := 780) (q := 3) (i := 3) rfl rfl dL_law_779 rfl ?_
  refine wp_iconst (pc' := 781) dL_law_780 rfl ?_
  refine wp_iadd (pc' := 782) dL_law_781 rfl ?_
  refine wp_sld (pc' := 783) (by decide) dL_law_782 (show 0 ≤ (i : Int) + 1 ∧ (i : Int) + 1 < ((SL + 1 - 1 : Nat) : Int) by omega) rfl ?_
  obtain ⟨QX, sX, kX⟩ := pr_count hI (toInt_in (xs ((i : Int) + 1).toNat))
  refine wp_callV (pc' := 786) (as := [vI (xs ((i : Int) + 1).toNat).toInt]) (rest := []) sX dL_law_783 rfl lkL_109 okX10_count inX10_count seX10_count o_1 vc9 ⟨Nat.le_of_ble_eq_true rfl, Nat.le_of_ble_eq_true rfl⟩ (Nat.le_of_ble_eq_true rfl) (Nat.le_refl _) (Nat.le_refl _) okP_eq okP_eq rfl (rvI rfl (fun x I1 R1 hq1 => ?_))
  obtain ⟨QM, sM, kM⟩ := kX x I1 R1 hq1
  refine wp_aload_n (pc' := 787) (q := 2) (i := 2) rfl rfl dL_law_786 rfl ?_
  refine wp_aload_n (pc' := 788) (q := 0) (i := 0) rfl rfl dL_law_787 rfl ?_
  refine wp_iload_n (pc' := 789) (q := 3) (i := 3) rfl rfl dL_law_788 rfl ?_
  refine wp_iconst (pc' := 790) dL_law_789 rfl ?_
  refine wp_iadd (pc' := 791) dL_law_790 rfl ?_
  refine wp_sld (pc' := 792) (by decide) dL_law_791 (show 0 ≤ (i : Int) + 1 ∧ (i : Int) + 1 < ((SL + 1 - 1 : Nat) : Int) by omega) rfl ?_
  refine wp_callV (pc' := 795) (as := [vI (xs ((i : Int) + 1).toNat).toInt]) (rest := [vI x]) sM dL_law_792 rfl lkL_112 okX11_count inX11_count seX11_count o_68 vc10 ⟨Nat.le_of_ble_eq_true rfl, Nat.le_of_ble_eq_true rfl⟩ (Nat.le_of_ble_eq_true rfl) (Nat.le_refl _) (Nat.le_refl _) okP_eq okP_eq rfl (rvI rfl (fun y I2 R2 hq2 => ?_))
  obtain ⟨e2, hI2⟩ := kM y I2 R2 hq2
  rw [e2]
  refine wp_icmp_same (tgt := 800) dL_law_795 rfl ?_
  exact k8 I2 R2 hI2

set_option maxHeartbeats 8000000 in
theorem law_loop {SL : Nat} {xs : Nat → Int32} (hSL : SL ≤ 2048) : ∀ (n i : Nat) (I : II) (R : RR), i ≤ 2052 → SL < i + 4 * n + 4 → Inv I R → wp (KL SL xs) mL_law QL 18 [vR 1000, vR 1, vR 68, vI (i : Int)] [] I R 89 := by
  intro n
  -- the end
  have fin : ∀ (i : Nat) (I : II) (R : RR), wp (KL SL xs) mL_law QL 806 [vR 1000, vR 1, vR 68, vI (i : Int)] [] I R 89 := fun i I R => by
    refine wp_iconst (pc' := 807) dL_law_806 rfl ?_
    exact wp_zreturn dL_law_807 rfl rfl (Or.inr rfl) rfl
  induction n with
  | zero =>
    intro i I R hi hn hI
    refine wp_iload_n (pc' := 19) (q := 3) (i := 3) rfl rfl dL_law_18 rfl ?_
    refine wp_aload_n (pc' := 20) (q := 0) (i := 0) rfl rfl dL_law_19 rfl ?_
    refine wp_slen (pc' := 21) (by decide) (Nat.succ_pos _) dL_law_20 rfl ?_
    refine wp_iconst (pc' := 22) dL_law_21 rfl ?_
    refine wp_isub (pc' := 23) dL_law_22 rfl ?_
    show wp (KL SL xs) mL_law QL 23 [vR 1000, vR 1, vR 68, vI (i : Int)] [vI ((SL : Int) - 4), vI (i : Int)] I R 89
    exact wp_icmp_gt (pc' := 26) (tgt := 806) ⟨by omega, by omega⟩ ⟨by omega, by omega⟩ dL_law_23 rfl rfl (fun _ => fin i I R) (fun hc => absurd (by omega) hc)
  | succ n ih =>
    intro i I R hi hn hI
    refine wp_iload_n (pc' := 19) (q := 3) (i := 3) rfl rfl dL_law_18 rfl ?_
    refine wp_aload_n (pc' := 20) (q := 0) (i := 0) rfl rfl dL_law_19 rfl ?_
    refine wp_slen (pc' := 21) (by decide) (Nat.succ_pos _) dL_law_20 rfl ?_
    refine wp_iconst (pc' := 22) dL_law_21 rfl ?_
    refine wp_isub (pc' := 23) dL_law_22 rfl ?_
    show wp (KL SL xs) mL_law QL 23 [vR 1000, vR 1, vR 68, vI (i : Int)] [vI ((SL : Int) - 4), vI (i : Int)] I R 89
    refine wp_icmp_gt (pc' := 26) (tgt := 806) ⟨by omega, by omega⟩ ⟨by omega, by omega⟩ dL_law_23 rfl rfl (fun _ => fin i I R) (fun hc => ?_)
    have h4 : i + 4 ≤ SL := by omega
    have k8 : ∀ I2 R2, Inv I2 R2 → wp (KL SL xs) mL_law QL 800 [vR 1000, vR 1, vR 68, vI (i : Int)] [] I2 R2 89 := fun I2 R2 hI2 => by
      refine wp_iinc (pc' := 803) (i := 3) (L' := [vR 1000, vR 1, vR 68, vI ((i : Int) + 4)]) rfl (by decide) rfl dL_law_800 rfl rfl ?_
      refine wp_goto (tgt := 18) dL_law_803 rfl ?_
      rw [show (i : Int) + 4 = ((i + 4 : Nat) : Int) by omega]
      exact ih (i + 4) I2 R2 (by omega) (by omega) hI2
    refine wp_aload_n (pc' := 27) (q := 0) (i := 0) rfl rfl dL_law_26 rfl ?_
    refine wp_iload_n (pc' := 28) (q := 3) (i := 3) rfl rfl dL_law_27 rfl ?_
    refine wp_sld (pc' := 29) (by decide) dL_law_28 (show 0 ≤ (i : Int) ∧ (i : Int) < ((SL + 1 - 1 : Nat) : Int) by omega) rfl ?_
    refine wp_bipush (pc' := 31) (by decide) dL_law_29 rfl ?_
    refine wp_iand (pc' := 32) dL_law_31 rfl ?_
    refine wp_table (tgtD := 800) (toInt_in _) dL_law_32 rfl (fun _ => k8 I R hI) (fun j hj hle => ?_)
    have hj9 : j = 0 ∨ j = 1 ∨ j = 2 ∨ j = 3 ∨ j = 4 ∨ j = 5 ∨ j = 6 ∨ j = 7 ∨ j = 8 ∨ j = 9 ∨ j = 10 ∨ j = 11 ∨ j = 12 ∨ j = 13 ∨ j = 14 ∨ j = 15 ∨ j = 16 ∨ j = 17 ∨ j = 18 ∨ j = 19 ∨ j = 20 ∨ j = 21 ∨ j = 22 := by omega
    rcases hj9 with rfl | rfl | rfl | rfl | rfl | rfl | rfl | rfl | rfl | rfl | rfl | rfl | rfl | rfl | rfl | rfl | rfl | rfl | rfl | rfl | rfl | rfl | rfl
    · exact ⟨108, 140, rfl, rfl, lc_0 h4 hI k8⟩
    · exact ⟨171, 203, rfl, rfl, lc_1 h4 hI k8⟩
    · exact ⟨184, 216, rfl, rfl, lc_2 h4 hI k8⟩
    · exact ⟨197, 229, rfl, rfl, lc_3 h4 hI k8⟩
    · exact ⟨210, 242, rfl, rfl, lc_4 h4 hI k8⟩
    · exact ⟨243, 275, rfl, rfl, lc_5 h4 hI k8⟩
    · exact ⟨276, 308, rfl, rfl, lc_6 h4 hI k8⟩
    · exact ⟨299, 331, rfl, rfl, lc_7 h4 hI k8⟩
    · exact ⟨322, 354, rfl, rfl, lc_8 h4 hI k8⟩
    · exact ⟨346, 378, rfl, rfl, lc_9 h4 hI k8⟩
    · exact ⟨379, 411, rfl, rfl, lc_10 h4 hI k8⟩
    · exact ⟨412, 444, rfl, rfl, lc_11 h4 hI k8⟩
    · exact ⟨455, 487, rfl, rfl, lc_12 h4 hI k8⟩
    · exact ⟨498, 530, rfl, rfl, lc_13 h4 hI k8⟩
    · exact ⟨541, 573, rfl, rfl, lc_14 h4 hI k8⟩
    · exact ⟨574, 606, rfl, rfl, lc_15 h4 hI k8⟩
    · exact ⟨607, 639, rfl, rfl, lc_16 h4 hI k8⟩
    · exact ⟨630, 662, rfl, rfl, lc_17 h4 hI k8⟩
    · exact ⟨653, 685, rfl, rfl, lc_18 h4 hI k8⟩
    · exact ⟨676, 708, rfl, rfl, lc_19 h4 hI k8⟩
    · exact ⟨719, 751, rfl, rfl, lc_20 h4 hI k8⟩
    · exact ⟨732, 764, rfl, rfl, lc_21 h4 hI k8⟩
    · exact ⟨745, 777, rfl, rfl, lc_22 h4 hI k8⟩
theorem upL_row : ∀ (l : List (Nat × Nat × Nat)) (R : RR) (i k : Nat), (∀ e ∈ l, e.1 ≠ i) → upL l R i k = R i k
  | [], _, _, _, _ => rfl
  | e :: t, R, i, k, h => by
    show upL t (up2 R e.1 e.2.1 e.2.2) i k = _
    rw [upL_row t _ i k (fun x hx => h x (List.mem_cons_of_mem _ hx)), up2_ne (fun q => h e List.mem_cons_self q.symm)]
theorem OKv_1 : OKv ρ1 [] [] [] := by
  have m1 : mayP ρE 0 9 0 := by decide
  have m2 : mayP (pushP ρE 0 9 0) 1 1 0 := by decide
  have k1 := okR0_push okR0_E (Or.inl rfl) (by decide) (by decide) m1
  have k2 := okR0_push k1 (Or.inr rfl) (by decide) (by decide) m2
  exact ⟨okRM_of k2 (by decide) (by decide), fun b hb => (by cases hb), fun e he => (by cases he), fun e he => (by cases he)⟩
theorem Inv_1 {I1 I2 : II} {R1 R2 : RR} (e1 : R1 = upL LX R00) (z1 : Zr 67 I1 R1) (F1 : XF I1) (a1 : I1 18 4 = 0) (a2 : I1 2 1 = 0) (a3 : I1 1 6 = 0) (x1 : XR I1 R1 6 ρ1) (e2 : R2 = upL (LX ++ LM) R00) (f2 : frm [70, 71, 72, 74] I1 I2) (m2 : MRo I2 ρ1) : Inv I2 R2 := by
  have hR : SR R2 := by rw [e2]; exact SR_all
  have r12 := R12_all
  rw [← e2] at r12
  have hA := roomAt_of hR (Or.inl rfl)
  have row : ∀ k, R2 6 k = R1 6 k := fun k => by
    rw [e2, upL_app, ← e1]
    exact upL_row LM R1 6 k (by decide)
  have zz : ∀ x j, 67 < x → x ≠ 70 → x ≠ 71 → x ≠ 72 → x ≠ 74 → I2 x j = 0 := fun x j h b c d e => by
    rw [f2 x (by simp only [List.mem_cons, List.not_mem_nil, or_false]; omega) j]
    exact z1.1 x j h
  refine ⟨ρ1, [], [], [], OKv_1, ⟨hR, Or.inl r12, ?_, XF_frm F1 f2 (by decide), ⟨(f2 2 (by decide) 1).trans a2, by decide, fun j b hb => by simp at hb⟩, ⟨(f2 18 (by decide) 4).trans a1, by decide, fun i e he => by simp at he⟩, ⟨(f2 1 (by decide) 6).trans a3, by decide, fun j e he => by simp at he⟩⟩, m2, ⟨zz 68 0 (by decide) (by decide) (by decide) (by decide) (by decide), by decide, fun j b hb => by simp at hb⟩, ⟨zz 75 0 (by decide) (by decide) (by decide) (by decide) (by decide), by decide, fun i e he => by simp at he⟩, ⟨zz 68 13 (by decide) (by decide) (by decide) (by decide) (by decide), by decide, fun j e he => by simp at he⟩⟩
  rw [r12.1]
  exact XR_frm2 hA (XR_R x1 row) f2 (by decide)
set_option maxHeartbeats 8000000 in
theorem law_all {SL : Nat} {xs : Nat → Int32} (hSL : SL ≤ 2048) : wp (KL SL xs) mL_law QL 0 [vR 1000, none, none, none] [] I00 R00 0 := by
  have hz : Zr 0 I00 R00 := ⟨fun _ _ _ => rfl, fun _ _ _ => rfl, fun _ _ => Nat.zero_le _⟩
  refine wp_new (pc' := 3) (c0 := 9) dL_law_0 vc9 rfl llL_7 iaX10 iiX10 (show 0 + 1 ≤ 89 by omega) (okP_cons (Or.inr (by omega)) (okP_cons trivial (okP_cons trivial (okP_cons trivial okP_nil)))) okP_nil hz.2.2 (fun _ => rfl) (fun _ => rfl) rfl ?_
  refine wp_dupR (pc' := 4) dL_law_3 rfl ?_
  refine wp_callI (pc' := 7) (as := []) (rest := [vR 1]) (M' := 67) iX10 dL_law_4 rfl (by omega) lkL_9 okX10_init inX10_init rfl rfl ⟨Nat.le_of_ble_eq_true rfl, Nat.le_of_ble_eq_true rfl⟩ (Nat.le_of_ble_eq_true rfl) (by omega) (show 67 ≤ 89 by omega) (okP_cons (Or.inr (by omega)) (okP_cons trivial (okP_cons trivial (okP_cons trivial okP_nil)))) (okP_cons (Or.inl (by omega)) okP_nil) rfl (fun I1 R1 hq => ?_)
  obtain ⟨e1, z1, F1, a1, a2, a3, x1⟩ := hq
  refine wp_astore_n (pc' := 8) (q := 1) (i := 1) (L' := [vR 1000, vR 1, none, none]) (by omega) rfl (by decide) rfl dL_law_7 rfl rfl ?_
  refine wp_new (pc' := 11) (c0 := 10) dL_law_8 vc10 rfl llL_10 iaX11 iiX11 (show 67 + 1 ≤ 89 by omega) (okP_cons (Or.inr (by omega)) (okP_cons (Or.inl (by omega)) (okP_cons trivial (okP_cons trivial okP_nil)))) okP_nil z1.2.2 (fun j => z1.1 _ j (by omega)) (fun j => z1.2.1 _ j (by omega)) rfl ?_
  refine wp_dupR (pc' := 12) dL_law_11 rfl ?_
  refine wp_callI (pc' := 15) (as := []) (rest := [vR 68]) (M' := 89) (iX11 (Zr_n z1) e1) dL_law_12 rfl (by omega) lkL_12 okX11_init inX11_init rfl rfl ⟨Nat.le_of_ble_eq_true rfl, Nat.le_of_ble_eq_true rfl⟩ (Nat.le_of_ble_eq_true rfl) (by omega) (Nat.le_refl 89) (okP_cons (Or.inr (by omega)) (okP_cons (Or.inl (by omega)) (okP_cons trivial (okP_cons trivial okP_nil)))) (okP_cons (Or.inl (by omega)) okP_nil) rfl (fun I2 R2 hq => ?_)
  obtain ⟨e2, f2, m2⟩ := hq
  refine wp_astore_n (pc' := 16) (q := 2) (i := 2) (L' := [vR 1000, vR 1, vR 68, none]) (by omega) rfl (by decide) rfl dL_law_15 rfl rfl ?_
  refine wp_iconst (pc' := 17) dL_law_16 rfl ?_
  refine wp_istore_n (pc' := 18) (q := 3) (i := 3) (L' := [vR 1000, vR 1, vR 68, vI ((0 : Nat) : Int)]) rfl (by decide) rfl dL_law_17 rfl rfl ?_
  exact law_loop hSL (SL + 1) 0 I2 R2 (Nat.zero_le _) (by omega) (Inv_1 e1 z1 F1 a1 a2 a3 x1 e2 f2 m2)
