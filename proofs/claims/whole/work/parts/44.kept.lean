/-! LOGS kept -/
def logAt (R : RR) (a : Nat) : Prop := isO 89 a 4 ∧ (R a 0 = a + 1 ∧ R a 1 = a + 2 ∧ R a 2 = a + 3 ∧ R a 3 = a + 4) ∧ isA 89 (a + 1) 1 200 ∧ isA 89 (a + 2) 1 200 ∧ isA 89 (a + 3) 1 200 ∧ isA 89 (a + 4) 1 200
theorem log18 {R : RR} (hR : SR R) : logAt R 18 := ⟨o_18, ⟨r_18_0 hR, r_18_1 hR, r_18_2 hR, r_18_3 hR⟩, a_19, a_20, a_21, a_22⟩
theorem log56 {R : RR} (hR : SR R) : logAt R 56 := ⟨o_56, ⟨r_56_0 hR, r_56_1 hR, r_56_2 hR, r_56_3 hR⟩, a_57, a_58, a_59, a_60⟩
theorem log63 {R : RR} (hR : SR R) : logAt R 63 := ⟨o_63, ⟨r_63_0 hR, r_63_1 hR, r_63_2 hR, r_63_3 hR⟩, a_64, a_65, a_66, a_67⟩
theorem cpy2_ne {I : II} {s d n a b : Nat} (h : a ≠ d) : cpy2 I s d 0 0 n a b = I a b := by unfold cpy2; rw [if_neg (fun q => h q.1)]
theorem cpy2_at {I : II} {s d n b : Nat} (h : b < n) : cpy2 I s d 0 0 n d b = I s b := by unfold cpy2; rw [if_pos ⟨rfl, Nat.zero_le _, by omega⟩]; simp
theorem frm_cpy {T : List Nat} {I : II} {s d n : Nat} (h : d ∈ T) : frm T I (cpy2 I s d 0 0 n) := fun i hi j => cpy2_ne (fun e => hi (e ▸ h))
theorem aX4_copy {I : II} {R : RR} {a s : Nat} {l : List LE} (ha : logAt R a) (hs : logAt R s) (hd : s + 4 < a ∨ a + 4 < s) (h : XLg I R s l) :
    Spec mX4_copy [vR a, vR s] I R 89 89 (fun _ I' R' => R = R' ∧ frm [a, a + 1, a + 2, a + 3, a + 4] I I' ∧ XLg I' R a l) := by
  obtain ⟨oa, ⟨p0, p1, p2, p3⟩, b1, b2, b3, b4⟩ := ha
  obtain ⟨os, ⟨q0, q1, q2, q3⟩, c1, c2, c3, c4⟩ := hs
  obtain ⟨h4, h200, hx⟩ := h
  rw [q0, q1, q2, q3] at hx
  refine sX4_copy (by decide) (gX4_copy_0 ?_)
  rw [p0, p1, p2, p3, q0, q1, q2, q3, h4, Int.toNat_natCast]
  refine ⟨os, oa, c1, b1, ⟨by decide, by decide, by omega, by omega, by omega⟩, fun I6 e6 => ?_⟩
  have f6 : I6 s 4 = l.length := by rw [e6, cpy2_ne (by omega), h4]
  rw [f6, Int.toNat_natCast]
  refine ⟨c2, b2, ⟨by decide, by decide, by omega, by omega, by omega⟩, fun I10 e10 => ?_⟩
  have f10 : I10 s 4 = l.length := by rw [e10, cpy2_ne (by omega), f6]
  rw [f10, Int.toNat_natCast]
  refine ⟨c3, b3, ⟨by decide, by decide, by omega, by omega, by omega⟩, fun I14 e14 => ?_⟩
  have f14 : I14 s 4 = l.length := by rw [e14, cpy2_ne (by omega), f10]
  rw [f14, Int.toNat_natCast]
  refine ⟨c4, b4, ⟨by decide, by decide, by omega, by omega, by omega⟩, fun I18 e18 I19 e19 => ⟨rfl, ?_, ?_⟩⟩
  · rw [e19, e18, e14, e10, e6]
    exact frm_trans (frm_cpy (by simp)) (frm_trans (frm_cpy (by simp)) (frm_trans (frm_cpy (by simp)) (frm_trans (frm_cpy (by simp)) (frm_up (by simp)))))
  · have f18 : I18 s 4 = l.length := by rw [e18, cpy2_ne (by omega), f14]
    refine ⟨by rw [e19, up2_self, f18], h200, fun i e he => ?_⟩
    have hi : i < l.length := by
      by_cases q : i < l.length
      · exact q
      · rw [List.getElem?_eq_none (by omega)] at he; cases he
    obtain ⟨x1, x2, x3, x4⟩ := hx i e he
    rw [p0, p1, p2, p3]
    refine ⟨?_, ?_, ?_, ?_⟩
    · rw [e19, up2_ne (by omega), e18, cpy2_ne (by omega), e14, cpy2_ne (by omega), e10, cpy2_ne (by omega), e6, cpy2_at hi, x1]
    · rw [e19, up2_ne (by omega), e18, cpy2_ne (by omega), e14, cpy2_ne (by omega), e10, cpy2_at hi, e6, cpy2_ne (by omega), x2]
    · rw [e19, up2_ne (by omega), e18, cpy2_ne (by omega), e14, cpy2_at hi, e10, cpy2_ne (by omega), e6, cpy2_ne (by omega), x3]
    · rw [e19, up2_ne (by omega), e18, cpy2_at hi, e14, cpy2_ne (by omega), e10, cpy2_ne (by omega), e6, cpy2_ne (by omega), x4]
