/-! LOGS kept -/
def logAt (R : RR) (a : Nat) : Prop := isO 89 a 4 ∧ (R a 0 = a + 1 ∧ R a 1 = a + 2 ∧ R a 2 = a + 3 ∧ R a 3 = a + 4) ∧ isA 89 (a + 1) 1 200 ∧ isA 89 (a + 2) 1 200 ∧ isA 89 (a + 3) 1 200 ∧ isA 89 (a + 4) 1 200
theorem log18 {R : RR} (hR : SR R) : logAt R 18 := ⟨o_18, ⟨r_18_0 hR, r_18_1 hR, r_18_2 hR, r_18_3 hR⟩, a_19, a_20, a_21, a_22⟩
theorem log56 {R : RR} (hR : SR R) : logAt R 56 := ⟨o_56, ⟨r_56_0 hR, r_56_1 hR, r_56_2 hR, r_56_3 hR⟩, a_57, a_58, a_59, a_60⟩
theorem log63 {R : RR} (hR : SR R) : logAt R 63 := ⟨o_63, ⟨r_63_0 hR, r_63_1 hR, r_63_2 hR, r_63_3 hR⟩, a_64, a_65, a_66, a_67⟩
theorem cpy2_ne {I : II} {s d n a b : Nat} (h : a ≠ d) : cpy2 I s d 0 0 n a b = I a b := by unfold cpy2; rw [if_neg (fun q => h q.1)]
theorem cpy2_at {I : II} {s d n b : Nat} (h : b < n) : cpy2 I s d 0 0 n d b = I s b := by unfold cpy2; rw [if_pos ⟨rfl, Nat.zero_le _, by omega⟩]; simp
theorem frm_cpy {T : List Nat} {I : II} {s d n : Nat} (h : d ∈ T) : frm T I (cpy2 I s d 0 0 n) := fun i hi j => cpy2_ne (fun e => hi (e ▸ h))
theorem aX4_copy {I : II} {R : RR} {a s : Nat} {l : List LE} (ha : logAt R a) (hs : logAt R s) (hd : s + 4 < a ∨ a + 4 < s) (h : XLg I R s l) :
    Spec mX4_copy [vR a, vR s] I R 89 89 (fun _ I' R' => R = R' ∧ frm [a, a + 1, a + 2, a + 3, a + 4] I I' ∧ XLg I' R a l) := by
  obtain ⟨oa, ⟨p0, p1, p2, p3⟩, b1, b2, b3, b4⟩ := ha
  obtain ⟨os, ⟨q0, q1, q2, q3⟩, c1, c2, c3, c4⟩ := hs
  obtain ⟨h4, h200, hx⟩ := h
  rw [q0, q1, q2, q3] at hx
  refine sX4_copy (by decide) (gX4_copy_0 ?_)
  rw [p0, p1, p2, p3, q0, q1, q2, q3, h4, Int.toNat_natCast]
  refine ⟨os, oa, c1, b1, ⟨by decide, by decide, by omega, by omega, by omega⟩, fun I6 e6 => ?_⟩
  have f6 : I6 s 4 = l.length := by rw [e6, cpy2_ne (by omega), h4]
  rw [f6, Int.toNat_natCast]
  refine ⟨c2, b2, ⟨by decide, by decide, by omega, by omega, by omega⟩, fun I10 e10 => ?_⟩
  have f10 : I10 s 4 = l.length := by rw [e10, cpy2_ne (by omega), f6]
  rw [f10, Int.toNat_natCast]
  refine ⟨c3, b3, ⟨by decide, by decide, by omega, by omega, by omega⟩, fun I14 e14 => ?_⟩
  have f14 : I14 s 4 = l.length := by rw [e14, cpy2_ne (by omega), f10]
  rw [f14, Int.toNat_natCast]
  refine ⟨c4, b4, ⟨by decide, by decide, by omega, by omega, by omega⟩, fun I18 e18 I19 e19 => ⟨rfl, ?_, ?_⟩⟩
  · rw [e19, e18, e14, e10, e6]
    exact frm_trans (frm_cpy (by simp)) (frm_trans (frm_cpy (by simp)) (frm_trans (frm_cpy (by simp)) (frm_trans (frm_cpy (by simp)) (frm_up (by simp)))))
  · have f18 : I18 s 4 = l.length := by rw [e18, cpy2_ne (by omega), f14]
    refine ⟨by rw [e19, up2_self, f18], h200, fun i e he => ?_⟩
    have hi : i < l.length := by
      by_cases q : i < l.length
      · exact q
      · rw [List.getElem?_eq_none (by omega)] at he; cases he
    obtain ⟨x1, x2, x3, x4⟩ := hx i e he
    rw [p0, p1, p2, p3]
    refine ⟨?_, ?_, ?_, ?_⟩
    · rw [e19, up2_ne (by omega), e18, cpy2_ne (by omega), e14, cpy2_ne (by omega), e10, cpy2_ne (by omega), e6, cpy2_at hi, x1]
    · rw [e19, up2_ne (by omega), e18, cpy2_ne (by omega), e14, cpy2_ne (by omega), e10, cpy2_at hi, e6, cpy2_ne (by omega), x2]
    · rw [e19, up2_ne (by omega), e18, cpy2_ne (by omega), e14, cpy2_at hi, e10, cpy2_ne (by omega), e6, cpy2_ne (by omega), x3]
    · rw [e19, up2_ne (by omega), e18, cpy2_at hi, e14, cpy2_ne (by omega), e10, cpy2_ne (by omega), e6, cpy2_ne (by omega), x4]
/-! keep and back, of both -/
/-- LAWS and a LOG, as they were -/
abbrev KE : Type := (Nat → Int) × List LE
def XKs (I : II) (R : RR) (n : Nat) (kp : List KE) : Prop := I 1 6 = kp.length ∧ kp.length ≤ 2 ∧ ∀ (j : Nat) (e : KE), kp[j]? = some e → (∀ p, p < n → I (55 + 7 * j) p = e.1 p) ∧ XLg I R (56 + 7 * j) e.2
def MKs (I : II) (n : Nat) (kp : List KE) : Prop := I 68 13 = kp.length ∧ kp.length ≤ 2 ∧ ∀ (j : Nat) (e : KE), kp[j]? = some e → (∀ p, p < n → I 80 (20 * j + p) = e.1 p) ∧ MLg I (j + 1) e.2
def okKE (ρ : RM) (e : KE) : Prop := (∀ p, 0 ≤ e.1 p ∧ e.1 p ≤ 5) ∧ ∀ x ∈ e.2, okE ρ x
def backRM (ρ : RM) (f : Nat → Int) : RM := (rN ρ, rS ρ, rC ρ, f, rP ρ)
theorem backRM_ok {ρ : RM} {e : KE} (hok : okRM ρ) (h : okKE ρ e) : okRM (backRM ρ e.1) := ⟨hok.1, fun q => ⟨(hok.2.1 q).1, (hok.2.1 q).2.1, (hok.2.1 q).2.2.1, h.1 q⟩, hok.2.2⟩
def keepK (ρ : RM) (l : List LE) (kp : List KE) : List KE := if kp.length < 2 then kp ++ [(rL ρ, l)] else kp
def keepP (kp : List KE) : Int := if kp.length < 2 then kp.length + 1 else -3
def backE (kp : List KE) : Option KE := kp[kp.length - 1]?
theorem appK_at {l : List KE} {e x : KE} {i : Nat} (h : (l ++ [x])[i]? = some e) : (i = l.length ∧ e = x) ∨ (i < l.length ∧ l[i]? = some e) := by
  by_cases hi : i < l.length
  · rw [List.getElem?_append_left hi] at h
    exact Or.inr ⟨hi, h⟩
  · by_cases hj : i = l.length
    · subst hj
      rw [List.getElem?_concat_length] at h
      exact Or.inl ⟨rfl, by injection h with h; exact h.symm⟩
    · rw [List.getElem?_eq_none (by rw [List.length_append]; simp; omega)] at h
      cases h
theorem XLgA_frm {T : List Nat} {I I' : II} {R : RR} {a : Nat} {l : List LE} (ha : logAt R a) (h : XLg I R a l) (hf : frm T I I') (hd : ∀ x ∈ T, ¬ (a ≤ x ∧ x ≤ a + 4)) : XLg I' R a l := by
  obtain ⟨oa, ⟨p0, p1, p2, p3⟩, -⟩ := ha
  have g : ∀ x, a ≤ x → x ≤ a + 4 → ∀ j, I' x j = I x j := fun x h1 h2 => hf x (fun hx => hd x hx ⟨h1, h2⟩)
  obtain ⟨h4, h2, hx⟩ := h
  refine ⟨(g a (by omega) (by omega) 4).trans h4, h2, fun i e he => ?_⟩
  rw [g (R a 0) (by omega) (by omega), g (R a 1) (by omega) (by omega), g (R a 2) (by omega) (by omega), g (R a 3) (by omega) (by omega)]
  exact hx i e he
theorem keptO {R : RR} {j : Nat} (hR : SR R) (hj : j < 2) : R 23 j = 54 + 7 * j ∧ isO 89 (54 + 7 * j) 1 ∧ R (54 + 7 * j) 0 = 55 + 7 * j ∧ R (54 + 7 * j) 1 = 56 + 7 * j ∧ isA 89 (55 + 7 * j) 1 20 ∧ logAt R (56 + 7 * j) := by
  have : j = 0 ∨ j = 1 := by omega
  rcases this with rfl | rfl
  · exact ⟨r_23_0 hR, o_54, r_54_0 hR, r_54_1 hR, a_55, log56 hR⟩
  · exact ⟨r_23_1 hR, o_61, r_61_0 hR, r_61_1 hR, a_62, log63 hR⟩
theorem XKs_frm {T : List Nat} {I I' : II} {R : RR} {n : Nat} {kp : List KE} (hR : SR R) (h : XKs I R n kp) (hf : frm T I I') (hd : ∀ x ∈ T, ¬ x = 1 ∧ ¬ (54 ≤ x ∧ x ≤ 67)) : XKs I' R n kp := by
  obtain ⟨h1, h2, h3⟩ := h
  refine ⟨(hf 1 (fun q => (hd 1 q).1 rfl) 6).trans h1, h2, fun j e he => ?_⟩
  have hj : j < kp.length := (List.getElem?_eq_some_iff.mp he).1
  obtain ⟨k1, k2, k3, k4, k5, k6⟩ := keptO hR (j := j) (by omega)
  obtain ⟨e1, e2⟩ := h3 j e he
  refine ⟨fun p hp => (hf _ (fun q => (hd _ q).2 (by omega)) p).trans (e1 p hp), XLgA_frm k6 e2 hf (fun x hx q => (hd x hx).2 (by omega))⟩
theorem aX10_keep {I : II} {R : RR} {ρ : RM} {l : List LE} {kp : List KE} (hR : SR R) (hr : R 1 2 = 6 ∨ R 1 2 = 12) (h : XR I R (R 1 2) ρ) (hok : okRM ρ) (hl : XLg I R 18 l) (hk : XKs I R (rN ρ) kp) :
    Spec mX10_keep [vR 1] I R 89 89 (fun rv I' R' => R = R' ∧ frm [1, 54, 55, 56, 57, 58, 59, 60, 61, 62, 63, 64, 65, 66, 67] I I' ∧ XKs I' R (rN ρ) (keepK ρ l kp) ∧ rv = vI (keepP kp)) := by
  obtain ⟨o0, o1, o2, o3, o4, o5⟩ := roomO hR hr
  obtain ⟨g0, g1, g2, g3, g4⟩ := roomR hR hr
  have hn := hok.1
  obtain ⟨h1, h2, h3⟩ := hk
  refine sX10_keep (gX10_keep_0 hR ?_)
  rw [h1, Int.toNat_natCast]
  refine ⟨⟨by omega, by omega⟩, fun hc => ?_, fun hc => ⟨rfl, frm_rfl, by unfold keepK; rw [if_neg (by omega)]; exact ⟨h1, h2, h3⟩, by unfold keepP; rw [if_neg (by omega)]⟩⟩
  obtain ⟨k1, k2, k3, k4, k5, k6⟩ := keptO hR (j := kp.length) (by omega)
  have hd : ∀ (J : II), J = cpy2 I (R (R 1 2) 2) (55 + 7 * kp.length) 0 0 20 → Spec mX4_copy [vR (56 + 7 * kp.length), vR 18] J R 89 89 (fun _ I' R' => R = R' ∧ frm [56 + 7 * kp.length, 56 + 7 * kp.length + 1, 56 + 7 * kp.length + 2, 56 + 7 * kp.length + 3, 56 + 7 * kp.length + 4] J I' ∧ XLg I' R (56 + 7 * kp.length) l) := fun J hJ =>
    aX4_copy k6 (log18 hR) (Or.inl (by omega)) (XLgA_frm (T := [55 + 7 * kp.length]) (log18 hR) hl (by rw [hJ]; exact frm_cpy (by simp)) (fun x hx => by rw [List.mem_singleton] at hx; omega))
  have sp : Spec mX1_hold [vR (54 + 7 * kp.length), vR (R 1 2), vR 18] I R 89 89 (fun _ I' R' => R = R' ∧ frm [55 + 7 * kp.length, 56 + 7 * kp.length, 56 + 7 * kp.length + 1, 56 + 7 * kp.length + 2, 56 + 7 * kp.length + 3, 56 + 7 * kp.length + 4] I I' ∧ XLg I' R (56 + 7 * kp.length) l ∧ ∀ p, p < rN ρ → I' (55 + 7 * kp.length) p = rL ρ p) := by
    refine sX1_hold (by decide) (gX1_hold_0 ?_)
    rw [k3, k4]
    refine ⟨o0, k2, o3, k5, ⟨by decide, by decide, by decide, by decide, by decide⟩, fun I6 q6 => ⟨k6.1, _, hd I6 q6, fun I7 R7 q7 => ?_⟩⟩
    obtain ⟨rfl, f7, l7⟩ := q7
    refine ⟨rfl, ?_, l7, fun p hp => ?_⟩
    · refine frm_trans (I1 := I6) (by rw [q6]; exact frm_cpy (by simp)) (frm_sub f7 (fun x hx => List.mem_cons_of_mem _ hx))
    · rw [f7 _ (by simp only [List.mem_cons, List.not_mem_nil, or_false]; omega), q6, cpy2_at (by omega)]
      exact (XRf h hp).2.2.1
  rw [k1]
  refine ⟨⟨by omega, by omega⟩, k2, _, sp, fun I3 R3 q3 => ?_⟩
  obtain ⟨rfl, f3, l3, p3⟩ := q3
  refine ⟨rfl, fun I5 q5 => ?_⟩
  have z3 : I3 1 6 = kp.length := (f3 1 (by simp only [List.mem_cons, List.not_mem_nil, or_false]; omega) 6).trans h1
  have f5 : frm [1] I3 I5 := by rw [q5]; exact frm_up (by decide)
  have z5 : I5 1 6 = (kp.length : Int) + 1 := by rw [q5, up2_self, z3]
  refine ⟨rfl, ?_, ?_, by rw [z5]; unfold keepP; rw [if_pos (by omega)]⟩
  · refine frm_trans (I1 := I3) (frm_sub f3 (fun x hx => ?_)) (frm_sub f5 (by decide))
    have : kp.length = 0 ∨ kp.length = 1 := by omega
    simp only [List.mem_cons, List.not_mem_nil, or_false] at hx ⊢
    omega
  · unfold keepK
    rw [if_pos (by omega)]
    refine ⟨by rw [z5, List.length_append]; rfl, by rw [List.length_append]; show kp.length + 1 ≤ 2; omega, fun j e he => ?_⟩
    rcases appK_at he with ⟨e1, e2⟩ | ⟨e1, e2⟩
    · subst e1; subst e2
      exact ⟨fun p hp => (f5 _ (by simp only [List.mem_cons, List.not_mem_nil, or_false]; omega) p).trans (p3 p hp), XLgA_frm k6 l3 f5 (fun x hx => by rw [List.mem_singleton] at hx; omega)⟩
    · obtain ⟨m1, m2, m3, m4, m5, m6⟩ := keptO hR (j := j) (by omega)
      obtain ⟨y1, y2⟩ := h3 j e e2
      refine ⟨fun p hp => (f5 _ (by simp only [List.mem_cons, List.not_mem_nil, or_false]; omega) p).trans ((f3 _ (by simp only [List.mem_cons, List.not_mem_nil, or_false]; omega) p).trans (y1 p hp)), XLgA_frm m6 (XLgA_frm m6 y2 f3 (fun x hx => ?_)) f5 (fun x hx => by rw [List.mem_singleton] at hx; omega)⟩
      simp only [List.mem_cons, List.not_mem_nil, or_false] at hx
      omega
def backR (ρ : RM) (kp : List KE) : RM := match kp[kp.length - 1]? with
  | none => ρ
  | some e => backRM ρ e.1
def backL (l : List LE) (kp : List KE) : List LE := match kp[kp.length - 1]? with
  | none => l
  | some e => e.2
def backP (kp : List KE) : Int := if kp.length = 0 then -2 else kp.length - 1
theorem back_at {kp : List KE} (h : kp.length ≠ 0) : ∃ e, kp[kp.length - 1]? = some e := ⟨kp[kp.length - 1], List.getElem?_eq_getElem (by omega)⟩
theorem back_no {kp : List KE} (h : kp.length = 0) : kp[kp.length - 1]? = none := List.getElem?_eq_none (by omega)
theorem dropK_at {kp : List KE} {j : Nat} {e : KE} (h : kp.dropLast[j]? = some e) : j < kp.length - 1 ∧ kp[j]? = some e := by
  have hj := (List.getElem?_eq_some_iff.mp h).1
  rw [List.length_dropLast] at hj
  refine ⟨hj, ?_⟩
  rw [List.dropLast_eq_take, List.getElem?_take, if_pos hj] at h
  exact h
theorem aX10_back {I : II} {R : RR} {ρ : RM} {l : List LE} {kp : List KE} (hR : SR R) (hr : R 1 2 = 6 ∨ R 1 2 = 12) (h : XR I R (R 1 2) ρ) (hok : okRM ρ) (hl : XLg I R 18 l) (hk : XKs I R (rN ρ) kp) :
    Spec mX10_back [vR 1] I R 89 89 (fun rv I' R' => R = R' ∧ frm [1, 9, 15, 18, 19, 20, 21, 22] I I' ∧ XR I' R (R 1 2) (backR ρ kp) ∧ XLg I' R 18 (backL l kp) ∧ XKs I' R (rN ρ) kp.dropLast ∧ rv = vI (backP kp)) := by
  obtain ⟨o0, o1, o2, o3, o4, o5⟩ := roomO hR hr
  obtain ⟨g0, g1, g2, g3, g4⟩ := roomR hR hr
  have hn := hok.1
  obtain ⟨h1, h2, h3⟩ := hk
  refine sX10_back (gX10_back_0 hR ?_)
  rw [h1]
  refine ⟨⟨by omega, by omega⟩, fun hc I2 q2 => ?_, fun hc => ?_⟩
  rotate_left
  · have h0 : kp.length = 0 := by omega
    refine ⟨rfl, frm_rfl, ?_, ?_, ⟨by rw [h1, List.length_dropLast]; omega, by rw [List.length_dropLast]; omega, fun j e he => ?_⟩, by unfold backP; rw [if_pos h0]⟩
    · unfold backR; rw [back_no h0]; exact h
    · unfold backL; rw [back_no h0]; exact hl
    · have := (dropK_at he).1; omega
  obtain ⟨e, he⟩ := back_at (kp := kp) (by omega)
  obtain ⟨y1, y2⟩ := h3 _ e he
  obtain ⟨k1, k2, k3, k4, k5, k6⟩ := keptO hR (j := kp.length - 1) (by omega)
  have z2 : I2 1 6 = ((kp.length - 1 : Nat) : Int) := by rw [q2, up2_self]; omega
  have f2 : frm [1] I I2 := by rw [q2]; exact frm_up (by decide)
  rw [z2, Int.toNat_natCast, k1]
  have g2' : R (R 1 2) 2 = 9 ∨ R (R 1 2) 2 = 15 := by omega
  have sp : Spec mX1_giveBack [vR (54 + 7 * (kp.length - 1)), vR (R 1 2), vR 18] I2 R 89 89 (fun _ I' R' => R = R' ∧ frm [R (R 1 2) 2, 18, 19, 20, 21, 22] I2 I' ∧ XLg I' R 18 e.2 ∧ ∀ p, p < rN ρ → I' (R (R 1 2) 2) p = e.1 p) := by
    refine sX1_giveBack (by decide) (gX1_giveBack_0 ?_)
    rw [k3, k4]
    refine ⟨k2, o0, k5, o3, ⟨by decide, by decide, by decide, by decide, by decide⟩, fun I6 q6 => ⟨o_18, _, aX4_copy (log18 hR) k6 (Or.inr (by omega)) (l := e.2) (XLgA_frm (T := [R (R 1 2) 2]) k6 (XLgA_frm k6 ?_ f2 (fun x hx => by rw [List.mem_singleton] at hx; omega)) (by rw [q6]; exact frm_cpy (by simp)) (fun x hx => by rw [List.mem_singleton] at hx; omega)), fun I7 R7 q7 => ?_⟩⟩
    · exact y2
    obtain ⟨rfl, f7, l7⟩ := q7
    refine ⟨rfl, ?_, l7, fun p hp => ?_⟩
    · refine frm_trans (I1 := I6) (by rw [q6]; exact frm_cpy (by simp)) (frm_sub f7 (fun x hx => List.mem_cons_of_mem _ hx))
    · rw [f7 _ (by simp only [List.mem_cons, List.not_mem_nil, or_false]; omega), q6, cpy2_at (by omega), f2 _ (by simp only [List.mem_cons, List.not_mem_nil, or_false]; omega)]
      exact y1 p hp
  refine ⟨⟨by omega, by omega⟩, k2, _, sp, fun I4 R4 q4 => ?_⟩
  obtain ⟨rfl, f4, l4, p4⟩ := q4
  have f5 : frm [1, R (R 1 2) 2, 18, 19, 20, 21, 22] I I4 := frm_trans (frm_sub f2 (by simp)) (frm_sub f4 (fun x hx => List.mem_cons_of_mem _ hx))
  have n5 : ∀ x, x ≠ 1 → x ≠ R (R 1 2) 2 → ¬ (18 ≤ x ∧ x ≤ 22) → ∀ j, I4 x j = I x j := fun x a b c j => f5 x (fun q => by
    simp only [List.mem_cons, List.not_mem_nil, or_false] at q
    omega) j
  refine ⟨rfl, rfl, frm_sub f5 (fun x hx => by simp only [List.mem_cons, List.not_mem_nil, or_false] at hx ⊢; omega), ?_, ?_, ?_, ?_⟩
  · unfold backR
    rw [he]
    obtain ⟨h5, h6, h7, h8, h9, h10, h11, h12, hp, hb, hs⟩ := h
    have nr := n5 (R 1 2) (by omega) (by omega) (by omega)
    exact ⟨(nr 5).trans h5, (nr 6).trans h6, (nr 7).trans h7, (nr 8).trans h8, (nr 9).trans h9, (nr 10).trans h10, (nr 11).trans h11, (nr 12).trans h12, fun q hq => ⟨(n5 _ (by omega) (by omega) (by omega) q).trans (hp q hq).1, (n5 _ (by omega) (by omega) (by omega) q).trans (hp q hq).2.1, p4 q hq⟩, arrIs_same hb (n5 _ (by omega) (by omega) (by omega)), arrIs_same hs (n5 _ (by omega) (by omega) (by omega))⟩
  · unfold backL
    rw [he]; exact l4
  · have z4 : I4 1 6 = ((kp.length - 1 : Nat) : Int) := (f4 1 (by simp only [List.mem_cons, List.not_mem_nil, or_false]; omega) 6).trans z2
    refine ⟨by rw [z4, List.length_dropLast], by rw [List.length_dropLast]; omega, fun j e' he' => ?_⟩
    obtain ⟨j1, j2⟩ := dropK_at he'
    obtain ⟨m1, m2, m3, m4, m5, m6⟩ := keptO hR (j := j) (by omega)
    obtain ⟨w1, w2⟩ := h3 j e' j2
    refine ⟨fun p hp => (n5 _ (by omega) (by omega) (by omega) p).trans (w1 p hp), XLgA_frm m6 w2 f5 (fun x hx => ?_)⟩
    simp only [List.mem_cons, List.not_mem_nil, or_false] at hx
    omega
  · rw [f4 1 (by simp only [List.mem_cons, List.not_mem_nil, or_false]; omega) 6, z2]; unfold backP; rw [if_neg (by omega)]; congr 1; omega
/-- of the log's banks, all but b as they were -/
def bkb (b : Nat) (I I' : II) : Prop := (∀ j, j ≠ b → I' 75 j = I 75 j) ∧ ∀ x j, 76 ≤ x → x ≤ 79 → (j < 200 * b ∨ 200 * b + 200 ≤ j) → I' x j = I x j
theorem bkb_trans {b : Nat} {I I1 I2 : II} (a : bkb b I I1) (c : bkb b I1 I2) : bkb b I I2 := ⟨fun j hj => (c.1 j hj).trans (a.1 j hj), fun x j h1 h2 hj => (c.2 x j h1 h2 hj).trans (a.2 x j h1 h2 hj)⟩
theorem bkb_frm {b : Nat} {T : List Nat} {I I' : II} (h : frm T I I') (hT : ∀ x ∈ T, ¬ (75 ≤ x ∧ x ≤ 79)) : bkb b I I' := ⟨fun j _ => h 75 (fun q => hT 75 q ⟨by decide, by decide⟩) j, fun x j h1 h2 _ => h x (fun q => hT x q ⟨by omega, h2⟩) j⟩
theorem MLg_bkb {a b : Nat} {I I' : II} {l : List LE} (h : MLg I a l) (hb : bkb b I I') (hab : a ≠ b) : MLg I' a l := by
  obtain ⟨h1, h2, h3⟩ := h
  refine ⟨(hb.1 a hab).trans h1, h2, fun i e he => ?_⟩
  have hi : i < l.length := (List.getElem?_eq_some_iff.mp he).1
  rw [hb.2 76 _ (by decide) (by decide) (by omega), hb.2 77 _ (by decide) (by decide) (by omega), hb.2 78 _ (by decide) (by decide) (by omega), hb.2 79 _ (by decide) (by decide) (by omega)]
  exact h3 i e he
theorem aX11_copyLog {I : II} {R : RR} {a b : Nat} {l : List LE} (hR : SR R) (ha : a < 3) (hb : b < 3) (hab : a ≠ b) (h : MLg I a l) :
    Spec mX11_copyLog [vR 68, vI a, vI b] I R 89 89 (fun _ I' R' => R = R' ∧ frm [75, 76, 77, 78, 79] I I' ∧ bkb b I I' ∧ MLg I' b l) := by
  refine sX11_copyLog (gX11_copyLog_0 hR ?_)
  simp only [Int.toNat_natCast]
  refine ⟨⟨by omega, by omega⟩, ⟨by omega, by omega⟩, fun I3 q3 => ?_⟩
  have hl := h.2.1
  have loop : ∀ (d i : Nat) (J : II), i + d = l.length → frm [75, 76, 77, 78, 79] I J → bkb b I J → J 75 b = l.length → (∀ (k : Nat) (e : LE), k < i → l[k]? = some e → J 76 (200 * b + k) = (e.1 : Int) ∧ J 77 (200 * b + k) = e.2.1 ∧ J 78 (200 * b + k) = e.2.2.1 ∧ J 79 (200 * b + k) = e.2.2.2) →
      wp (kN 89) mX11_copyLog (fun _ I' R' => R = R' ∧ frm [75, 76, 77, 78, 79] I I' ∧ bkb b I I' ∧ MLg I' b l) 14 [vR 68, vI a, vI b, vI i] [] J R 89 := by
    intro d
    induction d with
    | zero =>
      intro i J hi hf hk hz hx
      have hJ := MLg_bkb h hk hab
      refine gX11_copyLog_14 hR ?_
      rw [Int.toNat_natCast, hJ.1]
      exact ⟨⟨by omega, by omega⟩, ⟨by omega, by omega⟩, ⟨by omega, by omega⟩, fun _ => ⟨rfl, hf, hk, hz, hl, fun k e he => hx k e (by have := (List.getElem?_eq_some_iff.mp he).1; omega) he⟩, fun q => absurd q (by omega)⟩
    | succ d ih =>
      intro i J hi hf hk hz hx
      have hJ := MLg_bkb h hk hab
      refine gX11_copyLog_14 hR ?_
      rw [Int.toNat_natCast, hJ.1]
      refine ⟨⟨by omega, by omega⟩, ⟨by omega, by omega⟩, ⟨by omega, by omega⟩, fun q => absurd q (by omega), fun _ => ⟨⟨by omega, by omega⟩, ⟨by omega, by omega⟩, fun I6 q6 I7 q7 I8 q8 I9 q9 => ?_⟩⟩
      have ea : ((200 * (a : Int)) + (i : Int)).toNat = 200 * a + i := by omega
      have eb : ((200 * (b : Int)) + (i : Int)).toNat = 200 * b + i := by omega
      rw [ea, eb] at q6 q7 q8 q9
      obtain ⟨e, he⟩ : ∃ e, l[i]? = some e := ⟨l[i], List.getElem?_eq_getElem (by omega)⟩
      obtain ⟨x1, x2, x3, x4⟩ := hJ.2.2 i e he
      have fx : frm [76, 77, 78, 79] J I9 := by rw [q9, q8, q7, q6]; exact frm_trans (frm_up (by decide)) (frm_trans (frm_up (by decide)) (frm_trans (frm_up (by decide)) (frm_up (by decide))))
      have fo : ∀ x j, j ≠ 200 * b + i → I9 x j = J x j := fun x j hj => by rw [q9, up2_nj hj, q8, up2_nj hj, q7, up2_nj hj, q6, up2_nj hj]
      have ek : (i : Int) + 1 = ((i + 1 : Nat) : Int) := by omega
      rw [ek]
      refine ih (i + 1) I9 (by omega) (frm_trans hf (frm_sub fx (by decide))) (bkb_trans hk ⟨fun j hj => fx 75 (by decide) j, fun x j h1 h2 hj => fo x j (by omega)⟩) ((fx 75 (by decide) b).trans hz) (fun k e' hk' he' => ?_)
      by_cases hki : k = i
      · subst hki
        rw [he] at he'
        injection he' with he'
        subst he'
        refine ⟨?_, ?_, ?_, ?_⟩
        · rw [q9, up2_ne (by decide), q8, up2_ne (by decide), q7, up2_ne (by decide), q6, up2_self, x1]
        · rw [q9, up2_ne (by decide), q8, up2_ne (by decide), q7, up2_self, q6, up2_ne (by decide), x2]
        · rw [q9, up2_ne (by decide), q8, up2_self, q7, up2_ne (by decide), q6, up2_ne (by decide), x3]
        · rw [q9, up2_self, q8, up2_ne (by decide), q7, up2_ne (by decide), q6, up2_ne (by decide), x4]
      · rw [fo 76 _ (by omega), fo 77 _ (by omega), fo 78 _ (by omega), fo 79 _ (by omega)]
        exact hx k e' (by omega) he'
  have f3 : frm [75] I I3 := by rw [q3]; exact frm_up (by decide)
  exact loop l.length 0 I3 (by omega) (frm_sub f3 (by decide)) ⟨fun j hj => by rw [q3, up2_nj hj], fun x j h1 h2 _ => f3 x (by simp only [List.mem_cons, List.not_mem_nil, or_false]; omega) j⟩ (by rw [q3, up2_self, h.1]) (fun k e hk => absurd hk (by omega))
theorem aX11_keep {I : II} {R : RR} {ρ : RM} {l : List LE} {kp : List KE} (hR : SR R) (h : MRo I ρ) (hok : okRM ρ) (hl : MLg I 0 l) (hk : MKs I (rN ρ) kp) :
    Spec mX11_keep [vR 68] I R 89 89 (fun rv I' R' => R = R' ∧ frm [68, 75, 76, 77, 78, 79, 80] I I' ∧ (∀ j, j ≠ 13 → I' 68 j = I 68 j) ∧ MLg I' 0 l ∧ MKs I' (rN ρ) (keepK ρ l kp) ∧ rv = vI (keepP kp)) := by
  have hn := hok.1
  obtain ⟨h1, h2, h3⟩ := hk
  refine sX11_keep (gX11_keep_0 hR ?_)
  rw [h1]
  refine ⟨⟨by omega, by omega⟩, fun hc I2 q2 => ?_, fun hc => ⟨rfl, frm_rfl, fun _ _ => rfl, hl, by unfold keepK; rw [if_neg (by omega)]; exact ⟨h1, h2, h3⟩, by unfold keepP; rw [if_neg (by omega)]⟩⟩
  have z2 : I2 68 13 = ((kp.length + 1 : Nat) : Int) := by rw [q2, up2_self]; omega
  have f2 : frm [68] I I2 := by rw [q2]; exact frm_up (by decide)
  have b2 : ∀ b, bkb b I I2 := fun b => bkb_frm f2 (by decide)
  have l2 : MLg I2 0 l := MLg_bkb hl (b2 2) (by decide)
  have cp := aX11_copyLog (a := 0) (b := kp.length + 1) hR (by decide) (by omega) (by omega) l2
  rw [z2]
  refine ⟨_, cp, fun I3 R3 q3 => ?_⟩
  obtain ⟨rfl, f3, b3, l3⟩ := q3
  refine ⟨rfl, ?_⟩
  have z3 : I3 68 13 = ((kp.length + 1 : Nat) : Int) := (f3 68 (by decide) 13).trans z2
  have e73 : ∀ p, p < rN ρ → I3 73 p = rL ρ p := fun p hp => (f3 73 (by decide) p).trans ((f2 73 (by decide) p).trans (h.2.1 p hp).2.2)
  have loop : ∀ (d p : Nat) (J : II), p + d = 20 → frm [80] I3 J → (∀ q, q < p → q < rN ρ → J 80 (20 * kp.length + q) = rL ρ q) → (∀ q, q < 20 * kp.length → J 80 q = I3 80 q) →
      wp (kN 89) mX11_keep (fun rv I' R' => R = R' ∧ frm [68, 75, 76, 77, 78, 79, 80] I I' ∧ (∀ j, j ≠ 13 → I' 68 j = I 68 j) ∧ MLg I' 0 l ∧ MKs I' (rN ρ) (keepK ρ l kp) ∧ rv = vI (keepP kp)) 32 [vR 68, vI p] [] J R 89 := by
    intro d
    induction d with
    | zero =>
      intro p J hp hf hx ho
      have z4 := (hf 68 (by decide) 13).trans z3
      refine gX11_keep_32 hR ?_
      rw [z4]
      refine ⟨⟨by omega, by omega⟩, fun _ => ⟨rfl, ?_, ?_, ?_, ?_, ?_⟩, fun q => absurd q (by omega)⟩
      · exact frm_trans (frm_sub f2 (by decide)) (frm_trans (frm_sub f3 (by decide)) (frm_sub hf (by decide)))
      · intro j hj
        rw [hf 68 (by decide) j, f3 68 (by decide) j, q2, up2_nj hj]
      · exact MLg_bkb (MLg_bkb l2 b3 (by omega)) (bkb_frm (b := 2) hf (by decide)) (by decide)
      · unfold keepK
        rw [if_pos (by omega)]
        refine ⟨by rw [z4, List.length_append]; rfl, by rw [List.length_append]; show kp.length + 1 ≤ 2; omega, fun j e he => ?_⟩
        rcases appK_at he with ⟨e1, e2⟩ | ⟨e1, e2⟩
        · subst e1; subst e2
          exact ⟨fun q hq => hx q (by omega) hq, MLg_bkb l3 (bkb_frm (b := 0) hf (by decide)) (by omega)⟩
        · obtain ⟨y1, y2⟩ := h3 j e e2
          refine ⟨fun q hq => ?_, MLg_bkb (MLg_bkb (MLg_bkb y2 (b2 0) (by omega)) b3 (by omega)) (bkb_frm (b := 0) hf (by decide)) (by omega)⟩
          rw [ho _ (by omega), f3 80 (by decide), f2 80 (by decide)]
          exact y1 q hq
      · unfold keepP; rw [if_pos (by omega)]; rfl
    | succ d ih =>
      intro p J hp hf hx ho
      have z4 := (hf 68 (by decide) 13).trans z3
      refine gX11_keep_32 hR ?_
      rw [z4]
      refine ⟨⟨by omega, by omega⟩, fun q => absurd q (by omega), fun _ => ⟨⟨by omega, by omega⟩, ⟨by omega, by omega⟩, fun I4 q4 => ?_⟩⟩
      rw [show (20 * ((kp.length + 1 : Nat) : Int) - 20 + (p : Int)).toNat = 20 * kp.length + p by omega, Int.toNat_natCast] at q4
      have ek : (p : Int) + 1 = ((p + 1 : Nat) : Int) := by omega
      rw [ek]
      refine ih (p + 1) I4 (by omega) (by rw [q4]; exact frm_trans hf (frm_up (by decide))) (fun q hq hqn => ?_) (fun q hq => by rw [q4, up2_nj (by omega)]; exact ho q hq)
      rw [q4, up2_at]
      split
      · next hqp =>
        have : q = p := by omega
        subst this
        exact (hf 73 (by decide) q).trans (e73 q hqn)
      · exact hx q (by omega) hqn
  exact loop 20 0 I3 (by omega) frm_rfl (fun q hq => absurd hq (by omega)) (fun _ _ => rfl)
theorem aX11_back {I : II} {R : RR} {ρ : RM} {l : List LE} {kp : List KE} (hR : SR R) (h : MRo I ρ) (hok : okRM ρ) (hl : MLg I 0 l) (hk : MKs I (rN ρ) kp) :
    Spec mX11_back [vR 68] I R 89 89 (fun rv I' R' => R = R' ∧ frm [68, 73, 75, 76, 77, 78, 79] I I' ∧ (∀ j, j ≠ 13 → I' 68 j = I 68 j) ∧ MRo I' (backR ρ kp) ∧ MLg I' 0 (backL l kp) ∧ MKs I' (rN ρ) kp.dropLast ∧ rv = vI (backP kp)) := by
  have hn := hok.1
  obtain ⟨h1, h2, h3⟩ := hk
  refine sX11_back (gX11_back_0 hR ?_)
  rw [h1]
  refine ⟨⟨by omega, by omega⟩, fun hc => ?_, fun hc => ?_⟩
  rotate_left
  · have h0 : kp.length = 0 := by omega
    refine ⟨rfl, frm_rfl, fun _ _ => rfl, ?_, ?_, ⟨by rw [h1, List.length_dropLast]; omega, by rw [List.length_dropLast]; omega, fun j e he => ?_⟩, by unfold backP; rw [if_pos h0]⟩
    · unfold backR; rw [back_no h0]; exact h
    · unfold backL; rw [back_no h0]; exact hl
    · have := (dropK_at he).1; omega
  obtain ⟨e, he⟩ := back_at (kp := kp) (by omega)
  obtain ⟨y1, y2⟩ := h3 _ e he
  have cp := aX11_copyLog (a := kp.length - 1 + 1) (b := 0) hR (by omega) (by decide) (by omega) y2
  rw [show ((kp.length - 1 + 1 : Nat) : Int) = (kp.length : Int) by omega] at cp
  refine ⟨_, cp, fun I2 R2 q2 => ?_⟩
  obtain ⟨rfl, f2, b2, l2⟩ := q2
  refine ⟨rfl, ?_⟩
  have z2 : I2 68 13 = (kp.length : Int) := (f2 68 (by decide) 13).trans h1
  have loop : ∀ (d p : Nat) (J : II), p + d = 20 → frm [73] I2 J → (∀ q, q < p → q < rN ρ → J 73 q = e.1 q) →
      wp (kN 89) mX11_back (fun rv I' R' => R = R' ∧ frm [68, 73, 75, 76, 77, 78, 79] I I' ∧ (∀ j, j ≠ 13 → I' 68 j = I 68 j) ∧ MRo I' (backR ρ kp) ∧ MLg I' 0 (backL l kp) ∧ MKs I' (rN ρ) kp.dropLast ∧ rv = vI (backP kp)) 21 [vR 68, vI p] [] J R 89 := by
    intro d
    induction d with
    | zero =>
      intro p J hp hf hx
      have z4 := (hf 68 (by decide) 13).trans z2
      refine gX11_back_21 hR ?_
      rw [z4]
      refine ⟨⟨by omega, by omega⟩, fun _ I3 q3 => ?_, fun q => absurd q (by omega)⟩
      have f3 : frm [68] J I3 := by rw [q3]; exact frm_up (by decide)
      have z5 : I3 68 13 = (kp.length : Int) - 1 := by rw [q3, up2_self]
      have b3 : ∀ b, bkb b I2 I3 := fun b => bkb_trans (bkb_frm hf (by decide)) (bkb_frm f3 (by decide))
      refine ⟨rfl, ?_, ?_, ?_, ?_, ?_, ?_⟩
      · exact frm_trans (frm_sub f2 (by decide)) (frm_trans (frm_sub hf (by decide)) (frm_sub f3 (by decide)))
      · intro j hj
        rw [q3, up2_nj hj, hf 68 (by decide) j, f2 68 (by decide) j]
      · unfold backR
        rw [he]
        have g : ∀ x, x ≠ 68 → x ≠ 73 → ¬ (75 ≤ x ∧ x ≤ 79) → ∀ j, I3 x j = I x j := fun x a b c j => by
          rw [f3 x (by simp only [List.mem_cons, List.not_mem_nil, or_false]; omega) j, hf x (by simp only [List.mem_cons, List.not_mem_nil, or_false]; omega) j, f2 x (by simp only [List.mem_cons, List.not_mem_nil, or_false]; omega) j]
        refine ⟨(g 70 (by decide) (by decide) (by decide) 0).trans h.1, fun q hq => ⟨(g 71 (by decide) (by decide) (by decide) q).trans (h.2.1 q hq).1, (g 72 (by decide) (by decide) (by decide) q).trans (h.2.1 q hq).2.1, ?_⟩, fun k hk => (g 74 (by decide) (by decide) (by decide) k).trans (h.2.2 k hk)⟩
        have hq' : q < rN ρ := hq
        exact (f3 73 (by decide) q).trans (hx q (by omega) hq')
      · unfold backL
        rw [he]
        exact MLg_bkb l2 (b3 1) (by decide)
      · refine ⟨by rw [z5, List.length_dropLast]; omega, by rw [List.length_dropLast]; omega, fun j e' he' => ?_⟩
        obtain ⟨j1, j2⟩ := dropK_at he'
        obtain ⟨w1, w2⟩ := h3 j e' j2
        refine ⟨fun q hq => ?_, MLg_bkb (MLg_bkb w2 b2 (by omega)) (b3 0) (by omega)⟩
        rw [f3 80 (by decide), hf 80 (by decide), f2 80 (by decide)]
        exact w1 q hq
      · rw [z5]; unfold backP; rw [if_neg (by omega)]
    | succ d ih =>
      intro p J hp hf hx
      have z4 := (hf 68 (by decide) 13).trans z2
      refine gX11_back_21 hR ?_
      rw [z4]
      refine ⟨⟨by omega, by omega⟩, fun q => absurd q (by omega), fun _ => ⟨⟨by omega, by omega⟩, ⟨by omega, by omega⟩, fun I5 q5 => ?_⟩⟩
      rw [show (20 * (kp.length : Int) - 20 + (p : Int)).toNat = 20 * (kp.length - 1) + p by omega, Int.toNat_natCast] at q5
      have ek : (p : Int) + 1 = ((p + 1 : Nat) : Int) := by omega
      rw [ek]
      refine ih (p + 1) I5 (by omega) (by rw [q5]; exact frm_trans hf (frm_up (by decide))) (fun q hq hqn => ?_)
      rw [q5, up2_at]
      split
      · next hqp =>
        have : q = p := by omega
        subst this
        rw [hf 80 (by decide), f2 80 (by decide)]
        exact y1 q hqn
      · exact hx q (by omega) hqn
  exact loop 20 0 I2 (by omega) frm_rfl (fun q hq => absurd hq (by omega))
