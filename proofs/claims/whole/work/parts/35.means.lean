/-! means and rules, of both -/
def meanS (ρ : RM) (rule z w : Int) : Nat → Int
  | 0 => 0
  | i + 1 => meanS ρ rule z w i + roundV (roundSp ρ rule ((z + i) % 10000)) (w + 1)
def meanV (ρ : RM) (rule z w : Int) : Int := meanS ρ rule z w 10
theorem meanS_bd {ρ : RM} (hok : okRM ρ) (rule z w : Int) : ∀ i : Nat, -(20000 * (i : Int)) ≤ meanS ρ rule z w i ∧ meanS ρ rule z w i ≤ 20000 * i
  | 0 => ⟨by show -(20000 * ((0 : Nat) : Int)) ≤ 0; omega, by show (0 : Int) ≤ 20000 * ((0 : Nat) : Int); omega⟩
  | i + 1 => by
    have ih := meanS_bd hok rule z w i
    obtain ⟨h1, h2, h3, h4, h5, h6, h7⟩ := roundSp_ok hok rule ((z + i) % 10000)
    have : -20000 ≤ roundV (roundSp ρ rule ((z + i) % 10000)) (w + 1) ∧ roundV (roundSp ρ rule ((z + i) % 10000)) (w + 1) ≤ 20000 := by
      unfold roundV
      split
      · omega
      · split
        · omega
        · split <;> omega
    show -(20000 * ((i + 1 : Nat) : Int)) ≤ meanS ρ rule z w i + roundV (roundSp ρ rule ((z + i) % 10000)) (w + 1) ∧ meanS ρ rule z w i + roundV (roundSp ρ rule ((z + i) % 10000)) (w + 1) ≤ 20000 * ((i + 1 : Nat) : Int)
    omega
theorem meanV_bd {ρ : RM} (hok : okRM ρ) (rule z w : Int) : -1000000 ≤ meanV ρ rule z w ∧ meanV ρ rule z w ≤ 1000000 := by
  have := meanS_bd hok rule z w 10
  unfold meanV
  omega
theorem sumsR {R : RR} (hR : SR R) {k : Nat} (hk : k < 4) : R 49 k = 50 + k ∧ isA 89 (50 + k) 1 3 := by
  have h : k = 0 ∨ k = 1 ∨ k = 2 ∨ k = 3 := by omega
  rcases h with rfl | rfl | rfl | rfl
  · exact ⟨r_49_0 hR, a_50⟩
  · exact ⟨r_49_1 hR, a_51⟩
  · exact ⟨r_49_2 hR, a_52⟩
  · exact ⟨r_49_3 hR, a_53⟩
theorem aX10_sumUp {I : II} {R : RR} {ρ : RM} {k : Nat} {z : Int} (hR : SR R) (hr : R 1 2 = 6 ∨ R 1 2 = 12) (h : XR I R (R 1 2) ρ) (hok : okRM ρ) (hF : XF I) (hk : k < 4) (hz : 0 ≤ z ∧ z ≤ 9999) :
    Spec mX10_sumUp [vR 1, vI k, vI z] I R 89 89 (fun _ I' R' => R = R' ∧ frm ((50 + k) :: plT 0) I I' ∧ XF I' ∧ ∀ w, w < 3 → I' (50 + k) w = meanV ρ k z w) := by
  obtain ⟨rk, ak⟩ := sumsR hR hk
  have npl : 50 + k ∉ plT 0 := by
    have h : k = 0 ∨ k = 1 ∨ k = 2 ∨ k = 3 := by omega
    rcases h with rfl | rfl | rfl | rfl <;> decide
  have hTX : ∀ x ∈ (50 + k) :: plT 0, ¬ (R 1 2 ≤ x ∧ x ≤ R 1 2 + 5) := by
    intro x hx
    rw [List.mem_cons] at hx
    rcases hx with rfl | hx
    · omega
    · rcases hr with q | q <;> rw [q] <;> revert x <;> decide
  have hTF : ∀ x ∈ (50 + k) :: plT 0, x = 50 + k ∨ x ∈ plT 0 := fun x hx => List.mem_cons.mp hx
  have loop : ∀ (d i : Nat) (J : II), i + d = 10 → frm ((50 + k) :: plT 0) I J → XF J → (∀ w, w < 3 → J (50 + k) w = meanS ρ k z w i) → wp (kN 89) mX10_sumUp (fun _ I' R' => R = R' ∧ frm ((50 + k) :: plT 0) I I' ∧ XF I' ∧ ∀ w, w < 3 → I' (50 + k) w = meanV ρ k z w) 22 [vR 1, vI k, vI z, vR (50 + k), vI (i : Int)] [] J R 89 := by
    intro d
    induction d with
    | zero =>
      intro i J hi hf hFJ hs
      refine gX10_sumUp_22 hR ⟨⟨by omega, by omega⟩, fun _ => ⟨rfl, hf, hFJ, fun w hw => ?_⟩, fun q => absurd (by omega) q⟩
      rw [hs w hw, show i = 10 by omega]; rfl
    | succ d ih =>
      intro i J hi hf hFJ hs
      have hX := XR_frm hR hr h hf hTX
      have ek : (i : Int) + 1 = ((i + 1 : Nat) : Int) := by omega
      have zz : 0 ≤ (z + i) % 10000 ∧ (z + i) % 10000 ≤ 9999 := by omega
      refine gX10_sumUp_22 hR ⟨⟨by omega, by omega⟩, fun q => absurd q (by omega), fun _ => ⟨⟨by omega, by omega, by decide, by decide⟩, _, aX7_play hR hr hX hok hFJ zz ⟨by omega, by omega⟩ (Or.inl rfl), fun I3 R3 hq => ?_⟩⟩
      obtain ⟨rfl, f3, F3, x3, _⟩ := hq
      have f3' : frm (plT 0) J I3 := by
        have : (if (k : Int) = 0 then 0 else 0) = 0 := by split <;> rfl
        rw [this] at f3; exact f3
      obtain ⟨x3', x4, x5, x6, x7', x8, x9, xp⟩ := x3
      refine ⟨rfl, ak, fun I5 q5 I6 q6 I8 q8 => ?_⟩
      have g50 : ∀ w, I3 (50 + k) w = J (50 + k) w := f3' (50 + k) npl
      have f8 : frm [50 + k] I3 I8 := by rw [q8, q6, q5]; exact frm_trans (frm_up (by simp)) (frm_trans (frm_up (by simp)) (frm_up (by simp)))
      have n38 : (38 : Nat) ≠ 50 + k := by omega
      rw [ek]
      refine ih (i + 1) I8 (by omega) (frm_trans hf (frm_trans (frm_sub f3' (fun x hx => List.mem_cons_of_mem _ hx)) (frm_sub f8 (fun x hx => by rw [List.mem_singleton] at hx; subst hx; exact List.mem_cons_self ..)))) (XF_frm F3 f8 (fun x hx => by rw [List.mem_singleton] at hx; subst hx; simp; omega)) (fun w hw => ?_)
      have hw3 : w = 0 ∨ w = 1 ∨ w = 2 := by omega
      have s0 := hs 0 (by decide)
      have s1 := hs 1 (by decide)
      have s2 := hs 2 (by decide)
      rcases hw3 with rfl | rfl | rfl
      · rw [q8, up2_nj (by decide), q6, up2_nj (by decide), q5, up2_self, g50, s0, x8]; rfl
      · rw [q8, up2_nj (by decide), q6, up2_self, q5, up2_nj (by decide), g50, s1, up2_ne n38, x9]; rfl
      · rw [q8, up2_self, q6, up2_nj (by decide), q5, up2_nj (by decide), g50, s2, up2_ne n38, up2_ne n38, up2_ne n38, up2_ne n38, x5, x6]; rfl
  refine sX10_sumUp (gX10_sumUp_0 hR ?_)
  rw [Int.toNat_natCast, rk]
  refine ⟨⟨by omega, by omega⟩, by omega, ak, fun I4 q4 I5 q5 I6 q6 => ?_⟩
  have f6 : frm [50 + k] I I6 := by rw [q6, q5, q4]; exact frm_trans (frm_up (by simp)) (frm_trans (frm_up (by simp)) (frm_up (by simp)))
  refine loop 10 0 I6 (by omega) (frm_sub f6 (fun x hx => by rw [List.mem_singleton] at hx; subst hx; exact List.mem_cons_self ..)) (XF_frm hF f6 (fun x hx => by rw [List.mem_singleton] at hx; subst hx; simp; omega)) (fun w hw => ?_)
  have hw3 : w = 0 ∨ w = 1 ∨ w = 2 := by omega
  rcases hw3 with rfl | rfl | rfl
  · rw [q6, up2_nj (by decide), q5, up2_nj (by decide), q4, up2_self]; rfl
  · rw [q6, up2_nj (by decide), q5, up2_self]; rfl
  · rw [q6, up2_self]; rfl
theorem aX11_layMeans {I : II} {R : RR} {ρ : RM} {k : Nat} {z : Int} (hR : SR R) (h : MRo I ρ) (hok : okRM ρ) (hk : k < 4) (hz : 0 ≤ z ∧ z ≤ 9999) :
    Spec mX11_layMeans [vR 68, vI k, vI z] I R 89 89 (fun _ I' R' => R = R' ∧ frm (87 :: mRT 0) I I' ∧ mLow I I' ∧ (∀ w, w < 3 → I' 87 (3 * k + w) = meanV ρ k z w) ∧ ∀ j, (j < 3 * k ∨ 3 * k + 3 ≤ j) → I' 87 j = I 87 j) := by
  have hl : lgF k 0 = 0 := by unfold lgF; rw [if_pos rfl]
  have loop : ∀ (d i : Nat) (J : II), i + d = 10 → frm (87 :: mRT 0) I J → mLow I J → (∀ w, w < 3 → J 87 (3 * k + w) = meanS ρ k z w i) → (∀ j, (j < 3 * k ∨ 3 * k + 3 ≤ j) → J 87 j = I 87 j) → wp (kN 89) mX11_layMeans (fun _ I' R' => R = R' ∧ frm (87 :: mRT 0) I I' ∧ mLow I I' ∧ (∀ w, w < 3 → I' 87 (3 * k + w) = meanV ρ k z w) ∧ ∀ j, (j < 3 * k ∨ 3 * k + 3 ≤ j) → I' 87 j = I 87 j) 26 [vR 68, vI k, vI z, vI (i : Int)] [] J R 89 := by
    intro d
    induction d with
    | zero =>
      intro i J hi hf hlw hs ho
      refine gX11_layMeans_26 hR ⟨⟨by omega, by omega⟩, fun _ => ⟨rfl, hf, hlw, fun w hw => ?_, ho⟩, fun q => absurd (by omega) q⟩
      rw [hs w hw, show i = 10 by omega]; rfl
    | succ d ih =>
      intro i J hi hf hlw hs ho
      have hX := MRo_frm h hf (by decide)
      have ek : (i : Int) + 1 = ((i + 1 : Nat) : Int) := by omega
      have zz : 0 ≤ (z + i) % 10000 ∧ (z + i) % 10000 ≤ 9999 := by omega
      refine gX11_layMeans_26 hR ⟨⟨by omega, by omega⟩, fun q => absurd q (by omega), fun _ => ⟨⟨by omega, by omega, by decide, by decide⟩, _, aX11_goRound hR hX hok zz (by omega) (Or.inl rfl), fun I3 R3 hq => ?_⟩⟩
      obtain ⟨rfl, f3, l3, b3, x3, _⟩ := hq
      rw [hl] at f3
      obtain ⟨x1, x2, x4, x5, x6, x7', x8, xp⟩ := x3
      refine ⟨rfl, ⟨by omega, by omega⟩, fun I5 q5 => ⟨⟨by omega, by omega⟩, fun I7 q7 => ⟨⟨by omega, by omega⟩, fun I9 q9 => ?_⟩⟩⟩
      rw [show (3 * (k : Int)).toNat = 3 * k by omega] at q5
      rw [show (3 * (k : Int) + 1).toNat = 3 * k + 1 by omega] at q7
      rw [show (3 * (k : Int) + 2).toNat = 3 * k + 2 by omega] at q9
      have g87 : ∀ w, I3 87 w = J 87 w := f3 87 (by decide)
      have f9 : frm [87] I3 I9 := by rw [q9, q7, q5]; exact frm_trans (frm_up (by simp)) (frm_trans (frm_up (by simp)) (frm_up (by simp)))
      rw [ek]
      refine ih (i + 1) I9 (by omega) (frm_trans hf (frm_trans (frm_sub f3 (by decide)) (frm_sub f9 (by decide)))) (fun j hj => (f9 68 (by decide) j).trans ((l3 j hj).trans (hlw j hj))) (fun w hw => ?_) (fun j hj => ?_)
      · have hw3 : w = 0 ∨ w = 1 ∨ w = 2 := by omega
        have s0 := hs 0 (by decide)
        have s1 := hs 1 (by decide)
        have s2 := hs 2 (by decide)
        rcases hw3 with rfl | rfl | rfl
        · rw [q9, up2_nj (by omega), q7, up2_nj (by omega), q5, Nat.add_zero, up2_self, g87]
          rw [Nat.add_zero] at s0
          rw [s0, x5]; rfl
        · rw [q9, up2_nj (by omega), q7, up2_self, q5, up2_nj (by omega), up2_ne (by decide), g87, s1, x6]; rfl
        · rw [q9, up2_self, q7, up2_nj (by omega), q5, up2_nj (by omega), g87, s2, up2_ne (by decide), up2_ne (by decide), up2_ne (by decide), up2_ne (by decide), x7', x8]; rfl
      · rw [q9, up2_nj (by omega), q7, up2_nj (by omega), q5, up2_nj (by omega), g87]
        exact ho j hj
  have first : ∀ (d w : Nat) (J : II), w + d = 3 → frm [87] I J → (∀ v, v < w → J 87 (3 * k + v) = 0) → (∀ j, (j < 3 * k ∨ 3 * k + 3 ≤ j) → J 87 j = I 87 j) → wp (kN 89) mX11_layMeans (fun _ I' R' => R = R' ∧ frm (87 :: mRT 0) I I' ∧ mLow I I' ∧ (∀ w, w < 3 → I' 87 (3 * k + w) = meanV ρ k z w) ∧ ∀ j, (j < 3 * k ∨ 3 * k + 3 ≤ j) → I' 87 j = I 87 j) 2 [vR 68, vI k, vI z, vI (w : Int)] [] J R 89 := by
    intro d
    induction d with
    | zero =>
      intro w J hw hf hd ho
      refine gX11_layMeans_2 hR ⟨⟨by omega, by omega⟩, fun _ => ?_, fun q => absurd (by omega) q⟩
      exact loop 10 0 J (by omega) (frm_sub hf (by decide)) (fun j _ => hf 68 (by decide) j) (fun v hv => hd v (by omega)) ho
    | succ d ih =>
      intro w J hw hf hd ho
      have ek : (w : Int) + 1 = ((w + 1 : Nat) : Int) := by omega
      refine gX11_layMeans_2 hR ⟨⟨by omega, by omega⟩, fun q => absurd q (by omega), fun _ => ⟨⟨by omega, by omega⟩, fun I3 q3 => ?_⟩⟩
      rw [show (3 * (k : Int) + w).toNat = 3 * k + w by omega] at q3
      rw [ek]
      refine ih (w + 1) I3 (by omega) (by rw [q3]; exact frm_trans hf (frm_up (by decide))) (fun v hv => ?_) (fun j hj => by rw [q3, up2_nj (by omega)]; exact ho j hj)
      rw [q3, up2_at]
      by_cases hvw : v = w
      · rw [if_pos (by omega)]
      · rw [if_neg (by omega)]; exact hd v (by omega)
  exact sX11_layMeans (gX11_layMeans_0 hR (first 3 0 I (by omega) frm_rfl (fun v hv => by omega) (fun _ _ => rfl)))
def meansP (ρ : RM) (rule z w : Int) : Int := if isRnd rule z ∧ 0 ≤ w ∧ w ≤ 2 then meanV ρ rule z w else -10000
/-- what means and rules touch of the class, of the reference -/
def mnX : List Nat := [38, 39, 40, 41, 42, 43, 44, 45, 46, 47, 50, 51, 52, 53]
def mnM : List Nat := [68, 82, 83, 84, 85, 86, 87]
theorem mnX_sub {k : Nat} (hk : k < 4) : ∀ i ∈ (50 + k) :: plT 0, i ∈ mnX := by
  have h : k = 0 ∨ k = 1 ∨ k = 2 ∨ k = 3 := by omega
  rcases h with rfl | rfl | rfl | rfl <;> decide
theorem mnM_sub : ∀ i ∈ 87 :: mRT 0, i ∈ mnM := by decide
theorem aX10_means {I : II} {R : RR} {ρ : RM} {rule z w : Int} (hR : SR R) (hr : R 1 2 = 6 ∨ R 1 2 = 12) (h : XR I R (R 1 2) ρ) (hok : okRM ρ) (hF : XF I) (h1 : InI rule) (h2 : InI z) (h3 : InI w) :
    Spec mX10_means [vR 1, vI rule, vI z, vI w] I R 89 89 (fun rv I' R' => R = R' ∧ frm mnX I I' ∧ XF I' ∧ rv = vI (meansP ρ rule z w)) := by
  have no : ¬ (isRnd rule z ∧ 0 ≤ w ∧ w ≤ 2) → wp (kN 89) mX10_means (fun rv I' R' => R = R' ∧ frm mnX I I' ∧ XF I' ∧ rv = vI (meansP ρ rule z w)) 29 [none, none, none, none] [] I R 89 := fun hn => by
    refine gX10_means_29 hR ⟨rfl, frm_rfl, hF, ?_⟩
    unfold meansP; rw [if_neg hn]
  refine sX10_means (gX10_means_0 hR ⟨h1, fun c1 => ⟨h2, fun c2 => ⟨h3, fun c3 => ?_, fun q => no (fun x => q x.2)⟩, fun q => no (fun x => q x.1.2)⟩, fun q => no (fun x => q x.1.1)⟩)
  obtain ⟨k, rfl⟩ := nat_of c1.1
  have hk : k < 4 := by omega
  obtain ⟨rk, ak⟩ := sumsR hR hk
  refine ⟨_, aX10_sumUp hR hr h hok hF hk c2, fun I7 R7 hq => ?_⟩
  obtain ⟨rfl, f7, F7, s7⟩ := hq
  rw [Int.toNat_natCast, rk]
  refine ⟨rfl, ⟨by omega, by omega⟩, ak, ⟨by omega, by omega⟩, rfl, frm_sub f7 (mnX_sub hk), F7, ?_⟩
  unfold meansP
  rw [if_pos ⟨⟨c1, c2⟩, c3⟩, s7 w.toNat (by omega), Int.toNat_of_nonneg c3.1]
theorem aX11_means {I : II} {R : RR} {ρ : RM} {rule z w : Int} (hR : SR R) (h : MRo I ρ) (hok : okRM ρ) (h1 : InI rule) (h2 : InI z) (h3 : InI w) :
    Spec mX11_means [vR 68, vI rule, vI z, vI w] I R 89 89 (fun rv I' R' => R = R' ∧ frm mnM I I' ∧ mLow I I' ∧ rv = vI (meansP ρ rule z w)) := by
  have no : ¬ (isRnd rule z ∧ 0 ≤ w ∧ w ≤ 2) → wp (kN 89) mX11_means (fun rv I' R' => R = R' ∧ frm mnM I I' ∧ mLow I I' ∧ rv = vI (meansP ρ rule z w)) 20 [none, none, none, none] [] I R 89 := fun hn => by
    refine gX11_means_20 hR ⟨rfl, frm_rfl, fun _ _ => rfl, ?_⟩
    unfold meansP; rw [if_neg hn]
  refine sX11_means (gX11_means_0 hR ⟨h1, h2, fun c1 => ⟨h3, fun c3 => ?_, fun q => no (fun x => q x.2)⟩, fun q => no (fun x => q x.1)⟩)
  obtain ⟨k, rfl⟩ := nat_of c1.1.1
  have hk : k < 4 := by omega
  refine ⟨_, aX11_layMeans hR h hok hk c1.2, fun I7 R7 hq => ?_⟩
  obtain ⟨rfl, f7, l7, s7, _⟩ := hq
  refine ⟨rfl, ⟨by omega, by omega⟩, rfl, frm_sub f7 mnM_sub, l7, ?_⟩
  unfold meansP
  rw [if_pos ⟨c1, c3⟩, show (3 * (k : Int) + w).toNat = 3 * k + w.toNat by omega, s7 w.toNat (by omega), Int.toNat_of_nonneg c3.1]
/-- the best RULE so far -/
def bestN (V : Nat → Int) (w : Int) : Nat → Nat
  | 0 => 0
  | j + 1 => if (w = 0 ∧ V (bestN V w j) < V (j + 1)) ∨ (¬ w = 0 ∧ V (j + 1) < V (bestN V w j)) then j + 1 else bestN V w j
theorem bestN_le {V : Nat → Int} {w : Int} : ∀ j, bestN V w j ≤ j
  | 0 => Nat.le_refl _
  | j + 1 => by
    have ih := bestN_le (V := V) (w := w) j
    show (if _ then _ else _) ≤ _
    split
    · exact Nat.le_refl _
    · exact Nat.le_succ_of_le ih
def ruleB (ρ : RM) (z w : Int) : Nat := bestN (fun j => meanV ρ j z w) w 3
def rulesP (ρ : RM) (z w : Int) : Int :=
  if (0 ≤ z ∧ z ≤ 9999) ∧ 0 ≤ w ∧ w ≤ 3 then (if w < 3 then (ruleB ρ z w : Int) else if ruleB ρ z 0 = ruleB ρ z 1 ∧ ruleB ρ z 0 = ruleB ρ z 2 then (ruleB ρ z 0 : Int) else -4) else -1
theorem aX10_bestBy {I : II} {R : RR} {ρ : RM} {z : Int} {w : Nat} (hR : SR R) (hok : okRM ρ) (hw : w < 3) (hs : ∀ k, k < 4 → ∀ w, w < 3 → I (50 + k) w = meanV ρ k z w) :
    Spec mX10_bestBy [vR 1, vI w] I R 89 89 (fun rv I' R' => R = R' ∧ I = I' ∧ rv = vI (ruleB ρ z w : Int)) := by
  refine sX10_bestBy (gX10_bestBy_0 hR ?_)
  have loop : ∀ (d j : Nat), j + d = 3 → wp (kN 89) mX10_bestBy (fun rv I' R' => R = R' ∧ I = I' ∧ rv = vI (ruleB ρ z w : Int)) 4 [vR 1, vI w, vI (bestN (fun j => meanV ρ j z w) w j : Nat), vI ((j + 1 : Nat) : Int), none] [] I R 89 := by
    intro d
    induction d with
    | zero =>
      intro j hj
      refine gX10_bestBy_4 hR ⟨⟨by omega, by omega⟩, fun _ => ⟨rfl, rfl, ?_⟩, fun q => absurd (by omega) q⟩
      rw [show j = 3 by omega]; rfl
    | succ d ih =>
      intro j hj
      have hb := bestN_le (V := fun j => meanV ρ j z w) (w := w) j
      have st : bestN (fun j => meanV ρ j z w) w (j + 1) = if ((w : Int) = 0 ∧ meanV ρ (bestN (fun j => meanV ρ j z w) w j : Nat) z w < meanV ρ ((j + 1 : Nat) : Int) z w) ∨ (¬ (w : Int) = 0 ∧ meanV ρ ((j + 1 : Nat) : Int) z w < meanV ρ (bestN (fun j => meanV ρ j z w) w j : Nat) z w) then j + 1 else bestN (fun j => meanV ρ j z w) w j := rfl
      have nx := ih (j + 1) (by omega)
      obtain ⟨r1, a1⟩ := sumsR hR (k := j + 1) (by omega)
      obtain ⟨r2, a2⟩ := sumsR hR (k := bestN (fun j => meanV ρ j z w) w j) (by omega)
      have e1 := hs (j + 1) (by omega) w hw
      have e2 := hs (bestN (fun j => meanV ρ j z w) w j) (by omega) w hw
      have b1 := meanV_bd hok ((j + 1 : Nat) : Int) z w
      have b2 := meanV_bd hok ((bestN (fun j => meanV ρ j z w) w j : Nat) : Int) z w
      generalize bestN (fun j => meanV ρ j z w) w j = B at *
      have ek : ((j + 1 : Nat) : Int) + 1 = ((j + 1 + 1 : Nat) : Int) := by omega
      have keep : bestN (fun j => meanV ρ j z w) w (j + 1) = B → wp (kN 89) mX10_bestBy (fun rv I' R' => R = R' ∧ I = I' ∧ rv = vI (ruleB ρ z w : Int)) 47 [vR 1, vI w, vI (B : Int), vI ((j + 1 : Nat) : Int), none] [] I R 89 := fun q => by
        refine gX10_bestBy_47 hR ?_
        rw [ek]
        rw [q] at nx
        exact nx
      have take : bestN (fun j => meanV ρ j z w) w (j + 1) = j + 1 → wp (kN 89) mX10_bestBy (fun rv I' R' => R = R' ∧ I = I' ∧ rv = vI (ruleB ρ z w : Int)) 45 [vR 1, vI w, none, vI ((j + 1 : Nat) : Int), none] [] I R 89 := fun q => by
        refine gX10_bestBy_45 hR (gX10_bestBy_47 hR ?_)
        rw [ek]
        rw [q] at nx
        exact nx
      refine gX10_bestBy_4 hR ?_
      rw [Int.toNat_natCast, Int.toNat_natCast, Int.toNat_natCast, r1, r2, e1, e2]
      refine ⟨⟨by omega, by omega⟩, fun q => absurd q (by omega), fun _ => ⟨⟨by omega, by omega⟩, a1, ⟨by omega, by omega⟩, ⟨by omega, by omega⟩, a2, ⟨by omega, by omega⟩, fun hne => ⟨⟨by omega, by omega⟩, fun hle => keep (by rw [st, if_neg (by omega)]), fun hlt => take (by rw [st, if_pos (by omega)])⟩, fun he => ⟨⟨by omega, by omega⟩, fun hle => keep (by rw [st, if_neg (by omega)]), fun hlt => take (by rw [st, if_pos (by omega)])⟩⟩⟩
  exact loop 3 0 (by omega)
theorem aX11_bestBy {I : II} {R : RR} {ρ : RM} {z : Int} {w : Nat} (hR : SR R) (hok : okRM ρ) (hw : w < 3) (hs : ∀ k, k < 4 → ∀ w, w < 3 → I 87 (3 * k + w) = meanV ρ k z w) :
    Spec mX11_bestBy [vR 68, vI w] I R 89 89 (fun rv I' R' => R = R' ∧ I = I' ∧ rv = vI (ruleB ρ z w : Int)) := by
  refine sX11_bestBy (gX11_bestBy_0 hR ?_)
  have loop : ∀ (d j : Nat), j + d = 3 → wp (kN 89) mX11_bestBy (fun rv I' R' => R = R' ∧ I = I' ∧ rv = vI (ruleB ρ z w : Int)) 4 [vR 68, vI w, vI (bestN (fun j => meanV ρ j z w) w j : Nat), vI ((j + 1 : Nat) : Int), none] [] I R 89 := by
    intro d
    induction d with
    | zero =>
      intro j hj
      refine gX11_bestBy_4 hR ⟨⟨by omega, by omega⟩, fun _ => ⟨rfl, rfl, ?_⟩, fun q => absurd (by omega) q⟩
      rw [show j = 3 by omega]; rfl
    | succ d ih =>
      intro j hj
      have hb := bestN_le (V := fun j => meanV ρ j z w) (w := w) j
      have st : bestN (fun j => meanV ρ j z w) w (j + 1) = if ((w : Int) = 0 ∧ meanV ρ (bestN (fun j => meanV ρ j z w) w j : Nat) z w < meanV ρ ((j + 1 : Nat) : Int) z w) ∨ (¬ (w : Int) = 0 ∧ meanV ρ ((j + 1 : Nat) : Int) z w < meanV ρ (bestN (fun j => meanV ρ j z w) w j : Nat) z w) then j + 1 else bestN (fun j => meanV ρ j z w) w j := rfl
      have nx := ih (j + 1) (by omega)
      have e1 := hs (j + 1) (by omega) w hw
      have e2 := hs (bestN (fun j => meanV ρ j z w) w j) (by omega) w hw
      have b1 := meanV_bd hok ((j + 1 : Nat) : Int) z w
      have b2 := meanV_bd hok ((bestN (fun j => meanV ρ j z w) w j : Nat) : Int) z w
      generalize bestN (fun j => meanV ρ j z w) w j = B at *
      have ek : ((j + 1 : Nat) : Int) + 1 = ((j + 1 + 1 : Nat) : Int) := by omega
      have keep : bestN (fun j => meanV ρ j z w) w (j + 1) = B → wp (kN 89) mX11_bestBy (fun rv I' R' => R = R' ∧ I = I' ∧ rv = vI (ruleB ρ z w : Int)) 54 [vR 68, vI w, vI (B : Int), vI ((j + 1 : Nat) : Int), none] [] I R 89 := fun q => by
        refine gX11_bestBy_54 hR ?_
        rw [ek]
        rw [q] at nx
        exact nx
      have take : bestN (fun j => meanV ρ j z w) w (j + 1) = j + 1 → wp (kN 89) mX11_bestBy (fun rv I' R' => R = R' ∧ I = I' ∧ rv = vI (ruleB ρ z w : Int)) 50 [vR 68, vI w, none, vI ((j + 1 : Nat) : Int), none] [] I R 89 := fun q => by
        refine gX11_bestBy_50 hR ?_
        rw [ek]
        rw [q] at nx
        exact nx
      refine gX11_bestBy_4 hR ?_
      rw [show (3 * ((j + 1 : Nat) : Int) + w).toNat = 3 * (j + 1) + w by omega, show (3 * (B : Int) + w).toNat = 3 * B + w by omega, e1, e2]
      refine ⟨⟨by omega, by omega⟩, fun q => absurd q (by omega), fun _ => ⟨⟨by omega, by omega⟩, ⟨by omega, by omega⟩, ⟨by omega, by omega⟩, fun hne => gX11_bestBy_41 hR ⟨⟨by omega, by omega⟩, fun q => absurd (by omega) hne, fun _ => ⟨⟨by omega, by omega⟩, fun hle => keep (by rw [st, if_neg (by omega)]), fun hlt => take (by rw [st, if_pos (by omega)])⟩⟩, fun he => ⟨⟨by omega, by omega⟩, fun hlt => take (by rw [st, if_pos (by omega)]), fun hle => gX11_bestBy_41 hR ⟨⟨by omega, by omega⟩, fun _ => keep (by rw [st, if_neg (by omega)]), fun q => absurd (by omega) q⟩⟩⟩⟩
  exact loop 3 0 (by omega)
theorem aX10_rules {I : II} {R : RR} {ρ : RM} {z w : Int} (hR : SR R) (hr : R 1 2 = 6 ∨ R 1 2 = 12) (h : XR I R (R 1 2) ρ) (hok : okRM ρ) (hF : XF I) (h2 : InI z) (h3 : InI w) :
    Spec mX10_rules [vR 1, vI z, vI w] I R 89 89 (fun rv I' R' => R = R' ∧ frm mnX I I' ∧ XF I' ∧ rv = vI (rulesP ρ z w)) := by
  have no : ¬ ((0 ≤ z ∧ z ≤ 9999) ∧ 0 ≤ w ∧ w ≤ 3) → wp (kN 89) mX10_rules (fun rv I' R' => R = R' ∧ frm mnX I I' ∧ XF I' ∧ rv = vI (rulesP ρ z w)) 20 [none, none, none, none] [] I R 89 := fun hn => by
    refine gX10_rules_20 hR ⟨rfl, frm_rfl, hF, ?_⟩
    unfold rulesP; rw [if_neg hn]
  have loop : ((0 ≤ z ∧ z ≤ 9999) ∧ 0 ≤ w ∧ w ≤ 3) → ∀ (d k : Nat) (J : II), k + d = 4 → frm mnX I J → XF J → (∀ i, i < k → ∀ w, w < 3 → J (50 + i) w = meanV ρ i z w) → wp (kN 89) mX10_rules (fun rv I' R' => R = R' ∧ frm mnX I I' ∧ XF I' ∧ rv = vI (rulesP ρ z w)) 24 [vR 1, vI z, vI w, vI (k : Int)] [] J R 89 := by
    intro hy d
    induction d with
    | zero =>
      intro k J hk hf hFJ hs
      have hs4 : ∀ i, i < 4 → ∀ w, w < 3 → J (50 + i) w = meanV ρ i z w := fun i hi => hs i (by omega)
      have hb := fun v hv => aX10_bestBy (I := J) (w := v) hR hok hv hs4
      have l : ∀ v, ruleB ρ z v ≤ 3 := fun v => bestN_le 3
      have l0 := l 0
      have l1 := l 1
      have l2 := l 2
      refine gX10_rules_24 hR ⟨⟨by omega, by omega⟩, fun _ => ⟨h3, fun hw => ?_, fun hw => ?_⟩, fun q => absurd (by omega) q⟩
      · have w80 : ¬ (ruleB ρ z 0 = ruleB ρ z 1 ∧ ruleB ρ z 0 = ruleB ρ z 2) → wp (kN 89) mX10_rules (fun rv I' R' => R = R' ∧ frm mnX I I' ∧ XF I' ∧ rv = vI (rulesP ρ z w)) 80 [none, none, none, none] [] J R 89 := fun hn => by
          refine gX10_rules_80 hR ⟨rfl, hf, hFJ, ?_⟩
          unfold rulesP; rw [if_pos hy, if_neg (by omega), if_neg hn]
        refine ⟨_, hb 0 (by decide), fun x3 I3 R3 hq => ?_⟩
        obtain ⟨rfl, rfl, e⟩ := hq
        have ex : x3 = (ruleB ρ z 0 : Int) := by cases e; rfl
        subst ex
        refine ⟨rfl, _, hb 1 (by decide), fun x4 I4 R4 hq => ?_⟩
        obtain ⟨rfl, rfl, e⟩ := hq
        have ex : x4 = (ruleB ρ z 1 : Int) := by cases e; rfl
        subst ex
        refine ⟨rfl, ⟨by omega, by omega⟩, ⟨by omega, by omega⟩, fun hne => w80 (fun q => hne (by rw [q.1])), fun he => ⟨_, hb 2 (by decide), fun x7 I7 R7 hq => ?_⟩⟩
        obtain ⟨rfl, rfl, e⟩ := hq
        have ex : x7 = (ruleB ρ z 2 : Int) := by cases e; rfl
        subst ex
        refine ⟨rfl, ⟨by omega, by omega⟩, fun hne => w80 (fun q => hne (by rw [q.2])), fun he2 => ⟨rfl, hf, hFJ, ?_⟩⟩
        unfold rulesP; rw [if_pos hy, if_neg (by omega), if_pos ⟨by omega, by omega⟩]
      · obtain ⟨v, rfl⟩ := nat_of hy.2.1
        refine ⟨_, hb v (by omega), fun x9 I9 R9 hq => ?_⟩
        obtain ⟨rfl, rfl, e⟩ := hq
        refine ⟨rfl, rfl, hf, hFJ, e.trans ?_⟩
        unfold rulesP; rw [if_pos hy, if_pos (by omega)]
    | succ d ih =>
      intro k J hk hf hFJ hs
      have ek : (k : Int) + 1 = ((k + 1 : Nat) : Int) := by omega
      have hX := XR_frm hR hr h hf (by rcases hr with q | q <;> rw [q] <;> decide)
      refine gX10_rules_24 hR ⟨⟨by omega, by omega⟩, fun q => absurd q (by omega), fun _ => ⟨_, aX10_sumUp hR hr hX hok hFJ (k := k) (by omega) hy.1, fun I10 R10 hq => ?_⟩⟩
      obtain ⟨rfl, f10, F10, s10⟩ := hq
      rw [ek]
      refine ⟨rfl, ih (k + 1) I10 (by omega) (frm_trans hf (frm_sub f10 (mnX_sub (by omega)))) F10 (fun i hi v hv => ?_)⟩
      by_cases hik : i = k
      · subst hik; exact s10 v hv
      · rw [f10 (50 + i) (fun q => ?_) v]
        · exact hs i (by omega) v hv
        · rw [List.mem_cons] at q
          rcases q with q | q
          · omega
          · have h4 : i = 0 ∨ i = 1 ∨ i = 2 ∨ i = 3 := by omega
            rcases h4 with rfl | rfl | rfl | rfl <;> exact absurd q (by decide)
  refine sX10_rules (gX10_rules_0 hR ⟨h2, fun c1 => ⟨h3, fun c3 => loop ⟨c1, c3⟩ 4 0 I (by omega) frm_rfl hF (fun i hi => by omega), fun q => no (fun x => q x.2)⟩, fun q => no (fun x => q x.1)⟩)
theorem aX11_rules {I : II} {R : RR} {ρ : RM} {z w : Int} (hR : SR R) (h : MRo I ρ) (hok : okRM ρ) (h2 : InI z) (h3 : InI w) :
    Spec mX11_rules [vR 68, vI z, vI w] I R 89 89 (fun rv I' R' => R = R' ∧ frm mnM I I' ∧ mLow I I' ∧ rv = vI (rulesP ρ z w)) := by
  have no : ¬ ((0 ≤ z ∧ z ≤ 9999) ∧ 0 ≤ w ∧ w ≤ 3) → wp (kN 89) mX11_rules (fun rv I' R' => R = R' ∧ frm mnM I I' ∧ mLow I I' ∧ rv = vI (rulesP ρ z w)) 24 [none, none, none, none] [] I R 89 := fun hn => by
    refine gX11_rules_24 hR ⟨rfl, frm_rfl, fun _ _ => rfl, ?_⟩
    unfold rulesP; rw [if_neg hn]
  have loop : ((0 ≤ z ∧ z ≤ 9999) ∧ 0 ≤ w ∧ w ≤ 3) → ∀ (d k : Nat) (J : II), k + d = 4 → frm mnM I J → mLow I J → (∀ i, i < k → ∀ w, w < 3 → J 87 (3 * i + w) = meanV ρ i z w) → wp (kN 89) mX11_rules (fun rv I' R' => R = R' ∧ frm mnM I I' ∧ mLow I I' ∧ rv = vI (rulesP ρ z w)) 28 [vR 68, vI z, vI w, vI (k : Int)] [] J R 89 := by
    intro hy d
    induction d with
    | zero =>
      intro k J hk hf hlw hs
      have hs4 : ∀ i, i < 4 → ∀ w, w < 3 → J 87 (3 * i + w) = meanV ρ i z w := fun i hi => hs i (by omega)
      have hb := fun v hv => aX11_bestBy (I := J) (w := v) hR hok hv hs4
      have l : ∀ v, ruleB ρ z v ≤ 3 := fun v => bestN_le 3
      have l0 := l 0
      have l1 := l 1
      have l2 := l 2
      refine gX11_rules_28 hR ⟨⟨by omega, by omega⟩, fun _ => ⟨h3, fun hw => ?_, fun hw => ?_⟩, fun q => absurd (by omega) q⟩
      · have w80 : ¬ (ruleB ρ z 0 = ruleB ρ z 1 ∧ ruleB ρ z 0 = ruleB ρ z 2) → wp (kN 89) mX11_rules (fun rv I' R' => R = R' ∧ frm mnM I I' ∧ mLow I I' ∧ rv = vI (rulesP ρ z w)) 90 [none, none, none, none] [] J R 89 := fun hn => by
          refine gX11_rules_90 hR ⟨rfl, hf, hlw, ?_⟩
          unfold rulesP; rw [if_pos hy, if_neg (by omega), if_neg hn]
        refine ⟨_, hb 0 (by decide), fun x3 I3 R3 hq => ?_⟩
        obtain ⟨rfl, rfl, e⟩ := hq
        have ex : x3 = (ruleB ρ z 0 : Int) := by cases e; rfl
        subst ex
        refine ⟨rfl, _, hb 1 (by decide), fun x4 I4 R4 hq => ?_⟩
        obtain ⟨rfl, rfl, e⟩ := hq
        have ex : x4 = (ruleB ρ z 1 : Int) := by cases e; rfl
        subst ex
        refine ⟨rfl, ⟨by omega, by omega⟩, ⟨by omega, by omega⟩, fun hne => w80 (fun q => hne (by rw [q.1])), fun he => ⟨_, hb 1 (by decide), fun x7 I7 R7 hq => ?_⟩⟩
        obtain ⟨rfl, rfl, e⟩ := hq
        have ex : x7 = (ruleB ρ z 1 : Int) := by cases e; rfl
        subst ex
        refine ⟨rfl, _, hb 2 (by decide), fun x8 I8 R8 hq => ?_⟩
        obtain ⟨rfl, rfl, e⟩ := hq
        have ex : x8 = (ruleB ρ z 2 : Int) := by cases e; rfl
        subst ex
        refine ⟨rfl, ⟨by omega, by omega⟩, ⟨by omega, by omega⟩, fun hne => w80 (fun q => by omega), fun he2 => ⟨_, hb 0 (by decide), fun x11 I11 R11 hq => ?_⟩⟩
        obtain ⟨rfl, rfl, e⟩ := hq
        refine ⟨rfl, rfl, hf, hlw, e.trans ?_⟩
        unfold rulesP; rw [if_pos hy, if_neg (by omega), if_pos ⟨by omega, by omega⟩]; rfl
      · obtain ⟨v, rfl⟩ := nat_of hy.2.1
        refine ⟨_, hb v (by omega), fun x9 I9 R9 hq => ?_⟩
        obtain ⟨rfl, rfl, e⟩ := hq
        refine ⟨rfl, rfl, hf, hlw, e.trans ?_⟩
        unfold rulesP; rw [if_pos hy, if_pos (by omega)]
    | succ d ih =>
      intro k J hk hf hlw hs
      have ek : (k : Int) + 1 = ((k + 1 : Nat) : Int) := by omega
      have hX := MRo_frm h hf (by decide)
      refine gX11_rules_28 hR ⟨⟨by omega, by omega⟩, fun q => absurd q (by omega), fun _ => ⟨_, aX11_layMeans hR hX hok (k := k) (by omega) hy.1, fun I10 R10 hq => ?_⟩⟩
      obtain ⟨rfl, f10, l10, s10, o10⟩ := hq
      rw [ek]
      refine ⟨rfl, ih (k + 1) I10 (by omega) (frm_trans hf (frm_sub f10 mnM_sub)) (fun j hj => (l10 j hj).trans (hlw j hj)) (fun i hi v hv => ?_)⟩
      by_cases hik : i = k
      · subst hik; exact s10 v hv
      · rw [o10 (3 * i + v) (by omega)]
        exact hs i (by omega) v hv
  refine sX11_rules (gX11_rules_0 hR ⟨h2, fun c1 => ⟨h3, fun c3 => loop ⟨c1, c3⟩ 4 0 I (by omega) frm_rfl (fun _ _ => rfl) (fun i hi => by omega), fun q => no (fun x => q x.2)⟩, fun q => no (fun x => q x.1)⟩)
