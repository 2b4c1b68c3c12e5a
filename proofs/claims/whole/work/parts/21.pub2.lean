/-! served -/
theorem good_run {rs x : Int} {v : Nat → Int} {ps : List Nat} {k : Nat} (hs : srt (kf rs v) ps) (hk : k ≤ ps.length) (hg : ∀ (j q : Nat), j < k → ps[j]? = some q → asGood rs x v q = true) (hb : ∀ q : Nat, ps[k]? = some q → ¬ asGood rs x v q = true) : (ps.filter (asGood rs x v)).length = k := by
  have e : ps = ps.take k ++ ps.drop k := (List.take_append_drop k ps).symm
  have h1 : (ps.take k).filter (asGood rs x v) = ps.take k := List.filter_eq_self.mpr (fun q hq => by
    obtain ⟨j, hj⟩ := List.getElem?_of_mem hq
    have hjk : j < k := by
      have := (List.getElem?_eq_some_iff.mp hj).1
      rw [List.length_take] at this
      omega
    rw [List.getElem?_take_of_lt hjk] at hj
    exact hg j q hjk hj)
  have h2 : (ps.drop k).filter (asGood rs x v) = [] := List.filter_eq_nil_iff.mpr (fun q hq => by
    obtain ⟨j, hj⟩ := List.getElem?_of_mem hq
    rw [List.getElem?_drop] at hj
    have hkl : k < ps.length := by
      have := (List.getElem?_eq_some_iff.mp hj).1
      omega
    have h0 := hb ps[k] (List.getElem?_eq_getElem hkl)
    by_cases ej : j = 0
    · subst ej
      rw [Nat.add_zero, List.getElem?_eq_getElem hkl] at hj
      cases hj
      exact h0
    · have hlt := (List.getElem?_eq_some_iff.mp hj).1
      have h3 := List.pairwise_iff_getElem.mp hs k (k + j) hkl hlt (by omega)
      rw [(List.getElem?_eq_some_iff.mp hj).2] at h3
      intro hgq
      apply h0
      unfold asGood at hgq ⊢
      unfold kf at h3
      by_cases ers : rs = 0
      · rw [if_pos ers] at hgq ⊢
        rw [if_pos ers, if_pos ers] at h3
        simp only [decide_eq_true_eq] at hgq ⊢
        omega
      · rw [if_neg ers] at hgq ⊢
        rw [if_neg ers, if_neg ers] at h3
        simp only [decide_eq_true_eq] at hgq ⊢
        omega)
  have h3 : (ps.filter (asGood rs x v)).length = ((ps.take k ++ ps.drop k).filter (asGood rs x v)).length := by rw [← e]
  rw [h3, List.filter_append, h1, h2, List.append_nil, List.length_take]
  omega
def wdB (ρ : RM) : Nat := ((rB ρ).filter (asGood 0 (rP ρ 2) (rC ρ))).length
def wdS (ρ : RM) : Nat := ((rSl ρ).filter (asGood 1 (rP ρ 2 - rP ρ 1) (rC ρ))).length
def mostSp (ρ : RM) : Int := psum (rC ρ) (rB ρ) (rQ ρ (rP ρ 1)) - psum (rC ρ) (rSl ρ) (rQ ρ (rP ρ 1))
def worstSp (ρ : RM) : Int := (psum (rC ρ) (rB ρ) (wdB ρ) - psum (rC ρ) (rB ρ) (wdB ρ - min (wdB ρ) (wdS ρ))) - (psum (rC ρ) (rSl ρ) (wdS ρ) - psum (rC ρ) (rSl ρ) (wdS ρ - min (wdB ρ) (wdS ρ)))
def servedSp (ρ : RM) (w : Int) : Int :=
  if 0 ≤ w ∧ w ≤ 3 then
    if rQ ρ (rP ρ 1) = 0 ∨ lowP (rC ρ) (rP ρ 1) (rB ρ) (rSl ρ) (rQ ρ (rP ρ 1)) ≤ rP ρ 2 then
      if w = 0 then rQ ρ (rP ρ 1) else if w = 3 then 0 else mostSp ρ
    else if w = 0 then ((min (wdB ρ) (wdS ρ) : Nat) : Int) else if w = 1 then psum (rC ρ) (rB ρ) (min (wdB ρ) (wdS ρ)) - psum (rC ρ) (rSl ρ) (min (wdB ρ) (wdS ρ)) else if w = 2 then worstSp ρ else mostSp ρ - worstSp ρ
  else -1
theorem wdB_le {ρ : RM} : wdB ρ ≤ (rB ρ).length := List.length_filter_le _ _
theorem wdS_le {ρ : RM} : wdS ρ ≤ (rSl ρ).length := List.length_filter_le _ _
theorem aX10_served {I : II} {R : RR} {ρ : RM} {w : Int} (hR : SR R) (hr : R 1 2 = 6 ∨ R 1 2 = 12) (h : XR I R (R 1 2) ρ) (hok : okRM ρ) (hF : XF I) (hw : InI w) :
    Spec mX10_served [vR 1, vI w] I R 89 89 (fun rv I' R' => R = R' ∧ frm [24, 25, 26, 27, 28, 29, 30, 31, 32, 33, 34, 35, 36, 37] I I' ∧ XF I' ∧ rv = vI (servedSp ρ w)) := by
  have ht := okT hok
  have htx := hok.2.2.2.1
  have hli := hok.2.2.2.2.1
  have hlb := okLb hok
  have hls := okLs hok
  obtain ⟨o, a0, a1, a2, a3, a4⟩ := roomO hR hr
  have q1 := rQ_le (ρ := ρ) (t := rP ρ 1)
  have w1 := wdB_le (ρ := ρ)
  have w2 := wdS_le (ρ := ρ)
  refine sX10_served (gX10_served_0 hR ⟨hw, fun hc => ⟨o, ?_⟩, fun hc => ⟨rfl, frm_rfl, hF, by unfold servedSp; rw [if_neg hc]⟩⟩)
  rw [h.2.2.2.2.1]
  refine ⟨_, meet24 hR hr h hok hF ht, fun I4 R4 hq => ?_⟩
  obtain ⟨rfl, l4, f4, c2, c3, c4, c5⟩ := hq
  have f4' : frm [24, 25, 26, 27, 28, 29, 30, 31, 32, 33, 34, 35, 36, 37] I I4 := frm_sub f4 (by simp)
  have ll4 := l4
  have z1 := l4.2.2.1
  have z2 := l4.2.2.2
  have hF4 : XF I4 := by
    obtain ⟨-, -, z1, z2⟩ := l4
    rw [r_24_0 hR] at z1
    rw [r_24_1 hR] at z2
    exact ⟨z1, z2, (f4 32 (by simp) 0).trans hF.2.2.1, (f4 35 (by simp) 0).trans hF.2.2.2.1, (f4 42 (by simp) 0).trans hF.2.2.2.2.1, (f4 45 (by simp) 0).trans hF.2.2.2.2.2⟩
  have h4 : XR I4 R4 (R4 1 2) ρ := XR_frm hR hr h f4 (fun x hx => by simp at hx; omega)
  have e2 : I4 24 2 = (rQ ρ (rP ρ 1) : Int) := c2
  have e3 : I4 24 3 = mostSp ρ := c3
  have e4 : I4 24 4 = lowP (rC ρ) (rP ρ 1) (rB ρ) (rSl ρ) (rQ ρ (rP ρ 1)) := c4
  have elid : I4 (R4 1 2) 10 = rP ρ 2 := h4.2.2.2.2.2.1
  have etax : I4 (R4 1 2) 9 = rP ρ 1 := h4.2.2.2.2.1
  have blo := lowP_bd (v := rC ρ) (t := rP ρ 1) (bl := rB ρ) (sl := rSl ρ) (q := rQ ρ (rP ρ 1)) (okC hok) ht
  have hL := lns24 hR
  have hL0 := hL.2.1
  have hL1 := hL.2.2.1
  have l40 := l4.1
  have l41 := l4.2.1
  rw [r_24_0 hR] at hL0 l40 z1
  rw [r_24_1 hR] at hL1 l41 z2
  have sb : srt (kf 0 (rC ρ)) (rB ρ) := insAll_srt _
  have ss : srt (kf 1 (rC ρ)) (rSl ρ) := insAll_srt _
  have fin : ∀ (a b c : Int), (w = 0 → a = servedSp ρ w) → (w = 1 → b = servedSp ρ w) → (w = 2 → c = servedSp ρ w) → (w = 3 → mostSp ρ - c = servedSp ρ w) →
      wp (kN 89) mX10_served (fun rv I' R' => R4 = R' ∧ frm [24, 25, 26, 27, 28, 29, 30, 31, 32, 33, 34, 35, 36, 37] I I' ∧ XF I' ∧ rv = vI (servedSp ρ w)) 196 [vR 1, vI w, vI a, vI b, vI c, none, none] [] I4 R4 89 := by
    intro a b c ha hb hcc hd
    refine gX10_served_196 hR ⟨hw, fun h0 => ⟨fun h1 => ⟨fun h2 => ⟨rfl, f4', hF4, ?_⟩, fun h2 => ⟨rfl, f4', hF4, by rw [hcc h2]⟩⟩, fun h1 => ⟨rfl, f4', hF4, by rw [hb h1]⟩⟩, fun h0 => ⟨rfl, f4', hF4, by rw [ha h0]⟩⟩
    rw [e3, hd (by omega)]
  refine ⟨rfl, ⟨by omega, by omega⟩, fun hz => ?_, fun hz => ?_⟩
  · have hA : rQ ρ (rP ρ 1) = 0 ∨ lowP (rC ρ) (rP ρ 1) (rB ρ) (rSl ρ) (rQ ρ (rP ρ 1)) ≤ rP ρ 2 := Or.inl (by omega)
    refine fin _ _ _ ?_ ?_ ?_ ?_ <;> intro hh <;> unfold servedSp <;> rw [if_pos hc, if_pos hA]
    · rw [if_pos hh, e2]
    · rw [if_neg (by omega), if_neg (by omega), e3]
    · rw [if_neg (by omega), if_neg (by omega), e3]
    · rw [if_neg (by omega), if_pos hh, e3]; omega
  · rw [elid, e4]
    refine ⟨⟨by omega, by omega⟩, ⟨by omega, by omega⟩, fun hlow => ?_, fun hlow => ?_⟩
    · have hA : rQ ρ (rP ρ 1) = 0 ∨ lowP (rC ρ) (rP ρ 1) (rB ρ) (rSl ρ) (rQ ρ (rP ρ 1)) ≤ rP ρ 2 := Or.inr hlow
      refine fin _ _ _ ?_ ?_ ?_ ?_ <;> intro hh <;> unfold servedSp <;> rw [if_pos hc, if_pos hA]
      · rw [if_pos hh, e2]
      · rw [if_neg (by omega), if_neg (by omega), e3]
      · rw [if_neg (by omega), if_neg (by omega), e3]
      · rw [if_neg (by omega), if_pos hh, e3]; omega
    · have hA : ¬ (rQ ρ (rP ρ 1) = 0 ∨ lowP (rC ρ) (rP ρ 1) (rB ρ) (rSl ρ) (rQ ρ (rP ρ 1)) ≤ rP ρ 2) := by omega
      refine ⟨_, aX2_ahead (x := rP ρ 2) (by decide) hL0 l40 hlb z1 (Or.inl rfl) (okC hok) ⟨by omega, by omega⟩, fun x8 I8 R8 hq8 => ?_⟩
      obtain ⟨rfl, rfl, e8⟩ := hq8
      cases e8
      refine ⟨rfl, ?_⟩
      rw [elid, etax]
      refine ⟨_, aX2_ahead (x := rP ρ 2 - rP ρ 1) (by decide) hL1 l41 hls z2 (Or.inr rfl) (okC hok) ⟨by omega, by omega⟩, fun x9 I9 R9 hq9 => ?_⟩
      obtain ⟨rfl, rfl, e9⟩ := hq9
      cases e9
      rw [show ((List.filter (asGood 0 (rP ρ 2) (rC ρ)) (rB ρ)).length : Int) = (wdB ρ : Int) from rfl, show ((List.filter (asGood 1 (rP ρ 2 - rP ρ 1) (rC ρ)) (rSl ρ)).length : Int) = (wdS ρ : Int) from rfl, show min (wdB ρ : Int) (wdS ρ : Int) = ((min (wdB ρ) (wdS ρ) : Nat) : Int) by omega]
      refine ⟨rfl, ⟨by omega, by omega⟩, ⟨by omega, by omega⟩, _, aX2_sum (f := 0) (t := min (wdB ρ) (wdS ρ)) (by decide) hL0 l40 hlb (by omega) (by omega), fun x12 I12 R12 hq12 => ?_⟩
      obtain ⟨rfl, rfl, e12⟩ := hq12
      cases e12
      refine ⟨rfl, _, aX2_sum (f := 0) (t := min (wdB ρ) (wdS ρ)) (by decide) hL1 l41 hls (by omega) (by omega), fun x13 I13 R13 hq13 => ?_⟩
      obtain ⟨rfl, rfl, e13⟩ := hq13
      cases e13
      rw [show (wdB ρ : Int) - ((min (wdB ρ) (wdS ρ) : Nat) : Int) = ((wdB ρ - min (wdB ρ) (wdS ρ) : Nat) : Int) by omega, show (wdS ρ : Int) - ((min (wdB ρ) (wdS ρ) : Nat) : Int) = ((wdS ρ - min (wdB ρ) (wdS ρ) : Nat) : Int) by omega]
      refine ⟨rfl, _, aX2_sum (f := wdB ρ - min (wdB ρ) (wdS ρ)) (t := wdB ρ) (by decide) hL0 l40 hlb (by omega) (by omega), fun x14 I14 R14 hq14 => ?_⟩
      obtain ⟨rfl, rfl, e14⟩ := hq14
      cases e14
      refine ⟨rfl, _, aX2_sum (f := wdS ρ - min (wdB ρ) (wdS ρ)) (t := wdS ρ) (by decide) hL1 l41 hls (by omega) (by omega), fun x15 I15 R15 hq15 => ?_⟩
      obtain ⟨rfl, rfl, e15⟩ := hq15
      cases e15
      rw [psum_0, psum_0]
      refine ⟨rfl, fin _ _ _ ?_ ?_ ?_ ?_⟩ <;> intro hh <;> unfold servedSp <;> rw [if_pos hc, if_neg hA]
      · rw [if_pos hh]
      · rw [if_neg (by omega), if_pos hh]; omega
      · rw [if_neg (by omega), if_neg (by omega), if_pos hh]; rfl
      · rw [if_neg (by omega), if_neg (by omega), if_neg (by omega)]; rfl
