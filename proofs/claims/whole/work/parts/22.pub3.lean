theorem asG0 {x : Int} {v : Nat → Int} {q : Nat} : asGood 0 x v q = true ↔ x ≤ v q := by unfold asGood; simp
theorem asG1 {x : Int} {v : Nat → Int} {q : Nat} : asGood 1 x v q = true ↔ v q ≤ x := by unfold asGood; simp
set_option maxHeartbeats 1000000 in
theorem aX11_served {I : II} {R : RR} {ρ : RM} {w : Int} (hR : SR R) (h : MRo I ρ) (hok : okRM ρ) (hw : InI w) :
    Spec mX11_served [vR 68, vI w] I R 89 89 (fun rv I' R' => R = R' ∧ mKeep I I' ∧ rv = vI (servedSp ρ w)) := by
  have ht := okT hok
  have htx := hok.2.2.2.1
  have hli := hok.2.2.2.2.1
  have hlb := okLb hok
  have hls := okLs hok
  have q1 := rQ_le (ρ := ρ) (t := rP ρ 1)
  have w1 := wdB_le (ρ := ρ)
  have w2 := wdS_le (ρ := ρ)
  have hC := okC hok
  have sb : srt (kf 0 (rC ρ)) (rB ρ) := insAll_srt _
  have ss : srt (kf 1 (rC ρ)) (rSl ρ) := insAll_srt _
  refine sX11_served (gX11_served_0 hR ⟨hw, fun hc => ⟨_, mLaid hR h hok, fun I3 R3 hq3 => ?_⟩, fun hc => ⟨rfl, mKeep_rfl, by unfold servedSp; rw [if_neg hc]⟩⟩)
  obtain ⟨rfl, k3, sp4⟩ := hq3
  refine ⟨rfl, _, sp4, fun I4 R4 hq4 => ?_⟩
  obtain ⟨rfl, k4, m4, v4⟩ := hq4
  have e1 : I4 74 1 = rP ρ 1 := (MRo_keep h k4).2.2 1 (by decide)
  have e2 : I4 74 2 = rP ρ 2 := (MRo_keep h k4).2.2 2 (by decide)
  have x19 : I4 68 19 = ((rB ρ).length : Int) := m4.1
  have x20 : I4 68 20 = ((rSl ρ).length : Int) := m4.2.1
  rw [e1, e2]
  refine ⟨rfl, _, aX11_rQ hR hok m4 v4 ht, fun x5 I5 R5 hq5 => ?_⟩
  obtain ⟨rfl, rfl, e5⟩ := hq5
  cases e5
  refine ⟨rfl, _, aX11_gainOf hR m4 v4 hlb q1.1 q1.2, fun x6 I6 R6 hq6 => ?_⟩
  obtain ⟨rfl, rfl, e6⟩ := hq6
  cases e6
  rw [show psum (rC ρ) (rB ρ) (rQ ρ (rP ρ 1)) - psum (rC ρ) (rSl ρ) (rQ ρ (rP ρ 1)) = mostSp ρ from rfl]
  have plain : (rQ ρ (rP ρ 1) = 0 ∨ lowP (rC ρ) (rP ρ 1) (rB ρ) (rSl ρ) (rQ ρ (rP ρ 1)) ≤ rP ρ 2) → wp (kN 89) mX11_served (fun rv I' R' => R = R' ∧ mKeep I I' ∧ rv = vI (servedSp ρ w)) 67 [none, vI w, none, none, vI (rQ ρ (rP ρ 1) : Int), vI (mostSp ρ), none, none, none, none, none, none] [] I4 R 89 := fun hA => by
    refine gX11_served_67 hR ⟨hw, fun h0 => ⟨fun h3 => ⟨rfl, k4, ?_⟩, fun h3 => ⟨rfl, k4, ?_⟩⟩, fun h0 => ⟨rfl, k4, ?_⟩⟩ <;> unfold servedSp <;> rw [if_pos hc, if_pos hA]
    · rw [if_neg h0, if_neg h3]
    · rw [if_neg h0, if_pos h3]
    · rw [if_pos h0]
  refine ⟨rfl, ⟨by omega, by omega⟩, fun hz => plain (Or.inl (by omega)), fun hz => ⟨_, aX11_lowest hR m4 v4 hlb hls (by omega) q1.2 hC ht, fun x8 I8 R8 hq8 => ?_⟩⟩
  obtain ⟨rfl, rfl, e8⟩ := hq8
  cases e8
  have blo := lowP_bd (v := rC ρ) (t := rP ρ 1) (bl := rB ρ) (sl := rSl ρ) (q := rQ ρ (rP ρ 1)) hC ht
  refine ⟨rfl, ⟨by omega, by omega⟩, ⟨by omega, by omega⟩, fun hlow => ?_, fun hlow => plain (Or.inr (by omega))⟩
  have hA : ¬ (rQ ρ (rP ρ 1) = 0 ∨ lowP (rC ρ) (rP ρ 1) (rB ρ) (rSl ρ) (rQ ρ (rP ρ 1)) ≤ rP ρ 2) := by omega
  have loop3 : ∀ (d i : Nat) (a b : Int), i + d = min (wdB ρ) (wdS ρ) → a = psum (rC ρ) (rB ρ) i - psum (rC ρ) (rSl ρ) i → b = (psum (rC ρ) (rB ρ) (wdB ρ) - psum (rC ρ) (rB ρ) (wdB ρ - i)) - (psum (rC ρ) (rSl ρ) (wdS ρ) - psum (rC ρ) (rSl ρ) (wdS ρ - i)) →
      wp (kN 89) mX11_served (fun rv I' R' => R = R' ∧ mKeep I I' ∧ rv = vI (servedSp ρ w)) 171 [vR 68, vI w, none, none, none, vI (mostSp ρ), vI (wdB ρ : Int), vI (wdS ρ : Int), vI ((min (wdB ρ) (wdS ρ) : Nat) : Int), vI a, vI b, vI (i : Int)] [] I4 R 89 := by
    intro d
    induction d with
    | zero =>
      intro i a b hi ha hb
      have hi : i = min (wdB ρ) (wdS ρ) := by omega
      subst hi
      refine gX11_served_171 hR ⟨⟨by omega, by omega⟩, ⟨by omega, by omega⟩, fun _ => ⟨hw, fun h0 => ⟨fun h1 => ⟨fun h2 => ⟨rfl, k4, ?_⟩, fun h2 => ⟨rfl, k4, ?_⟩⟩, fun h1 => ⟨rfl, k4, ?_⟩⟩, fun h0 => ⟨rfl, k4, ?_⟩⟩, fun q => absurd (by omega) q⟩ <;> unfold servedSp <;> rw [if_pos hc, if_neg hA]
      · rw [if_neg h0, if_neg h1, if_neg h2, hb]; rfl
      · rw [if_neg h0, if_neg h1, if_pos h2, hb]; rfl
      · rw [if_neg h0, if_pos h1, ha]
      · rw [if_pos h0]
    | succ d ih =>
      intro i a b hi ha hb
      obtain ⟨b1, hb1⟩ : ∃ q', (rB ρ)[i]? = some q' := ⟨(rB ρ)[i], List.getElem?_eq_getElem (by omega)⟩
      obtain ⟨s1, hs1⟩ : ∃ q', (rSl ρ)[i]? = some q' := ⟨(rSl ρ)[i], List.getElem?_eq_getElem (by omega)⟩
      obtain ⟨b2, hb2⟩ : ∃ q', (rB ρ)[wdB ρ - 1 - i]? = some q' := ⟨(rB ρ)[wdB ρ - 1 - i], List.getElem?_eq_getElem (by omega)⟩
      obtain ⟨s2, hs2⟩ : ∃ q', (rSl ρ)[wdS ρ - 1 - i]? = some q' := ⟨(rSl ρ)[wdS ρ - 1 - i], List.getElem?_eq_getElem (by omega)⟩
      obtain ⟨y1, y2, y3⟩ := ml_b m4 v4 hb1
      obtain ⟨z1, z2, z3⟩ := ml_s m4 v4 hs1
      obtain ⟨y4, y5, y6⟩ := ml_b m4 v4 hb2
      obtain ⟨z4, z5, z6⟩ := ml_s m4 v4 hs2
      refine gX11_served_171 hR ⟨⟨by omega, by omega⟩, ⟨by omega, by omega⟩, fun q => absurd q (by omega), fun _ => ?_⟩
      rw [Int.toNat_natCast, show ((wdB ρ : Int) - 1 - (i : Int)).toNat = wdB ρ - 1 - i by omega, show ((wdS ρ : Int) - 1 - (i : Int)).toNat = wdS ρ - 1 - i by omega, y3, z3, y6, z6, show (i : Int) + 1 = ((i + 1 : Nat) : Int) by omega]
      refine ⟨⟨by omega, by omega⟩, ⟨by omega, by omega⟩, ⟨by omega, by omega⟩, ⟨by omega, by omega⟩, ⟨by omega, by omega⟩, ⟨by omega, by omega⟩, ⟨by omega, by omega⟩, ih (i + 1) _ _ (by omega) ?_ ?_⟩
      · rw [psum_succ hb1, psum_succ hs1, ha]; omega
      · have p1 := psum_succ (v := rC ρ) hb2
        have p2 := psum_succ (v := rC ρ) hs2
        rw [show wdB ρ - 1 - i + 1 = wdB ρ - i by omega] at p1
        rw [show wdS ρ - 1 - i + 1 = wdS ρ - i by omega] at p2
        rw [show wdB ρ - (i + 1) = wdB ρ - 1 - i by omega, show wdS ρ - (i + 1) = wdS ρ - 1 - i by omega, hb]
        omega
  have mid : wp (kN 89) mX11_served (fun rv I' R' => R = R' ∧ mKeep I I' ∧ rv = vI (servedSp ρ w)) 146 [vR 68, vI w, none, none, none, vI (mostSp ρ), vI (wdB ρ : Int), vI (wdS ρ : Int), none, none, none, none] [] I4 R 89 := by
    have l0 := loop3 (min (wdB ρ) (wdS ρ)) 0 0 0 (by omega) (by rw [psum_0, psum_0]; rfl) (by rw [Nat.sub_zero, Nat.sub_zero]; omega)
    refine gX11_served_146 hR ⟨⟨by omega, by omega⟩, ⟨by omega, by omega⟩, fun q => ?_, fun q => ?_⟩
    · rw [show ((min (wdB ρ) (wdS ρ) : Nat) : Int) = (wdS ρ : Int) by omega] at l0
      exact l0
    · rw [show ((min (wdB ρ) (wdS ρ) : Nat) : Int) = (wdB ρ : Int) by omega] at l0
      exact l0
  have loop2 : ∀ (d k : Nat), k + d = (rSl ρ).length → (∀ (j q : Nat), j < k → (rSl ρ)[j]? = some q → asGood 1 (rP ρ 2 - rP ρ 1) (rC ρ) q = true) →
      wp (kN 89) mX11_served (fun rv I' R' => R = R' ∧ mKeep I I' ∧ rv = vI (servedSp ρ w)) 119 [vR 68, vI w, vI (rP ρ 1), vI (rP ρ 2), none, vI (mostSp ρ), vI (wdB ρ : Int), vI (k : Int), none, none, none, none] [] I4 R 89 := by
    intro d
    induction d with
    | zero =>
      intro k hk hj
      have e : wdS ρ = k := good_run ss (by omega) hj (fun q hq => by have := (List.getElem?_eq_some_iff.mp hq).1; omega)
      refine gX11_served_119 hR ⟨⟨by omega, by omega⟩, ⟨by omega, by omega⟩, fun _ => ?_, fun q => absurd (by omega) q⟩
      rw [← e]; exact mid
    | succ d ih =>
      intro k hk hj
      obtain ⟨s, hs⟩ : ∃ q', (rSl ρ)[k]? = some q' := ⟨(rSl ρ)[k], List.getElem?_eq_getElem (by omega)⟩
      obtain ⟨s1, s2, s3⟩ := ml_s m4 v4 hs
      have hvs := hC s
      refine gX11_served_119 hR ⟨⟨by omega, by omega⟩, ⟨by omega, by omega⟩, fun q => absurd q (by omega), fun _ => ?_⟩
      rw [Int.toNat_natCast, s3]
      refine ⟨⟨by omega, by omega⟩, ⟨by omega, by omega⟩, ⟨by omega, by omega⟩, ⟨by omega, by omega⟩, fun hb => ?_, fun hg => ?_⟩
      · have e : wdS ρ = k := good_run ss (by omega) hj (fun q hq => by rw [hs] at hq; cases hq; rw [asG1]; omega)
        rw [← e]; exact mid
      · rw [show (k : Int) + 1 = ((k + 1 : Nat) : Int) by omega]
        refine ih (k + 1) (by omega) (fun j q hjk hq => ?_)
        by_cases ej : j = k
        · subst ej
          rw [hs] at hq; cases hq; rw [asG1]; omega
        · exact hj j q (by omega) hq
  have loop1 : ∀ (d k : Nat), k + d = (rB ρ).length → (∀ (j q : Nat), j < k → (rB ρ)[j]? = some q → asGood 0 (rP ρ 2) (rC ρ) q = true) →
      wp (kN 89) mX11_served (fun rv I' R' => R = R' ∧ mKeep I I' ∧ rv = vI (servedSp ρ w)) 91 [vR 68, vI w, vI (rP ρ 1), vI (rP ρ 2), none, vI (mostSp ρ), vI (k : Int), none, none, none, none, none] [] I4 R 89 := by
    have start := loop2 (rSl ρ).length 0 (by omega) (fun j q hj => by omega)
    intro d
    induction d with
    | zero =>
      intro k hk hj
      have e : wdB ρ = k := good_run sb (by omega) hj (fun q hq => by have := (List.getElem?_eq_some_iff.mp hq).1; omega)
      refine gX11_served_91 hR ⟨⟨by omega, by omega⟩, ⟨by omega, by omega⟩, fun _ => gX11_served_116 hR ?_, fun q => absurd (by omega) q⟩
      rw [← e]; exact start
    | succ d ih =>
      intro k hk hj
      obtain ⟨s, hs⟩ : ∃ q', (rB ρ)[k]? = some q' := ⟨(rB ρ)[k], List.getElem?_eq_getElem (by omega)⟩
      obtain ⟨s1, s2, s3⟩ := ml_b m4 v4 hs
      have hvs := hC s
      refine gX11_served_91 hR ⟨⟨by omega, by omega⟩, ⟨by omega, by omega⟩, fun q => absurd q (by omega), fun _ => ?_⟩
      rw [Int.toNat_natCast, s3]
      refine ⟨⟨by omega, by omega⟩, ⟨by omega, by omega⟩, ⟨by omega, by omega⟩, ⟨by omega, by omega⟩, fun hb => gX11_served_116 hR ?_, fun hg => ?_⟩
      · have e : wdB ρ = k := good_run sb (by omega) hj (fun q hq => by rw [hs] at hq; cases hq; rw [asG0]; omega)
        rw [← e]; exact start
      · rw [show (k : Int) + 1 = ((k + 1 : Nat) : Int) by omega]
        refine ih (k + 1) (by omega) (fun j q hjk hq => ?_)
        by_cases ej : j = k
        · subst ej
          rw [hs] at hq; cases hq; rw [asG0]; omega
        · exact hj j q (by omega) hq
  exact loop1 (rB ρ).length 0 (by omega) (fun j q hj => by omega)
