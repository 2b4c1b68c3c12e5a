/-! bell, best -/
def bellP (ρ : RM) (p v : Int) : Int := if (0 ≤ p ∧ p < rN ρ) ∧ 0 ≤ v ∧ v ≤ 99 then bellSp ρ p.toNat v else -1000
theorem aX10_bell {I : II} {R : RR} {ρ : RM} {p v : Int} (hR : SR R) (hr : R 1 2 = 6 ∨ R 1 2 = 12) (h : XR I R (R 1 2) ρ) (hok : okRM ρ) (hF : XF I) (hp : InI p) (hv : InI v) :
    Spec mX10_bell [vR 1, vI p, vI v] I R 89 89 (fun rv I' R' => R = R' ∧ frm [24, 25, 26, 27, 28, 29, 30] I I' ∧ XF I' ∧ rv = vI (bellP ρ p v)) := by
  have hn := hok.1
  obtain ⟨o, a0, a1, a2, a3, a4⟩ := roomO hR hr
  refine sX10_bell (gX10_bell_0 hR ⟨o, hp, by rw [h.1]; exact ⟨by omega, by omega⟩, fun hc => ⟨hv, fun hd => ?_, fun hd => gX10_bell_21 hR ⟨rfl, frm_rfl, hF, ?_⟩⟩, fun hc => gX10_bell_21 hR ⟨rfl, frm_rfl, hF, ?_⟩⟩)
  · rw [h.1] at hc
    obtain ⟨k, rfl⟩ := nat_of hc.1
    refine ⟨_, aX10_gainOfTelling hR hr h hok hF (by omega) hd, fun x7 I7 R7 hq => ?_⟩
    obtain ⟨rfl, f7, hF7, e⟩ := hq
    refine ⟨rfl, rfl, f7, hF7, ?_⟩
    rw [e]; unfold bellP; rw [if_pos ⟨hc, hd⟩, Int.toNat_natCast]
  · rw [h.1] at hc; unfold bellP; rw [if_neg (fun q => hd q.2)]
  · rw [h.1] at hc; unfold bellP; rw [if_neg (fun q => hc q.1)]
theorem aX11_bell {I : II} {R : RR} {ρ : RM} {p v : Int} (hR : SR R) (h : MRo I ρ) (hok : okRM ρ) (hp : InI p) (hv : InI v) :
    Spec mX11_bell [vR 68, vI p, vI v] I R 89 89 (fun rv I' R' => R = R' ∧ mKeep I I' ∧ rv = vI (bellP ρ p v)) := by
  have hn := hok.1
  refine sX11_bell (gX11_bell_0 hR ⟨hp, by rw [h.1]; exact ⟨by omega, by omega⟩, fun hc => ⟨hv, fun hd => ?_, fun hd => gX11_bell_29 hR ⟨rfl, mKeep_rfl, ?_⟩⟩, fun hc => gX11_bell_29 hR ⟨rfl, mKeep_rfl, ?_⟩⟩)
  · rw [h.1] at hc
    obtain ⟨k, rfl⟩ := nat_of hc.1
    refine ⟨_, aX11_bellOf hR h hok (by omega) hd, fun x7 I7 R7 hq => ?_⟩
    obtain ⟨rfl, f7, e⟩ := hq
    refine ⟨rfl, rfl, f7, ?_⟩
    rw [e]; unfold bellP; rw [if_pos ⟨by omega, hd⟩, Int.toNat_natCast]
  · rw [h.1] at hc; unfold bellP; rw [if_neg (fun q => hd q.2)]
  · rw [h.1] at hc; unfold bellP; rw [if_neg (fun q => hc (by omega))]
/-- b is no worse than v: more gain; of like ones nearer to c, then lower -/
def bb (g : Int → Int) (c b v : Int) : Prop := g v < g b ∨ (g v = g b ∧ ((b - c).natAbs < (v - c).natAbs ∨ ((b - c).natAbs = (v - c).natAbs ∧ b ≤ v)))
def isBest (g : Int → Int) (c b : Int) : Prop := (0 ≤ b ∧ b ≤ 99) ∧ ∀ v, 0 ≤ v → v ≤ 99 → bb g c b v
theorem isBest_eq {g : Int → Int} {c b b' : Int} (h : isBest g c b) (h' : isBest g c b') : b = b' := by
  have h1 := h.2 b' h'.1.1 h'.1.2
  have h2 := h'.2 b h.1.1 h.1.2
  unfold bb at h1 h2
  omega
/-- what 'best' answers -/
def bestR (ρ : RM) (p w : Int) (r : Int) : Prop :=
  ((0 ≤ p ∧ p < rN ρ) ∧ 0 ≤ w ∧ w ≤ 1 → ∃ b, isBest (bellSp ρ p.toNat) (rC ρ p.toNat) b ∧ r = if w = 0 then b else bellSp ρ p.toNat b) ∧ (¬ ((0 ≤ p ∧ p < rN ρ) ∧ 0 ≤ w ∧ w ≤ 1) → r = -1)
theorem bestR_eq {ρ : RM} {p w r r' : Int} (h : bestR ρ p w r) (h' : bestR ρ p w r') : r = r' := by
  by_cases hc : (0 ≤ p ∧ p < rN ρ) ∧ 0 ≤ w ∧ w ≤ 1
  · obtain ⟨b, h1, h2⟩ := h.1 hc
    obtain ⟨b', h3, h4⟩ := h'.1 hc
    have := isBest_eq h1 h3
    subst this
    rw [h2, h4]
  · rw [h.2 hc, h'.2 hc]
set_option maxHeartbeats 1000000 in
theorem aX10_best {I : II} {R : RR} {ρ : RM} {p w : Int} (hR : SR R) (hr : R 1 2 = 6 ∨ R 1 2 = 12) (h : XR I R (R 1 2) ρ) (hok : okRM ρ) (hF : XF I) (hp : InI p) (hw : InI w) :
    Spec mX10_best [vR 1, vI p, vI w] I R 89 89 (fun rv I' R' => R = R' ∧ frm [24, 25, 26, 27, 28, 29, 30] I I' ∧ XF I' ∧ ∃ r, rv = vI r ∧ bestR ρ p w r) := by
  have hn := hok.1
  obtain ⟨o, a0, a1, a2, a3, a4⟩ := roomO hR hr
  refine sX10_best (gX10_best_0 hR ⟨o, hp, by rw [h.1]; exact ⟨by omega, by omega⟩, fun hc => ⟨hw, fun hd => ⟨a1, by rw [h.1] at hc; omega, ?_⟩, fun hd => gX10_best_20 hR ⟨rfl, frm_rfl, hF, _, rfl, ?_⟩⟩, fun hc => gX10_best_20 hR ⟨rfl, frm_rfl, hF, _, rfl, ?_⟩⟩)
  · rw [h.1] at hc
    obtain ⟨k, rfl⟩ := nat_of hc.1
    have hk : k < rN ρ := by omega
    have hcd := (h.2.2.2.2.2.2.2.2.1 k hk).2.1
    have hC := hok.2.1 k
    rw [Int.toNat_natCast, hcd]
    generalize hcc : rC ρ k = c at *
    have upd : ∀ (d j : Nat) (b : Int) (I2 : II), j + d = 100 → frm [24, 25, 26, 27, 28, 29, 30] I I2 → XF I2 → (0 ≤ b ∧ b ≤ 99) → bb (bellSp ρ k) c b c → (b = c ∨ b < j) → (∀ v : Int, 0 ≤ v → v < j → bb (bellSp ρ k) c b v) →
        wp (kN 89) mX10_best (fun rv I' R' => R = R' ∧ frm [24, 25, 26, 27, 28, 29, 30] I I' ∧ XF I' ∧ ∃ r, rv = vI r ∧ bestR ρ (k : Int) w r) 46 [vR 1, vI (k : Int), vI w, vI c, vI b, vI (bellSp ρ k b), vI (j : Int), none, none] [] I2 R 89 := by
      intro d
      induction d with
      | zero =>
        intro j b I2 hj f2 hF2 hb hbc hbj hall
        have hbest : isBest (bellSp ρ k) c b := ⟨hb, fun v h0 h1 => hall v h0 (by omega)⟩
        refine gX10_best_46 hR ⟨⟨by omega, by omega⟩, fun _ => ⟨hw, fun hw0 => ⟨rfl, f2, hF2, _, rfl, fun _ => ⟨b, ?_, ?_⟩, fun q => absurd ⟨hc, hd⟩ q⟩, fun hw0 => ⟨rfl, f2, hF2, _, rfl, fun _ => ⟨b, ?_, ?_⟩, fun q => absurd ⟨hc, hd⟩ q⟩⟩, fun q => absurd (by omega) q⟩
        · rw [Int.toNat_natCast, hcc]; exact hbest
        · rw [if_neg hw0, Int.toNat_natCast]
        · rw [Int.toNat_natCast, hcc]; exact hbest
        · rw [if_pos hw0]
      | succ d ih =>
        intro j b I2 hj f2 hF2 hb hbc hbj hall
        have h2 : XR I2 R (R 1 2) ρ := XR_frm hR hr h f2 (fun x hx => by simp at hx; omega)
        have bd1 := bell_bd (p := k) hok hb
        have bd2 := bell_bd (ρ := ρ) (p := k) (v := (j : Int)) hok (by omega)
        have ej : (j : Int) + 1 = ((j + 1 : Nat) : Int) := by omega
        refine gX10_best_46 hR ⟨⟨by omega, by omega⟩, fun q => absurd q (by omega), fun _ => ⟨_, aX10_gainOfTelling hR hr h2 hok hF2 hk (by omega), fun x3 I3 R3 hq => ?_⟩⟩
        obtain ⟨rfl, f3, hF3, e3⟩ := hq
        cases e3
        have f3' := frm_trans f2 f3
        have take : (bellSp ρ k b < bellSp ρ k j ∨ (bellSp ρ k j = bellSp ρ k b ∧ ((j : Int) - c).natAbs < (b - c).natAbs)) → wp (kN 89) mX10_best (fun rv I' R' => R = R' ∧ frm [24, 25, 26, 27, 28, 29, 30] I I' ∧ XF I' ∧ ∃ r, rv = vI r ∧ bestR ρ (k : Int) w r) 105 [vR 1, vI (k : Int), vI w, vI c, none, none, vI (j : Int), vI (bellSp ρ k j), none] [] I3 R 89 := fun ht => by
          refine gX10_best_105 hR (gX10_best_113 hR ?_)
          rw [ej]
          refine ih (j + 1) j I3 (by omega) f3' hF3 (by omega) ?_ (Or.inr (by omega)) (fun v h0 h1 => ?_)
          · unfold bb at hbc ⊢; omega
          · by_cases e : v = j
            · rw [e]; unfold bb; omega
            · have := hall v h0 (by omega)
              unfold bb at this ⊢; omega
        have leave : ¬ (bellSp ρ k b < bellSp ρ k j ∨ (bellSp ρ k j = bellSp ρ k b ∧ ((j : Int) - c).natAbs < (b - c).natAbs)) → wp (kN 89) mX10_best (fun rv I' R' => R = R' ∧ frm [24, 25, 26, 27, 28, 29, 30] I I' ∧ XF I' ∧ ∃ r, rv = vI r ∧ bestR ρ (k : Int) w r) 113 [vR 1, vI (k : Int), vI w, vI c, vI b, vI (bellSp ρ k b), vI (j : Int), none, none] [] I3 R 89 := fun ht => by
          refine gX10_best_113 hR ?_
          rw [ej]
          refine ih (j + 1) b I3 (by omega) f3' hF3 hb hbc (by omega) (fun v h0 h1 => ?_)
          by_cases e : v = j
          · rw [e]; unfold bb; omega
          · exact hall v h0 (by omega)
        refine ⟨rfl, ⟨by omega, by omega⟩, ⟨by omega, by omega⟩, ⟨by omega, by omega⟩, ⟨by omega, by omega⟩, fun hn => ⟨⟨by omega, by omega⟩, ⟨by omega, by omega⟩, fun hg => take (by omega), fun hg => ⟨fun he => leave (by omega), fun he => leave (by omega)⟩⟩, fun hn => ⟨⟨by omega, by omega⟩, ⟨by omega, by omega⟩, fun hg => take (by omega), fun hg => ⟨fun he => leave (by omega), fun he => take (by omega)⟩⟩⟩
    have sp0 := aX10_gainOfTelling (v := c) hR hr h hok hF hk (by omega)
    refine ⟨_, sp0, fun x9 I9 R9 hq => ?_⟩
    obtain ⟨rfl, f9, hF9, e9⟩ := hq
    cases e9
    exact ⟨rfl, upd 100 0 c I9 (by omega) f9 hF9 (by omega) (by unfold bb; omega) (Or.inl rfl) (fun v h0 h1 => by omega)⟩
  · rw [h.1] at hc
    exact ⟨fun q => absurd q.2 hd, fun _ => rfl⟩
  · rw [h.1] at hc
    exact ⟨fun q => absurd q.1 hc, fun _ => rfl⟩
set_option maxHeartbeats 1000000 in
theorem aX11_best {I : II} {R : RR} {ρ : RM} {p w : Int} (hR : SR R) (h : MRo I ρ) (hok : okRM ρ) (hp : InI p) (hw : InI w) :
    Spec mX11_best [vR 68, vI p, vI w] I R 89 89 (fun rv I' R' => R = R' ∧ mKeep I I' ∧ ∃ r, rv = vI r ∧ bestR ρ p w r) := by
  have hn := hok.1
  refine sX11_best (gX11_best_0 hR ⟨hp, by rw [h.1]; exact ⟨by omega, by omega⟩, fun hc => ⟨hw, fun hd => ⟨by rw [h.1] at hc; omega, ?_⟩, fun hd => gX11_best_18 hR ⟨rfl, mKeep_rfl, _, rfl, ?_⟩⟩, fun hc => gX11_best_18 hR ⟨rfl, mKeep_rfl, _, rfl, ?_⟩⟩)
  · rw [h.1] at hc
    obtain ⟨k, rfl⟩ := nat_of hc.1
    have hk : k < rN ρ := by omega
    have hcd := (h.2.1 k hk).2.1
    have hC := hok.2.1 k
    have hc2 : 0 ≤ (k : Int) ∧ (k : Int) < rN ρ := by omega
    rw [Int.toNat_natCast, hcd]
    generalize hcc : rC ρ k = c at *
    -- one trial
    have trial : ∀ (b v : Int) (I2 : II) (dd ss : Int) (P : Int → Prop), mKeep I I2 → (0 ≤ b ∧ b ≤ 99) → c + ss * dd = v → (InI (ss * dd)) →
        (∀ (b' : Int) (I3 : II), mKeep I I3 → (0 ≤ b' ∧ b' ≤ 99) → ((b' = b ∧ (0 ≤ v → v ≤ 99 → bellSp ρ k v ≤ bellSp ρ k b)) ∨ (b' = v ∧ bellSp ρ k b < bellSp ρ k v)) → wp (kN 89) mX11_best (fun rv I' R' => R = R' ∧ mKeep I I' ∧ ∃ r, rv = vI r ∧ bestR ρ (k : Int) w r) 105 [vR 68, vI (k : Int), vI w, vI b', vI (bellSp ρ k b'), vI dd, vI ss, none] [] I3 R 89) →
        InI ss → ss < 2 → (-200 ≤ ss * dd ∧ ss * dd ≤ 200) →
        wp (kN 89) mX11_best (fun rv I' R' => R = R' ∧ mKeep I I' ∧ ∃ r, rv = vI r ∧ bestR ρ (k : Int) w r) 48 [vR 68, vI (k : Int), vI w, vI b, vI (bellSp ρ k b), vI dd, vI ss, none] [] I2 R 89 := by
      intro b v I2 dd ss P k2 hb hv hin kk hs1 hs2 hbd
      have h2 := MRo_keep h k2
      have e72 : I2 72 k = c := (h2.2.1 k hk).2.1.trans hcc
      have bd1 := bell_bd (p := k) hok hb
      refine gX11_best_48 hR ⟨hs1, fun q => absurd q (by omega), fun _ => ⟨by omega, ?_⟩⟩
      rw [Int.toNat_natCast, e72, hv]
      refine ⟨⟨by omega, by omega⟩, fun hv9 => ⟨_, aX11_bellOf hR h2 hok hk hv9, fun x5 I5 R5 hq => ?_⟩, fun hv9 => kk b I2 k2 hb (Or.inl ⟨rfl, fun q1 q2 => absurd ⟨q1, q2⟩ hv9⟩)⟩
      obtain ⟨rfl, k5, e5⟩ := hq
      cases e5
      have k25 := mKeep_trans k2 k5
      have bd2 := bell_bd (p := k) hok hv9
      refine ⟨rfl, ⟨by omega, by omega⟩, ⟨by omega, by omega⟩, fun hle => kk b I5 k25 hb (Or.inl ⟨rfl, fun _ _ => hle⟩), fun hgt => ⟨_, aX11_bellOf hR (MRo_keep h k25) hok hk hv9, fun x8 I8 R8 hq => ?_⟩⟩
      obtain ⟨rfl, k8, e8⟩ := hq
      cases e8
      exact ⟨rfl, kk v I8 (mKeep_trans k25 k8) hv9 (Or.inr ⟨rfl, by omega⟩)⟩
    have loop : ∀ (d j : Nat) (b : Int) (I2 : II), j + d = 100 → 1 ≤ j → mKeep I I2 → (0 ≤ b ∧ b ≤ 99) → (b - c).natAbs < j → (∀ v : Int, 0 ≤ v → v ≤ 99 → (v - c).natAbs < j → bb (bellSp ρ k) c b v) →
        wp (kN 89) mX11_best (fun rv I' R' => R = R' ∧ mKeep I I' ∧ ∃ r, rv = vI r ∧ bestR ρ (k : Int) w r) 38 [vR 68, vI (k : Int), vI w, vI b, vI (bellSp ρ k b), vI (j : Int), none, none] [] I2 R 89 := by
      intro d
      induction d with
      | zero =>
        intro j b I2 hj hj1 k2 hb hbj hall
        have hbest : isBest (bellSp ρ k) c b := ⟨hb, fun v h0 h1 => hall v h0 h1 (by omega)⟩
        refine gX11_best_38 hR ⟨⟨by omega, by omega⟩, fun _ => ⟨hw, fun hw0 => ⟨rfl, k2, _, rfl, fun _ => ⟨b, ?_, ?_⟩, fun q => absurd ⟨hc2, hd⟩ q⟩, fun hw0 => ⟨rfl, k2, _, rfl, fun _ => ⟨b, ?_, ?_⟩, fun q => absurd ⟨hc2, hd⟩ q⟩⟩, fun q => absurd (by omega) q⟩
        · rw [Int.toNat_natCast, hcc]; exact hbest
        · rw [if_neg hw0, Int.toNat_natCast]
        · rw [Int.toNat_natCast, hcc]; exact hbest
        · rw [if_pos hw0]
      | succ d ih =>
        intro j b I2 hj hj1 k2 hb hbj hall
        refine gX11_best_38 hR ⟨⟨by omega, by omega⟩, fun q => absurd q (by omega), fun _ => ?_⟩
        refine trial b (c - j) I2 j (-1) (fun _ => True) k2 hb (by omega) ⟨by omega, by omega⟩ (fun b1 I3 k3 hb1 h1 => ?_) ⟨by decide, by decide⟩ (by decide) (by omega)
        refine gX11_best_105 hR ?_
        rw [show (-1 : Int) + 2 = 1 by decide]
        refine trial b1 (c + j) I3 j 1 (fun _ => True) k3 hb1 (by omega) ⟨by omega, by omega⟩ (fun b2 I4 k4 hb2 h2 => ?_) ⟨by decide, by decide⟩ (by decide) (by omega)
        refine gX11_best_105 hR ?_
        rw [show (1 : Int) + 2 = 3 by decide]
        refine gX11_best_48 hR ⟨⟨by decide, by decide⟩, fun _ => ?_, fun q => absurd (by decide) q⟩
        rw [show (j : Int) + 1 = ((j + 1 : Nat) : Int) by omega]
        have al1 : ∀ v : Int, 0 ≤ v → v ≤ 99 → (v - c).natAbs < j → bb (bellSp ρ k) c b1 v := fun v h0 h9 hv => by
          have := hall v h0 h9 hv
          unfold bb at this ⊢
          rcases h1 with ⟨rfl, -⟩ | ⟨rfl, hlt⟩
          · exact this
          · left; omega
        have al1' : 0 ≤ c - j → bb (bellSp ρ k) c b1 (c - j) := fun h0 => by
          unfold bb
          rcases h1 with ⟨rfl, hle⟩ | ⟨rfl, hlt⟩
          · have := hle h0 (by omega)
            omega
          · right; exact ⟨rfl, Or.inr ⟨rfl, Int.le_refl _⟩⟩
        have hb1j : (b1 - c).natAbs < j ∨ b1 = c - j := by omega
        refine ih (j + 1) b2 I4 (by omega) (by omega) k4 hb2 (by omega) (fun v h0 h9 hv => ?_)
        rcases h2 with ⟨rfl, hle⟩ | ⟨rfl, hlt⟩
        · by_cases e1 : (v - c).natAbs < j
          · exact al1 v h0 h9 e1
          · by_cases e2 : v = c - j
            · subst e2; exact al1' h0
            · have e3 : v = c + j := by omega
              subst e3
              have := hle h0 h9
              unfold bb
              omega
        · by_cases e1 : (v - c).natAbs < j
          · have := al1 v h0 h9 e1
            unfold bb at this ⊢
            left; omega
          · by_cases e2 : v = c - j
            · subst e2
              have := al1' h0
              unfold bb at this ⊢
              left; omega
            · have e3 : v = c + j := by omega
              subst e3
              right; exact ⟨rfl, Or.inr ⟨rfl, Int.le_refl _⟩⟩
    have sp0 := aX11_bellOf (v := c) hR h hok hk (by omega)
    refine ⟨_, sp0, fun x9 I9 R9 hq => ?_⟩
    obtain ⟨rfl, k9, e9⟩ := hq
    cases e9
    refine ⟨rfl, loop 99 1 c I9 (by omega) (by omega) k9 (by omega) (by omega) (fun v h0 h1 h2 => ?_)⟩
    have e : v = c := by omega
    subst e
    right; exact ⟨rfl, Or.inr ⟨rfl, Int.le_refl _⟩⟩
  · rw [h.1] at hc
    exact ⟨fun q => absurd q.2 hd, fun _ => rfl⟩
  · rw [h.1] at hc
    exact ⟨fun q => absurd q.1 (by omega), fun _ => rfl⟩
