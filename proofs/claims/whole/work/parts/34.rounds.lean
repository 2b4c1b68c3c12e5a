/-! round and of, of both -/
def roundV (σ : RS) (w : Int) : Int := if w = 0 then tr σ else if w = 1 then ga σ else if w = 2 then so σ else hi σ - lo σ
abbrev isRnd (rule z : Int) : Prop := (0 ≤ rule ∧ rule ≤ 3) ∧ 0 ≤ z ∧ z ≤ 9999
def roundP (ρ : RM) (rule z w : Int) : Int := if isRnd rule z ∧ 0 ≤ w ∧ w ≤ 3 then roundV (roundSp ρ rule z) w else -10000
def ofP (ρ : RM) (rule z p : Int) : Int := if isRnd rule z ∧ 0 ≤ p ∧ p < rN ρ then pd (roundSp ρ rule z) p.toNat else -1
/-- the LOG after -/
def logA (ρ : RM) (rule z : Int) (c : Prop) [Decidable c] (l : List LE) : List LE := if (isRnd rule z ∧ c) ∧ rule = 0 then logSp ρ z else l
theorem XLg_pl {I I' : II} {R : RR} {rule z : Int} {ρ : RM} {l : List LE} (hR : SR R) (hl : XLg I R 18 l) (f : frm (plT (if rule = 0 then 18 else 0)) I I') (g : rule = 0 → XLo I' R 18 (logSp ρ z)) : XLg I' R 18 (if rule = 0 then logSp ρ z else l) := by
  by_cases h0 : rule = 0
  · rw [if_pos h0]
    rcases g h0 with q | ⟨_, q⟩
    · exact absurd q (by decide)
    · exact q
  · rw [if_neg h0] at f ⊢
    refine XLg_frm hl f ?_
    rw [r_18_0 hR, r_18_1 hR, r_18_2 hR, r_18_3 hR]
    decide
theorem pl_sub {rule : Int} : ∀ i ∈ plT (if rule = 0 then 18 else 0), i ∈ plT 18 := by split <;> decide
theorem logA_no {ρ : RM} {rule z : Int} {c : Prop} [Decidable c] {l : List LE} (h : ¬ (isRnd rule z ∧ c)) : logA ρ rule z c l = l := by unfold logA; rw [if_neg (fun q => h q.1)]
theorem logA_yes {ρ : RM} {rule z : Int} {c : Prop} [Decidable c] {l : List LE} (h : isRnd rule z ∧ c) : logA ρ rule z c l = if rule = 0 then logSp ρ z else l := by
  unfold logA
  by_cases h0 : rule = 0
  · rw [if_pos ⟨h, h0⟩, if_pos h0]
  · rw [if_neg (fun q => h0 q.2), if_neg h0]
theorem aX10_round {I : II} {R : RR} {ρ : RM} {rule z w : Int} {l : List LE} (hR : SR R) (hr : R 1 2 = 6 ∨ R 1 2 = 12) (h : XR I R (R 1 2) ρ) (hok : okRM ρ) (hF : XF I) (hl : XLg I R 18 l) (h1 : InI rule) (h2 : InI z) (h3 : InI w) :
    Spec mX10_round [vR 1, vI rule, vI z, vI w] I R 89 89 (fun rv I' R' => R = R' ∧ frm (plT 18) I I' ∧ XF I' ∧ XLg I' R 18 (logA ρ rule z (0 ≤ w ∧ w ≤ 3) l) ∧ rv = vI (roundP ρ rule z w)) := by
  have no : ¬ (isRnd rule z ∧ 0 ≤ w ∧ w ≤ 3) → wp (kN 89) mX10_round (fun rv I' R' => R = R' ∧ frm (plT 18) I I' ∧ XF I' ∧ XLg I' R 18 (logA ρ rule z (0 ≤ w ∧ w ≤ 3) l) ∧ rv = vI (roundP ρ rule z w)) 29 [none, none, none, none] [] I R 89 := fun hn => by
    refine gX10_round_29 hR ⟨rfl, frm_rfl, hF, ?_, ?_⟩
    · rw [logA_no hn]; exact hl
    · unfold roundP; rw [if_neg hn]
  refine sX10_round (gX10_round_0 hR ⟨h1, fun c1 => ⟨h2, fun c2 => ⟨h3, fun c3 => ⟨_, aX7_play hR hr h hok hF c2 h1 (Or.inr rfl), fun I7 R7 hq => ?_⟩, fun q => no (fun x => q x.2)⟩, fun q => no (fun x => q x.1.2)⟩, fun q => no (fun x => q x.1.1)⟩)
  obtain ⟨rfl, f7, F7, x7, g7⟩ := hq
  have hy : isRnd rule z ∧ 0 ≤ w ∧ w ≤ 3 := ⟨⟨c1, c2⟩, c3⟩
  have e : roundP ρ rule z w = roundV (roundSp ρ rule z) w := by unfold roundP; rw [if_pos hy]
  have hlg : XLg I7 R 18 (logA ρ rule z (0 ≤ w ∧ w ≤ 3) l) := by rw [logA_yes hy]; exact XLg_pl hR hl f7 g7
  have f := frm_sub f7 pl_sub
  obtain ⟨x3, x4, x5, x6, x7', x8, x9, xp⟩ := x7
  rw [e]
  unfold roundV
  refine ⟨rfl, fun a0 => ⟨fun a1 => ⟨fun a2 => ⟨rfl, f, F7, hlg, ?_⟩, fun a2 => ⟨rfl, f, F7, hlg, ?_⟩⟩, fun a1 => ⟨rfl, f, F7, hlg, ?_⟩⟩, fun a0 => ⟨rfl, f, F7, hlg, ?_⟩⟩
  · rw [if_neg a0, if_neg a1, if_neg a2, x5, x6]
  · rw [if_neg a0, if_neg a1, if_pos a2, x9]
  · rw [if_neg a0, if_pos a1, x8]
  · rw [if_pos a0, x7']
theorem aX10_of {I : II} {R : RR} {ρ : RM} {rule z p : Int} {l : List LE} (hR : SR R) (hr : R 1 2 = 6 ∨ R 1 2 = 12) (h : XR I R (R 1 2) ρ) (hok : okRM ρ) (hF : XF I) (hl : XLg I R 18 l) (h1 : InI rule) (h2 : InI z) (h3 : InI p) :
    Spec mX10_of [vR 1, vI rule, vI z, vI p] I R 89 89 (fun rv I' R' => R = R' ∧ frm (plT 18) I I' ∧ XF I' ∧ XLg I' R 18 (logA ρ rule z (0 ≤ p ∧ p < rN ρ) l) ∧ rv = vI (ofP ρ rule z p)) := by
  have hn20 := hok.1
  have e5 := h.1
  have no : ¬ (isRnd rule z ∧ 0 ≤ p ∧ p < rN ρ) → wp (kN 89) mX10_of (fun rv I' R' => R = R' ∧ frm (plT 18) I I' ∧ XF I' ∧ XLg I' R 18 (logA ρ rule z (0 ≤ p ∧ p < rN ρ) l) ∧ rv = vI (ofP ρ rule z p)) 31 [none, none, none, none] [] I R 89 := fun hn => by
    refine gX10_of_31 hR ⟨rfl, frm_rfl, hF, ?_, ?_⟩
    · rw [logA_no hn]; exact hl
    · unfold ofP; rw [if_neg hn]
  refine sX10_of (gX10_of_0 hR ⟨h1, fun c1 => ⟨h2, fun c2 => ⟨(roomO hR hr).1, h3, by rw [e5]; exact ⟨by omega, by omega⟩, fun c3 => ⟨_, aX7_play hR hr h hok hF c2 h1 (Or.inr rfl), fun I7 R7 hq => ?_⟩, fun q => no (fun x => q (by rw [e5]; exact x.2))⟩, fun q => no (fun x => q x.1.2)⟩, fun q => no (fun x => q x.1.1)⟩)
  rw [e5] at c3
  obtain ⟨rfl, f7, F7, x7, g7⟩ := hq
  have hy : isRnd rule z ∧ 0 ≤ p ∧ p < rN ρ := ⟨⟨c1, c2⟩, c3⟩
  refine ⟨rfl, ⟨by omega, by omega⟩, rfl, frm_sub f7 pl_sub, F7, by rw [logA_yes hy]; exact XLg_pl hR hl f7 g7, ?_⟩
  unfold ofP
  rw [if_pos hy, x7.2.2.2.2.2.2.2 p.toNat (by omega)]
/-- what a public ROUND of the reference leaves -/
def mRd (I I' : II) : Prop := frm (mRT 1) I I' ∧ mLow I I' ∧ bank I I'
theorem mRd_rfl {I : II} : mRd I I := ⟨frm_rfl, fun _ _ => rfl, bank_rfl⟩
theorem mR_sub {f : Int} (hf : f = 0 ∨ f = 1) : ∀ i ∈ mRT f, i ∈ mRT 1 := by rcases hf with rfl | rfl <;> decide
theorem lgF_01 (rule il : Int) : lgF rule il = 0 ∨ lgF rule il = 1 := by unfold lgF; split <;> (try split) <;> omega
theorem MLg_pl {I I' : II} {rule z : Int} {ρ : RM} {l : List LE} (hl : MLg I 0 l) (f : frm (mRT (lgF rule 1)) I I') (g : rule = 0 → MLo I' (lgF rule 1) (logSp ρ z)) : MLg I' 0 (if rule = 0 then logSp ρ z else l) := by
  by_cases h0 : rule = 0
  · rw [if_pos h0]
    have e : lgF rule 1 = 1 := by unfold lgF; rw [if_neg (by decide), if_pos h0]
    have := g h0
    rw [e] at this
    rcases this with q | ⟨_, q⟩
    · exact absurd q (by decide)
    · exact q
  · have e : lgF rule 1 = 0 := by unfold lgF; rw [if_neg (by decide), if_neg h0]
    rw [e] at f
    rw [if_neg h0]
    exact MLg_frm hl f (by decide)
theorem aX11_round {I : II} {R : RR} {ρ : RM} {rule z w : Int} {l : List LE} (hR : SR R) (h : MRo I ρ) (hok : okRM ρ) (hl : MLg I 0 l) (h1 : InI rule) (h2 : InI z) (h3 : InI w) :
    Spec mX11_round [vR 68, vI rule, vI z, vI w] I R 89 89 (fun rv I' R' => R = R' ∧ mRd I I' ∧ MLg I' 0 (logA ρ rule z (0 ≤ w ∧ w ≤ 3) l) ∧ rv = vI (roundP ρ rule z w)) := by
  have no : ¬ (isRnd rule z ∧ 0 ≤ w ∧ w ≤ 3) → wp (kN 89) mX11_round (fun rv I' R' => R = R' ∧ mRd I I' ∧ MLg I' 0 (logA ρ rule z (0 ≤ w ∧ w ≤ 3) l) ∧ rv = vI (roundP ρ rule z w)) 20 [none, none, none, none] [] I R 89 := fun hn => by
    refine gX11_round_20 hR ⟨rfl, mRd_rfl, ?_, ?_⟩
    · rw [logA_no hn]; exact hl
    · unfold roundP; rw [if_neg hn]
  refine sX11_round (gX11_round_0 hR ⟨h1, h2, fun c1 => ⟨h3, fun c3 => ⟨_, aX11_goRound hR h hok c1.2 c1.1 (Or.inr rfl), fun I7 R7 hq => ?_⟩, fun q => no (fun x => q x.2)⟩, fun q => no (fun x => q x.1)⟩)
  obtain ⟨rfl, f7, l7, b7, x7, g7⟩ := hq
  have hy : isRnd rule z ∧ 0 ≤ w ∧ w ≤ 3 := ⟨c1, c3⟩
  have e : roundP ρ rule z w = roundV (roundSp ρ rule z) w := by unfold roundP; rw [if_pos hy]
  have hlg : MLg I7 0 (logA ρ rule z (0 ≤ w ∧ w ≤ 3) l) := by rw [logA_yes hy]; exact MLg_pl hl f7 g7
  have k : mRd I I7 := ⟨frm_sub f7 (mR_sub (lgF_01 _ _)), l7, b7⟩
  obtain ⟨x3, x4, x5, x6, x7', x8, x9, xp⟩ := x7
  rw [e]
  unfold roundV
  refine ⟨rfl, fun a0 => ⟨fun a1 => ⟨fun a2 => ⟨rfl, k, hlg, ?_⟩, fun a2 => ⟨rfl, k, hlg, ?_⟩⟩, fun a1 => ⟨rfl, k, hlg, ?_⟩⟩, fun a0 => ⟨rfl, k, hlg, ?_⟩⟩
  · rw [if_neg a0, if_neg a1, if_neg a2, x8, x9]
  · rw [if_neg a0, if_neg a1, if_pos a2, x7']
  · rw [if_neg a0, if_pos a1, x6]
  · rw [if_pos a0, x5]
theorem aX11_of {I : II} {R : RR} {ρ : RM} {rule z p : Int} {l : List LE} (hR : SR R) (h : MRo I ρ) (hok : okRM ρ) (hl : MLg I 0 l) (h1 : InI rule) (h2 : InI z) (h3 : InI p) :
    Spec mX11_of [vR 68, vI rule, vI z, vI p] I R 89 89 (fun rv I' R' => R = R' ∧ mRd I I' ∧ MLg I' 0 (logA ρ rule z (0 ≤ p ∧ p < rN ρ) l) ∧ rv = vI (ofP ρ rule z p)) := by
  have hn20 := hok.1
  have e0 := h.1
  have no : ¬ (isRnd rule z ∧ 0 ≤ p ∧ p < rN ρ) → wp (kN 89) mX11_of (fun rv I' R' => R = R' ∧ mRd I I' ∧ MLg I' 0 (logA ρ rule z (0 ≤ p ∧ p < rN ρ) l) ∧ rv = vI (ofP ρ rule z p)) 16 [none, none, none, none] [] I R 89 := fun hn => by
    refine gX11_of_16 hR ⟨rfl, mRd_rfl, ?_, ?_⟩
    · rw [logA_no hn]; exact hl
    · unfold ofP; rw [if_neg hn]
  refine sX11_of (gX11_of_0 hR ⟨h1, h2, fun c1 => ⟨h3, by rw [e0]; exact ⟨by omega, by omega⟩, fun c3 => ⟨_, aX11_goRound hR h hok c1.2 c1.1 (Or.inr rfl), fun I7 R7 hq => ?_⟩, fun q => no (fun x => q (by rw [e0]; omega))⟩, fun q => no (fun x => q x.1)⟩)
  rw [e0] at c3
  obtain ⟨rfl, f7, l7, b7, x7, g7⟩ := hq
  have hy : isRnd rule z ∧ 0 ≤ p ∧ p < rN ρ := ⟨c1, by omega, by omega⟩
  refine ⟨rfl, ⟨by omega, by omega⟩, rfl, ⟨frm_sub f7 (mR_sub (lgF_01 _ _)), l7, b7⟩, by rw [logA_yes hy]; exact MLg_pl hl f7 g7, ?_⟩
  unfold ofP
  rw [if_pos hy, x7.2.2.2.2.2.2.2 p.toNat (by omega)]
