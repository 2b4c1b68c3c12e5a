/-! a ROUND as it stands: what each PERSON paid, LAST, how many traded, GAIN, SOON, the lowest and the highest price -/
abbrev RS : Type := (Nat → Int) × Int × Int × Int × Int × Int × Int
def pd (σ : RS) : Nat → Int := σ.1
def la (σ : RS) : Int := σ.2.1
def tr (σ : RS) : Int := σ.2.2.1
def ga (σ : RS) : Int := σ.2.2.2.1
def so (σ : RS) : Int := σ.2.2.2.2.1
def lo (σ : RS) : Int := σ.2.2.2.2.2.1
def hi (σ : RS) : Int := σ.2.2.2.2.2.2
def σ0 : RS := (fun _ => -4, -4, 0, 0, 0, 0, 0)
def tradeF (ρ : RM) (σ : RS) (b s : Nat) (v t : Int) : RS :=
  (fun p => if p = b ∨ p = s then v else pd σ p, v, tr σ + 1, ga σ + (rC ρ b - rC ρ s), t + 1, if tr σ = 0 then v else min (lo σ) v, if tr σ = 0 then v else max (hi σ) v)
/-- at most k trades -/
def okS (k : Int) (σ : RS) : Prop := lastOk (la σ) ∧ (0 ≤ tr σ ∧ tr σ ≤ k) ∧ (-(99 * tr σ) ≤ ga σ ∧ ga σ ≤ 99 * tr σ) ∧ (0 ≤ so σ ∧ so σ ≤ 200) ∧ (0 ≤ lo σ ∧ lo σ ≤ 99) ∧ (0 ≤ hi σ ∧ hi σ ≤ 99) ∧ ∀ p, lastOk (pd σ p)
theorem okS_0 : okS 0 σ0 := by
  refine ⟨Or.inl rfl, ⟨by decide, by decide⟩, ⟨by decide, by decide⟩, ⟨by decide, by decide⟩, ⟨by decide, by decide⟩, ⟨by decide, by decide⟩, fun _ => Or.inl rfl⟩
theorem okS_le {k k' : Int} {σ : RS} (h : okS k σ) (hk : k ≤ k') : okS k' σ := ⟨h.1, ⟨h.2.1.1, by have := h.2.1.2; omega⟩, h.2.2⟩
theorem okS_trade {ρ : RM} {k : Int} {σ : RS} {b s : Nat} {v t : Int} (hok : okRM ρ) (h : okS k σ) (hv : 0 ≤ v ∧ v ≤ 99) (ht : 0 ≤ t ∧ t < 200) : okS (k + 1) (tradeF ρ σ b s v t) := by
  obtain ⟨h1, h2, h3, h4, h5, h6, h7⟩ := h
  have cb := hok.2.1 b
  have cs := hok.2.1 s
  refine ⟨Or.inr hv, ⟨?_, ?_⟩, ⟨?_, ?_⟩, ⟨?_, ?_⟩, ⟨?_, ?_⟩, ⟨?_, ?_⟩, fun p => ?_⟩
  · show 0 ≤ tr σ + 1; omega
  · show tr σ + 1 ≤ k + 1; omega
  · show -(99 * (tr σ + 1)) ≤ ga σ + (rC ρ b - rC ρ s); omega
  · show ga σ + (rC ρ b - rC ρ s) ≤ 99 * (tr σ + 1); omega
  · show 0 ≤ t + 1; omega
  · show t + 1 ≤ 200; omega
  · show 0 ≤ (if tr σ = 0 then v else min (lo σ) v); split <;> omega
  · show (if tr σ = 0 then v else min (lo σ) v) ≤ 99; split <;> omega
  · show 0 ≤ (if tr σ = 0 then v else max (hi σ) v); split <;> omega
  · show (if tr σ = 0 then v else max (hi σ) v) ≤ 99; split <;> omega
  · show lastOk (if p = b ∨ p = s then v else pd σ p)
    split
    · exact Or.inr hv
    · exact h7 p
def XS (I : II) (z : Int) (σ : RS) : Prop := I 38 3 = z ∧ I 38 4 = la σ ∧ I 38 5 = lo σ ∧ I 38 6 = hi σ ∧ I 38 7 = tr σ ∧ I 38 8 = ga σ ∧ I 38 9 = so σ ∧ ∀ p, p < 20 → I 39 p = pd σ p
def MS (I : II) (z : Int) (σ : RS) : Prop := I 68 21 = z ∧ I 68 22 = la σ ∧ I 68 24 = tr σ ∧ I 68 25 = ga σ ∧ I 68 26 = so σ ∧ I 68 27 = lo σ ∧ I 68 28 = hi σ ∧ ∀ p, p < 20 → I 85 p = pd σ p
theorem pd_up {f : Nat → Int} {I : II} {a b s : Nat} {v : Int} (h : ∀ p, p < 20 → I a p = f p) (p : Nat) (hp : p < 20) : up2 (up2 I a b v) a s v a p = if p = b ∨ p = s then v else f p := by
  rw [up2_at, up2_at, h p hp]
  by_cases x : p = s
  · rw [if_pos x, if_pos (Or.inr x)]
  · rw [if_neg x]
    by_cases y : p = b
    · rw [if_pos y, if_pos (Or.inl y)]
    · rw [if_neg y, if_neg (by omega)]
theorem aX7_trade {I : II} {R : RR} {r b s : Nat} {ρ : RM} {z v t k : Int} {σ : RS} (hR : SR R) (hr : r = 6 ∨ r = 12) (h : XR I R r ρ) (hok : okRM ρ) (hb : b < rN ρ) (hs : s < rN ρ) (hx : XS I z σ) (hσ : okS k σ) (hk : k ≤ 300) (hv : 0 ≤ v ∧ v ≤ 99) :
    Spec mX7_trade [vR 38, vR r, vI b, vI s, vI v, vI t] I R 89 89 (fun _ I' R' => R = R' ∧ frm [38, 39] I I' ∧ XS I' z (tradeF ρ σ b s v t) ∧ ∀ j, 10 ≤ j → I' 38 j = I 38 j) := by
  obtain ⟨o0, o1, o2, o3, o4, o5⟩ := roomO hR hr
  have e1b := (XRf h hb).2.1
  have e1s := (XRf h hs).2.1
  have er := (roomR hR hr).2.1
  have hn := hok.1
  obtain ⟨x3, x4, x5, x6, x7, x8, x9, xp⟩ := hx
  obtain ⟨h1, h2, h3, h4, h5, h6, h7⟩ := hσ
  have n38 : ¬ R r 1 = 38 := by omega
  have n39 : ¬ R r 1 = 39 := by omega
  have fin : ∀ (lo' hi' : Int) (I5 I6 I7 I8 I9 I10 I11 : II), I5 = up2 (up2 I 39 b v) 39 s v → I6 = up2 I5 38 5 lo' → I7 = up2 I6 38 6 hi' → I8 = up2 I7 38 7 (I7 38 7 + 1) → I9 = up2 I8 38 8 (I8 38 8 + (I8 (R r 1) b - I8 (R r 1) s)) → I10 = up2 I9 38 9 (t + 1) → I11 = up2 I10 38 4 v →
      lo' = (if tr σ = 0 then v else min (lo σ) v) → hi' = (if tr σ = 0 then v else max (hi σ) v) → frm [38, 39] I I11 ∧ XS I11 z (tradeF ρ σ b s v t) ∧ ∀ j, 10 ≤ j → I11 38 j = I 38 j := by
    intro lo' hi' I5 I6 I7 I8 I9 I10 I11 q5 q6 q7 q8 q9 q10 q11 ql qh
    have i8 : ∀ x, x ≠ 38 → x ≠ 39 → ∀ j, I8 x j = I x j := fun x y1 y2 j => by rw [q8, up2_ne y1, q7, up2_ne y1, q6, up2_ne y1, q5, up2_ne y2, up2_ne y2]
    have i7 : I7 38 7 = tr σ := by rw [q7, up2_nj (by decide), q6, up2_nj (by decide), q5, up2_ne (by decide), up2_ne (by decide), x7]
    have i88 : I8 38 8 = ga σ := by rw [q8, up2_nj (by decide), q7, up2_nj (by decide), q6, up2_nj (by decide), q5, up2_ne (by decide), up2_ne (by decide), x8]
    refine ⟨fun x hxx j => ?_, ⟨?_, ?_, ?_, ?_, ?_, ?_, ?_, fun p hp => ?_⟩, fun j hj => ?_⟩
    · have y1 : x ≠ 38 := fun q => hxx (by rw [q]; decide)
      have y2 : x ≠ 39 := fun q => hxx (by rw [q]; decide)
      rw [q11, up2_ne y1, q10, up2_ne y1, q9, up2_ne y1, i8 x y1 y2]
    · rw [q11, up2_nj (by decide), q10, up2_nj (by decide), q9, up2_nj (by decide), q8, up2_nj (by decide), q7, up2_nj (by decide), q6, up2_nj (by decide), q5, up2_ne (by decide), up2_ne (by decide), x3]
    · rw [q11, up2_self]; rfl
    · rw [q11, up2_nj (by decide), q10, up2_nj (by decide), q9, up2_nj (by decide), q8, up2_nj (by decide), q7, up2_nj (by decide), q6, up2_self]; exact ql
    · rw [q11, up2_nj (by decide), q10, up2_nj (by decide), q9, up2_nj (by decide), q8, up2_nj (by decide), q7, up2_self]; exact qh
    · rw [q11, up2_nj (by decide), q10, up2_nj (by decide), q9, up2_nj (by decide), q8, up2_self, i7]; rfl
    · rw [q11, up2_nj (by decide), q10, up2_nj (by decide), q9, up2_self, i88, i8 _ n38 n39, i8 _ n38 n39, e1b, e1s]; rfl
    · rw [q11, up2_nj (by decide), q10, up2_self]; rfl
    · rw [q11, up2_ne (by decide), q10, up2_ne (by decide), q9, up2_ne (by decide), q8, up2_ne (by decide), q7, up2_ne (by decide), q6, up2_ne (by decide), q5]
      exact pd_up xp p hp
    · rw [q11, up2_nj (by omega), q10, up2_nj (by omega), q9, up2_nj (by omega), q8, up2_nj (by omega), q7, up2_nj (by omega), q6, up2_nj (by omega), q5, up2_ne (by decide), up2_ne (by decide)]
  refine sX7_trade (gX7_trade_0 hR ⟨⟨by omega, by omega⟩, fun I2 q2 => ⟨⟨by omega, by omega⟩, fun I4 q4 => ?_⟩⟩)
  rw [Int.toNat_natCast] at q2 q4
  rw [Int.toNat_natCast, Int.toNat_natCast]
  have q5 : I4 = up2 (up2 I 39 b v) 39 s v := by rw [q4, q2]
  have f4 : ∀ j, I4 38 j = I 38 j := fun j => by rw [q5, up2_ne (by decide), up2_ne (by decide)]
  rw [f4 7, f4 5, x7, x5]
  refine ⟨⟨by omega, by omega⟩, fun hne => ⟨⟨by omega, by omega⟩, ⟨by omega, by omega⟩, fun I8 q8 => ?_⟩, fun he => fun I25 q25 => ?_⟩
  · have f8 : I8 38 7 = tr σ := by rw [q8, up2_nj (by decide), f4, x7]
    have f86 : I8 38 6 = hi σ := by rw [q8, up2_nj (by decide), f4, x6]
    rw [f8, f86]
    refine ⟨⟨by omega, by omega⟩, fun _ => ⟨⟨by omega, by omega⟩, fun I11 q11 I12 q12 => ⟨o0, o2, fun I15 q15 I16 q16 I17 q17 => ⟨rfl, fin _ _ I4 I8 I11 I12 I15 I16 I17 q5 q8 q11 q12 q15 q16 q17 (by rw [if_neg hne]) (by rw [if_neg hne])⟩⟩⟩, fun q => absurd q hne⟩
  · have f8 : I25 38 7 = tr σ := by rw [q25, up2_nj (by decide), f4, x7]
    rw [f8]
    refine ⟨⟨by omega, by omega⟩, fun q => absurd he q, fun _ I36 q36 I37 q37 => ⟨o0, o2, fun I40 q40 I41 q41 I42 q42 => ⟨rfl, fin _ _ I4 I25 I36 I37 I40 I41 I42 q5 q25 q36 q37 q40 q41 q42 (by rw [if_pos he]) (by rw [if_pos he])⟩⟩⟩
/-- slots of the reference that a trade leaves -/
def mSlot (j : Nat) : Prop := j < 22 ∨ j = 23 ∨ 28 < j
theorem aX11_trade {I : II} {R : RR} {b s : Nat} {ρ : RM} {z v t k : Int} {σ : RS} (hR : SR R) (h : MRo I ρ) (hok : okRM ρ) (hb : b < rN ρ) (hs : s < rN ρ) (hx : MS I z σ) (hσ : okS k σ) (hk : k ≤ 300) (hv : 0 ≤ v ∧ v ≤ 99) :
    Spec mX11_trade [vR 68, vI b, vI s, vI v, vI t] I R 89 89 (fun _ I' R' => R = R' ∧ frm [68, 85] I I' ∧ MS I' z (tradeF ρ σ b s v t) ∧ ∀ j, mSlot j → I' 68 j = I 68 j) := by
  have e1b := (h.2.1 b hb).2.1
  have e1s := (h.2.1 s hs).2.1
  have hn := hok.1
  obtain ⟨x1, x2, x4, x5, x6, x7, x8, xp⟩ := hx
  obtain ⟨h1, h2, h3, h4, h5, h6, h7⟩ := hσ
  have fin : ∀ (lo' hi' : Int) (I4 I7 I9 I11 I12 I13 I14 : II), I4 = up2 (up2 I 85 b v) 85 s v → I7 = up2 I4 68 25 (I4 68 25 + (I4 72 b - I4 72 s)) → I9 = up2 I7 68 27 lo' → I11 = up2 I9 68 28 hi' → I12 = up2 I11 68 24 (I11 68 24 + 1) → I13 = up2 I12 68 26 (t + 1) → I14 = up2 I13 68 22 v →
      lo' = (if tr σ = 0 then v else min (lo σ) v) → hi' = (if tr σ = 0 then v else max (hi σ) v) → frm [68, 85] I I14 ∧ MS I14 z (tradeF ρ σ b s v t) ∧ ∀ j, mSlot j → I14 68 j = I 68 j := by
    intro lo' hi' I4 I7 I9 I11 I12 I13 I14 q4 q7 q9 q11 q12 q13 q14 ql qh
    have i4 : ∀ x, x ≠ 85 → ∀ j, I4 x j = I x j := fun x y j => by rw [q4, up2_ne y, up2_ne y]
    have i11 : I11 68 24 = tr σ := by rw [q11, up2_nj (by decide), q9, up2_nj (by decide), q7, up2_nj (by decide), i4 _ (by decide), x4]
    refine ⟨fun x hxx j => ?_, ⟨?_, ?_, ?_, ?_, ?_, ?_, ?_, fun p hp => ?_⟩, fun j hj => ?_⟩
    · have y1 : x ≠ 68 := fun q => hxx (by rw [q]; decide)
      have y2 : x ≠ 85 := fun q => hxx (by rw [q]; decide)
      rw [q14, up2_ne y1, q13, up2_ne y1, q12, up2_ne y1, q11, up2_ne y1, q9, up2_ne y1, q7, up2_ne y1, i4 x y2]
    · rw [q14, up2_nj (by decide), q13, up2_nj (by decide), q12, up2_nj (by decide), q11, up2_nj (by decide), q9, up2_nj (by decide), q7, up2_nj (by decide), i4 _ (by decide), x1]
    · rw [q14, up2_self]; rfl
    · rw [q14, up2_nj (by decide), q13, up2_nj (by decide), q12, up2_self, i11]; rfl
    · rw [q14, up2_nj (by decide), q13, up2_nj (by decide), q12, up2_nj (by decide), q11, up2_nj (by decide), q9, up2_nj (by decide), q7, up2_self, i4 _ (by decide), i4 _ (by decide), i4 _ (by decide), x5, e1b, e1s]; rfl
    · rw [q14, up2_nj (by decide), q13, up2_self]; rfl
    · rw [q14, up2_nj (by decide), q13, up2_nj (by decide), q12, up2_nj (by decide), q11, up2_nj (by decide), q9, up2_self]; exact ql
    · rw [q14, up2_nj (by decide), q13, up2_nj (by decide), q12, up2_nj (by decide), q11, up2_self]; exact qh
    · rw [q14, up2_ne (by decide), q13, up2_ne (by decide), q12, up2_ne (by decide), q11, up2_ne (by decide), q9, up2_ne (by decide), q7, up2_ne (by decide), q4]
      exact pd_up xp p hp
    · unfold mSlot at hj
      rw [q14, up2_nj (by omega), q13, up2_nj (by omega), q12, up2_nj (by omega), q11, up2_nj (by omega), q9, up2_nj (by omega), q7, up2_nj (by omega), i4 _ (by decide)]
  refine sX11_trade (gX11_trade_0 hR ⟨⟨by omega, by omega⟩, fun I2 q2 => ⟨⟨by omega, by omega⟩, fun I4 q4 => ⟨⟨by omega, by omega⟩, ⟨by omega, by omega⟩, fun I7 q7 => ?_⟩⟩⟩)
  rw [Int.toNat_natCast] at q2 q4
  rw [Int.toNat_natCast, Int.toNat_natCast] at q7
  have q5 : I4 = up2 (up2 I 85 b v) 85 s v := by rw [q4, q2]
  have f7 : ∀ j, j ≠ 25 → I7 68 j = I 68 j := fun j hj => by rw [q7, up2_nj hj, q5, up2_ne (by decide), up2_ne (by decide)]
  rw [f7 24 (by decide), f7 27 (by decide), x4, x7]
  refine ⟨⟨by omega, by omega⟩, fun he => fun I9 q9 => ?_, fun hne => ⟨⟨by omega, by omega⟩, ⟨by omega, by omega⟩, fun hle => fun I27 q27 => ?_, fun hle => fun I42 q42 => ?_⟩⟩
  · have f9 : I9 68 24 = tr σ := by rw [q9, up2_nj (by decide), f7 _ (by decide), x4]
    rw [f9]
    exact ⟨⟨by omega, by omega⟩, fun _ I11 q11 I12 q12 I13 q13 I14 q14 => ⟨rfl, fin _ _ I4 I7 I9 I11 I12 I13 I14 q5 q7 q9 q11 q12 q13 q14 (by rw [if_pos he]) (by rw [if_pos he])⟩, fun q => absurd he q⟩
  · have f9 : I27 68 24 = tr σ := by rw [q27, up2_nj (by decide), f7 _ (by decide), x4]
    have f98 : I27 68 28 = hi σ := by rw [q27, up2_nj (by decide), f7 _ (by decide), x8]
    rw [f9, f98]
    exact ⟨⟨by omega, by omega⟩, fun q => absurd q hne, fun _ => ⟨⟨by omega, by omega⟩, fun h1 I11 q11 I12 q12 I13 q13 I14 q14 => ⟨rfl, fin _ _ I4 I7 I27 I11 I12 I13 I14 q5 q7 q27 q11 q12 q13 q14 (by rw [if_neg hne]; omega) (by rw [if_neg hne]; omega)⟩, fun h1 I11 q11 I12 q12 I13 q13 I14 q14 => ⟨rfl, fin _ _ I4 I7 I27 I11 I12 I13 I14 q5 q7 q27 q11 q12 q13 q14 (by rw [if_neg hne]; omega) (by rw [if_neg hne]; omega)⟩⟩⟩
  · have f9 : I42 68 24 = tr σ := by rw [q42, up2_nj (by decide), f7 _ (by decide), x4]
    have f98 : I42 68 28 = hi σ := by rw [q42, up2_nj (by decide), f7 _ (by decide), x8]
    rw [f9, f98]
    exact ⟨⟨by omega, by omega⟩, fun q => absurd q hne, fun _ => ⟨⟨by omega, by omega⟩, fun h1 I11 q11 I12 q12 I13 q13 I14 q14 => ⟨rfl, fin _ _ I4 I7 I42 I11 I12 I13 I14 q5 q7 q42 q11 q12 q13 q14 (by rw [if_neg hne]; omega) (by rw [if_neg hne]; omega)⟩, fun h1 I11 q11 I12 q12 I13 q13 I14 q14 => ⟨rfl, fin _ _ I4 I7 I42 I11 I12 I13 I14 q5 q7 q42 q11 q12 q13 q14 (by rw [if_neg hne]; omega) (by rw [if_neg hne]; omega)⟩⟩⟩
