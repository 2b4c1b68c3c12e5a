/-! count, of both -/
def countP (ρ : RM) (bs : List Int) (l : List LE) (k : Int) (w : Int) : Int :=
  if w = 0 then (rN ρ : Int) else if w = 1 then (bNo ρ : Int) else if w = 2 then (sNo ρ : Int) else if w = 3 then (bs.length : Int) else if w = 4 then (l.length : Int) else if w = 5 then k else if w = 6 then rP ρ 0 else -1
theorem aX10_count {I : II} {R : RR} {ρ : RM} {bs : List Int} {l : List LE} {k w : Int} (hR : SR R) (hr : R 1 2 = 6 ∨ R 1 2 = 12) (h : XR I R (R 1 2) ρ) (ht : XT I bs) (hl : XLg I R 18 l) (hk : I 1 6 = k) (h1 : InI w) :
    Spec mX10_count [vR 1, vI w] I R 89 89 (fun rv I' R' => R = R' ∧ I = I' ∧ rv = vI (countP ρ bs l k w)) := by
  have o := (roomO hR hr).1
  refine sX10_count (gX10_count_0 hR ?_)
  rw [h.1, h.2.1, h.2.2.1, ht.1, hl.1, hk, h.2.2.2.1]
  unfold countP bNo sNo
  refine ⟨h1, fun q => ⟨rfl, rfl, ?_⟩, fun q => ⟨o, rfl, rfl, ?_⟩, fun q => ⟨o, rfl, rfl, ?_⟩, fun q => ⟨o, rfl, rfl, ?_⟩, fun q => ⟨rfl, rfl, ?_⟩, fun q => ⟨rfl, rfl, ?_⟩, fun q => ⟨rfl, rfl, ?_⟩, fun q => ⟨o, rfl, rfl, ?_⟩⟩
  · rw [if_neg (by omega), if_neg (by omega), if_neg (by omega), if_neg (by omega), if_neg (by omega), if_neg (by omega), if_neg (by omega)]
  all_goals (subst q; rfl)
theorem aX11_count {I : II} {R : RR} {ρ : RM} {bs : List Int} {l : List LE} {k w : Int} (hR : SR R) (h : MRo I ρ) (hok : okRM ρ) (ht : MT I bs) (hl : MLg I 0 l) (hk : I 68 13 = k) (h1 : InI w) :
    Spec mX11_count [vR 68, vI w] I R 89 89 (fun rv I' R' => R = R' ∧ I = I' ∧ rv = vI (countP ρ bs l k w)) := by
  have m0 : Spec mX11_manyOf [vR 68, vI 0] I R 89 89 (fun rv I' R' => R = R' ∧ I = I' ∧ rv = vI (bNo ρ : Int)) := aX11_manyOf hR h hok (Or.inl rfl)
  have m1 : Spec mX11_manyOf [vR 68, vI 1] I R 89 89 (fun rv I' R' => R = R' ∧ I = I' ∧ rv = vI (sNo ρ : Int)) := aX11_manyOf hR h hok (Or.inr rfl)
  have e8 : I 74 0 = rP ρ 0 := h.2.2 0 (by decide)
  refine sX11_count (gX11_count_0 hR ?_)
  rw [h.1, ht.1, hl.1, hk, e8]
  refine ⟨h1, fun q => ⟨rfl, rfl, ?_⟩, fun q => ⟨rfl, rfl, ?_⟩, fun q => ⟨_, m0, fun x2 I2 R2 hq => ?_⟩, fun q => ⟨_, m1, fun x2 I2 R2 hq => ?_⟩, fun q => ⟨rfl, rfl, ?_⟩, fun q => ⟨rfl, rfl, ?_⟩, fun q => ⟨rfl, rfl, ?_⟩, fun q => ⟨rfl, rfl, ?_⟩⟩
  · unfold countP; rw [if_neg (by omega), if_neg (by omega), if_neg (by omega), if_neg (by omega), if_neg (by omega), if_neg (by omega), if_neg (by omega)]
  · subst q; rfl
  · obtain ⟨rfl, rfl, e⟩ := hq
    subst q
    exact ⟨rfl, rfl, rfl, e⟩
  · obtain ⟨rfl, rfl, e⟩ := hq
    subst q
    exact ⟨rfl, rfl, rfl, e⟩
  all_goals (subst q; rfl)
