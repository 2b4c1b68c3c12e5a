/-- what the lists say of what is shown -/
def mV (I : II) (v : Nat → Int) (bl sl : List Nat) : Prop := (∀ p ∈ bl, p < 20 ∧ I 82 p = v p) ∧ ∀ p ∈ sl, p < 20 ∧ I 82 p = v p
theorem ml_b {I : II} {v : Nat → Int} {bl sl : List Nat} {k q : Nat} (h : mlIs I bl sl) (hv : mV I v bl sl) (hq : bl[k]? = some q) : I 83 k = (q : Int) ∧ q < 20 ∧ I 82 (I 83 k).toNat = v q := by
  have h1 := h.2.2.1 k q hq
  have h2 := hv.1 q (List.mem_of_getElem? hq)
  rw [h1, Int.toNat_natCast]
  exact ⟨rfl, h2⟩
theorem ml_s {I : II} {v : Nat → Int} {bl sl : List Nat} {k q : Nat} (h : mlIs I bl sl) (hv : mV I v bl sl) (hq : sl[k]? = some q) : I 84 k = (q : Int) ∧ q < 20 ∧ I 82 (I 84 k).toNat = v q := by
  have h1 := h.2.2.2 k q hq
  have h2 := hv.2 q (List.mem_of_getElem? hq)
  rw [h1, Int.toNat_natCast]
  exact ⟨rfl, h2⟩
theorem aX11_quantity {I : II} {R : RR} {bl sl : List Nat} {v : Nat → Int} {t : Int} (hR : SR R) (h : mlIs I bl sl) (hm : mV I v bl sl) (hlb : bl.length ≤ 10) (hls : sl.length ≤ 10) (hv : ∀ q, -1000 ≤ v q ∧ v q ≤ 1000) (ht : -1000 ≤ t ∧ t ≤ 1000) :
    Spec mX11_quantity [vR 68, vI t] I R 89 89 (fun rv I' R' => R = R' ∧ I = I' ∧ rv = vI (qty v t bl sl : Int)) := by
  refine sX11_quantity (gX11_quantity_0 hR ?_)
  have x19 := h.1
  have x20 := h.2.1
  have fin : ∀ k : Nat, isQ v t bl sl k → wp (kN 89) mX11_quantity (fun rv I' R' => R = R' ∧ I = I' ∧ rv = vI (qty v t bl sl : Int)) 39 [none, none, vI (k : Int)] [] I R 89 := fun k hk => gX11_quantity_39 hR ⟨rfl, rfl, by rw [qty_of k bl sl hk]⟩
  have loop : ∀ (d k : Nat), k + d = min bl.length sl.length → (∀ (j b s : Nat), j < k → bl[j]? = some b → sl[j]? = some s → v s + t ≤ v b) → wp (kN 89) mX11_quantity (fun rv I' R' => R = R' ∧ I = I' ∧ rv = vI (qty v t bl sl : Int)) 2 [vR 68, vI t, vI (k : Int)] [] I R 89 := by
    intro d
    induction d with
    | zero =>
      intro k hk hj
      have done : isQ v t bl sl k := ⟨by omega, by omega, hj, fun b s hb hs => by
        have h1 := (List.getElem?_eq_some_iff.mp hb).1
        have h2 := (List.getElem?_eq_some_iff.mp hs).1
        omega⟩
      exact gX11_quantity_2 hR ⟨⟨by omega, by omega⟩, ⟨by omega, by omega⟩, fun _ => fin k done, fun q => ⟨⟨by omega, by omega⟩, fun _ => fin k done, fun q2 => absurd q2 (by omega)⟩⟩
    | succ d ih =>
      intro k hk hj
      obtain ⟨b, hb⟩ : ∃ q', bl[k]? = some q' := ⟨bl[k], List.getElem?_eq_getElem (by omega)⟩
      obtain ⟨s, hs⟩ : ∃ q', sl[k]? = some q' := ⟨sl[k], List.getElem?_eq_getElem (by omega)⟩
      obtain ⟨b1, b2, b3⟩ := ml_b h hm hb
      obtain ⟨s1, s2, s3⟩ := ml_s h hm hs
      have hvb := hv b
      have hvs := hv s
      refine gX11_quantity_2 hR ⟨⟨by omega, by omega⟩, ⟨by omega, by omega⟩, fun q => absurd q (by omega), fun _ => ⟨⟨by omega, by omega⟩, fun q => absurd q (by omega), fun _ => ?_⟩⟩
      rw [Int.toNat_natCast, b3, s3]
      refine ⟨⟨by omega, by omega⟩, ⟨by omega, by omega⟩, ⟨by omega, by omega⟩, ⟨by omega, by omega⟩, ⟨by omega, by omega⟩, fun hc => fin k ⟨by omega, by omega, hj, fun b' s' hb' hs' => ?_⟩, fun hc => ?_⟩
      · rw [hb] at hb'; rw [hs] at hs'; cases hb'; cases hs'; exact hc
      · rw [show (k : Int) + 1 = ((k + 1 : Nat) : Int) by omega]
        refine ih (k + 1) (by omega) (fun j b' s' hjk hb' hs' => ?_)
        by_cases e : j = k
        · subst e
          rw [hb] at hb'; rw [hs] at hs'; cases hb'; cases hs'; omega
        · exact hj j b' s' (by omega) hb' hs'
  exact loop (min bl.length sl.length) 0 (by omega) (fun j b s hj => by omega)
theorem aX11_gainOf {I : II} {R : RR} {bl sl : List Nat} {v : Nat → Int} {k : Nat} (hR : SR R) (h : mlIs I bl sl) (hm : mV I v bl sl) (hlb : bl.length ≤ 10) (hkb : k ≤ bl.length) (hks : k ≤ sl.length) :
    Spec mX11_gainOf [vR 68, vI k] I R 89 89 (fun rv I' R' => R = R' ∧ I = I' ∧ rv = vI (psum v bl k - psum v sl k)) := by
  refine sX11_gainOf (gX11_gainOf_0 hR ?_)
  have loop : ∀ (d j : Nat) (a : Int), j + d = k → a = psum v bl j - psum v sl j → wp (kN 89) mX11_gainOf (fun rv I' R' => R = R' ∧ I = I' ∧ rv = vI (psum v bl k - psum v sl k)) 4 [vR 68, vI (k : Int), vI a, vI (j : Int)] [] I R 89 := by
    intro d
    induction d with
    | zero =>
      intro j a hj ha
      exact gX11_gainOf_4 hR ⟨⟨by omega, by omega⟩, ⟨by omega, by omega⟩, fun _ => ⟨rfl, rfl, by rw [ha, show j = k by omega]⟩, fun q => absurd (by omega) q⟩
    | succ d ih =>
      intro j a hj ha
      obtain ⟨b, hb⟩ : ∃ q', bl[j]? = some q' := ⟨bl[j], List.getElem?_eq_getElem (by omega)⟩
      obtain ⟨s, hs⟩ : ∃ q', sl[j]? = some q' := ⟨sl[j], List.getElem?_eq_getElem (by omega)⟩
      obtain ⟨b1, b2, b3⟩ := ml_b h hm hb
      obtain ⟨s1, s2, s3⟩ := ml_s h hm hs
      refine gX11_gainOf_4 hR ⟨⟨by omega, by omega⟩, ⟨by omega, by omega⟩, fun q => absurd q (by omega), fun _ => ?_⟩
      rw [Int.toNat_natCast, b3, s3, show (j : Int) + 1 = ((j + 1 : Nat) : Int) by omega]
      refine ⟨⟨by omega, by omega⟩, ⟨by omega, by omega⟩, ⟨by omega, by omega⟩, ih (j + 1) _ (by omega) ?_⟩
      rw [psum_succ hb, psum_succ hs, ha]
      omega
  exact loop k 0 0 (by omega) (by rw [psum_0, psum_0]; rfl)
theorem aX11_lowest {I : II} {R : RR} {bl sl : List Nat} {v : Nat → Int} {t : Int} {k : Nat} (hR : SR R) (h : mlIs I bl sl) (hm : mV I v bl sl) (hlb : bl.length ≤ 10) (hls : sl.length ≤ 10) (hk0 : 0 < k) (hks : k ≤ sl.length) (hv : ∀ q, -1000 ≤ v q ∧ v q ≤ 1000) (ht : -1000 ≤ t ∧ t ≤ 1000) :
    Spec mX11_lowest [vR 68, vI k, vI t] I R 89 89 (fun rv I' R' => R = R' ∧ I = I' ∧ rv = vI (lowP v t bl sl k)) := by
  obtain ⟨s, hs⟩ : ∃ q', sl[k - 1]? = some q' := ⟨sl[k - 1], List.getElem?_eq_getElem (by omega)⟩
  obtain ⟨s1, s2, s3⟩ := ml_s h hm hs
  have hvs := hv s
  have x19 := h.1
  refine sX11_lowest (gX11_lowest_0 hR ?_)
  rw [show (((k : Int) - 1)).toNat = k - 1 by omega, s3]
  refine ⟨⟨by omega, by omega⟩, ⟨by omega, by omega⟩, ⟨by omega, by omega⟩, ⟨by omega, by omega⟩, fun hc => gX11_lowest_35 hR ⟨rfl, rfl, ?_⟩, fun hc => ?_⟩
  · unfold lowP; rw [if_neg (by omega), if_neg (by omega), gv_at hs]
  · obtain ⟨b, hb⟩ : ∃ q', bl[k]? = some q' := ⟨bl[k], List.getElem?_eq_getElem (by omega)⟩
    obtain ⟨b1, b2, b3⟩ := ml_b h hm hb
    have hvb := hv b
    rw [Int.toNat_natCast, b3]
    refine ⟨⟨by omega, by omega⟩, ⟨by omega, by omega⟩, ⟨by omega, by omega⟩, ⟨by omega, by omega⟩, fun hd => gX11_lowest_35 hR ⟨rfl, rfl, ?_⟩, fun hd => ⟨rfl, rfl, ?_⟩⟩
    · unfold lowP; rw [if_neg (by omega), if_pos (by omega), gv_at hs, gv_at hb, Int.max_eq_left hd]
    · unfold lowP; rw [if_neg (by omega), if_pos (by omega), gv_at hs, gv_at hb, Int.max_eq_right (by omega)]
theorem aX11_highest {I : II} {R : RR} {bl sl : List Nat} {v : Nat → Int} {t : Int} {k : Nat} (hR : SR R) (h : mlIs I bl sl) (hm : mV I v bl sl) (hlb : bl.length ≤ 10) (hls : sl.length ≤ 10) (hk0 : 0 < k) (hkb : k ≤ bl.length) (hv : ∀ q, -1000 ≤ v q ∧ v q ≤ 1000) (ht : -1000 ≤ t ∧ t ≤ 1000) :
    Spec mX11_highest [vR 68, vI k, vI t] I R 89 89 (fun rv I' R' => R = R' ∧ I = I' ∧ rv = vI (highP v t bl sl k)) := by
  obtain ⟨b, hb⟩ : ∃ q', bl[k - 1]? = some q' := ⟨bl[k - 1], List.getElem?_eq_getElem (by omega)⟩
  obtain ⟨b1, b2, b3⟩ := ml_b h hm hb
  have hvb := hv b
  have x20 := h.2.1
  refine sX11_highest (gX11_highest_0 hR ?_)
  rw [show (((k : Int) - 1)).toNat = k - 1 by omega, b3]
  refine ⟨⟨by omega, by omega⟩, ⟨by omega, by omega⟩, ⟨by omega, by omega⟩, ⟨by omega, by omega⟩, fun hc => gX11_highest_37 hR ⟨rfl, rfl, ?_⟩, fun hc => ?_⟩
  · unfold highP; rw [if_neg (by omega), if_neg (by omega), gv_at hb]
  · obtain ⟨s, hs⟩ : ∃ q', sl[k]? = some q' := ⟨sl[k], List.getElem?_eq_getElem (by omega)⟩
    obtain ⟨s1, s2, s3⟩ := ml_s h hm hs
    have hvs := hv s
    rw [Int.toNat_natCast, s3]
    refine ⟨⟨by omega, by omega⟩, ⟨by omega, by omega⟩, ⟨by omega, by omega⟩, ⟨by omega, by omega⟩, fun hd => gX11_highest_37 hR ⟨rfl, rfl, ?_⟩, fun hd => ⟨rfl, rfl, ?_⟩⟩
    · unfold highP; rw [if_neg (by omega), if_pos (by omega), gv_at hs, gv_at hb, Int.min_eq_left hd]
    · unfold highP; rw [if_neg (by omega), if_pos (by omega), gv_at hs, gv_at hb, Int.min_eq_right (by omega)]
theorem aX11_isFirst {I : II} {R : RR} {bl sl : List Nat} {p k : Nat} (hR : SR R) (h : mlIs I bl sl) (hpb : ∀ q ∈ bl, q < 20) (hps : ∀ q ∈ sl, q < 20) (hp : p < 20) (hlb : bl.length ≤ 10) (hkb : k ≤ bl.length) (hks : k ≤ sl.length) :
    Spec mX11_isFirst [vR 68, vI p, vI k] I R 89 89 (fun rv I' R' => R = R' ∧ I = I' ∧ rv = vI (if p ∈ bl.take k ∨ p ∈ sl.take k then 1 else 0)) := by
  refine sX11_isFirst (gX11_isFirst_0 hR ?_)
  have sub : ∀ {l : List Nat} {j : Nat}, j ≤ k → p ∈ l.take j → p ∈ l.take k := fun hj hm => (List.take_subset_take_left _ hj) hm
  have yes : ∀ (d j : Nat), j + d = k → (p ∈ bl.take k ∨ p ∈ sl.take k) → wp (kN 89) mX11_isFirst (fun rv I' R' => R = R' ∧ I = I' ∧ rv = vI (if p ∈ bl.take k ∨ p ∈ sl.take k then 1 else 0)) 5 [vR 68, vI (p : Int), vI (k : Int), vI 1, vI (j : Int)] [] I R 89 := by
    intro d
    induction d with
    | zero =>
      intro j hj hy
      exact gX11_isFirst_5 hR ⟨⟨by omega, by omega⟩, ⟨by omega, by omega⟩, fun _ => ⟨Or.inr rfl, rfl, rfl, by rw [if_pos hy]⟩, fun q => absurd (by omega) q⟩
    | succ d ih =>
      intro j hj hy
      refine gX11_isFirst_5 hR ⟨⟨by omega, by omega⟩, ⟨by omega, by omega⟩, fun q => absurd q (by omega), fun _ => ⟨⟨by decide, by decide⟩, fun _ => gX11_isFirst_37 hR ?_, fun q => absurd q (by decide)⟩⟩
      rw [show (j : Int) + 1 = ((j + 1 : Nat) : Int) by omega]
      exact ih (j + 1) (by omega) hy
  have loop : ∀ (d j : Nat), j + d = k → ¬ (p ∈ bl.take j ∨ p ∈ sl.take j) → wp (kN 89) mX11_isFirst (fun rv I' R' => R = R' ∧ I = I' ∧ rv = vI (if p ∈ bl.take k ∨ p ∈ sl.take k then 1 else 0)) 5 [vR 68, vI (p : Int), vI (k : Int), vI 0, vI (j : Int)] [] I R 89 := by
    intro d
    induction d with
    | zero =>
      intro j hj hn
      exact gX11_isFirst_5 hR ⟨⟨by omega, by omega⟩, ⟨by omega, by omega⟩, fun _ => ⟨Or.inl rfl, rfl, rfl, by rw [← show j = k by omega, if_neg hn]⟩, fun q => absurd (by omega) q⟩
    | succ d ih =>
      intro j hj hn
      obtain ⟨b, hb⟩ : ∃ q', bl[j]? = some q' := ⟨bl[j], List.getElem?_eq_getElem (by omega)⟩
      obtain ⟨s, hs⟩ : ∃ q', sl[j]? = some q' := ⟨sl[j], List.getElem?_eq_getElem (by omega)⟩
      have e1 := h.2.2.1 j b hb
      have e2 := h.2.2.2 j s hs
      have l1 := hpb b (List.mem_of_getElem? hb)
      have l2 := hps s (List.mem_of_getElem? hs)
      have tb : bl.take (j + 1) = bl.take j ++ [b] := by rw [List.take_add_one, hb]; rfl
      have ts : sl.take (j + 1) = sl.take j ++ [s] := by rw [List.take_add_one, hs]; rfl
      have ek : (j : Int) + 1 = ((j + 1 : Nat) : Int) := by omega
      refine gX11_isFirst_5 hR ⟨⟨by omega, by omega⟩, ⟨by omega, by omega⟩, fun q => absurd q (by omega), fun _ => ⟨⟨by decide, by decide⟩, fun q => absurd rfl q, fun _ => ⟨⟨by omega, by omega⟩, ?_⟩⟩⟩
      rw [Int.toNat_natCast, e1, e2]
      refine ⟨⟨by omega, by omega⟩, ⟨by omega, by omega⟩, fun he => gX11_isFirst_37 hR ?_, fun hne => ⟨⟨by omega, by omega⟩, fun hne2 => ?_, fun he => gX11_isFirst_37 hR ?_⟩⟩
      · rw [ek]
        exact yes d (j + 1) (by omega) (Or.inl (sub (show j + 1 ≤ k by omega) (by rw [tb]; simp; right; omega)))
      · rw [ek]
        refine ih (j + 1) (by omega) ?_
        rw [tb, ts]
        simp only [List.mem_append, List.mem_singleton, not_or] at hn ⊢
        exact ⟨⟨hn.1, by omega⟩, ⟨hn.2, by omega⟩⟩
      · rw [ek]
        exact yes d (j + 1) (by omega) (Or.inr (sub (show j + 1 ≤ k by omega) (by rw [ts]; simp; right; omega)))
  exact loop k 0 (by omega) (by simp)
