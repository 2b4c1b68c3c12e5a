/-! person, of both -/
def personP (ρ : RM) (p w : Int) : Int := if (0 ≤ p ∧ p < rN ρ) ∧ 0 ≤ w ∧ w ≤ 2 then (if w = 0 then rS ρ p.toNat else if w = 1 then rC ρ p.toNat else rL ρ p.toNat) else -1
theorem aX10_person {I : II} {R : RR} {ρ : RM} {p w : Int} (hR : SR R) (hr : R 1 2 = 6 ∨ R 1 2 = 12) (h : XR I R (R 1 2) ρ) (hok : okRM ρ) (h1 : InI p) (h2 : InI w) :
    Spec mX10_person [vR 1, vI p, vI w] I R 89 89 (fun rv I' R' => R = R' ∧ I = I' ∧ rv = vI (personP ρ p w)) := by
  obtain ⟨o0, o1, o2, o3, o4, o5⟩ := roomO hR hr
  have hn := hok.1
  have no : ¬ ((0 ≤ p ∧ p < rN ρ) ∧ 0 ≤ w ∧ w ≤ 2) → wp (kN 89) mX10_person (fun rv I' R' => R = R' ∧ I = I' ∧ rv = vI (personP ρ p w)) 20 [none, none, none] [] I R 89 := fun hc => gX10_person_20 hR ⟨rfl, rfl, by unfold personP; rw [if_neg hc]⟩
  refine sX10_person (gX10_person_0 hR ?_)
  rw [h.1]
  refine ⟨o0, h1, ⟨by omega, by omega⟩, fun hc => ⟨h2, fun hd => ?_, fun q => no (fun x => q x.2)⟩, fun q => no (fun x => q x.1)⟩
  obtain ⟨e0, e1, e2, _⟩ := XRf h (p := p.toNat) (by omega)
  have h01 := (hok.2.1 p.toNat).1
  rw [e0, e1, e2]
  have e : personP ρ p w = if w = 0 then rS ρ p.toNat else if w = 1 then rC ρ p.toNat else rL ρ p.toNat := by unfold personP; rw [if_pos ⟨hc, hd⟩]
  rw [e]
  refine ⟨fun a0 => ⟨fun a1 => ⟨o3, ⟨by omega, by omega⟩, rfl, rfl, by rw [if_neg a0, if_neg a1]⟩, fun a1 => ⟨o2, ⟨by omega, by omega⟩, rfl, rfl, by rw [if_neg a0, if_pos a1]⟩⟩, fun a0 => ⟨o1, ⟨by omega, by omega⟩, ⟨by omega, by omega⟩, fun z => ⟨rfl, rfl, by rw [if_pos a0, z]⟩, fun z => ⟨rfl, rfl, by rw [if_pos a0]; exact congrArg vI (by omega)⟩⟩⟩
theorem aX11_person {I : II} {R : RR} {ρ : RM} {p w : Int} (hR : SR R) (h : MRo I ρ) (hok : okRM ρ) (h1 : InI p) (h2 : InI w) :
    Spec mX11_person [vR 68, vI p, vI w] I R 89 89 (fun rv I' R' => R = R' ∧ I = I' ∧ rv = vI (personP ρ p w)) := by
  have hn := hok.1
  have no : ¬ ((0 ≤ p ∧ p < rN ρ) ∧ 0 ≤ w ∧ w ≤ 2) → wp (kN 89) mX11_person (fun rv I' R' => R = R' ∧ I = I' ∧ rv = vI (personP ρ p w)) 20 [none, none, none] [] I R 89 := fun hc => gX11_person_20 hR ⟨rfl, rfl, by unfold personP; rw [if_neg hc]⟩
  refine sX11_person (gX11_person_0 hR ?_)
  rw [h.1]
  refine ⟨h1, ⟨by omega, by omega⟩, fun hc => ⟨h2, fun hd => ?_, fun q => no (fun x => q x.2)⟩, fun q => no (fun x => q (by omega))⟩
  obtain ⟨e0, e1, e2⟩ := h.2.1 p.toNat (by omega)
  rw [e0, e1, e2]
  have e : personP ρ p w = if w = 0 then rS ρ p.toNat else if w = 1 then rC ρ p.toNat else rL ρ p.toNat := by unfold personP; rw [if_pos ⟨by omega, hd⟩]
  rw [e]
  refine ⟨fun a0 => ⟨fun a1 => ⟨⟨by omega, by omega⟩, rfl, rfl, by rw [if_neg a0, if_neg a1]⟩, fun a1 => ⟨⟨by omega, by omega⟩, rfl, rfl, by rw [if_neg a0, if_pos a1]⟩⟩, fun a0 => ⟨⟨by omega, by omega⟩, rfl, rfl, by rw [if_pos a0]⟩⟩
