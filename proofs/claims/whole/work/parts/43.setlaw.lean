/-! law, of both -/
def lawSet (ρ : RM) (p : Nat) (w : Int) : RM := (rN ρ, rS ρ, rC ρ, (fun q => if q = p then w else rL ρ q), rP ρ)
abbrev isSet (ρ : RM) (p w : Int) : Prop := (0 ≤ p ∧ p < rN ρ) ∧ 0 ≤ w ∧ w ≤ 5
def lawRM (ρ : RM) (p w : Int) : RM := if isSet ρ p w then lawSet ρ p.toNat w else ρ
def lawP (ρ : RM) (p w : Int) : Int := if isSet ρ p w then rL ρ p.toNat else -1
theorem lawRM_ok {ρ : RM} (hok : okRM ρ) (p w : Int) : okRM (lawRM ρ p w) := by
  unfold lawRM
  split
  · next hc =>
    obtain ⟨h1, h2, h3⟩ := hok
    refine ⟨h1, fun q => ?_, h3⟩
    obtain ⟨a, b, c, d, e⟩ := h2 q
    refine ⟨a, b, c, ?_⟩
    show 0 ≤ (if q = p.toNat then w else rL ρ q) ∧ (if q = p.toNat then w else rL ρ q) ≤ 5
    split <;> omega
  · exact hok
theorem lawRM_E {ρ : RM} {p w : Int} {l : List LE} (h : ∀ e ∈ l, okE ρ e) : ∀ e ∈ l, okE (lawRM ρ p w) e := by
  unfold lawRM
  split
  · exact h
  · exact h
theorem aX10_law {I : II} {R : RR} {ρ : RM} {p w : Int} (hR : SR R) (hr : R 1 2 = 6 ∨ R 1 2 = 12) (h : XR I R (R 1 2) ρ) (hok : okRM ρ) (h1 : InI p) (h2 : InI w) :
    Spec mX10_law [vR 1, vI p, vI w] I R 89 89 (fun rv I' R' => R = R' ∧ frm [9, 15] I I' ∧ XR I' R (R 1 2) (lawRM ρ p w) ∧ rv = vI (lawP ρ p w)) := by
  obtain ⟨o0, o1, o2, o3, o4, o5⟩ := roomO hR hr
  obtain ⟨g0, g1, g2, g3, g4⟩ := roomR hR hr
  have hn := hok.1
  have no : ¬ isSet ρ p w → wp (kN 89) mX10_law (fun rv I' R' => R = R' ∧ frm [9, 15] I I' ∧ XR I' R (R 1 2) (lawRM ρ p w) ∧ rv = vI (lawP ρ p w)) 20 [none, none, none, none] [] I R 89 := fun hc => gX10_law_20 hR ⟨rfl, frm_rfl, by unfold lawRM; rw [if_neg hc]; exact h, by unfold lawP; rw [if_neg hc]⟩
  refine sX10_law (gX10_law_0 hR ?_)
  rw [h.1]
  refine ⟨o0, h1, ⟨by omega, by omega⟩, fun hc => ⟨h2, fun hd => ⟨o3, ⟨by omega, by omega⟩, fun I9 q9 => ?_⟩, fun q => no (fun x => q x.2)⟩, fun q => no (fun x => q x.1)⟩
  have hy : isSet ρ p w := ⟨hc, hd⟩
  have e2 := (XRf h (p := p.toNat) (by omega)).2.2.1
  have f9 : frm [R (R 1 2) 2] I I9 := by rw [q9]; exact frm_up (by simp)
  have n9 : ∀ x, x ≠ R (R 1 2) 2 → ∀ j, I9 x j = I x j := fun x hx j => f9 x (fun q => hx (List.mem_singleton.mp q)) j
  refine ⟨rfl, frm_sub f9 (fun x hx => by rw [List.mem_singleton] at hx; subst hx; rw [g2]; rcases hr with q | q <;> rw [q] <;> decide), ?_, ?_⟩
  · unfold lawRM
    rw [if_pos hy]
    obtain ⟨h5, h6, h7, h8, h9, h10, h11, h12, hp, hb, hs⟩ := h
    have nr := n9 (R 1 2) (by omega)
    refine ⟨(nr 5).trans h5, (nr 6).trans h6, (nr 7).trans h7, (nr 8).trans h8, (nr 9).trans h9, (nr 10).trans h10, (nr 11).trans h11, (nr 12).trans h12, fun q hq => ⟨(n9 _ (by omega) q).trans (hp q hq).1, (n9 _ (by omega) q).trans (hp q hq).2.1, ?_⟩, arrIs_same hb (n9 _ (by omega)), arrIs_same hs (n9 _ (by omega))⟩
    rw [q9, up2_at]
    show _ = if q = p.toNat then w else rL ρ q
    split
    · rfl
    · exact (hp q hq).2.2
  · rw [e2]; unfold lawP; rw [if_pos hy]
theorem aX11_law {I : II} {R : RR} {ρ : RM} {p w : Int} (hR : SR R) (h : MRo I ρ) (hok : okRM ρ) (h1 : InI p) (h2 : InI w) :
    Spec mX11_law [vR 68, vI p, vI w] I R 89 89 (fun rv I' R' => R = R' ∧ frm [73] I I' ∧ MRo I' (lawRM ρ p w) ∧ rv = vI (lawP ρ p w)) := by
  have hn := hok.1
  have no : ¬ isSet ρ p w → wp (kN 89) mX11_law (fun rv I' R' => R = R' ∧ frm [73] I I' ∧ MRo I' (lawRM ρ p w) ∧ rv = vI (lawP ρ p w)) 20 [none, none, none, none] [] I R 89 := fun hc => gX11_law_20 hR ⟨rfl, frm_rfl, by unfold lawRM; rw [if_neg hc]; exact h, by unfold lawP; rw [if_neg hc]⟩
  refine sX11_law (gX11_law_0 hR ?_)
  rw [h.1]
  refine ⟨h1, ⟨by omega, by omega⟩, fun hc => ⟨h2, fun hd => ⟨⟨by omega, by omega⟩, fun I7 q7 => ?_⟩, fun q => no (fun x => q x.2)⟩, fun q => no (fun x => q (by omega))⟩
  have hy : isSet ρ p w := ⟨by omega, hd⟩
  obtain ⟨e0, e1, e2⟩ := h.2.1 p.toNat (by omega)
  refine ⟨rfl, by rw [q7]; exact frm_up (by decide), ?_, ?_⟩
  · unfold lawRM
    rw [if_pos hy]
    refine ⟨by rw [q7, up2_ne (by decide)]; exact h.1, fun q hq => ?_, fun k hk => by rw [q7, up2_ne (by decide)]; exact h.2.2 k hk⟩
    obtain ⟨x0, x1, x2⟩ := h.2.1 q hq
    rw [q7, up2_ne (by decide), up2_ne (by decide), up2_at]
    refine ⟨x0, x1, ?_⟩
    show _ = if q = p.toNat then w else rL ρ q
    split
    · rfl
    · exact x2
  · rw [e2]; unfold lawP; rw [if_pos hy]
