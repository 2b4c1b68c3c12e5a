/-! a VOICE: what a PERSON shouts by a LAW -/
def spanI (s c nr law last : Int) : Int := if law = 5 then 100 else if last ≠ -4 ∧ (law = 1 ∨ law = 3) then 2 * nr + 1 else if s = 0 then c + 1 else 100 - c
def blindI (s c r : Int) : Int := if s = 0 then r else c + r
def nearI (s c nr last r : Int) : Int := if s = 0 then min (min (max (last - nr + r) 0) 99) c else max (min (max (last - nr + r) 0) 99) c
def shareI (w st t : Int) : Int := w * (t + 1) / st
def byI (s c st nr hd law t last r : Int) : Int :=
  if law = 3 ∧ ¬ 4 * t < 3 * st then c
  else if law = 1 ∨ law = 3 then (if last = -4 then blindI s c r else nearI s c nr last r)
  else if law = 2 then (if s = 0 then shareI c st t else 99 - shareI (99 - c) st t)
  else if law = 4 then (if s = 0 then min (blindI s c r) hd else max (blindI s c r) hd)
  else if law = 5 then r
  else blindI s c r
def spanSp (ρ : RM) (p : Nat) (law last : Int) : Int := spanI (rS ρ p) (rC ρ p) (rP ρ 3) law last
def bySp (ρ : RM) (p : Nat) (law t last r : Int) : Int := byI (rS ρ p) (rC ρ p) (rP ρ 0) (rP ρ 3) (rP ρ 4) law t last r
def lidSp (ρ : RM) (p : Nat) (x : Int) : Int := if rS ρ p = 0 then min x (rP ρ 2) else x
def tellSp (ρ : RM) (p : Nat) (law t last d : Int) : Int := lidSp ρ p (bySp ρ p law t last (d % spanSp ρ p law last))
abbrev hearSp (ρ : RM) (p : Nat) (x : Int) : Prop := rS ρ p = 0 ∨ x + rP ρ 1 ≤ rP ρ 2
def shoutSp (ρ : RM) (p : Nat) (law t last d : Int) : Int := if hearSp ρ p (tellSp ρ p law t last d) then tellSp ρ p law t last d else -4
def lastOk (x : Int) : Prop := x = -4 ∨ (0 ≤ x ∧ x ≤ 99)
theorem share_bd {w st t : Int} (h0 : 0 ≤ w) (h1 : w ≤ 99) (h2 : 0 ≤ t) (h3 : t < st) (h5 : st ≤ 200) : 0 ≤ w * (t + 1) ∧ w * (t + 1) ≤ 19800 ∧ 0 ≤ shareI w st t ∧ shareI w st t ≤ w := by
  have a : 0 ≤ w * (t + 1) := Int.mul_nonneg h0 (by omega)
  have b : w * (t + 1) ≤ 99 * 200 := Int.mul_le_mul h1 (by omega) (by omega) (by decide)
  refine ⟨a, by omega, Int.ediv_nonneg a (by omega), ?_⟩
  unfold shareI
  refine Int.ediv_le_of_le_mul (by omega) ?_
  exact Int.mul_le_mul_of_nonneg_left (by omega) h0
theorem span_bd {s c nr law last : Int} (hc : 0 ≤ c ∧ c ≤ 99) (hn : 0 ≤ nr ∧ nr ≤ 50) : 1 ≤ spanI s c nr law last ∧ spanI s c nr law last ≤ 101 := by
  unfold spanI
  split
  · omega
  · split
    · omega
    · split <;> omega
theorem blind_bd {s c nr law last r : Int} (hs : s = 0 ∨ s = 1) (hc : 0 ≤ c ∧ c ≤ 99) (hr : 0 ≤ r ∧ r < spanI s c nr law last) (h5 : ¬ law = 5) (hl : ¬ (last ≠ -4 ∧ (law = 1 ∨ law = 3))) : 0 ≤ blindI s c r ∧ blindI s c r ≤ 99 := by
  unfold spanI at hr
  rw [if_neg h5, if_neg hl] at hr
  unfold blindI
  rcases hs with rfl | rfl
  · rw [if_pos rfl] at hr ⊢; omega
  · rw [if_neg (by decide)] at hr ⊢; omega
theorem near_bd {s c nr last r : Int} (hc : 0 ≤ c ∧ c ≤ 99) : 0 ≤ nearI s c nr last r ∧ nearI s c nr last r ≤ 99 := by
  unfold nearI
  split <;> omega
/-- by a rest, a price -/
theorem by_bd {s c st nr hv law t last r : Int} (hs : s = 0 ∨ s = 1) (hc : 0 ≤ c ∧ c ≤ 99) (hst : 1 ≤ st ∧ st ≤ 200) (hh : 0 ≤ hv ∧ hv ≤ 99) (ht : 0 ≤ t ∧ t < st) (hr : 0 ≤ r ∧ r < spanI s c nr law last) : 0 ≤ byI s c st nr hv law t last r ∧ byI s c st nr hv law t last r ≤ 99 := by
  have b1 := share_bd (w := c) hc.1 hc.2 ht.1 ht.2 hst.2
  have b2 := share_bd (w := 99 - c) (by omega) (by omega) ht.1 ht.2 hst.2
  have bb := blind_bd hs hc hr
  have bn := near_bd (s := s) (nr := nr) (last := last) (r := r) hc
  unfold byI
  by_cases h1 : law = 3 ∧ ¬ 4 * t < 3 * st
  · rw [if_pos h1]; omega
  rw [if_neg h1]
  by_cases h2 : law = 1 ∨ law = 3
  · rw [if_pos h2]
    by_cases h3 : last = -4
    · rw [if_pos h3]; exact bb (by omega) (fun q => q.1 h3)
    · rw [if_neg h3]; exact bn
  rw [if_neg h2]
  by_cases h3 : law = 2
  · rw [if_pos h3]; split <;> omega
  rw [if_neg h3]
  by_cases h4 : law = 4
  · have := bb (by omega) (fun q => h2 q.2)
    rw [if_pos h4]; split <;> omega
  rw [if_neg h4]
  by_cases h5 : law = 5
  · rw [if_pos h5]
    unfold spanI at hr
    rw [if_pos h5] at hr
    omega
  rw [if_neg h5]
  exact bb h5 (fun q => h2 q.2)
theorem spanSp_bd {ρ : RM} (hok : okRM ρ) (p : Nat) (law last : Int) : 1 ≤ spanSp ρ p law last ∧ spanSp ρ p law last ≤ 101 := by
  have h := hok.2.1 p
  exact span_bd ⟨h.2.1, h.2.2.1⟩ hok.2.2.2.2.2.1
theorem bySp_bd {ρ : RM} (hok : okRM ρ) {p : Nat} {law t last r : Int} (ht : 0 ≤ t ∧ t < rP ρ 0) (hr : 0 ≤ r ∧ r < spanSp ρ p law last) : 0 ≤ bySp ρ p law t last r ∧ bySp ρ p law t last r ≤ 99 := by
  have h := hok.2.1 p
  exact by_bd h.1 ⟨h.2.1, h.2.2.1⟩ hok.2.2.1 hok.2.2.2.2.2.2.1 ht hr
theorem rest_bd {ρ : RM} (hok : okRM ρ) (p : Nat) (law last d : Int) : 0 ≤ d % spanSp ρ p law last ∧ d % spanSp ρ p law last < spanSp ρ p law last := by
  have h := spanSp_bd hok p law last
  exact ⟨Int.emod_nonneg _ (by omega), Int.emod_lt_of_pos _ (by omega)⟩
theorem tellSp_bd {ρ : RM} (hok : okRM ρ) {p : Nat} {law t last d : Int} (ht : 0 ≤ t ∧ t < rP ρ 0) : 0 ≤ tellSp ρ p law t last d ∧ tellSp ρ p law t last d ≤ 99 := by
  have h := bySp_bd hok (p := p) ht (rest_bd hok p law last d)
  have := hok.2.2.2.2.1
  unfold tellSp lidSp
  split <;> omega
theorem shoutSp_ok {ρ : RM} (hok : okRM ρ) {p : Nat} {law t last d : Int} (ht : 0 ≤ t ∧ t < rP ρ 0) : lastOk (shoutSp ρ p law t last d) := by
  have h := tellSp_bd hok (p := p) (law := law) (last := last) (d := d) ht
  unfold shoutSp lastOk
  split <;> omega
/-! the class's -/
theorem XRf {I : II} {R : RR} {r : Nat} {ρ : RM} (h : XR I R r ρ) {p : Nat} (hp : p < rN ρ) : I (R r 0) p = rS ρ p ∧ I (R r 1) p = rC ρ p ∧ I (R r 2) p = rL ρ p ∧ I r 8 = rP ρ 0 ∧ I r 9 = rP ρ 1 ∧ I r 10 = rP ρ 2 ∧ I r 11 = rP ρ 3 ∧ I r 12 = rP ρ 4 :=
  ⟨(h.2.2.2.2.2.2.2.2.1 p hp).1, (h.2.2.2.2.2.2.2.2.1 p hp).2.1, (h.2.2.2.2.2.2.2.2.1 p hp).2.2, h.2.2.2.1, h.2.2.2.2.1, h.2.2.2.2.2.1, h.2.2.2.2.2.2.1, h.2.2.2.2.2.2.2.1⟩
theorem aX9_span {I : II} {R : RR} {r p : Nat} {ρ : RM} {law last : Int} (hR : SR R) (hr : r = 6 ∨ r = 12) (h : XR I R r ρ) (hok : okRM ρ) (hp : p < rN ρ) (hl : InI law) (ht : lastOk last) :
    Spec mX9_span [vR r, vI p, vI law, vI last] I R 89 89 (fun rv I' R' => R = R' ∧ I = I' ∧ rv = vI (spanSp ρ p law last)) := by
  obtain ⟨o0, o1, o2, o3, o4, o5⟩ := roomO hR hr
  obtain ⟨e0, e1, e2, e3, e4, e5, e6, e7⟩ := XRf h hp
  have hn := hok.1
  have hb := hok.2.1 p
  have hs : InI (I (R r 0) p) := by rw [e0]; rcases hb.1 with q | q <;> rw [q] <;> exact ⟨by decide, by decide⟩
  have hla : InI last := by unfold lastOk at ht; exact ⟨by omega, by omega⟩
  have p33 : ¬ law = 5 → ¬ (last ≠ -4 ∧ (law = 1 ∨ law = 3)) → wp (kN 89) mX9_span (fun rv I' R' => R = R' ∧ I = I' ∧ rv = vI (spanSp ρ p law last)) 33 [vR r, vI p, none, none] [] I R 89 := fun h5 h1 => by
    refine gX9_span_33 ⟨o0, o1, ⟨by omega, by omega⟩, hs, fun hz => ⟨o2, rfl, rfl, ?_⟩, fun hz => ⟨o2, rfl, rfl, ?_⟩⟩
    · show vI (I (R r 1) p + 1) = _
      rw [Int.toNat_natCast] at hz
      rw [e1]; unfold spanSp spanI; rw [if_neg h5, if_neg h1, if_pos (by omega)]
    · show vI (100 - I (R r 1) p) = _
      rw [Int.toNat_natCast] at hz
      rw [e1]; unfold spanSp spanI; rw [if_neg h5, if_neg h1, if_neg (by omega)]
  have p24 : ¬ law = 5 → (last ≠ -4 ∧ (law = 1 ∨ law = 3)) → wp (kN 89) mX9_span (fun rv I' R' => R = R' ∧ I = I' ∧ rv = vI (spanSp ρ p law last)) 24 [vR r, none, none, none] [] I R 89 := fun h5 h1 => by
    refine gX9_span_24 ⟨o0, rfl, rfl, ?_⟩
    rw [e6]; unfold spanSp spanI; rw [if_neg h5, if_pos h1]
  refine sX9_span (by decide) (gX9_span_0 ⟨hl, fun h5 => ⟨hla, fun hz => p33 h5 (fun q => q.1 hz), fun hz => ⟨fun h1 => p24 h5 ⟨hz, Or.inl h1⟩, fun h1 => ⟨fun h3 => p33 h5 (fun q => q.2.elim h1 h3), fun h3 => p24 h5 ⟨hz, Or.inr h3⟩⟩⟩⟩, fun h5 => ⟨rfl, rfl, ?_⟩⟩)
  unfold spanSp spanI; rw [if_pos h5]
theorem aX9_near {I : II} {R : RR} {r p : Nat} {ρ : RM} {last d : Int} (hR : SR R) (hr : r = 6 ∨ r = 12) (h : XR I R r ρ) (hok : okRM ρ) (hp : p < rN ρ) (ht : lastOk last) (hd : 0 ≤ d ∧ d ≤ 101) :
    Spec mX9_near [vR r, vI p, vI last, vI d] I R 89 89 (fun rv I' R' => R = R' ∧ I = I' ∧ rv = vI (nearI (rS ρ p) (rC ρ p) (rP ρ 3) last d)) := by
  obtain ⟨o0, o1, o2, o3, o4, o5⟩ := roomO hR hr
  obtain ⟨e0, e1, e2, e3, e4, e5, e6, e7⟩ := XRf h hp
  have hn := hok.1
  have hb := hok.2.1 p
  have hnr := hok.2.2.2.2.2.1
  unfold lastOk at ht
  have hs : InI (I (R r 0) p) := by rw [e0]; rcases hb.1 with q | q <;> rw [q] <;> exact ⟨by decide, by decide⟩
  refine sX9_near (by decide) (gX9_near_0 ?_)
  rw [Int.toNat_natCast, e0, e1, e6]
  rw [e0] at hs
  refine ⟨o0, ⟨by omega, by omega⟩, ⟨by omega, by omega⟩, o2, ⟨by omega, by omega⟩, o1, hs, fun hz => ⟨⟨by omega, by omega⟩, ⟨by omega, by omega⟩, rfl, rfl, ?_⟩, fun hz => ⟨⟨by omega, by omega⟩, ⟨by omega, by omega⟩, rfl, rfl, ?_⟩⟩
  · unfold nearI; rw [if_pos hz]
  · unfold nearI; rw [if_neg hz]
theorem aX9_share {I : II} {R : RR} {r : Nat} {ρ : RM} {w t : Int} (hR : SR R) (hr : r = 6 ∨ r = 12) (h : XR I R r ρ) (hok : okRM ρ) (hw : 0 ≤ w ∧ w ≤ 99) (ht : 0 ≤ t ∧ t < rP ρ 0) :
    Spec mX9_share [vR r, vI w, vI t] I R 89 89 (fun rv I' R' => R = R' ∧ I = I' ∧ rv = vI (shareI w (rP ρ 0) t)) := by
  obtain ⟨o0, o1, o2, o3, o4, o5⟩ := roomO hR hr
  have e3 : I r 8 = rP ρ 0 := h.2.2.2.1
  have hst := hok.2.2.1
  have b := share_bd hw.1 hw.2 ht.1 ht.2 hst.2
  refine sX9_share (by decide) (gX9_share_0 ?_)
  rw [e3]
  exact ⟨o0, ⟨by omega, by omega⟩, fun q => absurd q (by omega), fun _ => ⟨⟨b.1, by omega, by omega, by omega⟩, rfl, rfl, rfl⟩⟩
theorem aX9_by {I : II} {R : RR} {r p : Nat} {ρ : RM} {law t last d : Int} (hR : SR R) (hr : r = 6 ∨ r = 12) (h : XR I R r ρ) (hok : okRM ρ) (hp : p < rN ρ) (hl : InI law) (ht : 0 ≤ t ∧ t < rP ρ 0) (hla : lastOk last) (hd : 0 ≤ d ∧ d ≤ 101) :
    Spec mX9_by [vR r, vI p, vI law, vI t, vI last, vI d] I R 89 89 (fun rv I' R' => R = R' ∧ I = I' ∧ rv = vI (bySp ρ p law t last d)) := by
  obtain ⟨o0, o1, o2, o3, o4, o5⟩ := roomO hR hr
  obtain ⟨e0, e1, e2, e3, e4, e5, e6, e7⟩ := XRf h hp
  have hn := hok.1
  have hb := hok.2.1 p
  have hst := hok.2.2.1
  have hh := hok.2.2.2.2.2.2.1
  have hx : InI last := by unfold lastOk at hla; exact ⟨by omega, by omega⟩
  have hs : InI (I (R r 0) p) := by rw [e0]; rcases hb.1 with q | q <;> rw [q] <;> exact ⟨by decide, by decide⟩
  have nr := aX9_near hR hr h hok hp hla hd
  have main : (¬ (law = 3 ∧ ¬ 4 * t < 3 * rP ρ 0)) → wp (kN 89) mX9_by (fun rv I' R' => R = R' ∧ I = I' ∧ rv = vI (bySp ρ p law t last d)) 53 [vR r, vI p, vI law, vI t, vI last, vI d, vI (rS ρ p), vI (rC ρ p), vI (blindI (rS ρ p) (rC ρ p) d)] [] I R 89 := fun h3 => by
    have hbl : InI (blindI (rS ρ p) (rC ρ p) d) := by unfold blindI; split <;> exact ⟨by omega, by omega⟩
    have hs' : InI (rS ρ p) := by rw [← e0]; exact hs
    refine gX9_by_53 ⟨hl, fun hq => ?_, fun hq => ⟨hx, fun hne => ⟨_, nr, fun x3 I3 R3 hq3 => ?_⟩, fun he => ?_⟩, fun hq => ⟨hs', fun hz => ⟨_, aX9_share hR hr h hok ⟨hb.2.1, hb.2.2.1⟩ ht, fun x5 I5 R5 hq5 => ?_⟩, fun hz => ⟨_, aX9_share hR hr h hok (w := 99 - rC ρ p) ⟨by omega, by omega⟩ ht, fun x6 I6 R6 hq6 => ?_⟩⟩, fun hq => ⟨hx, fun hne => ⟨_, nr, fun x3 I3 R3 hq3 => ?_⟩, fun he => ?_⟩, fun hq => ⟨hs', fun hz => ⟨o0, hbl, by rw [e7]; exact ⟨by omega, by omega⟩, rfl, rfl, ?_⟩, fun hz => ⟨o0, hbl, by rw [e7]; exact ⟨by omega, by omega⟩, rfl, rfl, ?_⟩⟩, fun hq => ⟨rfl, rfl, ?_⟩⟩
    · refine ⟨rfl, rfl, ?_⟩
      unfold bySp byI; rw [if_neg h3, if_neg (by omega), if_neg (by omega), if_neg (by omega), if_neg (by omega)]
    · obtain ⟨rfl, rfl, e⟩ := hq3
      refine ⟨rfl, rfl, e.trans ?_⟩
      unfold bySp byI; rw [if_neg h3, if_pos (by omega), if_neg hne]
    · refine ⟨rfl, rfl, ?_⟩
      unfold bySp byI; rw [if_neg h3, if_pos (by omega), if_pos he]
    · obtain ⟨rfl, rfl, e⟩ := hq5
      refine ⟨rfl, rfl, e.trans ?_⟩
      unfold bySp byI; rw [if_neg h3, if_neg (by omega), if_pos hq, if_pos hz]
    · obtain ⟨rfl, rfl, e⟩ := hq6
      cases e
      refine ⟨rfl, rfl, ?_⟩
      unfold bySp byI; rw [if_neg h3, if_neg (by omega), if_pos hq, if_neg hz]
    · obtain ⟨rfl, rfl, e⟩ := hq3
      refine ⟨rfl, rfl, e.trans ?_⟩
      unfold bySp byI; rw [if_neg h3, if_pos (by omega), if_neg hne]
    · refine ⟨rfl, rfl, ?_⟩
      unfold bySp byI; rw [if_neg h3, if_pos (by omega), if_pos he]
    · rw [e7]; unfold bySp byI; rw [if_neg h3, if_neg (by omega), if_neg (by omega), if_pos hq, if_pos hz]
    · rw [e7]; unfold bySp byI; rw [if_neg h3, if_neg (by omega), if_neg (by omega), if_pos hq, if_neg hz]
    · unfold bySp byI; rw [if_neg h3, if_neg (by omega), if_neg (by omega), if_neg (by omega), if_pos hq]
  have card : (law = 3 ∧ ¬ 4 * t < 3 * rP ρ 0) → rC ρ p = bySp ρ p law t last d := fun h3 => by unfold bySp byI; rw [if_pos h3]
  refine sX9_by (by decide) (gX9_by_0 ?_)
  rw [Int.toNat_natCast, e0, e1, e3]
  rw [e0] at hs
  refine ⟨o0, o1, ⟨by omega, by omega⟩, o2, hs, fun hz => ⟨hl, fun h3 => ?_, fun h3 => ⟨⟨by omega, by omega⟩, ⟨by omega, by omega⟩, fun hlt => ?_, fun hge => ⟨rfl, rfl, congrArg vI (card ⟨h3, hge⟩)⟩⟩⟩, fun hz => ⟨hl, fun h3 => ?_, fun h3 => ⟨⟨by omega, by omega⟩, ⟨by omega, by omega⟩, fun hlt => ?_, fun hge => ⟨rfl, rfl, congrArg vI (card ⟨h3, hge⟩)⟩⟩⟩⟩
  · have m := main (fun q => h3 q.1)
    rw [show blindI (rS ρ p) (rC ρ p) d = d by unfold blindI; rw [if_pos hz]] at m
    exact m
  · have m := main (fun q => q.2 hlt)
    rw [show blindI (rS ρ p) (rC ρ p) d = d by unfold blindI; rw [if_pos hz]] at m
    exact m
  · have m := main (fun q => h3 q.1)
    rw [show blindI (rS ρ p) (rC ρ p) d = rC ρ p + d by unfold blindI; rw [if_neg hz]] at m
    exact m
  · have m := main (fun q => q.2 hlt)
    rw [show blindI (rS ρ p) (rC ρ p) d = rC ρ p + d by unfold blindI; rw [if_neg hz]] at m
    exact m
theorem aX7_tells {I : II} {R : RR} {r p : Nat} {ρ : RM} {t d : Int} (hR : SR R) (hr : r = 6 ∨ r = 12) (h : XR I R r ρ) (hok : okRM ρ) (hp : p < rN ρ) (ht : 0 ≤ t ∧ t < rP ρ 0) (hla : lastOk (I 38 4)) (hd : 0 ≤ d ∧ d ≤ 2147483647) :
    Spec mX7_tells [vR 38, vR r, vI p, vI t, vI d] I R 89 89 (fun rv I' R' => R = R' ∧ I = I' ∧ rv = vI (tellSp ρ p (rL ρ p) t (I 38 4) d)) := by
  obtain ⟨o0, o1, o2, o3, o4, o5⟩ := roomO hR hr
  obtain ⟨e0, e1, e2, e3, e4, e5, e6, e7⟩ := XRf h hp
  have hn := hok.1
  have hb := hok.2.1 p
  have hsp := spanSp_bd hok p (rL ρ p) (I 38 4)
  have hre := rest_bd hok p (rL ρ p) (I 38 4) d
  have hlid := hok.2.2.2.2.1
  have hby := bySp_bd hok (p := p) (law := rL ρ p) (last := I 38 4) ht hre
  have hlaw : InI (rL ρ p) := ⟨by omega, by omega⟩
  refine sX7_tells (gX7_tells_0 hR ?_)
  rw [Int.toNat_natCast, e2]
  refine ⟨o0, o3, ⟨by omega, by omega⟩, _, aX9_span hR hr h hok hp hlaw hla, fun x4 I4 R4 hq => ?_⟩
  obtain ⟨rfl, rfl, e⟩ := hq
  cases e
  refine ⟨rfl, ⟨by omega, by omega⟩, hd, _, aX9_by hR hr h hok hp hlaw ht hla (by rw [if_pos (by omega)]; omega), fun x8 I8 R8 hq => ?_⟩
  obtain ⟨rfl, rfl, e⟩ := hq
  cases e
  rw [if_pos (show 0 < spanSp ρ p (rL ρ p) (I 38 4) by omega), e0, e5]
  exact ⟨rfl, o1, hb.1, ⟨by omega, by omega⟩, ⟨by omega, by omega⟩, rfl, rfl, rfl⟩
/-! the reference's -/
theorem aX11_shoutBy {I : II} {R : RR} {p : Nat} {ρ : RM} {law t last d : Int} (hR : SR R) (h : MRo I ρ) (hok : okRM ρ) (hl : 0 ≤ law ∧ law ≤ 5) (ht : 0 ≤ t ∧ t < rP ρ 0) (hla : lastOk last) (hd : 0 ≤ d ∧ d ≤ 2147483647) :
    Spec mX11_shoutBy [vR 68, vI law, vI (rS ρ p), vI (rC ρ p), vI t, vI last, vI d] I R 89 89 (fun rv I' R' => R = R' ∧ I = I' ∧ rv = vI (shoutSp ρ p law t last d)) := by
  have m0 : I 74 0 = rP ρ 0 := h.2.2 0 (by decide)
  have m1 : I 74 1 = rP ρ 1 := h.2.2 1 (by decide)
  have m2 : I 74 2 = rP ρ 2 := h.2.2 2 (by decide)
  have m3 : I 74 3 = rP ρ 3 := h.2.2 3 (by decide)
  have m4 : I 74 4 = rP ρ 4 := h.2.2 4 (by decide)
  have hb := hok.2.1 p
  obtain ⟨_, _, hst, htx, hlid, hnr, hhd, _, _⟩ := hok
  unfold lastOk at hla
  have b1 := share_bd (w := rC ρ p) hb.2.1 hb.2.2.1 ht.1 ht.2 hst.2
  have b2 := share_bd (w := 99 - rC ρ p) (by omega) (by omega) ht.1 ht.2 hst.2
  obtain ⟨X, hX⟩ : ∃ X, X = bySp ρ p law t last (d % spanSp ρ p law last) := ⟨_, rfl⟩
  have hsS : shoutSp ρ p law t last d = if hearSp ρ p (lidSp ρ p X) then lidSp ρ p X else -4 := by unfold shoutSp tellSp; rw [hX]
  obtain ⟨s, hs⟩ : ∃ s, rS ρ p = s := ⟨_, rfl⟩
  rw [hs] at hb ⊢
  have fin : 0 ≤ X → X ≤ 99 → wp (kN 89) mX11_shoutBy (fun rv I' R' => R = R' ∧ I = I' ∧ rv = vI (shoutSp ρ p law t last d)) 285 [vR 68, none, vI s, none, none, none, none, none, vI X, none] [] I R 89 := fun x0 x9 => by
    refine gX11_shoutBy_285 hR ?_
    rw [m1, m2]
    refine ⟨⟨by omega, by omega⟩, fun h1 => ⟨⟨by omega, by omega⟩, ⟨by omega, by omega⟩, fun hle => ⟨rfl, rfl, ?_⟩, fun hle => ⟨rfl, rfl, ?_⟩⟩, fun h1 => ⟨⟨by omega, by omega⟩, ⟨by omega, by omega⟩, fun hle => ⟨rfl, rfl, ?_⟩, fun hle => ⟨rfl, rfl, ?_⟩⟩⟩
    · rw [hsS]; unfold hearSp lidSp; rw [hs, if_pos (Or.inl (by omega)), if_pos (by omega)]; exact congrArg vI (by omega)
    · rw [hsS]; unfold hearSp lidSp; rw [hs, if_pos (Or.inl (by omega)), if_pos (by omega)]; exact congrArg vI (by omega)
    · rw [hsS]; unfold hearSp lidSp; rw [hs, if_neg (show ¬ s = 0 by omega), if_pos (by omega)]
    · rw [hsS]; unfold hearSp lidSp; rw [hs, if_neg (show ¬ s = 0 by omega), if_neg (by omega)]
  have fin' : ∀ v, v = X → 0 ≤ v → v ≤ 99 → wp (kN 89) mX11_shoutBy (fun rv I' R' => R = R' ∧ I = I' ∧ rv = vI (shoutSp ρ p law t last d)) 285 [vR 68, none, vI s, none, none, none, none, none, vI v, none] [] I R 89 := fun v hv h0 h9 => by subst hv; exact fin h0 h9
  have cl : ∀ v, X = min (max v 0) 99 → InI v → wp (kN 89) mX11_shoutBy (fun rv I' R' => R = R' ∧ I = I' ∧ rv = vI (shoutSp ρ p law t last d)) 131 [vR 68, none, vI s, none, none, none, none, none, vI v, none] [] I R 89 := fun v hv hi =>
    gX11_shoutBy_131 hR ⟨hi, fun h0 => ⟨fun h9 => fin' _ (by omega) (by omega) h9, fun h9 => fin' _ (by omega) (by decide) (by decide)⟩, fun h0 => fin' _ (by omega) (by decide) (by decide)⟩
  have cc : X = min (max (rC ρ p) 0) 99 → wp (kN 89) mX11_shoutBy (fun rv I' R' => R = R' ∧ I = I' ∧ rv = vI (shoutSp ρ p law t last d)) 127 [vR 68, none, vI s, vI (rC ρ p), none, none, none, none, none, none] [] I R 89 := fun hv =>
    gX11_shoutBy_127 hR ⟨⟨by omega, by omega⟩, fun h0 => ⟨fun h9 => fin' _ (by omega) h0 h9, fun h9 => absurd (by omega) h9⟩, fun h0 => absurd hb.2.1 h0⟩
  have Xby : X = byI s (rC ρ p) (rP ρ 0) (rP ρ 3) (rP ρ 4) law t last (d % spanI s (rC ρ p) (rP ρ 3) law last) := by rw [hX]; unfold bySp spanSp; rw [hs]
  -- blind value
  have p163 : ∀ (bl : Int), (¬ (law = 3 ∧ ¬ 4 * t < 3 * rP ρ 0)) → (law = 1 ∨ law = 3 → last = -4) → bl = blindI s (rC ρ p) (d % (if s = 0 then rC ρ p + 1 else 100 - rC ρ p)) → 0 ≤ bl ∧ bl ≤ 99 →
      wp (kN 89) mX11_shoutBy (fun rv I' R' => R = R' ∧ I = I' ∧ rv = vI (shoutSp ρ p law t last d)) 163 [vR 68, vI law, vI s, vI (rC ρ p), vI t, none, vI d, vI bl, vI bl, none] [] I R 89 := fun bl h3 h13 hbl hbb => by
    have sp : law ≠ 5 → spanI s (rC ρ p) (rP ρ 3) law last = if s = 0 then rC ρ p + 1 else 100 - rC ρ p := fun h5 => by unfold spanI; rw [if_neg h5, if_neg (fun q => q.1 (h13 q.2))]
    refine gX11_shoutBy_163 hR ?_
    rw [m0, m4]
    refine ⟨⟨by omega, by omega⟩, fun h2 => ⟨fun h4 => ⟨fun h5 => fin' _ ?_ hbb.1 hbb.2, fun h5 => ⟨⟨hd.1, hd.2, by decide, by decide⟩, fin' _ ?_ (by omega) (by omega)⟩⟩, fun h4 => ⟨⟨by omega, by omega⟩, fun hz => ⟨⟨by omega, by omega⟩, ⟨by omega, by omega⟩, fun hle => fin' _ ?_ (by omega) (by omega), fun hle => fin' _ ?_ (by omega) (by omega)⟩, fun hz => ⟨⟨by omega, by omega⟩, ⟨by omega, by omega⟩, fun hle => fin' _ ?_ (by omega) (by omega), fun hle => fin' _ ?_ (by omega) (by omega)⟩⟩⟩, fun h2 => ⟨⟨by omega, by omega⟩, fun hz => ⟨⟨b2.1, by omega, by omega, by omega⟩, fin' _ ?_ ?_ ?_⟩, fun hz => ⟨⟨b1.1, by omega, by omega, by omega⟩, fin' _ ?_ ?_ ?_⟩⟩⟩
    · rw [Xby, sp h5]; unfold byI; rw [if_neg h3, if_neg h2, if_neg h4, if_neg h5]
      by_cases h13' : law = 1 ∨ law = 3
      · rw [if_pos h13', if_pos (h13 h13')]; exact hbl
      · rw [if_neg h13']; exact hbl
    · rw [Xby]; unfold byI spanI; rw [if_neg h3, if_neg (by omega), if_neg h2, if_neg h4, if_pos h5, if_pos h5]
    · rw [Xby, sp (by omega)]; unfold byI; rw [if_neg h3, if_neg (by omega), if_neg h2, if_pos h4, if_neg hz, ← hbl]; omega
    · rw [Xby, sp (by omega)]; unfold byI; rw [if_neg h3, if_neg (by omega), if_neg h2, if_pos h4, if_neg hz, ← hbl]; omega
    · rw [Xby, sp (by omega)]; unfold byI; rw [if_neg h3, if_neg (by omega), if_neg h2, if_pos h4, if_pos hz, ← hbl]; omega
    · rw [Xby, sp (by omega)]; unfold byI; rw [if_neg h3, if_neg (by omega), if_neg h2, if_pos h4, if_pos hz, ← hbl]; omega
    · rw [Xby]; unfold byI; rw [if_neg h3, if_neg (by omega), if_pos h2, if_neg hz]; rfl
    · have := b2.2.2.2; unfold shareI at this; omega
    · have := b2.2.2.1; unfold shareI at this; omega
    · rw [Xby]; unfold byI; rw [if_neg h3, if_neg (by omega), if_pos h2, if_pos hz]; rfl
    · exact b1.2.2.1
    · have := b1.2.2.2; unfold shareI at this; omega
  have p76 : ∀ (bl : Int), (¬ (law = 3 ∧ ¬ 4 * t < 3 * rP ρ 0)) → (law = 1 ∨ law = 3) → bl = blindI s (rC ρ p) (d % (if s = 0 then rC ρ p + 1 else 100 - rC ρ p)) → 0 ≤ bl ∧ bl ≤ 99 →
      wp (kN 89) mX11_shoutBy (fun rv I' R' => R = R' ∧ I = I' ∧ rv = vI (shoutSp ρ p law t last d)) 76 [vR 68, vI law, vI s, vI (rC ρ p), vI t, vI last, vI d, vI bl, vI bl, none] [] I R 89 := fun bl h3 h13 hbl hbb => by
    refine gX11_shoutBy_76 hR ⟨⟨by omega, by omega⟩, fun hn => p163 bl h3 (fun _ => by omega) hbl hbb, fun hn => ?_⟩
    rw [m3]
    have hm0 : 0 ≤ d % (2 * rP ρ 3 + 1) := Int.emod_nonneg _ (by omega)
    have hm1 : d % (2 * rP ρ 3 + 1) < 2 * rP ρ 3 + 1 := Int.emod_lt_of_pos _ (by omega)
    have Xn : X = nearI s (rC ρ p) (rP ρ 3) last (d % (2 * rP ρ 3 + 1)) := by
      rw [Xby]; unfold byI; rw [if_neg h3, if_pos h13, if_neg (show ¬ last = -4 by omega)]
      unfold spanI; rw [if_neg (show ¬ law = 5 by omega), if_pos ⟨by omega, h13⟩]
    unfold nearI at Xn
    generalize d % (2 * rP ρ 3 + 1) = m at *
    have p116 : (s = 0 → last - rP ρ 3 + m ≤ rC ρ p) → wp (kN 89) mX11_shoutBy (fun rv I' R' => R = R' ∧ I = I' ∧ rv = vI (shoutSp ρ p law t last d)) 116 [vR 68, none, vI s, vI (rC ρ p), none, none, none, none, vI (last - rP ρ 3 + m), none] [] I R 89 := fun h0 =>
      gX11_shoutBy_116 hR ⟨⟨by omega, by omega⟩, fun h1 => cl _ (by rw [if_pos (by omega)] at Xn; omega) ⟨by omega, by omega⟩, fun h1 => ⟨⟨by omega, by omega⟩, ⟨by omega, by omega⟩, fun hle => cl _ (by rw [if_neg (by omega)] at Xn; omega) ⟨by omega, by omega⟩, fun hle => cc (by rw [if_neg (by omega)] at Xn; omega)⟩⟩
    refine ⟨⟨hd.1, hd.2, by omega, by omega⟩, ⟨by omega, by omega⟩, fun hz => p116 (fun q => absurd q hz), fun hz => ⟨⟨by omega, by omega⟩, ⟨by omega, by omega⟩, fun hlt => cc (by rw [if_pos hz] at Xn; omega), fun hlt => p116 (fun _ => by omega)⟩⟩
  have p52 : ∀ (bl : Int), (¬ (law = 3 ∧ ¬ 4 * t < 3 * rP ρ 0)) → bl = blindI s (rC ρ p) (d % (if s = 0 then rC ρ p + 1 else 100 - rC ρ p)) → 0 ≤ bl ∧ bl ≤ 99 →
      wp (kN 89) mX11_shoutBy (fun rv I' R' => R = R' ∧ I = I' ∧ rv = vI (shoutSp ρ p law t last d)) 52 [vR 68, vI law, vI s, vI (rC ρ p), vI t, vI last, vI d, vI bl, vI bl, none] [] I R 89 := fun bl h3 hbl hbb => by
    have n163 : ¬ law = 1 → ¬ law = 3 → _ := fun h1 h33 => p163 bl h3 (fun q => absurd q (by omega)) hbl hbb
    have l163 : wp (kN 89) mX11_shoutBy (fun rv I' R' => R = R' ∧ I = I' ∧ rv = vI (shoutSp ρ p law t last d)) 163 [vR 68, vI law, vI s, vI (rC ρ p), vI t, none, vI d, vI bl, vI bl, none] [] I R 89 ∨ (law = 1 ∨ law = 3) := by
      by_cases q : law = 1 ∨ law = 3
      · exact Or.inr q
      · exact Or.inl (n163 (by omega) (by omega))
    refine gX11_shoutBy_52 hR ⟨⟨by omega, by omega⟩, fun h1 => p76 bl h3 (Or.inl h1) hbl hbb, fun h1 => ⟨fun h33 => n163 h1 h33, fun h33 => p76 bl h3 (Or.inr h33) hbl hbb⟩⟩
  have c0 : law = 3 → ¬ 4 * t < 3 * rP ρ 0 → rC ρ p = X := fun h3 hg => by rw [Xby]; unfold byI; rw [if_pos ⟨h3, hg⟩]
  refine sX11_shoutBy (gX11_shoutBy_0 hR ?_)
  rw [m0]
  have i3 : InI (3 * rP ρ 0) := ⟨by omega, by omega⟩
  have i4 : InI (4 * t) := ⟨by omega, by omega⟩
  have il : InI law := ⟨by omega, by omega⟩
  refine ⟨⟨by omega, by omega⟩, fun hz => ⟨⟨hd.1, hd.2, by omega, by omega⟩, il, ?_⟩, fun hz => ⟨⟨hd.1, hd.2, by omega, by omega⟩, il, ?_⟩⟩
  · have m0 := Int.emod_nonneg d (show (100 - rC ρ p) ≠ 0 by omega)
    have m1 := Int.emod_lt_of_pos d (show 0 < (100 - rC ρ p) by omega)
    have k := fun q => p52 (rC ρ p + d % (100 - rC ρ p)) q (by unfold blindI; rw [if_neg hz, if_neg hz]) ⟨by omega, by omega⟩
    exact ⟨fun h3 => k (fun q => h3 q.1), fun h3 => ⟨i4, i3, fun hlt => k (fun q => q.2 hlt), fun hge => fin' _ (c0 h3 hge) (by omega) (by omega)⟩⟩
  · have m0 := Int.emod_nonneg d (show (rC ρ p + 1) ≠ 0 by omega)
    have m1 := Int.emod_lt_of_pos d (show 0 < (rC ρ p + 1) by omega)
    have k := fun q => p52 (d % (rC ρ p + 1)) q (by unfold blindI; rw [if_pos hz, if_pos hz]) ⟨by omega, by omega⟩
    exact ⟨fun h3 => k (fun q => h3 q.1), fun h3 => ⟨i4, i3, fun hlt => k (fun q => q.2 hlt), fun hge => fin' _ (c0 h3 hge) (by omega) (by omega)⟩⟩
theorem aX11_shoutOf {I : II} {R : RR} {p : Nat} {ρ : RM} {t k j : Int} (hR : SR R) (h : MRo I ρ) (hok : okRM ρ) (hp : p < rN ρ) (ht : 0 ≤ t ∧ t < rP ρ 0) (hla : lastOk (I 68 22)) (hz : 0 ≤ I 68 21 ∧ I 68 21 ≤ 9999) (hk : 0 ≤ k ∧ k ≤ 300) (hj : 0 ≤ j ∧ j ≤ 5) :
    Spec mX11_shoutOf [vR 68, vI p, vI t, vI k, vI j] I R 89 89 (fun rv I' R' => R = R' ∧ I = I' ∧ rv = vI (shoutSp ρ p (rL ρ p) t (I 68 22) (drw (I 68 21) k j))) := by
  obtain ⟨y1, y2, y3⟩ := h.2.1 p hp
  have hb := hok.2.1 p
  have hn := hok.1
  have db := drw_bd (I 68 21) k j
  refine sX11_shoutOf (gX11_shoutOf_0 hR ?_)
  rw [Int.toNat_natCast, y1, y2, y3]
  refine ⟨⟨by omega, by omega⟩, ⟨hz.1, hz.2, hk.1, hk.2, hj.1, hj.2⟩, _, aX11_shoutBy hR h hok hb.2.2.2 ht hla ⟨db.1, by omega⟩, fun x4 I4 R4 hq => ?_⟩
  obtain ⟨rfl, rfl, e⟩ := hq
  exact ⟨rfl, rfl, rfl, e⟩
