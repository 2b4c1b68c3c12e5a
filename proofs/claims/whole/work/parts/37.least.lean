/-! least, of both -/
def seenV (ρ : RM) (l : List LE) (p : Nat) : Int := seenN ρ p l
def lB (ρ : RM) (l : List LE) : List Nat := BLs (rS ρ) (seenV ρ l) (rN ρ)
def lS (ρ : RM) (l : List LE) : List Nat := SLs (rS ρ) (seenV ρ l) (rN ρ)
def lQ (ρ : RM) (l : List LE) : Nat := qty (seenV ρ l) (rP ρ 1) (lB ρ l) (lS ρ l)
def leastP (ρ : RM) (l : List LE) (w : Int) : Int := if 0 ≤ w ∧ w ≤ 1 then (if w = 0 then (lQ ρ l : Int) else psum (seenV ρ l) (lB ρ l) (lQ ρ l) - psum (seenV ρ l) (lS ρ l) (lQ ρ l)) else -1
theorem aX10_least {I : II} {R : RR} {ρ : RM} {w : Int} {l : List LE} (hR : SR R) (hr : R 1 2 = 6 ∨ R 1 2 = 12) (h : XR I R (R 1 2) ρ) (hok : okRM ρ) (hF : XF I) (hl : XLg I R 18 l) (ho : ∀ e ∈ l, okE ρ e) (h1 : InI w) :
    Spec mX10_least [vR 1, vI w] I R 89 89 (fun rv I' R' => R = R' ∧ frm [24, 25, 26, 27, 28, 29, 30] I I' ∧ XF I' ∧ rv = vI (leastP ρ l w)) := by
  have hn := hok.1
  have hV : ∀ q, 0 ≤ seenV ρ l q ∧ seenV ρ l q ≤ 99 := fun q => seen_bd ho
  have hV2 : ∀ q, -1000 ≤ seenV ρ l q ∧ seenV ρ l q ≤ 1000 := fun q => by have := hV q; omega
  have eB : lB ρ l = insAll (S0 (rS ρ)) (kf 0 (seenV ρ l)) (rN ρ) := BLs_eq (fun p _ _ => hV p)
  have eS : lS ρ l = insAll (S1 (rS ρ)) (kf 1 (seenV ρ l)) (rN ρ) := SLs_eq (fun p _ _ => hV p)
  have hlB : (lB ρ l).length ≤ 10 := Nat.le_trans BLs_len hok.2.2.2.2.2.2.2.1.2
  have hlS : (lS ρ l).length ≤ 10 := Nat.le_trans SLs_len hok.2.2.2.2.2.2.2.2.2
  have loop : (0 ≤ w ∧ w ≤ 1) → ∀ (d p : Nat) (J : II), p + d = rN ρ → frm [24, 25, 26, 27, 28, 29, 30] I J → linesIs J R 24 (insAll (S0 (rS ρ)) (kf 0 (seenV ρ l)) p) (insAll (S1 (rS ρ)) (kf 1 (seenV ρ l)) p) (seenV ρ l) → wp (kN 89) mX10_least (fun rv I' R' => R = R' ∧ frm [24, 25, 26, 27, 28, 29, 30] I I' ∧ XF I' ∧ rv = vI (leastP ρ l w)) 20 [vR 1, vI w, vI (p : Int)] [] J R 89 := by
    intro hw d
    induction d with
    | zero =>
      intro p J hp hf hli
      have hp' : p = rN ρ := by omega
      subst hp'
      have hX := XR_frm hR hr h hf (by rcases hr with q | q <;> rw [q] <;> decide)
      have e9 : J (R 1 2) 9 = rP ρ 1 := hX.2.2.2.2.1
      rw [← eB, ← eS] at hli
      refine gX10_least_20 hR ⟨(roomO hR hr).1, ⟨by omega, by omega⟩, by rw [hX.1]; exact ⟨by omega, by omega⟩, fun _ => ?_, fun q => absurd (by rw [hX.1]; omega) q⟩
      rw [e9]
      refine ⟨_, aX3_cross (by decide) (lns24 hR) hli hlB hlS hV2 (okT hok), fun I4 R4 hq4 => ?_⟩
      obtain ⟨rfl, l4, f4, c1, c2, c3, c4⟩ := hq4
      have hf4 : frm [24, 25, 26, 27, 28, 29, 30] I I4 := frm_trans hf (frm_sub f4 (by decide))
      refine ⟨rfl, h1, fun hne => ⟨rfl, hf4, XF24 hR hF hf4 l4, ?_⟩, fun he => ⟨rfl, hf4, XF24 hR hF hf4 l4, ?_⟩⟩
      · rw [c2]; unfold leastP lQ; rw [if_pos hw, if_neg hne]
      · rw [c1]; unfold leastP lQ; rw [if_pos hw, if_pos he]
    | succ d ih =>
      intro p J hp hf hli
      have hX := XR_frm hR hr h hf (by rcases hr with q | q <;> rw [q] <;> decide)
      have hlJ := XLg_frm hl hf (by rw [r_18_0 hR, r_18_1 hR, r_18_2 hR, r_18_3 hR]; decide)
      have ek : (p : Int) + 1 = ((p + 1 : Nat) : Int) := by omega
      refine gX10_least_20 hR ⟨(roomO hR hr).1, ⟨by omega, by omega⟩, by rw [hX.1]; exact ⟨by omega, by omega⟩, fun q => absurd q (by rw [hX.1]; omega), fun _ => ⟨_, aX4_seenOf hR hr hX hok (by omega) hlJ ho, fun x6 I6 R6 hq => ?_⟩⟩
      obtain ⟨rfl, rfl, e⟩ := hq
      have ex : x6 = seenV ρ l p := by cases e; rfl
      subst ex
      refine ⟨rfl, _, put24 hR hr hX hok hli (by omega) hV2, fun I7 R7 hq => ?_⟩
      obtain ⟨rfl, l7, f7⟩ := hq
      rw [ek]
      exact ⟨rfl, ih (p + 1) I7 (by omega) (frm_trans hf f7) l7⟩
  refine sX10_least (gX10_least_0 hR ⟨h1, fun hw => ⟨_, aX3_empty (v := seenV ρ l) (by decide) (lns24 hR) (by rw [r_24_0 hR]; exact hF.1) (by rw [r_24_1 hR]; exact hF.2.1), fun I3 R3 hq => ?_⟩, fun hw => ⟨rfl, frm_rfl, hF, by unfold leastP; rw [if_neg hw]⟩⟩)
  obtain ⟨rfl, l3, f3⟩ := hq
  rw [lT24 hR] at f3
  exact ⟨rfl, loop hw (rN ρ) 0 I3 (by omega) (frm_sub f3 (by decide)) l3⟩
theorem aX11_least {I : II} {R : RR} {ρ : RM} {w : Int} {l : List LE} (hR : SR R) (h : MRo I ρ) (hok : okRM ρ) (hl : MLg I 0 l) (ho : ∀ e ∈ l, okE ρ e) (h1 : InI w) :
    Spec mX11_least [vR 68, vI w] I R 89 89 (fun rv I' R' => R = R' ∧ mKeep I I' ∧ rv = vI (leastP ρ l w)) := by
  have hn := hok.1
  have hV : ∀ q, 0 ≤ seenV ρ l q ∧ seenV ρ l q ≤ 99 := fun q => seen_bd ho
  have hV2 : ∀ q, -1000 ≤ seenV ρ l q ∧ seenV ρ l q ≤ 1000 := fun q => by have := hV q; omega
  have hlB : (lB ρ l).length ≤ 10 := Nat.le_trans BLs_len hok.2.2.2.2.2.2.2.1.2
  have hlS : (lS ρ l).length ≤ 10 := Nat.le_trans SLs_len hok.2.2.2.2.2.2.2.2.2
  have hq := qty_is (v := seenV ρ l) (t := rP ρ 1) (lB ρ l) (lS ρ l)
  have loop : (0 ≤ w ∧ w ≤ 1) → ∀ (d p : Nat) (J : II), p + d = rN ρ → frm [82] I J → (∀ q, q < p → J 82 q = seenV ρ l q) → wp (kN 89) mX11_least (fun rv I' R' => R = R' ∧ mKeep I I' ∧ rv = vI (leastP ρ l w)) 14 [vR 68, vI w, vI (p : Int)] [] J R 89 := by
    intro hw d
    induction d with
    | zero =>
      intro p J hp hf hd
      have hp' : p = rN ρ := by omega
      subst hp'
      have hX := MRo_frm h hf (by decide)
      have e0 : J 70 0 = rN ρ := hX.1
      have hsh : mSh J (rN ρ) (rS ρ) (seenV ρ l) := ⟨e0, hn, fun p hp => ⟨(hX.2.1 p hp).1, (hok.2.1 p).1, hd p hp⟩⟩
      refine gX11_least_14 hR ⟨⟨by omega, by omega⟩, ⟨by omega, by omega⟩, fun _ => ?_, fun q => absurd (by omega) q⟩
      refine ⟨_, aX11_layLines hR hsh hok.2.2.2.2.2.2.2.1.2 hok.2.2.2.2.2.2.2.2.2 hV2, fun I3 R3 hq3 => ?_⟩
      obtain ⟨rfl, m3, f3⟩ := hq3
      have hX3 := MRo_frm hX f3.1 (by decide)
      have e1 : I3 74 1 = rP ρ 1 := hX3.2.2 1 (by decide)
      have hv3 : mV I3 (seenV ρ l) (lB ρ l) (lS ρ l) := mV_of hn (fun p hp => ((mSh_frm hsh f3).2.2 p hp).2.2)
      have k3 : mKeep I I3 := mKeep_trans (mKeep_frm hf (by decide)) (mKeep_mFr f3)
      rw [e1]
      refine ⟨rfl, _, aX11_quantity hR m3 hv3 hlB hlS hV2 (okT hok), fun x4 I4 R4 hq4 => ?_⟩
      obtain ⟨rfl, rfl, e⟩ := hq4
      have ex : x4 = (lQ ρ l : Int) := by cases e; rfl
      subst ex
      refine ⟨rfl, h1, fun hne => ⟨_, aX11_gainOf hR m3 hv3 hlB hq.1 hq.2.1, fun x6 I6 R6 hq6 => ?_⟩, fun he => ⟨rfl, k3, ?_⟩⟩
      · obtain ⟨rfl, rfl, e⟩ := hq6
        refine ⟨rfl, rfl, k3, e.trans ?_⟩
        unfold leastP lQ; rw [if_pos hw, if_neg hne]; rfl
      · unfold leastP; rw [if_pos hw, if_pos he]
    | succ d ih =>
      intro p J hp hf hd
      have hX := MRo_frm h hf (by decide)
      have hlJ := MLg_frm hl hf (by decide)
      have e0 : J 70 0 = rN ρ := hX.1
      have ek : (p : Int) + 1 = ((p + 1 : Nat) : Int) := by omega
      refine gX11_least_14 hR ⟨⟨by omega, by omega⟩, ⟨by omega, by omega⟩, fun q => absurd q (by omega), fun _ => ⟨_, aX11_knownOf hR hX hok (by omega) hlJ ho, fun x7 I7 R7 hq7 => ?_⟩⟩
      obtain ⟨rfl, rfl, e⟩ := hq7
      have ex : x7 = seenV ρ l p := by cases e; rfl
      subst ex
      refine ⟨rfl, ⟨by omega, by omega⟩, fun I9 q9 => ?_⟩
      rw [Int.toNat_natCast] at q9
      rw [ek]
      refine ih (p + 1) I9 (by omega) (by rw [q9]; exact frm_trans hf (frm_up (by decide))) (fun q hq => ?_)
      rw [q9, up2_at]
      by_cases hjp : q = p
      · rw [if_pos hjp, hjp]
      · rw [if_neg hjp]; exact hd q (by omega)
  exact sX11_least (gX11_least_0 hR ⟨h1, fun hw => loop hw (rN ρ) 0 I (by omega) frm_rfl (fun q hq => by omega), fun hw => ⟨rfl, mKeep_rfl, by unfold leastP; rw [if_neg hw]⟩⟩)
