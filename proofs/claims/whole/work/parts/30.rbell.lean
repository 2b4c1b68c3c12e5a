/-! the BELL's ROUND, of both -/
def bv (ρ : RM) (z : Int) (p : Nat) : Int := shoutSp ρ p (rL ρ p) (rP ρ 0 - 1) (-4) (drw z p 1)
def bBs (ρ : RM) (z : Int) : List Nat := BLs (rS ρ) (bv ρ z) (rN ρ)
def bSs (ρ : RM) (z : Int) : List Nat := SLs (rS ρ) (bv ρ z) (rN ρ)
def bQn (ρ : RM) (z : Int) : Nat := qty (bv ρ z) (rP ρ 1) (bBs ρ z) (bSs ρ z)
def bPr (ρ : RM) (z : Int) : Int := lowP (bv ρ z) (rP ρ 1) (bBs ρ z) (bSs ρ z) (bQn ρ z)
def bellR (ρ : RM) (z : Int) : Nat → RS
  | 0 => σ0
  | i + 1 => tradeF ρ (bellR ρ z i) ((bBs ρ z).getD i 0) ((bSs ρ z).getD i 0) (bPr ρ z) 0
theorem lastStep {ρ : RM} (hok : okRM ρ) : 0 ≤ rP ρ 0 - 1 ∧ rP ρ 0 - 1 < rP ρ 0 := by have := hok.2.2.1; omega
theorem bv_ok {ρ : RM} (hok : okRM ρ) (z : Int) (p : Nat) : lastOk (bv ρ z p) := shoutSp_ok hok (lastStep hok)
theorem bv_bd {ρ : RM} (hok : okRM ρ) (z : Int) (q : Nat) : -1000 ≤ bv ρ z q ∧ bv ρ z q ≤ 1000 := by have := bv_ok hok z q; unfold lastOk at this; omega
theorem bBs_bd {ρ : RM} {z : Int} (hok : okRM ρ) {p : Nat} (h : p ∈ bBs ρ z) : p < rN ρ ∧ rS ρ p = 0 ∧ 0 ≤ bv ρ z p ∧ bv ρ z p ≤ 99 := by
  have m := BLs_mem h
  have b := bv_ok hok z p
  have i := (insAll_mem (rN ρ)).mp h
  have i2 := i.2
  simp only [Sr, Bool.and_eq_true, decide_eq_true_eq, kf, if_pos] at i2
  unfold lastOk at b
  exact ⟨m.1, m.2, by omega, by omega⟩
theorem bSs_bd {ρ : RM} {z : Int} (hok : okRM ρ) {p : Nat} (h : p ∈ bSs ρ z) : p < rN ρ ∧ rS ρ p = 1 ∧ 0 ≤ bv ρ z p ∧ bv ρ z p ≤ 99 := by
  have m := SLs_mem h
  have b := bv_ok hok z p
  have i := (insAll_mem (rN ρ)).mp h
  have i2 := i.2
  simp only [Sr, Bool.and_eq_true, decide_eq_true_eq, kf, show ¬ ((1 : Int) = 0) by decide, if_false] at i2
  unfold lastOk at b
  exact ⟨m.1, m.2, by omega, by omega⟩
theorem bLens {ρ : RM} {z : Int} (hok : okRM ρ) : (bBs ρ z).length ≤ 10 ∧ (bSs ρ z).length ≤ 10 :=
  ⟨Nat.le_trans BLs_len hok.2.2.2.2.2.2.2.1.2, Nat.le_trans SLs_len hok.2.2.2.2.2.2.2.2.2⟩
theorem bIsQ (ρ : RM) (z : Int) : isQ (bv ρ z) (rP ρ 1) (bBs ρ z) (bSs ρ z) (bQn ρ z) := qty_is _ _
theorem bPr_bd {ρ : RM} {z : Int} (hok : okRM ρ) (hq : 0 < bQn ρ z) : 0 ≤ bPr ρ z ∧ bPr ρ z ≤ 99 := by
  obtain ⟨q1, q2, q3, q4⟩ := bIsQ ρ z
  have htx := hok.2.2.2.1
  obtain ⟨b, hb⟩ : ∃ b, (bBs ρ z)[bQn ρ z - 1]? = some b := ⟨_, List.getElem?_eq_getElem (by omega)⟩
  obtain ⟨s, hs⟩ : ∃ s, (bSs ρ z)[bQn ρ z - 1]? = some s := ⟨_, List.getElem?_eq_getElem (by omega)⟩
  have h1 := q3 (bQn ρ z - 1) b s (by omega) hb hs
  have h2 := bBs_bd hok (List.mem_of_getElem? hb)
  have h3 := bSs_bd hok (List.mem_of_getElem? hs)
  have e1 : gv (bv ρ z) (bSs ρ z) (bQn ρ z - 1) = bv ρ z s := gv_at hs
  unfold bPr lowP
  rw [if_neg (by omega), e1]
  split
  · next hlt =>
    obtain ⟨c, hc⟩ : ∃ c, (bBs ρ z)[bQn ρ z]? = some c := ⟨_, List.getElem?_eq_getElem hlt⟩
    have h4 := bBs_bd hok (List.mem_of_getElem? hc)
    rw [gv_at hc]
    omega
  · omega
theorem bAt {l : List Nat} {i : Nat} (h : i < l.length) : l[i]? = some (l.getD i 0) := by
  rw [List.getD_eq_getElem?_getD, List.getElem?_eq_getElem h]; rfl
theorem bellR_ok {ρ : RM} (hok : okRM ρ) (z : Int) : ∀ i : Nat, i ≤ bQn ρ z → okS i (bellR ρ z i)
  | 0, _ => okS_0
  | i + 1, h => okS_trade hok (bellR_ok hok z i (by omega)) (bPr_bd hok (by omega)) ⟨by decide, by decide⟩
/-- lists so far -/
def bIn0 (ρ : RM) (z : Int) (m : Nat) : List Nat := insAll (Sr (S0 (rS ρ)) (kf 0 (bv ρ z)) (-99) 100) (kf 0 (bv ρ z)) m
def bIn1 (ρ : RM) (z : Int) (m : Nat) : List Nat := insAll (Sr (S1 (rS ρ)) (kf 1 (bv ρ z)) 0 100) (kf 1 (bv ρ z)) m
theorem bIn_heard {ρ : RM} {z : Int} (hok : okRM ρ) {p : Nat} (hb : ¬ bv ρ z p < 0) :
    bIn0 ρ z (p + 1) = (if rS ρ p = 0 then insK (kf 0 (bv ρ z)) p (bIn0 ρ z p) else bIn0 ρ z p) ∧ bIn1 ρ z (p + 1) = (if rS ρ p = 0 then bIn1 ρ z p else insK (kf 1 (bv ρ z)) p (bIn1 ρ z p)) := by
  have b := bv_ok hok z p
  unfold lastOk at b
  have h01 := (hok.2.1 p).1
  constructor
  · show (if Sr (S0 (rS ρ)) (kf 0 (bv ρ z)) (-99) 100 p = true then _ else _) = _
    by_cases e : rS ρ p = 0
    · rw [if_pos e, if_pos]
      · rfl
      · simp only [Sr, S0, e, decide_true, Bool.true_and, decide_eq_true_eq, kf, if_true]; omega
    · rw [if_neg e, if_neg]
      · rfl
      · simp [Sr, S0, e]
  · show (if Sr (S1 (rS ρ)) (kf 1 (bv ρ z)) 0 100 p = true then _ else _) = _
    by_cases e : rS ρ p = 0
    · rw [if_pos e, if_neg]
      · rfl
      · simp [Sr, S1, e]
    · rw [if_neg e, if_pos]
      · rfl
      · have e1 : rS ρ p = 1 := by omega
        simp only [Sr, S1, e1, decide_true, Bool.true_and, decide_eq_true_eq, kf, show ¬ ((1 : Int) = 0) by decide, if_false]; omega
theorem bIn_not {ρ : RM} {z : Int} (hok : okRM ρ) {p : Nat} (hb : bv ρ z p < 0) (hs : rS ρ p = 1) : bIn0 ρ z (p + 1) = bIn0 ρ z p ∧ bIn1 ρ z (p + 1) = bIn1 ρ z p := by
  constructor
  · show (if Sr (S0 (rS ρ)) (kf 0 (bv ρ z)) (-99) 100 p = true then _ else _) = _
    rw [if_neg]
    · rfl
    · simp [Sr, S0, hs]
  · show (if Sr (S1 (rS ρ)) (kf 1 (bv ρ z)) 0 100 p = true then _ else _) = _
    rw [if_neg]
    · rfl
    · simp only [Sr, S1, hs, decide_true, Bool.true_and, decide_eq_true_eq, kf, show ¬ ((1 : Int) = 0) by decide, if_false]; omega
theorem bIn_len {ρ : RM} {z : Int} {m : Nat} : (bIn0 ρ z m).length ≤ cntB (S0 (rS ρ)) m ∧ (bIn1 ρ z m).length ≤ cntB (S1 (rS ρ)) m := ⟨BLs_len, SLs_len⟩
def T41 : List Nat := [38, 39, 41, 42, 43, 44, 45, 46, 47]
theorem XF41 {I I' : II} {R : RR} {bl sl : List Nat} {v : Nat → Int} (hR : SR R) (hF : XF I) (f : frm T41 I I') (l : linesIs I' R 41 bl sl v) : XF I' := by
  obtain ⟨f1, f2, f3, f4, f5, f6⟩ := hF
  have l1 := l.2.2.1
  have l2 := l.2.2.2
  rw [r_41_0 hR] at l1
  rw [r_41_1 hR] at l2
  exact ⟨(f 25 (by decide) 0).trans f1, (f 28 (by decide) 0).trans f2, (f 32 (by decide) 0).trans f3, (f 35 (by decide) 0).trans f4, l1, l2⟩
theorem lTin {R : RR} (hR : SR R) : ∀ x ∈ linesT R 41, x ∈ T41 ∧ x ≠ 38 ∧ x ≠ 39 ∧ x ≠ 41 := by rw [lT41 hR]; decide
theorem aX7_playBell {I : II} {R : RR} {r : Nat} {ρ : RM} {z : Int} (hR : SR R) (hr : r = 6 ∨ r = 12) (h : XR I R r ρ) (hok : okRM ρ) (hF : XF I) (hz : 0 ≤ z ∧ z ≤ 9999) (hx : XS I z σ0) :
    Spec mX7_playBell [vR 38, vR r] I R 89 89 (fun _ I' R' => R = R' ∧ frm T41 I I' ∧ XF I' ∧ XS I' z (bellR ρ z (bQn ρ z))) := by
  obtain ⟨o0, o1, o2, o3, o4, o5⟩ := roomO hR hr
  have hst := hok.2.2.1
  have htx := hok.2.2.2.1
  have hlid := hok.2.2.2.2.1
  have hn := hok.1
  have hlen := bLens (z := z) hok
  have hq := bIsQ ρ z
  have hq10 : bQn ρ z ≤ 10 := Nat.le_trans hq.1 hlen.1
  have hT : ∀ x ∈ T41, ¬ (r ≤ x ∧ x ≤ r + 5) := by rcases hr with rfl | rfl <;> decide
  have e0' := r_41_0 hR
  have e1' := r_41_1 hR
  -- the trades
  have loop : ∀ (d i : Nat) (J : II), i + d = bQn ρ z → frm T41 I J → linesIs J R 41 (bBs ρ z) (bSs ρ z) (bv ρ z) → J 41 2 = (bQn ρ z : Int) → J 41 4 = bPr ρ z → XS J z (bellR ρ z i) → wp (kN 89) mX7_playBell (fun _ I' R' => R = R' ∧ frm T41 I I' ∧ XF I' ∧ XS I' z (bellR ρ z (bQn ρ z))) 74 [vR 38, vR r, vI (i : Int), none] [] J R 89 := by
    intro d
    induction d with
    | zero =>
      intro i J hi hf hl h2 h4 hx
      refine gX7_playBell_74 hR ?_
      rw [h2]
      refine ⟨⟨by omega, by omega⟩, ⟨by omega, by omega⟩, fun _ => ?_, fun q => absurd (by omega) q⟩
      rw [show i = bQn ρ z by omega] at hx
      exact ⟨rfl, hf, XF41 hR hF hf hl, hx⟩
    | succ d ih =>
      intro i J hi hf hl h2 h4 hx
      have hX := XR_frm hR hr h hf hT
      have hb := bAt (l := bBs ρ z) (i := i) (by have := hq.1; omega)
      have hs := bAt (l := bSs ρ z) (i := i) (by have := hq.2.1; omega)
      have hbm := bBs_bd hok (List.mem_of_getElem? hb)
      have hsm := bSs_bd hok (List.mem_of_getElem? hs)
      have eb := (hl.1.2 i _ hb).1
      have es := (hl.2.1.2 i _ hs).1
      rw [e0', r_42_1 hR] at eb
      rw [e1', r_45_1 hR] at es
      have ek : (i : Int) + 1 = ((i + 1 : Nat) : Int) := by omega
      refine gX7_playBell_74 hR ?_
      rw [h2, Int.toNat_natCast, eb, es, h4]
      refine ⟨⟨by omega, by omega⟩, ⟨by omega, by omega⟩, fun q => absurd q (by omega), fun _ => ⟨⟨by omega, by have := hq.1; omega⟩, _, aX7_trade hR hr hX hok hbm.1 hsm.1 hx (bellR_ok hok z i (by omega)) (by have := hq.1; omega) (bPr_bd hok (by omega)), fun I4 R4 hq4 => ?_⟩⟩
      obtain ⟨rfl, f4, x4, _⟩ := hq4
      rw [ek]
      refine ⟨rfl, ih (i + 1) I4 (by omega) (frm_trans hf (frm_sub f4 (by decide))) (linesIs_frm hl f4 (fun x hx q => ?_)) ((f4 41 (by decide) 2).trans h2) ((f4 41 (by decide) 4).trans h4) x4⟩
      have := lTin hR x hx
      simp at q
      omega
  -- the telling
  have first : ∀ (d p : Nat) (J : II), p + d = rN ρ → frm [42, 43, 44, 45, 46, 47] I J → linesIs J R 41 (bIn0 ρ z p) (bIn1 ρ z p) (bv ρ z) → wp (kN 89) mX7_playBell (fun _ I' R' => R = R' ∧ frm T41 I I' ∧ XF I' ∧ XS I' z (bellR ρ z (bQn ρ z))) 9 [vR 38, vR r, vI (p : Int), none] [] J R 89 := by
    intro d
    induction d with
    | zero =>
      intro p J hp hf hl
      have hX := XR_frm hR hr h hf (by rcases hr with rfl | rfl <;> decide)
      have hp' : p = rN ρ := by omega
      subst hp'
      have e5 : J r 5 = rN ρ := hX.1
      have e9 : J r 9 = rP ρ 1 := hX.2.2.2.2.1
      refine gX7_playBell_9 hR ⟨o0, ⟨by omega, by omega⟩, ⟨by omega, by omega⟩, fun _ => ?_, fun q => absurd (by omega) q⟩
      rw [e9]
      refine ⟨_, aX3_cross (v := bv ρ z) (bl := bBs ρ z) (sl := bSs ρ z) (by decide) (lns41 hR) hl hlen.1 hlen.2 (bv_bd hok z) (okT hok), fun I4 R4 hq4 => ?_⟩
      obtain ⟨rfl, l4, f4, c1, c2, c3, c4⟩ := hq4
      have hf4 := frm_trans (frm_sub hf (T' := T41) (by decide)) (frm_sub f4 (T' := T41) (by decide))
      have hJ := XS_frm (XS_frm hx hf ⟨by decide, by decide⟩) f4 ⟨by decide, by decide⟩
      exact ⟨rfl, loop (bQn ρ z) 0 I4 (by omega) hf4 l4 c1 c3 hJ⟩
    | succ d ih =>
      intro p J hp hf hl
      have hX := XR_frm hR hr h hf (by rcases hr with rfl | rfl <;> decide)
      have hJ := XS_frm hx hf ⟨by decide, by decide⟩
      have e5 : J r 5 = rN ρ := hX.1
      have e8 : J r 8 = rP ρ 0 := hX.2.2.2.1
      have e9 : J r 9 = rP ρ 1 := hX.2.2.2.2.1
      have e10 : J r 10 = rP ρ 2 := hX.2.2.2.2.2.1
      have z3 : J 38 3 = z := hJ.1
      have l4 : J 38 4 = -4 := hJ.2.1
      have hp1 : p < rN ρ := by omega
      have h01 := (hok.2.1 p).1
      have es0 := (XRf hX hp1).1
      have db := drw_bd z p 1
      have ek : (p : Int) + 1 = ((p + 1 : Nat) : Int) := by omega
      have tl := aX7_tells (t := rP ρ 0 - 1) (d := drw z p 1) hR hr hX hok hp1 (lastStep hok) (by rw [l4]; exact Or.inl rfl) ⟨db.1, by omega⟩
      rw [l4] at tl
      have hsh := hear_shout hok (p := p) (last := -4) (d := drw z p 1) (lastStep hok)
      have btl := ownTell_bd hok (p := p) (last := -4) (d := drw z p 1) (lastStep hok)
      refine gX7_playBell_9 hR ⟨o0, ⟨by omega, by omega⟩, ⟨by omega, by omega⟩, fun q => absurd q (by omega), fun _ => ?_⟩
      rw [z3, e8, Int.toNat_natCast]
      refine ⟨⟨hz.1, hz.2, by omega, by omega, by decide, by decide⟩, _, tl, fun x7 I7 R7 hq7 => ?_⟩
      obtain ⟨rfl, rfl, e⟩ := hq7
      cases e
      rw [es0, e9, e10]
      have oT : tellSp ρ p (rL ρ p) (rP ρ 0 - 1) (-4) (drw z p 1) = ownTell ρ p (rP ρ 0 - 1) (-4) (drw z p 1) := rfl
      rw [oT]
      have hbv : bv ρ z p = shoutSp ρ p (rL ρ p) (rP ρ 0 - 1) (-4) (drw z p 1) := rfl
      refine ⟨rfl, o1, ⟨by omega, by omega⟩, h01, ⟨by omega, by omega⟩, ⟨by omega, by omega⟩, fun hc => ?_, fun hc => gX7_playBell_55 hR ?_⟩
      · have hge := hsh.1.2 hc
        have hv : ownTell ρ p (rP ρ 0 - 1) (-4) (drw z p 1) = bv ρ z p := (hsh.2 hc).symm
        have hlp := bIn_len (ρ := ρ) (z := z) (m := p)
        obtain ⟨i0, i1⟩ := bIn_heard (z := z) hok (p := p) hge
        rw [hv]
        refine ⟨_, aX3_put (m := rN ρ) (sd := rS ρ) (by decide) (lns41 hR) hl o0 o1 (fun q hq => ⟨(XRf hX hq).1, (hok.2.1 q).1⟩) hp1 hn (fun hz0 => ?_) (fun hz1 => ?_) (insAll_srt p) (insAll_srt p) (bv_bd hok z), fun I14 R14 hq14 => ?_⟩
        · have := cntB_lt (S := S0 (rS ρ)) hp1 (by simp [S0, hz0])
          have := hok.2.2.2.2.2.2.2.1.2
          omega
        · have := cntB_lt (S := S1 (rS ρ)) hp1 (by simp [S1, hz1])
          have := hok.2.2.2.2.2.2.2.2.2
          omega
        · obtain ⟨rfl, l14, f14⟩ := hq14
          rw [← i0, ← i1] at l14
          rw [lT41 hR] at f14
          refine ⟨rfl, gX7_playBell_55 hR ?_⟩
          rw [ek]
          exact ih (p + 1) I14 (by omega) (frm_trans hf f14) l14
      · have hlt : bv ρ z p < 0 := by
          by_cases q : bv ρ z p < 0
          · exact q
          · exact absurd (hsh.1.1 q) hc
        obtain ⟨i0, i1⟩ := bIn_not hok hlt (by
          rcases h01 with q | q
          · exact absurd (Or.inl q) hc
          · exact q)
        rw [ek]
        rw [← i0, ← i1] at hl
        exact ih (p + 1) J (by omega) hf hl
  have f0 := hF.2.2.2.2
  refine sX7_playBell (gX7_playBell_0 hR ⟨_, aX3_empty (v := bv ρ z) (by decide) (lns41 hR) (by rw [e0']; exact f0.1) (by rw [e1']; exact f0.2), fun I1 R1 hq1 => ?_⟩)
  obtain ⟨rfl, l1, f1⟩ := hq1
  rw [lT41 hR] at f1
  exact ⟨rfl, first (rN ρ) 0 I1 (by omega) f1 l1⟩
def mLow (I I' : II) : Prop := ∀ j, j < 19 → I' 68 j = I 68 j
theorem aX11_goBell {I : II} {R : RR} {ρ : RM} {z : Int} (hR : SR R) (h : MRo I ρ) (hok : okRM ρ) (hz : 0 ≤ z ∧ z ≤ 9999) (hx : MS I z σ0) :
    Spec mX11_goBell [vR 68] I R 89 89 (fun _ I' R' => R = R' ∧ frm [68, 82, 83, 84, 85] I I' ∧ mLow I I' ∧ MS I' z (bellR ρ z (bQn ρ z))) := by
  have hst := hok.2.2.1
  have htx := hok.2.2.2.1
  have hn := hok.1
  have hlen := bLens (z := z) hok
  have hq := bIsQ ρ z
  have hq10 : bQn ρ z ≤ 10 := Nat.le_trans hq.1 hlen.1
  refine sX11_goBell (gX11_goBell_0 hR ?_)
  have loop : ∀ (d i : Nat) (J : II), i + d = bQn ρ z → frm [68, 82, 83, 84, 85] I J → mLow I J → arrIs J 83 (bBs ρ z) → arrIs J 84 (bSs ρ z) → MS J z (bellR ρ z i) → wp (kN 89) mX11_goBell (fun _ I' R' => R = R' ∧ frm [68, 82, 83, 84, 85] I I' ∧ mLow I I' ∧ MS I' z (bellR ρ z (bQn ρ z))) 72 [vR 68, vI (bQn ρ z : Int), vI (bPr ρ z), vI (i : Int)] [] J R 89 := by
    intro d
    induction d with
    | zero =>
      intro i J hi hf hs ha1 ha2 hx
      refine gX11_goBell_72 hR ⟨⟨by omega, by omega⟩, ⟨by omega, by omega⟩, fun _ => gX11_goBell_101 hR ?_, fun q => absurd (by omega) q⟩
      rw [show i = bQn ρ z by omega] at hx
      exact ⟨rfl, hf, hs, hx⟩
    | succ d ih =>
      intro i J hi hf hs ha1 ha2 hx
      have hX := MRo_frm h hf (by decide)
      have hb := bAt (l := bBs ρ z) (i := i) (by have := hq.1; omega)
      have hs' := bAt (l := bSs ρ z) (i := i) (by have := hq.2.1; omega)
      have hbm := bBs_bd hok (List.mem_of_getElem? hb)
      have hsm := bSs_bd hok (List.mem_of_getElem? hs')
      have eb := ha1 i _ hb
      have es := ha2 i _ hs'
      have ek : (i : Int) + 1 = ((i + 1 : Nat) : Int) := by omega
      refine gX11_goBell_72 hR ?_
      rw [Int.toNat_natCast, eb, es]
      refine ⟨⟨by omega, by omega⟩, ⟨by omega, by omega⟩, fun q => absurd q (by omega), fun _ => ⟨⟨by omega, by omega⟩, _, aX11_trade hR hX hok hbm.1 hsm.1 hx (bellR_ok hok z i (by omega)) (by omega) (bPr_bd hok (by omega)), fun I4 R4 hq4 => ?_⟩⟩
      obtain ⟨rfl, f4, x4, s4⟩ := hq4
      rw [ek]
      exact ⟨rfl, ih (i + 1) I4 (by omega) (frm_trans hf (frm_sub f4 (by decide))) (fun j hj => (s4 j (Or.inl (by omega))).trans (hs j hj)) (arrIs_same ha1 (f4 83 (by decide))) (arrIs_same ha2 (f4 84 (by decide))) x4⟩
  have first : ∀ (d p : Nat) (J : II), p + d = rN ρ → frm [82] I J → (∀ q, q < p → J 82 q = bv ρ z q) → wp (kN 89) mX11_goBell (fun _ I' R' => R = R' ∧ frm [68, 82, 83, 84, 85] I I' ∧ mLow I I' ∧ MS I' z (bellR ρ z (bQn ρ z))) 2 [vR 68, vI (p : Int), none, none] [] J R 89 := by
    intro d
    induction d with
    | zero =>
      intro p J hp hf hd
      have hp' : p = rN ρ := by omega
      subst hp'
      have hX := MRo_frm h hf (by decide)
      have hJ := MS_frm hx hf (by decide) (fun j _ _ _ => hf 68 (by decide) j)
      have e0 : J 70 0 = rN ρ := hX.1
      have hsh : mSh J (rN ρ) (rS ρ) (bv ρ z) := ⟨e0, hn, fun p hp => ⟨(hX.2.1 p hp).1, (hok.2.1 p).1, hd p hp⟩⟩
      refine gX11_goBell_2 hR ⟨⟨by omega, by omega⟩, ⟨by omega, by omega⟩, fun _ => ?_, fun q => absurd (by omega) q⟩
      refine ⟨_, aX11_layLines hR hsh hok.2.2.2.2.2.2.2.1.2 hok.2.2.2.2.2.2.2.2.2 (bv_bd hok z), fun I3 R3 hq3 => ?_⟩
      obtain ⟨rfl, m3, f3⟩ := hq3
      have hX3 := MRo_frm hX f3.1 (by decide)
      have e1 : I3 74 1 = rP ρ 1 := hX3.2.2 1 (by decide)
      have hv3 : mV I3 (bv ρ z) (bBs ρ z) (bSs ρ z) := mV_of hn (fun p hp => ((mSh_frm hsh f3).2.2 p hp).2.2)
      have hJ3 : MS I3 z σ0 := MS_frm hJ f3.1 (by decide) (fun j h1 h2 _ => f3.2 j (by omega) (by omega))
      have hf3 : frm [68, 82, 83, 84, 85] I I3 := frm_trans (frm_sub hf (by decide)) (frm_sub f3.1 (by decide))
      have hl3 : mLow I I3 := fun j hj => (f3.2 j (by omega) (by omega)).trans (hf 68 (by decide) j)
      rw [e1]
      refine ⟨rfl, _, aX11_quantity hR m3 hv3 hlen.1 hlen.2 (bv_bd hok z) (okT hok), fun x4 I4 R4 hq4 => ?_⟩
      obtain ⟨rfl, rfl, e⟩ := hq4
      have ex : x4 = (bQn ρ z : Int) := by cases e; rfl
      subst ex
      rw [e1]
      refine ⟨rfl, ⟨by omega, by omega⟩, fun hle => gX11_goBell_101 hR ?_, fun hgt => ⟨_, aX11_lowest hR m3 hv3 hlen.1 hlen.2 (k := bQn ρ z) (by omega) hq.2.1 (bv_bd hok z) (okT hok), fun x6 I6 R6 hq6 => ?_⟩⟩
      · refine ⟨rfl, hf3, hl3, ?_⟩
        rw [show bQn ρ z = 0 by omega]
        exact hJ3
      · obtain ⟨rfl, rfl, e⟩ := hq6
        have ex : x6 = bPr ρ z := by cases e; rfl
        subst ex
        exact ⟨rfl, loop (bQn ρ z) 0 I3 (by omega) hf3 hl3 m3.2.2.1 m3.2.2.2 hJ3⟩
    | succ d ih =>
      intro p J hp hf hd
      have hX := MRo_frm h hf (by decide)
      have hJ := MS_frm hx hf (by decide) (fun j _ _ _ => hf 68 (by decide) j)
      have e0 : J 70 0 = rN ρ := hX.1
      have e8 : J 74 0 = rP ρ 0 := hX.2.2 0 (by decide)
      have z3 : J 68 21 = z := hJ.1
      have l4 : J 68 22 = -4 := hJ.2.1
      have ek : (p : Int) + 1 = ((p + 1 : Nat) : Int) := by omega
      have sh := aX11_shoutOf (p := p) (t := rP ρ 0 - 1) (k := p) (j := 1) hR hX hok (by omega) (lastStep hok) (by rw [l4]; exact Or.inl rfl) (by rw [z3]; exact hz) ⟨by omega, by omega⟩ ⟨by decide, by decide⟩
      rw [l4, z3] at sh
      refine gX11_goBell_2 hR ⟨⟨by omega, by omega⟩, ⟨by omega, by omega⟩, fun q => absurd q (by omega), fun _ => ?_⟩
      rw [e8, Int.toNat_natCast]
      refine ⟨_, sh, fun x7 I7 R7 hq => ?_⟩
      obtain ⟨rfl, rfl, e⟩ := hq
      cases e
      refine ⟨rfl, ⟨by omega, by omega⟩, fun I9 q9 => ?_⟩
      rw [ek]
      refine ih (p + 1) I9 (by omega) (by rw [q9]; exact frm_trans hf (frm_up (by decide))) (fun q hq => ?_)
      rw [q9, up2_at]
      by_cases hjp : q = p
      · rw [if_pos hjp, hjp]; rfl
      · rw [if_neg hjp]; exact hd q (by omega)
  exact first (rN ρ) 0 I (by omega) frm_rfl (fun j hj => by omega)
