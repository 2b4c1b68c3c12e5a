/-! the room as a value: PEOPLE, who sells, CARDS, LAWS, and STEPS, TAX, LID, NEAR, HOLD -/
abbrev RM : Type := Nat × (Nat → Int) × (Nat → Int) × (Nat → Int) × (Nat → Int)
def rN (ρ : RM) : Nat := ρ.1
def rS (ρ : RM) : Nat → Int := ρ.2.1
def rC (ρ : RM) : Nat → Int := ρ.2.2.1
def rL (ρ : RM) : Nat → Int := ρ.2.2.2.1
def rP (ρ : RM) : Nat → Int := ρ.2.2.2.2
def okRM (ρ : RM) : Prop := rN ρ ≤ 20 ∧ (∀ p, (rS ρ p = 0 ∨ rS ρ p = 1) ∧ 0 ≤ rC ρ p ∧ rC ρ p ≤ 99 ∧ 0 ≤ rL ρ p ∧ rL ρ p ≤ 5) ∧ (1 ≤ rP ρ 0 ∧ rP ρ 0 ≤ 200) ∧ (0 ≤ rP ρ 1 ∧ rP ρ 1 ≤ 50) ∧ (0 ≤ rP ρ 2 ∧ rP ρ 2 ≤ 99) ∧ (0 ≤ rP ρ 3 ∧ rP ρ 3 ≤ 50) ∧ (0 ≤ rP ρ 4 ∧ rP ρ 4 ≤ 99) ∧ (1 ≤ cntB (S0 (rS ρ)) (rN ρ) ∧ cntB (S0 (rS ρ)) (rN ρ) ≤ 10) ∧ (1 ≤ cntB (S1 (rS ρ)) (rN ρ) ∧ cntB (S1 (rS ρ)) (rN ρ) ≤ 10)
/-- those of m PEOPLE, as they come -/
def flt (S : Nat → Bool) : Nat → List Nat
  | 0 => []
  | m + 1 => if S m = true then flt S m ++ [m] else flt S m
/-- the class's room at r holds ρ -/
def XR (I : II) (R : RR) (r : Nat) (ρ : RM) : Prop :=
  I r 5 = rN ρ ∧ I r 6 = cntB (S0 (rS ρ)) (rN ρ) ∧ I r 7 = cntB (S1 (rS ρ)) (rN ρ) ∧ I r 8 = rP ρ 0 ∧ I r 9 = rP ρ 1 ∧ I r 10 = rP ρ 2 ∧ I r 11 = rP ρ 3 ∧ I r 12 = rP ρ 4 ∧
  (∀ p, p < rN ρ → I (R r 0) p = rS ρ p ∧ I (R r 1) p = rC ρ p ∧ I (R r 2) p = rL ρ p) ∧ arrIs I (R r 3) (flt (S0 (rS ρ)) (rN ρ)) ∧ arrIs I (R r 4) (flt (S1 (rS ρ)) (rN ρ))
/-- the reference's room holds ρ -/
def MRo (I : II) (ρ : RM) : Prop := I 70 0 = rN ρ ∧ (∀ p, p < rN ρ → I 71 p = rS ρ p ∧ I 72 p = rC ρ p ∧ I 73 p = rL ρ p) ∧ ∀ k, k < 5 → I 74 k = rP ρ k
theorem roomR {R : RR} {r : Nat} (hR : SR R) (hr : r = 6 ∨ r = 12) : R r 0 = r + 1 ∧ R r 1 = r + 2 ∧ R r 2 = r + 3 ∧ R r 3 = r + 4 ∧ R r 4 = r + 5 := by
  rcases hr with rfl | rfl
  · exact ⟨r_6_0 hR, r_6_1 hR, r_6_2 hR, r_6_3 hR, r_6_4 hR⟩
  · exact ⟨r_12_0 hR, r_12_1 hR, r_12_2 hR, r_12_3 hR, r_12_4 hR⟩
theorem roomO {R : RR} {r : Nat} (hR : SR R) (hr : r = 6 ∨ r = 12) : isO 89 r 6 ∧ isA 89 (R r 0) 2 20 ∧ isA 89 (R r 1) 1 20 ∧ isA 89 (R r 2) 1 20 ∧ isA 89 (R r 3) 1 10 ∧ isA 89 (R r 4) 1 10 := by
  obtain ⟨e0, e1, e2, e3, e4⟩ := roomR hR hr
  rw [e0, e1, e2, e3, e4]
  rcases hr with rfl | rfl
  · exact ⟨o_6, a_7, a_8, a_9, a_10, a_11⟩
  · exact ⟨o_12, a_13, a_14, a_15, a_16, a_17⟩
theorem XR_frm {T : List Nat} {I I' : II} {R : RR} {r : Nat} {ρ : RM} (hR : SR R) (hr : r = 6 ∨ r = 12) (h : XR I R r ρ) (hf : frm T I I') (hd : ∀ x ∈ T, ¬ (r ≤ x ∧ x ≤ r + 5)) : XR I' R r ρ := by
  obtain ⟨e0, e1, e2, e3, e4⟩ := roomR hR hr
  have g : ∀ x, r ≤ x → x ≤ r + 5 → ∀ j, I' x j = I x j := fun x h1 h2 => hf x (fun hx => hd x hx ⟨h1, h2⟩)
  obtain ⟨h5, h6, h7, h8, h9, h10, h11, h12, hp, hb, hs⟩ := h
  have gr := g r (by omega) (by omega)
  refine ⟨(gr 5).trans h5, (gr 6).trans h6, (gr 7).trans h7, (gr 8).trans h8, (gr 9).trans h9, (gr 10).trans h10, (gr 11).trans h11, (gr 12).trans h12, fun p hpn => ?_, ?_, ?_⟩
  · obtain ⟨x, y, z⟩ := hp p hpn
    rw [g (R r 0) (by omega) (by omega), g (R r 1) (by omega) (by omega), g (R r 2) (by omega) (by omega)]
    exact ⟨x, y, z⟩
  · exact arrIs_same hb (g _ (by omega) (by omega))
  · exact arrIs_same hs (g _ (by omega) (by omega))
theorem MRo_frm {T : List Nat} {I I' : II} {ρ : RM} (h : MRo I ρ) (hf : frm T I I') (hd : ∀ x ∈ T, ¬ (70 ≤ x ∧ x ≤ 74)) : MRo I' ρ := by
  have g : ∀ x, 70 ≤ x → x ≤ 74 → ∀ j, I' x j = I x j := fun x h1 h2 => hf x (fun hx => hd x hx ⟨h1, h2⟩)
  refine ⟨(g 70 (by omega) (by omega) 0).trans h.1, fun p hp => ?_, fun k hk => (g 74 (by omega) (by omega) k).trans (h.2.2 k hk)⟩
  rw [g 71 (by omega) (by omega), g 72 (by omega) (by omega), g 73 (by omega) (by omega)]
  exact h.2.1 p hp
theorem lns24 {R : RR} (hR : SR R) : LNS 89 R 24 := by
  unfold LNS LN lineT
  simp only [r_24_0 hR, r_24_1 hR, r_25_1 hR, r_25_2 hR, r_28_1 hR, r_28_2 hR]
  exact ⟨o_24, ⟨o_25, a_26, a_27, by decide, by decide, by decide⟩, ⟨o_28, a_29, a_30, by decide, by decide, by decide⟩, by decide, by decide, by decide⟩
theorem lns31 {R : RR} (hR : SR R) : LNS 89 R 31 := by
  unfold LNS LN lineT
  simp only [r_31_0 hR, r_31_1 hR, r_32_1 hR, r_32_2 hR, r_35_1 hR, r_35_2 hR]
  exact ⟨o_31, ⟨o_32, a_33, a_34, by decide, by decide, by decide⟩, ⟨o_35, a_36, a_37, by decide, by decide, by decide⟩, by decide, by decide, by decide⟩
theorem lns41 {R : RR} (hR : SR R) : LNS 89 R 41 := by
  unfold LNS LN lineT
  simp only [r_41_0 hR, r_41_1 hR, r_42_1 hR, r_42_2 hR, r_45_1 hR, r_45_2 hR]
  exact ⟨o_41, ⟨o_42, a_43, a_44, by decide, by decide, by decide⟩, ⟨o_45, a_46, a_47, by decide, by decide, by decide⟩, by decide, by decide, by decide⟩
theorem lT24 {R : RR} (hR : SR R) : linesT R 24 = [25, 26, 27, 28, 29, 30] := by
  unfold linesT lineT; simp only [r_24_0 hR, r_24_1 hR, r_25_1 hR, r_25_2 hR, r_28_1 hR, r_28_2 hR]; rfl
theorem lT31 {R : RR} (hR : SR R) : linesT R 31 = [32, 33, 34, 35, 36, 37] := by
  unfold linesT lineT; simp only [r_31_0 hR, r_31_1 hR, r_32_1 hR, r_32_2 hR, r_35_1 hR, r_35_2 hR]; rfl
theorem lT41 {R : RR} (hR : SR R) : linesT R 41 = [42, 43, 44, 45, 46, 47] := by
  unfold linesT lineT; simp only [r_41_0 hR, r_41_1 hR, r_42_1 hR, r_42_2 hR, r_45_1 hR, r_45_2 hR]; rfl
/-- which way each line goes -/
def XF (I : II) : Prop := I 25 0 = 0 ∧ I 28 0 = 1 ∧ I 32 0 = 0 ∧ I 35 0 = 1 ∧ I 42 0 = 0 ∧ I 45 0 = 1
def rB (ρ : RM) : List Nat := BLs (rS ρ) (rC ρ) (rN ρ)
def rSl (ρ : RM) : List Nat := SLs (rS ρ) (rC ρ) (rN ρ)
theorem BLs_eq {sd v : Nat → Int} {n : Nat} (h : ∀ p, p < n → sd p = 0 → 0 ≤ v p ∧ v p ≤ 99) : BLs sd v n = insAll (S0 sd) (kf 0 v) n := by
  refine insAll_congr n (fun p hp => ?_) (fun _ _ => rfl)
  by_cases e : sd p = 0
  · have := h p hp e
    simp only [Sr, S0, e, decide_true, Bool.true_and, decide_eq_true_eq, kf, if_true]
    omega
  · simp [Sr, S0, e]
theorem SLs_eq {sd v : Nat → Int} {n : Nat} (h : ∀ p, p < n → sd p = 1 → 0 ≤ v p ∧ v p ≤ 99) : SLs sd v n = insAll (S1 sd) (kf 1 v) n := by
  refine insAll_congr n (fun p hp => ?_) (fun _ _ => rfl)
  by_cases e : sd p = 1
  · have := h p hp e
    simp only [Sr, S1, e, decide_true, Bool.true_and, decide_eq_true_eq, kf, show ¬ ((1 : Int) = 0) by decide, if_false]
    omega
  · simp [Sr, S1, e]
theorem BLs_len {sd v : Nat → Int} {n : Nat} : (BLs sd v n).length ≤ cntB (S0 sd) n := by
  unfold BLs; rw [insAll_len]; exact cntB_mono (fun p hp => by simp only [Sr, Bool.and_eq_true] at hp; exact hp.1) n
theorem SLs_len {sd v : Nat → Int} {n : Nat} : (SLs sd v n).length ≤ cntB (S1 sd) n := by
  unfold SLs; rw [insAll_len]; exact cntB_mono (fun p hp => by simp only [Sr, Bool.and_eq_true] at hp; exact hp.1) n
theorem BLs_mem {sd v : Nat → Int} {n p : Nat} (h : p ∈ BLs sd v n) : p < n ∧ sd p = 0 := by
  have := (insAll_mem n).mp h
  simp only [Sr, S0, Bool.and_eq_true, decide_eq_true_eq] at this
  exact ⟨this.1, this.2.1⟩
theorem SLs_mem {sd v : Nat → Int} {n p : Nat} (h : p ∈ SLs sd v n) : p < n ∧ sd p = 1 := by
  have := (insAll_mem n).mp h
  simp only [Sr, S1, Bool.and_eq_true, decide_eq_true_eq] at this
  exact ⟨this.1, this.2.1⟩
theorem okC {ρ : RM} (h : okRM ρ) : ∀ q, -1000 ≤ rC ρ q ∧ rC ρ q ≤ 1000 := fun q => by have := h.2.1 q; omega
theorem okT {ρ : RM} (h : okRM ρ) : -1000 ≤ rP ρ 1 ∧ rP ρ 1 ≤ 1000 := by have := h.2.2.2.1; omega
/-- the class's lines of all true CARDS -/
theorem meet24 {I : II} {R : RR} {ρ : RM} {t : Int} (hR : SR R) (hr : R 1 2 = 6 ∨ R 1 2 = 12) (h : XR I R (R 1 2) ρ) (hok : okRM ρ) (hF : XF I) (ht : -1000 ≤ t ∧ t ≤ 1000) :
    Spec mX3_meet [vR 24, vR (R 1 2), vI t] I R 89 89 (fun _ I' R' => R' = R ∧ linesIs I' R 24 (rB ρ) (rSl ρ) (rC ρ) ∧ frm [24, 25, 26, 27, 28, 29, 30] I I' ∧ crossIs I' R 24 (rB ρ) (rSl ρ) (rC ρ) t) := by
  obtain ⟨o, a0, a1, a2, a3, a4⟩ := roomO hR hr
  obtain ⟨e0, e1, e2, e3, e4⟩ := roomR hR hr
  have := aX3_meet (n := 24) (r := R 1 2) (m := rN ρ) (sd := rS ρ) (v := rC ρ) (t := t) (I := I) (by decide) (lns24 hR) (by rw [r_24_0 hR]; exact hF.1) (by rw [r_24_1 hR]; exact hF.2.1) o a0 a1 (fun p hp => ⟨(h.2.2.2.2.2.2.2.2.1 p hp).1, (hok.2.1 p).1⟩) (fun p hp => (h.2.2.2.2.2.2.2.2.1 p hp).2.1) hok.1 h.1 (fun x hx => by
    rw [lT24 hR] at hx
    rw [e0, e1]
    simp only [List.mem_cons, List.not_mem_nil, or_false] at hx ⊢
    omega) hok.2.2.2.2.2.2.2.1.2 hok.2.2.2.2.2.2.2.2.2 (okC hok) ht
  rw [lT24 hR, ← BLs_eq (fun p _ _ => by have := hok.2.1 p; omega), ← SLs_eq (fun p _ _ => by have := hok.2.1 p; omega)] at this
  exact this
theorem meet31 {I : II} {R : RR} {ρ : RM} {t : Int} (hR : SR R) (hr : R 1 2 = 6 ∨ R 1 2 = 12) (h : XR I R (R 1 2) ρ) (hok : okRM ρ) (hF : XF I) (ht : -1000 ≤ t ∧ t ≤ 1000) :
    Spec mX3_meet [vR 31, vR (R 1 2), vI t] I R 89 89 (fun _ I' R' => R' = R ∧ linesIs I' R 31 (rB ρ) (rSl ρ) (rC ρ) ∧ frm [31, 32, 33, 34, 35, 36, 37] I I' ∧ crossIs I' R 31 (rB ρ) (rSl ρ) (rC ρ) t) := by
  obtain ⟨o, a0, a1, a2, a3, a4⟩ := roomO hR hr
  obtain ⟨e0, e1, e2, e3, e4⟩ := roomR hR hr
  have := aX3_meet (n := 31) (r := R 1 2) (m := rN ρ) (sd := rS ρ) (v := rC ρ) (t := t) (I := I) (by decide) (lns31 hR) (by rw [r_31_0 hR]; exact hF.2.2.1) (by rw [r_31_1 hR]; exact hF.2.2.2.1) o a0 a1 (fun p hp => ⟨(h.2.2.2.2.2.2.2.2.1 p hp).1, (hok.2.1 p).1⟩) (fun p hp => (h.2.2.2.2.2.2.2.2.1 p hp).2.1) hok.1 h.1 (fun x hx => by
    rw [lT31 hR] at hx
    rw [e0, e1]
    simp only [List.mem_cons, List.not_mem_nil, or_false] at hx ⊢
    omega) hok.2.2.2.2.2.2.2.1.2 hok.2.2.2.2.2.2.2.2.2 (okC hok) ht
  rw [lT31 hR, ← BLs_eq (fun p _ _ => by have := hok.2.1 p; omega), ← SLs_eq (fun p _ _ => by have := hok.2.1 p; omega)] at this
  exact this
def rQ (ρ : RM) (t : Int) : Nat := qty (rC ρ) t (rB ρ) (rSl ρ)
def linesSp (ρ : RM) (w : Int) : Int :=
  if 0 ≤ w ∧ w ≤ 4 then
    if w = 0 then rQ ρ (rP ρ 1) else if w = 1 then psum (rC ρ) (rB ρ) (rQ ρ (rP ρ 1)) - psum (rC ρ) (rSl ρ) (rQ ρ (rP ρ 1))
    else if rQ ρ (rP ρ 1) = 0 then -4 else if w = 2 then lowP (rC ρ) (rP ρ 1) (rB ρ) (rSl ρ) (rQ ρ (rP ρ 1)) else if w = 3 then highP (rC ρ) (rP ρ 1) (rB ρ) (rSl ρ) (rQ ρ (rP ρ 1))
    else lowP (rC ρ) (rP ρ 1) (rB ρ) (rSl ρ) (rQ ρ (rP ρ 1)) - lowP (rC ρ) 0 (rB ρ) (rSl ρ) (rQ ρ 0)
  else -1
theorem qty_pos {v : Nat → Int} {t : Int} {bl sl : List Nat} (ht : 0 ≤ t) (h : qty v t bl sl ≠ 0) : qty v 0 bl sl ≠ 0 := by
  have hq := qty_is (v := v) (t := t) bl sl
  have h0 := qty_is (v := v) (t := 0) bl sl
  intro e
  rw [e] at h0
  have hq1 := hq.1
  have hq2 := hq.2.1
  obtain ⟨b, hb⟩ : ∃ q', bl[0]? = some q' := ⟨bl[0], List.getElem?_eq_getElem (by omega)⟩
  obtain ⟨s, hs⟩ : ∃ q', sl[0]? = some q' := ⟨sl[0], List.getElem?_eq_getElem (by omega)⟩
  have := h0.2.2.2 b s hb hs
  have := hq.2.2.1 0 b s (by omega) hb hs
  omega
theorem rQ_le {ρ : RM} {t : Int} : rQ ρ t ≤ (rB ρ).length ∧ rQ ρ t ≤ (rSl ρ).length := ⟨(qty_is _ _).1, (qty_is _ _).2.1⟩
theorem lowP_bd {v : Nat → Int} {t : Int} {bl sl : List Nat} {q : Nat} (hv : ∀ q, -1000 ≤ v q ∧ v q ≤ 1000) (ht : -1000 ≤ t ∧ t ≤ 1000) : -10000 ≤ lowP v t bl sl q ∧ lowP v t bl sl q ≤ 10000 := by
  have g : ∀ (l : List Nat) k, -1000 ≤ gv v l k ∧ gv v l k ≤ 1000 := fun l k => by
    unfold gv
    cases h : l[k]? with
    | none => show -1000 ≤ (0 : Int) ∧ (0 : Int) ≤ 1000; omega
    | some q => exact hv q
  have g1 := g sl (q - 1)
  have g2 := g bl q
  unfold lowP
  split
  · omega
  · split
    · rw [Int.max_def]; split <;> omega
    · omega
theorem aX10_lines {I : II} {R : RR} {ρ : RM} {w : Int} (hR : SR R) (hr : R 1 2 = 6 ∨ R 1 2 = 12) (h : XR I R (R 1 2) ρ) (hok : okRM ρ) (hF : XF I) (hw : InI w) :
    Spec mX10_lines [vR 1, vI w] I R 89 89 (fun rv I' R' => R = R' ∧ frm [24, 25, 26, 27, 28, 29, 30, 31, 32, 33, 34, 35, 36, 37] I I' ∧ XF I' ∧ rv = vI (linesSp ρ w)) := by
  have ht := okT hok
  obtain ⟨o, a0, a1, a2, a3, a4⟩ := roomO hR hr
  have hlb : (rB ρ).length ≤ 10 := Nat.le_trans BLs_len hok.2.2.2.2.2.2.2.1.2
  have q1 := rQ_le (ρ := ρ) (t := rP ρ 1)
  refine sX10_lines (gX10_lines_0 hR ⟨hw, fun hc => ⟨o, ?_⟩, fun hc => ⟨rfl, frm_rfl, hF, by unfold linesSp; rw [if_neg hc]⟩⟩)
  rw [h.2.2.2.2.1]
  refine ⟨_, meet24 hR hr h hok hF ht, fun I4 R4 hq => ?_⟩
  obtain ⟨rfl, l4, f4, c2, c3, c4, c5⟩ := hq
  have f4' : frm [24, 25, 26, 27, 28, 29, 30, 31, 32, 33, 34, 35, 36, 37] I I4 := frm_sub f4 (by simp)
  have hF4 : XF I4 := by
    obtain ⟨-, -, z1, z2⟩ := l4
    rw [r_24_0 hR] at z1
    rw [r_24_1 hR] at z2
    exact ⟨z1, z2, (f4 32 (by simp) 0).trans hF.2.2.1, (f4 35 (by simp) 0).trans hF.2.2.2.1, (f4 42 (by simp) 0).trans hF.2.2.2.2.1, (f4 45 (by simp) 0).trans hF.2.2.2.2.2⟩
  have h4 : XR I4 R4 (R4 1 2) ρ := XR_frm hR hr h f4 (fun x hx => by simp at hx; omega)
  have e2 : I4 24 2 = (rQ ρ (rP ρ 1) : Int) := c2
  refine ⟨rfl, fun hw0 => ⟨fun hw1 => ⟨⟨by omega, by omega⟩, fun hq0 => ⟨fun hw4 => ⟨fun hw2 => ⟨rfl, f4', hF4, ?_⟩, fun hw2 => ⟨rfl, f4', hF4, ?_⟩⟩, fun hw4 => ⟨_, meet31 hR hr h4 hok hF4 (by omega), fun I7 R7 hq7 => ?_⟩⟩, fun hq0 => ⟨rfl, f4', hF4, ?_⟩⟩, fun hw1 => ⟨rfl, f4', hF4, ?_⟩⟩, fun hw0 => ⟨rfl, f4', hF4, ?_⟩⟩
  · unfold linesSp; rw [if_pos hc, if_neg hw0, if_neg hw1, if_neg (by omega), if_neg hw2, if_pos (by omega)]; rw [c5]; rfl
  · unfold linesSp; rw [if_pos hc, if_neg hw0, if_neg hw1, if_neg (by omega), if_pos hw2]; rw [c4]; rfl
  · obtain ⟨rfl, l7, f7, d2, d3, d4, d5⟩ := hq7
    have n0 : rQ ρ 0 ≠ 0 := qty_pos hok.2.2.2.1.1 (show rQ ρ (rP ρ 1) ≠ 0 by omega)
    have q0 := rQ_le (ρ := ρ) (t := 0)
    have e7 : I7 31 2 = (rQ ρ 0 : Int) := d2
    have f7' : frm [24, 25, 26, 27, 28, 29, 30, 31, 32, 33, 34, 35, 36, 37] I I7 := frm_trans f4' (frm_sub f7 (by simp))
    have hF7 : XF I7 := by
      obtain ⟨-, -, z1, z2⟩ := l7
      rw [r_31_0 hR] at z1
      rw [r_31_1 hR] at z2
      exact ⟨(f7 25 (by simp) 0).trans hF4.1, (f7 28 (by simp) 0).trans hF4.2.1, z1, z2, (f7 42 (by simp) 0).trans hF4.2.2.2.2.1, (f7 45 (by simp) 0).trans hF4.2.2.2.2.2⟩
    refine ⟨rfl, ⟨by omega, by omega⟩, fun _ => ⟨rfl, f7', hF7, ?_⟩, fun z => absurd (by omega) n0⟩
    unfold linesSp; rw [if_pos hc, if_neg hw0, if_neg hw1, if_neg (by omega), if_neg (by omega), if_neg (by omega), f7 24 (by simp) 4, c4, d4]; rfl
  · unfold linesSp; rw [if_pos hc, if_neg hw0, if_neg hw1, if_pos (by omega)]
  · unfold linesSp; rw [if_pos hc, if_neg hw0, if_pos hw1, c3]; rfl
  · unfold linesSp; rw [if_pos hc, if_pos hw0, e2]
