theorem Met.weak {l : Launch} {y : MethodName} {ws : List Cond} {rm : Room} {Pc : Array Value → State → Prop} {Qc Qc' : Array Value → State → Outcome → State → Prop} {mc ms : Nat} {free : Addr → Prop} (h : Met l y ws rm Pc Qc mc ms free) (hq : ∀ a st o t, Qc a st o t → Qc' a st o t) : Met l y ws rm Pc Qc' mc ms free := by
  intro p e ha hc hk s m args below hf hap hP hK
  obtain ⟨k, o, h1, h2, h3, h4, h5⟩ := h p e ha hc hk s m args below hf hap hP hK
  exact ⟨k, o, h1, h2, h3, hq _ _ _ _ h4, h5⟩
theorem Spec.mono {mt : MI} {as : List AV} {I : II} {R : RR} {N M : Nat} {Q Q' : QT} (h : Spec mt as I R N M Q) (hq : ∀ rv I' R', Q rv I' R' → Q' rv I' R') : Spec mt as I R N M Q' := by
  intro l D ρ ca sz
  refine Met.weak (h l D ρ ca sz) (fun a st o t hh => ?_)
  unfold QC at hh ⊢
  split
  · next h0 =>
    rw [if_pos h0] at hh
    obtain ⟨⟨u, e, hp, hb⟩, hf⟩ := hh
    exact ⟨⟨u, e, hq _ _ _ hp, hb⟩, hf⟩
  · next h0 =>
    rw [if_neg h0] at hh
    split
    · next h1 =>
      rw [if_pos h1] at hh
      obtain ⟨⟨r, u, e, ⟨x, hx, hp⟩, hb⟩, hf⟩ := hh
      exact ⟨⟨r, u, e, ⟨x, hx, hq _ _ _ hp⟩, hb⟩, hf⟩
    · next h1 =>
      rw [if_neg h1] at hh
      obtain ⟨⟨r, u, e, ⟨x, hx, ho, hp⟩, hb⟩, hf⟩ := hh
      exact ⟨⟨r, u, e, ⟨x, hx, ho, hq _ _ _ hp⟩, hb⟩, hf⟩
/-! the reference: lines, served -/
def mScr : List Nat := [68, 81, 82, 83, 84, 85, 86, 87, 88, 89]
/-- nothing of the reference that lasts has changed -/
def mKeep (I I' : II) : Prop := frm mScr I I' ∧ I' 68 0 = I 68 0 ∧ I' 68 13 = I 68 13
theorem mKeep_rfl {I : II} : mKeep I I := ⟨frm_rfl, rfl, rfl⟩
theorem mKeep_trans {I I1 I2 : II} (a : mKeep I I1) (b : mKeep I1 I2) : mKeep I I2 := ⟨frm_trans a.1 b.1, b.2.1.trans a.2.1, b.2.2.trans a.2.2⟩
theorem mKeep_frm {T : List Nat} {I I' : II} (h : frm T I I') (hT : ∀ x ∈ T, x ∈ mScr ∧ x ≠ 68) : mKeep I I' := ⟨frm_sub h (fun i hi => (hT i hi).1), h 68 (fun q => (hT 68 q).2 rfl) 0, h 68 (fun q => (hT 68 q).2 rfl) 13⟩
theorem mKeep_mFr {I I' : II} (h : mFr I I') : mKeep I I' := ⟨frm_sub h.1 (by decide), h.2 0 (by decide) (by decide), h.2 13 (by decide) (by decide)⟩
theorem MRo_keep {I I' : II} {ρ : RM} (h : MRo I ρ) (hk : mKeep I I') : MRo I' ρ := MRo_frm h hk.1 (by decide)
theorem mV_of {I : II} {n : Nat} {sd v : Nat → Int} (hn : n ≤ 20) (h : ∀ p, p < n → I 82 p = v p) : mV I v (BLs sd v n) (SLs sd v n) :=
  ⟨fun p hp => ⟨by have := (BLs_mem hp).1; omega, h p (BLs_mem hp).1⟩, fun p hp => ⟨by have := (SLs_mem hp).1; omega, h p (SLs_mem hp).1⟩⟩
/-- shown true, laid -/
theorem mLaid {I : II} {R : RR} {ρ : RM} (hR : SR R) (h : MRo I ρ) (hok : okRM ρ) :
    Spec mX11_showTrue [vR 68] I R 89 89 (fun _ I3 R3 => R = R3 ∧ mKeep I I3 ∧ Spec mX11_layLines [vR 68] I3 R 89 89 (fun _ I4 R4 => R = R4 ∧ mKeep I I4 ∧ mlIs I4 (rB ρ) (rSl ρ) ∧ mV I4 (rC ρ) (rB ρ) (rSl ρ))) := by
  refine Spec.mono (aX11_showTrue hR h.1 hok.1) (fun rv I3 R3 hq => ?_)
  obtain ⟨rfl, s3, f3⟩ := hq
  have k3 : mKeep I I3 := mKeep_frm f3 (by decide)
  have h3 := MRo_keep h k3
  have hsh : mSh I3 (rN ρ) (rS ρ) (rC ρ) := ⟨h3.1, hok.1, fun p hp => ⟨(h3.2.1 p hp).1, (hok.2.1 p).1, (s3 p hp).trans (h.2.1 p hp).2.1⟩⟩
  refine ⟨rfl, k3, Spec.mono (aX11_layLines hR hsh hok.2.2.2.2.2.2.2.1.2 hok.2.2.2.2.2.2.2.2.2 (okC hok)) (fun rv I4 R4 hq4 => ?_)⟩
  obtain ⟨rfl, m4, f4⟩ := hq4
  exact ⟨rfl, mKeep_trans k3 (mKeep_mFr f4), m4, mV_of hok.1 (fun p hp => ((mSh_frm hsh f4).2.2 p hp).2.2)⟩
theorem okLb {ρ : RM} (hok : okRM ρ) : (rB ρ).length ≤ 10 := Nat.le_trans BLs_len hok.2.2.2.2.2.2.2.1.2
theorem okLs {ρ : RM} (hok : okRM ρ) : (rSl ρ).length ≤ 10 := Nat.le_trans SLs_len hok.2.2.2.2.2.2.2.2.2
theorem aX11_rQ {I : II} {R : RR} {ρ : RM} {t : Int} (hR : SR R) (hok : okRM ρ) (h : mlIs I (rB ρ) (rSl ρ)) (hm : mV I (rC ρ) (rB ρ) (rSl ρ)) (ht : -1000 ≤ t ∧ t ≤ 1000) :
    Spec mX11_quantity [vR 68, vI t] I R 89 89 (fun rv I' R' => R = R' ∧ I = I' ∧ rv = vI (rQ ρ t : Int)) := aX11_quantity hR h hm (okLb hok) (okLs hok) (okC hok) ht
theorem aX11_lines {I : II} {R : RR} {ρ : RM} {w : Int} (hR : SR R) (h : MRo I ρ) (hok : okRM ρ) (hw : InI w) :
    Spec mX11_lines [vR 68, vI w] I R 89 89 (fun rv I' R' => R = R' ∧ mKeep I I' ∧ rv = vI (linesSp ρ w)) := by
  have ht := okT hok
  have hlb := okLb hok
  have hls := okLs hok
  have q1 := rQ_le (ρ := ρ) (t := rP ρ 1)
  have q0 := rQ_le (ρ := ρ) (t := 0)
  refine sX11_lines (gX11_lines_0 hR ⟨hw, fun hc => ⟨_, mLaid hR h hok, fun I3 R3 hq3 => ?_⟩, fun hc => ⟨rfl, mKeep_rfl, by unfold linesSp; rw [if_neg hc]⟩⟩)
  obtain ⟨rfl, k3, sp4⟩ := hq3
  refine ⟨rfl, _, sp4, fun I4 R4 hq4 => ?_⟩
  obtain ⟨rfl, k4, m4, v4⟩ := hq4
  have e1 : I4 74 1 = rP ρ 1 := (MRo_keep h k4).2.2 1 (by decide)
  rw [e1]
  refine ⟨rfl, _, aX11_rQ hR hok m4 v4 ht, fun x5 I5 R5 hq5 => ?_⟩
  obtain ⟨rfl, rfl, e5⟩ := hq5
  cases e5
  refine ⟨rfl, fun h2 => ⟨⟨by omega, by omega⟩, fun hn => ⟨fun w2 => ⟨fun w3 => ?_, fun w3 => ?_⟩, fun w2 => ?_⟩, fun hz => ⟨rfl, k4, ?_⟩⟩, fun h2 => ⟨fun w0 => ?_, fun w0 => ⟨rfl, k4, ?_⟩⟩⟩
  · refine ⟨_, aX11_lowest hR m4 v4 hlb hls (by omega) q1.2 (okC hok) ht, fun x7 I7 R7 hq7 => ?_⟩
    obtain ⟨rfl, rfl, e7⟩ := hq7
    cases e7
    refine ⟨rfl, _, aX11_rQ (t := 0) hR hok m4 v4 (by omega), fun x8 I8 R8 hq8 => ?_⟩
    obtain ⟨rfl, rfl, e8⟩ := hq8
    cases e8
    have n0 : rQ ρ 0 ≠ 0 := qty_pos hok.2.2.2.1.1 (show rQ ρ (rP ρ 1) ≠ 0 from fun e => hn (by show ((rQ ρ (rP ρ 1) : Nat) : Int) = 0; omega))
    refine ⟨rfl, _, aX11_lowest (t := 0) (k := rQ ρ 0) hR m4 v4 hlb hls (by omega) q0.2 (okC hok) (by omega), fun x9 I9 R9 hq9 => ?_⟩
    obtain ⟨rfl, rfl, e9⟩ := hq9
    cases e9
    refine ⟨rfl, rfl, k4, ?_⟩
    unfold linesSp
    rw [if_pos hc, if_neg (by omega), if_neg (by omega), if_neg (by omega), if_neg w2, if_neg w3]
  · refine ⟨_, aX11_highest hR m4 v4 hlb hls (by omega) q1.1 (okC hok) ht, fun x10 I10 R10 hq => ?_⟩
    obtain ⟨rfl, rfl, e⟩ := hq
    cases e
    refine ⟨rfl, rfl, k4, ?_⟩
    unfold linesSp
    rw [if_pos hc, if_neg (by omega), if_neg (by omega), if_neg (by omega), if_neg w2, if_pos w3]
  · refine ⟨_, aX11_lowest hR m4 v4 hlb hls (by omega) q1.2 (okC hok) ht, fun x11 I11 R11 hq => ?_⟩
    obtain ⟨rfl, rfl, e⟩ := hq
    cases e
    refine ⟨rfl, rfl, k4, ?_⟩
    unfold linesSp
    rw [if_pos hc, if_neg (by omega), if_neg (by omega), if_neg (by omega), if_pos w2]
  · unfold linesSp
    rw [if_pos hc, if_neg (by omega), if_neg (by omega), if_pos (by omega)]
  · refine ⟨_, aX11_gainOf hR m4 v4 hlb q1.1 q1.2, fun x12 I12 R12 hq => ?_⟩
    obtain ⟨rfl, rfl, e⟩ := hq
    cases e
    refine ⟨rfl, rfl, k4, ?_⟩
    unfold linesSp
    rw [if_pos hc, if_neg w0, if_pos (by omega)]
  · unfold linesSp
    rw [if_pos hc, if_pos w0]
