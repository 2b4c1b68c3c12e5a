/-! the reference reads THE TEXT -/
theorem MT_frm {T : List Nat} {I I' : II} {bs : List Int} (h : MT I bs) (hf : frm T I I') (h0 : I' 68 0 = I 68 0) (hT : ∀ x ∈ T, x ≠ 69) : MT I' bs :=
  ⟨h0.trans h.1, h.2.1, fun j b hb => (hf 69 (fun q => hT 69 q rfl) j).trans (h.2.2 j b hb)⟩
theorem mt_bt {I : II} {bs : List Int} {k : Nat} (h : MT I bs) (e : I 68 14 = (k : Int)) : (if (I 68 14) < I 68 0 then I 69 ((I 68 14)).toNat else 0) = bt bs k := by
  rw [e, h.1, Int.toNat_natCast]
  split
  · next hk =>
    obtain ⟨b, hb⟩ : ∃ b, bs[k]? = some b := ⟨bs[k]'(by omega), List.getElem?_eq_getElem (by omega)⟩
    rw [h.2.2 k b hb]; unfold bt; rw [hb]; rfl
  · next hk => rw [bt_end (by omega)]
/-- what a reading touches -/
def mRead (I I' : II) : Prop := frm [68, 70, 71, 72, 73, 74, 81] I I' ∧ (∀ j, j ≠ 14 → I' 68 j = I 68 j) ∧ I' 70 0 = I 70 0 ∧ (∀ x j, 71 ≤ x → x ≤ 73 → j < 20 → I' x j = I x j) ∧ ∀ j, j < 5 → I' 74 j = I 74 j
theorem mRead_rfl {I : II} : mRead I I := ⟨frm_rfl, fun _ _ => rfl, rfl, fun _ _ _ _ _ => rfl, fun _ _ => rfl⟩
theorem mRead_trans {I I1 I2 : II} (a : mRead I I1) (b : mRead I1 I2) : mRead I I2 := ⟨frm_trans a.1 b.1, fun j hj => (b.2.1 j hj).trans (a.2.1 j hj), b.2.2.1.trans a.2.2.1, fun x j h1 h2 h3 => (b.2.2.2.1 x j h1 h2 h3).trans (a.2.2.2.1 x j h1 h2 h3), fun j hj => (b.2.2.2.2 j hj).trans (a.2.2.2.2 j hj)⟩
/-- what finding figures touches -/
def mFig (I I' : II) : Prop := frm [68, 81] I I' ∧ ∀ j, j ≠ 14 → I' 68 j = I 68 j
theorem mFig_rfl {I : II} : mFig I I := ⟨frm_rfl, fun _ _ => rfl⟩
theorem mFig_trans {I I1 I2 : II} (a : mFig I I1) (b : mFig I1 I2) : mFig I I2 := ⟨frm_trans a.1 b.1, fun j hj => (b.2 j hj).trans (a.2 j hj)⟩
theorem mFig_14 {I : II} {x : Int} : mFig I (up2 I 68 14 x) := ⟨frm_up (by decide), fun j hj => up2_nj hj⟩
theorem mFig_81 {I : II} {k : Nat} {x : Int} : mFig I (up2 I 81 k x) := ⟨frm_up (by decide), fun j _ => up2_ne (by decide)⟩
theorem mFig_read {I I' : II} (h : mFig I I') : mRead I I' := ⟨frm_sub h.1 (by decide), h.2, h.1 70 (by decide) 0, fun x j h1 h2 _ => h.1 x (by simp only [List.mem_cons, List.not_mem_nil, or_false]; omega) j, fun j _ => h.1 74 (by decide) j⟩
theorem MT_fig {I I' : II} {bs : List Int} (h : MT I bs) (hf : mFig I I') : MT I' bs := MT_frm h hf.1 (hf.2 0 (by decide)) (by decide)
theorem MT_read {I I' : II} {bs : List Int} (h : MT I bs) (hf : mRead I I') : MT I' bs := MT_frm h hf.1 (hf.2.1 0 (by decide)) (by decide)
/-- only the place moves -/
def mPl (I I' : II) : Prop := frm [68] I I' ∧ ∀ j, j ≠ 14 → I' 68 j = I 68 j
theorem mPl_rfl {I : II} : mPl I I := ⟨frm_rfl, fun _ _ => rfl⟩
theorem mPl_trans {I I1 I2 : II} (a : mPl I I1) (b : mPl I1 I2) : mPl I I2 := ⟨frm_trans a.1 b.1, fun j hj => (b.2 j hj).trans (a.2 j hj)⟩
theorem mPl_14 {I : II} {x : Int} : mPl I (up2 I 68 14 x) := ⟨frm_up (by decide), fun j hj => up2_nj hj⟩
theorem mPl_fig {I I' : II} (h : mPl I I') : mFig I I' := ⟨frm_sub h.1 (by decide), h.2⟩
theorem ms12 {Q : QT} {R : RR} {bs : List Int} {a1 a2 : Int} (hR : SR R) (hb : okBs bs) : ∀ (r : Nat) (I : II) (k : Nat) (v : Int), r ≤ 4 → k ≤ 400 → MT I bs → I 68 14 = (k : Int) →
    (∀ J, mPl I J → J 68 14 = ((scan bs r k v).2.2 : Int) → wp (kN 89) mX11_figures Q 73 [vR 68, vI a1, vI a2, vI (4 - ((scan bs r k v).1 : Int)), vI (scan bs r k v).2.1] [] J R 89) →
    wp (kN 89) mX11_figures Q 12 [vR 68, vI a1, vI a2, vI (4 - (r : Int)), vI v] [] I R 89 := by
  intro r
  induction r with
  | zero =>
    intro I k v hr hk h h14 K
    have bb := bt_bd hb k
    have hl := h.2.1
    refine gX11_figures_12 hR ?_
    rw [mt_bt h h14, h14, h.1]
    refine ⟨⟨by omega, by omega⟩, ⟨by omega, by omega⟩, ⟨by omega, by omega⟩, ⟨by omega, by omega⟩, fun q => ⟨⟨by omega, by omega⟩, fun _ => K I mPl_rfl h14, fun q2 => absurd q2 (by omega)⟩, fun _ => K I mPl_rfl h14⟩
  | succ r ih =>
    intro I k v hr hk h h14 K
    have bb := bt_bd hb k
    have hl := h.2.1
    refine gX11_figures_12 hR ?_
    rw [mt_bt h h14, h14, h.1]
    refine ⟨⟨by omega, by omega⟩, ⟨by omega, by omega⟩, ⟨by omega, by omega⟩, ⟨by omega, by omega⟩, fun q => ⟨⟨by omega, by omega⟩, fun q2 => absurd q2 (by omega), fun _ I9 q9 => ?_⟩, fun q => ?_⟩
    · have f9 : mPl I I9 := by rw [q9]; exact mPl_14
      rw [scan_yes q] at K
      rw [show 4 - ((r + 1 : Nat) : Int) + 1 = 4 - (r : Int) by omega]
      have hlt := bt_lt (bs := bs) (k := k) (by omega)
      exact ih I9 (k + 1) _ (by omega) (by omega) (MT_fig h (mPl_fig f9)) (by rw [q9, up2_self]; rfl) (fun J hJ => K J (mPl_trans f9 hJ))
    · rw [scan_no q] at K
      exact K I mPl_rfl h14
/-- one number, the last or not -/
theorem ms2 {Q : QT} {R : RR} {bs : List Int} {a1 a2 : Nat} {c : Int} {I : II} {k : Nat} (hR : SR R) (hb : okBs bs) (hc : c = if a1 ≤ a2 + 1 then 59 else 44) (ha : a1 ≤ 2) (h21 : a2 < a1) (hk : k ≤ 390) (h : MT I bs) (h14 : I 68 14 = (k : Int))
    (k0 : fg bs k c = none → ∀ J, mFig I J → Q (vI 0) J R)
    (k1 : ∀ a, fg bs k c = some a → ∀ J, mFig I J → J 81 a2 = a.1 → (∀ j, j ≠ a2 → J 81 j = I 81 j) → J 68 14 = (a.2 : Int) → wp (kN 89) mX11_figures Q 2 [vR 68, vI (a1 : Int), vI ((a2 + 1 : Nat) : Int), none, none] [] J R 89) :
    wp (kN 89) mX11_figures Q 2 [vR 68, vI (a1 : Int), vI (a2 : Int), none, none] [] I R 89 := by
  refine gX11_figures_2 hR ⟨⟨by omega, by omega⟩, ⟨by omega, by omega⟩, fun q => absurd q (by omega), fun _ => ?_⟩
  have key := ms12 (Q := Q) (a1 := a1) (a2 := a2) hR hb 4 I k 0 (Nat.le_refl _) (by omega) h h14 (fun J hJ hJ14 => ?_)
  · rw [show (4 - ((4 : Nat) : Int)) = 0 from rfl] at key; exact key
  have sv := scan_v bs 4 k 0 (Int.le_refl _)
  have sa := scan_at bs 4 k 0
  have hfg : fg bs k c = if (1 ≤ (scan bs 4 k 0).1 ∧ (scan bs 4 k 0).1 ≤ 3) ∧ bt bs (scan bs 4 k 0).2.2 = c then some ((scan bs 4 k 0).2.1, (scan bs 4 k 0).2.2 + 1) else none := rfl
  generalize scan bs 4 k 0 = s at hJ14 sv sa hfg ⊢
  have hJT := MT_fig h (mPl_fig hJ)
  have bb := bt_bd hb s.2.2
  have hl := h.2.1
  have fin : ∀ (I11 I12 : II), I11 = up2 J 81 a2 s.2.1 → I12 = up2 I11 68 14 (I11 68 14 + 1) → ((1 ≤ s.1 ∧ s.1 ≤ 3) ∧ bt bs s.2.2 = c) → wp (kN 89) mX11_figures Q 2 [vR 68, vI (a1 : Int), vI ((a2 : Int) + 1), none, none] [] I12 R 89 := by
    intro I11 I12 q11 q12 hs
    rw [if_pos hs] at hfg
    have f12 : mFig J I12 := by rw [q12, q11]; exact mFig_trans mFig_81 mFig_14
    rw [show (a2 : Int) + 1 = ((a2 + 1 : Nat) : Int) by omega]
    refine k1 _ hfg I12 (mFig_trans (mPl_fig hJ) f12) ?_ (fun j hj => ?_) ?_
    · rw [q12, up2_ne (by decide), q11, up2_self]
    · rw [q12, up2_ne (by decide), q11, up2_nj hj]; exact hJ.1 81 (by decide) j
    · rw [q12, up2_self, q11, up2_ne (by decide), hJ14]; rfl
  refine gX11_figures_73 hR ?_
  rw [mt_bt hJT hJ14, hJ14, hJT.1, Int.toNat_natCast]
  have bad : ¬ ((1 ≤ s.1 ∧ s.1 ≤ 3) ∧ bt bs s.2.2 = c) → wp (kN 89) mX11_figures Q 110 [none, none, none, none, none] [] J R 89 := fun q => gX11_figures_110 hR (k0 (by rw [hfg, if_neg q]) J (mPl_fig hJ))
  refine ⟨⟨by omega, by omega⟩, fun q => ⟨⟨by omega, by omega⟩, ⟨by omega, by omega⟩, ⟨by omega, by omega⟩, ⟨by omega, by omega⟩, ⟨by omega, by omega⟩, fun q2 => ⟨⟨by omega, by omega⟩, fun q3 => ⟨⟨by omega, by omega⟩, fun I11 q11 I12 q12 => fin I11 I12 q11 q12 ⟨by omega, ?_⟩⟩, fun q3 => bad (fun x => q3 ?_)⟩, fun q2 => ⟨⟨by omega, by omega⟩, fun q3 => ⟨⟨by omega, by omega⟩, fun I11 q11 I12 q12 => fin I11 I12 q11 q12 ⟨by omega, ?_⟩⟩, fun q3 => bad (fun x => q3 ?_)⟩⟩, fun q => bad (fun x => q (by omega))⟩
  · rw [hc, if_pos (by omega)]; exact q3
  · rw [x.2, hc, if_pos (by omega)]
  · rw [hc, if_neg (by omega)]; exact q3
  · rw [x.2, hc, if_neg (by omega)]
theorem aX11_fig1 {I : II} {R : RR} {bs : List Int} {k : Nat} (hR : SR R) (hb : okBs bs) (hk : k ≤ 390) (h : MT I bs) (h14 : I 68 14 = (k : Int)) :
    Spec mX11_figures [vR 68, vI 1] I R 89 89 (fun rv I' R' => R = R' ∧ mFig I I' ∧ (∀ a, fg bs k 59 = some a → rv = vI 1 ∧ I' 81 0 = a.1 ∧ I' 68 14 = (a.2 : Int)) ∧ (fg bs k 59 = none → rv = vI 0)) := by
  refine sX11_figures (gX11_figures_0 hR (ms2 (a1 := 1) (a2 := 0) (c := 59) hR hb rfl (by decide) (by decide) hk h h14 (fun hn J hJ => ⟨rfl, hJ, fun a e => (by rw [hn] at e; cases e), fun _ => rfl⟩) (fun a ha J hJ v0 _ w => ?_)))
  refine gX11_figures_2 hR ⟨⟨by decide, by decide⟩, ⟨by decide, by decide⟩, fun _ => ⟨rfl, hJ, fun b e => ?_, fun e => by rw [ha] at e; cases e⟩, fun q => absurd (Int.le_refl _) q⟩
  rw [ha] at e
  injection e with e
  subst e
  exact ⟨rfl, v0, w⟩
theorem aX11_fig2 {I : II} {R : RR} {bs : List Int} {k : Nat} (hR : SR R) (hb : okBs bs) (hk : k ≤ 310) (h : MT I bs) (h14 : I 68 14 = (k : Int)) :
    Spec mX11_figures [vR 68, vI 2] I R 89 89 (fun rv I' R' => R = R' ∧ mFig I I' ∧ (∀ a, two2 bs k = some a → rv = vI 1 ∧ I' 81 0 = a.1 ∧ I' 81 1 = a.2.1 ∧ I' 68 14 = (a.2.2 : Int)) ∧ (two2 bs k = none → rv = vI 0)) := by
  refine sX11_figures (gX11_figures_0 hR (ms2 (a1 := 2) (a2 := 0) (c := 44) hR hb rfl (by decide) (by decide) (by omega) h h14 (fun hn J hJ => ⟨rfl, hJ, fun a e => (by rw [two2_none hn] at e; cases e), fun _ => rfl⟩) (fun a ha J hJ v0 _ w => ?_)))
  have hl := h.2.1
  have ba := fg_bd (by decide) ha
  refine ms2 (a1 := 2) (a2 := 1) (c := 59) hR hb rfl (by decide) (by decide) (k := a.2) (by omega) (MT_fig h hJ) w (fun hn J2 hJ2 => ⟨rfl, mFig_trans hJ hJ2, fun b e => (by rw [two2_none2 ha hn] at e; cases e), fun _ => rfl⟩) (fun b hb2 J2 hJ2 v1 o1 w2 => ?_)
  refine gX11_figures_2 hR ⟨⟨by decide, by decide⟩, ⟨by decide, by decide⟩, fun _ => ⟨rfl, mFig_trans hJ hJ2, fun e he => ?_, fun e => by rw [two2_some ha hb2] at e; cases e⟩, fun q => absurd (Int.le_refl _) q⟩
  rw [two2_some ha hb2] at he
  injection he with he
  subst he
  exact ⟨rfl, (o1 0 (by decide)).trans v0, v1, w2⟩
/-- the reference's other book -/
def MR1 (I : II) (ρ : RM) : Prop := I 70 1 = rN ρ ∧ (∀ p, p < rN ρ → I 71 (20 + p) = rS ρ p ∧ I 72 (20 + p) = rC ρ p ∧ I 73 (20 + p) = rL ρ p) ∧ ∀ k, k < 5 → I 74 (5 + k) = rP ρ k
theorem MR1_frm {T : List Nat} {I I' : II} {ρ : RM} (h : MR1 I ρ) (hf : frm T I I') (hT : ∀ x ∈ T, ¬ (70 ≤ x ∧ x ≤ 74)) : MR1 I' ρ := by
  have g : ∀ x, 70 ≤ x → x ≤ 74 → ∀ j, I' x j = I x j := fun x h1 h2 => hf x (fun hx => hT x hx ⟨h1, h2⟩)
  refine ⟨(g 70 (by omega) (by omega) 1).trans h.1, fun p hp => ?_, fun k hk => (g 74 (by omega) (by omega) _).trans (h.2.2 k hk)⟩
  rw [g 71 (by omega) (by omega), g 72 (by omega) (by omega), g 73 (by omega) (by omega)]
  exact h.2.1 p hp
theorem aX11_noRoom {I : II} {R : RR} (hR : SR R) : Spec mX11_noRoom [vR 68, vI 1] I R 89 89 (fun _ I' R' => R = R' ∧ mRead I I' ∧ I' 68 14 = I 68 14 ∧ MR1 I' ρE) := by
  refine sX11_noRoom (gX11_noRoom_0 hR ⟨⟨by decide, by decide⟩, fun I2 q2 => ⟨⟨by decide, by decide⟩, fun I4 q4 => ⟨⟨by decide, by decide⟩, fun I6 q6 => ⟨⟨by decide, by decide⟩, fun I8 q8 => ⟨⟨by decide, by decide⟩, fun I10 q10 => ⟨⟨by decide, by decide⟩, fun I12 q12 => ⟨rfl, ?_, ?_, ?_⟩⟩⟩⟩⟩⟩⟩)
  all_goals (subst q12; subst q10; subst q8; subst q6; subst q4; subst q2)
  · refine ⟨frm_trans (frm_up (by decide)) (frm_trans (frm_up (by decide)) (frm_trans (frm_up (by decide)) (frm_trans (frm_up (by decide)) (frm_trans (frm_up (by decide)) (frm_up (by decide)))))), fun j _ => ?_, ?_, fun x j h1 h2 h3 => ?_, fun j hj => ?_⟩
    · rw [up2_ne (by decide), up2_ne (by decide), up2_ne (by decide), up2_ne (by decide), up2_ne (by decide), up2_ne (by decide)]
    · rw [up2_ne (by decide), up2_ne (by decide), up2_ne (by decide), up2_ne (by decide), up2_ne (by decide), up2_nj (by decide)]
    · rw [up2_ne (by omega), up2_ne (by omega), up2_ne (by omega), up2_ne (by omega), up2_ne (by omega), up2_ne (by omega)]
    · have n5 : ∀ m, 5 ≤ m → j ≠ m := fun m hm => by omega
      rw [up2_nj (n5 _ (by decide)), up2_nj (n5 _ (by decide)), up2_nj (n5 _ (by decide)), up2_nj (n5 _ (by decide)), up2_nj (n5 _ (by decide)), up2_ne (by decide)]
  · rw [up2_ne (by decide), up2_ne (by decide), up2_ne (by decide), up2_ne (by decide), up2_ne (by decide), up2_ne (by decide)]
  · refine ⟨?_, fun p hp => absurd hp (Nat.not_lt_zero _), fun k hk => ?_⟩
    · rw [up2_ne (by decide), up2_ne (by decide), up2_ne (by decide), up2_ne (by decide), up2_ne (by decide)]; exact up2_self
    · have : k = 0 ∨ k = 1 ∨ k = 2 ∨ k = 3 ∨ k = 4 := by omega
      rcases this with rfl | rfl | rfl | rfl | rfl
      · rw [up2_nj (by decide), up2_nj (by decide), up2_nj (by decide), up2_nj (by decide)]; exact up2_self
      · rw [up2_nj (by decide), up2_nj (by decide), up2_nj (by decide)]; exact up2_self
      · rw [up2_nj (by decide), up2_nj (by decide)]; exact up2_self
      · rw [up2_nj (by decide)]; exact up2_self
      · exact up2_self
theorem aX11_readMany {I : II} {R : RR} {ρ : RM} {s : Int} (hR : SR R) (h : MR1 I ρ) (hok : okR0 ρ) (hs : s = 0 ∨ s = 1) :
    Spec mX11_readMany [vR 68, vI s] I R 89 89 (fun rv I' R' => R = R' ∧ I = I' ∧ rv = vI (sideN ρ s : Int)) := by
  have hn := okR0_n hok
  have hcl : ∀ p, cntB (S0 (rS ρ)) p ≤ p ∧ cntB (S1 (rS ρ)) p ≤ p := fun p => ⟨cntB_leN p, cntB_leN p⟩
  have e0 : sideN ρ s = cntB (fun p => decide (rS ρ p = s)) (rN ρ) := by
    unfold sideN
    rcases hs with q | q <;> rw [q] <;> rfl
  refine sX11_readMany (gX11_readMany_0 hR ?_)
  have loop : ∀ (d p : Nat), p + d = rN ρ → wp (kN 89) mX11_readMany (fun rv I' R' => R = R' ∧ I = I' ∧ rv = vI (sideN ρ s : Int)) 4 [vR 68, vI s, vI (cntB (fun p => decide (rS ρ p = s)) p : Int), vI (p : Int)] [] I R 89 := by
    intro d
    induction d with
    | zero =>
      intro p hp
      refine gX11_readMany_4 hR ?_
      rw [h.1]
      exact ⟨⟨by omega, by omega⟩, ⟨by omega, by omega⟩, fun _ => ⟨rfl, rfl, by rw [e0, show p = rN ρ by omega]⟩, fun q => absurd q (by omega)⟩
    | succ d ih =>
      intro p hp
      have := ih (p + 1) (by omega)
      have hv := h.2.1 p (by omega)
      have hs2 := (hok.1 p).1
      refine gX11_readMany_4 hR ?_
      rw [h.1, show (20 + (p : Int)).toNat = 20 + p by omega, hv.1]
      rw [show ((p + 1 : Nat) : Int) = (p : Int) + 1 by omega] at this
      have e : cntB (fun p => decide (rS ρ p = s)) (p + 1) = if rS ρ p = s then cntB (fun p => decide (rS ρ p = s)) p + 1 else cntB (fun p => decide (rS ρ p = s)) p := by
        show (if decide (rS ρ p = s) = true then _ else _ : Nat) = _
        simp only [decide_eq_true_eq]
      rw [e] at this
      refine ⟨⟨by omega, by omega⟩, ⟨by omega, by omega⟩, fun q => absurd q (by omega), fun _ => ⟨⟨by omega, by omega⟩, ⟨by omega, by omega⟩, ⟨by omega, by omega⟩, fun q => ?_, fun q => ?_⟩⟩
      · rw [if_neg q] at this; rw [Int.add_zero]; exact this
      · rw [if_pos q] at this; exact this
  exact loop (rN ρ) 0 (by omega)
/-- an item of the reference: what holds afterwards -/
def mItem (I I' : II) (o : Option (RM × Nat)) (rv : AV) : Prop := mRead I I' ∧ (∀ a, o = some a → rv = vI 1 ∧ MR1 I' a.1 ∧ I' 68 14 = (a.2 : Int)) ∧ (o = none → rv = vI 0)
theorem aX11_personItem {I : II} {R : RR} {bs : List Int} {k : Nat} {ρ : RM} {s : Int} (hR : SR R) (hb : okBs bs) (hk : k ≤ 301) (h : MT I bs) (h14 : I 68 14 = (k : Int)) (h1 : MR1 I ρ) (hok : okR0 ρ) (hs : s = 0 ∨ s = 1) :
    Spec mX11_personItem [vR 68, vI s] I R 89 89 (fun rv I' R' => R = R' ∧ mItem I I' (itP bs k ρ s) rv) := by
  have hn := okR0_n hok
  have h10 := hok.2.2.2.2.2.2
  refine sX11_personItem (gX11_personItem_0 hR ⟨_, aX11_fig2 hR hb (by omega) h h14, fun x1 I1 R1 h01 q1 => ?_⟩)
  obtain ⟨rfl, f1, y1, n1⟩ := q1
  have bad : ∀ J, mRead I J → itP bs k ρ s = none → wp (kN 89) mX11_personItem (fun rv I' R' => R = R' ∧ mItem I I' (itP bs k ρ s) rv) 39 [none, none] [] J R 89 := fun J hJ e => gX11_personItem_39 hR ⟨rfl, hJ, fun a e' => (by rw [e] at e'; cases e'), fun _ => rfl⟩
  cases e : two2 bs k with
  | none =>
    have e3 := n1 e
    have e0 : x1 = 0 := by injection e3 with e3; injection e3
    exact ⟨rfl, ⟨by omega, by omega⟩, fun _ => bad I1 (mFig_read f1) (by unfold itP; rw [e]), fun q => absurd e0 q⟩
  | some a =>
    obtain ⟨e3, v0, v1, w1⟩ := y1 a e
    have e0 : x1 = 1 := by injection e3 with e3; injection e3
    obtain ⟨b1, b2, -, -⟩ := two2_bd e
    have hit : itP bs k ρ s = (addP ρ s a.1 a.2.1).map (fun r => (r, a.2.2)) := by unfold itP; rw [e]
    have no : ¬ mayP ρ s a.1 a.2.1 → itP bs k ρ s = none := fun q => by rw [hit]; unfold addP; rw [if_neg q]; rfl
    have r1 : MR1 I1 ρ := MR1_frm h1 f1.1 (by decide)
    refine ⟨rfl, ⟨by omega, by omega⟩, fun q => absurd q (by omega), fun _ => ⟨_, aX11_readMany hR r1 hok hs, fun x3 I3 R3 q3 => ?_⟩⟩
    obtain ⟨rfl, rfl, e3⟩ := q3
    have e4 : x3 = (sideN ρ s : Int) := by injection e3 with e3; injection e3
    have h20 : sideN ρ s < 10 → rN ρ < 20 := fun q => by
      have := cnt_both (sd := rS ρ) (fun p => (hok.1 p).1) (rN ρ)
      unfold sideN at q
      split at q <;> omega
    have s10 : sideN ρ s ≤ 10 := by unfold sideN; split <;> omega
    rw [v0, v1, r1.1]
    refine ⟨rfl, ⟨by omega, by omega⟩, fun q => bad I1 (mFig_read f1) (no (fun x => by have := x.1; omega)), fun q => ⟨⟨by omega, by omega⟩, fun q2 => bad I1 (mFig_read f1) (no (fun x => by have := x.2.1; omega)), fun q2 => ⟨⟨by omega, by omega⟩, fun q3 => ?_, fun q3 => bad I1 (mFig_read f1) (no (fun x => q3 x.2.2))⟩⟩⟩
    have hm : mayP ρ s a.1 a.2.1 := ⟨by omega, by omega, q3⟩
    have hlt := h20 hm.1
    rw [show (20 + (rN ρ : Int)).toNat = 20 + rN ρ by omega]
    refine ⟨⟨by omega, by omega⟩, fun I8 q8 => ?_⟩
    have y8 : I8 70 1 = rN ρ := by rw [q8, up2_ne (by decide), r1.1]
    have v8 : I8 81 0 = a.1 := by rw [q8, up2_ne (by decide), v0]
    rw [y8, v8, show (20 + (rN ρ : Int)).toNat = 20 + rN ρ by omega]
    refine ⟨⟨by omega, by omega⟩, fun I10 q10 => ?_⟩
    have y10 : I10 70 1 = rN ρ := by rw [q10, up2_ne (by decide), y8]
    have v10 : I10 81 1 = a.2.1 := by rw [q10, up2_ne (by decide), q8, up2_ne (by decide), v1]
    rw [y10, v10, show (20 + (rN ρ : Int)).toNat = 20 + rN ρ by omega]
    refine ⟨⟨by omega, by omega⟩, fun I12 q12 I13 q13 => ?_⟩
    have y12 : I12 70 1 = rN ρ := by rw [q12, up2_ne (by decide), y10]
    have f13 : frm [70, 71, 72, 73] I1 I13 := by rw [q13, q12, q10, q8]; exact frm_trans (frm_up (by decide)) (frm_trans (frm_up (by decide)) (frm_trans (frm_up (by decide)) (frm_up (by decide))))
    have k13 : ∀ x j, 71 ≤ x → j ≠ 20 + rN ρ → I13 x j = I1 x j := fun x j hx hj => by rw [q13, up2_ne (by omega), q12, up2_nj hj, q10, up2_nj hj, q8, up2_nj hj]
    have m13 : mRead I1 I13 := by
      refine ⟨frm_sub f13 (by decide), fun j _ => f13 68 (by decide) j, ?_, fun x j hx1 hx2 hj => k13 x j hx1 (by omega), fun j _ => f13 74 (by decide) j⟩
      rw [q13, up2_nj (by decide), q12, up2_ne (by decide), q10, up2_ne (by decide), q8, up2_ne (by decide)]
    refine ⟨rfl, mRead_trans (mFig_read f1) m13, fun a' e' => ?_, fun e' => by rw [hit] at e'; unfold addP at e'; rw [if_pos hm] at e'; cases e'⟩
    rw [hit] at e'
    unfold addP at e'
    rw [if_pos hm] at e'
    injection e' with e'
    subst e'
    refine ⟨rfl, ⟨?_, fun p hp => ?_, fun j hj => (f13 74 (by decide) _).trans (r1.2.2 j hj)⟩, (f13 68 (by decide) 14).trans w1⟩
    · rw [q13, up2_self, y12]; rfl
    · have hp' : p < rN ρ + 1 := hp
      show _ = (if p = rN ρ then s else rS ρ p) ∧ _ = (if p = rN ρ then a.1 else rC ρ p) ∧ _ = (if p = rN ρ then a.2.1 else rL ρ p)
      by_cases q : p = rN ρ
      · subst q
        rw [if_pos rfl, if_pos rfl, if_pos rfl]
        refine ⟨?_, ?_, ?_⟩
        · rw [q13, up2_ne (by decide), q12, up2_ne (by decide), q10, up2_ne (by decide), q8, up2_self]
        · rw [q13, up2_ne (by decide), q12, up2_ne (by decide), q10, up2_self]
        · rw [q13, up2_ne (by decide), q12, up2_self]
      · rw [if_neg q, if_neg q, if_neg q, k13 71 _ (by decide) (by omega), k13 72 _ (by decide) (by omega), k13 73 _ (by decide) (by omega)]
        exact r1.2.1 p (by omega)
theorem aX11_numberItem {I : II} {R : RR} {bs : List Int} {k i : Nat} {ρ : RM} {lo hi x : Int} (hR : SR R) (hb : okBs bs) (hk : k ≤ 301) (h : MT I bs) (h14 : I 68 14 = (k : Int)) (h1 : MR1 I ρ) (hi5 : i < 5) (hlo : InI lo) (hhi : InI hi) (hx : ∀ v, numP ρ x v = if lo ≤ v ∧ v ≤ hi then some (setP ρ i v) else none) :
    Spec mX11_numberItem [vR 68, vI i, vI lo, vI hi] I R 89 89 (fun rv I' R' => R = R' ∧ mItem I I' (itN bs k ρ x) rv) := by
  refine sX11_numberItem (gX11_numberItem_0 hR ⟨_, aX11_fig1 hR hb (by omega) h h14, fun x1 I1 R1 h01 q1 => ?_⟩)
  obtain ⟨rfl, f1, y1, n1⟩ := q1
  have bad : itN bs k ρ x = none → wp (kN 89) mX11_numberItem (fun rv I' R' => R = R' ∧ mItem I I' (itN bs k ρ x) rv) 25 [none, none, none, none] [] I1 R 89 := fun e => gX11_numberItem_25 hR ⟨rfl, mFig_read f1, fun a e' => (by rw [e] at e'; cases e'), fun _ => rfl⟩
  cases e : fg bs k 59 with
  | none =>
    have e3 := n1 e
    have e0 : x1 = 0 := by injection e3 with e3; injection e3
    exact ⟨rfl, ⟨by omega, by omega⟩, fun _ => bad (by unfold itN; rw [e]), fun q => absurd e0 q⟩
  | some a =>
    obtain ⟨e3, v0, w1⟩ := y1 a e
    have e0 : x1 = 1 := by injection e3 with e3; injection e3
    have b1 := fg_bd (by decide) e
    have hit : itN bs k ρ x = (numP ρ x a.1).map (fun r => (r, a.2)) := by unfold itN; rw [e]
    rw [hx] at hit
    have r1 : MR1 I1 ρ := MR1_frm h1 f1.1 (by decide)
    rw [v0]
    refine ⟨rfl, ⟨by omega, by omega⟩, fun q => absurd q (by omega), fun _ => ⟨⟨by omega, by omega⟩, hlo, hhi, fun q => ⟨⟨by omega, by omega⟩, fun I8 q8 => ?_⟩, fun q => bad (by rw [hit, if_neg q]; rfl)⟩⟩
    rw [show (5 + (i : Int)).toNat = 5 + i by omega] at q8
    have f8 : frm [74] I1 I8 := by rw [q8]; exact frm_up (by decide)
    rw [if_pos q] at hit
    refine ⟨rfl, mRead_trans (mFig_read f1) ⟨frm_sub f8 (by decide), fun j _ => f8 68 (by decide) j, f8 70 (by decide) 0, fun x j h1 h2 _ => f8 x (by simp only [List.mem_cons, List.not_mem_nil, or_false]; omega) j, fun j hj => by rw [q8, up2_nj (by omega)]⟩, fun a' e' => ?_, fun e' => by rw [hit] at e'; cases e'⟩
    rw [hit] at e'
    injection e' with e'
    subst e'
    refine ⟨rfl, ⟨(f8 70 (by decide) 1).trans r1.1, fun p hp => ?_, fun j hj => ?_⟩, (f8 68 (by decide) 14).trans w1⟩
    · rw [f8 71 (by decide), f8 72 (by decide), f8 73 (by decide)]
      exact r1.2.1 p hp
    · rw [q8, up2_at]
      show _ = if j = i then a.1 else rP ρ j
      by_cases q : j = i
      · rw [if_pos (by omega), if_pos q]
      · rw [if_neg (by omega), if_neg q]; exact r1.2.2 j hj
theorem aX11_item {I : II} {R : RR} {bs : List Int} {k : Nat} {ρ : RM} (hR : SR R) (hb : okBs bs) (hk : k < bs.length) (h : MT I bs) (h14 : I 68 14 = (k : Int)) (h1 : MR1 I ρ) (hok : okR0 ρ) :
    Spec mX11_item [vR 68] I R 89 89 (fun rv I' R' => R = R' ∧ mItem I I' (item bs k ρ) rv) := by
  have bb := bt_bd hb k
  have hl := h.2.1
  refine sX11_item (gX11_item_0 hR ?_)
  rw [mt_bt h h14, h14, h.1]
  refine ⟨⟨by omega, by omega⟩, ⟨by omega, by omega⟩, ⟨by omega, by omega⟩, fun I5 q5 => ?_⟩
  have f5 : mPl I I5 := by rw [q5]; exact mPl_14
  have t5 : MT I5 bs := MT_fig h (mPl_fig f5)
  have e5 : I5 68 14 = ((k + 1 : Nat) : Int) := by rw [q5, up2_self]; rfl
  have r5 : MR1 I5 ρ := MR1_frm h1 f5.1 (by decide)
  have bad : numP ρ (bt bs k) = (fun _ => none) → bt bs k ≠ 118 → bt bs k ≠ 99 → R = R ∧ mItem I I5 (item bs k ρ) (vI 0) := fun q a b => by
    have hi : item bs k ρ = none := by
      unfold item
      rw [if_neg a, if_neg b]
      unfold itN
      rw [q]
      cases fg bs (k + 1) 59 <;> rfl
    exact ⟨rfl, mFig_read (mPl_fig f5), fun a e => (by rw [hi] at e; cases e), fun _ => rfl⟩
  have pP : ∀ s : Int, (s = 0 ∨ s = 1) → item bs k ρ = itP bs (k + 1) ρ s → Spec mX11_personItem [vR 68, vI s] I5 R 89 89 (fun rv I' R' => R = R' ∧ mItem I I' (item bs k ρ) rv) := fun s hs e =>
    Spec.mono (aX11_personItem hR hb (by omega) t5 e5 r5 hok hs) (fun rv I' R' q => by
      rw [e]; exact ⟨q.1, mRead_trans (mFig_read (mPl_fig f5)) q.2.1, q.2.2⟩)
  have nP : ∀ (i : Nat) (lo hi : Int), i < 5 → InI lo → InI hi → (∀ v, numP ρ (bt bs k) v = if lo ≤ v ∧ v ≤ hi then some (setP ρ i v) else none) → bt bs k ≠ 118 → bt bs k ≠ 99 → Spec mX11_numberItem [vR 68, vI (i : Int), vI lo, vI hi] I5 R 89 89 (fun rv I' R' => R = R' ∧ mItem I I' (item bs k ρ) rv) := fun i lo hi a1 a2 a3 a4 a b =>
    Spec.mono (aX11_numberItem hR hb (by omega) t5 e5 r5 a1 a2 a3 a4) (fun rv I' R' q => by
      have e : item bs k ρ = itN bs (k + 1) ρ (bt bs k) := by unfold item; rw [if_neg a, if_neg b]
      rw [e]; exact ⟨q.1, mRead_trans (mFig_read (mPl_fig f5)) q.2.1, q.2.2⟩)
  have badn : bt bs k ≠ 118 → bt bs k ≠ 99 → bt bs k ≠ 110 → bt bs k ≠ 116 → bt bs k ≠ 108 → bt bs k ≠ 120 → bt bs k ≠ 104 → R = R ∧ mItem I I5 (item bs k ρ) (vI 0) := fun a b c d e f g => bad (by
    funext v
    unfold numP
    rw [if_neg c, if_neg d, if_neg e, if_neg f, if_neg g]) a b
  have two : ∀ (x : Int) (I' : II) (R' : RR), (x = 0 ∨ x = 1) → (R = R' ∧ mItem I I' (item bs k ρ) (vI x)) → R = R' ∧ (R = R ∧ mItem I I' (item bs k ρ) (vI x)) := fun x I' R' _ q => ⟨q.1, rfl, q.2⟩
  refine ⟨⟨by omega, by omega⟩, fun q => badn (by omega) (by omega) (by omega) (by omega) (by omega) (by omega) (by omega), fun q => ⟨_, pP 1 (Or.inr rfl) (by unfold item; rw [if_neg (by omega), if_pos q]), two⟩, ?_, ?_, ?_, ?_, fun q => ⟨_, nP 4 0 99 (by decide) ⟨by decide, by decide⟩ ⟨by decide, by decide⟩ (fun v => by rw [q]; rfl) (by omega) (by omega), two⟩, ?_, ?_, ?_, fun q => ⟨_, nP 2 0 99 (by decide) ⟨by decide, by decide⟩ ⟨by decide, by decide⟩ (fun v => by rw [q]; rfl) (by omega) (by omega), two⟩, ?_, fun q => ⟨_, nP 0 1 200 (by decide) ⟨by decide, by decide⟩ ⟨by decide, by decide⟩ (fun v => by rw [q]; rfl) (by omega) (by omega), two⟩, ?_, ?_, ?_, ?_, ?_, fun q => ⟨_, nP 1 0 50 (by decide) ⟨by decide, by decide⟩ ⟨by decide, by decide⟩ (fun v => by rw [q]; rfl) (by omega) (by omega), two⟩, ?_, fun q => ⟨_, pP 0 (Or.inl rfl) (by unfold item; rw [if_pos q]), two⟩, ?_, fun q => ⟨_, nP 3 0 50 (by decide) ⟨by decide, by decide⟩ ⟨by decide, by decide⟩ (fun v => by rw [q]; rfl) (by omega) (by omega), two⟩⟩
  all_goals exact fun q => badn (by omega) (by omega) (by omega) (by omega) (by omega) (by omega) (by omega)
theorem mrd10 {R : RR} {bs : List Int} (hR : SR R) (hb : okBs bs) : ∀ (f : Nat) (I : II) (k : Nat) (ρ : RM), bs.length ≤ k + f → k ≤ bs.length → MT I bs → I 68 14 = (k : Int) → MR1 I ρ → okR0 ρ →
    wp (kN 89) mX11_readAll (fun rv I' R' => R = R' ∧ mRead I I' ∧ rv = vI (rdA bs f k ρ).1 ∧ ((rdA bs f k ρ).1 = -4 → MR1 I' (rdA bs f k ρ).2)) 10 [vR 68, none] [] I R 89 := by
  intro f
  induction f with
  | zero =>
    intro I k ρ hf hk h h14 h1 hok
    have hl := h.2.1
    refine gX11_readAll_10 hR ?_
    rw [h14, h.1]
    exact ⟨⟨by omega, by omega⟩, ⟨by omega, by omega⟩, fun _ => ⟨rfl, mRead_rfl, rfl, fun _ => h1⟩, fun q => absurd q (by omega)⟩
  | succ f ih =>
    intro I k ρ hf hk h h14 h1 hok
    have hl := h.2.1
    by_cases hkl : k < bs.length
    · refine gX11_readAll_10 hR ?_
      rw [h14, h.1]
      refine ⟨⟨by omega, by omega⟩, ⟨by omega, by omega⟩, fun q => absurd q (by omega), fun _ => ⟨_, aX11_item hR hb hkl h h14 h1 hok, fun x3 I3 R3 h01 q3 => ?_⟩⟩
      obtain ⟨rfl, f3, y3, n3⟩ := q3
      cases e : item bs k ρ with
      | none =>
        have e3 := n3 e
        have e0 : x3 = 0 := by injection e3 with e3; injection e3
        have hrd' : rdA bs (f + 1) k ρ = ((k : Int), ρ) := rdA_none hkl e
        refine ⟨rfl, ⟨by omega, by omega⟩, fun q => absurd e0 q, fun _ => ⟨rfl, f3, by rw [hrd'], fun x => ?_⟩⟩
        rw [hrd'] at x
        have : (k : Int) = -4 := x
        omega
      | some a =>
        obtain ⟨e3, r3, w3⟩ := y3 a e
        have e0 : x3 = 1 := by injection e3 with e3; injection e3
        obtain ⟨i1, i2, i3⟩ := item_ok hok e
        have hrd' : rdA bs (f + 1) k ρ = rdA bs f a.2 a.1 := rdA_some hkl e
        refine ⟨rfl, ⟨by omega, by omega⟩, fun _ => ?_, fun q => absurd q (by omega)⟩
        rw [hrd']
        refine wp.mono (ih I3 a.2 a.1 (by omega) i3 (MT_read h f3) w3 r3 i1) (fun rv I' R' q => ?_)
        obtain ⟨e1, e2, e3⟩ := q
        exact ⟨e1, mRead_trans f3 e2, e3⟩
    · have hrd : rdA bs (f + 1) k ρ = (-4, ρ) := by
        show (if k < bs.length then _ else _) = _
        rw [if_neg hkl]
      refine gX11_readAll_10 hR ?_
      rw [h14, h.1]
      exact ⟨⟨by omega, by omega⟩, ⟨by omega, by omega⟩, fun _ => ⟨rfl, mRead_rfl, by rw [hrd], fun _ => by rw [hrd]; exact h1⟩, fun q => absurd q (by omega)⟩
theorem aX11_readAll {I : II} {R : RR} {bs : List Int} (hR : SR R) (hb : okBs bs) (h : MT I bs) :
    Spec mX11_readAll [vR 68] I R 89 89 (fun rv I' R' => R = R' ∧ mRead I I' ∧ rv = vI (readA bs).1 ∧ ((readA bs).1 = -4 → MR1 I' (readA bs).2)) := by
  refine sX11_readAll (gX11_readAll_0 hR ⟨_, aX11_noRoom hR, fun I1 R1 q1 => ?_⟩)
  obtain ⟨rfl, f1, -, r1⟩ := q1
  refine ⟨rfl, fun I2 q2 => ?_⟩
  have f2 : mPl I1 I2 := by rw [q2]; exact mPl_14
  have m2 := mRead_trans f1 (mFig_read (mPl_fig f2))
  refine wp.mono (mrd10 hR hb bs.length I2 0 ρE (by omega) (Nat.zero_le _) (MT_read h m2) (by rw [q2, up2_self]; rfl) (MR1_frm r1 f2.1 (by decide)) okR0_E) (fun rv I' R' q => ?_)
  obtain ⟨e1, e2, e3⟩ := q
  exact ⟨e1, mRead_trans m2 e2, e3⟩
theorem aX11_fault {I : II} {R : RR} {bs : List Int} (hR : SR R) (hb : okBs bs) (h : MT I bs) :
    Spec mX11_fault [vR 68] I R 89 89 (fun rv I' R' => R = R' ∧ mRead I I' ∧ rv = vI (readA bs).1) := by
  refine sX11_fault (gX11_fault_0 hR ⟨_, aX11_readAll hR hb h, fun x1 I1 R1 q1 => ?_⟩)
  obtain ⟨rfl, f1, e1, -⟩ := q1
  exact ⟨rfl, rfl, f1, e1⟩
theorem MRo_read {I I' : II} {ρ : RM} (h : MRo I ρ) (hn : rN ρ ≤ 20) (hf : mRead I I') : MRo I' ρ := by
  refine ⟨hf.2.2.1.trans h.1, fun p hp => ?_, fun k hk => (hf.2.2.2.2 k hk).trans (h.2.2 k hk)⟩
  rw [hf.2.2.2.1 71 p (by decide) (by decide) (by omega), hf.2.2.2.1 72 p (by decide) (by decide) (by omega), hf.2.2.2.1 73 p (by decide) (by decide) (by omega)]
  exact h.2.1 p hp
set_option maxHeartbeats 1000000 in
theorem aX11_lay {I : II} {R : RR} {ρ : RM} {bs : List Int} {l : List LE} {kp : List KE} (hR : SR R) (hb : okBs bs) (h : MT I bs) (hr : MRo I ρ) (hok : okRM ρ) (hl : MLg I 0 l) (hk : I 68 13 = (kp.length : Int)) :
    Spec mX11_lay [vR 68] I R 89 89 (fun rv I' R' => R = R' ∧ frm [68, 70, 71, 72, 73, 74, 75, 81] I I' ∧ (∀ j, j ≠ 13 → j ≠ 14 → I' 68 j = I 68 j) ∧ MRo I' (layRM ρ bs) ∧ MLg I' 0 (layLg l bs) ∧ I' 68 13 = ((layKp kp bs).length : Int) ∧ (∀ j, j ≠ 0 → I' 75 j = I 75 j) ∧ rv = vI (layP bs)) := by
  have hro := readA_ok bs
  have hl300 := h.2.1
  refine sX11_lay (gX11_lay_0 hR ⟨_, aX11_readAll hR hb h, fun x1 I1 R1 q1 => ?_⟩)
  obtain ⟨rfl, f1, e1, r1⟩ := q1
  injection e1 with e1
  injection e1 with e1
  have s8 : frm [68, 70, 71, 72, 73, 74, 75, 81] I I1 := frm_sub f1.1 (by decide)
  have bad : ¬ isLaid bs → wp (kN 89) mX11_lay (fun rv I' R' => R = R' ∧ frm [68, 70, 71, 72, 73, 74, 75, 81] I I' ∧ (∀ j, j ≠ 13 → j ≠ 14 → I' 68 j = I 68 j) ∧ MRo I' (layRM ρ bs) ∧ MLg I' 0 (layLg l bs) ∧ I' 68 13 = ((layKp kp bs).length : Int) ∧ (∀ j, j ≠ 0 → I' 75 j = I 75 j) ∧ rv = vI (layP bs)) 25 [none, none] [] I1 R 89 := by
    intro hn
    refine gX11_lay_25 hR ⟨rfl, s8, fun j _ hj => f1.2.1 j hj, ?_, ?_, ?_, fun j _ => f1.1 75 (by decide) j, ?_⟩
    · unfold layRM; rw [if_neg hn]; exact MRo_read hr hok.1 f1
    · unfold layLg; rw [if_neg hn]; exact MLg_bkb hl (bkb_frm (b := 1) f1.1 (by decide)) (by decide)
    · unfold layKp; rw [if_neg hn, f1.2.1 13 (by decide), hk]
    · unfold layP; rw [if_neg hn]
  refine ⟨rfl, by rw [e1]; rcases hro.2 with q | q <;> exact ⟨by omega, by omega⟩, fun q => bad (fun x => q (e1.trans x.1)), fun q => ?_⟩
  have m1 := r1 (e1.symm.trans q)
  have h10 := hro.1.2.2.2.2.2.2
  have hn20 := okR0_n hro.1
  have en0 : sideN (readA bs).2 0 = cntB (S0 (rS (readA bs).2)) (rN (readA bs).2) := rfl
  have en1 : sideN (readA bs).2 1 = cntB (S1 (rS (readA bs).2)) (rN (readA bs).2) := rfl
  refine ⟨_, aX11_readMany hR m1 hro.1 (Or.inl rfl), fun x3 I3 R3 q3 => ?_⟩
  obtain ⟨rfl, rfl, e3⟩ := q3
  injection e3 with e3
  injection e3 with e3
  rw [en0] at e3
  refine ⟨rfl, ⟨by omega, by omega⟩, fun q3 => bad (fun x => x.2.1 (by omega)), fun q3 => ⟨_, aX11_readMany hR m1 hro.1 (Or.inr rfl), fun x5 I5 R5 q5 => ?_⟩⟩
  obtain ⟨rfl, rfl, e5⟩ := q5
  injection e5 with e5
  injection e5 with e5
  rw [en1] at e5
  refine ⟨rfl, ⟨by omega, by omega⟩, fun q5 I7 q7 => ?_, fun q5 => bad (fun x => x.2.2 (by omega))⟩
  have hy : isLaid bs := ⟨e1.symm.trans q, by omega, by omega⟩
  rw [m1.1] at q7
  have f7 : frm [70] I1 I7 := by rw [q7]; exact frm_up (by decide)
  have z7 : I7 70 0 = rN (readA bs).2 := by rw [q7, up2_self]
  have last : ∀ (d i : Nat) (J : II), i + d = 5 → frm [70, 71, 72, 73, 74] I1 J → J 70 0 = rN (readA bs).2 → (∀ p, p < rN (readA bs).2 → J 71 p = rS (readA bs).2 p ∧ J 72 p = rC (readA bs).2 p ∧ J 73 p = rL (readA bs).2 p) → (∀ j, 5 ≤ j → J 74 j = I1 74 j) → (∀ j, j < i → J 74 j = rP (readA bs).2 j) →
      wp (kN 89) mX11_lay (fun rv I' R' => R = R' ∧ frm [68, 70, 71, 72, 73, 74, 75, 81] I I' ∧ (∀ j, j ≠ 13 → j ≠ 14 → I' 68 j = I 68 j) ∧ MRo I' (layRM ρ bs) ∧ MLg I' 0 (layLg l bs) ∧ I' 68 13 = ((layKp kp bs).length : Int) ∧ (∀ j, j ≠ 0 → I' 75 j = I 75 j) ∧ rv = vI (layP bs)) 101 [vR 68, vI (i : Int)] [] J R 89 := by
    intro d
    induction d with
    | zero =>
      intro i J hi fJ z0 zp z5 zi
      refine gX11_lay_101 hR ⟨⟨by omega, by omega⟩, fun _ I2 q2 I3 q3 => ?_, fun q => absurd q (by omega)⟩
      have f3 : frm [68, 75] J I3 := by rw [q3, q2]; exact frm_trans (frm_up (by decide)) (frm_up (by decide))
      refine ⟨rfl, frm_trans s8 (frm_trans (frm_sub fJ (by decide)) (frm_sub f3 (by decide))), fun j h13 h14 => ?_, ?_, ?_, ?_, fun j hj => ?_, ?_⟩
      · rw [q3, up2_nj h13, q2, up2_ne (by decide), fJ 68 (by decide) j]; exact f1.2.1 j h14
      · unfold layRM; rw [if_pos hy]
        refine ⟨(f3 70 (by decide) 0).trans z0, fun p hp => ?_, fun k hk => (f3 74 (by decide) k).trans (zi k (by omega))⟩
        rw [f3 71 (by decide), f3 72 (by decide), f3 73 (by decide)]
        exact zp p hp
      · unfold layLg; rw [if_pos hy]
        exact ⟨by rw [q3, up2_ne (by decide), q2, up2_self]; rfl, by decide, fun i e he => by simp at he⟩
      · unfold layKp; rw [if_pos hy, q3, up2_self]; rfl
      · rw [q3, up2_ne (by decide), q2, up2_nj hj, fJ 75 (by decide) j]; exact f1.1 75 (by decide) j
      · rw [f3 70 (by decide) 0, z0]; unfold layP; rw [if_pos hy]
    | succ d ih =>
      intro i J hi fJ z0 zp z5 zi
      refine gX11_lay_101 hR ⟨⟨by omega, by omega⟩, fun q => absurd q (by omega), fun _ => ⟨⟨by omega, by omega⟩, ⟨by omega, by omega⟩, fun I6 q6 => ?_⟩⟩
      rw [show (5 + (i : Int)).toNat = 5 + i by omega, Int.toNat_natCast, z5 _ (by omega), m1.2.2 i (by omega)] at q6
      rw [show (i : Int) + 1 = ((i + 1 : Nat) : Int) by omega]
      have f6 : frm [74] J I6 := by rw [q6]; exact frm_up (by decide)
      refine ih (i + 1) I6 (by omega) (frm_trans fJ (frm_sub f6 (by decide))) ((f6 70 (by decide) 0).trans z0) (fun p hp => ?_) (fun j hj => by rw [q6, up2_nj (by omega)]; exact z5 j hj) (fun j hj => ?_)
      · rw [f6 71 (by decide), f6 72 (by decide), f6 73 (by decide)]; exact zp p hp
      · rw [q6, up2_at]
        split
        · next e => rw [e]
        · exact zi j (by omega)
  have first : ∀ (d i : Nat) (J : II), i + d = 20 → frm [70, 71, 72, 73] I1 J → J 70 0 = rN (readA bs).2 → (∀ x j, 71 ≤ x → x ≤ 73 → 20 ≤ j → J x j = I1 x j) → (∀ p, p < i → p < rN (readA bs).2 → J 71 p = rS (readA bs).2 p ∧ J 72 p = rC (readA bs).2 p ∧ J 73 p = rL (readA bs).2 p) →
      wp (kN 89) mX11_lay (fun rv I' R' => R = R' ∧ frm [68, 70, 71, 72, 73, 74, 75, 81] I I' ∧ (∀ j, j ≠ 13 → j ≠ 14 → I' 68 j = I 68 j) ∧ MRo I' (layRM ρ bs) ∧ MLg I' 0 (layLg l bs) ∧ I' 68 13 = ((layKp kp bs).length : Int) ∧ (∀ j, j ≠ 0 → I' 75 j = I 75 j) ∧ rv = vI (layP bs)) 42 [vR 68, vI (i : Int)] [] J R 89 := by
    intro d
    induction d with
    | zero =>
      intro i J hi fJ z0 z20 zp
      refine gX11_lay_42 hR ⟨⟨by omega, by omega⟩, fun _ => ?_, fun q => absurd q (by omega)⟩
      exact last 5 0 J rfl (frm_sub fJ (by decide)) z0 (fun p hp => zp p (by omega) hp) (fun j _ => fJ 74 (by decide) j) (fun j hj => absurd hj (Nat.not_lt_zero _))
    | succ d ih =>
      intro i J hi fJ z0 z20 zp
      refine gX11_lay_42 hR ⟨⟨by omega, by omega⟩, fun q => absurd q (by omega), fun _ => ⟨⟨by omega, by omega⟩, ⟨by omega, by omega⟩, fun I4 q4 I5 q5 I6 q6 => ?_⟩⟩
      rw [show (20 + (i : Int)).toNat = 20 + i by omega, Int.toNat_natCast] at q4 q5 q6
      have f6 : frm [71, 72, 73] J I6 := by rw [q6, q5, q4]; exact frm_trans (frm_up (by decide)) (frm_trans (frm_up (by decide)) (frm_up (by decide)))
      have k6 : ∀ x j, j ≠ i → I6 x j = J x j := fun x j hj => by rw [q6, up2_nj hj, q5, up2_nj hj, q4, up2_nj hj]
      rw [show (i : Int) + 1 = ((i + 1 : Nat) : Int) by omega]
      refine ih (i + 1) I6 (by omega) (frm_trans fJ (frm_sub f6 (by decide))) ((f6 70 (by decide) 0).trans z0) (fun x j h1 h2 h3 => (k6 x j (by omega)).trans (z20 x j h1 h2 h3)) (fun p hp hpn => ?_)
      by_cases e : p = i
      · subst e
        obtain ⟨b1, b2, b3⟩ := m1.2.1 p hpn
        refine ⟨?_, ?_, ?_⟩
        · rw [q6, up2_ne (by decide), q5, up2_ne (by decide), q4, up2_self, z20 71 _ (by decide) (by decide) (by omega)]; exact b1
        · rw [q6, up2_ne (by decide), q5, up2_self, q4, up2_ne (by decide), z20 72 _ (by decide) (by decide) (by omega)]; exact b2
        · rw [q6, up2_self, q5, up2_ne (by decide), q4, up2_ne (by decide), z20 73 _ (by decide) (by decide) (by omega)]; exact b3
      · rw [k6 71 p e, k6 72 p e, k6 73 p e]; exact zp p (by omega) hpn
  refine first 20 0 I7 rfl (frm_sub f7 (by decide)) z7 (fun x j h1 h2 _ => f7 x (by simp only [List.mem_cons, List.not_mem_nil, or_false]; omega) j) (fun p hp => absurd hp (Nat.not_lt_zero _))
