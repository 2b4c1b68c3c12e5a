/-! THE COUPLING: the class and the reference hold one room, one text, one LOG, the same kept -/
def OKv (ρ : RM) (bs : List Int) (l : List LE) (kp : List KE) : Prop := okRM ρ ∧ okBs bs ∧ (∀ e ∈ l, okE ρ e) ∧ ∀ e ∈ kp, okKE ρ e
def XIv (ρ : RM) (bs : List Int) (l : List LE) (kp : List KE) (I : II) (R : RR) : Prop := SR R ∧ roomsAt R ∧ XR I R (R 1 2) ρ ∧ XF I ∧ XT I bs ∧ XLg I R 18 l ∧ XKs I R (rN ρ) kp
def MIv (ρ : RM) (bs : List Int) (l : List LE) (kp : List KE) (I : II) : Prop := MRo I ρ ∧ MT I bs ∧ MLg I 0 l ∧ MKs I (rN ρ) kp
def Inv (I : II) (R : RR) : Prop := ∃ ρ bs l kp, OKv ρ bs l kp ∧ XIv ρ bs l kp I R ∧ MIv ρ bs l kp I
/-- both called one after the other: they answer alike, and hold the same -/
def pairOK (mX mM : MI) (as : List AV) (mk : Int → AV) (I : II) (R : RR) : Prop := ∃ QX : QT, Spec mX (vR 1 :: as) I R 89 89 QX ∧ ∀ x I1 R1, QX (mk x) I1 R1 → ∃ QM : QT, Spec mM (vR 68 :: as) I1 R1 89 89 QM ∧ ∀ y I2 R2, QM (mk y) I2 R2 → mk y = mk x ∧ Inv I2 R2
theorem rooms2 {R : RR} (h : roomsAt R) : R 1 2 = 6 ∨ R 1 2 = 12 := by rcases h with q | q <;> omega
theorem MKs_bkb {I I' : II} {n : Nat} {kp : List KE} (h : MKs I n kp) (hb : bkb 0 I I') (h13 : I' 68 13 = I 68 13) (h80 : ∀ q, I' 80 q = I 80 q) : MKs I' n kp := by
  obtain ⟨h1, h2, h3⟩ := h
  refine ⟨h13.trans h1, h2, fun j e he => ?_⟩
  obtain ⟨e1, e2⟩ := h3 j e he
  exact ⟨fun p hp => (h80 _).trans (e1 p hp), MLg_bkb e2 hb (by omega)⟩
theorem XIv_frm {ρ : RM} {bs : List Int} {l : List LE} {kp : List KE} {I I' : II} {R : RR} {T : List Nat} (h : XIv ρ bs l kp I R) (hf : frm T I I') (hF : XF I') (hT : ∀ x ∈ T, 24 ≤ x ∧ x ≤ 53) : XIv ρ bs l kp I' R := by
  obtain ⟨hR, hr, hx, -, ht, hl, hk⟩ := h
  have hr2 := rooms2 hr
  refine ⟨hR, hr, XR_frm hR hr2 hx hf (fun x hx => ?_), hF, XT_frm ht hf (fun x hx => ?_), XLgA_frm (log18 hR) hl hf (fun x hx => ?_), XKs_frm hR hk hf (fun x hx => ?_)⟩ <;> (have := hT x hx; omega)
theorem MIv_low {ρ : RM} {bs : List Int} {l : List LE} {kp : List KE} {I I' : II} {T : List Nat} (h : MIv ρ bs l kp I) (hf : frm T I I') (hT : ∀ x ∈ T, x < 68) : MIv ρ bs l kp I' := by
  obtain ⟨hr, ht, hl, hk⟩ := h
  have g : ∀ x, 68 ≤ x → ∀ j, I' x j = I x j := fun x hx j => hf x (fun q => by have := hT x q; omega) j
  exact ⟨MRo_frm hr hf (fun x hx => by have := hT x hx; omega), MT_frm ht hf (g 68 (by decide) 0) (fun x hx => by have := hT x hx; omega), MLg_bkb hl (bkb_frm (b := 1) hf (fun x hx => by have := hT x hx; omega)) (by decide), MKs_bkb hk (bkb_frm hf (fun x hx => by have := hT x hx; omega)) (g 68 (by decide) 13) (g 80 (by decide))⟩
theorem MIv_keep {ρ : RM} {bs : List Int} {l : List LE} {kp : List KE} {I I' : II} (h : MIv ρ bs l kp I) (hk : mKeep I I') : MIv ρ bs l kp I' := by
  obtain ⟨hr, ht, hl, hkp⟩ := h
  exact ⟨MRo_keep hr hk, MT_frm ht hk.1 hk.2.1 (by decide), MLg_bkb hl (bkb_frm (b := 1) hk.1 (by decide)) (by decide), MKs_bkb hkp (bkb_frm hk.1 (by decide)) hk.2.2 (hk.1 80 (by decide))⟩
theorem frm_hi_X {ρ : RM} {bs : List Int} {l : List LE} {kp : List KE} {I I' : II} {R : RR} {T : List Nat} (h : XIv ρ bs l kp I R) (hf : frm T I I') (hT : ∀ x ∈ T, 68 ≤ x) : XIv ρ bs l kp I' R := by
  obtain ⟨hR, hr, hx, hF, ht, hl, hk⟩ := h
  have hr2 := rooms2 hr
  have g : ∀ x, x < 68 → ∀ j, I' x j = I x j := fun x hx j => hf x (fun q => by have := hT x q; omega) j
  refine ⟨hR, hr, XR_frm hR hr2 hx hf (fun x hx => ?_), ⟨(g 25 (by decide) 0).trans hF.1, (g 28 (by decide) 0).trans hF.2.1, (g 32 (by decide) 0).trans hF.2.2.1, (g 35 (by decide) 0).trans hF.2.2.2.1, (g 42 (by decide) 0).trans hF.2.2.2.2.1, (g 45 (by decide) 0).trans hF.2.2.2.2.2⟩, XT_frm ht hf (fun x hx => ?_), XLgA_frm (log18 hR) hl hf (fun x hx => ?_), XKs_frm hR hk hf (fun x hx => ?_)⟩ <;> (have := hT x hx; omega)
theorem pair_of {mX mM : MI} {as : List AV} {mk : Int → AV} {I : II} {R : RR} {P : AV → Prop} {ρ ρ' : RM} {bs bs' : List Int} {l l' : List LE} {kp kp' : List KE} (hok : OKv ρ' bs' l' kp') (hM : MIv ρ bs l kp I) (TX TM : List Nat) (hTX : ∀ x ∈ TX, x < 68) (hTM : ∀ x ∈ TM, 68 ≤ x)
    (sX : Spec mX (vR 1 :: as) I R 89 89 (fun rv I' R' => P rv ∧ frm TX I I' ∧ XIv ρ' bs' l' kp' I' R'))
    (sM : ∀ I1 R1, SR R1 → MIv ρ bs l kp I1 → Spec mM (vR 68 :: as) I1 R1 89 89 (fun rv I' R' => R1 = R' ∧ P rv ∧ frm TM I1 I' ∧ MIv ρ' bs' l' kp' I'))
    (uq : ∀ x y, P x → P y → x = y) : pairOK mX mM as mk I R := by
  refine ⟨_, sX, fun x I1 R1 q => ?_⟩
  obtain ⟨p1, f1, x1⟩ := q
  refine ⟨_, sM I1 R1 x1.1 (MIv_low hM f1 hTX), fun y I2 R2 q2 => ?_⟩
  obtain ⟨rfl, p2, f2, m2⟩ := q2
  exact ⟨uq _ _ p2 p1, ρ', bs', l', kp', hok, frm_hi_X x1 f2 hTM, m2⟩
/-- calls that leave all that lasts as it is -/
theorem pair_same {mX mM : MI} {as : List AV} {mk : Int → AV} {I : II} {R : RR} {P : AV → Prop} {ρ : RM} {bs : List Int} {l : List LE} {kp : List KE} (hok : OKv ρ bs l kp) (hX : XIv ρ bs l kp I R) (hM : MIv ρ bs l kp I) (TX : List Nat) (hTX : ∀ x ∈ TX, 24 ≤ x ∧ x ≤ 53)
    (sX : Spec mX (vR 1 :: as) I R 89 89 (fun rv I' R' => R = R' ∧ frm TX I I' ∧ XF I' ∧ P rv))
    (sM : ∀ I1 R1, SR R1 → MIv ρ bs l kp I1 → Spec mM (vR 68 :: as) I1 R1 89 89 (fun rv I' R' => R1 = R' ∧ mKeep I1 I' ∧ P rv))
    (uq : ∀ x y, P x → P y → x = y) : pairOK mX mM as mk I R := by
  refine pair_of (P := P) hok hM TX mScr (fun x hx => by have := hTX x hx; omega) (by decide) (Spec.mono sX (fun rv I' R' q => ?_)) (fun I1 R1 h1 h2 => Spec.mono (sM I1 R1 h1 h2) (fun rv I' R' q => ?_)) uq
  · obtain ⟨rfl, q2, q3, q4⟩ := q
    exact ⟨q4, q2, XIv_frm hX q2 q3 hTX⟩
  · exact ⟨q.1, q.2.2, q.2.1.1, MIv_keep h2 q.2.1⟩
theorem eq_u {v : AV} : ∀ x y, x = v → y = v → x = y := fun _ _ a b => a.trans b.symm
section PAIRS
variable {I : II} {R : RR}
theorem pr_lines {w : Int} (h : Inv I R) (h1 : InI w) : pairOK mX10_lines mX11_lines [vI w] vI I R := by
  obtain ⟨ρ, bs, l, kp, hok, hX, hM⟩ := h
  exact pair_same (P := fun rv => rv = vI (linesSp ρ w)) hok hX hM _ (by decide) (aX10_lines hX.1 (rooms2 hX.2.1) hX.2.2.1 hok.1 hX.2.2.2.1 h1) (fun I1 R1 a b => aX11_lines a b.1 hok.1 h1) eq_u
theorem pr_served {w : Int} (h : Inv I R) (h1 : InI w) : pairOK mX10_served mX11_served [vI w] vI I R := by
  obtain ⟨ρ, bs, l, kp, hok, hX, hM⟩ := h
  exact pair_same (P := fun rv => rv = vI (servedSp ρ w)) hok hX hM _ (by decide) (aX10_served hX.1 (rooms2 hX.2.1) hX.2.2.1 hok.1 hX.2.2.2.1 h1) (fun I1 R1 a b => aX11_served a b.1 hok.1 h1) eq_u
theorem pureX {mX : MI} {as : List AV} {v : AV} (hF : XF I) (h : Spec mX (vR 1 :: as) I R 89 89 (fun rv I' R' => R = R' ∧ I = I' ∧ rv = v)) : Spec mX (vR 1 :: as) I R 89 89 (fun rv I' R' => R = R' ∧ frm [] I I' ∧ XF I' ∧ rv = v) :=
  Spec.mono h (fun rv I' R' q => by obtain ⟨rfl, rfl, e⟩ := q; exact ⟨rfl, frm_rfl, hF, e⟩)
theorem pureM {mX : MI} {as : List AV} {v : AV} (h : Spec mX (vR 68 :: as) I R 89 89 (fun rv I' R' => R = R' ∧ I = I' ∧ rv = v)) : Spec mX (vR 68 :: as) I R 89 89 (fun rv I' R' => R = R' ∧ mKeep I I' ∧ rv = v) :=
  Spec.mono h (fun rv I' R' q => by obtain ⟨rfl, rfl, e⟩ := q; exact ⟨rfl, mKeep_rfl, e⟩)
theorem pr_pairs {w : Int} (h : Inv I R) (h1 : InI w) : pairOK mX10_pairs mX11_pairs [vI w] vL I R := by
  obtain ⟨ρ, bs, l, kp, hok, hX, hM⟩ := h
  exact pair_same (P := fun rv => rv = vL (pairsSp ρ w)) hok hX hM [] (by decide) (pureX hX.2.2.2.1 (aX10_pairs hX.1 (rooms2 hX.2.1) hX.2.2.1 hok.1 h1)) (fun I1 R1 a b => pureM (aX11_pairs a b.1 hok.1 h1)) eq_u
theorem pr_bell {p v : Int} (h : Inv I R) (h1 : InI p) (h2 : InI v) : pairOK mX10_bell mX11_bell [vI p, vI v] vI I R := by
  obtain ⟨ρ, bs, l, kp, hok, hX, hM⟩ := h
  exact pair_same (P := fun rv => rv = vI (bellP ρ p v)) hok hX hM _ (by decide) (aX10_bell hX.1 (rooms2 hX.2.1) hX.2.2.1 hok.1 hX.2.2.2.1 h1 h2) (fun I1 R1 a b => aX11_bell a b.1 hok.1 h1 h2) eq_u
theorem pr_best {p w : Int} (h : Inv I R) (h1 : InI p) (h2 : InI w) : pairOK mX10_best mX11_best [vI p, vI w] vI I R := by
  obtain ⟨ρ, bs, l, kp, hok, hX, hM⟩ := h
  exact pair_same (P := fun rv => ∃ r, rv = vI r ∧ bestR ρ p w r) hok hX hM _ (by decide) (aX10_best hX.1 (rooms2 hX.2.1) hX.2.2.1 hok.1 hX.2.2.2.1 h1 h2) (fun I1 R1 a b => aX11_best a b.1 hok.1 h1 h2) (fun x y a b => by
    obtain ⟨r, e, q⟩ := a
    obtain ⟨r', e', q'⟩ := b
    rw [e, e', bestR_eq q q'])
theorem pr_shout {i w : Int} (h : Inv I R) (h1 : InI i) (h2 : InI w) : pairOK mX10_shout mX11_shout [vI i, vI w] vI I R := by
  obtain ⟨ρ, bs, l, kp, hok, hX, hM⟩ := h
  exact pair_same (P := fun rv => rv = vI (shoutP l i w)) hok hX hM [] (by decide) (pureX hX.2.2.2.1 (aX10_shout hX.1 hX.2.2.2.2.2.1 h1 h2)) (fun I1 R1 a b => pureM (aX11_shout a b.2.2.1 h1 h2)) eq_u
theorem pr_known {p : Int} (h : Inv I R) (h1 : InI p) : pairOK mX10_known mX11_known [vI p] vI I R := by
  obtain ⟨ρ, bs, l, kp, hok, hX, hM⟩ := h
  exact pair_same (P := fun rv => rv = vI (knownP ρ l p)) hok hX hM [] (by decide) (pureX hX.2.2.2.1 (aX10_known hX.1 (rooms2 hX.2.1) hX.2.2.1 hok.1 hX.2.2.2.2.2.1 hok.2.2.1 h1)) (fun I1 R1 a b => pureM (aX11_known a b.1 hok.1 b.2.2.1 hok.2.2.1 h1)) eq_u
theorem pr_least {w : Int} (h : Inv I R) (h1 : InI w) : pairOK mX10_least mX11_least [vI w] vI I R := by
  obtain ⟨ρ, bs, l, kp, hok, hX, hM⟩ := h
  exact pair_same (P := fun rv => rv = vI (leastP ρ l w)) hok hX hM _ (by decide) (aX10_least hX.1 (rooms2 hX.2.1) hX.2.2.1 hok.1 hX.2.2.2.1 hX.2.2.2.2.2.1 hok.2.2.1 h1) (fun I1 R1 a b => aX11_least a b.1 hok.1 b.2.2.1 hok.2.2.1 h1) eq_u
theorem pr_laws {p : Int} (h : Inv I R) (h1 : InI p) : pairOK mX10_laws mX11_laws [vI p] vI I R := by
  obtain ⟨ρ, bs, l, kp, hok, hX, hM⟩ := h
  exact pair_same (P := fun rv => rv = vI (lawsP ρ l p)) hok hX hM [] (by decide) (pureX hX.2.2.2.1 (aX10_laws hX.1 (rooms2 hX.2.1) hX.2.2.1 hok.1 hX.2.2.2.2.2.1 hok.2.2.1 h1)) (fun I1 R1 a b => pureM (aX11_laws a b.1 hok.1 b.2.2.1 hok.2.2.1 h1)) eq_u
theorem pr_person {p w : Int} (h : Inv I R) (h1 : InI p) (h2 : InI w) : pairOK mX10_person mX11_person [vI p, vI w] vI I R := by
  obtain ⟨ρ, bs, l, kp, hok, hX, hM⟩ := h
  exact pair_same (P := fun rv => rv = vI (personP ρ p w)) hok hX hM [] (by decide) (pureX hX.2.2.2.1 (aX10_person hX.1 (rooms2 hX.2.1) hX.2.2.1 hok.1 h1 h2)) (fun I1 R1 a b => pureM (aX11_person a b.1 hok.1 h1 h2)) eq_u
theorem pr_count {w : Int} (h : Inv I R) (h1 : InI w) : pairOK mX10_count mX11_count [vI w] vI I R := by
  obtain ⟨ρ, bs, l, kp, hok, hX, hM⟩ := h
  exact pair_same (P := fun rv => rv = vI (countP ρ bs l (kp.length : Int) w)) hok hX hM [] (by decide) (pureX hX.2.2.2.1 (aX10_count hX.1 (rooms2 hX.2.1) hX.2.2.1 hX.2.2.2.2.1 hX.2.2.2.2.2.1 hX.2.2.2.2.2.2.1 h1)) (fun I1 R1 a b => pureM (aX11_count a b.1 hok.1 b.2.1 b.2.2.1 b.2.2.2.1 h1)) eq_u
theorem pr_two {a k w : Int} (h : Inv I R) (h1 : InI a) (h2 : InI k) (h3 : InI w) : pairOK mX10_two mX11_two [vI a, vI k, vI w] vI I R := by
  obtain ⟨ρ, bs, l, kp, hok, hX, hM⟩ := h
  exact pair_same (P := fun rv => twoQ ρ a k w rv) hok hX hM _ (by decide) (aX10_two hX.1 (rooms2 hX.2.1) hX.2.2.1 hok.1 hX.2.2.2.1 h1 h2 h3) (fun I1 R1 a b => aX11_two a b.1 hok.1 h1 h2 h3) (fun x y a b => twoQ_u a b)
/-- what means and rules of the reference leave -/
theorem MIv_means {ρ : RM} {bs : List Int} {l : List LE} {kp : List KE} {I I' : II} (h : MIv ρ bs l kp I) (hf : frm mnM I I') (hl : mLow I I') : MIv ρ bs l kp I' := by
  obtain ⟨hr, ht, hlg, hkp⟩ := h
  exact ⟨MRo_frm hr hf (by decide), MT_frm ht hf (hl 0 (by decide)) (by decide), MLg_bkb hlg (bkb_frm (b := 1) hf (by decide)) (by decide), MKs_bkb hkp (bkb_frm hf (by decide)) (hl 13 (by decide)) (hf 80 (by decide))⟩
theorem pr_means {rule z w : Int} (h : Inv I R) (h1 : InI rule) (h2 : InI z) (h3 : InI w) : pairOK mX10_means mX11_means [vI rule, vI z, vI w] vI I R := by
  obtain ⟨ρ, bs, l, kp, hok, hX, hM⟩ := h
  refine pair_of (P := fun rv => rv = vI (meansP ρ rule z w)) hok hM mnX mnM (by decide) (by decide) (Spec.mono (aX10_means hX.1 (rooms2 hX.2.1) hX.2.2.1 hok.1 hX.2.2.2.1 h1 h2 h3) (fun rv I' R' q => ?_)) (fun I1 R1 a b => Spec.mono (aX11_means a b.1 hok.1 h1 h2 h3) (fun rv I' R' q => ?_)) eq_u
  · obtain ⟨rfl, q2, q3, q4⟩ := q
    exact ⟨q4, q2, XIv_frm hX q2 q3 (by decide)⟩
  · exact ⟨q.1, q.2.2.2, q.2.1, MIv_means b q.2.1 q.2.2.1⟩
theorem pr_rules {z w : Int} (h : Inv I R) (h2 : InI z) (h3 : InI w) : pairOK mX10_rules mX11_rules [vI z, vI w] vI I R := by
  obtain ⟨ρ, bs, l, kp, hok, hX, hM⟩ := h
  refine pair_of (P := fun rv => rv = vI (rulesP ρ z w)) hok hM mnX mnM (by decide) (by decide) (Spec.mono (aX10_rules hX.1 (rooms2 hX.2.1) hX.2.2.1 hok.1 hX.2.2.2.1 h2 h3) (fun rv I' R' q => ?_)) (fun I1 R1 a b => Spec.mono (aX11_rules a b.1 hok.1 h2 h3) (fun rv I' R' q => ?_)) eq_u
  · obtain ⟨rfl, q2, q3, q4⟩ := q
    exact ⟨q4, q2, XIv_frm hX q2 q3 (by decide)⟩
  · exact ⟨q.1, q.2.2.2, q.2.1, MIv_means b q.2.1 q.2.2.1⟩
theorem logA_ok {ρ : RM} {rule z : Int} {c : Prop} [Decidable c] {l : List LE} (hok : okRM ρ) (h : ∀ e ∈ l, okE ρ e) : ∀ e ∈ logA ρ rule z c l, okE ρ e := by
  unfold logA
  split
  · exact (logSp_ok hok z).2
  · exact h
theorem XIv_round {ρ : RM} {bs : List Int} {l l' : List LE} {kp : List KE} {I I' : II} {R : RR} (h : XIv ρ bs l kp I R) (hf : frm (plT 18) I I') (hF : XF I') (hl : XLg I' R 18 l') : XIv ρ bs l' kp I' R := by
  obtain ⟨hR, hr, hx, -, ht, -, hk⟩ := h
  have hr2 := rooms2 hr
  have hT : ∀ x ∈ plT 18, 18 ≤ x ∧ x ≤ 47 := by decide
  refine ⟨hR, hr, XR_frm hR hr2 hx hf (fun x hx => ?_), hF, XT_frm ht hf (fun x hx => ?_), hl, XKs_frm hR hk hf (fun x hx => ?_)⟩ <;> (have := hT x hx; omega)
theorem MIv_round {ρ : RM} {bs : List Int} {l l' : List LE} {kp : List KE} {I I' : II} (h : MIv ρ bs l kp I) (hm : mRd I I') (hl : MLg I' 0 l') : MIv ρ bs l' kp I' := by
  obtain ⟨hr, ht, -, hkp⟩ := h
  obtain ⟨hf, hlw, hb⟩ := hm
  exact ⟨MRo_frm hr hf (by decide), MT_frm ht hf (hlw 0 (by decide)) (by decide), hl, MKs_bkb hkp ⟨hb.1, fun x j a b c => hb.2 x j a b (by omega)⟩ (hlw 13 (by decide)) (hf 80 (by decide))⟩
theorem pr_round {rule z w : Int} (h : Inv I R) (h1 : InI rule) (h2 : InI z) (h3 : InI w) : pairOK mX10_round mX11_round [vI rule, vI z, vI w] vI I R := by
  obtain ⟨ρ, bs, l, kp, hok, hX, hM⟩ := h
  refine pair_of (P := fun rv => rv = vI (roundP ρ rule z w)) (l' := logA ρ rule z (0 ≤ w ∧ w ≤ 3) l) ⟨hok.1, hok.2.1, logA_ok hok.1 hok.2.2.1, hok.2.2.2⟩ hM (plT 18) (mRT 1) (by decide) (by decide) (Spec.mono (aX10_round hX.1 (rooms2 hX.2.1) hX.2.2.1 hok.1 hX.2.2.2.1 hX.2.2.2.2.2.1 h1 h2 h3) (fun rv I' R' q => ?_)) (fun I1 R1 a b => Spec.mono (aX11_round a b.1 hok.1 b.2.2.1 h1 h2 h3) (fun rv I' R' q => ?_)) eq_u
  · obtain ⟨rfl, q2, q3, q4, q5⟩ := q
    exact ⟨q5, q2, XIv_round hX q2 q3 q4⟩
  · exact ⟨q.1, q.2.2.2, q.2.1.1, MIv_round b q.2.1 q.2.2.1⟩
theorem pr_of {rule z p : Int} (h : Inv I R) (h1 : InI rule) (h2 : InI z) (h3 : InI p) : pairOK mX10_of mX11_of [vI rule, vI z, vI p] vI I R := by
  obtain ⟨ρ, bs, l, kp, hok, hX, hM⟩ := h
  refine pair_of (P := fun rv => rv = vI (ofP ρ rule z p)) (l' := logA ρ rule z (0 ≤ p ∧ p < rN ρ) l) ⟨hok.1, hok.2.1, logA_ok hok.1 hok.2.2.1, hok.2.2.2⟩ hM (plT 18) (mRT 1) (by decide) (by decide) (Spec.mono (aX10_of hX.1 (rooms2 hX.2.1) hX.2.2.1 hok.1 hX.2.2.2.1 hX.2.2.2.2.2.1 h1 h2 h3) (fun rv I' R' q => ?_)) (fun I1 R1 a b => Spec.mono (aX11_of a b.1 hok.1 b.2.2.1 h1 h2 h3) (fun rv I' R' q => ?_)) eq_u
  · obtain ⟨rfl, q2, q3, q4, q5⟩ := q
    exact ⟨q5, q2, XIv_round hX q2 q3 q4⟩
  · exact ⟨q.1, q.2.2.2, q.2.1.1, MIv_round b q.2.1 q.2.2.1⟩
theorem XF_out {T : List Nat} {I I' : II} (h : XF I) (hf : frm T I I') (hT : ∀ x ∈ T, ¬ (24 ≤ x ∧ x ≤ 53)) : XF I' := by
  have g : ∀ x, 24 ≤ x → x ≤ 53 → ∀ j, I' x j = I x j := fun x a b j => hf x (fun q => hT x q ⟨a, b⟩) j
  exact ⟨(g 25 (by decide) (by decide) 0).trans h.1, (g 28 (by decide) (by decide) 0).trans h.2.1, (g 32 (by decide) (by decide) 0).trans h.2.2.1, (g 35 (by decide) (by decide) 0).trans h.2.2.2.1, (g 42 (by decide) (by decide) 0).trans h.2.2.2.2.1, (g 45 (by decide) (by decide) 0).trans h.2.2.2.2.2⟩
theorem XIv_text {ρ : RM} {bs bs' : List Int} {l : List LE} {kp : List KE} {I I' : II} {R : RR} (h : XIv ρ bs l kp I R) (hf : frm [2, 3] I I') (ht : XT I' bs') : XIv ρ bs' l kp I' R := by
  obtain ⟨hR, hr, hx, hF, -, hl, hk⟩ := h
  have hr2 := rooms2 hr
  have hT : ∀ x ∈ [2, 3], 2 ≤ x ∧ x ≤ 3 := by decide
  refine ⟨hR, hr, XR_frm hR hr2 hx hf (fun x hx => ?_), XF_out hF hf (fun x hx => ?_), ht, XLgA_frm (log18 hR) hl hf (fun x hx => ?_), XKs_frm hR hk hf (fun x hx => ?_)⟩ <;> (have := hT x hx; omega)
theorem MIv_text {ρ : RM} {bs bs' : List Int} {l : List LE} {kp : List KE} {I I' : II} (h : MIv ρ bs l kp I) (hf : frm [68, 69] I I') (h0 : ∀ j, j ≠ 0 → I' 68 j = I 68 j) (ht : MT I' bs') : MIv ρ bs' l kp I' := by
  obtain ⟨hr, -, hlg, hkp⟩ := h
  exact ⟨MRo_frm hr hf (by decide), ht, MLg_bkb hlg (bkb_frm (b := 1) hf (by decide)) (by decide), MKs_bkb hkp (bkb_frm hf (by decide)) (h0 13 (by decide)) (hf 80 (by decide))⟩
theorem pr_write {n v : Int} (h : Inv I R) (h1 : InI n) : pairOK mX10_write mX11_write [vI n, vL v] vI I R := by
  obtain ⟨ρ, bs, l, kp, hok, hX, hM⟩ := h
  refine pair_of (P := fun rv => rv = vI (wrP bs n)) (bs' := wrA bs n v) ⟨hok.1, wrA_ok hok.2.1, hok.2.2⟩ hM [2, 3] [68, 69] (by decide) (by decide) (Spec.mono (aX10_write hX.1 hX.2.2.2.2.1 h1) (fun rv I' R' q => ?_)) (fun I1 R1 a b => Spec.mono (aX11_write a b.2.1 h1) (fun rv I' R' q => ?_)) eq_u
  · obtain ⟨rfl, q2, q3, q4⟩ := q
    exact ⟨q4, q2, XIv_text hX q2 q3⟩
  · exact ⟨q.1, q.2.2.2.2, q.2.1, MIv_text b q.2.1 q.2.2.1 q.2.2.2.1⟩
theorem pr_wipe (h : Inv I R) : pairOK mX10_wipe mX11_wipe [] vI I R := by
  obtain ⟨ρ, bs, l, kp, hok, hX, hM⟩ := h
  refine pair_of (P := fun rv => rv = vI (bs.length : Int)) (bs' := []) ⟨hok.1, (fun b hb => by cases hb), hok.2.2⟩ hM [2, 3] [68, 69] (by decide) (by decide) (Spec.mono (aX10_wipe hX.1 hX.2.2.2.2.1) (fun rv I' R' q => ?_)) (fun I1 R1 a b => Spec.mono (aX11_wipe a b.2.1) (fun rv I' R' q => ?_)) eq_u
  · obtain ⟨rfl, q2, q3, q4⟩ := q
    have q2 := frm_sub (T' := [2, 3]) q2 (by decide)
    exact ⟨q4, q2, XIv_text hX q2 q3⟩
  · have q2 := frm_sub (T' := [68, 69]) q.2.1 (by decide)
    exact ⟨q.1, q.2.2.2.2, q2, MIv_text b q2 q.2.2.1 q.2.2.2.1⟩
theorem MIv_read {ρ : RM} {bs : List Int} {l : List LE} {kp : List KE} {I I' : II} (hn : rN ρ ≤ 20) (h : MIv ρ bs l kp I) (hm : mRead I I') : MIv ρ bs l kp I' := by
  obtain ⟨hr, ht, hlg, hkp⟩ := h
  exact ⟨MRo_read hr hn hm, MT_read ht hm, MLg_bkb hlg (bkb_frm (b := 1) hm.1 (by decide)) (by decide), MKs_bkb hkp (bkb_frm hm.1 (by decide)) (hm.2.1 13 (by decide)) (hm.1 80 (by decide))⟩
theorem rT_in {R : RR} {a : Nat} {x : Nat} (hx : x ∈ rT a) : a ≤ x ∧ x ≤ a + 5 := by
  unfold rT at hx
  simp only [List.mem_cons, List.not_mem_nil, or_false] at hx
  omega
theorem pr_fault (h : Inv I R) : pairOK mX10_fault mX11_fault [] vI I R := by
  obtain ⟨ρ, bs, l, kp, hok, hX, hM⟩ := h
  obtain ⟨hR, hr, hx, hF, ht, hl, hk⟩ := id hX
  have hr3 : R 1 3 = 6 ∨ R 1 3 = 12 := by rcases hr with q | q <;> omega
  have hT : ∀ x ∈ [4, 5] ++ rT (R 1 3), (x = 4 ∨ x = 5) ∨ (R 1 3 ≤ x ∧ x ≤ R 1 3 + 5) := fun x hx => by
    rcases List.mem_append.mp hx with q | q
    · left; simp only [List.mem_cons, List.not_mem_nil, or_false] at q; exact q
    · right; exact rT_in (R := R) q
  refine pair_of (P := fun rv => rv = vI (readA bs).1) hok hM ([4, 5] ++ rT (R 1 3)) [68, 70, 71, 72, 73, 74, 81] (fun x hx => by have := hT x hx; omega) (by decide) (Spec.mono (aX10_fault hR hr3 hok.2.1 ht) (fun rv I' R' q => ?_)) (fun I1 R1 a b => Spec.mono (aX11_fault a hok.2.1 b.2.1) (fun rv I' R' q => ?_)) eq_u
  · obtain ⟨rfl, q2, q3⟩ := q
    refine ⟨q3, q2, hR, hr, XR_frm hR (rooms2 hr) hx q2 (fun x hx => ?_), XF_out hF q2 (fun x hx => ?_), XT_frm ht q2 (fun x hx => ?_), XLgA_frm (log18 hR) hl q2 (fun x hx => ?_), XKs_frm hR hk q2 (fun x hx => ?_)⟩ <;> (have := hT x hx; rcases hr with y | y <;> omega)
  · exact ⟨q.1, q.2.2, q.2.1.1, MIv_read hok.1.1 b q.2.1⟩
theorem lawRM_N {ρ : RM} {p w : Int} : rN (lawRM ρ p w) = rN ρ := by unfold lawRM; split <;> rfl
theorem pr_law {p w : Int} (h : Inv I R) (h1 : InI p) (h2 : InI w) : pairOK mX10_law mX11_law [vI p, vI w] vI I R := by
  obtain ⟨ρ, bs, l, kp, hok, hX, hM⟩ := h
  obtain ⟨hR, hr, hx, hF, ht, hl, hk⟩ := id hX
  have hT : ∀ x ∈ [9, 15], x = 9 ∨ x = 15 := by decide
  refine pair_of (P := fun rv => rv = vI (lawP ρ p w)) (ρ' := lawRM ρ p w) ⟨lawRM_ok hok.1 p w, hok.2.1, lawRM_E hok.2.2.1, fun e he => ⟨(hok.2.2.2 e he).1, lawRM_E (hok.2.2.2 e he).2⟩⟩ hM [9, 15] [73] (by decide) (by decide) (Spec.mono (aX10_law hR (rooms2 hr) hx hok.1 h1 h2) (fun rv I' R' q => ?_)) (fun I1 R1 a b => Spec.mono (aX11_law a b.1 hok.1 h1 h2) (fun rv I' R' q => ?_)) eq_u
  · obtain ⟨rfl, q2, q3, q4⟩ := q
    refine ⟨q4, q2, hR, hr, q3, XF_out hF q2 (fun x hx => ?_), XT_frm ht q2 (fun x hx => ?_), XLgA_frm (log18 hR) hl q2 (fun x hx => ?_), by rw [lawRM_N]; exact XKs_frm hR hk q2 (fun x hx => by have := hT x hx; omega)⟩ <;> (have := hT x hx; omega)
  · obtain ⟨q1, q2, q3, q4⟩ := q
    obtain ⟨-, mt, ml, mk⟩ := b
    exact ⟨q1, q4, q2, q3, MT_frm mt q2 (q2 68 (by decide) 0) (by decide), MLg_bkb ml (bkb_frm (b := 1) q2 (by decide)) (by decide), by rw [lawRM_N]; exact MKs_bkb mk (bkb_frm q2 (by decide)) (q2 68 (by decide) 13) (q2 80 (by decide))⟩
theorem pr_keep (h : Inv I R) : pairOK mX10_keep mX11_keep [] vI I R := by
  obtain ⟨ρ, bs, l, kp, hok, hX, hM⟩ := h
  obtain ⟨hR, hr, hx, hF, ht, hl, hk⟩ := id hX
  have hT : ∀ x ∈ [1, 54, 55, 56, 57, 58, 59, 60, 61, 62, 63, 64, 65, 66, 67], x = 1 ∨ (54 ≤ x ∧ x ≤ 67) := by decide
  have hkk : ∀ e ∈ keepK ρ l kp, okKE ρ e := by
    unfold keepK
    split
    · intro e he
      rcases List.mem_append.mp he with q | q
      · exact hok.2.2.2 e q
      · rw [List.mem_singleton] at q
        subst q
        exact ⟨fun p => ⟨(hok.1.2.1 p).2.2.2.1, (hok.1.2.1 p).2.2.2.2⟩, hok.2.2.1⟩
    · exact hok.2.2.2
  refine pair_of (P := fun rv => rv = vI (keepP kp)) (kp' := keepK ρ l kp) ⟨hok.1, hok.2.1, hok.2.2.1, hkk⟩ hM [1, 54, 55, 56, 57, 58, 59, 60, 61, 62, 63, 64, 65, 66, 67] [68, 75, 76, 77, 78, 79, 80] (by decide) (by decide) (Spec.mono (aX10_keep hR (rooms2 hr) hx hok.1 hl hk) (fun rv I' R' q => ?_)) (fun I1 R1 a b => Spec.mono (aX11_keep a b.1 hok.1 b.2.2.1 b.2.2.2) (fun rv I' R' q => ?_)) eq_u
  · obtain ⟨rfl, q2, q3, q4⟩ := q
    have hr2 := rooms2 hr
    refine ⟨q4, q2, hR, hr, XR_frm hR hr2 hx q2 (fun x hx => ?_), XF_out hF q2 (fun x hx => ?_), XT_frm ht q2 (fun x hx => ?_), XLgA_frm (log18 hR) hl q2 (fun x hx => ?_), q3⟩ <;> (have := hT x hx; omega)
  · obtain ⟨q1, q2, q3, q4, q5, q6⟩ := q
    obtain ⟨mr, mt, -, -⟩ := b
    exact ⟨q1, q6, q2, MRo_frm mr q2 (by decide), MT_frm mt q2 (q3 0 (by decide)) (by decide), q4, q5⟩
theorem backR_N {ρ : RM} {kp : List KE} : rN (backR ρ kp) = rN ρ := by unfold backR; split <;> rfl
theorem back_okE {ρ : RM} {kp : List KE} {x : LE} (h : okE ρ x) : okE (backR ρ kp) x := by
  unfold backR
  split
  · exact h
  · exact h
theorem back_OK {ρ : RM} {bs : List Int} {l : List LE} {kp : List KE} (h : OKv ρ bs l kp) : OKv (backR ρ kp) bs (backL l kp) kp.dropLast := by
  obtain ⟨h1, h2, h3, h4⟩ := h
  refine ⟨?_, h2, fun e he => back_okE ?_, fun e he => ?_⟩
  · cases q : kp[kp.length - 1]? with
    | none => unfold backR; rw [q]; exact h1
    | some e => unfold backR; rw [q]; exact backRM_ok h1 (h4 e (List.mem_of_getElem? q))
  · cases q : kp[kp.length - 1]? with
    | none => unfold backL at he; rw [q] at he; exact h3 e he
    | some k => unfold backL at he; rw [q] at he; exact (h4 k (List.mem_of_getElem? q)).2 e he
  · have := h4 e ((List.dropLast_sublist kp).subset he)
    exact ⟨this.1, fun x hx => back_okE (this.2 x hx)⟩
theorem pr_back (h : Inv I R) : pairOK mX10_back mX11_back [] vI I R := by
  obtain ⟨ρ, bs, l, kp, hok, hX, hM⟩ := h
  obtain ⟨hR, hr, hx, hF, ht, hl, hk⟩ := id hX
  have hT : ∀ x ∈ [1, 9, 15, 18, 19, 20, 21, 22], x = 1 ∨ (9 ≤ x ∧ x ≤ 22) := by decide
  refine pair_of (P := fun rv => rv = vI (backP kp)) (ρ' := backR ρ kp) (l' := backL l kp) (kp' := kp.dropLast) (back_OK hok) hM [1, 9, 15, 18, 19, 20, 21, 22] [68, 73, 75, 76, 77, 78, 79] (by decide) (by decide) (Spec.mono (aX10_back hR (rooms2 hr) hx hok.1 hl hk) (fun rv I' R' q => ?_)) (fun I1 R1 a b => Spec.mono (aX11_back a b.1 hok.1 b.2.2.1 b.2.2.2) (fun rv I' R' q => ?_)) eq_u
  · obtain ⟨rfl, q2, q3, q4, q5, q6⟩ := q
    refine ⟨q6, q2, hR, hr, q3, XF_out hF q2 (fun x hx => ?_), XT_frm ht q2 (fun x hx => ?_), q4, by rw [backR_N]; exact q5⟩ <;> (have := hT x hx; omega)
  · obtain ⟨q1, q2, q3, q4, q5, q6, q7⟩ := q
    exact ⟨q1, q7, q2, q4, MT_frm b.2.1 q2 (q3 0 (by decide)) (by decide), q5, by rw [backR_N]; exact q6⟩
theorem lay_OK {ρ : RM} {bs : List Int} {l : List LE} {kp : List KE} (h : OKv ρ bs l kp) : OKv (layRM ρ bs) bs (layLg l bs) (layKp kp bs) := by
  refine ⟨layRM_ok h.1, h.2.1, ?_, ?_⟩
  · unfold layLg layRM
    split
    · intro e he; cases he
    · exact h.2.2.1
  · unfold layKp layRM
    split
    · intro e he; cases he
    · exact h.2.2.2
theorem pr_lay (h : Inv I R) : pairOK mX10_lay mX11_lay [] vI I R := by
  obtain ⟨ρ, bs, l, kp, hok, hX, hM⟩ := h
  obtain ⟨hR, hr, hx, hF, ht, hl, hk⟩ := id hX
  have hr3 : R 1 3 = 6 ∨ R 1 3 = 12 := by rcases hr with q | q <;> omega
  have hT : ∀ x ∈ [1, 4, 5, 18] ++ rT (R 1 3), (x = 1 ∨ x = 4 ∨ x = 5 ∨ x = 18) ∨ (R 1 3 ≤ x ∧ x ≤ R 1 3 + 5) := fun x hx => by
    rcases List.mem_append.mp hx with q | q
    · left; simp only [List.mem_cons, List.not_mem_nil, or_false] at q; exact q
    · right; exact rT_in (R := R) q
  refine pair_of (P := fun rv => rv = vI (layP bs)) (ρ' := layRM ρ bs) (l' := layLg l bs) (kp' := layKp kp bs) (lay_OK hok) hM ([1, 4, 5, 18] ++ rT (R 1 3)) [68, 70, 71, 72, 73, 74, 75, 81] (fun x hx => by have := hT x hx; omega) (by decide) (Spec.mono (aX10_lay hR hr hok.2.1 ht hx hl hk.1) (fun rv I' R' q => ?_)) (fun I1 R1 a b => Spec.mono (aX11_lay a hok.2.1 b.2.1 b.1 hok.1 b.2.2.1 b.2.2.2.1) (fun rv I' R' q => ?_)) eq_u
  · obtain ⟨q1, q2, q3, q4, q5, q6, q7, q8, q9⟩ := q
    refine ⟨q9, q4, q1, q2, q5, XF_out hF q4 (fun x hx => by have := hT x hx; omega), XT_frm ht q4 (fun x hx => by have := hT x hx; omega), q6, ?_⟩
    by_cases hy : isLaid bs
    · have e : layKp kp bs = [] := by unfold layKp; rw [if_pos hy]
      rw [e] at q7 ⊢
      exact ⟨q7, by decide, fun j e he => by simp at he⟩
    · have e : layKp kp bs = kp := by unfold layKp; rw [if_neg hy]
      have e2 : layRM ρ bs = ρ := by unfold layRM; rw [if_neg hy]
      rw [e] at q7 ⊢
      rw [e2]
      obtain ⟨k1, k2, k3⟩ := hk
      refine ⟨q7, k2, fun j e' he' => ?_⟩
      have hj : j < kp.length := (List.getElem?_eq_some_iff.mp he').1
      obtain ⟨y1, y2⟩ := k3 j e' he'
      obtain ⟨m1, m2, m3, m4, m5, m6⟩ := keptO hR (j := j) (by omega)
      refine ⟨fun p hp => (q4 _ (fun q => by have := hT _ q; omega) p).trans (y1 p hp), ?_⟩
      have y3 := XLgA_frm m6 y2 q4 (fun x hx => by have := hT x hx; omega)
      unfold XLg at y3 ⊢
      rw [q3 _ 0 (by omega), q3 _ 1 (by omega), q3 _ 2 (by omega), q3 _ 3 (by omega)]
      exact y3
  · obtain ⟨q1, q2, q3, q4, q5, q6, q7, q8⟩ := q
    refine ⟨q1, q8, q2, q4, MT_frm b.2.1 q2 (q3 0 (by decide) (by decide)) (by decide), q5, ?_⟩
    by_cases hy : isLaid bs
    · have e : layKp kp bs = [] := by unfold layKp; rw [if_pos hy]
      rw [e] at q6 ⊢
      exact ⟨q6, by decide, fun j e he => by simp at he⟩
    · have e : layKp kp bs = kp := by unfold layKp; rw [if_neg hy]
      have e2 : layRM ρ bs = ρ := by unfold layRM; rw [if_neg hy]
      rw [e] at q6 ⊢
      rw [e2]
      exact MKs_bkb b.2.2.2 ⟨q7, fun x j a c _ => q2 x (by simp only [List.mem_cons, List.not_mem_nil, or_false]; omega) j⟩ (q6.trans b.2.2.2.1.symm) (q2 80 (by decide))
end PAIRS
