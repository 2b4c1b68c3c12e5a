/-! one tells another CARD -/
theorem InI_if {c : Prop} [Decidable c] : InI (if c then 1 else 0) := by
  by_cases h : c
  · rw [if_pos h]; exact ⟨by decide, by decide⟩
  · rw [if_neg h]; exact ⟨by decide, by decide⟩
def telV (ρ : RM) (p : Nat) (v : Int) : Nat → Int := fun q => if q = p then v else rC ρ q
def tB (ρ : RM) (p : Nat) (v : Int) : List Nat := BLs (rS ρ) (telV ρ p v) (rN ρ)
def tS (ρ : RM) (p : Nat) (v : Int) : List Nat := SLs (rS ρ) (telV ρ p v) (rN ρ)
def tQ (ρ : RM) (p : Nat) (v : Int) : Nat := qty (telV ρ p v) (rP ρ 1) (tB ρ p v) (tS ρ p v)
def bellSp (ρ : RM) (p : Nat) (v : Int) : Int :=
  if p ∈ (if rS ρ p = 0 then tB ρ p v else tS ρ p v).take (tQ ρ p v) then
    (if rS ρ p = 0 then rC ρ p - lowP (telV ρ p v) (rP ρ 1) (tB ρ p v) (tS ρ p v) (tQ ρ p v) else lowP (telV ρ p v) (rP ρ 1) (tB ρ p v) (tS ρ p v) (tQ ρ p v) - rP ρ 1 - rC ρ p)
  else 0
theorem tel_bd {ρ : RM} {p : Nat} {v : Int} (hok : okRM ρ) (hv : 0 ≤ v ∧ v ≤ 99) (q : Nat) : 0 ≤ telV ρ p v q ∧ telV ρ p v q ≤ 99 := by
  have := hok.2.1 q
  unfold telV
  split <;> omega
theorem tel_bd2 {ρ : RM} {p : Nat} {v : Int} (hok : okRM ρ) (hv : 0 ≤ v ∧ v ≤ 99) (q : Nat) : -1000 ≤ telV ρ p v q ∧ telV ρ p v q ≤ 1000 := by
  have := tel_bd (p := p) hok hv q
  omega
theorem tQ_le {ρ : RM} {p : Nat} {v : Int} : tQ ρ p v ≤ (tB ρ p v).length ∧ tQ ρ p v ≤ (tS ρ p v).length := ⟨(qty_is _ _).1, (qty_is _ _).2.1⟩
theorem tLb {ρ : RM} {p : Nat} {v : Int} (hok : okRM ρ) : (tB ρ p v).length ≤ 10 := Nat.le_trans BLs_len hok.2.2.2.2.2.2.2.1.2
theorem tLs {ρ : RM} {p : Nat} {v : Int} (hok : okRM ρ) : (tS ρ p v).length ≤ 10 := Nat.le_trans SLs_len hok.2.2.2.2.2.2.2.2.2
theorem bell_bd {ρ : RM} {p : Nat} {v : Int} (hok : okRM ρ) (hv : 0 ≤ v ∧ v ≤ 99) : -20000 ≤ bellSp ρ p v ∧ bellSp ρ p v ≤ 20000 := by
  have := lowP_bd (v := telV ρ p v) (t := rP ρ 1) (bl := tB ρ p v) (sl := tS ρ p v) (q := tQ ρ p v) (tel_bd2 hok hv) (okT hok)
  have := hok.2.1 p
  have := hok.2.2.2.1
  unfold bellSp
  split
  · split <;> omega
  · omega
theorem XF24 {I I' : II} {R : RR} {bl sl : List Nat} {v : Nat → Int} (hR : SR R) (hF : XF I) (f : frm [24, 25, 26, 27, 28, 29, 30] I I') (l : linesIs I' R 24 bl sl v) : XF I' := by
  obtain ⟨-, -, z1, z2⟩ := l
  rw [r_24_0 hR] at z1
  rw [r_24_1 hR] at z2
  exact ⟨z1, z2, (f 32 (by simp) 0).trans hF.2.2.1, (f 35 (by simp) 0).trans hF.2.2.2.1, (f 42 (by simp) 0).trans hF.2.2.2.2.1, (f 45 (by simp) 0).trans hF.2.2.2.2.2⟩
/-- lines at 24 of what k PEOPLE tell -/
theorem put24 {I : II} {R : RR} {ρ : RM} {v : Nat → Int} {k : Nat} (hR : SR R) (hr : R 1 2 = 6 ∨ R 1 2 = 12) (h : XR I R (R 1 2) ρ) (hok : okRM ρ) (hl : linesIs I R 24 (insAll (S0 (rS ρ)) (kf 0 v) k) (insAll (S1 (rS ρ)) (kf 1 v) k) v) (hk : k < rN ρ) (hv : ∀ q, -1000 ≤ v q ∧ v q ≤ 1000) :
    Spec mX3_put [vR 24, vR (R 1 2), vI k, vI (v k)] I R 89 89 (fun _ I' R' => R' = R ∧ linesIs I' R 24 (insAll (S0 (rS ρ)) (kf 0 v) (k + 1)) (insAll (S1 (rS ρ)) (kf 1 v) (k + 1)) v ∧ frm [24, 25, 26, 27, 28, 29, 30] I I') := by
  obtain ⟨o, a0, a1, a2, a3, a4⟩ := roomO hR hr
  have h01 := (hok.2.1 k).1
  refine Spec.mono (aX3_put (m := rN ρ) (sd := rS ρ) (by decide) (lns24 hR) hl o a0 (fun p hp => ⟨(h.2.2.2.2.2.2.2.2.1 p hp).1, (hok.2.1 p).1⟩) hk hok.1 (fun hz => ?_) (fun hz => ?_) (insAll_srt k) (insAll_srt k) hv) (fun rv I' R' hq => ?_)
  · rw [insAll_len]
    have := cntB_lt (S := S0 (rS ρ)) hk (by simp [S0, hz])
    have := hok.2.2.2.2.2.2.2.1.2
    omega
  · rw [insAll_len]
    have := cntB_lt (S := S1 (rS ρ)) hk (by simp [S1, hz])
    have := hok.2.2.2.2.2.2.2.2.2
    omega
  · obtain ⟨rfl, p1, p2⟩ := hq
    rw [lT24 hR] at p2
    have b0 : insAll (S0 (rS ρ)) (kf 0 v) (k + 1) = if rS ρ k = 0 then insK (kf 0 v) k (insAll (S0 (rS ρ)) (kf 0 v) k) else insAll (S0 (rS ρ)) (kf 0 v) k := by
      show (if S0 (rS ρ) k = true then _ else _) = _
      simp only [S0, decide_eq_true_eq]
    have b1 : insAll (S1 (rS ρ)) (kf 1 v) (k + 1) = if rS ρ k = 0 then insAll (S1 (rS ρ)) (kf 1 v) k else insK (kf 1 v) k (insAll (S1 (rS ρ)) (kf 1 v) k) := by
      show (if S1 (rS ρ) k = true then _ else _) = _
      simp only [S1, decide_eq_true_eq]
      rcases h01 with e | e <;> rw [e] <;> rfl
    rw [b0, b1]
    exact ⟨rfl, p1, frm_sub p2 (by simp)⟩
theorem own_mem {ρ : RM} {v : Nat → Int} {p k : Nat} (h01 : rS ρ p = 0 ∨ rS ρ p = 1) : (p ∈ (BLs (rS ρ) v (rN ρ)).take k ∨ p ∈ (SLs (rS ρ) v (rN ρ)).take k) ↔ p ∈ (if rS ρ p = 0 then BLs (rS ρ) v (rN ρ) else SLs (rS ρ) v (rN ρ)).take k := by
  rcases h01 with e | e
  · rw [if_pos e]
    refine ⟨fun h => h.elim id (fun h => ?_), Or.inl⟩
    have := (SLs_mem (List.mem_of_mem_take h)).2
    omega
  · rw [if_neg (by omega)]
    refine ⟨fun h => h.elim (fun h => ?_) id, Or.inr⟩
    have := (BLs_mem (List.mem_of_mem_take h)).2
    omega
set_option maxHeartbeats 1000000 in
theorem aX10_gainOfTelling {I : II} {R : RR} {ρ : RM} {p : Nat} {v : Int} (hR : SR R) (hr : R 1 2 = 6 ∨ R 1 2 = 12) (h : XR I R (R 1 2) ρ) (hok : okRM ρ) (hF : XF I) (hp : p < rN ρ) (hv : 0 ≤ v ∧ v ≤ 99) :
    Spec mX10_gainOfTelling [vR 1, vI p, vI v] I R 89 89 (fun rv I' R' => R = R' ∧ frm [24, 25, 26, 27, 28, 29, 30] I I' ∧ XF I' ∧ rv = vI (bellSp ρ p v)) := by
  have ht := okT hok
  have hn := hok.1
  have htv := tel_bd (p := p) hok hv
  have htv2 := tel_bd2 (p := p) hok hv
  obtain ⟨o, a0, a1, a2, a3, a4⟩ := roomO hR hr
  refine sX10_gainOfTelling (gX10_gainOfTelling_0 hR ⟨_, aX3_empty (v := telV ρ p v) (by decide) (lns24 hR) (by rw [r_24_0 hR]; exact hF.1) (by rw [r_24_1 hR]; exact hF.2.1), fun I1 R1 hq1 => ?_⟩)
  obtain ⟨rfl, l1, f1⟩ := hq1
  rw [lT24 hR] at f1
  refine ⟨rfl, ?_⟩
  have loop : ∀ (d k : Nat) (I2 : II), k + d = rN ρ → linesIs I2 R1 24 (insAll (S0 (rS ρ)) (kf 0 (telV ρ p v)) k) (insAll (S1 (rS ρ)) (kf 1 (telV ρ p v)) k) (telV ρ p v) → frm [24, 25, 26, 27, 28, 29, 30] I I2 →
      wp (kN 89) mX10_gainOfTelling (fun rv I' R' => R1 = R' ∧ frm [24, 25, 26, 27, 28, 29, 30] I I' ∧ XF I' ∧ rv = vI (bellSp ρ p v)) 9 [vR 1, vI (p : Int), vI v, vI (k : Int)] [] I2 R1 89 := by
    intro d
    induction d with
    | zero =>
      intro k I2 hk l2 f2
      have hkn : k = rN ρ := by omega
      subst hkn
      have h2 : XR I2 R1 (R1 1 2) ρ := XR_frm hR hr h f2 (fun x hx => by simp at hx; omega)
      rw [← BLs_eq (fun q _ _ => htv q), ← SLs_eq (fun q _ _ => htv q)] at l2
      refine gX10_gainOfTelling_9 hR ⟨o, ⟨by omega, by omega⟩, by rw [h2.1]; exact ⟨by omega, by omega⟩, fun _ => ?_, fun q => absurd (by rw [h2.1]; omega) q⟩
      rw [h2.2.2.2.2.1]
      refine ⟨_, aX3_cross (by decide) (lns24 hR) l2 (tLb hok) (tLs hok) htv2 ht, fun I4 R4 hq4 => ?_⟩
      obtain ⟨rfl, l4, f4, c2, c3, c4, c5⟩ := hq4
      have f4' : frm [24, 25, 26, 27, 28, 29, 30] I I4 := frm_trans f2 (frm_sub f4 (by simp))
      have h4 : XR I4 R4 (R4 1 2) ρ := XR_frm hR hr h f4' (fun x hx => by simp at hx; omega)
      have hF4 : XF I4 := XF24 hR hF f4' l4
      have hp4 := h4.2.2.2.2.2.2.2.2.1 p hp
      have h01 := (hok.2.1 p).1
      refine ⟨rfl, a0, ⟨by omega, by omega⟩, ?_⟩
      rw [Int.toNat_natCast, hp4.1]
      refine ⟨_, aX3_trades (k := tQ ρ p v) (by decide) (lns24 hR) l4 (tLb hok) (tLs hok) c2 tQ_le.1 tQ_le.2 (by omega) (fun q hq => by have := (BLs_mem hq).1; omega) (fun q hq => by have := (SLs_mem hq).1; omega) h01, fun x7 I7 R7 hz7 hq7 => ?_⟩
      obtain ⟨rfl, rfl, e7⟩ := hq7
      cases e7
      have lo := lowP_bd (v := telV ρ p v) (t := rP ρ 1) (bl := tB ρ p v) (sl := tS ρ p v) (q := tQ ρ p v) htv2 ht
      refine ⟨rfl, InI_if, fun hx => ⟨a1, ?_⟩, fun hx => ⟨rfl, f4', hF4, ?_⟩⟩
      · have hm : p ∈ (if rS ρ p = 0 then tB ρ p v else tS ρ p v).take (tQ ρ p v) := Decidable.byContradiction fun q => hx (if_neg q)
        rw [hp4.1, hp4.2.1, h4.2.2.2.2.1]
        refine ⟨by rcases h01 with e | e <;> rw [e] <;> exact ⟨by decide, by decide⟩, fun hs => ⟨rfl, f4', hF4, ?_⟩, fun hs => ⟨rfl, f4', hF4, ?_⟩⟩
        · unfold bellSp; rw [if_pos hm, if_pos hs, c4]; rfl
        · unfold bellSp; rw [if_pos hm, if_neg hs, c4]; rfl
      · have hm : ¬ p ∈ (if rS ρ p = 0 then tB ρ p v else tS ρ p v).take (tQ ρ p v) := fun q => by
          have := (if_pos q).symm.trans hx
          cases this
        unfold bellSp; rw [if_neg hm]
    | succ d ih =>
      intro k I2 hk l2 f2
      have h2 : XR I2 R1 (R1 1 2) ρ := XR_frm hR hr h f2 (fun x hx => by simp at hx; omega)
      have ek : (k : Int) + 1 = ((k + 1 : Nat) : Int) := by omega
      refine gX10_gainOfTelling_9 hR ⟨o, ⟨by omega, by omega⟩, by rw [h2.1]; exact ⟨by omega, by omega⟩, fun q => absurd q (by rw [h2.1]; omega), fun _ => ⟨⟨by omega, by omega⟩, fun hne => ⟨a1, ⟨by omega, by omega⟩, ?_⟩, fun he => ?_⟩⟩
      · have hkp : k ≠ p := fun e => hne (by rw [e])
        rw [Int.toNat_natCast, (h2.2.2.2.2.2.2.2.2.1 k (by omega)).2.1]
        have ev : rC ρ k = telV ρ p v k := by unfold telV; rw [if_neg hkp]
        rw [ev]
        refine ⟨_, put24 hR hr h2 hok l2 (by omega) htv2, fun I14 R14 hq => ?_⟩
        obtain ⟨rfl, p1, p2⟩ := hq
        refine ⟨rfl, ?_⟩
        rw [ek]
        exact ih (k + 1) I14 (by omega) p1 (frm_trans f2 p2)
      · have hkp : k = p := by omega
        have ev : v = telV ρ p v k := by unfold telV; rw [if_pos hkp]
        have sp := put24 hR hr h2 hok l2 (by omega) htv2
        rw [← ev] at sp
        refine ⟨_, sp, fun I15 R15 hq => ?_⟩
        obtain ⟨rfl, p1, p2⟩ := hq
        refine ⟨rfl, ?_⟩
        rw [ek]
        exact ih (k + 1) I15 (by omega) p1 (frm_trans f2 p2)
  exact loop (rN ρ) 0 I1 (by omega) l1 (frm_sub f1 (by simp))
set_option maxHeartbeats 1000000 in
theorem aX11_bellOf {I : II} {R : RR} {ρ : RM} {p : Nat} {v : Int} (hR : SR R) (h : MRo I ρ) (hok : okRM ρ) (hp : p < rN ρ) (hv : 0 ≤ v ∧ v ≤ 99) :
    Spec mX11_bellOf [vR 68, vI p, vI v] I R 89 89 (fun rv I' R' => R = R' ∧ mKeep I I' ∧ rv = vI (bellSp ρ p v)) := by
  have ht := okT hok
  have hn := hok.1
  have htv2 := tel_bd2 (p := p) hok hv
  have h01 := (hok.2.1 p).1
  refine sX11_bellOf (gX11_bellOf_0 hR ⟨_, aX11_showTrue hR h.1 hok.1, fun I1 R1 hq1 => ?_⟩)
  obtain ⟨rfl, s1, f1⟩ := hq1
  refine ⟨rfl, ⟨by omega, by omega⟩, fun I3 e3 => ?_⟩
  rw [Int.toNat_natCast] at e3
  have k3 : mKeep I I3 := by rw [e3]; exact mKeep_trans (mKeep_frm f1 (by decide)) (mKeep_frm (T := [82]) (frm_up (by simp)) (by decide))
  have h3 := MRo_keep h k3
  have hsh : mSh I3 (rN ρ) (rS ρ) (telV ρ p v) := ⟨h3.1, hok.1, fun q hq => ⟨(h3.2.1 q hq).1, (hok.2.1 q).1, by
    rw [e3, up2_at]
    unfold telV
    split
    · rfl
    · exact (s1 q hq).trans (h.2.1 q hq).2.1⟩⟩
  refine ⟨_, aX11_layLines hR hsh hok.2.2.2.2.2.2.2.1.2 hok.2.2.2.2.2.2.2.2.2 htv2, fun I4 R4 hq4 => ?_⟩
  obtain ⟨rfl, m4, f4⟩ := hq4
  have k4 : mKeep I I4 := mKeep_trans k3 (mKeep_mFr f4)
  have h4 := MRo_keep h k4
  have v4 : mV I4 (telV ρ p v) (tB ρ p v) (tS ρ p v) := mV_of hok.1 (fun q hq => ((mSh_frm hsh f4).2.2 q hq).2.2)
  rw [h4.2.2 1 (by decide)]
  have sq : Spec mX11_quantity [vR 68, vI (rP ρ 1)] I4 R 89 89 (fun rv I' R' => R = R' ∧ I4 = I' ∧ rv = vI (tQ ρ p v : Int)) := aX11_quantity hR m4 v4 (tLb hok) (tLs hok) htv2 ht
  have q1 := tQ_le (ρ := ρ) (p := p) (v := v)
  have q2 := tLb (p := p) (v := v) hok
  refine ⟨rfl, _, sq, fun x5 I5 R5 hq5 => ?_⟩
  obtain ⟨rfl, rfl, e5⟩ := hq5
  cases e5
  refine ⟨rfl, ⟨by omega, by omega⟩, fun hz => gX11_bellOf_44 hR ⟨rfl, k4, ?_⟩, fun hz => ⟨_, aX11_isFirst (p := p) (k := tQ ρ p v) hR m4 (fun q hq => by have := (BLs_mem hq).1; omega) (fun q hq => by have := (SLs_mem hq).1; omega) (by omega) (tLb hok) q1.1 q1.2, fun x7 I7 R7 hz7 hq7 => ?_⟩⟩
  · unfold bellSp
    rw [show tQ ρ p v = 0 by omega, List.take_zero, if_neg (by simp)]
  · obtain ⟨rfl, rfl, e7⟩ := hq7
    cases e7
    refine ⟨rfl, InI_if, fun hx => ⟨_, aX11_lowest hR m4 v4 (tLb hok) (tLs hok) (by omega) q1.2 htv2 ht, fun x9 I9 R9 hq9 => ?_⟩, fun hx => gX11_bellOf_44 hR ⟨rfl, k4, ?_⟩⟩
    · obtain ⟨rfl, rfl, e9⟩ := hq9
      cases e9
      have hm0 : p ∈ (tB ρ p v).take (tQ ρ p v) ∨ p ∈ (tS ρ p v).take (tQ ρ p v) := Decidable.byContradiction fun q => hx (if_neg q)
      have hm : p ∈ (if rS ρ p = 0 then tB ρ p v else tS ρ p v).take (tQ ρ p v) := (own_mem (v := telV ρ p v) h01).mp hm0
      rw [Int.toNat_natCast, (h4.2.1 p hp).1, (h4.2.1 p hp).2.1]
      refine ⟨rfl, ⟨by omega, by omega⟩, by rcases h01 with e | e <;> rw [e] <;> exact ⟨by decide, by decide⟩, fun hs => ⟨rfl, k4, ?_⟩, fun hs => ⟨rfl, k4, ?_⟩⟩
      · unfold bellSp; rw [if_pos hm, if_neg hs]; rfl
      · unfold bellSp; rw [if_pos hm, if_pos hs]; rfl
    · have hm0 : ¬ (p ∈ (tB ρ p v).take (tQ ρ p v) ∨ p ∈ (tS ρ p v).take (tQ ρ p v)) := fun q => by
        have := (if_pos q).symm.trans hx
        cases this
      have hm : ¬ p ∈ (if rS ρ p = 0 then tB ρ p v else tS ρ p v).take (tQ ρ p v) := mt (own_mem (v := telV ρ p v) h01).mpr hm0
      unfold bellSp; rw [if_neg hm]
