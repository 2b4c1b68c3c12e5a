/-! a whole ROUND, of both -/
def roundSp (ρ : RM) (rule z : Int) : RS :=
  if rule = 0 then shS (shR ρ z (rP ρ 0).toNat) else if rule = 1 then pairsR ρ z (rP ρ 0).toNat else if rule = 2 then postedR ρ z (rP ρ 0).toNat else bellR ρ z (bQn ρ z)
def logSp (ρ : RM) (z : Int) : List LE := shG ρ z (rP ρ 0).toNat
theorem logSp_ok {ρ : RM} (hok : okRM ρ) (z : Int) : (logSp ρ z).length ≤ 200 ∧ ∀ e ∈ logSp ρ z, okE ρ e := by
  have hst := hok.2.2.1
  have := shG_len (ρ := ρ) (z := z) (rP ρ 0).toNat
  exact ⟨by unfold logSp; omega, shG_ok hok _ (by omega)⟩
theorem roundSp_ok {ρ : RM} (hok : okRM ρ) (rule z : Int) : okS 200 (roundSp ρ rule z) := by
  have hst := hok.2.2.1
  unfold roundSp
  split
  · exact okS_le (shR_ok hok z _ (by omega)).1 (by omega)
  · split
    · exact okS_le (pairsR_ok hok z _ (by omega)) (by omega)
    · split
      · exact okS_le (postedR_ok hok z _ (by omega)) (by omega)
      · have := (bIsQ ρ z).1
        have := (bLens (z := z) hok).1
        exact okS_le (bellR_ok hok z _ (Nat.le_refl _)) (by omega)
def plT (lg : Nat) : List Nat := if lg = 0 then [38, 39, 40, 41, 42, 43, 44, 45, 46, 47] else [18, 19, 20, 21, 22, 38, 39, 40, 41, 42, 43, 44, 45, 46, 47]
theorem XF_frm {T : List Nat} {I I' : II} (h : XF I) (hf : frm T I I') (hT : ∀ x ∈ T, x ∉ [25, 28, 32, 35, 42, 45]) : XF I' := by
  obtain ⟨h1, h2, h3, h4, h5, h6⟩ := h
  have g : ∀ x, x ∈ [25, 28, 32, 35, 42, 45] → I' x 0 = I x 0 := fun x hx => hf x (fun q => hT x q hx) 0
  exact ⟨(g 25 (by decide)).trans h1, (g 28 (by decide)).trans h2, (g 32 (by decide)).trans h3, (g 35 (by decide)).trans h4, (g 42 (by decide)).trans h5, (g 45 (by decide)).trans h6⟩
theorem aX7_play {I : II} {R : RR} {r lg : Nat} {ρ : RM} {rule z : Int} (hR : SR R) (hr : r = 6 ∨ r = 12) (h : XR I R r ρ) (hok : okRM ρ) (hF : XF I) (hz : 0 ≤ z ∧ z ≤ 9999) (hru : InI rule) (hlg : lg = 0 ∨ lg = 18) :
    Spec mX7_play [vR 38, vR r, vI rule, vI z, vR lg] I R 89 89 (fun _ I' R' => R = R' ∧ frm (plT (if rule = 0 then lg else 0)) I I' ∧ XF I' ∧ XS I' z (roundSp ρ rule z) ∧ (rule = 0 → XLo I' R lg (logSp ρ z))) := by
  obtain ⟨QQ, hQ⟩ : ∃ QQ : QT, QQ = (fun _ I' R' => R = R' ∧ frm (plT (if rule = 0 then lg else 0)) I I' ∧ XF I' ∧ XS I' z (roundSp ρ rule z) ∧ (rule = 0 → XLo I' R lg (logSp ρ z))) := ⟨_, rfl⟩
  rw [← hQ]
  have hP : ∀ T : List Nat, T = [38, 39] ∨ T = [38, 39, 40] ∨ T = T41 → ∀ i ∈ T, i ∈ plT (if rule = 0 then lg else 0) := by
    intro T hT
    by_cases h0 : rule = 0
    · rw [if_pos h0]
      rcases hT with rfl | rfl | rfl <;> rcases hlg with rfl | rfl <;> decide
    · rw [if_neg h0]
      rcases hT with rfl | rfl | rfl <;> decide
  refine sX7_play (gX7_play_0 hR (fun I1 q1 I2 q2 I3 q3 I4 q4 I5 q5 I6 q6 I7 q7 => ?_))
  have f7 : frm [38] I I7 := by
    rw [q7, q6, q5, q4, q3, q2, q1]
    exact frm_trans (frm_up (by decide)) (frm_trans (frm_up (by decide)) (frm_trans (frm_up (by decide)) (frm_trans (frm_up (by decide)) (frm_trans (frm_up (by decide)) (frm_trans (frm_up (by decide)) (frm_up (by decide)))))))
  have s3 : I7 38 3 = z := by rw [q7, up2_nj (by decide), q6, up2_nj (by decide), q5, up2_nj (by decide), q4, up2_nj (by decide), q3, up2_nj (by decide), q2, up2_nj (by decide), q1, up2_self]
  have s4 : I7 38 4 = -4 := by rw [q7, up2_nj (by decide), q6, up2_nj (by decide), q5, up2_nj (by decide), q4, up2_nj (by decide), q3, up2_nj (by decide), q2, up2_self]
  have s5 : I7 38 5 = 0 := by rw [q7, up2_nj (by decide), q6, up2_nj (by decide), q5, up2_nj (by decide), q4, up2_nj (by decide), q3, up2_self]
  have s6 : I7 38 6 = 0 := by rw [q7, up2_nj (by decide), q6, up2_nj (by decide), q5, up2_nj (by decide), q4, up2_self]
  have s7 : I7 38 7 = 0 := by rw [q7, up2_nj (by decide), q6, up2_nj (by decide), q5, up2_self]
  have s8 : I7 38 8 = 0 := by rw [q7, up2_nj (by decide), q6, up2_self]
  have s9 : I7 38 9 = 0 := by rw [q7, up2_self]
  have loop : ∀ (d p : Nat) (J : II), p + d = 20 → frm [39] I7 J → (∀ q, q < p → J 39 q = -4) → wp (kN 89) mX7_play QQ 39 [vR 38, vR r, vI rule, none, vR lg, vI (p : Int)] [] J R 89 := by
    intro d
    induction d with
    | zero =>
      intro p J hp hf hd
      have hfI : frm [38, 39] I J := frm_trans (frm_sub f7 (by decide)) (frm_sub hf (by decide))
      have hX := XR_frm hR hr h hfI (by rcases hr with rfl | rfl <;> decide)
      have hFJ := XF_frm hF hfI (by decide)
      have g38 := hf 38 (by decide)
      have hx : XS J z σ0 := ⟨(g38 _).trans s3, (g38 _).trans s4, (g38 _).trans s5, (g38 _).trans s6, (g38 _).trans s7, (g38 _).trans s8, (g38 _).trans s9, fun q hq => hd q (by omega)⟩
      refine gX7_play_39 hR ⟨⟨by omega, by omega⟩, fun _ => ⟨hru, fun h0 => ⟨fun h1 => ⟨fun h2 => ⟨_, aX7_playBell hR hr hX hok hFJ hz hx, fun I3 R3 hq => ?_⟩, fun h2 => ⟨_, aX7_playPosted hR hr hX hok hz hx, fun I3 R3 hq => ?_⟩⟩, fun h1 => ⟨_, aX7_playPairs hR hr hX hok hz hx, fun I3 R3 hq => ?_⟩⟩, fun h0 => ⟨_, aX7_playShouts hR hr hX hok hz hx hlg, fun I3 R3 hq => ?_⟩⟩, fun q => absurd (by omega) q⟩
      · obtain ⟨rfl, f3, F3, x3⟩ := hq
        refine ⟨rfl, gX7_play_106 hR ?_⟩
        rw [hQ]
        refine ⟨rfl, frm_trans (frm_sub hfI (hP _ (Or.inl rfl))) (frm_sub f3 (hP _ (Or.inr (Or.inr rfl)))), F3, ?_, fun q => absurd q h0⟩
        unfold roundSp; rw [if_neg h0, if_neg h1, if_neg h2]; exact x3
      · obtain ⟨rfl, f3, x3⟩ := hq
        refine ⟨rfl, gX7_play_106 hR ?_⟩
        rw [hQ]
        refine ⟨rfl, frm_trans (frm_sub hfI (hP _ (Or.inl rfl))) (frm_sub f3 (hP _ (Or.inr (Or.inl rfl)))), XF_frm hFJ f3 (by decide), ?_, fun q => absurd q h0⟩
        unfold roundSp; rw [if_neg h0, if_neg h1, if_pos h2]; exact x3
      · obtain ⟨rfl, f3, x3⟩ := hq
        refine ⟨rfl, gX7_play_106 hR ?_⟩
        rw [hQ]
        refine ⟨rfl, frm_trans (frm_sub hfI (hP _ (Or.inl rfl))) (frm_sub f3 (hP _ (Or.inl rfl))), XF_frm hFJ f3 (by decide), ?_, fun q => absurd q h0⟩
        unfold roundSp; rw [if_neg h0, if_pos h1]; exact x3
      · obtain ⟨rfl, f3, x3, g3⟩ := hq
        refine ⟨rfl, gX7_play_106 hR ?_⟩
        rw [hQ]
        refine ⟨rfl, frm_trans (frm_sub hfI (hP _ (Or.inl rfl))) (frm_sub f3 ?_), XF_frm hFJ f3 (by rcases hlg with rfl | rfl <;> decide), ?_, fun _ => g3⟩
        · rw [if_pos h0]; rcases hlg with rfl | rfl <;> decide
        · unfold roundSp; rw [if_pos h0]; exact x3
    | succ d ih =>
      intro p J hp hf hd
      have ek : (p : Int) + 1 = ((p + 1 : Nat) : Int) := by omega
      refine gX7_play_39 hR ⟨⟨by omega, by omega⟩, fun q => absurd q (by omega), fun _ => ⟨⟨by omega, by omega⟩, fun I8 q8 => ?_⟩⟩
      rw [ek]
      rw [Int.toNat_natCast] at q8
      refine ih (p + 1) I8 (by omega) (by rw [q8]; exact frm_trans hf (frm_up (by decide))) (fun q hq => ?_)
      rw [q8, up2_at]
      by_cases hqp : q = p
      · rw [if_pos hqp]
      · rw [if_neg hqp]; exact hd q (by omega)
  exact loop 20 0 I7 (by omega) frm_rfl (fun q hq => by omega)
theorem up2_id {I : II} {a j : Nat} : up2 I a j (I a j) = I := by
  funext x k
  unfold up2
  split
  · next h => rw [h.1, h.2]
  · rfl
def mRT (f : Int) : List Nat := if f = 0 then [68, 82, 83, 84, 85, 86] else [68, 75, 76, 77, 78, 79, 82, 83, 84, 85, 86]
def lgF (rule il : Int) : Int := if il = 0 then 0 else if rule = 0 then 1 else 0
theorem aX11_goRound {I : II} {R : RR} {ρ : RM} {rule z il : Int} (hR : SR R) (h : MRo I ρ) (hok : okRM ρ) (hz : 0 ≤ z ∧ z ≤ 9999) (hru : 0 ≤ rule ∧ rule ≤ 3) (hil : il = 0 ∨ il = 1) :
    Spec mX11_goRound [vR 68, vI rule, vI z, vI il] I R 89 89 (fun _ I' R' => R = R' ∧ frm (mRT (lgF rule il)) I I' ∧ mLow I I' ∧ bank I I' ∧ MS I' z (roundSp ρ rule z) ∧ (rule = 0 → MLo I' (lgF rule il) (logSp ρ z))) := by
  obtain ⟨f, hf⟩ : ∃ f, f = lgF rule il := ⟨_, rfl⟩
  have hf01 : f = 0 ∨ f = 1 := by rw [hf]; unfold lgF; split <;> (try split) <;> omega
  have hf1 : f = 1 → rule = 0 := by rw [hf]; unfold lgF; split <;> (try split) <;> omega
  rw [← hf]
  obtain ⟨QQ, hQ⟩ : ∃ QQ : QT, QQ = (fun _ I' R' => R = R' ∧ frm (mRT f) I I' ∧ mLow I I' ∧ bank I I' ∧ MS I' z (roundSp ρ rule z) ∧ (rule = 0 → MLo I' f (logSp ρ z))) := ⟨_, rfl⟩
  rw [← hQ]
  have hP : ∀ T : List Nat, T = [68, 85] ∨ T = [68, 85, 86] ∨ T = [68, 82, 83, 84, 85] → ∀ i ∈ T, i ∈ mRT f := by
    intro T hT
    rcases hT with rfl | rfl | rfl <;> rcases hf01 with q | q <;> rw [q] <;> decide
  have go : ∀ J : II, frm (mRT f) I J → mLow I J → bank I J → J 68 21 = z → J 68 22 = -4 → J 68 24 = 0 → J 68 25 = 0 → J 68 26 = 0 → J 68 27 = 0 → J 68 28 = 0 → J 68 29 = f → MLo J f [] → wp (kN 89) mX11_goRound QQ 79 [vR 68, vI rule, none, none, vI 0] [] J R 89 := by
    intro J0 a1 a2 a3 b1 b2 b3 b4 b5 b6 b7 b8 a4
    have loop : ∀ (d p : Nat) (J : II), p + d = 20 → frm [85] J0 J → (∀ q, q < p → J 85 q = -4) → wp (kN 89) mX11_goRound QQ 79 [vR 68, vI rule, none, none, vI (p : Int)] [] J R 89 := by
      intro d
      induction d with
      | zero =>
        intro p J hp hfj hd
        have hfI : frm (mRT f) I J := frm_trans a1 (frm_sub hfj (by rcases hf01 with q | q <;> rw [q] <;> decide))
        have g68 := hfj 68 (by decide)
        have hX := MRo_frm h hfI (by rcases hf01 with q | q <;> rw [q] <;> decide)
        have lw : mLow I J := fun j hj => (g68 j).trans (a2 j hj)
        have k75 : bank I J := bank_trans a3 (bank_frm hfj (by decide))
        have hx : MS J z σ0 := ⟨(g68 _).trans b1, (g68 _).trans b2, (g68 _).trans b3, (g68 _).trans b4, (g68 _).trans b5, (g68 _).trans b6, (g68 _).trans b7, fun q hq => hd q (by omega)⟩
        have lo : MLo J f [] := by
          rcases a4 with q | ⟨q1, q2⟩
          · exact Or.inl q
          · exact Or.inr ⟨q1, MLg_frm q2 hfj (by decide)⟩
        refine gX11_goRound_79 hR ⟨⟨by omega, by omega⟩, fun _ => ⟨⟨by omega, by omega⟩, fun h3 => ⟨_, aX11_goBell hR hX hok hz hx, fun I3 R3 hq => ?_⟩, fun h0 => ⟨_, aX11_goShouts hR hX hok hz hx hf01 ((g68 _).trans b8) lo, fun I3 R3 hq => ?_⟩, fun h1 => ⟨_, aX11_goPairs hR hX hok hz hx, fun I3 R3 hq => ?_⟩, fun h2 => ⟨_, aX11_goPosted hR hX hok hz hx, fun I3 R3 hq => ?_⟩⟩, fun q => absurd (by omega) q⟩
        · obtain ⟨rfl, f3, l3, x3⟩ := hq
          refine ⟨rfl, gX11_goRound_153 hR ?_⟩
          rw [hQ]
          refine ⟨rfl, frm_trans hfI (frm_sub f3 (hP _ (Or.inr (Or.inr rfl)))), fun j hj => (l3 j hj).trans (lw j hj), bank_trans k75 (bank_frm f3 (by decide)), ?_, fun q => absurd q (by omega)⟩
          unfold roundSp; rw [if_neg (by omega), if_neg (by omega), if_neg (by omega)]; exact x3
        · obtain ⟨rfl, f3, k3, x3, g3⟩ := hq
          refine ⟨rfl, gX11_goRound_153 hR ?_⟩
          rw [hQ]
          refine ⟨rfl, frm_trans hfI (frm_sub f3.1 (by rcases hf01 with q | q <;> rw [q] <;> decide)), fun j hj => (f3.2 j (Or.inl (by omega))).trans (lw j hj), bank_trans k75 k3, ?_, fun _ => g3⟩
          unfold roundSp; rw [if_pos h0]; exact x3
        · obtain ⟨rfl, f3, x3⟩ := hq
          refine ⟨rfl, gX11_goRound_153 hR ?_⟩
          rw [hQ]
          refine ⟨rfl, frm_trans hfI (frm_sub f3.1 (hP _ (Or.inl rfl))), fun j hj => (f3.2 j (Or.inl (by omega))).trans (lw j hj), bank_trans k75 (bank_frm f3.1 (by decide)), ?_, fun q => absurd q (by omega)⟩
          unfold roundSp; rw [if_neg (by omega), if_pos h1]; exact x3
        · obtain ⟨rfl, f3, x3⟩ := hq
          refine ⟨rfl, gX11_goRound_153 hR ?_⟩
          rw [hQ]
          refine ⟨rfl, frm_trans hfI (frm_sub f3.1 (hP _ (Or.inr (Or.inl rfl)))), fun j hj => (f3.2 j (Or.inl (by omega))).trans (lw j hj), bank_trans k75 (bank_frm f3.1 (by decide)), ?_, fun q => absurd q (by omega)⟩
          unfold roundSp; rw [if_neg (by omega), if_neg (by omega), if_pos h2]; exact x3
      | succ d ih =>
        intro p J hp hfj hd
        have ek : (p : Int) + 1 = ((p + 1 : Nat) : Int) := by omega
        refine gX11_goRound_79 hR ⟨⟨by omega, by omega⟩, fun q => absurd q (by omega), fun _ => ⟨⟨by omega, by omega⟩, fun I8 q8 => ?_⟩⟩
        rw [ek]
        rw [Int.toNat_natCast] at q8
        refine ih (p + 1) I8 (by omega) (by rw [q8]; exact frm_trans hfj (frm_up (by decide))) (fun q hq => ?_)
        rw [q8, up2_at]
        by_cases hqp : q = p
        · rw [if_pos hqp]
        · rw [if_neg hqp]; exact hd q (by omega)
    exact loop 20 0 J0 (by omega) frm_rfl (fun q hq => by omega)
  refine sX11_goRound (gX11_goRound_0 hR (fun I1 q1 I2 q2 I3 q3 I4 q4 I5 q5 I6 q6 I7 q7 => ?_))
  have f7 : frm [68] I I7 := by
    rw [q7, q6, q5, q4, q3, q2, q1]
    exact frm_trans (frm_up (by decide)) (frm_trans (frm_up (by decide)) (frm_trans (frm_up (by decide)) (frm_trans (frm_up (by decide)) (frm_trans (frm_up (by decide)) (frm_trans (frm_up (by decide)) (frm_up (by decide)))))))
  have lw7 : mLow I I7 := fun j hj => by
    rw [q7, up2_nj (by omega), q6, up2_nj (by omega), q5, up2_nj (by omega), q4, up2_nj (by omega), q3, up2_nj (by omega), q2, up2_nj (by omega), q1, up2_nj (by omega)]
  have s1 : I7 68 21 = z := by rw [q7, up2_nj (by decide), q6, up2_nj (by decide), q5, up2_nj (by decide), q4, up2_nj (by decide), q3, up2_nj (by decide), q2, up2_nj (by decide), q1, up2_self]
  have s2 : I7 68 22 = -4 := by rw [q7, up2_nj (by decide), q6, up2_nj (by decide), q5, up2_nj (by decide), q4, up2_nj (by decide), q3, up2_nj (by decide), q2, up2_self]
  have s3 : I7 68 24 = 0 := by rw [q7, up2_nj (by decide), q6, up2_nj (by decide), q5, up2_nj (by decide), q4, up2_nj (by decide), q3, up2_self]
  have s4 : I7 68 25 = 0 := by rw [q7, up2_nj (by decide), q6, up2_nj (by decide), q5, up2_nj (by decide), q4, up2_self]
  have s5 : I7 68 26 = 0 := by rw [q7, up2_nj (by decide), q6, up2_nj (by decide), q5, up2_self]
  have s6 : I7 68 27 = 0 := by rw [q7, up2_nj (by decide), q6, up2_self]
  have s7 : I7 68 28 = 0 := by rw [q7, up2_self]
  have go0 : f = 0 → ∀ (I9 I11 : II), I9 = up2 I7 68 29 0 → I11 = up2 I9 75 0 (I9 75 0) → wp (kN 89) mX11_goRound QQ 79 [vR 68, vI rule, none, none, vI 0] [] I11 R 89 := fun h0 I9 I11 q9 q11 => by
    rw [up2_id] at q11
    subst q11
    have g : ∀ j, j ≠ 29 → I11 68 j = I7 68 j := fun j hj => by rw [q9, up2_nj hj]
    refine go I11 (by rw [h0]; exact frm_trans (frm_sub f7 (by decide)) (by rw [q9]; exact frm_up (by decide))) (fun j hj => (g j (by omega)).trans (lw7 j hj)) (bank_frm (T := [68]) (frm_trans f7 (by rw [q9]; exact frm_up (by decide))) (by decide)) ((g 21 (by decide)).trans s1) ((g 22 (by decide)).trans s2) ((g 24 (by decide)).trans s3) ((g 25 (by decide)).trans s4) ((g 26 (by decide)).trans s5) ((g 27 (by decide)).trans s6) ((g 28 (by decide)).trans s7) (by rw [q9, up2_self, h0]) (Or.inl h0)
  refine ⟨by rcases hil with q | q <;> rw [q] <;> exact ⟨by decide, by decide⟩, fun hi0 I9 q9 => ?_, fun hi1 => ⟨⟨by omega, by omega⟩, fun hr0 I14 q14 => ?_, fun hr0 I18 q18 => ?_⟩⟩
  · have e9 : I9 68 29 = 0 := by rw [q9, up2_self]
    rw [e9]
    refine ⟨⟨by decide, by decide⟩, fun _ I11 q11 => go0 (by rw [hf]; unfold lgF; rw [if_pos hi0]) I9 I11 q9 q11, fun q => absurd rfl q⟩
  · have e9 : I14 68 29 = 0 := by rw [q14, up2_self]
    rw [e9]
    refine ⟨⟨by decide, by decide⟩, fun _ I11 q11 => go0 (by rw [hf]; unfold lgF; rw [if_neg hi1, if_neg hr0]) I14 I11 q14 q11, fun q => absurd rfl q⟩
  · have e9 : I18 68 29 = 1 := by rw [q18, up2_self]
    have h1 : f = 1 := by rw [hf]; unfold lgF; rw [if_neg hi1, if_pos hr0]
    rw [e9]
    refine ⟨⟨by decide, by decide⟩, fun q => absurd q (by decide), fun _ I21 q21 => ?_⟩
    have g : ∀ j, j ≠ 29 → I21 68 j = I7 68 j := fun j hj => by rw [q21, up2_ne (by decide), q18, up2_nj hj]
    refine go I21 (by rw [h1]; exact frm_trans (frm_sub f7 (by decide)) (by rw [q21, q18]; exact frm_trans (frm_up (by decide)) (frm_up (by decide)))) (fun j hj => (g j (by omega)).trans (lw7 j hj)) ⟨fun j hj => by rw [q21, up2_nj hj, q18, up2_ne (by decide)]; exact f7 75 (by decide) j, fun x j y1 y2 hj => by rw [q21, up2_ne (by omega), q18, up2_ne (by omega)]; exact f7 x (by intro q; rw [List.mem_singleton] at q; omega) j⟩ ((g 21 (by decide)).trans s1) ((g 22 (by decide)).trans s2) ((g 24 (by decide)).trans s3) ((g 25 (by decide)).trans s4) ((g 26 (by decide)).trans s5) ((g 27 (by decide)).trans s6) ((g 28 (by decide)).trans s7) (by rw [q21, up2_ne (by decide), q18, up2_self, h1]) (Or.inr ⟨h1, ?_, by decide, fun i e he => by simp at he⟩)
    rw [q21, up2_self]; rfl
