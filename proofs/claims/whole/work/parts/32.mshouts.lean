/-! SHOUTS of the reference -/
def msT (f : Int) : List Nat := if f = 0 then [68, 85] else [68, 75, 76, 77, 78, 79, 85]
def MLo (I : II) (f : Int) (l : List LE) : Prop := f = 0 ∨ (f = 1 ∧ MLg I 0 l)
theorem aX11_goShouts {I : II} {R : RR} {ρ : RM} {z f : Int} (hR : SR R) (h : MRo I ρ) (hok : okRM ρ) (hz : 0 ≤ z ∧ z ≤ 9999) (hx : MS I z σ0) (hf1 : f = 0 ∨ f = 1) (hf29 : I 68 29 = f) (hl0 : MLo I f []) :
    Spec mX11_goShouts [vR 68] I R 89 89 (fun _ I' R' => R = R' ∧ mGo (msT f) I I' ∧ bank I I' ∧ MS I' z (shS (shR ρ z (rP ρ 0).toNat)) ∧ MLo I' f (shG ρ z (rP ρ 0).toNat)) := by
  have hst := hok.2.2.1
  have htx := hok.2.2.2.1
  have hn := hok.1
  have hn1 := n_pos hok
  have hT : ∀ x ∈ msT f, ¬ (70 ≤ x ∧ x ≤ 74) := by rcases hf1 with rfl | rfl <;> decide
  have hS2 : ∀ i ∈ [68, 85], i ∈ msT f := by rcases hf1 with rfl | rfl <;> decide
  obtain ⟨QQ, hQ⟩ : ∃ QQ : QT, QQ = (fun _ I' R' => R = R' ∧ mGo (msT f) I I' ∧ bank I I' ∧ MS I' z (shS (shR ρ z (rP ρ 0).toNat)) ∧ MLo I' f (shG ρ z (rP ρ 0).toNat)) := ⟨_, rfl⟩
  rw [← hQ]
  have loop : ∀ (d t : Nat) (J : II), t + d = (rP ρ 0).toNat → mGo (msT f) I J → bank I J → MS J z (shS (shR ρ z t)) → MLo J f (shG ρ z t) → wp (kN 89) mX11_goShouts QQ 14 [vR 68, vI (shB (shR ρ z t)), vI (shX (shR ρ z t)), vI (shA (shR ρ z t)), vI (shO (shR ρ z t)), vI (t : Int), none, none, none] [] J R 89 := by
    intro d
    induction d with
    | zero =>
      intro t J ht hf h75 hx hlo
      have hX := MRo_frm h hf.1 hT
      have e8 : J 74 0 = rP ρ 0 := hX.2.2 0 (by decide)
      refine gX11_goShouts_14 hR ⟨⟨by omega, by omega⟩, ⟨by omega, by omega⟩, fun _ => ?_, fun q => absurd (by omega) q⟩
      rw [show t = (rP ρ 0).toNat by omega] at hx hlo
      rw [hQ]
      exact ⟨rfl, hf, h75, hx, hlo⟩
    | succ d ih =>
      intro t J ht hf h75 hx hlo
      have hX := MRo_frm h hf.1 hT
      have e8 : J 74 0 = rP ρ 0 := hX.2.2 0 (by decide)
      have e0 : J 70 0 = rN ρ := hX.1
      have z3 : J 68 21 = z := hx.1
      have l4 : J 68 22 = la (shS (shR ρ z t)) := hx.2.1
      have f29 : J 68 29 = f := (hf.2 29 (Or.inr (Or.inr (by decide)))).trans hf29
      have ek : (t : Int) + 1 = ((t + 1 : Nat) : Int) := by omega
      have hts : 0 ≤ (t : Int) ∧ (t : Int) < rP ρ 0 := ⟨by omega, by omega⟩
      have okσ := shR_ok hok z t (by omega)
      obtain ⟨hp, hpe⟩ := shP_lt hok z t
      have hpp := hx.2.2.2.2.2.2.2 (shP ρ z t) (by omega)
      have okp := okσ.1.2.2.2.2.2.2 (shP ρ z t)
      have d0 := drw_bd z t 0
      have h01 := (hok.2.1 (shP ρ z t)).1
      have hll := shG_len (ρ := ρ) (z := z) t
      have la4 : lastOk (J 68 22) := by rw [l4]; exact okσ.1.1
      have hz' : 0 ≤ J 68 21 ∧ J 68 21 ≤ 9999 := by rw [z3]; exact hz
      have ts := aX11_shoutOf (p := shP ρ z t) (t := t) (k := t) (j := 1) hR hX hok hp hts la4 hz' ⟨by omega, by omega⟩ ⟨by decide, by decide⟩
      rw [l4, z3] at ts
      have hsh := hear_shout hok (p := shP ρ z t) (last := la (shS (shR ρ z t))) (d := drw z t 1) hts
      have bv' := ownTell_bd hok (p := shP ρ z t) (last := la (shS (shR ρ z t))) (d := drw z t 1) hts
      have sok := shoutSp_ok hok (p := shP ρ z t) (law := rL ρ (shP ρ z t)) (last := la (shS (shR ρ z t))) (d := drw z t 1) hts
      have sF : shR ρ z (t + 1) = shF ρ z t (shR ρ z t) := rfl
      have sG : shG ρ z (t + 1) = if shIs ρ z t (shR ρ z t) then shG ρ z t ++ [(shP ρ z t, shV ρ z t (shR ρ z t), (t : Int), la (shS (shR ρ z t)))] else shG ρ z t := rfl
      have next : ∀ (J' : II) (b x a o : Int), b = shB (shR ρ z (t + 1)) → x = shX (shR ρ z (t + 1)) → a = shA (shR ρ z (t + 1)) → o = shO (shR ρ z (t + 1)) → mGo (msT f) I J' → bank I J' → MS J' z (shS (shR ρ z (t + 1))) → MLo J' f (shG ρ z (t + 1)) → wp (kN 89) mX11_goShouts QQ 274 [vR 68, vI b, vI x, vI a, vI o, vI (t : Int), none, none, none] [] J' R 89 := fun J' b x a o hb hxx ha ho g1 g2 g3 g4 => by
        refine gX11_goShouts_274 hR ?_
        rw [ek, hb, hxx, ha, ho]
        exact ih (t + 1) J' (by omega) g1 g2 g3 g4
      have skip : ¬ shIs ρ z t (shR ρ z t) → wp (kN 89) mX11_goShouts QQ 274 [vR 68, vI (shB (shR ρ z t)), vI (shX (shR ρ z t)), vI (shA (shR ρ z t)), vI (shO (shR ρ z t)), vI (t : Int), none, none, none] [] J R 89 := fun hc => by
        have e : shR ρ z (t + 1) = shR ρ z t := by rw [sF]; unfold shF; rw [if_neg hc]
        refine next J _ _ _ _ (by rw [e]) (by rw [e]) (by rw [e]) (by rw [e]) hf h75 (by rw [e]; exact hx) (by rw [sG, if_neg hc]; exact hlo)
      obtain ⟨S, hS⟩ : ∃ S, S = shR ρ z t := ⟨_, rfl⟩
      obtain ⟨G, hG⟩ : ∃ G, G = shG ρ z (t + 1) := ⟨_, rfl⟩
      rw [← hG] at next sG
      rw [← hS] at hx hpp l4 okσ okp ts hsh bv' sok sF sG skip ⊢
      have ev : shV ρ z t S = ownTell ρ (shP ρ z t) t (la (shS S)) (drw z t 1) := rfl
      unfold lastOk at okp sok
      refine gX11_goShouts_14 hR ⟨⟨by omega, by omega⟩, ⟨by omega, by omega⟩, fun q => absurd q (by omega), fun _ => ?_⟩
      rw [z3, e0, ← hpe, Int.toNat_natCast]
      refine ⟨⟨hz.1, hz.2, by omega, by omega, by decide, by decide⟩, ⟨by omega, by omega, by omega, by omega⟩, _, ts, fun x6 I6 R6 hq => ?_⟩
      obtain ⟨rfl, rfl, e⟩ := hq
      cases e
      rw [hpp]
      refine ⟨rfl, ⟨by omega, by omega⟩, ⟨by omega, by omega⟩, fun hne => skip (fun q => hne q.1), fun hpb4 => ⟨⟨by omega, by omega⟩, fun hlt => skip (fun q => hsh.1.2 q.2 hlt), fun hge => ?_⟩⟩
      have hh := hsh.1.1 hge
      rw [hsh.2 hh, ← ev]
      rw [← ev] at bv' hh
      have his : shIs ρ z t S := ⟨hpb4, hh⟩
      rw [if_pos his] at sG
      have sF2 : shR ρ z (t + 1) = if rS ρ (shP ρ z t) = 0 then bidF ρ t (shP ρ z t) (shV ρ z t S) S else offF ρ t (shP ρ z t) (shV ρ z t S) S := by rw [sF]; unfold shF; rw [if_pos his]
      have nt := aX11_note (I := J) (l := shG ρ z t) (e := (shP ρ z t, shV ρ z t S, (t : Int), la (shS S))) hR (by rw [f29]; rcases hf1 with q | q <;> rw [q] <;> exact ⟨by decide, by decide⟩) (fun hne => by
        rcases hlo with q | ⟨q1, q2⟩
        · exact absurd (f29.trans q) hne
        · exact ⟨q2, by omega, l4⟩)
      refine ⟨_, nt, fun I10 R10 hq => ?_⟩
      obtain ⟨rfl, f10, g10, n10, k10⟩ := hq
      have mg10 : mGo (msT f) I I10 := by
        rcases hf1 with q | q
        · rw [← n10 (f29.trans q)]; exact hf
        · refine mGo_trans hf ⟨frm_sub f10 (by rw [q]; decide), fun j _ => f10 68 (by decide) j⟩
      have k75 : bank I I10 := bank_trans h75 k10
      have ms10 : MS I10 z (shS S) := MS_frm hx f10 (by decide) (fun j _ _ _ => f10 68 (by decide) j)
      have lo10 : MLo I10 f G := by
        rcases hf1 with q | q
        · exact Or.inl q
        · refine Or.inr ⟨q, ?_⟩
          rw [sG]
          exact g10 (by rw [f29, q]; decide)
      have hX10 := MRo_frm hX f10 (by decide)
      have side := (hX10.2.1 _ hp).1
      have e9 : I10 74 1 = rP ρ 1 := hX10.2.2 1 (by decide)
      obtain ⟨k1, k2, k3, k4, k5⟩ := okσ
      have lo2 : ∀ J2, frm [68, 85] I10 J2 → MLo J2 f G := fun J2 f2 => by
        rcases lo10 with q | ⟨q1, q2⟩
        · exact Or.inl q
        · exact Or.inr ⟨q1, MLg_frm q2 f2 (by decide)⟩
      -- after a trade
      have trd : ∀ (I16 : II) (σ' : RS), shR ρ z (t + 1) = (σ', -4, shX S, -4, shO S) → frm [68, 85] I10 I16 → MS I16 z σ' → (∀ j, mSlot j → I16 68 j = I10 68 j) → wp (kN 89) mX11_goShouts QQ 274 [vR 68, vI (-4), vI (shX S), vI (-4), vI (shO S), vI (t : Int), none, none, none] [] I16 R 89 := fun I16 σ' eq f16 m16 s16 =>
        next I16 _ _ _ _ (by rw [eq]; rfl) (by rw [eq]; rfl) (by rw [eq]; rfl) (by rw [eq]; rfl) (mGo_trans mg10 ⟨frm_sub f16 hS2, s16⟩) (bank_trans k75 (bank_frm f16 (by decide))) (by rw [eq]; exact m16) (lo2 I16 f16)
      -- nobody takes
      have stay : ∀ (b x a o : Int), shR ρ z (t + 1) = (shS S, b, x, a, o) → wp (kN 89) mX11_goShouts QQ 274 [vR 68, vI b, vI x, vI a, vI o, vI (t : Int), none, none, none] [] I10 R 89 := fun b x a o eq =>
        next I10 _ _ _ _ (by rw [eq]; rfl) (by rw [eq]; rfl) (by rw [eq]; rfl) (by rw [eq]; rfl) mg10 k75 (by rw [eq]; exact ms10) lo10
      have same : shR ρ z (t + 1) = S → wp (kN 89) mX11_goShouts QQ 274 [vR 68, vI (shB S), vI (shX S), vI (shA S), vI (shO S), vI (t : Int), none, none, none] [] I10 R 89 := fun eq => stay _ _ _ _ eq
      have hi71 : InI (rS ρ (shP ρ z t)) := by rcases h01 with q | q <;> rw [q] <;> exact ⟨by decide, by decide⟩
      have w113 : rS ρ (shP ρ z t) = 0 → ¬ (shA S ≠ -4 ∧ shO S + rP ρ 1 ≤ shV ρ z t S) → wp (kN 89) mX11_goShouts QQ 113 [vR 68, vI (shB S), vI (shX S), vI (shA S), vI (shO S), vI (t : Int), vI (shP ρ z t), vI (shV ρ z t S), none] [] I10 R 89 := fun hs0 hnt => by
        rw [if_pos hs0] at sF2
        unfold bidF at sF2
        rw [if_neg hnt] at sF2
        have w236 : (shB S = -4 ∨ shX S < shV ρ z t S) → wp (kN 89) mX11_goShouts QQ 236 [vR 68, none, none, vI (shA S), vI (shO S), vI (t : Int), vI (shP ρ z t), vI (shV ρ z t S), none] [] I10 R 89 := fun hc => by
          rw [if_pos hc] at sF2
          exact gX11_goShouts_236 hR (stay _ _ _ _ sF2)
        have w245 : ¬ (shB S = -4 ∨ shX S < shV ρ z t S) → wp (kN 89) mX11_goShouts QQ 245 [vR 68, vI (shB S), vI (shX S), vI (shA S), vI (shO S), vI (t : Int), vI (shP ρ z t), vI (shV ρ z t S), none] [] I10 R 89 := fun hc => by
          rw [if_neg hc] at sF2
          refine gX11_goShouts_245 hR ?_
          rw [Int.toNat_natCast, side]
          exact ⟨⟨by omega, by omega⟩, hi71, fun _ => same sF2, fun q => absurd q (by omega)⟩
        refine gX11_goShouts_113 hR ?_
        rw [Int.toNat_natCast, side]
        exact ⟨⟨by omega, by omega⟩, hi71, fun q => absurd hs0 q, fun _ => ⟨⟨by omega, by omega⟩, fun hlt => w236 (Or.inl (by omega)), fun hlt => ⟨⟨by omega, by omega⟩, ⟨by omega, by omega⟩, fun hle => w245 (by omega), fun hle => w236 (Or.inr (by omega))⟩⟩⟩
      have w138 : ¬ rS ρ (shP ρ z t) = 0 → ¬ (shB S ≠ -4 ∧ shV ρ z t S + rP ρ 1 ≤ shX S) → wp (kN 89) mX11_goShouts QQ 138 [vR 68, vI (shB S), vI (shX S), vI (shA S), vI (shO S), vI (t : Int), vI (shP ρ z t), vI (shV ρ z t S), none] [] I10 R 89 := fun hs0 hnt => by
        rw [if_neg hs0] at sF2
        unfold offF at sF2
        rw [if_neg hnt] at sF2
        have w267 : (shA S = -4 ∨ shV ρ z t S < shO S) → wp (kN 89) mX11_goShouts QQ 267 [vR 68, vI (shB S), vI (shX S), none, none, vI (t : Int), vI (shP ρ z t), vI (shV ρ z t S), none] [] I10 R 89 := fun hc => by
          rw [if_pos hc] at sF2
          exact gX11_goShouts_267 hR (stay _ _ _ _ sF2)
        refine gX11_goShouts_138 hR ?_
        rw [Int.toNat_natCast, side]
        refine ⟨⟨by omega, by omega⟩, hi71, fun _ => gX11_goShouts_245 hR ?_, fun q => absurd q hs0⟩
        rw [Int.toNat_natCast, side]
        refine ⟨⟨by omega, by omega⟩, hi71, fun q => absurd (by omega) q, fun _ => ⟨⟨by omega, by omega⟩, fun hlt => w267 (Or.inl (by omega)), fun hlt => ⟨⟨by omega, by omega⟩, ⟨by omega, by omega⟩, fun hle => ?_, fun hle => w267 (Or.inr (by omega))⟩⟩⟩
        rw [if_neg (by omega)] at sF2
        exact same sF2
      rw [side, e9]
      refine ⟨rfl, ⟨by omega, by omega⟩, hi71, fun hs1 => ⟨⟨by omega, by omega⟩, fun hlt => w138 hs1 (fun q => by omega), fun hlt => ⟨⟨by omega, by omega⟩, ⟨by omega, by omega⟩, fun hl => w138 hs1 (fun q => by omega), fun hl => ⟨fun _ => ⟨fun _ => ⟨fun _ => ?_, fun q => absurd q hs1⟩, fun q => absurd q hs1⟩, fun q => absurd q hs1⟩⟩⟩, fun hs0 => ⟨⟨by omega, by omega⟩, fun hlt => w113 hs0 (fun q => by omega), fun hlt => ⟨⟨by omega, by omega⟩, fun hl => w113 hs0 (fun q => by omega), fun hl => ⟨fun q => absurd hs0 q, fun _ => ⟨fun q => absurd hs0 q, fun _ => ⟨fun q => absurd hs0 q, fun _ => ?_⟩⟩⟩⟩⟩⟩
      · have ha : 0 ≤ shB S := by omega
        have td := aX11_trade (b := (shB S).toNat) (s := shP ρ z t) (v := shX S) (t := t) hR hX10 hok (by omega) hp ms10 k1 (by omega)
        rw [Int.toNat_of_nonneg ha] at td
        refine ⟨_, td k3, fun I16 R16 hq => ?_⟩
        obtain ⟨rfl, f16, m16, s16⟩ := hq
        refine ⟨rfl, trd I16 _ ?_ f16 m16 s16⟩
        rw [sF2, if_neg hs1]; unfold offF; rw [if_pos ⟨by omega, by omega⟩]
      · have ha : 0 ≤ shA S := by omega
        have td := aX11_trade (b := shP ρ z t) (s := (shA S).toNat) (v := shO S + rP ρ 1) (t := t) hR hX10 hok hp (by omega) ms10 k1 (by omega)
        rw [Int.toNat_of_nonneg ha] at td
        refine ⟨_, td ⟨by omega, by omega⟩, fun I16 R16 hq => ?_⟩
        obtain ⟨rfl, f16, m16, s16⟩ := hq
        refine ⟨rfl, trd I16 _ ?_ f16 m16 s16⟩
        rw [sF2, if_pos hs0]; unfold bidF; rw [if_pos ⟨by omega, by omega⟩]
  exact sX11_goShouts (gX11_goShouts_0 hR (loop (rP ρ 0).toNat 0 I (by omega) mGo_rfl bank_rfl hx hl0))
