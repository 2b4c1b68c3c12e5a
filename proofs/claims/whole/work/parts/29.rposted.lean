/-! POSTED, of both -/
def postT (ρ : RM) (z : Int) (p : Nat) : Int := ownTell ρ p 0 (-4) (drw z p 1)
/-- the cheapest SELLER left among the first m PEOPLE -/
def chF (ρ : RM) (z : Int) (f : Nat → Int) : Nat → Int
  | 0 => -4
  | m + 1 => if (rS ρ m = 1 ∧ f m = -4 ∧ hearSp ρ m (postT ρ z m)) ∧ (chF ρ z f m < 0 ∨ postT ρ z m < postT ρ z (chF ρ z f m).toNat) then (m : Int) else chF ρ z f m
/-- and among the first i SELLERS -/
def chG (ρ : RM) (z : Int) (f : Nat → Int) : Nat → Int
  | 0 => -4
  | i + 1 => if (f (pick (S1 (rS ρ)) (rN ρ) i) = -4 ∧ hearSp ρ (pick (S1 (rS ρ)) (rN ρ) i) (postT ρ z (pick (S1 (rS ρ)) (rN ρ) i))) ∧ (chG ρ z f i < 0 ∨ postT ρ z (pick (S1 (rS ρ)) (rN ρ) i) < postT ρ z (chG ρ z f i).toNat) then (pick (S1 (rS ρ)) (rN ρ) i : Int) else chG ρ z f i
theorem chG_F {ρ : RM} {z : Int} {f : Nat → Int} : ∀ m, m ≤ rN ρ → chG ρ z f (cntB (S1 (rS ρ)) m) = chF ρ z f m
  | 0, _ => rfl
  | m + 1, h => by
    have ih := chG_F (ρ := ρ) (z := z) (f := f) m (by omega)
    show chG ρ z f (if S1 (rS ρ) m = true then cntB (S1 (rS ρ)) m + 1 else cntB (S1 (rS ρ)) m) = _
    by_cases hs : rS ρ m = 1
    · have hS : S1 (rS ρ) m = true := by unfold S1; exact decide_eq_true hs
      rw [if_pos hS]
      show (if _ then _ else _) = (if _ then _ else _)
      rw [pick_at (n := rN ρ) (by omega) hS, ih]
      by_cases hc : (f m = -4 ∧ hearSp ρ m (postT ρ z m)) ∧ (chF ρ z f m < 0 ∨ postT ρ z m < postT ρ z (chF ρ z f m).toNat)
      · rw [if_pos hc, if_pos ⟨⟨hs, hc.1.1, hc.1.2⟩, hc.2⟩]
      · rw [if_neg hc, if_neg (fun q => hc ⟨⟨q.1.2.1, q.1.2.2⟩, q.2⟩)]
    · have hS : ¬ S1 (rS ρ) m = true := by unfold S1; intro q; exact hs (of_decide_eq_true q)
      rw [if_neg hS, ih]
      show _ = (if _ then _ else _)
      rw [if_neg (fun q => hs q.1.1)]
theorem chF_ok {ρ : RM} {z : Int} {f : Nat → Int} : ∀ m, chF ρ z f m = -4 ∨ (0 ≤ chF ρ z f m ∧ chF ρ z f m < m ∧ rS ρ (chF ρ z f m).toNat = 1 ∧ hearSp ρ (chF ρ z f m).toNat (postT ρ z (chF ρ z f m).toNat))
  | 0 => Or.inl rfl
  | m + 1 => by
    have ih := chF_ok (ρ := ρ) (z := z) (f := f) m
    show (if _ then _ else _) = (-4 : Int) ∨ _
    by_cases hc : (rS ρ m = 1 ∧ f m = -4 ∧ hearSp ρ m (postT ρ z m)) ∧ (chF ρ z f m < 0 ∨ postT ρ z m < postT ρ z (chF ρ z f m).toNat)
    · have e : chF ρ z f (m + 1) = (m : Int) := by show (if _ then _ else _) = _; rw [if_pos hc]
      rw [e, Int.toNat_natCast]
      exact Or.inr ⟨by omega, by omega, hc.1.1, hc.1.2.2⟩
    · have e : chF ρ z f (m + 1) = chF ρ z f m := by show (if _ then _ else _) = _; rw [if_neg hc]
      rw [e, if_neg hc]
      rcases ih with q | ⟨q1, q2, q3⟩
      · exact Or.inl q
      · exact Or.inr ⟨q1, by omega, q3⟩
theorem postT_bd {ρ : RM} (hok : okRM ρ) (z : Int) (p : Nat) : 0 ≤ postT ρ z p ∧ postT ρ z p ≤ 99 := ownTell_bd hok ⟨by decide, by have := hok.2.2.1; omega⟩
def postedF (ρ : RM) (z t : Int) (σ : RS) : RS :=
  if pd σ (bPick ρ z t 0) = -4 ∧ 0 ≤ chF ρ z (pd σ) (rN ρ) ∧ postT ρ z (chF ρ z (pd σ) (rN ρ)).toNat + rP ρ 1 ≤ rC ρ (bPick ρ z t 0)
  then tradeF ρ σ (bPick ρ z t 0) (chF ρ z (pd σ) (rN ρ)).toNat (postT ρ z (chF ρ z (pd σ) (rN ρ)).toNat + rP ρ 1) t else σ
def postedR (ρ : RM) (z : Int) : Nat → RS
  | 0 => σ0
  | t + 1 => postedF ρ z t (postedR ρ z t)
theorem postedR_ok {ρ : RM} (hok : okRM ρ) (z : Int) : ∀ t : Nat, (t : Int) ≤ rP ρ 0 → okS t (postedR ρ z t)
  | 0, _ => okS_0
  | t + 1, h => by
    have ih := postedR_ok hok z t (by omega)
    have hst := hok.2.2.1
    have htx := hok.2.2.2.1
    have hb := hok.2.1 (bPick ρ z t 0)
    show okS ((t + 1 : Nat) : Int) (postedF ρ z t (postedR ρ z t))
    unfold postedF
    split
    · next hc =>
      have b2 := postT_bd hok z (chF ρ z (pd (postedR ρ z t)) (rN ρ)).toNat
      exact okS_trade hok ih ⟨by omega, by omega⟩ ⟨by omega, by omega⟩
    · exact okS_le ih (by omega)
/-- the class's POSTED hold -/
def posX (I : II) (ρ : RM) (z : Int) : Prop := ∀ p, p < rN ρ → rS ρ p = 1 → I 40 p = postT ρ z p
theorem sPos {I : II} {R : RR} {r i : Nat} {ρ : RM} (h : XR I R r ρ) (hi : i < sNo ρ) : I (R r 4) i = (pick (S1 (rS ρ)) (rN ρ) i : Int) ∧ pick (S1 (rS ρ)) (rN ρ) i < rN ρ ∧ rS ρ (pick (S1 (rS ρ)) (rN ρ) i) = 1 :=
  ⟨h.2.2.2.2.2.2.2.2.2.2 _ _ (pick_get hi), (pick_mem hi).1, of_decide_eq_true (pick_mem hi).2⟩
theorem aX7_cheapestLeft {I : II} {R : RR} {r : Nat} {ρ : RM} {z : Int} {σ : RS} {k : Int} (hR : SR R) (hr : r = 6 ∨ r = 12) (h : XR I R r ρ) (hok : okRM ρ) (hx : XS I z σ) (hσ : okS k σ) (hp : posX I ρ z) :
    Spec mX7_cheapestLeft [vR 38, vR r] I R 89 89 (fun rv I' R' => R = R' ∧ I = I' ∧ rv = vI (chF ρ z (pd σ) (rN ρ))) := by
  obtain ⟨o0, o1, o2, o3, o4, o5⟩ := roomO hR hr
  have htx := hok.2.2.2.1
  have hlid := hok.2.2.2.2.1
  have hn := hok.1
  have hs : 1 ≤ sNo ρ ∧ sNo ρ ≤ 10 := hok.2.2.2.2.2.2.2.2
  have e7 : I r 7 = (sNo ρ : Int) := h.2.2.1
  have e9 : I r 9 = rP ρ 1 := h.2.2.2.2.1
  have e10 : I r 10 = rP ρ 2 := h.2.2.2.2.2.1
  refine sX7_cheapestLeft (gX7_cheapestLeft_0 hR ?_)
  have loop : ∀ (d i : Nat) (c : Int), i + d = sNo ρ → c = chG ρ z (pd σ) i → (c = -4 ∨ (0 ≤ c ∧ c < rN ρ ∧ rS ρ c.toNat = 1)) → wp (kN 89) mX7_cheapestLeft (fun rv I' R' => R = R' ∧ I = I' ∧ rv = vI (chF ρ z (pd σ) (rN ρ))) 5 [vR 38, vR r, vI c, vI (i : Int), none, none] [] I R 89 := by
    intro d
    induction d with
    | zero =>
      intro i c hi hc _
      refine gX7_cheapestLeft_5 hR ⟨o0, ⟨by omega, by omega⟩, ⟨by omega, by omega⟩, fun _ => ⟨rfl, rfl, ?_⟩, fun q => absurd (by omega) q⟩
      rw [hc, show i = sNo ρ by omega]
      unfold sNo
      rw [chG_F _ (Nat.le_refl _)]
    | succ d ih =>
      intro i c hi hc hco
      obtain ⟨s1, s2, s3⟩ := sPos h (i := i) (by omega)
      have hpp := hx.2.2.2.2.2.2.2 (pick (S1 (rS ρ)) (rN ρ) i) (by omega)
      have e0 := (XRf h s2).1
      have hpt := hp _ s2 s3
      have b1 := postT_bd hok z (pick (S1 (rS ρ)) (rN ρ) i)
      have okp := hσ.2.2.2.2.2.2 (pick (S1 (rS ρ)) (rN ρ) i)
      have ek : (i : Int) + 1 = ((i + 1 : Nat) : Int) := by omega
      have st : chG ρ z (pd σ) (i + 1) = if (pd σ (pick (S1 (rS ρ)) (rN ρ) i) = -4 ∧ hearSp ρ (pick (S1 (rS ρ)) (rN ρ) i) (postT ρ z (pick (S1 (rS ρ)) (rN ρ) i))) ∧ (chG ρ z (pd σ) i < 0 ∨ postT ρ z (pick (S1 (rS ρ)) (rN ρ) i) < postT ρ z (chG ρ z (pd σ) i).toNat) then (pick (S1 (rS ρ)) (rN ρ) i : Int) else chG ρ z (pd σ) i := rfl
      rw [← hc] at st
      unfold lastOk at okp
      have hh : hearSp ρ (pick (S1 (rS ρ)) (rN ρ) i) (postT ρ z (pick (S1 (rS ρ)) (rN ρ) i)) ↔ postT ρ z (pick (S1 (rS ρ)) (rN ρ) i) + rP ρ 1 ≤ rP ρ 2 := by
        show (rS ρ _ = 0 ∨ _) ↔ _
        rw [s3]
        exact ⟨fun q => q.elim (fun w => absurd w (by decide)) id, Or.inr⟩
      generalize pick (S1 (rS ρ)) (rN ρ) i = p at *
      have keep : chG ρ z (pd σ) (i + 1) = c → wp (kN 89) mX7_cheapestLeft (fun rv I' R' => R = R' ∧ I = I' ∧ rv = vI (chF ρ z (pd σ) (rN ρ))) 86 [vR 38, vR r, vI c, vI (i : Int), none, none] [] I R 89 := fun q => by
        refine gX7_cheapestLeft_86 hR ?_
        rw [ek]
        exact ih (i + 1) c (by omega) q.symm hco
      have take : chG ρ z (pd σ) (i + 1) = (p : Int) → wp (kN 89) mX7_cheapestLeft (fun rv I' R' => R = R' ∧ I = I' ∧ rv = vI (chF ρ z (pd σ) (rN ρ))) 83 [vR 38, vR r, none, vI (i : Int), vI (p : Int), none] [] I R 89 := fun q => by
        refine gX7_cheapestLeft_83 hR (gX7_cheapestLeft_86 hR ?_)
        rw [ek]
        exact ih (i + 1) _ (by omega) q.symm (Or.inr ⟨by omega, by omega, by rw [Int.toNat_natCast]; exact s3⟩)
      refine gX7_cheapestLeft_5 hR ⟨o0, ⟨by omega, by omega⟩, ⟨by omega, by omega⟩, fun q => absurd q (by omega), fun _ => ?_⟩
      rw [Int.toNat_natCast, s1, Int.toNat_natCast, hpp, e0, s3, hpt, e9, e10]
      refine ⟨o5, ⟨by omega, by omega⟩, ⟨by omega, by omega⟩, ⟨by omega, by omega⟩, fun hne => gX7_cheapestLeft_53 hR (keep (by rw [st, if_neg (fun q => hne q.1.1)])), fun he => ⟨o1, Or.inr rfl, ⟨by omega, by omega⟩, ⟨by omega, by omega⟩, fun hq => ⟨⟨by omega, by omega⟩, fun h4 => take (by rw [st, if_pos ⟨⟨he, hh.2 (by omega)⟩, Or.inl (by omega)⟩]), fun h4 => ?_⟩, fun hq => gX7_cheapestLeft_53 hR (keep (by rw [st, if_neg (fun q => hq (Or.inr (hh.1 q.1.2)))]))⟩⟩
      rcases hco with q | ⟨q1, q2, q3⟩
      · exact absurd q h4
      · have hct := hp c.toNat (by omega) q3
        have b2 := postT_bd hok z c.toNat
        rw [hct]
        exact ⟨⟨q1, by omega⟩, ⟨by omega, by omega⟩, ⟨by omega, by omega⟩, fun hle => keep (by rw [st, if_neg (fun q => by have := q.2; omega)]), fun hle => take (by rw [st, if_pos ⟨⟨he, hh.2 (by omega)⟩, Or.inr (by omega)⟩])⟩
  exact loop (sNo ρ) 0 (-4) (by omega) rfl (Or.inl rfl)
theorem aX7_playPosted {I : II} {R : RR} {r : Nat} {ρ : RM} {z : Int} (hR : SR R) (hr : r = 6 ∨ r = 12) (h : XR I R r ρ) (hok : okRM ρ) (hz : 0 ≤ z ∧ z ≤ 9999) (hx : XS I z σ0) :
    Spec mX7_playPosted [vR 38, vR r] I R 89 89 (fun _ I' R' => R = R' ∧ frm [38, 39, 40] I I' ∧ XS I' z (postedR ρ z (rP ρ 0).toNat)) := by
  obtain ⟨o0, o1, o2, o3, o4, o5⟩ := roomO hR hr
  have hst := hok.2.2.1
  have htx := hok.2.2.2.1
  have hlid := hok.2.2.2.2.1
  have hn := hok.1
  have hb := hok.2.2.2.2.2.2.2.1
  have hs : 1 ≤ sNo ρ ∧ sNo ρ ≤ 10 := hok.2.2.2.2.2.2.2.2
  refine sX7_playPosted (gX7_playPosted_0 hR ?_)
  have hT : ∀ x ∈ [38, 39, 40], ¬ (r ≤ x ∧ x ≤ r + 5) := by rcases hr with rfl | rfl <;> decide
  have loop : ∀ (d t : Nat) (J : II), t + d = (rP ρ 0).toNat → frm [38, 39, 40] I J → posX J ρ z → XS J z (postedR ρ z t) → wp (kN 89) mX7_playPosted (fun _ I' R' => R = R' ∧ frm [38, 39, 40] I I' ∧ XS I' z (postedR ρ z (rP ρ 0).toNat)) 44 [vR 38, vR r, vI (t : Int), none, none] [] J R 89 := by
    intro d
    induction d with
    | zero =>
      intro t J ht hf _ hx
      have hX := XR_frm hR hr h hf hT
      have e8 : J r 8 = rP ρ 0 := hX.2.2.2.1
      refine gX7_playPosted_44 hR ⟨o0, ⟨by omega, by omega⟩, ⟨by omega, by omega⟩, fun _ => ?_, fun q => absurd (by omega) q⟩
      rw [show t = (rP ρ 0).toNat by omega] at hx
      exact ⟨rfl, hf, hx⟩
    | succ d ih =>
      intro t J ht hf hpo hx
      have hX := XR_frm hR hr h hf hT
      have e8 : J r 8 = rP ρ 0 := hX.2.2.2.1
      have e6 : J r 6 = (bNo ρ : Int) := hX.2.1
      have e9 : J r 9 = rP ρ 1 := hX.2.2.2.2.1
      have z3 : J 38 3 = z := hx.1
      have ek : (t : Int) + 1 = ((t + 1 : Nat) : Int) := by omega
      have okσ := postedR_ok hok z t (by omega)
      obtain ⟨B1, B2, B3⟩ := bPick_X hX hok z t 0
      have bo := bPick_ok hok z t 0
      have d0 := drw_bd z t 0
      have hpb := hx.2.2.2.2.2.2.2 (bPick ρ z t 0) (by omega)
      have okb := okσ.2.2.2.2.2.2 (bPick ρ z t 0)
      have cb := hok.2.1 (bPick ρ z t 0)
      have ecb := (XRf hX bo.1).2.1
      have chl := aX7_cheapestLeft hR hr hX hok hx okσ hpo
      have cho := chF_ok (ρ := ρ) (z := z) (f := pd (postedR ρ z t)) (rN ρ)
      have next : ∀ J', frm [38, 39, 40] I J' → posX J' ρ z → XS J' z (postedF ρ z t (postedR ρ z t)) → wp (kN 89) mX7_playPosted (fun _ I' R' => R = R' ∧ frm [38, 39, 40] I I' ∧ XS I' z (postedR ρ z (rP ρ 0).toNat)) 141 [vR 38, vR r, vI (t : Int), none, none] [] J' R 89 := fun J' hf' hp' hx' => by
        refine gX7_playPosted_141 hR ?_
        rw [ek]
        exact ih (t + 1) J' (by omega) hf' hp' hx'
      have skip : ¬ (pd (postedR ρ z t) (bPick ρ z t 0) = -4 ∧ 0 ≤ chF ρ z (pd (postedR ρ z t)) (rN ρ) ∧ postT ρ z (chF ρ z (pd (postedR ρ z t)) (rN ρ)).toNat + rP ρ 1 ≤ rC ρ (bPick ρ z t 0)) → wp (kN 89) mX7_playPosted (fun _ I' R' => R = R' ∧ frm [38, 39, 40] I I' ∧ XS I' z (postedR ρ z (rP ρ 0).toNat)) 141 [vR 38, vR r, vI (t : Int), none, none] [] J R 89 := fun hc =>
        next J hf hpo (by unfold postedF; rw [if_neg hc]; exact hx)
      generalize hσ : postedR ρ z t = σ at *
      unfold lastOk at okb
      refine gX7_playPosted_44 hR ⟨o0, ⟨by omega, by omega⟩, ⟨by omega, by omega⟩, fun q => absurd q (by omega), fun _ => ?_⟩
      rw [z3, B1, Int.toNat_natCast, B2, Int.toNat_natCast, hpb, e6]
      refine ⟨⟨hz.1, hz.2, by omega, by omega, by decide, by decide⟩, ⟨by unfold bNo; omega, by unfold bNo; omega⟩, ⟨by omega, by omega⟩, o4, ⟨by omega, by omega⟩, ⟨by omega, by omega⟩, ⟨by omega, by omega⟩, fun hpb4 => ⟨_, chl, fun x13 I13 R13 hq => ?_⟩, fun hne => skip (fun q => hne q.1)⟩
      obtain ⟨rfl, rfl, e⟩ := hq
      cases e
      refine ⟨rfl, ⟨by omega, by omega⟩, fun h4 => skip (fun q => by omega), fun h4 => ?_⟩
      rcases cho with q | ⟨q1, q2, q3, q4⟩
      · exact absurd q h4
      have hct := hpo (chF ρ z (pd σ) (rN ρ)).toNat (by omega) q3
      have b2 := postT_bd hok z (chF ρ z (pd σ) (rN ρ)).toNat
      rw [hct, e9, ecb]
      have trd := aX7_trade (s := (chF ρ z (pd σ) (rN ρ)).toNat) (v := postT ρ z (chF ρ z (pd σ) (rN ρ)).toNat + rP ρ 1) (t := t) hR hr hX hok bo.1 (by omega) hx okσ (by omega)
      rw [Int.toNat_of_nonneg q1] at trd
      refine ⟨⟨q1, by omega⟩, o2, ⟨by omega, by omega⟩, ⟨by omega, by omega⟩, fun hlt => skip (fun q => by omega), fun hge => ⟨_, trd ⟨by omega, by omega⟩, fun I19 R19 hq => ?_⟩⟩
      obtain ⟨rfl, f19, x19, _⟩ := hq
      refine ⟨rfl, next I19 (frm_trans hf (frm_sub f19 (by decide))) (fun p hp h1 => (f19 40 (by decide) p).trans (hpo p hp h1)) ?_⟩
      unfold postedF
      rw [if_pos ⟨hpb4, q1, by omega⟩]
      exact x19
  have first : ∀ (d i : Nat) (J : II), i + d = sNo ρ → frm [40] I J → (∀ j, j < i → J 40 (pick (S1 (rS ρ)) (rN ρ) j) = postT ρ z (pick (S1 (rS ρ)) (rN ρ) j)) → wp (kN 89) mX7_playPosted (fun _ I' R' => R = R' ∧ frm [38, 39, 40] I I' ∧ XS I' z (postedR ρ z (rP ρ 0).toNat)) 2 [vR 38, vR r, vI (i : Int), none, none] [] J R 89 := by
    intro d
    induction d with
    | zero =>
      intro i J hi hf hd
      have hX := XR_frm hR hr h hf (by rcases hr with rfl | rfl <;> decide)
      have e7 : J r 7 = (sNo ρ : Int) := hX.2.2.1
      refine gX7_playPosted_2 hR ⟨o0, ⟨by omega, by omega⟩, ⟨by omega, by omega⟩, fun _ => ?_, fun q => absurd (by omega) q⟩
      refine loop (rP ρ 0).toNat 0 J (by omega) (frm_sub hf (by decide)) (fun p hp h1 => ?_) (XS_frm hx hf ⟨by decide, by decide⟩)
      have hS : S1 (rS ρ) p = true := by unfold S1; exact decide_eq_true h1
      have := hd (cntB (S1 (rS ρ)) p) (by rw [show i = sNo ρ by omega]; exact cntB_lt hp hS)
      rw [pick_at hp hS] at this
      exact this
    | succ d ih =>
      intro i J hi hf hd
      have hX := XR_frm hR hr h hf (by rcases hr with rfl | rfl <;> decide)
      have hJ := XS_frm hx hf ⟨by decide, by decide⟩
      have e7 : J r 7 = (sNo ρ : Int) := hX.2.2.1
      have z3 : J 38 3 = z := hJ.1
      have l4 : J 38 4 = -4 := hJ.2.1
      obtain ⟨s1, s2, s3⟩ := sPos hX (i := i) (by omega)
      have ek : (i : Int) + 1 = ((i + 1 : Nat) : Int) := by omega
      have db := drw_bd z (pick (S1 (rS ρ)) (rN ρ) i) 1
      have tl := aX7_tells (t := 0) (d := drw z (pick (S1 (rS ρ)) (rN ρ) i) 1) hR hr hX hok s2 ⟨by decide, by omega⟩ (by rw [l4]; exact Or.inl rfl) ⟨db.1, by omega⟩
      rw [l4] at tl
      refine gX7_playPosted_2 hR ⟨o0, ⟨by omega, by omega⟩, ⟨by omega, by omega⟩, fun q => absurd q (by omega), fun _ => ?_⟩
      rw [Int.toNat_natCast, s1, z3, Int.toNat_natCast]
      refine ⟨o5, ⟨by omega, by omega⟩, ⟨hz.1, hz.2, by omega, by omega, by decide, by decide⟩, _, tl, fun x8 I8 R8 hq => ?_⟩
      obtain ⟨rfl, rfl, e⟩ := hq
      cases e
      refine ⟨rfl, ⟨by omega, by omega⟩, fun I10 q10 => ?_⟩
      rw [ek]
      refine ih (i + 1) I10 (by omega) (by rw [q10]; exact frm_trans hf (frm_up (by decide))) (fun j hj => ?_)
      rw [q10, up2_at]
      by_cases hp : pick (S1 (rS ρ)) (rN ρ) j = pick (S1 (rS ρ)) (rN ρ) i
      · rw [if_pos hp, hp]; rfl
      · rw [if_neg hp]
        have : j ≠ i := fun q => hp (by rw [q])
        exact hd j (by omega)
  exact first (sNo ρ) 0 I (by omega) frm_rfl (fun j hj => by omega)
/-- the reference's POSTED hold, below m -/
def posM (I : II) (ρ : RM) (z : Int) (m : Nat) : Prop := ∀ p, p < m → I 86 p = if rS ρ p = 1 then shoutSp ρ p (rL ρ p) 0 (-4) (drw z p 1) else -4
theorem aX11_goPosted {I : II} {R : RR} {ρ : RM} {z : Int} (hR : SR R) (h : MRo I ρ) (hok : okRM ρ) (hz : 0 ≤ z ∧ z ≤ 9999) (hx : MS I z σ0) :
    Spec mX11_goPosted [vR 68] I R 89 89 (fun _ I' R' => R = R' ∧ mGo [68, 85, 86] I I' ∧ MS I' z (postedR ρ z (rP ρ 0).toNat)) := by
  have hst := hok.2.2.1
  have htx := hok.2.2.2.1
  have hlid := hok.2.2.2.2.1
  have hn := hok.1
  have hb := hok.2.2.2.2.2.2.2.1
  have t0 : 0 ≤ (0 : Int) ∧ (0 : Int) < rP ρ 0 := ⟨by decide, by omega⟩
  refine sX11_goPosted (gX11_goPosted_0 hR ?_)
  have loop : ∀ (d t : Nat) (J : II), t + d = (rP ρ 0).toNat → mGo [68, 85, 86] I J → posM J ρ z (rN ρ) → MS J z (postedR ρ z t) → wp (kN 89) mX11_goPosted (fun _ I' R' => R = R' ∧ mGo [68, 85, 86] I I' ∧ MS I' z (postedR ρ z (rP ρ 0).toNat)) 49 [vR 68, vI (t : Int), none, none, none, none] [] J R 89 := by
    intro d
    induction d with
    | zero =>
      intro t J ht hf _ hx
      have hX := MRo_frm h hf.1 (by decide)
      have e8 : J 74 0 = rP ρ 0 := hX.2.2 0 (by decide)
      refine gX11_goPosted_49 hR ⟨⟨by omega, by omega⟩, ⟨by omega, by omega⟩, fun _ => ?_, fun q => absurd (by omega) q⟩
      rw [show t = (rP ρ 0).toNat by omega] at hx
      exact ⟨rfl, hf, hx⟩
    | succ d ih =>
      intro t J ht hf hpo hx
      have hX := MRo_frm h hf.1 (by decide)
      have e8 : J 74 0 = rP ρ 0 := hX.2.2 0 (by decide)
      have e9 : J 74 1 = rP ρ 1 := hX.2.2 1 (by decide)
      have e0 : J 70 0 = rN ρ := hX.1
      have z3 : J 68 21 = z := hx.1
      have ek : (t : Int) + 1 = ((t + 1 : Nat) : Int) := by omega
      have okσ := postedR_ok hok z t (by omega)
      have bo := bPick_ok hok z t 0
      have d0 := drw_bd z t 0
      have hpb := hx.2.2.2.2.2.2.2 (bPick ρ z t 0) (by omega)
      have okb := okσ.2.2.2.2.2.2 (bPick ρ z t 0)
      have cb := hok.2.1 (bPick ρ z t 0)
      have ecb := (hX.2.1 _ bo.1).2.1
      have cho := fun m => chF_ok (ρ := ρ) (z := z) (f := pd (postedR ρ z t)) m
      have next : ∀ J', mGo [68, 85, 86] I J' → posM J' ρ z (rN ρ) → MS J' z (postedF ρ z t (postedR ρ z t)) → wp (kN 89) mX11_goPosted (fun _ I' R' => R = R' ∧ mGo [68, 85, 86] I I' ∧ MS I' z (postedR ρ z (rP ρ 0).toNat)) 229 [vR 68, vI (t : Int), none, none, none, none] [] J' R 89 := fun J' hf' hp' hx' => by
        refine gX11_goPosted_229 hR ?_
        rw [ek]
        exact ih (t + 1) J' (by omega) hf' hp' hx'
      have skip : ¬ (pd (postedR ρ z t) (bPick ρ z t 0) = -4 ∧ 0 ≤ chF ρ z (pd (postedR ρ z t)) (rN ρ) ∧ postT ρ z (chF ρ z (pd (postedR ρ z t)) (rN ρ)).toNat + rP ρ 1 ≤ rC ρ (bPick ρ z t 0)) → wp (kN 89) mX11_goPosted (fun _ I' R' => R = R' ∧ mGo [68, 85, 86] I I' ∧ MS I' z (postedR ρ z (rP ρ 0).toNat)) 229 [vR 68, vI (t : Int), none, none, none, none] [] J R 89 := fun hc =>
        next J hf hpo (by unfold postedF; rw [if_neg hc]; exact hx)
      generalize hσ : postedR ρ z t = σ at *
      unfold lastOk at okb
      have m0 : Spec mX11_manyOf [vR 68, vI 0] J R 89 89 (fun rv I' R' => R = R' ∧ J = I' ∧ rv = vI (bNo ρ : Int)) := aX11_manyOf hR hX hok (Or.inl rfl)
      have heard : ∀ p, p < rN ρ → rS ρ p = 1 → hearSp ρ p (postT ρ z p) → J 86 p = postT ρ z p := fun p hp h1 hh => by
        rw [hpo p hp, if_pos h1]
        exact (hear_shout hok t0).2 hh
      have inner : ∀ (e p : Nat), p + e = rN ρ → wp (kN 89) mX11_goPosted (fun _ I' R' => R = R' ∧ mGo [68, 85, 86] I I' ∧ MS I' z (postedR ρ z (rP ρ 0).toNat)) 83 [vR 68, vI (t : Int), vI (bPick ρ z t 0), vI (chF ρ z (pd σ) p), vI (p : Int), none] [] J R 89 := by
        intro e
        induction e with
        | zero =>
          intro p hp
          have hp' : p = rN ρ := by omega
          subst hp'
          refine gX11_goPosted_83 hR ⟨⟨by omega, by omega⟩, ⟨by omega, by omega⟩, fun _ => ?_, fun q => absurd (by omega) q⟩
          rw [Int.toNat_natCast, hpb, e9, ecb]
          have c0 := cho (rN ρ)
          refine ⟨⟨by omega, by omega⟩, ⟨by omega, by omega⟩, fun hne => skip (fun q => hne q.1), fun hpb4 => ⟨⟨by omega, by omega⟩, fun hlt => skip (fun q => by omega), fun hge => ?_⟩⟩
          rcases c0 with q | ⟨q1, q2, q3, q4⟩
          · exact absurd (by omega) hge
          have hct := heard _ (by omega) q3 q4
          have b2 := postT_bd hok z (chF ρ z (pd σ) (rN ρ)).toNat
          have trd := aX11_trade (s := (chF ρ z (pd σ) (rN ρ)).toNat) (v := postT ρ z (chF ρ z (pd σ) (rN ρ)).toNat + rP ρ 1) (t := t) hR hX hok bo.1 (by omega) hx okσ (by omega)
          rw [Int.toNat_of_nonneg q1] at trd
          rw [hct]
          refine ⟨⟨q1, by omega⟩, ⟨by omega, by omega⟩, ⟨by omega, by omega⟩, ⟨by omega, by omega⟩, fun hlt => skip (fun q => by omega), fun hle => ⟨_, trd ⟨by omega, by omega⟩, fun I19 R19 hq => ?_⟩⟩
          obtain ⟨rfl, f19, x19, s19⟩ := hq
          refine ⟨rfl, next I19 (mGo_trans hf ⟨frm_sub f19 (by decide), s19⟩) (fun p hp => (f19 86 (by decide) p).trans (hpo p hp)) ?_⟩
          unfold postedF
          rw [if_pos ⟨hpb4, q1, by omega⟩]
          exact x19
        | succ e ih2 =>
          intro p hp
          have h1 := (hX.2.1 p (by omega)).1
          have h01 := (hok.2.1 p).1
          have hpp := hx.2.2.2.2.2.2.2 p (by omega)
          have okp := okσ.2.2.2.2.2.2 p
          have hq86 := hpo p (by omega)
          have ep : (p : Int) + 1 = ((p + 1 : Nat) : Int) := by omega
          have hsh := hear_shout hok (p := p) (last := -4) (d := drw z p 1) t0
          have sok := shoutSp_ok hok (p := p) (law := rL ρ p) (last := -4) (d := drw z p 1) t0
          have st : chF ρ z (pd σ) (p + 1) = if (rS ρ p = 1 ∧ pd σ p = -4 ∧ hearSp ρ p (postT ρ z p)) ∧ (chF ρ z (pd σ) p < 0 ∨ postT ρ z p < postT ρ z (chF ρ z (pd σ) p).toNat) then (p : Int) else chF ρ z (pd σ) p := rfl
          have nx := ih2 (p + 1) (by omega)
          unfold lastOk at okp sok
          have keep : chF ρ z (pd σ) (p + 1) = chF ρ z (pd σ) p → wp (kN 89) mX11_goPosted (fun _ I' R' => R = R' ∧ mGo [68, 85, 86] I I' ∧ MS I' z (postedR ρ z (rP ρ 0).toNat)) 164 [vR 68, vI (t : Int), vI (bPick ρ z t 0), vI (chF ρ z (pd σ) p), vI (p : Int), none] [] J R 89 := fun q => by
            refine gX11_goPosted_164 hR ?_
            rw [ep, ← q]
            exact nx
          have take : chF ρ z (pd σ) (p + 1) = (p : Int) → wp (kN 89) mX11_goPosted (fun _ I' R' => R = R' ∧ mGo [68, 85, 86] I I' ∧ MS I' z (postedR ρ z (rP ρ 0).toNat)) 159 [vR 68, vI (t : Int), vI (bPick ρ z t 0), none, vI (p : Int), none] [] J R 89 := fun q => by
            refine gX11_goPosted_159 hR ?_
            rw [ep]
            rw [q] at nx
            exact nx
          refine gX11_goPosted_83 hR ⟨⟨by omega, by omega⟩, ⟨by omega, by omega⟩, fun q => absurd q (by omega), fun _ => ?_⟩
          rw [Int.toNat_natCast, h1, hpp, hq86]
          refine ⟨⟨by omega, by omega⟩, ⟨by omega, by omega⟩, fun hne => gX11_goPosted_131 hR (keep (by rw [st, if_neg (fun q => hne q.1.1)])), fun hs1 => ⟨⟨by omega, by omega⟩, ⟨by omega, by omega⟩, fun hne => gX11_goPosted_131 hR (keep (by rw [st, if_neg (fun q => hne q.1.2.1)])), fun he => ?_⟩⟩
          rw [if_pos hs1]
          refine ⟨⟨by omega, by omega⟩, fun hlt => gX11_goPosted_131 hR (keep (by rw [st, if_neg (fun q => hsh.1.2 q.1.2.2 hlt)])), fun hge => ?_⟩
          have hh := hsh.1.1 hge
          have hv : shoutSp ρ p (rL ρ p) 0 (-4) (drw z p 1) = postT ρ z p := hsh.2 hh
          have c0 := cho p
          refine ⟨⟨by omega, by omega⟩, fun hlt => take (by rw [st, if_pos ⟨⟨hs1, he, hh⟩, Or.inl hlt⟩]), fun hge2 => ?_⟩
          rcases c0 with q | ⟨q1, q2, q3, q4⟩
          · exact absurd (by omega) hge2
          have hct := heard _ (by omega) q3 q4
          have b2 := postT_bd hok z (chF ρ z (pd σ) p).toNat
          rw [hct, hv]
          exact ⟨⟨q1, by omega⟩, ⟨by omega, by omega⟩, fun hle => keep (by rw [st, if_neg (fun q => by have := q.2; omega)]), fun hle => take (by rw [st, if_pos ⟨⟨hs1, he, hh⟩, Or.inr (by omega)⟩])⟩
      refine gX11_goPosted_49 hR ⟨⟨by omega, by omega⟩, ⟨by omega, by omega⟩, fun q => absurd q (by omega), fun _ => ?_⟩
      rw [z3]
      refine ⟨⟨hz.1, hz.2, by omega, by omega, by decide, by decide⟩, _, m0, fun x5 I5 R5 hq => ?_⟩
      obtain ⟨rfl, rfl, e⟩ := hq
      cases e
      refine ⟨rfl, ⟨by omega, by omega, by unfold bNo; omega, by unfold bNo; omega⟩, _, aX11_bPick hR hX hok z t 0, fun x7 I7 R7 hq => ?_⟩
      obtain ⟨rfl, rfl, e⟩ := hq
      cases e
      exact ⟨rfl, inner (rN ρ) 0 (by omega)⟩
  have first : ∀ (d p : Nat) (J : II), p + d = rN ρ → frm [86] I J → posM J ρ z p → wp (kN 89) mX11_goPosted (fun _ I' R' => R = R' ∧ mGo [68, 85, 86] I I' ∧ MS I' z (postedR ρ z (rP ρ 0).toNat)) 2 [vR 68, vI (p : Int), none, none, none, none] [] J R 89 := by
    intro d
    induction d with
    | zero =>
      intro p J hp hf hd
      have hX := MRo_frm h hf (by decide)
      have e0 : J 70 0 = rN ρ := hX.1
      refine gX11_goPosted_2 hR ⟨⟨by omega, by omega⟩, ⟨by omega, by omega⟩, fun _ => ?_, fun q => absurd (by omega) q⟩
      rw [show p = rN ρ by omega] at hd
      exact loop (rP ρ 0).toNat 0 J (by omega) ⟨frm_sub hf (by decide), fun j _ => hf 68 (by decide) j⟩ hd (MS_frm hx hf (by decide) (fun j _ _ _ => hf 68 (by decide) j))
    | succ d ih =>
      intro p J hp hf hd
      have hX := MRo_frm h hf (by decide)
      have hJ := MS_frm hx hf (by decide) (fun j _ _ _ => hf 68 (by decide) j)
      have e0 : J 70 0 = rN ρ := hX.1
      have z3 : J 68 21 = z := hJ.1
      have l4 : J 68 22 = -4 := hJ.2.1
      have h1 := (hX.2.1 p (by omega)).1
      have h01 := (hok.2.1 p).1
      have ek : (p : Int) + 1 = ((p + 1 : Nat) : Int) := by omega
      have sh := aX11_shoutOf (p := p) (t := 0) (k := p) (j := 1) hR hX hok (by omega) t0 (by rw [l4]; exact Or.inl rfl) (by rw [z3]; exact hz) ⟨by omega, by omega⟩ ⟨by decide, by decide⟩
      rw [l4, z3] at sh
      have nx : ∀ v I6, I6 = up2 J 86 p v → v = (if rS ρ p = 1 then shoutSp ρ p (rL ρ p) 0 (-4) (drw z p 1) else -4) → wp (kN 89) mX11_goPosted (fun _ I' R' => R = R' ∧ mGo [68, 85, 86] I I' ∧ MS I' z (postedR ρ z (rP ρ 0).toNat)) 2 [vR 68, vI ((p : Int) + 1), none, none, none, none] [] I6 R 89 := fun v I6 q6 hv => by
        rw [ek]
        refine ih (p + 1) I6 (by omega) (by rw [q6]; exact frm_trans hf (frm_up (by decide))) (fun j hj => ?_)
        rw [q6, up2_at]
        by_cases hjp : j = p
        · rw [if_pos hjp, hjp]; exact hv
        · rw [if_neg hjp]; exact hd j (by omega)
      refine gX11_goPosted_2 hR ⟨⟨by omega, by omega⟩, ⟨by omega, by omega⟩, fun q => absurd q (by omega), fun _ => ?_⟩
      rw [Int.toNat_natCast, h1]
      refine ⟨⟨by omega, by omega⟩, ⟨by omega, by omega⟩, fun hne => ⟨⟨by omega, by omega⟩, fun I6 q6 => nx _ I6 q6 (by rw [if_neg hne])⟩, fun he => ⟨_, sh, fun x7 I7 R7 hq => ?_⟩⟩
      obtain ⟨rfl, rfl, e⟩ := hq
      cases e
      exact ⟨rfl, ⟨by omega, by omega⟩, fun I9 q9 => nx _ I9 q9 (by rw [if_pos he])⟩
  exact first (rN ρ) 0 I (by omega) frm_rfl (fun j hj => by omega)
