/-! PAIRS, of both -/
theorem flt_get {S : Nat → Bool} {p : Nat} (hS : S p = true) : ∀ {n : Nat}, p < n → (flt S n)[cntB S p]? = some p := by
  intro n
  induction n with
  | zero => intro h; omega
  | succ n ih =>
    intro h
    by_cases hp : p = n
    · subst hp
      have e : flt S (p + 1) = flt S p ++ [p] := by show (if S p = true then flt S p ++ [p] else flt S p) = _; rw [if_pos hS]
      rw [e, ← flt_len p, List.getElem?_concat_length]
    · have i := ih (by omega)
      show (if S n = true then flt S n ++ [n] else flt S n)[cntB S p]? = some p
      split
      · rw [List.getElem?_append_left (by rw [flt_len]; exact cntB_lt (by omega) hS)]
        exact i
      · exact i
/-- the i-th of those of n PEOPLE -/
def pick (S : Nat → Bool) (n i : Nat) : Nat := (flt S n).getD i 0
theorem pick_get {S : Nat → Bool} {n i : Nat} (h : i < cntB S n) : (flt S n)[i]? = some (pick S n i) := by
  unfold pick
  rw [List.getD_eq_getElem?_getD]
  rw [List.getElem?_eq_getElem (by rw [flt_len]; exact h)]
  rfl
theorem pick_mem {S : Nat → Bool} {n i : Nat} (h : i < cntB S n) : pick S n i < n ∧ S (pick S n i) = true := flt_mem n (List.mem_of_getElem? (pick_get h))
theorem pick_at {S : Nat → Bool} {n p : Nat} (hp : p < n) (hS : S p = true) : pick S n (cntB S p) = p := by
  unfold pick
  rw [List.getD_eq_getElem?_getD, flt_get hS hp]
  rfl
/-- which of c a draw meets -/
def ixd (z t k : Int) (c : Nat) : Nat := (drw z t k % (c : Int)).toNat
theorem ixd_lt {z t k : Int} {c : Nat} (h : 1 ≤ c) : ixd z t k c < c ∧ ((ixd z t k c : Nat) : Int) = drw z t k % (c : Int) := by
  have a := Int.emod_nonneg (drw z t k) (show (c : Int) ≠ 0 by omega)
  have b := Int.emod_lt_of_pos (drw z t k) (show (0 : Int) < c by omega)
  unfold ixd
  omega
def bNo (ρ : RM) : Nat := cntB (S0 (rS ρ)) (rN ρ)
def sNo (ρ : RM) : Nat := cntB (S1 (rS ρ)) (rN ρ)
/-- the BUYER, the SELLER a draw meets -/
def bPick (ρ : RM) (z t k : Int) : Nat := pick (S0 (rS ρ)) (rN ρ) (ixd z t k (bNo ρ))
def sPick (ρ : RM) (z t k : Int) : Nat := pick (S1 (rS ρ)) (rN ρ) (ixd z t k (sNo ρ))
theorem bPick_ok {ρ : RM} (hok : okRM ρ) (z t k : Int) : bPick ρ z t k < rN ρ ∧ rS ρ (bPick ρ z t k) = 0 := by
  have h := pick_mem (S := S0 (rS ρ)) (n := rN ρ) (ixd_lt (z := z) (t := t) (k := k) (c := bNo ρ) hok.2.2.2.2.2.2.2.1.1).1
  exact ⟨h.1, of_decide_eq_true h.2⟩
theorem sPick_ok {ρ : RM} (hok : okRM ρ) (z t k : Int) : sPick ρ z t k < rN ρ ∧ rS ρ (sPick ρ z t k) = 1 := by
  have h := pick_mem (S := S1 (rS ρ)) (n := rN ρ) (ixd_lt (z := z) (t := t) (k := k) (c := sNo ρ) hok.2.2.2.2.2.2.2.2.1).1
  exact ⟨h.1, of_decide_eq_true h.2⟩
/-- the class reads whom a draw meets -/
theorem bPick_X {I : II} {R : RR} {r : Nat} {ρ : RM} (h : XR I R r ρ) (hok : okRM ρ) (z t k : Int) : (if 0 < I r 6 then drw z t k % I r 6 else 0) = ((ixd z t k (bNo ρ) : Nat) : Int) ∧ I (R r 3) (ixd z t k (bNo ρ)) = (bPick ρ z t k : Int) ∧ ixd z t k (bNo ρ) < 10 := by
  have c := hok.2.2.2.2.2.2.2.1
  have l := ixd_lt (z := z) (t := t) (k := k) (c := bNo ρ) c.1
  have e6 : I r 6 = (bNo ρ : Int) := h.2.1
  unfold bNo at *
  refine ⟨?_, h.2.2.2.2.2.2.2.2.2.1 _ _ (pick_get l.1), by omega⟩
  rw [e6, if_pos (by omega), l.2]
theorem sPick_X {I : II} {R : RR} {r : Nat} {ρ : RM} (h : XR I R r ρ) (hok : okRM ρ) (z t k : Int) : (if 0 < I r 7 then drw z t k % I r 7 else 0) = ((ixd z t k (sNo ρ) : Nat) : Int) ∧ I (R r 4) (ixd z t k (sNo ρ)) = (sPick ρ z t k : Int) ∧ ixd z t k (sNo ρ) < 10 := by
  have c := hok.2.2.2.2.2.2.2.2
  have l := ixd_lt (z := z) (t := t) (k := k) (c := sNo ρ) c.1
  have e6 : I r 7 = (sNo ρ : Int) := h.2.2.1
  unfold sNo at *
  refine ⟨?_, h.2.2.2.2.2.2.2.2.2.2 _ _ (pick_get l.1), by omega⟩
  rw [e6, if_pos (by omega), l.2]
/-- the reference counts to whom a draw meets -/
theorem aX11_personOf {I : II} {R : RR} {ρ : RM} {sd : Int} {i : Nat} (hR : SR R) (h : MRo I ρ) (hok : okRM ρ) (hs : sd = 0 ∨ sd = 1) (hi : i < cntB (fun p => decide (rS ρ p = sd)) (rN ρ)) :
    Spec mX11_personOf [vR 68, vI sd, vI i] I R 89 89 (fun rv I' R' => R = R' ∧ I = I' ∧ rv = vI (pick (fun p => decide (rS ρ p = sd)) (rN ρ) i : Nat)) := by
  have hn := hok.1
  obtain ⟨S, hS⟩ : ∃ S : Nat → Bool, S = fun p => decide (rS ρ p = sd) := ⟨_, rfl⟩
  rw [← hS] at hi ⊢
  have hcn := cntB_leN (S := S) (rN ρ)
  have hSp : ∀ p, S p = true ↔ rS ρ p = sd := fun p => by rw [hS]; simp
  refine sX11_personOf (gX11_personOf_0 hR ?_)
  have loop : ∀ (d p : Nat), p + d = rN ρ → cntB S p ≤ i → wp (kN 89) mX11_personOf (fun rv I' R' => R = R' ∧ I = I' ∧ rv = vI (pick S (rN ρ) i : Nat)) 5 [vR 68, vI sd, none, vI ((i : Int) - cntB S p), vI (p : Int)] [] I R 89 := by
    intro d
    induction d with
    | zero =>
      intro p hp hc
      rw [show p = rN ρ by omega] at hc
      omega
    | succ d ih =>
      intro p hp hc
      have h1 := (h.2.1 p (by omega)).1
      have h01 := (hok.2.1 p).1
      have es : InI sd := by rcases hs with q | q <;> rw [q] <;> exact ⟨by decide, by decide⟩
      have eq1 : InI (rS ρ p) := by rcases h01 with q | q <;> rw [q] <;> exact ⟨by decide, by decide⟩
      have ek : (p : Int) + 1 = ((p + 1 : Nat) : Int) := by omega
      have cs : cntB S (p + 1) = if S p = true then cntB S p + 1 else cntB S p := rfl
      have p20 : (rS ρ p = sd → cntB S p < i) → wp (kN 89) mX11_personOf (fun rv I' R' => R = R' ∧ I = I' ∧ rv = vI (pick S (rN ρ) i : Nat)) 20 [vR 68, vI sd, none, vI ((i : Int) - cntB S p), vI (p : Int)] [] I R 89 := fun hlt => by
        refine gX11_personOf_20 hR ?_
        rw [Int.toNat_natCast, h1, ek]
        refine ⟨⟨by omega, by omega⟩, eq1, es, fun hne => ?_, fun he => ?_⟩
        · have c1 : cntB S (p + 1) = cntB S p := by rw [cs, if_neg (fun q => hne ((hSp p).1 q))]
          have := ih (p + 1) (by omega) (by omega)
          rw [c1] at this
          rw [Int.sub_zero]
          exact this
        · have c1 : cntB S (p + 1) = cntB S p + 1 := by rw [cs, if_pos ((hSp p).2 he)]
          have l := hlt he
          have := ih (p + 1) (by omega) (by omega)
          rw [c1] at this
          rw [show (i : Int) - cntB S p - 1 = (i : Int) - ((cntB S p + 1 : Nat) : Int) by omega]
          exact this
      have p5 : wp (kN 89) mX11_personOf (fun rv I' R' => R = R' ∧ I = I' ∧ rv = vI (pick S (rN ρ) i : Nat)) 5 [vR 68, vI sd, none, vI ((i : Int) - cntB S p), vI (p : Int)] [] I R 89 := by
        refine gX11_personOf_5 hR ?_
        rw [Int.toNat_natCast, h1]
        refine ⟨⟨by omega, by omega⟩, eq1, es, fun hne => p20 (fun q => absurd q hne), fun he => ⟨⟨by omega, by omega⟩, fun hle => ⟨rfl, rfl, ?_⟩, fun hle => p20 (fun _ => by omega)⟩⟩
        rw [show i = cntB S p by omega, pick_at (by omega) ((hSp p).2 he)]
      exact p5
  have := loop (rN ρ) 0 (by omega) (Nat.zero_le _)
  rw [show ((i : Int) - cntB S 0) = i by show (i : Int) - ((0 : Nat) : Int) = i; omega] at this
  exact this
theorem aX11_bPick {I : II} {R : RR} {ρ : RM} (hR : SR R) (h : MRo I ρ) (hok : okRM ρ) (z t k : Int) :
    Spec mX11_personOf [vR 68, vI 0, vI (drw z t k % (bNo ρ : Int))] I R 89 89 (fun rv I' R' => R = R' ∧ I = I' ∧ rv = vI (bPick ρ z t k)) := by
  have l := ixd_lt (z := z) (t := t) (k := k) (c := bNo ρ) hok.2.2.2.2.2.2.2.1.1
  rw [← l.2]
  exact aX11_personOf hR h hok (Or.inl rfl) l.1
theorem aX11_sPick {I : II} {R : RR} {ρ : RM} (hR : SR R) (h : MRo I ρ) (hok : okRM ρ) (z t k : Int) :
    Spec mX11_personOf [vR 68, vI 1, vI (drw z t k % (sNo ρ : Int))] I R 89 89 (fun rv I' R' => R = R' ∧ I = I' ∧ rv = vI (sPick ρ z t k)) := by
  have l := ixd_lt (z := z) (t := t) (k := k) (c := sNo ρ) hok.2.2.2.2.2.2.2.2.1
  rw [← l.2]
  exact aX11_personOf hR h hok (Or.inr rfl) l.1
/-- by its own LAW -/
def ownTell (ρ : RM) (p : Nat) (t last d : Int) : Int := tellSp ρ p (rL ρ p) t last d
def pairsF (ρ : RM) (z t : Int) (σ : RS) : RS :=
  if (pd σ (bPick ρ z t 0) = -4 ∧ pd σ (sPick ρ z t 2) = -4) ∧ hearSp ρ (sPick ρ z t 2) (ownTell ρ (sPick ρ z t 2) t (la σ) (drw z t 3)) ∧ ownTell ρ (sPick ρ z t 2) t (la σ) (drw z t 3) + rP ρ 1 ≤ ownTell ρ (bPick ρ z t 0) t (la σ) (drw z t 1)
  then tradeF ρ σ (bPick ρ z t 0) (sPick ρ z t 2) (ownTell ρ (sPick ρ z t 2) t (la σ) (drw z t 3) + rP ρ 1) t else σ
def pairsR (ρ : RM) (z : Int) : Nat → RS
  | 0 => σ0
  | t + 1 => pairsF ρ z t (pairsR ρ z t)
theorem ownTell_bd {ρ : RM} (hok : okRM ρ) {p : Nat} {t last d : Int} (ht : 0 ≤ t ∧ t < rP ρ 0) : 0 ≤ ownTell ρ p t last d ∧ ownTell ρ p t last d ≤ 99 := tellSp_bd hok ht
theorem pairsR_ok {ρ : RM} (hok : okRM ρ) (z : Int) : ∀ t : Nat, (t : Int) ≤ rP ρ 0 → okS t (pairsR ρ z t)
  | 0, _ => okS_0
  | t + 1, h => by
    have ih := pairsR_ok hok z t (by omega)
    have hst := hok.2.2.1
    have htx := hok.2.2.2.1
    show okS ((t + 1 : Nat) : Int) (pairsF ρ z t (pairsR ρ z t))
    unfold pairsF
    split
    · next hc =>
      have b1 := ownTell_bd hok (p := bPick ρ z t 0) (t := t) (last := la (pairsR ρ z t)) (d := drw z t 1) ⟨by omega, by omega⟩
      have b2 := ownTell_bd hok (p := sPick ρ z t 2) (t := t) (last := la (pairsR ρ z t)) (d := drw z t 3) ⟨by omega, by omega⟩
      exact okS_trade hok ih ⟨by omega, by omega⟩ ⟨by omega, by omega⟩
    · exact okS_le ih (by omega)
theorem XS_frm {T : List Nat} {I I' : II} {z : Int} {σ : RS} (h : XS I z σ) (hf : frm T I I') (hT : 38 ∉ T ∧ 39 ∉ T) : XS I' z σ := by
  obtain ⟨h3, h4, h5, h6, h7, h8, h9, hp⟩ := h
  have f := hf 38 hT.1
  exact ⟨(f _).trans h3, (f _).trans h4, (f _).trans h5, (f _).trans h6, (f _).trans h7, (f _).trans h8, (f _).trans h9, fun p hpp => (hf 39 hT.2 p).trans (hp p hpp)⟩
theorem aX7_playPairs {I : II} {R : RR} {r : Nat} {ρ : RM} {z : Int} (hR : SR R) (hr : r = 6 ∨ r = 12) (h : XR I R r ρ) (hok : okRM ρ) (hz : 0 ≤ z ∧ z ≤ 9999) (hx : XS I z σ0) :
    Spec mX7_playPairs [vR 38, vR r] I R 89 89 (fun _ I' R' => R = R' ∧ frm [38, 39] I I' ∧ XS I' z (pairsR ρ z (rP ρ 0).toNat)) := by
  obtain ⟨o0, o1, o2, o3, o4, o5⟩ := roomO hR hr
  have hst := hok.2.2.1
  have htx := hok.2.2.2.1
  have hlid := hok.2.2.2.2.1
  have hn := hok.1
  have hb := hok.2.2.2.2.2.2.2.1
  have hs := hok.2.2.2.2.2.2.2.2
  refine sX7_playPairs (gX7_playPairs_0 hR ?_)
  have loop : ∀ (d t : Nat) (J : II), t + d = (rP ρ 0).toNat → frm [38, 39] I J → XS J z (pairsR ρ z t) → wp (kN 89) mX7_playPairs (fun _ I' R' => R = R' ∧ frm [38, 39] I I' ∧ XS I' z (pairsR ρ z (rP ρ 0).toNat)) 2 [vR 38, vR r, vI (t : Int), none, none, none, none] [] J R 89 := by
    intro d
    induction d with
    | zero =>
      intro t J ht hf hx
      have hX := XR_frm hR hr h hf (by rcases hr with rfl | rfl <;> decide)
      have e8 : J r 8 = rP ρ 0 := hX.2.2.2.1
      refine gX7_playPairs_2 hR ⟨o0, ⟨by omega, by omega⟩, ⟨by omega, by omega⟩, fun _ => ?_, fun q => absurd (by omega) q⟩
      rw [show t = (rP ρ 0).toNat by omega] at hx
      exact ⟨rfl, hf, hx⟩
    | succ d ih =>
      intro t J ht hf hx
      have hX := XR_frm hR hr h hf (by rcases hr with rfl | rfl <;> decide)
      have e8 : J r 8 = rP ρ 0 := hX.2.2.2.1
      have e6 : J r 6 = (bNo ρ : Int) := hX.2.1
      have e7 : J r 7 = (sNo ρ : Int) := hX.2.2.1
      have e9 : J r 9 = rP ρ 1 := hX.2.2.2.2.1
      have e10 : J r 10 = rP ρ 2 := hX.2.2.2.2.2.1
      have z3 : J 38 3 = z := hx.1
      have l4 : J 38 4 = la (pairsR ρ z t) := hx.2.1
      have ek : (t : Int) + 1 = ((t + 1 : Nat) : Int) := by omega
      have okσ := pairsR_ok hok z t (by omega)
      obtain ⟨B1, B2, B3⟩ := bPick_X hX hok z t 0
      obtain ⟨C1, C2, C3⟩ := sPick_X hX hok z t 2
      have bo := bPick_ok hok z t 0
      have so' := sPick_ok hok z t 2
      have d0 := drw_bd z t 0
      have d1 := drw_bd z t 1
      have d2 := drw_bd z t 2
      have d3 := drw_bd z t 3
      have hpb := hx.2.2.2.2.2.2.2 (bPick ρ z t 0) (by omega)
      have hps := hx.2.2.2.2.2.2.2 (sPick ρ z t 2) (by omega)
      have b1 := ownTell_bd hok (p := bPick ρ z t 0) (t := t) (last := la (pairsR ρ z t)) (d := drw z t 1) ⟨by omega, by omega⟩
      have b2 := ownTell_bd hok (p := sPick ρ z t 2) (t := t) (last := la (pairsR ρ z t)) (d := drw z t 3) ⟨by omega, by omega⟩
      have okb := okσ.2.2.2.2.2.2 (bPick ρ z t 0)
      have oks := okσ.2.2.2.2.2.2 (sPick ρ z t 2)
      have la4 : lastOk (J 38 4) := by rw [l4]; exact okσ.1
      have tb := aX7_tells (t := t) (d := drw z t 1) hR hr hX hok bo.1 ⟨by omega, by omega⟩ la4 ⟨by omega, by omega⟩
      have ts := aX7_tells (t := t) (d := drw z t 3) hR hr hX hok so'.1 ⟨by omega, by omega⟩ la4 ⟨by omega, by omega⟩
      rw [l4] at tb ts
      have es : J (R r 0) (sPick ρ z t 2) = 1 := by rw [(XRf hX so'.1).1, so'.2]
      have next : ∀ J', frm [38, 39] I J' → XS J' z (pairsF ρ z t (pairsR ρ z t)) → wp (kN 89) mX7_playPairs (fun _ I' R' => R = R' ∧ frm [38, 39] I I' ∧ XS I' z (pairsR ρ z (rP ρ 0).toNat)) 145 [vR 38, vR r, vI (t : Int), none, none, none, none] [] J' R 89 := fun J' hf' hx' => by
        refine gX7_playPairs_145 hR ?_
        rw [ek]
        exact ih (t + 1) J' (by omega) hf' hx'
      have skip : ¬ ((pd (pairsR ρ z t) (bPick ρ z t 0) = -4 ∧ pd (pairsR ρ z t) (sPick ρ z t 2) = -4) ∧ hearSp ρ (sPick ρ z t 2) (ownTell ρ (sPick ρ z t 2) t (la (pairsR ρ z t)) (drw z t 3)) ∧ ownTell ρ (sPick ρ z t 2) t (la (pairsR ρ z t)) (drw z t 3) + rP ρ 1 ≤ ownTell ρ (bPick ρ z t 0) t (la (pairsR ρ z t)) (drw z t 1)) → wp (kN 89) mX7_playPairs (fun _ I' R' => R = R' ∧ frm [38, 39] I I' ∧ XS I' z (pairsR ρ z (rP ρ 0).toNat)) 145 [vR 38, vR r, vI (t : Int), none, none, none, none] [] J R 89 := fun hc =>
        next J hf (by unfold pairsF; rw [if_neg hc]; exact hx)
      generalize hσ : pairsR ρ z t = σ at *
      unfold lastOk at okb oks
      refine gX7_playPairs_2 hR ⟨o0, ⟨by omega, by omega⟩, ⟨by omega, by omega⟩, fun q => absurd q (by omega), fun _ => ?_⟩
      rw [z3, B1, C1, Int.toNat_natCast, Int.toNat_natCast, B2, C2, Int.toNat_natCast, Int.toNat_natCast, hpb, hps, e6, e7]
      refine ⟨⟨hz.1, hz.2, by omega, by omega, by decide, by decide⟩, ⟨by unfold bNo; omega, by unfold bNo; omega⟩, ⟨by omega, by omega⟩, o4, ⟨by omega, by omega⟩, ⟨hz.1, hz.2, by omega, by omega, by decide, by decide⟩, ⟨by unfold sNo; omega, by unfold sNo; omega⟩, ⟨by omega, by omega⟩, o5, ⟨by omega, by omega⟩, ⟨by omega, by omega⟩, ⟨by omega, by omega⟩, fun hne => skip (fun q => hne q.1.1), fun hpb4 => ⟨⟨by omega, by omega⟩, ⟨by omega, by omega⟩, fun hps4 => ⟨⟨hz.1, hz.2, by omega, by omega, by decide, by decide⟩, _, tb, fun x24 I24 R24 hq => ?_⟩, fun hne => skip (fun q => hne q.1.2)⟩⟩
      obtain ⟨rfl, rfl, e⟩ := hq
      cases e
      rw [z3]
      refine ⟨rfl, ⟨hz.1, hz.2, by omega, by omega, by decide, by decide⟩, _, ts, fun x27 I27 R27 hq => ?_⟩
      obtain ⟨rfl, rfl, e⟩ := hq
      cases e
      rw [es, e9, e10]
      change R = R ∧ _
      have hh : hearSp ρ (sPick ρ z t 2) (ownTell ρ (sPick ρ z t 2) t (la σ) (drw z t 3)) ↔ ownTell ρ (sPick ρ z t 2) t (la σ) (drw z t 3) + rP ρ 1 ≤ rP ρ 2 := by
        show (rS ρ (sPick ρ z t 2) = 0 ∨ _) ↔ _
        rw [so'.2]
        exact ⟨fun q => q.elim (fun w => absurd w (by decide)) id, Or.inr⟩
      have oB : tellSp ρ (bPick ρ z t 0) (rL ρ (bPick ρ z t 0)) t (la σ) (drw z t 1) = ownTell ρ (bPick ρ z t 0) t (la σ) (drw z t 1) := rfl
      have oS : tellSp ρ (sPick ρ z t 2) (rL ρ (sPick ρ z t 2)) t (la σ) (drw z t 3) = ownTell ρ (sPick ρ z t 2) t (la σ) (drw z t 3) := rfl
      rw [oB, oS]
      refine ⟨rfl, o1, Or.inr rfl, ⟨by omega, by omega⟩, ⟨by omega, by omega⟩, fun hc => ⟨⟨by omega, by omega⟩, ⟨by omega, by omega⟩, fun hlt => skip (fun q => by omega), fun hge => ⟨_, aX7_trade (v := ownTell ρ (sPick ρ z t 2) t (la σ) (drw z t 3) + rP ρ 1) (t := t) hR hr hX hok bo.1 so'.1 hx okσ (by omega) ⟨by omega, by omega⟩, fun I35 R35 hq => ?_⟩⟩, fun hc => skip (fun q => hc (Or.inr (hh.1 q.2.1)))⟩
      obtain ⟨rfl, f35, x35, _⟩ := hq
      refine ⟨rfl, next I35 (frm_trans hf f35) ?_⟩
      unfold pairsF
      rw [if_pos ⟨⟨hpb4, hps4⟩, hh.2 (by omega), by omega⟩]
      exact x35
  exact loop (rP ρ 0).toNat 0 I (by omega) frm_rfl hx
/-- slots of the reference that a ROUND's going leaves -/
theorem MS_frm {T : List Nat} {I I' : II} {z : Int} {σ : RS} (h : MS I z σ) (hf : frm T I I') (hT : 85 ∉ T) (h68 : ∀ j, 21 ≤ j → j ≤ 28 → j ≠ 23 → I' 68 j = I 68 j) : MS I' z σ := by
  obtain ⟨h3, h4, h5, h6, h7, h8, h9, hp⟩ := h
  exact ⟨(h68 21 (by decide) (by decide) (by decide)).trans h3, (h68 22 (by decide) (by decide) (by decide)).trans h4, (h68 24 (by decide) (by decide) (by decide)).trans h5, (h68 25 (by decide) (by decide) (by decide)).trans h6, (h68 26 (by decide) (by decide) (by decide)).trans h7, (h68 27 (by decide) (by decide) (by decide)).trans h8, (h68 28 (by decide) (by decide) (by decide)).trans h9, fun p hpp => (hf 85 hT p).trans (hp p hpp)⟩
/-- what a going ROUND of the reference leaves -/
def mGo (T : List Nat) (I I' : II) : Prop := frm T I I' ∧ ∀ j, mSlot j → I' 68 j = I 68 j
theorem mGo_rfl {T : List Nat} {I : II} : mGo T I I := ⟨frm_rfl, fun _ _ => rfl⟩
theorem mGo_trans {T : List Nat} {I I1 I2 : II} (a : mGo T I I1) (b : mGo T I1 I2) : mGo T I I2 := ⟨frm_trans a.1 b.1, fun j hj => (b.2 j hj).trans (a.2 j hj)⟩
theorem mGo_sub {T T' : List Nat} {I I' : II} (a : mGo T I I') (h : ∀ i ∈ T, i ∈ T') : mGo T' I I' := ⟨frm_sub a.1 h, a.2⟩
theorem hear_shout {ρ : RM} (hok : okRM ρ) {p : Nat} {t last d : Int} (ht : 0 ≤ t ∧ t < rP ρ 0) : (¬ shoutSp ρ p (rL ρ p) t last d < 0 ↔ hearSp ρ p (ownTell ρ p t last d)) ∧ (hearSp ρ p (ownTell ρ p t last d) → shoutSp ρ p (rL ρ p) t last d = ownTell ρ p t last d) := by
  have b := ownTell_bd hok (p := p) (last := last) (d := d) ht
  have e : shoutSp ρ p (rL ρ p) t last d = if hearSp ρ p (ownTell ρ p t last d) then ownTell ρ p t last d else -4 := rfl
  rw [e]
  constructor
  · constructor
    · intro q
      by_cases hc : hearSp ρ p (ownTell ρ p t last d)
      · exact hc
      · rw [if_neg hc] at q; omega
    · intro q; rw [if_pos q]; omega
  · intro q; rw [if_pos q]
theorem aX11_goPairs {I : II} {R : RR} {ρ : RM} {z : Int} (hR : SR R) (h : MRo I ρ) (hok : okRM ρ) (hz : 0 ≤ z ∧ z ≤ 9999) (hx : MS I z σ0) :
    Spec mX11_goPairs [vR 68] I R 89 89 (fun _ I' R' => R = R' ∧ mGo [68, 85] I I' ∧ MS I' z (pairsR ρ z (rP ρ 0).toNat)) := by
  have hst := hok.2.2.1
  have htx := hok.2.2.2.1
  have hlid := hok.2.2.2.2.1
  have hn := hok.1
  have hb := hok.2.2.2.2.2.2.2.1
  have hs := hok.2.2.2.2.2.2.2.2
  refine sX11_goPairs (gX11_goPairs_0 hR ?_)
  have loop : ∀ (d t : Nat) (J : II), t + d = (rP ρ 0).toNat → mGo [68, 85] I J → MS J z (pairsR ρ z t) → wp (kN 89) mX11_goPairs (fun _ I' R' => R = R' ∧ mGo [68, 85] I I' ∧ MS I' z (pairsR ρ z (rP ρ 0).toNat)) 2 [vR 68, vI (t : Int), none, none, none] [] J R 89 := by
    intro d
    induction d with
    | zero =>
      intro t J ht hf hx
      have hX := MRo_frm h hf.1 (by decide)
      have e8 : J 74 0 = rP ρ 0 := hX.2.2 0 (by decide)
      refine gX11_goPairs_2 hR ⟨⟨by omega, by omega⟩, ⟨by omega, by omega⟩, fun _ => ?_, fun q => absurd (by omega) q⟩
      rw [show t = (rP ρ 0).toNat by omega] at hx
      exact ⟨rfl, hf, hx⟩
    | succ d ih =>
      intro t J ht hf hx
      have hX := MRo_frm h hf.1 (by decide)
      have e8 : J 74 0 = rP ρ 0 := hX.2.2 0 (by decide)
      have e9 : J 74 1 = rP ρ 1 := hX.2.2 1 (by decide)
      have z3 : J 68 21 = z := hx.1
      have l4 : J 68 22 = la (pairsR ρ z t) := hx.2.1
      have ek : (t : Int) + 1 = ((t + 1 : Nat) : Int) := by omega
      have okσ := pairsR_ok hok z t (by omega)
      have bo := bPick_ok hok z t 0
      have so' := sPick_ok hok z t 2
      have d0 := drw_bd z t 0
      have d1 := drw_bd z t 1
      have d2 := drw_bd z t 2
      have d3 := drw_bd z t 3
      have hpb := hx.2.2.2.2.2.2.2 (bPick ρ z t 0) (by omega)
      have hps := hx.2.2.2.2.2.2.2 (sPick ρ z t 2) (by omega)
      have hts : 0 ≤ (t : Int) ∧ (t : Int) < rP ρ 0 := ⟨by omega, by omega⟩
      have b1 := ownTell_bd hok (p := bPick ρ z t 0) (last := la (pairsR ρ z t)) (d := drw z t 1) hts
      have b2 := ownTell_bd hok (p := sPick ρ z t 2) (last := la (pairsR ρ z t)) (d := drw z t 3) hts
      have okb := okσ.2.2.2.2.2.2 (bPick ρ z t 0)
      have oks := okσ.2.2.2.2.2.2 (sPick ρ z t 2)
      have la4 : lastOk (J 68 22) := by rw [l4]; exact okσ.1
      have hz' : 0 ≤ J 68 21 ∧ J 68 21 ≤ 9999 := by rw [z3]; exact hz
      have tb := aX11_shoutOf (t := t) (k := t) (j := 1) hR hX hok bo.1 hts la4 hz' ⟨by omega, by omega⟩ ⟨by decide, by decide⟩
      have ts := aX11_shoutOf (t := t) (k := t) (j := 3) hR hX hok so'.1 hts la4 hz' ⟨by omega, by omega⟩ ⟨by decide, by decide⟩
      rw [l4, z3] at tb ts
      have next : ∀ J', mGo [68, 85] I J' → MS J' z (pairsF ρ z t (pairsR ρ z t)) → wp (kN 89) mX11_goPairs (fun _ I' R' => R = R' ∧ mGo [68, 85] I I' ∧ MS I' z (pairsR ρ z (rP ρ 0).toNat)) 121 [vR 68, vI (t : Int), none, none, none] [] J' R 89 := fun J' hf' hx' => by
        refine gX11_goPairs_121 hR ?_
        rw [ek]
        exact ih (t + 1) J' (by omega) hf' hx'
      have skip : ¬ ((pd (pairsR ρ z t) (bPick ρ z t 0) = -4 ∧ pd (pairsR ρ z t) (sPick ρ z t 2) = -4) ∧ hearSp ρ (sPick ρ z t 2) (ownTell ρ (sPick ρ z t 2) t (la (pairsR ρ z t)) (drw z t 3)) ∧ ownTell ρ (sPick ρ z t 2) t (la (pairsR ρ z t)) (drw z t 3) + rP ρ 1 ≤ ownTell ρ (bPick ρ z t 0) t (la (pairsR ρ z t)) (drw z t 1)) → wp (kN 89) mX11_goPairs (fun _ I' R' => R = R' ∧ mGo [68, 85] I I' ∧ MS I' z (pairsR ρ z (rP ρ 0).toNat)) 121 [vR 68, vI (t : Int), none, none, none] [] J R 89 := fun hc =>
        next J hf (by unfold pairsF; rw [if_neg hc]; exact hx)
      generalize hσ : pairsR ρ z t = σ at *
      have hsB := hear_shout hok (p := bPick ρ z t 0) (last := la σ) (d := drw z t 1) hts
      have hsS := hear_shout hok (p := sPick ρ z t 2) (last := la σ) (d := drw z t 3) hts
      unfold lastOk at okb oks
      have m0 : Spec mX11_manyOf [vR 68, vI 0] J R 89 89 (fun rv I' R' => R = R' ∧ J = I' ∧ rv = vI (bNo ρ : Int)) := aX11_manyOf hR hX hok (Or.inl rfl)
      have m1 : Spec mX11_manyOf [vR 68, vI 1] J R 89 89 (fun rv I' R' => R = R' ∧ J = I' ∧ rv = vI (sNo ρ : Int)) := aX11_manyOf hR hX hok (Or.inr rfl)
      refine gX11_goPairs_2 hR ⟨⟨by omega, by omega⟩, ⟨by omega, by omega⟩, fun q => absurd q (by omega), fun _ => ?_⟩
      rw [z3]
      refine ⟨⟨hz.1, hz.2, by omega, by omega, by decide, by decide⟩, _, m0, fun x5 I5 R5 hq => ?_⟩
      obtain ⟨rfl, rfl, e⟩ := hq
      cases e
      refine ⟨rfl, ⟨by omega, by omega, by unfold bNo; omega, by unfold bNo; omega⟩, _, aX11_bPick hR hX hok z t 0, fun x7 I7 R7 hq => ?_⟩
      obtain ⟨rfl, rfl, e⟩ := hq
      cases e
      rw [z3]
      refine ⟨rfl, ⟨hz.1, hz.2, by omega, by omega, by decide, by decide⟩, _, m1, fun x10 I10 R10 hq => ?_⟩
      obtain ⟨rfl, rfl, e⟩ := hq
      cases e
      refine ⟨rfl, ⟨by omega, by omega, by unfold sNo; omega, by unfold sNo; omega⟩, _, aX11_sPick hR hX hok z t 2, fun x12 I12 R12 hq => ?_⟩
      obtain ⟨rfl, rfl, e⟩ := hq
      cases e
      rw [Int.toNat_natCast, Int.toNat_natCast, hpb, hps]
      refine ⟨rfl, ⟨by omega, by omega⟩, ⟨by omega, by omega⟩, fun hne => skip (fun q => hne q.1.1), fun hpb4 => ⟨⟨by omega, by omega⟩, ⟨by omega, by omega⟩, fun hne => skip (fun q => hne q.1.2), fun hps4 => ⟨_, ts, fun x17 I17 R17 hq => ?_⟩⟩⟩
      obtain ⟨rfl, rfl, e⟩ := hq
      cases e
      have iS : lastOk (shoutSp ρ (sPick ρ z t 2) (rL ρ (sPick ρ z t 2)) t (la σ) (drw z t 3)) := shoutSp_ok hok hts
      have iB : lastOk (shoutSp ρ (bPick ρ z t 0) (rL ρ (bPick ρ z t 0)) t (la σ) (drw z t 1)) := shoutSp_ok hok hts
      unfold lastOk at iS iB
      refine ⟨rfl, ⟨by omega, by omega⟩, fun hlt => skip (fun q => hsS.1.2 q.2.1 hlt), fun hge => ⟨_, tb, fun x19 I19 R19 hq => ?_⟩⟩
      obtain ⟨rfl, rfl, e⟩ := hq
      cases e
      have hS := hsS.1.1 hge
      have hB : hearSp ρ (bPick ρ z t 0) (ownTell ρ (bPick ρ z t 0) t (la σ) (drw z t 1)) := Or.inl bo.2
      rw [e9, hsS.2 hS, hsB.2 hB]
      refine ⟨rfl, ⟨by omega, by omega⟩, ⟨by omega, by omega⟩, fun hlt => skip (fun q => by omega), fun hle => ⟨_, aX11_trade (v := ownTell ρ (sPick ρ z t 2) t (la σ) (drw z t 3) + rP ρ 1) (t := t) hR hX hok bo.1 so'.1 hx okσ (by omega) ⟨by omega, by omega⟩, fun I22 R22 hq => ?_⟩⟩
      obtain ⟨rfl, f22, x22, s22⟩ := hq
      refine ⟨rfl, next I22 (mGo_trans hf ⟨f22, s22⟩) ?_⟩
      unfold pairsF
      rw [if_pos ⟨⟨hpb4, hps4⟩, hS, by omega⟩]
      exact x22
  exact loop (rP ρ 0).toNat 0 I (by omega) mGo_rfl hx
