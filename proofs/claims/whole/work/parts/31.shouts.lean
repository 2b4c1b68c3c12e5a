/-! SHOUTS, of both -/
/-- a ROUND of SHOUTS: the round; whose the STANDING bid is, the bid; whose the offer is, the offer -/
abbrev SH : Type := RS × Int × Int × Int × Int
def shS (S : SH) : RS := S.1
def shB (S : SH) : Int := S.2.1
def shX (S : SH) : Int := S.2.2.1
def shA (S : SH) : Int := S.2.2.2.1
def shO (S : SH) : Int := S.2.2.2.2
def S00 : SH := (σ0, -4, 0, -4, 0)
def bidF (ρ : RM) (t : Int) (p : Nat) (v : Int) (S : SH) : SH :=
  if shA S ≠ -4 ∧ shO S + rP ρ 1 ≤ v then (tradeF ρ (shS S) p (shA S).toNat (shO S + rP ρ 1) t, -4, shX S, -4, shO S)
  else if shB S = -4 ∨ shX S < v then (shS S, p, v, shA S, shO S) else S
def offF (ρ : RM) (t : Int) (p : Nat) (v : Int) (S : SH) : SH :=
  if shB S ≠ -4 ∧ v + rP ρ 1 ≤ shX S then (tradeF ρ (shS S) (shB S).toNat p (shX S) t, -4, shX S, -4, shO S)
  else if shA S = -4 ∨ v < shO S then (shS S, shB S, shX S, p, v) else S
/-- who is met, and what it says -/
def shP (ρ : RM) (z t : Int) : Nat := ixd z t 0 (rN ρ)
def shV (ρ : RM) (z t : Int) (S : SH) : Int := ownTell ρ (shP ρ z t) t (la (shS S)) (drw z t 1)
abbrev shIs (ρ : RM) (z t : Int) (S : SH) : Prop := pd (shS S) (shP ρ z t) = -4 ∧ hearSp ρ (shP ρ z t) (shV ρ z t S)
def shF (ρ : RM) (z t : Int) (S : SH) : SH :=
  if shIs ρ z t S then (if rS ρ (shP ρ z t) = 0 then bidF ρ t (shP ρ z t) (shV ρ z t S) S else offF ρ t (shP ρ z t) (shV ρ z t S) S) else S
/-- person, price, step, LAST -/
abbrev LE : Type := Nat × Int × Int × Int
def shR (ρ : RM) (z : Int) : Nat → SH
  | 0 => S00
  | t + 1 => shF ρ z t (shR ρ z t)
def shG (ρ : RM) (z : Int) : Nat → List LE
  | 0 => []
  | t + 1 => if shIs ρ z t (shR ρ z t) then shG ρ z t ++ [(shP ρ z t, shV ρ z t (shR ρ z t), (t : Int), la (shS (shR ρ z t)))] else shG ρ z t
def okSH (ρ : RM) (k : Int) (S : SH) : Prop := okS k (shS S) ∧ (shB S = -4 ∨ (0 ≤ shB S ∧ shB S < rN ρ)) ∧ (0 ≤ shX S ∧ shX S ≤ 99) ∧ (shA S = -4 ∨ (0 ≤ shA S ∧ shA S < rN ρ)) ∧ (0 ≤ shO S ∧ shO S ≤ 99)
theorem n_pos {ρ : RM} (hok : okRM ρ) : 1 ≤ rN ρ := Nat.le_trans hok.2.2.2.2.2.2.2.1.1 (cntB_leN _)
theorem shP_lt {ρ : RM} (hok : okRM ρ) (z t : Int) : shP ρ z t < rN ρ ∧ ((shP ρ z t : Nat) : Int) = drw z t 0 % (rN ρ : Int) := ixd_lt (n_pos hok)
theorem okSH_bid {ρ : RM} {k : Int} {S : SH} {p : Nat} {v t : Int} (hok : okRM ρ) (h : okSH ρ k S) (hp : p < rN ρ) (hv : 0 ≤ v ∧ v ≤ 99) (ht : 0 ≤ t ∧ t < 200) : okSH ρ (k + 1) (bidF ρ t p v S) := by
  obtain ⟨h1, h2, h3, h4, h5⟩ := h
  have htx := hok.2.2.2.1
  unfold bidF
  split
  · next hc => exact ⟨okS_trade hok h1 ⟨by omega, by omega⟩ ht, Or.inl rfl, h3, Or.inl rfl, h5⟩
  · split
    · exact ⟨okS_le h1 (by omega), Or.inr ⟨by show 0 ≤ (p : Int); omega, by show (p : Int) < rN ρ; omega⟩, hv, h4, h5⟩
    · exact ⟨okS_le h1 (by omega), h2, h3, h4, h5⟩
theorem okSH_off {ρ : RM} {k : Int} {S : SH} {p : Nat} {v t : Int} (hok : okRM ρ) (h : okSH ρ k S) (hp : p < rN ρ) (hv : 0 ≤ v ∧ v ≤ 99) (ht : 0 ≤ t ∧ t < 200) : okSH ρ (k + 1) (offF ρ t p v S) := by
  obtain ⟨h1, h2, h3, h4, h5⟩ := h
  unfold offF
  split
  · next hc => exact ⟨okS_trade hok h1 h3 ht, Or.inl rfl, h3, Or.inl rfl, h5⟩
  · split
    · exact ⟨okS_le h1 (by omega), h2, h3, Or.inr ⟨by show 0 ≤ (p : Int); omega, by show (p : Int) < rN ρ; omega⟩, hv⟩
    · exact ⟨okS_le h1 (by omega), h2, h3, h4, h5⟩
theorem okSH_0 {ρ : RM} : okSH ρ 0 S00 := ⟨okS_0, Or.inl rfl, ⟨by decide, by decide⟩, Or.inl rfl, ⟨by decide, by decide⟩⟩
theorem shR_ok {ρ : RM} (hok : okRM ρ) (z : Int) : ∀ t : Nat, (t : Int) ≤ rP ρ 0 → okSH ρ t (shR ρ z t)
  | 0, _ => okSH_0
  | t + 1, h => by
    have ih := shR_ok hok z t (by omega)
    have hst := hok.2.2.1
    have hb := ownTell_bd hok (p := shP ρ z t) (t := t) (last := la (shS (shR ρ z t))) (d := drw z t 1) ⟨by omega, by omega⟩
    have hp := (shP_lt hok z t).1
    show okSH ρ ((t + 1 : Nat) : Int) (shF ρ z t (shR ρ z t))
    unfold shF
    split
    · split
      · exact okSH_bid hok ih hp hb ⟨by omega, by omega⟩
      · exact okSH_off hok ih hp hb ⟨by omega, by omega⟩
    · exact ⟨okS_le ih.1 (by omega), ih.2⟩
def okE (ρ : RM) (e : LE) : Prop := e.1 < rN ρ ∧ (0 ≤ e.2.1 ∧ e.2.1 ≤ 99) ∧ (0 ≤ e.2.2.1 ∧ e.2.2.1 < rP ρ 0) ∧ lastOk e.2.2.2 ∧ hearSp ρ e.1 e.2.1
theorem shG_len {ρ : RM} {z : Int} : ∀ t, (shG ρ z t).length ≤ t
  | 0 => Nat.le_refl _
  | t + 1 => by
    have ih := shG_len (ρ := ρ) (z := z) t
    show (if _ then _ else _ : List LE).length ≤ _
    split
    · rw [List.length_append]; simp; omega
    · omega
theorem shG_ok {ρ : RM} (hok : okRM ρ) {z : Int} : ∀ t : Nat, (t : Int) ≤ rP ρ 0 → ∀ e ∈ shG ρ z t, okE ρ e
  | 0, _, e, he => by simp [shG] at he
  | t + 1, h, e, he => by
    have ih := shG_ok hok (z := z) t (by omega)
    have okt := shR_ok hok z t (by omega)
    have hb := ownTell_bd hok (p := shP ρ z t) (t := t) (last := la (shS (shR ρ z t))) (d := drw z t 1) ⟨by omega, by omega⟩
    have hp := (shP_lt hok z t).1
    by_cases hc : shIs ρ z t (shR ρ z t)
    · have e1 : shG ρ z (t + 1) = shG ρ z t ++ [(shP ρ z t, shV ρ z t (shR ρ z t), (t : Int), la (shS (shR ρ z t)))] := by show (if _ then _ else _) = _; rw [if_pos hc]
      rw [e1, List.mem_append] at he
      rcases he with he | he
      · exact ih e he
      · rw [List.mem_singleton] at he
        subst he
        exact ⟨hp, hb, ⟨by show 0 ≤ (t : Int); omega, by show (t : Int) < rP ρ 0; omega⟩, okt.1.1, hc.2⟩
    · have e1 : shG ρ z (t + 1) = shG ρ z t := by show (if _ then _ else _) = _; rw [if_neg hc]
      rw [e1] at he
      exact ih e he
def XSH (I : II) (z : Int) (S : SH) : Prop := XS I z (shS S) ∧ I 38 10 = shB S ∧ I 38 11 = shA S ∧ (shB S ≠ -4 → I 38 12 = shX S) ∧ (shA S ≠ -4 → I 38 13 = shO S)
/-- only slots of the 38th beyond the round's change -/
theorem XS_38 {I I' : II} {z : Int} {σ : RS} (h : XS I z σ) (h38 : ∀ j, j < 10 → I' 38 j = I 38 j) (h39 : ∀ j, I' 39 j = I 39 j) : XS I' z σ := by
  obtain ⟨h3, h4, h5, h6, h7, h8, h9, hp⟩ := h
  exact ⟨(h38 3 (by decide)).trans h3, (h38 4 (by decide)).trans h4, (h38 5 (by decide)).trans h5, (h38 6 (by decide)).trans h6, (h38 7 (by decide)).trans h7, (h38 8 (by decide)).trans h8, (h38 9 (by decide)).trans h9, fun p hpp => (h39 p).trans (hp p hpp)⟩
theorem aX7_hearBid {I : II} {R : RR} {r p : Nat} {ρ : RM} {z v t k : Int} {S : SH} (hR : SR R) (hr : r = 6 ∨ r = 12) (h : XR I R r ρ) (hok : okRM ρ) (hp : p < rN ρ) (hx : XSH I z S) (hS : okSH ρ k S) (hk : k ≤ 300) (hv : 0 ≤ v ∧ v ≤ 99) :
    Spec mX7_hearBid [vR 38, vR r, vI p, vI v, vI t] I R 89 89 (fun _ I' R' => R = R' ∧ frm [38, 39] I I' ∧ XSH I' z (bidF ρ t p v S)) := by
  obtain ⟨o0, o1, o2, o3, o4, o5⟩ := roomO hR hr
  have e9 : I r 9 = rP ρ 1 := h.2.2.2.2.1
  have htx := hok.2.2.2.1
  have hn := hok.1
  obtain ⟨x0, x10, x11, x12, x13⟩ := hx
  obtain ⟨h1, h2, h3, h4, h5⟩ := hS
  have rest : ¬ (shA S ≠ -4 ∧ shO S + rP ρ 1 ≤ v) → wp (kN 89) mX7_hearBid (fun _ I' R' => R = R' ∧ frm [38, 39] I I' ∧ XSH I' z (bidF ρ t p v S)) 58 [vR 38, none, vI p, vI v, none] [] I R 89 := fun hc => by
    have take : (shB S = -4 ∨ shX S < v) → wp (kN 89) mX7_hearBid (fun _ I' R' => R = R' ∧ frm [38, 39] I I' ∧ XSH I' z (bidF ρ t p v S)) 75 [vR 38, none, vI p, vI v, none] [] I R 89 := fun hd => by
      refine gX7_hearBid_75 hR (fun I1 q1 I2 q2 => gX7_hearBid_85 hR ⟨rfl, ?_, ?_⟩)
      · rw [q2, q1]; exact frm_trans (frm_up (by decide)) (frm_up (by decide))
      · unfold bidF
        rw [if_neg hc, if_pos hd]
        refine ⟨XS_38 x0 (fun j hj => by rw [q2, up2_nj (by omega), q1, up2_nj (by omega)]) (fun j => by rw [q2, up2_ne (by decide), q1, up2_ne (by decide)]), ?_, ?_, fun _ => ?_, fun hne => ?_⟩
        · rw [q2, up2_nj (by decide), q1, up2_self]; rfl
        · rw [q2, up2_nj (by decide), q1, up2_nj (by decide), x11]; rfl
        · rw [q2, up2_self]; rfl
        · rw [q2, up2_nj (by decide), q1, up2_nj (by decide)]; exact x13 hne
    refine gX7_hearBid_58 hR ?_
    rw [x10]
    refine ⟨⟨by omega, by omega⟩, fun h4 => take (Or.inl h4), fun h4 => ?_⟩
    rw [x12 h4]
    refine ⟨⟨by omega, by omega⟩, ⟨by omega, by omega⟩, fun hle => gX7_hearBid_85 hR ⟨rfl, frm_rfl, ?_⟩, fun hle => take (Or.inr (by omega))⟩
    unfold bidF
    rw [if_neg hc, if_neg (by omega)]
    exact ⟨x0, x10, x11, x12, x13⟩
  refine sX7_hearBid (gX7_hearBid_0 hR ?_)
  rw [x11, e9]
  refine ⟨⟨by omega, by omega⟩, fun h4 => rest (fun q => q.1 h4), fun hne => ?_⟩
  rw [x13 hne]
  have ha : 0 ≤ shA S := by omega
  have trd := aX7_trade (b := p) (s := (shA S).toNat) (v := shO S + rP ρ 1) (t := t) hR hr h hok hp (by omega) x0 h1 (by omega)
  rw [Int.toNat_of_nonneg ha] at trd
  refine ⟨o0, ⟨by omega, by omega⟩, ⟨by omega, by omega⟩, fun hlt => rest (fun q => by omega), fun hge => ⟨_, trd ⟨by omega, by omega⟩, fun I5 R5 hq => ?_⟩⟩
  obtain ⟨rfl, f5, x5, s5⟩ := hq
  refine ⟨rfl, fun I6 q6 I7 q7 => gX7_hearBid_85 hR ⟨rfl, ?_, ?_⟩⟩
  · rw [q7, q6]; exact frm_trans f5 (frm_trans (frm_up (by decide)) (frm_up (by decide)))
  · unfold bidF
    rw [if_pos ⟨hne, by omega⟩]
    refine ⟨XS_38 x5 (fun j hj => by rw [q7, up2_nj (by omega), q6, up2_nj (by omega)]) (fun j => by rw [q7, up2_ne (by decide), q6, up2_ne (by decide)]), ?_, ?_, fun q => absurd rfl q, fun q => absurd rfl q⟩
    · rw [q7, up2_nj (by decide), q6, up2_self]; rfl
    · rw [q7, up2_self]; rfl
theorem aX7_hearOffer {I : II} {R : RR} {r p : Nat} {ρ : RM} {z v t k : Int} {S : SH} (hR : SR R) (hr : r = 6 ∨ r = 12) (h : XR I R r ρ) (hok : okRM ρ) (hp : p < rN ρ) (hx : XSH I z S) (hS : okSH ρ k S) (hk : k ≤ 300) (hv : 0 ≤ v ∧ v ≤ 99) :
    Spec mX7_hearOffer [vR 38, vR r, vI p, vI v, vI t] I R 89 89 (fun _ I' R' => R = R' ∧ frm [38, 39] I I' ∧ XSH I' z (offF ρ t p v S)) := by
  obtain ⟨o0, o1, o2, o3, o4, o5⟩ := roomO hR hr
  have e9 : I r 9 = rP ρ 1 := h.2.2.2.2.1
  have htx := hok.2.2.2.1
  have hn := hok.1
  obtain ⟨x0, x10, x11, x12, x13⟩ := hx
  obtain ⟨h1, h2, h3, h4, h5⟩ := hS
  have rest : ¬ (shB S ≠ -4 ∧ v + rP ρ 1 ≤ shX S) → wp (kN 89) mX7_hearOffer (fun _ I' R' => R = R' ∧ frm [38, 39] I I' ∧ XSH I' z (offF ρ t p v S)) 53 [vR 38, none, vI p, vI v, none] [] I R 89 := fun hc => by
    have take : (shA S = -4 ∨ v < shO S) → wp (kN 89) mX7_hearOffer (fun _ I' R' => R = R' ∧ frm [38, 39] I I' ∧ XSH I' z (offF ρ t p v S)) 70 [vR 38, none, vI p, vI v, none] [] I R 89 := fun hd => by
      refine gX7_hearOffer_70 hR (fun I1 q1 I2 q2 => gX7_hearOffer_80 hR ⟨rfl, ?_, ?_⟩)
      · rw [q2, q1]; exact frm_trans (frm_up (by decide)) (frm_up (by decide))
      · unfold offF
        rw [if_neg hc, if_pos hd]
        refine ⟨XS_38 x0 (fun j hj => by rw [q2, up2_nj (by omega), q1, up2_nj (by omega)]) (fun j => by rw [q2, up2_ne (by decide), q1, up2_ne (by decide)]), ?_, ?_, fun hne => ?_, fun _ => ?_⟩
        · rw [q2, up2_nj (by decide), q1, up2_nj (by decide), x10]; rfl
        · rw [q2, up2_nj (by decide), q1, up2_self]; rfl
        · rw [q2, up2_nj (by decide), q1, up2_nj (by decide)]; exact x12 hne
        · rw [q2, up2_self]; rfl
    refine gX7_hearOffer_53 hR ?_
    rw [x11]
    refine ⟨⟨by omega, by omega⟩, fun h4 => take (Or.inl h4), fun h4 => ?_⟩
    rw [x13 h4]
    refine ⟨⟨by omega, by omega⟩, ⟨by omega, by omega⟩, fun hle => gX7_hearOffer_80 hR ⟨rfl, frm_rfl, ?_⟩, fun hle => take (Or.inr (by omega))⟩
    unfold offF
    rw [if_neg hc, if_neg (by omega)]
    exact ⟨x0, x10, x11, x12, x13⟩
  refine sX7_hearOffer (gX7_hearOffer_0 hR ?_)
  rw [x10, e9]
  refine ⟨⟨by omega, by omega⟩, fun h4 => rest (fun q => q.1 h4), fun hne => ?_⟩
  rw [x12 hne]
  have ha : 0 ≤ shB S := by omega
  have trd := aX7_trade (b := (shB S).toNat) (s := p) (v := shX S) (t := t) hR hr h hok (by omega) hp x0 h1 (by omega)
  rw [Int.toNat_of_nonneg ha] at trd
  refine ⟨o0, ⟨by omega, by omega⟩, ⟨by omega, by omega⟩, fun hlt => rest (fun q => by omega), fun hge => ⟨_, trd h3, fun I5 R5 hq => ?_⟩⟩
  obtain ⟨rfl, f5, x5, s5⟩ := hq
  refine ⟨rfl, fun I6 q6 I7 q7 => gX7_hearOffer_80 hR ⟨rfl, ?_, ?_⟩⟩
  · rw [q7, q6]; exact frm_trans f5 (frm_trans (frm_up (by decide)) (frm_up (by decide)))
  · unfold offF
    rw [if_pos ⟨hne, by omega⟩]
    refine ⟨XS_38 x5 (fun j hj => by rw [q7, up2_nj (by omega), q6, up2_nj (by omega)]) (fun j => by rw [q7, up2_ne (by decide), q6, up2_ne (by decide)]), ?_, ?_, fun q => absurd rfl q, fun q => absurd rfl q⟩
    · rw [q7, up2_nj (by decide), q6, up2_self]; rfl
    · rw [q7, up2_self]; rfl
/-! the LOG -/
def XLg (I : II) (R : RR) (a : Nat) (l : List LE) : Prop := I a 4 = l.length ∧ l.length ≤ 200 ∧ ∀ (i : Nat) (e : LE), l[i]? = some e → I (R a 0) i = (e.1 : Int) ∧ I (R a 1) i = e.2.1 ∧ I (R a 2) i = e.2.2.1 ∧ I (R a 3) i = e.2.2.2
def MLg (I : II) (b : Nat) (l : List LE) : Prop := I 75 b = l.length ∧ l.length ≤ 200 ∧ ∀ (i : Nat) (e : LE), l[i]? = some e → I 76 (200 * b + i) = (e.1 : Int) ∧ I 77 (200 * b + i) = e.2.1 ∧ I 78 (200 * b + i) = e.2.2.1 ∧ I 79 (200 * b + i) = e.2.2.2
theorem app_at {l : List LE} {e x : LE} {i : Nat} (h : (l ++ [x])[i]? = some e) : (i = l.length ∧ e = x) ∨ (i ≠ l.length ∧ l[i]? = some e) := by
  by_cases hi : i < l.length
  · rw [List.getElem?_append_left hi] at h
    exact Or.inr ⟨by omega, h⟩
  · by_cases hj : i = l.length
    · subst hj
      rw [List.getElem?_concat_length] at h
      exact Or.inl ⟨rfl, by injection h with h; exact h.symm⟩
    · rw [List.getElem?_eq_none (by rw [List.length_append]; simp; omega)] at h
      cases h
theorem XLg_frm {T : List Nat} {I I' : II} {R : RR} {a : Nat} {l : List LE} (h : XLg I R a l) (hf : frm T I I') (hT : a ∉ T ∧ R a 0 ∉ T ∧ R a 1 ∉ T ∧ R a 2 ∉ T ∧ R a 3 ∉ T) : XLg I' R a l := by
  refine ⟨(hf a hT.1 4).trans h.1, h.2.1, fun i e he => ?_⟩
  obtain ⟨e1, e2, e3, e4⟩ := h.2.2 i e he
  exact ⟨(hf _ hT.2.1 i).trans e1, (hf _ hT.2.2.1 i).trans e2, (hf _ hT.2.2.2.1 i).trans e3, (hf _ hT.2.2.2.2 i).trans e4⟩
theorem MLg_frm {T : List Nat} {I I' : II} {b : Nat} {l : List LE} (h : MLg I b l) (hf : frm T I I') (hT : ∀ x ∈ T, ¬ (75 ≤ x ∧ x ≤ 79)) : MLg I' b l := by
  have g : ∀ x, 75 ≤ x → x ≤ 79 → ∀ j, I' x j = I x j := fun x h1 h2 => hf x (fun q => hT x q ⟨h1, h2⟩)
  refine ⟨(g 75 (by decide) (by decide) b).trans h.1, h.2.1, fun i e he => ?_⟩
  obtain ⟨e1, e2, e3, e4⟩ := h.2.2 i e he
  exact ⟨(g 76 (by decide) (by decide) _).trans e1, (g 77 (by decide) (by decide) _).trans e2, (g 78 (by decide) (by decide) _).trans e3, (g 79 (by decide) (by decide) _).trans e4⟩
/-- the banks of the reference's LOGS beyond the first -/
def bank (I I' : II) : Prop := (∀ j, j ≠ 0 → I' 75 j = I 75 j) ∧ ∀ x j, 76 ≤ x → x ≤ 79 → 200 ≤ j → I' x j = I x j
theorem bank_rfl {I : II} : bank I I := ⟨fun _ _ => rfl, fun _ _ _ _ _ => rfl⟩
theorem bank_trans {I I1 I2 : II} (a : bank I I1) (b : bank I1 I2) : bank I I2 := ⟨fun j hj => (b.1 j hj).trans (a.1 j hj), fun x j h1 h2 hj => (b.2 x j h1 h2 hj).trans (a.2 x j h1 h2 hj)⟩
theorem bank_frm {T : List Nat} {I I' : II} (h : frm T I I') (hT : ∀ x ∈ T, ¬ (75 ≤ x ∧ x ≤ 79)) : bank I I' := ⟨fun j _ => h 75 (fun q => hT 75 q ⟨by decide, by decide⟩) j, fun x j h1 h2 _ => h x (fun q => hT x q ⟨by omega, h2⟩) j⟩
theorem aX4_add {I : II} {R : RR} {l : List LE} {e : LE} (hR : SR R) (h : XLg I R 18 l) (hl : l.length < 200) :
    Spec mX4_add [vR 18, vI e.1, vI e.2.1, vI e.2.2.1, vI e.2.2.2] I R 89 89 (fun _ I' R' => R = R' ∧ frm [18, 19, 20, 21, 22] I I' ∧ XLg I' R 18 (l ++ [e])) := by
  obtain ⟨h4, hle, hi⟩ := h
  have r0 := r_18_0 hR
  have r1 := r_18_1 hR
  have r2 := r_18_2 hR
  have r3 := r_18_3 hR
  rw [r0, r1, r2, r3] at hi
  refine sX4_add (by decide) (gX4_add_0 ?_)
  rw [r0, r1, r2, r3, h4]
  refine ⟨o_18, ⟨by omega, by omega⟩, fun q => absurd q (by omega), fun _ => ⟨a_19, ⟨by omega, by omega⟩, fun I5 q5 => ?_⟩⟩
  rw [Int.toNat_natCast] at q5
  have f5 : I5 18 4 = l.length := by rw [q5, up2_ne (by decide), h4]
  rw [f5]
  refine ⟨a_20, ⟨by omega, by omega⟩, fun I8 q8 => ?_⟩
  rw [Int.toNat_natCast] at q8
  have f8 : I8 18 4 = l.length := by rw [q8, up2_ne (by decide), f5]
  rw [f8]
  refine ⟨a_21, ⟨by omega, by omega⟩, fun I11 q11 => ?_⟩
  rw [Int.toNat_natCast] at q11
  have f11 : I11 18 4 = l.length := by rw [q11, up2_ne (by decide), f8]
  rw [f11]
  refine ⟨a_22, ⟨by omega, by omega⟩, fun I14 q14 I15 q15 => gX4_add_61 ⟨rfl, ?_, ?_⟩⟩
  · rw [q15, q14, q11, q8, q5]
    exact frm_trans (frm_up (by decide)) (frm_trans (frm_up (by decide)) (frm_trans (frm_up (by decide)) (frm_trans (frm_up (by decide)) (frm_up (by decide)))))
  · rw [Int.toNat_natCast] at q14
    have f14 : I14 18 4 = l.length := by rw [q14, up2_ne (by decide), f11]
    refine ⟨?_, by rw [List.length_append]; simp; omega, fun i x hx => ?_⟩
    · rw [q15, up2_self, f14, List.length_append]; simp
    · rw [r0, r1, r2, r3]
      have g19 : I15 19 i = if i = l.length then (e.1 : Int) else I 19 i := by rw [q15, up2_ne (by decide), q14, up2_ne (by decide), q11, up2_ne (by decide), q8, up2_ne (by decide), q5, up2_at]
      have g20 : I15 20 i = if i = l.length then e.2.1 else I 20 i := by rw [q15, up2_ne (by decide), q14, up2_ne (by decide), q11, up2_ne (by decide), q8, up2_at, q5, up2_ne (by decide)]
      have g21 : I15 21 i = if i = l.length then e.2.2.1 else I 21 i := by rw [q15, up2_ne (by decide), q14, up2_ne (by decide), q11, up2_at, q8, up2_ne (by decide), q5, up2_ne (by decide)]
      have g22 : I15 22 i = if i = l.length then e.2.2.2 else I 22 i := by rw [q15, up2_ne (by decide), q14, up2_at, q11, up2_ne (by decide), q8, up2_ne (by decide), q5, up2_ne (by decide)]
      rw [g19, g20, g21, g22]
      rcases app_at hx with ⟨hi1, hi2⟩ | ⟨hi1, hi2⟩
      · subst hi2
        rw [if_pos hi1, if_pos hi1, if_pos hi1, if_pos hi1]
        exact ⟨rfl, rfl, rfl, rfl⟩
      · rw [if_neg hi1, if_neg hi1, if_neg hi1, if_neg hi1]
        exact hi i x hi2
theorem aX11_note {I : II} {R : RR} {l : List LE} {e : LE} (hR : SR R) (hf : InI (I 68 29)) (h : I 68 29 ≠ 0 → MLg I 0 l ∧ l.length < 200 ∧ I 68 22 = e.2.2.2) :
    Spec mX11_note [vR 68, vI e.1, vI e.2.1, vI e.2.2.1] I R 89 89 (fun _ I' R' => R = R' ∧ frm [75, 76, 77, 78, 79] I I' ∧ (I 68 29 ≠ 0 → MLg I' 0 (l ++ [e])) ∧ (I 68 29 = 0 → I = I') ∧ bank I I') := by
  refine sX11_note (gX11_note_0 hR ⟨hf, fun hz => gX11_note_80 hR ⟨rfl, frm_rfl, fun q => absurd hz q, fun _ => rfl, bank_rfl⟩, fun hne => ?_⟩)
  obtain ⟨⟨h4, hle, hi⟩, hl, hla⟩ := h hne
  rw [h4]
  refine ⟨⟨by omega, by omega⟩, fun q => absurd q (by omega), fun _ => ⟨⟨by omega, by omega⟩, fun I5 q5 => ?_⟩⟩
  rw [Int.toNat_natCast] at q5
  have f5 : I5 75 0 = l.length := by rw [q5, up2_ne (by decide), h4]
  rw [f5]
  refine ⟨⟨by omega, by omega⟩, fun I8 q8 => ?_⟩
  rw [Int.toNat_natCast] at q8
  have f8 : I8 75 0 = l.length := by rw [q8, up2_ne (by decide), f5]
  rw [f8]
  refine ⟨⟨by omega, by omega⟩, fun I11 q11 => ?_⟩
  rw [Int.toNat_natCast] at q11
  have f11 : I11 75 0 = l.length := by rw [q11, up2_ne (by decide), f8]
  have f1122 : I11 68 22 = e.2.2.2 := by rw [q11, up2_ne (by decide), q8, up2_ne (by decide), q5, up2_ne (by decide), hla]
  rw [f11, f1122]
  refine ⟨⟨by omega, by omega⟩, fun I14 q14 I15 q15 => gX11_note_80 hR ⟨rfl, ?_, fun _ => ?_, fun q => absurd q hne, ⟨fun j hj => ?_, fun x j y1 y2 hj => ?_⟩⟩⟩
  · rw [q15, q14, q11, q8, q5]
    exact frm_trans (frm_up (by decide)) (frm_trans (frm_up (by decide)) (frm_trans (frm_up (by decide)) (frm_trans (frm_up (by decide)) (frm_up (by decide)))))
  · rw [Int.toNat_natCast] at q14
    have f14 : I14 75 0 = l.length := by rw [q14, up2_ne (by decide), f11]
    refine ⟨?_, by rw [List.length_append]; simp; omega, fun i x hx => ?_⟩
    · rw [q15, up2_self, f14, List.length_append]; simp
    · have hi' := hi i x
      rw [show 200 * 0 + i = i by omega] at hi' ⊢
      have g19 : I15 76 i = if i = l.length then (e.1 : Int) else I 76 i := by rw [q15, up2_ne (by decide), q14, up2_ne (by decide), q11, up2_ne (by decide), q8, up2_ne (by decide), q5, up2_at]
      have g20 : I15 77 i = if i = l.length then e.2.1 else I 77 i := by rw [q15, up2_ne (by decide), q14, up2_ne (by decide), q11, up2_ne (by decide), q8, up2_at, q5, up2_ne (by decide)]
      have g21 : I15 78 i = if i = l.length then e.2.2.1 else I 78 i := by rw [q15, up2_ne (by decide), q14, up2_ne (by decide), q11, up2_at, q8, up2_ne (by decide), q5, up2_ne (by decide)]
      have g22 : I15 79 i = if i = l.length then e.2.2.2 else I 79 i := by rw [q15, up2_ne (by decide), q14, up2_at, q11, up2_ne (by decide), q8, up2_ne (by decide), q5, up2_ne (by decide)]
      rw [g19, g20, g21, g22]
      rcases app_at hx with ⟨hi1, hi2⟩ | ⟨hi1, hi2⟩
      · subst hi2
        rw [if_pos hi1, if_pos hi1, if_pos hi1, if_pos hi1]
        exact ⟨rfl, rfl, rfl, rfl⟩
      · rw [if_neg hi1, if_neg hi1, if_neg hi1, if_neg hi1]
        exact hi' hi2
  · rw [q15, up2_nj hj, q14, up2_ne (by decide), q11, up2_ne (by decide), q8, up2_ne (by decide), q5, up2_ne (by decide)]
  · rw [Int.toNat_natCast] at q14
    rw [q15, up2_ne (by omega), q14, up2_nj (by omega), q11, up2_nj (by omega), q8, up2_nj (by omega), q5, up2_nj (by omega)]
/-- what a ROUND of SHOUTS touches -/
def shT (lg : Nat) : List Nat := if lg = 0 then [38, 39] else [18, 19, 20, 21, 22, 38, 39]
def XLo (I : II) (R : RR) (lg : Nat) (l : List LE) : Prop := lg = 0 ∨ (lg = 18 ∧ XLg I R 18 l)
theorem aX7_playShouts {I : II} {R : RR} {r lg : Nat} {ρ : RM} {z : Int} (hR : SR R) (hr : r = 6 ∨ r = 12) (h : XR I R r ρ) (hok : okRM ρ) (hz : 0 ≤ z ∧ z ≤ 9999) (hx : XS I z σ0) (hlg : lg = 0 ∨ lg = 18) :
    Spec mX7_playShouts [vR 38, vR r, vR lg] I R 89 89 (fun _ I' R' => R = R' ∧ frm (shT lg) I I' ∧ XS I' z (shS (shR ρ z (rP ρ 0).toNat)) ∧ XLo I' R lg (shG ρ z (rP ρ 0).toNat)) := by
  obtain ⟨o0, o1, o2, o3, o4, o5⟩ := roomO hR hr
  have hst := hok.2.2.1
  have htx := hok.2.2.2.1
  have hlid := hok.2.2.2.2.1
  have hn := hok.1
  have hn1 := n_pos hok
  have hT : ∀ x ∈ shT lg, ¬ (r ≤ x ∧ x ≤ r + 5) := by rcases hlg with rfl | rfl <;> rcases hr with rfl | rfl <;> decide
  have hS2 : ∀ i ∈ [38, 39], i ∈ shT lg := by rcases hlg with rfl | rfl <;> decide
  have loop : ∀ (d t : Nat) (J : II), t + d = (rP ρ 0).toNat → frm (shT lg) I J → XSH J z (shR ρ z t) → XLo J R lg (shG ρ z t) → wp (kN 89) mX7_playShouts (fun _ I' R' => R = R' ∧ frm (shT lg) I I' ∧ XS I' z (shS (shR ρ z (rP ρ 0).toNat)) ∧ XLo I' R lg (shG ρ z (rP ρ 0).toNat)) 23 [vR 38, vR r, vR lg, vI (t : Int), none, none] [] J R 89 := by
    intro d
    induction d with
    | zero =>
      intro t J ht hf hx hlo
      have hX := XR_frm hR hr h hf hT
      have e8 : J r 8 = rP ρ 0 := hX.2.2.2.1
      refine gX7_playShouts_23 hR ⟨o0, ⟨by omega, by omega⟩, ⟨by omega, by omega⟩, fun _ => ?_, fun q => absurd (by omega) q⟩
      rw [show t = (rP ρ 0).toNat by omega] at hx hlo
      exact ⟨rfl, hf, hx.1, hlo⟩
    | succ d ih =>
      intro t J ht hf hx hlo
      have hX := XR_frm hR hr h hf hT
      have e8 : J r 8 = rP ρ 0 := hX.2.2.2.1
      have e5 : J r 5 = rN ρ := hX.1
      have e9 : J r 9 = rP ρ 1 := hX.2.2.2.2.1
      have e10 : J r 10 = rP ρ 2 := hX.2.2.2.2.2.1
      have z3 : J 38 3 = z := hx.1.1
      have l4 : J 38 4 = la (shS (shR ρ z t)) := hx.1.2.1
      have ek : (t : Int) + 1 = ((t + 1 : Nat) : Int) := by omega
      have hts : 0 ≤ (t : Int) ∧ (t : Int) < rP ρ 0 := ⟨by omega, by omega⟩
      have okσ := shR_ok hok z t (by omega)
      obtain ⟨hp, hpe⟩ := shP_lt hok z t
      have hpp := hx.1.2.2.2.2.2.2.2 (shP ρ z t) (by omega)
      have okp := okσ.1.2.2.2.2.2.2 (shP ρ z t)
      have hpi : (if 0 < J r 5 then drw z t 0 % J r 5 else 0) = ((shP ρ z t : Nat) : Int) := by rw [e5, if_pos (by omega), hpe]
      have d0 := drw_bd z t 0
      have d1 := drw_bd z t 1
      have es0 := (XRf hX hp).1
      have h01 := (hok.2.1 (shP ρ z t)).1
      have hll := shG_len (ρ := ρ) (z := z) t
      have la4 : lastOk (J 38 4) := by rw [l4]; exact okσ.1.1
      have tl := aX7_tells (t := t) (d := drw z t 1) hR hr hX hok hp hts la4 ⟨by omega, by omega⟩
      rw [l4] at tl
      have bv' := ownTell_bd hok (p := shP ρ z t) (last := la (shS (shR ρ z t))) (d := drw z t 1) hts
      have sF : shR ρ z (t + 1) = shF ρ z t (shR ρ z t) := rfl
      have sG : shG ρ z (t + 1) = if shIs ρ z t (shR ρ z t) then shG ρ z t ++ [(shP ρ z t, shV ρ z t (shR ρ z t), (t : Int), la (shS (shR ρ z t)))] else shG ρ z t := rfl
      have next : ∀ J', frm (shT lg) I J' → XSH J' z (shR ρ z (t + 1)) → XLo J' R lg (shG ρ z (t + 1)) → wp (kN 89) mX7_playShouts (fun _ I' R' => R = R' ∧ frm (shT lg) I I' ∧ XS I' z (shS (shR ρ z (rP ρ 0).toNat)) ∧ XLo I' R lg (shG ρ z (rP ρ 0).toNat)) 141 [vR 38, vR r, vR lg, vI (t : Int), none, none] [] J' R 89 := fun J' a b c => by
        refine gX7_playShouts_141 hR ?_
        rw [ek]
        exact ih (t + 1) J' (by omega) a b c
      have skip : ¬ shIs ρ z t (shR ρ z t) → wp (kN 89) mX7_playShouts (fun _ I' R' => R = R' ∧ frm (shT lg) I I' ∧ XS I' z (shS (shR ρ z (rP ρ 0).toNat)) ∧ XLo I' R lg (shG ρ z (rP ρ 0).toNat)) 141 [vR 38, vR r, vR lg, vI (t : Int), none, none] [] J R 89 := fun hc =>
        next J hf (by rw [sF]; unfold shF; rw [if_neg hc]; exact hx) (by rw [sG, if_neg hc]; exact hlo)
      have heard : ∀ J', shIs ρ z t (shR ρ z t) → frm (shT lg) I J' → XR J' R r ρ → XSH J' z (shR ρ z t) → XLo J' R lg (shG ρ z (t + 1)) → wp (kN 89) mX7_playShouts (fun _ I' R' => R = R' ∧ frm (shT lg) I I' ∧ XS I' z (shS (shR ρ z (rP ρ 0).toNat)) ∧ XLo I' R lg (shG ρ z (rP ρ 0).toNat)) 108 [vR 38, vR r, vR lg, vI (t : Int), vI (shP ρ z t), vI (shV ρ z t (shR ρ z t))] [] J' R 89 := fun J' hc a b c g => by
        have lo' : ∀ J2, frm [38, 39] J' J2 → XLo J2 R lg (shG ρ z (t + 1)) := fun J2 f2 => by
          rcases g with q | ⟨q1, q2⟩
          · exact Or.inl q
          · refine Or.inr ⟨q1, XLg_frm q2 f2 ?_⟩
            rw [r_18_0 hR, r_18_1 hR, r_18_2 hR, r_18_3 hR]
            decide
        refine gX7_playShouts_108 hR ⟨o0, o1, ⟨by omega, by omega⟩, ?_⟩
        rw [Int.toNat_natCast, (XRf b hp).1]
        refine ⟨by rcases h01 with q | q <;> rw [q] <;> exact ⟨by decide, by decide⟩, fun hz0 => ⟨_, aX7_hearBid hR hr b hok hp c okσ (by omega) bv', fun I5 R5 hq => ?_⟩, fun hz0 => ⟨_, aX7_hearOffer hR hr b hok hp c okσ (by omega) bv', fun I5 R5 hq => ?_⟩⟩
        · obtain ⟨rfl, f5, x5⟩ := hq
          refine ⟨rfl, next I5 (frm_trans a (frm_sub f5 hS2)) ?_ (lo' I5 f5)⟩
          rw [sF]; unfold shF; rw [if_pos hc, if_pos hz0]
          exact x5
        · obtain ⟨rfl, f5, x5⟩ := hq
          refine ⟨rfl, next I5 (frm_trans a (frm_sub f5 hS2)) ?_ (lo' I5 f5)⟩
          rw [sF]; unfold shF; rw [if_pos hc, if_neg hz0]
          exact x5
      unfold lastOk at okp
      refine gX7_playShouts_23 hR ⟨o0, ⟨by omega, by omega⟩, ⟨by omega, by omega⟩, fun q => absurd q (by omega), fun _ => ?_⟩
      rw [z3, hpi, Int.toNat_natCast, hpp, e5]
      refine ⟨⟨hz.1, hz.2, by omega, by omega, by decide, by decide⟩, ⟨by omega, by omega⟩, ⟨by omega, by omega⟩, ⟨by omega, by omega⟩, ⟨by omega, by omega⟩, fun hpb4 => ⟨⟨hz.1, hz.2, by omega, by omega, by decide, by decide⟩, _, tl, fun x13 I13 R13 hq => ?_⟩, fun hne => skip (fun q => hne q.1)⟩
      obtain ⟨rfl, rfl, e⟩ := hq
      have ex : x13 = shV ρ z t (shR ρ z t) := by cases e; rfl
      subst ex
      have bv2 : 0 ≤ shV ρ z t (shR ρ z t) ∧ shV ρ z t (shR ρ z t) ≤ 99 := bv'
      rw [es0, e9, e10, l4]
      refine ⟨rfl, o1, h01, ⟨by omega, by omega⟩, ⟨by omega, by omega⟩, fun hc => ?_, fun hc => skip (fun q => hc q.2)⟩
      have his : shIs ρ z t (shR ρ z t) := ⟨hpb4, hc⟩
      refine ⟨fun hl0 => heard J his hf hX hx (Or.inl hl0), fun hlp => ?_⟩
      rcases hlo with q | ⟨q1, q2⟩
      · omega
      subst q1
      refine ⟨o_18, _, aX4_add (e := (shP ρ z t, shV ρ z t (shR ρ z t), (t : Int), la (shS (shR ρ z t)))) hR q2 (by omega), fun I19 R19 hq => ?_⟩
      obtain ⟨rfl, f19, x19⟩ := hq
      obtain ⟨w0, w10, w11, w12, w13⟩ := hx
      have g38 := f19 38 (by decide)
      exact ⟨rfl, heard I19 his (frm_trans hf (frm_sub f19 (by decide))) (XR_frm hR hr hX f19 (by rcases hr with rfl | rfl <;> decide)) ⟨XS_frm w0 f19 ⟨by decide, by decide⟩, (g38 _).trans w10, (g38 _).trans w11, fun q => (g38 _).trans (w12 q), fun q => (g38 _).trans (w13 q)⟩ (Or.inr ⟨rfl, by rw [sG, if_pos his]; exact x19⟩)⟩
  have start : ∀ J, frm (shT lg) I J → XS J z σ0 → XLo J R lg [] → wp (kN 89) mX7_playShouts (fun _ I' R' => R = R' ∧ frm (shT lg) I I' ∧ XS I' z (shS (shR ρ z (rP ρ 0).toNat)) ∧ XLo I' R lg (shG ρ z (rP ρ 0).toNat)) 9 [vR 38, vR r, vR lg, none, none, none] [] J R 89 := fun J hf hx hlo => by
    refine gX7_playShouts_9 hR (fun I1 q1 I2 q2 => ?_)
    have f2 : frm [38, 39] J I2 := by rw [q2, q1]; exact frm_trans (frm_up (by decide)) (frm_up (by decide))
    refine loop (rP ρ 0).toNat 0 I2 (by omega) (frm_trans hf (frm_sub f2 hS2)) ⟨XS_38 hx (fun j hj => by rw [q2, up2_nj (by omega), q1, up2_nj (by omega)]) (fun j => by rw [q2, up2_ne (by decide), q1, up2_ne (by decide)]), ?_, ?_, fun q => absurd rfl q, fun q => absurd rfl q⟩ ?_
    · rw [q2, up2_nj (by decide), q1, up2_self]; rfl
    · rw [q2, up2_self]; rfl
    · rcases hlo with q | ⟨w1, w2⟩
      · exact Or.inl q
      · refine Or.inr ⟨w1, XLg_frm w2 f2 ?_⟩
        rw [r_18_0 hR, r_18_1 hR, r_18_2 hR, r_18_3 hR]
        decide
  refine sX7_playShouts (gX7_playShouts_0 hR ⟨fun h0 => start I frm_rfl hx (Or.inl h0), fun hp => ?_⟩)
  rcases hlg with rfl | rfl
  · omega
  · refine ⟨o_18, fun I2 q2 => start I2 (by rw [q2]; exact frm_up (by decide)) (XS_frm (T := [18]) hx (by rw [q2]; exact frm_up (by decide)) ⟨by decide, by decide⟩) (Or.inr ⟨rfl, ?_, by decide, fun i e he => by simp at he⟩)⟩
    rw [q2, up2_self]; rfl
