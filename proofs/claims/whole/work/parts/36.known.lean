/-! shout, known and least, of both -/
def seeF (ρ : RM) (p : Nat) (v : Int) (e : LE) : Int := if e.1 = p then (if rS ρ p = 0 then max v e.2.1 else min v e.2.1) else v
def seenN (ρ : RM) (p : Nat) (l : List LE) : Int := l.foldl (seeF ρ p) (if rS ρ p = 0 then 0 else 99)
theorem seen_take {ρ : RM} {p i : Nat} {l : List LE} {e : LE} (h : l[i]? = some e) : seenN ρ p (l.take (i + 1)) = seeF ρ p (seenN ρ p (l.take i)) e := by
  unfold seenN
  rw [List.take_add_one, h, List.foldl_append]
  rfl
theorem seen_fold {ρ : RM} {p : Nat} : ∀ (l : List LE) (v : Int), (∀ e ∈ l, okE ρ e) → (0 ≤ v ∧ v ≤ 99) → 0 ≤ l.foldl (seeF ρ p) v ∧ l.foldl (seeF ρ p) v ≤ 99
  | [], v, _, hv => hv
  | e :: l, v, h, hv => by
    have he := h e (List.mem_cons_self ..)
    have hb := he.2.1
    refine seen_fold l _ (fun x hx => h x (List.mem_cons_of_mem _ hx)) ?_
    unfold seeF
    split
    · split <;> omega
    · exact hv
theorem seen_bd {ρ : RM} {p : Nat} {l : List LE} (h : ∀ e ∈ l, okE ρ e) : 0 ≤ seenN ρ p l ∧ seenN ρ p l ≤ 99 := by
  refine seen_fold l _ h ?_
  split <;> omega
theorem seen_bdt {ρ : RM} {p i : Nat} {l : List LE} (h : ∀ e ∈ l, okE ρ e) : 0 ≤ seenN ρ p (l.take i) ∧ seenN ρ p (l.take i) ≤ 99 := seen_bd (fun e he => h e (List.mem_of_mem_take he))
theorem aX4_seenOf {I : II} {R : RR} {r p : Nat} {ρ : RM} {l : List LE} (hR : SR R) (hr : r = 6 ∨ r = 12) (h : XR I R r ρ) (hok : okRM ρ) (hp : p < rN ρ) (hl : XLg I R 18 l) (ho : ∀ e ∈ l, okE ρ e) :
    Spec mX4_seenOf [vR 18, vR r, vI p] I R 89 89 (fun rv I' R' => R = R' ∧ I = I' ∧ rv = vI (seenN ρ p l)) := by
  obtain ⟨o0, o1, o2, o3, o4, o5⟩ := roomO hR hr
  obtain ⟨e0, e1, e2, e3, e4, e5, e6, e7⟩ := XRf h hp
  have hn := hok.1
  have h01 := (hok.2.1 p).1
  have hi : InI (rS ρ p) := by rcases h01 with q | q <;> rw [q] <;> exact ⟨by decide, by decide⟩
  obtain ⟨l4, l200, lx⟩ := hl
  have r0 := r_18_0 hR
  have r1 := r_18_1 hR
  rw [r0, r1] at lx
  have loop : ∀ (d i : Nat), i + d = l.length → wp (kN 89) mX4_seenOf (fun rv I' R' => R = R' ∧ I = I' ∧ rv = vI (seenN ρ p l)) 22 [vR 18, none, vI p, vI (rS ρ p), vI (seenN ρ p (l.take i)), vI (i : Int)] [] I R 89 := by
    intro d
    induction d with
    | zero =>
      intro i hi
      refine gX4_seenOf_22 ?_
      rw [l4]
      refine ⟨o_18, ⟨by omega, by omega⟩, ⟨by omega, by omega⟩, fun _ => ⟨rfl, rfl, ?_⟩, fun q => absurd (by omega) q⟩
      rw [List.take_of_length_le (by omega)]
    | succ d ih =>
      intro i hil
      obtain ⟨e, he⟩ : ∃ e, l[i]? = some e := ⟨_, List.getElem?_eq_getElem (by omega)⟩
      obtain ⟨x1, x2, x3, x4⟩ := lx i e he
      have oke := ho e (List.mem_of_getElem? he)
      have bd := seen_bdt (p := p) (i := i) ho
      have st := seen_take (ρ := ρ) (p := p) he
      have ek : (i : Int) + 1 = ((i + 1 : Nat) : Int) := by omega
      have b1 := oke.1
      have b2 := oke.2.1
      have nx := ih (i + 1) (by omega)
      rw [st] at nx
      unfold seeF at nx
      have w75 : ∀ v, v = (if e.1 = p then (if rS ρ p = 0 then max (seenN ρ p (l.take i)) e.2.1 else min (seenN ρ p (l.take i)) e.2.1) else seenN ρ p (l.take i)) → wp (kN 89) mX4_seenOf (fun rv I' R' => R = R' ∧ I = I' ∧ rv = vI (seenN ρ p l)) 75 [vR 18, none, vI p, vI (rS ρ p), vI v, vI (i : Int)] [] I R 89 := fun v hv => by
        refine gX4_seenOf_75 ?_
        rw [ek, hv]
        exact nx
      refine gX4_seenOf_22 ?_
      rw [l4, r0, r1, Int.toNat_natCast, x1, x2]
      refine ⟨o_18, ⟨by omega, by omega⟩, ⟨by omega, by omega⟩, fun q => absurd q (by omega), fun _ => ⟨a_19, ⟨by omega, by omega⟩, ⟨by omega, by omega⟩, ⟨by omega, by omega⟩, fun hne => w75 _ (by rw [if_neg (by omega)]), fun heq => ⟨hi, fun hz => ⟨a_20, ⟨by omega, by omega⟩, ⟨by omega, by omega⟩, w75 _ (by rw [if_pos (by omega), if_pos hz])⟩, fun hz => ⟨a_20, ⟨by omega, by omega⟩, ⟨by omega, by omega⟩, w75 _ (by rw [if_pos (by omega), if_neg hz])⟩⟩⟩⟩
  have l0 := loop l.length 0 (by omega)
  rw [List.take_zero] at l0
  refine sX4_seenOf (by decide) (gX4_seenOf_0 ?_)
  rw [Int.toNat_natCast, e0]
  refine ⟨o0, o1, ⟨by omega, by omega⟩, hi, fun hz => ?_, fun hz => ?_⟩
  · rw [show seenN ρ p [] = 0 by unfold seenN; rw [if_pos hz]; rfl] at l0; exact l0
  · rw [show seenN ρ p [] = 99 by unfold seenN; rw [if_neg hz]; rfl] at l0; exact l0
theorem aX11_knownOf {I : II} {R : RR} {p : Nat} {ρ : RM} {l : List LE} (hR : SR R) (h : MRo I ρ) (hok : okRM ρ) (hp : p < rN ρ) (hl : MLg I 0 l) (ho : ∀ e ∈ l, okE ρ e) :
    Spec mX11_knownOf [vR 68, vI p] I R 89 89 (fun rv I' R' => R = R' ∧ I = I' ∧ rv = vI (seenN ρ p l)) := by
  have e0 := (h.2.1 p hp).1
  have hn := hok.1
  have h01 := (hok.2.1 p).1
  have hi : InI (rS ρ p) := by rcases h01 with q | q <;> rw [q] <;> exact ⟨by decide, by decide⟩
  obtain ⟨l4, l200, lx⟩ := hl
  have loop : ∀ (d i : Nat), i + d = l.length → wp (kN 89) mX11_knownOf (fun rv I' R' => R = R' ∧ I = I' ∧ rv = vI (seenN ρ p l)) 18 [vR 68, vI p, vI (seenN ρ p (l.take i)), vI (i : Int), none] [] I R 89 := by
    intro d
    induction d with
    | zero =>
      intro i hi
      refine gX11_knownOf_18 hR ?_
      rw [l4]
      refine ⟨⟨by omega, by omega⟩, ⟨by omega, by omega⟩, fun _ => ⟨rfl, rfl, ?_⟩, fun q => absurd (by omega) q⟩
      rw [List.take_of_length_le (by omega)]
    | succ d ih =>
      intro i hil
      obtain ⟨e, he⟩ : ∃ e, l[i]? = some e := ⟨_, List.getElem?_eq_getElem (by omega)⟩
      obtain ⟨x1, x2, x3, x4⟩ := lx i e he
      rw [show 200 * 0 + i = i by omega] at x1 x2
      have oke := ho e (List.mem_of_getElem? he)
      have bd := seen_bdt (p := p) (i := i) ho
      have st := seen_take (ρ := ρ) (p := p) he
      have ek : (i : Int) + 1 = ((i + 1 : Nat) : Int) := by omega
      have b1 := oke.1
      have b2 := oke.2.1
      have nx := ih (i + 1) (by omega)
      rw [st] at nx
      unfold seeF at nx
      have w96 : seenN ρ p (l.take i) = (if e.1 = p then (if rS ρ p = 0 then max (seenN ρ p (l.take i)) e.2.1 else min (seenN ρ p (l.take i)) e.2.1) else seenN ρ p (l.take i)) → wp (kN 89) mX11_knownOf (fun rv I' R' => R = R' ∧ I = I' ∧ rv = vI (seenN ρ p l)) 96 [vR 68, vI p, vI (seenN ρ p (l.take i)), vI (i : Int), none] [] I R 89 := fun hv => by
        refine gX11_knownOf_96 hR ?_
        rw [ek]
        rw [← hv] at nx
        exact nx
      have w18 : e.2.1 = (if e.1 = p then (if rS ρ p = 0 then max (seenN ρ p (l.take i)) e.2.1 else min (seenN ρ p (l.take i)) e.2.1) else seenN ρ p (l.take i)) → wp (kN 89) mX11_knownOf (fun rv I' R' => R = R' ∧ I = I' ∧ rv = vI (seenN ρ p l)) 18 [vR 68, vI p, vI e.2.1, vI ((i : Int) + 1), none] [] I R 89 := fun hv => by
        rw [ek]
        rw [← hv] at nx
        exact nx
      refine gX11_knownOf_18 hR ?_
      rw [l4, Int.toNat_natCast, Int.toNat_natCast, e0, x1, x2]
      refine ⟨⟨by omega, by omega⟩, ⟨by omega, by omega⟩, fun q => absurd q (by omega), fun _ => ⟨⟨by omega, by omega⟩, hi, fun hz => ⟨⟨by omega, by omega⟩, ⟨by omega, by omega⟩, ⟨by omega, by omega⟩, fun hle => ⟨⟨by omega, by omega⟩, ⟨by omega, by omega⟩, fun hne => w96 (by rw [if_neg (by omega)]), fun heq => w96 (by rw [if_pos (by omega), if_neg hz]; omega)⟩, fun hle => ⟨⟨by omega, by omega⟩, ⟨by omega, by omega⟩, fun hne => w96 (by rw [if_neg (by omega)]), fun heq => w18 (by rw [if_pos (by omega), if_neg hz]; omega)⟩⟩, fun hz => ⟨⟨by omega, by omega⟩, ⟨by omega, by omega⟩, ⟨by omega, by omega⟩, fun hle => ⟨⟨by omega, by omega⟩, ⟨by omega, by omega⟩, fun hne => w96 (by rw [if_neg (by omega)]), fun heq => w96 (by rw [if_pos (by omega), if_pos hz]; omega)⟩, fun hle => ⟨⟨by omega, by omega⟩, ⟨by omega, by omega⟩, fun hne => w96 (by rw [if_neg (by omega)]), fun heq => w18 (by rw [if_pos (by omega), if_pos hz]; omega)⟩⟩⟩⟩
  have l0 := loop l.length 0 (by omega)
  rw [List.take_zero] at l0
  refine sX11_knownOf (gX11_knownOf_0 hR ?_)
  rw [Int.toNat_natCast, e0]
  refine ⟨⟨by omega, by omega⟩, hi, fun hz => ?_, fun hz => ?_⟩
  · rw [show seenN ρ p [] = 99 by unfold seenN; rw [if_neg hz]; rfl] at l0; exact l0
  · rw [show seenN ρ p [] = 0 by unfold seenN; rw [if_pos hz]; rfl] at l0; exact l0
def knownP (ρ : RM) (l : List LE) (p : Int) : Int := if 0 ≤ p ∧ p < rN ρ then seenN ρ p.toNat l else -1
theorem aX10_known {I : II} {R : RR} {ρ : RM} {p : Int} {l : List LE} (hR : SR R) (hr : R 1 2 = 6 ∨ R 1 2 = 12) (h : XR I R (R 1 2) ρ) (hok : okRM ρ) (hl : XLg I R 18 l) (ho : ∀ e ∈ l, okE ρ e) (h1 : InI p) :
    Spec mX10_known [vR 1, vI p] I R 89 89 (fun rv I' R' => R = R' ∧ I = I' ∧ rv = vI (knownP ρ l p)) := by
  have hn := hok.1
  refine sX10_known (gX10_known_0 hR ?_)
  rw [h.1]
  refine ⟨(roomO hR hr).1, h1, ⟨by omega, by omega⟩, fun hc => ?_, fun hc => ⟨rfl, rfl, ?_⟩⟩
  · obtain ⟨k, rfl⟩ := nat_of hc.1
    refine ⟨_, aX4_seenOf hR hr h hok (by omega) hl ho, fun x5 I5 R5 hq => ?_⟩
    obtain ⟨rfl, rfl, e⟩ := hq
    refine ⟨rfl, rfl, rfl, e.trans ?_⟩
    unfold knownP; rw [if_pos hc, Int.toNat_natCast]
  · unfold knownP; rw [if_neg hc]
theorem aX11_known {I : II} {R : RR} {ρ : RM} {p : Int} {l : List LE} (hR : SR R) (h : MRo I ρ) (hok : okRM ρ) (hl : MLg I 0 l) (ho : ∀ e ∈ l, okE ρ e) (h1 : InI p) :
    Spec mX11_known [vR 68, vI p] I R 89 89 (fun rv I' R' => R = R' ∧ I = I' ∧ rv = vI (knownP ρ l p)) := by
  have hn := hok.1
  refine sX11_known (gX11_known_0 hR ?_)
  rw [h.1]
  refine ⟨h1, ⟨by omega, by omega⟩, fun hc => ?_, fun hc => ⟨rfl, rfl, ?_⟩⟩
  · obtain ⟨k, rfl⟩ := nat_of hc.1
    refine ⟨_, aX11_knownOf hR h hok (by omega) hl ho, fun x5 I5 R5 hq => ?_⟩
    obtain ⟨rfl, rfl, e⟩ := hq
    refine ⟨rfl, rfl, rfl, e.trans ?_⟩
    unfold knownP; rw [if_pos (by omega), Int.toNat_natCast]
  · unfold knownP; rw [if_neg (by omega)]
def entryV (e : LE) (w : Int) : Int := if w = 0 then (e.1 : Int) else if w = 1 then e.2.1 else if w = 2 then e.2.2.1 else e.2.2.2
def shoutP (l : List LE) (i w : Int) : Int := if (0 ≤ i ∧ i < l.length) ∧ 0 ≤ w ∧ w ≤ 3 then entryV (l.getD i.toNat (0, 0, 0, 0)) w else -1
theorem lAt {l : List LE} {i : Nat} (h : i < l.length) : l[i]? = some (l.getD i (0, 0, 0, 0)) := by
  rw [List.getD_eq_getElem?_getD, List.getElem?_eq_getElem h]; rfl
theorem aX10_shout {I : II} {R : RR} {i w : Int} {l : List LE} (hR : SR R) (hl : XLg I R 18 l) (h1 : InI i) (h2 : InI w) :
    Spec mX10_shout [vR 1, vI i, vI w] I R 89 89 (fun rv I' R' => R = R' ∧ I = I' ∧ rv = vI (shoutP l i w)) := by
  obtain ⟨l4, l200, lx⟩ := hl
  rw [r_18_0 hR, r_18_1 hR, r_18_2 hR, r_18_3 hR] at lx
  have no : ¬ ((0 ≤ i ∧ i < l.length) ∧ 0 ≤ w ∧ w ≤ 3) → wp (kN 89) mX10_shout (fun rv I' R' => R = R' ∧ I = I' ∧ rv = vI (shoutP l i w)) 26 [none, none, none] [] I R 89 := fun hn => gX10_shout_26 hR ⟨rfl, rfl, by unfold shoutP; rw [if_neg hn]⟩
  refine sX10_shout (gX10_shout_0 hR ?_)
  rw [l4]
  refine ⟨h1, ⟨by omega, by omega⟩, fun hc => ⟨h2, fun hd => ?_, fun q => no (fun x => q x.2)⟩, fun q => no (fun x => q (by omega))⟩
  have hy : (0 ≤ i ∧ i < l.length) ∧ 0 ≤ w ∧ w ≤ 3 := ⟨by omega, hd⟩
  obtain ⟨x1, x2, x3, x4⟩ := lx i.toNat _ (lAt (by omega))
  have e : shoutP l i w = entryV (l.getD i.toNat (0, 0, 0, 0)) w := by unfold shoutP; rw [if_pos hy]
  rw [e]
  unfold entryV
  refine ⟨fun a0 => ⟨fun a1 => ⟨fun a2 => ⟨⟨by omega, by omega⟩, rfl, rfl, ?_⟩, fun a2 => ⟨⟨by omega, by omega⟩, rfl, rfl, ?_⟩⟩, fun a1 => ⟨⟨by omega, by omega⟩, rfl, rfl, ?_⟩⟩, fun a0 => ⟨⟨by omega, by omega⟩, rfl, rfl, ?_⟩⟩
  · rw [if_neg a0, if_neg a1, if_neg a2, x4]
  · rw [if_neg a0, if_neg a1, if_pos a2, x3]
  · rw [if_neg a0, if_pos a1, x2]
  · rw [if_pos a0, x1]
theorem aX11_shout {I : II} {R : RR} {i w : Int} {l : List LE} (hR : SR R) (hl : MLg I 0 l) (h1 : InI i) (h2 : InI w) :
    Spec mX11_shout [vR 68, vI i, vI w] I R 89 89 (fun rv I' R' => R = R' ∧ I = I' ∧ rv = vI (shoutP l i w)) := by
  obtain ⟨l4, l200, lx⟩ := hl
  have no : ¬ ((0 ≤ i ∧ i < l.length) ∧ 0 ≤ w ∧ w ≤ 3) → wp (kN 89) mX11_shout (fun rv I' R' => R = R' ∧ I = I' ∧ rv = vI (shoutP l i w)) 30 [none, none, none] [] I R 89 := fun hn => gX11_shout_30 hR ⟨rfl, rfl, by unfold shoutP; rw [if_neg hn]⟩
  refine sX11_shout (gX11_shout_0 hR ?_)
  rw [l4]
  refine ⟨h1, ⟨by omega, by omega⟩, fun hc => ⟨h2, fun hd => ?_, fun q => no (fun x => q x.2)⟩, fun q => no (fun x => q (by omega))⟩
  have hy : (0 ≤ i ∧ i < l.length) ∧ 0 ≤ w ∧ w ≤ 3 := ⟨by omega, hd⟩
  obtain ⟨x1, x2, x3, x4⟩ := lx i.toNat _ (lAt (by omega))
  rw [show 200 * 0 + i.toNat = i.toNat by omega] at x1 x2 x3 x4
  have e : shoutP l i w = entryV (l.getD i.toNat (0, 0, 0, 0)) w := by unfold shoutP; rw [if_pos hy]
  rw [e]
  unfold entryV
  refine ⟨fun a0 => ⟨fun a1 => ⟨fun a2 => ⟨⟨by omega, by omega⟩, rfl, rfl, ?_⟩, fun a2 => ⟨⟨by omega, by omega⟩, rfl, rfl, ?_⟩⟩, fun a1 => ⟨⟨by omega, by omega⟩, rfl, rfl, ?_⟩⟩, fun a0 => ⟨⟨by omega, by omega⟩, rfl, rfl, ?_⟩⟩
  · rw [if_neg a0, if_neg a1, if_neg a2, x4]
  · rw [if_neg a0, if_neg a1, if_pos a2, x3]
  · rw [if_neg a0, if_pos a1, x2]
  · rw [if_pos a0, x1]
