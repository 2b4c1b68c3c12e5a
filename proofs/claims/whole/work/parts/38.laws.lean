/-! laws: a price may be by a LAW -/
theorem by_step (s c st nr hv law t last r : Int) : byI s c st nr hv law t last r ≤ byI s c st nr hv law t last (r + 1) ∧ byI s c st nr hv law t last (r + 1) ≤ byI s c st nr hv law t last r + 1 := by
  have hb : blindI s c (r + 1) = blindI s c r + 1 := by unfold blindI; split <;> omega
  have hn : nearI s c nr last r ≤ nearI s c nr last (r + 1) ∧ nearI s c nr last (r + 1) ≤ nearI s c nr last r + 1 := by unfold nearI; split <;> omega
  unfold byI
  rw [hb]
  split
  · omega
  · split
    · split <;> omega
    · split
      · split <;> omega
      · split
        · split <;> omega
        · split <;> omega
theorem lid_step {ρ : RM} {p : Nat} {law t last r : Int} : lidSp ρ p (bySp ρ p law t last r) ≤ lidSp ρ p (bySp ρ p law t last (r + 1)) ∧ lidSp ρ p (bySp ρ p law t last (r + 1)) ≤ lidSp ρ p (bySp ρ p law t last r) + 1 := by
  have h := by_step (rS ρ p) (rC ρ p) (rP ρ 0) (rP ρ 3) (rP ρ 4) law t last r
  unfold bySp lidSp
  split <;> omega
/-- no steps but by one: all between is met -/
theorem between {f : Int → Int} (hs : ∀ r, f r ≤ f (r + 1) ∧ f (r + 1) ≤ f r + 1) : ∀ (n : Nat), f 0 ≤ f n ∧ ∀ v, f 0 ≤ v → v ≤ f n → ∃ r : Nat, r ≤ n ∧ f r = v
  | 0 => ⟨Int.le_refl _, fun v h0 h1 => ⟨0, Nat.le_refl _, Int.le_antisymm h0 h1⟩⟩
  | n + 1 => by
    obtain ⟨a, b⟩ := between hs n
    have c := hs n
    have ek : ((n + 1 : Nat) : Int) = (n : Int) + 1 := by omega
    rw [ek]
    refine ⟨Int.le_trans a c.1, fun v h0 h1 => ?_⟩
    by_cases hv : v ≤ f n
    · obtain ⟨r, hr, e⟩ := b v h0 hv
      exact ⟨r, by omega, e⟩
    · exact ⟨n + 1, Nat.le_refl _, by rw [ek]; omega⟩
theorem mono_of {f : Int → Int} (hs : ∀ r, f r ≤ f (r + 1) ∧ f (r + 1) ≤ f r + 1) (a : Int) : ∀ (n : Nat), f a ≤ f (a + n)
  | 0 => by rw [show a + ((0 : Nat) : Int) = a by omega]; exact Int.le_refl _
  | n + 1 => by
    have := mono_of hs a n
    have c := hs (a + n)
    rw [show a + ((n + 1 : Nat) : Int) = a + n + 1 by omega]
    omega
/-- the class's way, the reference's way -/
abbrev mayX (ρ : RM) (law : Int) (e : LE) : Prop := lidSp ρ e.1 (bySp ρ e.1 law e.2.2.1 e.2.2.2 0) ≤ e.2.1 ∧ e.2.1 ≤ lidSp ρ e.1 (bySp ρ e.1 law e.2.2.1 e.2.2.2 (spanSp ρ e.1 law e.2.2.2 - 1))
def mayM (ρ : RM) (law : Int) (e : LE) : Prop := ∃ d : Nat, d < 101 ∧ shoutSp ρ e.1 law e.2.2.1 e.2.2.2 d = e.2.1
theorem may_iff {ρ : RM} {law : Int} {e : LE} (hok : okRM ρ) (he : okE ρ e) : mayX ρ law e ↔ mayM ρ law e := by
  obtain ⟨h1, h2, h3, h4, h5⟩ := he
  have hs : ∀ r, lidSp ρ e.1 (bySp ρ e.1 law e.2.2.1 e.2.2.2 r) ≤ lidSp ρ e.1 (bySp ρ e.1 law e.2.2.1 e.2.2.2 (r + 1)) ∧ lidSp ρ e.1 (bySp ρ e.1 law e.2.2.1 e.2.2.2 (r + 1)) ≤ lidSp ρ e.1 (bySp ρ e.1 law e.2.2.1 e.2.2.2 r) + 1 := fun r => lid_step
  have sp := spanSp_bd hok e.1 law e.2.2.2
  constructor
  · intro hx
    have hb := (between (f := fun r => lidSp ρ e.1 (bySp ρ e.1 law e.2.2.1 e.2.2.2 r)) hs (spanSp ρ e.1 law e.2.2.2 - 1).toNat).2 e.2.1 hx.1 (by
      show e.2.1 ≤ lidSp ρ e.1 (bySp ρ e.1 law e.2.2.1 e.2.2.2 (((spanSp ρ e.1 law e.2.2.2 - 1).toNat : Nat) : Int))
      rw [Int.toNat_of_nonneg (by omega)]; exact hx.2)
    obtain ⟨r, hr, er⟩ := hb
    have er' : lidSp ρ e.1 (bySp ρ e.1 law e.2.2.1 e.2.2.2 (r : Int)) = e.2.1 := er
    have et : tellSp ρ e.1 law e.2.2.1 e.2.2.2 (r : Int) = e.2.1 := by
      unfold tellSp
      rw [Int.emod_eq_of_lt (by omega) (by omega)]
      exact er'
    refine ⟨r, by omega, ?_⟩
    unfold shoutSp
    rw [et, if_pos h5]
  · rintro ⟨d, hd, ed⟩
    have hr := rest_bd hok e.1 law e.2.2.2 (d : Int)
    unfold shoutSp at ed
    by_cases hh : hearSp ρ e.1 (tellSp ρ e.1 law e.2.2.1 e.2.2.2 (d : Int))
    · rw [if_pos hh] at ed
      unfold tellSp at ed
      generalize (d : Int) % spanSp ρ e.1 law e.2.2.2 = r at *
      have m1 := mono_of (f := fun r => lidSp ρ e.1 (bySp ρ e.1 law e.2.2.1 e.2.2.2 r)) hs 0 r.toNat
      have m2 := mono_of (f := fun r => lidSp ρ e.1 (bySp ρ e.1 law e.2.2.1 e.2.2.2 r)) hs r (spanSp ρ e.1 law e.2.2.2 - 1 - r).toNat
      have e1 : (0 : Int) + ((r.toNat : Nat) : Int) = r := by omega
      have e2 : r + (((spanSp ρ e.1 law e.2.2.2 - 1 - r).toNat : Nat) : Int) = spanSp ρ e.1 law e.2.2.2 - 1 := by omega
      rw [e1] at m1
      rw [e2] at m2
      exact ⟨Int.le_trans m1 (Int.le_of_eq ed), Int.le_trans (Int.le_of_eq ed.symm) m2⟩
    · rw [if_neg hh] at ed
      omega
def mayAll (ρ : RM) (p : Nat) (law : Int) (l : List LE) : Bool := l.all (fun e => decide (e.1 = p → mayX ρ law e))
theorem mayAll_yes {ρ : RM} {p : Nat} {law : Int} {l : List LE} (h : ∀ (j : Nat) (e : LE), j < l.length → l[j]? = some e → e.1 = p → mayX ρ law e) : mayAll ρ p law l = true := by
  unfold mayAll
  rw [List.all_eq_true]
  intro e he
  obtain ⟨j, hj, ej⟩ := List.getElem_of_mem he
  exact decide_eq_true (h j e hj (by rw [List.getElem?_eq_getElem hj, ej]))
theorem mayAll_no {ρ : RM} {p j : Nat} {law : Int} {l : List LE} {e : LE} (h : l[j]? = some e) (hp : e.1 = p) (hn : ¬ mayX ρ law e) : mayAll ρ p law l = false := by
  cases hc : mayAll ρ p law l with
  | false => rfl
  | true =>
    unfold mayAll at hc
    rw [List.all_eq_true] at hc
    exact absurd (of_decide_eq_true (hc e (List.mem_of_getElem? h)) hp) hn
theorem aX4_mayBeBy {I : II} {R : RR} {r p : Nat} {ρ : RM} {law : Int} {l : List LE} (hR : SR R) (hr : r = 6 ∨ r = 12) (h : XR I R r ρ) (hok : okRM ρ) (hp : p < rN ρ) (hlaw : 0 ≤ law ∧ law ≤ 5) (hl : XLg I R 18 l) (ho : ∀ e ∈ l, okE ρ e) :
    Spec mX4_mayBeBy [vR 18, vR r, vI p, vI law] I R 89 89 (fun rv I' R' => R = R' ∧ I = I' ∧ rv = vI (if mayAll ρ p law l = true then 1 else 0)) := by
  obtain ⟨o0, o1, o2, o3, o4, o5⟩ := roomO hR hr
  obtain ⟨e0, e1, e2, e3, e4, e5, e6, e7⟩ := XRf h hp
  have hn := hok.1
  have h01 := (hok.2.1 p).1
  have hlid := hok.2.2.2.2.1
  obtain ⟨l4, l200, lx⟩ := hl
  have r0 := r_18_0 hR
  have r1 := r_18_1 hR
  have r2 := r_18_2 hR
  have r3 := r_18_3 hR
  rw [r0, r1, r2, r3] at lx
  have il : InI law := ⟨by omega, by omega⟩
  refine sX4_mayBeBy (by decide) (gX4_mayBeBy_0 ?_)
  have loop : ∀ (d i : Nat), i + d = l.length → (∀ (j : Nat) (e : LE), j < i → l[j]? = some e → e.1 = p → mayX ρ law e) → wp (kN 89) mX4_mayBeBy (fun rv I' R' => R = R' ∧ I = I' ∧ rv = vI (if mayAll ρ p law l = true then 1 else 0)) 3 [vR 18, vR r, vI p, vI law, vI (i : Int), none, none, none] [] I R 89 := by
    intro d
    induction d with
    | zero =>
      intro i hi hall
      refine gX4_mayBeBy_3 ?_
      rw [l4]
      refine ⟨o_18, ⟨by omega, by omega⟩, ⟨by omega, by omega⟩, fun _ => ⟨rfl, rfl, ?_⟩, fun q => absurd (by omega) q⟩
      rw [if_pos (mayAll_yes (fun j e hj => hall j e (by omega)))]
    | succ d ih =>
      intro i hil hall
      obtain ⟨e, he⟩ : ∃ e, l[i]? = some e := ⟨_, List.getElem?_eq_getElem (by omega)⟩
      obtain ⟨x1, x2, x3, x4⟩ := lx i e he
      obtain ⟨k1, k2, k3, k4, k5⟩ := ho e (List.mem_of_getElem? he)
      have ek : (i : Int) + 1 = ((i + 1 : Nat) : Int) := by omega
      have w119 : (e.1 = p → mayX ρ law e) → wp (kN 89) mX4_mayBeBy (fun rv I' R' => R = R' ∧ I = I' ∧ rv = vI (if mayAll ρ p law l = true then 1 else 0)) 119 [vR 18, vR r, vI p, vI law, vI (i : Int), none, none, none] [] I R 89 := fun hm => by
        refine gX4_mayBeBy_119 ?_
        rw [ek]
        refine ih (i + 1) (by omega) (fun j x hj hx => ?_)
        by_cases hji : j = i
        · subst hji
          rw [he] at hx
          injection hx with hx
          subst hx
          exact hm
        · exact hall j x (by omega) hx
      refine gX4_mayBeBy_3 ?_
      rw [l4, r0, r3, Int.toNat_natCast, x1, x4]
      refine ⟨o_18, ⟨by omega, by omega⟩, ⟨by omega, by omega⟩, fun q => absurd q (by omega), fun _ => ⟨a_19, ⟨by omega, by omega⟩, ⟨by omega, by omega⟩, ⟨by omega, by omega⟩, fun heq => ⟨a_22, _, aX9_span hR hr h hok hp il k4, fun x9 I9 R9 hq => ?_⟩, fun hne => w119 (fun q => absurd (by omega) hne)⟩⟩
      have hep : e.1 = p := by omega
      subst hep
      have sp := spanSp_bd hok e.1 law e.2.2.2
      have b0 := bySp_bd hok (p := e.1) (law := law) (last := e.2.2.2) (r := 0) k3 ⟨by decide, by omega⟩
      have b1 := bySp_bd hok (p := e.1) (law := law) (last := e.2.2.2) (r := spanSp ρ e.1 law e.2.2.2 - 1) k3 ⟨by omega, by omega⟩
      obtain ⟨rfl, rfl, ee⟩ := hq
      cases ee
      rw [r2, r3, x3, x4]
      refine ⟨a_21, a_22, _, aX9_by hR hr h hok hp il k3 k4 ⟨by decide, by decide⟩, fun x12 I12 R12 hq => ?_⟩
      obtain ⟨rfl, rfl, ee⟩ := hq
      cases ee
      rw [r2, r3, x3, x4]
      refine ⟨a_21, a_22, _, aX9_by hR hr h hok hp il k3 k4 ⟨by omega, by omega⟩, fun x15 I15 R15 hq => ?_⟩
      obtain ⟨rfl, rfl, ee⟩ := hq
      cases ee
      rw [r1, x2, Int.toNat_natCast, e0, e5]
      have q0 : (if rS ρ e.1 = 0 then min (bySp ρ e.1 law e.2.2.1 e.2.2.2 0) (rP ρ 2) else bySp ρ e.1 law e.2.2.1 e.2.2.2 0) = lidSp ρ e.1 (bySp ρ e.1 law e.2.2.1 e.2.2.2 0) := rfl
      have q1 : (if rS ρ e.1 = 0 then min (bySp ρ e.1 law e.2.2.1 e.2.2.2 (spanSp ρ e.1 law e.2.2.2 - 1)) (rP ρ 2) else bySp ρ e.1 law e.2.2.1 e.2.2.2 (spanSp ρ e.1 law e.2.2.2 - 1)) = lidSp ρ e.1 (bySp ρ e.1 law e.2.2.1 e.2.2.2 (spanSp ρ e.1 law e.2.2.2 - 1)) := rfl
      rw [q0, q1]
      have c0 : 0 ≤ lidSp ρ e.1 (bySp ρ e.1 law e.2.2.1 e.2.2.2 0) ∧ lidSp ρ e.1 (bySp ρ e.1 law e.2.2.1 e.2.2.2 0) ≤ 99 := by unfold lidSp; split <;> omega
      have c1 : 0 ≤ lidSp ρ e.1 (bySp ρ e.1 law e.2.2.1 e.2.2.2 (spanSp ρ e.1 law e.2.2.2 - 1)) ∧ lidSp ρ e.1 (bySp ρ e.1 law e.2.2.1 e.2.2.2 (spanSp ρ e.1 law e.2.2.2 - 1)) ≤ 99 := by unfold lidSp; split <;> omega
      refine ⟨a_20, o0, o1, ⟨by omega, by omega⟩, h01, ⟨by omega, by omega⟩, ⟨by omega, by omega⟩, by decide, ⟨by omega, by omega⟩, ⟨by omega, by omega⟩, ⟨by omega, by omega⟩, ⟨by omega, by omega⟩, fun hm => w119 (fun _ => hm), fun hm => ⟨rfl, rfl, ?_⟩⟩
      rw [mayAll_no he rfl hm]; rfl
  exact loop l.length 0 (by omega) (fun j e hj => by omega)
theorem aX11_mayBe {I : II} {R : RR} {i : Nat} {ρ : RM} {law : Int} {l : List LE} {e : LE} (hR : SR R) (h : MRo I ρ) (hok : okRM ρ) (hlaw : 0 ≤ law ∧ law ≤ 5) (hl : MLg I 0 l) (he : l[i]? = some e) (ho : okE ρ e) :
    Spec mX11_mayBe [vR 68, vI law, vI i] I R 89 89 (fun rv I' R' => R = R' ∧ I = I' ∧ rv = vI (if mayX ρ law e then 1 else 0)) := by
  obtain ⟨l4, l200, lx⟩ := hl
  obtain ⟨x1, x2, x3, x4⟩ := lx i e he
  rw [show 200 * 0 + i = i by omega] at x1 x2 x3 x4
  have hil : i < l.length := by
    by_cases q : i < l.length
    · exact q
    · rw [List.getElem?_eq_none (by omega)] at he; cases he
  have mi := may_iff (law := law) hok ho
  obtain ⟨k1, k2, k3, k4, k5⟩ := ho
  obtain ⟨y1, y2, y3⟩ := h.2.1 e.1 k1
  have hn := hok.1
  have loop : ∀ (d n : Nat), n + d = 101 → (∀ j : Nat, j < n → ¬ shoutSp ρ e.1 law e.2.2.1 e.2.2.2 j = e.2.1) → wp (kN 89) mX11_mayBe (fun rv I' R' => R = R' ∧ I = I' ∧ rv = vI (if mayX ρ law e then 1 else 0)) 10 [vR 68, vI law, vI i, vI e.1, vI (n : Int)] [] I R 89 := by
    intro d
    induction d with
    | zero =>
      intro n hn2 hall
      refine gX11_mayBe_10 hR ⟨⟨by omega, by omega⟩, fun _ => ⟨rfl, rfl, ?_⟩, fun q => absurd (by omega) q⟩
      rw [if_neg]
      intro q
      obtain ⟨d, hd, ed⟩ := mi.1 q
      exact hall d (by omega) ed
    | succ d ih =>
      intro n hn2 hall
      have ek : (n : Int) + 1 = ((n + 1 : Nat) : Int) := by omega
      have sok := shoutSp_ok hok (p := e.1) (law := law) (last := e.2.2.2) (d := (n : Int)) k3
      unfold lastOk at sok
      refine gX11_mayBe_10 hR ?_
      rw [Int.toNat_natCast, Int.toNat_natCast, y1, y2, x3, x4]
      refine ⟨⟨by omega, by omega⟩, fun q => absurd q (by omega), fun _ => ⟨⟨by omega, by omega⟩, ⟨by omega, by omega⟩, _, aX11_shoutBy hR h hok hlaw k3 k4 ⟨by omega, by omega⟩, fun x4' I4 R4 hq => ?_⟩⟩
      obtain ⟨rfl, rfl, ee⟩ := hq
      cases ee
      rw [x2]
      refine ⟨rfl, ⟨by omega, by omega⟩, ⟨by omega, by omega⟩, fun hne => ?_, fun heq => ⟨rfl, rfl, by rw [if_pos (mi.2 ⟨n, by omega, heq⟩)]⟩⟩
      rw [ek]
      refine ih (n + 1) (by omega) (fun j hj => ?_)
      by_cases hjn : j = n
      · subst hjn; exact hne
      · exact hall j (by omega)
  refine sX11_mayBe (gX11_mayBe_0 hR ?_)
  rw [Int.toNat_natCast, x1]
  exact ⟨⟨by omega, by omega⟩, loop 101 0 (by omega) (fun j hj => by omega)⟩
/-- the LAWS as bits -/
def lawW (ρ : RM) (p : Nat) (l : List LE) : Nat → Int32
  | 0 => 0
  | k + 1 => if mayAll ρ p k l = true then lawW ρ p l k ||| (i32 1 <<< (i32 (k : Int) &&& 31)) else lawW ρ p l k
def lawsP (ρ : RM) (l : List LE) (p : Int) : Int := if 0 ≤ p ∧ p < rN ρ then (lawW ρ p.toNat l 6).toInt else -1
theorem aX10_laws {I : II} {R : RR} {ρ : RM} {p : Int} {l : List LE} (hR : SR R) (hr : R 1 2 = 6 ∨ R 1 2 = 12) (h : XR I R (R 1 2) ρ) (hok : okRM ρ) (hl : XLg I R 18 l) (ho : ∀ e ∈ l, okE ρ e) (h1 : InI p) :
    Spec mX10_laws [vR 1, vI p] I R 89 89 (fun rv I' R' => R = R' ∧ I = I' ∧ rv = vI (lawsP ρ l p)) := by
  have hn := hok.1
  refine sX10_laws (gX10_laws_0 hR ?_)
  rw [h.1]
  refine ⟨(roomO hR hr).1, h1, ⟨by omega, by omega⟩, fun hc => ?_, fun hc => ⟨rfl, rfl, by unfold lawsP; rw [if_neg hc]⟩⟩
  obtain ⟨q, rfl⟩ := nat_of hc.1
  have loop : ∀ (d k : Nat), k + d = 6 → wp (kN 89) mX10_laws (fun rv I' R' => R = R' ∧ I = I' ∧ rv = vI (lawsP ρ l (q : Int))) 17 [vR 1, vI (q : Int), vI (lawW ρ q l k).toInt, vI (k : Int)] [] I R 89 := by
    intro d
    induction d with
    | zero =>
      intro k hk
      refine gX10_laws_17 hR ⟨⟨by omega, by omega⟩, fun _ => ⟨rfl, rfl, ?_⟩, fun q => absurd (by omega) q⟩
      unfold lawsP; rw [if_pos hc, Int.toNat_natCast, show k = 6 by omega]
    | succ d ih =>
      intro k hk
      have ek : (k : Int) + 1 = ((k + 1 : Nat) : Int) := by omega
      have nx := ih (k + 1) (by omega)
      have st : lawW ρ q l (k + 1) = if mayAll ρ q k l = true then lawW ρ q l k ||| (i32 1 <<< (i32 (k : Int) &&& 31)) else lawW ρ q l k := rfl
      refine gX10_laws_17 hR ⟨⟨by omega, by omega⟩, fun q => absurd q (by omega), fun _ => ⟨_, aX4_mayBeBy (law := (k : Int)) hR hr h hok (by omega) ⟨by omega, by omega⟩ hl ho, fun x2 I2 R2 h01 hq => ?_⟩⟩
      obtain ⟨rfl, rfl, ee⟩ := hq
      have ex : x2 = (if mayAll ρ q k l = true then 1 else 0) := by cases ee; rfl
      rw [i32_of, i32_of]
      refine ⟨rfl, by rcases h01 with w | w <;> rw [w] <;> exact ⟨by decide, by decide⟩, fun hz => gX10_laws_44 hR ?_, fun hz => gX10_laws_44 hR ?_⟩
      · have hm : ¬ mayAll ρ q k l = true := fun w => by rw [if_pos w] at ex; omega
        rw [st, if_neg hm] at nx
        rw [ek]; exact nx
      · have hm : mayAll ρ q k l = true := Decidable.byContradiction fun w => hz (by rw [ex, if_neg w])
        rw [st, if_pos hm] at nx
        rw [ek]; exact nx
  exact loop 6 0 (by omega)
