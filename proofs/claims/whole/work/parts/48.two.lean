/-! two rooms, of the class -/
def bitT (a : Int) (p : Nat) : Int := (i32 ((i32 a >>> (i32 (p : Int) &&& 31)).toInt) &&& i32 1).toInt
theorem bitT_01 (a : Int) (p : Nat) : bitT a p = 0 ∨ bitT a p = 1 := by
  unfold bitT
  generalize i32 ((i32 a >>> (i32 (p : Int) &&& 31)).toInt) = z
  have h : (z &&& i32 1).toBitVec.toNat = z.toBitVec.toNat % 2 := by
    rw [Int32.toBitVec_and, BitVec.toNat_and]
    exact Nat.and_two_pow_sub_one_eq_mod z.toBitVec.toNat 1
  show (z &&& i32 1).toBitVec.toInt = 0 ∨ (z &&& i32 1).toBitVec.toInt = 1
  rw [BitVec.toInt_eq_toNat_cond, h, if_pos (by omega)]
  omega
def topT (n : Nat) : Int := (i32 1 <<< (i32 (n : Int) &&& 31)).toInt - 1
theorem topT_in {n : Nat} (h : n ≤ 20) : InI (topT n) := by
  have : ∀ k : Fin 21, -2147483648 ≤ (i32 1 <<< (i32 (k.val : Int) &&& 31)).toInt - 1 ∧ (i32 1 <<< (i32 (k.val : Int) &&& 31)).toInt - 1 ≤ 2147483647 := by decide
  exact this ⟨n, by omega⟩
/-- the better of two: gain, then fewer carried, then the greater -/
def btr (x o g c : Int) : Prop := g < x ∨ x = g ∧ (o.natAbs < c.natAbs ∨ o.natAbs = c.natAbs ∧ c < o)
def tok (B S C D : List Nat) (b s d : Nat) : Prop := b ≤ B.length ∧ s ≤ S.length ∧ d ≤ C.length ∧ s ≤ b + d ∧ b + d - s ≤ D.length
def tval (v : Nat → Int) (B S C D : List Nat) (k : Int) (b s d : Nat) : Int := psum v B b + psum v C d - (psum v S s + psum v D (b + d - s)) - k * ((((s : Int) - (b : Int)).natAbs : Nat) : Int)
def att (v : Nat → Int) (B S C D : List Nat) (k g c : Int) : Prop := ∃ b s d, tok B S C D b s d ∧ tval v B S C D k b s d = g ∧ (s : Int) - (b : Int) = c
def best2 (v : Nat → Int) (B S C D : List Nat) (k g c : Int) : Prop := att v B S C D k g c ∧ ∀ b s d, tok B S C D b s d → ¬ btr (tval v B S C D k b s d) ((s : Int) - (b : Int)) g c
theorem best2_u {v : Nat → Int} {B S C D : List Nat} {k g c g' c' : Int} (h : best2 v B S C D k g c) (h' : best2 v B S C D k g' c') : g = g' ∧ c = c' := by
  obtain ⟨⟨b, s, d, t1, t2, t3⟩, h2⟩ := h
  obtain ⟨⟨b', s', d', t1', t2', t3'⟩, h2'⟩ := h'
  have a1 := h2 _ _ _ t1'
  have a2 := h2' _ _ _ t1
  rw [t2', t3'] at a1
  rw [t2, t3] at a2
  unfold btr at a1 a2
  omega
theorem tval_bd {v : Nat → Int} {B S C D : List Nat} {k : Int} {b s d : Nat} (hv : ∀ q, -99 ≤ v q ∧ v q ≤ 99) (hl : B.length ≤ 10 ∧ S.length ≤ 10 ∧ C.length ≤ 10 ∧ D.length ≤ 10) (hk : 0 ≤ k ∧ k ≤ 99) (h : tok B S C D b s d) :
    -4950 ≤ tval v B S C D k b s d ∧ tval v B S C D k b s d ≤ 4950 ∧ ((s : Int) - (b : Int)).natAbs ≤ 10 := by
  obtain ⟨h1, h2, h3, h4, h5⟩ := h
  have p1 := psum_bd (ps := B) hv (by decide) b h1
  have p2 := psum_bd (ps := C) hv (by decide) d h3
  have p3 := psum_bd (ps := S) hv (by decide) s h2
  have p4 := psum_bd (ps := D) hv (by decide) (b + d - s) h5
  have n10 : ((s : Int) - (b : Int)).natAbs ≤ 10 := by omega
  have m0 := Int.mul_nonneg hk.1 (Int.natCast_nonneg (((s : Int) - (b : Int)).natAbs))
  have m1 : k * ((((s : Int) - (b : Int)).natAbs : Nat) : Int) ≤ 99 * 10 := Int.mul_le_mul hk.2 (by omega) (Int.natCast_nonneg _) (by decide)
  unfold tval
  omega
theorem tok_0 {B S C D : List Nat} : tok B S C D 0 0 0 := ⟨Nat.zero_le _, Nat.zero_le _, Nat.zero_le _, Nat.le_refl _, Nat.zero_le _⟩
theorem tval_0 {v : Nat → Int} {B S C D : List Nat} {k : Int} : tval v B S C D k 0 0 0 = 0 := by
  unfold tval
  rw [psum_0, psum_0, psum_0, show 0 + 0 - 0 = 0 from rfl, psum_0]
  simp
theorem aX0_offer {I : II} {R : RR} {x o : Int} (hR : SR R) (hg : -100000 ≤ I 48 0 ∧ I 48 0 ≤ 100000) (hc : -100000 ≤ I 48 1 ∧ I 48 1 ≤ 100000) (hx : -100000 ≤ x ∧ x ≤ 100000) (ho : -100000 ≤ o ∧ o ≤ 100000) :
    Spec mX0_offer [vR 48, vI x, vI o] I R 89 89 (fun _ I' R' => R = R' ∧ frm [48] I I' ∧ (btr x o (I 48 0) (I 48 1) → I' 48 0 = x ∧ I' 48 1 = o) ∧ (¬ btr x o (I 48 0) (I 48 1) → I' 48 0 = I 48 0 ∧ I' 48 1 = I 48 1)) := by
  have yes : btr x o (I 48 0) (I 48 1) → wp (kN 89) mX0_offer (fun _ I' R' => R = R' ∧ frm [48] I I' ∧ (btr x o (I 48 0) (I 48 1) → I' 48 0 = x ∧ I' 48 1 = o) ∧ (¬ btr x o (I 48 0) (I 48 1) → I' 48 0 = I 48 0 ∧ I' 48 1 = I 48 1)) 45 [vR 48, vI x, vI o, none] [] I R 89 := fun hb =>
    gX0_offer_45 hR (fun I1 q1 I2 q2 => gX0_offer_55 hR ⟨rfl, by rw [q2, q1]; exact frm_trans (frm_up (by decide)) (frm_up (by decide)), fun _ => ⟨by rw [q2, up2_nj (by decide), q1, up2_self], by rw [q2, up2_self]⟩, fun q => absurd hb q⟩)
  have no : ¬ btr x o (I 48 0) (I 48 1) → wp (kN 89) mX0_offer (fun _ I' R' => R = R' ∧ frm [48] I I' ∧ (btr x o (I 48 0) (I 48 1) → I' 48 0 = x ∧ I' 48 1 = o) ∧ (¬ btr x o (I 48 0) (I 48 1) → I' 48 0 = I 48 0 ∧ I' 48 1 = I 48 1)) 55 [none, none, none, none] [] I R 89 := fun hb =>
    gX0_offer_55 hR ⟨rfl, frm_rfl, fun q => absurd q hb, fun _ => ⟨rfl, rfl⟩⟩
  refine sX0_offer (gX0_offer_0 hR ⟨⟨by omega, by omega⟩, ⟨by omega, by omega⟩, ⟨by omega, by omega⟩, ⟨by omega, by omega⟩, fun q => yes (Or.inl q), fun q => ⟨fun q2 => no (by unfold btr; omega), fun q2 => ⟨⟨by omega, by omega⟩, fun q3 => yes (by unfold btr; omega), fun q3 => ⟨fun q4 => no (by unfold btr; omega), fun q4 => ⟨fun q5 => no (by unfold btr; omega), fun q5 => yes (by unfold btr; omega)⟩⟩⟩⟩⟩)
set_option maxHeartbeats 1000000 in
theorem aX0_choose {I : II} {R : RR} {B S C D : List Nat} {v : Nat → Int} {k : Int} (hR : SR R) (h1 : linesIs I R 24 B S v) (h2 : linesIs I R 31 C D v) (hl : B.length ≤ 10 ∧ S.length ≤ 10 ∧ C.length ≤ 10 ∧ D.length ≤ 10) (hv : ∀ q, -99 ≤ v q ∧ v q ≤ 99) (hk : 0 ≤ k ∧ k ≤ 99) :
    Spec mX0_choose [vR 48, vR 24, vR 31, vI k] I R 89 89 (fun _ I' R' => R = R' ∧ frm [48] I I' ∧ best2 v B S C D k (I' 48 0) (I' 48 1)) := by
  obtain ⟨o24, lb24, ls24, -⟩ := lns24 hR
  obtain ⟨o31, lb31, ls31, -⟩ := lns31 hR
  have t24 := lT24 hR
  have t31 := lT31 hR
  -- what holds when all before (b, s, d) have been offered
  let Iv : Nat → Nat → Nat → II → Prop := fun b s d J => frm [48] I J ∧ att v B S C D k (J 48 0) (J 48 1) ∧ ∀ b' s' d', tok B S C D b' s' d' → (b' < b ∨ b' = b ∧ (s' < s ∨ s' = s ∧ d' < d)) → ¬ btr (tval v B S C D k b' s' d') ((s' : Int) - (b' : Int)) (J 48 0) (J 48 1)
  have lA : ∀ b s d J, Iv b s d J → linesIs J R 24 B S v ∧ linesIs J R 31 C D v := fun b s d J hJ =>
    ⟨linesIs_frm h1 hJ.1 (fun x hx => by rw [t24] at hx; simp only [List.mem_cons, List.not_mem_nil, or_false] at hx ⊢; omega), linesIs_frm h2 hJ.1 (fun x hx => by rw [t31] at hx; simp only [List.mem_cons, List.not_mem_nil, or_false] at hx ⊢; omega)⟩
  have bd : ∀ b s d J, Iv b s d J → (-4950 ≤ J 48 0 ∧ J 48 0 ≤ 4950) ∧ (J 48 1).natAbs ≤ 10 := fun b s d J hJ => by
    obtain ⟨b', s', d', e1, e2, e3⟩ := hJ.2.1
    have := tval_bd (v := v) (k := k) hv hl hk e1
    rw [e2, e3] at this
    omega
  have inner : ∀ (e b s d : Nat) (J : II), d + e = C.length + 1 → b ≤ B.length → s ≤ S.length → Iv b s d J →
      (∀ J', Iv b s (C.length + 1) J' → wp (kN 89) mX0_choose (fun _ I' R' => R = R' ∧ frm [48] I I' ∧ best2 v B S C D k (I' 48 0) (I' 48 1)) 28 [vR 48, vR 24, vR 31, vI k, vI (b : Int), vI ((s + 1 : Nat) : Int), none, none, none, none] [] J' R 89) →
      wp (kN 89) mX0_choose (fun _ I' R' => R = R' ∧ frm [48] I I' ∧ best2 v B S C D k (I' 48 0) (I' 48 1)) 43 [vR 48, vR 24, vR 31, vI k, vI (b : Int), vI (s : Int), vI (d : Int), none, none, none] [] J R 89 := by
    intro e
    induction e with
    | zero =>
      intro b s d J hd hb hs hJ K
      obtain ⟨l1, l2⟩ := lA _ _ _ _ hJ
      have hd' : d = C.length + 1 := by omega
      subst hd'
      refine gX0_choose_43 hR ⟨o31, lb31.1, ⟨by omega, by omega⟩, ?_⟩
      rw [l2.1.1]
      exact ⟨⟨by omega, by omega⟩, fun _ => K J hJ, fun q => absurd (by omega) q⟩
    | succ e ih =>
      intro b s d J hd hb hs hJ K
      obtain ⟨l1, l2⟩ := lA _ _ _ _ hJ
      have hbd := bd _ _ _ _ hJ
      have nx : ∀ J', Iv b s (d + 1) J' → wp (kN 89) mX0_choose (fun _ I' R' => R = R' ∧ frm [48] I I' ∧ best2 v B S C D k (I' 48 0) (I' 48 1)) 152 [vR 48, vR 24, vR 31, vI k, vI (b : Int), vI (s : Int), vI (d : Int), none, none, none] [] J' R 89 := fun J' hJ' => by
        refine gX0_choose_152 hR ?_
        rw [show (d : Int) + 1 = ((d + 1 : Nat) : Int) by omega]
        exact ih b s (d + 1) J' (by omega) hb hs hJ' K
      refine gX0_choose_43 hR ⟨o31, lb31.1, ⟨by omega, by omega⟩, ?_⟩
      rw [l2.1.1]
      refine ⟨⟨by omega, by omega⟩, fun q => absurd q (by omega), fun _ => ⟨ls31.1, ⟨by omega, by omega⟩, ?_⟩⟩
      rw [l2.2.1.1]
      refine ⟨⟨by omega, by omega⟩, fun q => ?_, fun q => nx J ⟨hJ.1, hJ.2.1, fun b' s' d' ht hlt => ?_⟩⟩
      · have ht : tok B S C D b s d := ⟨hb, hs, by omega, by omega, by omega⟩
        have tb := tval_bd (v := v) (k := k) hv hl hk ht
        have ef : (b : Int) + (d : Int) - (s : Int) = ((b + d - s : Nat) : Int) := by omega
        rw [ef]
        refine ⟨o24, lb24.1, _, aX2_sum (by decide) lb24 l1.1 hl.1 (Nat.zero_le b) hb, fun x10 I10 R10 q10 => ?_⟩
        obtain ⟨rfl, rfl, e10⟩ := q10
        refine ⟨rfl, _, aX2_sum (by decide) lb31 l2.1 hl.2.2.1 (Nat.zero_le d) (by omega), fun x12 I12 R12 q12 => ?_⟩
        obtain ⟨rfl, rfl, e12⟩ := q12
        refine ⟨rfl, ls24.1, _, aX2_sum (by decide) ls24 l1.2.1 hl.2.1 (Nat.zero_le s) hs, fun x13 I13 R13 q13 => ?_⟩
        obtain ⟨rfl, rfl, e13⟩ := q13
        refine ⟨rfl, _, aX2_sum (by decide) ls31 l2.2.1 hl.2.2.2 (Nat.zero_le (b + d - s)) (by omega), fun x15 I15 R15 q15 => ?_⟩
        obtain ⟨rfl, rfl, e15⟩ := q15
        injection e10 with e10; injection e10 with e10
        injection e12 with e12; injection e12 with e12
        injection e13 with e13; injection e13 with e13
        injection e15 with e15; injection e15 with e15
        rw [psum_0, Int.sub_zero] at e10 e12 e13 e15
        have ev : x10 + x12 - (x13 + x15) - k * ((((s : Int) - (b : Int)).natAbs : Nat) : Int) = tval v B S C D k b s d := by
          rw [e10, e12, e13, e15]; rfl
        rw [ev]
        refine ⟨rfl, ⟨by omega, by omega⟩, _, aX0_offer hR ⟨by omega, by omega⟩ ⟨by omega, by omega⟩ ⟨by omega, by omega⟩ ⟨by omega, by omega⟩, fun I17 R17 q17 => ?_⟩
        obtain ⟨rfl, f17, y17, n17⟩ := q17
        refine ⟨rfl, nx I17 ⟨frm_trans hJ.1 f17, ?_, fun b' s' d' ht' hlt => ?_⟩⟩
        · by_cases hbt : btr (tval v B S C D k b s d) ((s : Int) - (b : Int)) (I15 48 0) (I15 48 1)
          · obtain ⟨e0, e1⟩ := y17 hbt
            rw [e0, e1]
            exact ⟨b, s, d, ht, rfl, rfl⟩
          · obtain ⟨e0, e1⟩ := n17 hbt
            rw [e0, e1]
            exact hJ.2.1
        · by_cases hbt : btr (tval v B S C D k b s d) ((s : Int) - (b : Int)) (I15 48 0) (I15 48 1)
          · obtain ⟨e0, e1⟩ := y17 hbt
            rw [e0, e1]
            by_cases hlast : b' = b ∧ s' = s ∧ d' = d
            · obtain ⟨rfl, rfl, rfl⟩ := hlast
              unfold btr; omega
            · have := hJ.2.2 b' s' d' ht' (by omega)
              unfold btr at this hbt ⊢
              omega
          · obtain ⟨e0, e1⟩ := n17 hbt
            rw [e0, e1]
            by_cases hlast : b' = b ∧ s' = s ∧ d' = d
            · obtain ⟨rfl, rfl, rfl⟩ := hlast
              exact hbt
            · exact hJ.2.2 b' s' d' ht' (by omega)
      · refine hJ.2.2 b' s' d' ht ?_
        by_cases hlast : b' = b ∧ s' = s ∧ d' = d
        · obtain ⟨rfl, rfl, rfl⟩ := hlast
          exact absurd ⟨by have := ht.2.2.2.1; omega, by have := ht.2.2.2.2; omega⟩ q
        · omega
  have mid : ∀ (e b s : Nat) (J : II), s + e = S.length + 1 → b ≤ B.length → Iv b s 0 J →
      (∀ J', Iv (b + 1) 0 0 J' → wp (kN 89) mX0_choose (fun _ I' R' => R = R' ∧ frm [48] I I' ∧ best2 v B S C D k (I' 48 0) (I' 48 1)) 13 [vR 48, vR 24, vR 31, vI k, vI ((b + 1 : Nat) : Int), none, none, none, none, none] [] J' R 89) →
      wp (kN 89) mX0_choose (fun _ I' R' => R = R' ∧ frm [48] I I' ∧ best2 v B S C D k (I' 48 0) (I' 48 1)) 28 [vR 48, vR 24, vR 31, vI k, vI (b : Int), vI (s : Int), none, none, none, none] [] J R 89 := by
    intro e
    induction e with
    | zero =>
      intro b s J hs hb hJ K
      obtain ⟨l1, l2⟩ := lA _ _ _ _ hJ
      refine gX0_choose_28 hR ⟨o24, ls24.1, ⟨by omega, by omega⟩, ?_⟩
      rw [l1.2.1.1, show (b : Int) + 1 = ((b + 1 : Nat) : Int) by omega]
      refine ⟨⟨by omega, by omega⟩, fun _ => K J ⟨hJ.1, hJ.2.1, fun b' s' d' ht hlt => hJ.2.2 b' s' d' ht ?_⟩, fun q => absurd (by omega) q⟩
      have := ht.2.1
      omega
    | succ e ih =>
      intro b s J hs hb hJ K
      obtain ⟨l1, l2⟩ := lA _ _ _ _ hJ
      refine gX0_choose_28 hR ⟨o24, ls24.1, ⟨by omega, by omega⟩, ?_⟩
      rw [l1.2.1.1]
      refine ⟨⟨by omega, by omega⟩, fun q => absurd q (by omega), fun _ => inner (C.length + 1) b s 0 J (by omega) hb (by omega) hJ (fun J' hJ' => ?_)⟩
      refine ih b (s + 1) J' (by omega) hb ⟨hJ'.1, hJ'.2.1, fun b' s' d' ht hlt => hJ'.2.2 b' s' d' ht ?_⟩ K
      have := ht.2.2.1
      omega
  have outer : ∀ (e b : Nat) (J : II), b + e = B.length + 1 → Iv b 0 0 J → wp (kN 89) mX0_choose (fun _ I' R' => R = R' ∧ frm [48] I I' ∧ best2 v B S C D k (I' 48 0) (I' 48 1)) 13 [vR 48, vR 24, vR 31, vI k, vI (b : Int), none, none, none, none, none] [] J R 89 := by
    intro e
    induction e with
    | zero =>
      intro b J hb hJ
      obtain ⟨l1, l2⟩ := lA _ _ _ _ hJ
      refine gX0_choose_13 hR ⟨o24, lb24.1, ⟨by omega, by omega⟩, ?_⟩
      rw [l1.1.1]
      refine ⟨⟨by omega, by omega⟩, fun _ => ⟨rfl, hJ.1, hJ.2.1, fun b' s' d' ht => hJ.2.2 b' s' d' ht (Or.inl ?_)⟩, fun q => absurd (by omega) q⟩
      have := ht.1
      omega
    | succ e ih =>
      intro b J hb hJ
      obtain ⟨l1, l2⟩ := lA _ _ _ _ hJ
      refine gX0_choose_13 hR ⟨o24, lb24.1, ⟨by omega, by omega⟩, ?_⟩
      rw [l1.1.1]
      exact ⟨⟨by omega, by omega⟩, fun q => absurd q (by omega), fun _ => mid (S.length + 1) b 0 J (by omega) (by omega) hJ (fun J' hJ' => ih (b + 1) J' (by omega) hJ')⟩
  refine sX0_choose (gX0_choose_0 hR (fun I1 q1 I2 q2 => outer (B.length + 1) 0 I2 (by omega) ⟨by rw [q2, q1]; exact frm_trans (frm_up (by decide)) (frm_up (by decide)), ⟨0, 0, 0, tok_0, ?_, ?_⟩, fun b' s' d' _ hlt => by omega⟩))
  · rw [tval_0, q2, up2_nj (by decide), q1, up2_self]
  · rw [q2, up2_self]; rfl
/-- the lines of the PEOPLE in one of the two rooms -/
def inR (sd : Nat → Bool) (a r : Int) (p : Nat) : Bool := sd p && decide (bitT a p = r)
def rmB (ρ : RM) (a r : Int) : List Nat := insAll (inR (S0 (rS ρ)) a r) (kf 0 (rC ρ)) (rN ρ)
def rmS (ρ : RM) (a r : Int) : List Nat := insAll (inR (S1 (rS ρ)) a r) (kf 1 (rC ρ)) (rN ρ)
theorem inR_le {sd : Nat → Bool} {a r : Int} (p : Nat) (h : inR sd a r p = true) : sd p = true := by
  unfold inR at h
  rw [Bool.and_eq_true] at h
  exact h.1
theorem rm_len {ρ : RM} (hok : okRM ρ) (a r : Int) : (rmB ρ a r).length ≤ 10 ∧ (rmS ρ a r).length ≤ 10 := by
  unfold rmB rmS
  rw [insAll_len, insAll_len]
  have h1 := cntB_mono (S := inR (S0 (rS ρ)) a r) (S' := S0 (rS ρ)) inR_le (rN ρ)
  have h2 := cntB_mono (S := inR (S1 (rS ρ)) a r) (S' := S1 (rS ρ)) inR_le (rN ρ)
  have := hok.2.2.2.2.2.2.2
  omega
abbrev isTwo (ρ : RM) (a k w : Int) : Prop := (0 ≤ a ∧ a ≤ topT (rN ρ)) ∧ (0 ≤ k ∧ k ≤ 99) ∧ 0 ≤ w ∧ w ≤ 1
def twoQ (ρ : RM) (a k w : Int) (rv : AV) : Prop :=
  (¬ isTwo ρ a k w ∧ rv = vI (-10000)) ∨ (isTwo ρ a k w ∧ ∃ g c, best2 (rC ρ) (rmB ρ a 0) (rmS ρ a 0) (rmB ρ a 1) (rmS ρ a 1) k g c ∧ rv = vI (if w = 0 then g else c))
theorem twoQ_u {ρ : RM} {a k w : Int} {x y : AV} (h : twoQ ρ a k w x) (h' : twoQ ρ a k w y) : x = y := by
  rcases h with ⟨n, e⟩ | ⟨n, g, c, b, e⟩
  · rcases h' with ⟨_, e'⟩ | ⟨n', _⟩
    · rw [e, e']
    · exact absurd n' n
  · rcases h' with ⟨n', _⟩ | ⟨_, g', c', b', e'⟩
    · exact absurd n n'
    · obtain ⟨e1, e2⟩ := best2_u b b'
      rw [e, e', e1, e2]
set_option maxHeartbeats 1000000 in
theorem aX10_two {I : II} {R : RR} {ρ : RM} {a k w : Int} (hR : SR R) (hr : R 1 2 = 6 ∨ R 1 2 = 12) (h : XR I R (R 1 2) ρ) (hok : okRM ρ) (hF : XF I) (ha : InI a) (hk : InI k) (hw : InI w) :
    Spec mX10_two [vR 1, vI a, vI k, vI w] I R 89 89 (fun rv I' R' => R = R' ∧ frm [25, 26, 27, 28, 29, 30, 32, 33, 34, 35, 36, 37, 48] I I' ∧ XF I' ∧ twoQ ρ a k w rv) := by
  obtain ⟨o, a0, a1, a2, a3, a4⟩ := roomO hR hr
  obtain ⟨e0, e1, e2, e3, e4⟩ := roomR hR hr
  have hn := hok.1
  have t24 := lT24 hR
  have t31 := lT31 hR
  have no : ¬ isTwo ρ a k w → wp (kN 89) mX10_two (fun rv I' R' => R = R' ∧ frm [25, 26, 27, 28, 29, 30, 32, 33, 34, 35, 36, 37, 48] I I' ∧ XF I' ∧ twoQ ρ a k w rv) 38 [none, none, none, none, none, none] [] I R 89 := fun hc =>
    gX10_two_38 hR ⟨rfl, frm_rfl, hF, Or.inl ⟨hc, rfl⟩⟩
  refine sX10_two (gX10_two_0 hR ?_)
  rw [h.1]
  refine ⟨o, ha, topT_in hn, fun hc1 => ⟨hk, fun hc2 => ⟨hw, fun hc3 => ?_, fun q => no (fun x => q x.2.2)⟩, fun q => no (fun x => q x.2.1)⟩, fun q => no (fun x => q x.1)⟩
  have hy : isTwo ρ a k w := ⟨hc1, hc2, hc3⟩
  have fin : ∀ J, frm [25, 26, 27, 28, 29, 30, 32, 33, 34, 35, 36, 37] I J → linesIs J R 24 (rmB ρ a 0) (rmS ρ a 0) (rC ρ) → linesIs J R 31 (rmB ρ a 1) (rmS ρ a 1) (rC ρ) → wp (kN 89) mX10_two (fun rv I' R' => R = R' ∧ frm [25, 26, 27, 28, 29, 30, 32, 33, 34, 35, 36, 37, 48] I I' ∧ XF I' ∧ twoQ ρ a k w rv) 59 [vR 1, vI a, vI k, vI w, vI (rN ρ : Int), none] [] J R 89 := by
    intro J fJ l1 l2
    have n5 : J (R 1 2) 5 = rN ρ := (fJ (R 1 2) (by simp only [List.mem_cons, List.not_mem_nil, or_false]; omega) 5).trans h.1
    refine gX10_two_59 hR ?_
    rw [n5]
    refine ⟨o, ⟨by omega, by omega⟩, ⟨by omega, by omega⟩, fun _ => ⟨_, aX0_choose hR l1 l2 ⟨(rm_len hok a 0).1, (rm_len hok a 0).2, (rm_len hok a 1).1, (rm_len hok a 1).2⟩ (fun q => by have := hok.2.1 q; omega) hc2, fun I4 R4 q4 => ?_⟩, fun q => absurd (Int.le_refl _) q⟩
    obtain ⟨rfl, f4, b4⟩ := q4
    have f5 : frm [25, 26, 27, 28, 29, 30, 32, 33, 34, 35, 36, 37, 48] I I4 := frm_trans (frm_sub fJ (by decide)) (frm_sub f4 (by decide))
    have F5 : XF I4 := by
      obtain ⟨-, -, z1, z2⟩ := l1
      obtain ⟨-, -, y1, y2⟩ := l2
      rw [r_24_0 hR] at z1
      rw [r_24_1 hR] at z2
      rw [r_31_0 hR] at y1
      rw [r_31_1 hR] at y2
      exact ⟨(f4 25 (by decide) 0).trans z1, (f4 28 (by decide) 0).trans z2, (f4 32 (by decide) 0).trans y1, (f4 35 (by decide) 0).trans y2, (f5 42 (by decide) 0).trans hF.2.2.2.2.1, (f5 45 (by decide) 0).trans hF.2.2.2.2.2⟩
    exact ⟨rfl, hw, fun q => ⟨rfl, f5, F5, Or.inr ⟨hy, _, _, b4, by rw [if_neg q]⟩⟩, fun q => ⟨rfl, f5, F5, Or.inr ⟨hy, _, _, b4, by rw [if_pos q]⟩⟩⟩
  have loop : ∀ (d p : Nat) (J : II), p + d = rN ρ → frm [25, 26, 27, 28, 29, 30, 32, 33, 34, 35, 36, 37] I J →
      linesIs J R 24 (insAll (inR (S0 (rS ρ)) a 0) (kf 0 (rC ρ)) p) (insAll (inR (S1 (rS ρ)) a 0) (kf 1 (rC ρ)) p) (rC ρ) → linesIs J R 31 (insAll (inR (S0 (rS ρ)) a 1) (kf 0 (rC ρ)) p) (insAll (inR (S1 (rS ρ)) a 1) (kf 1 (rC ρ)) p) (rC ρ) →
      wp (kN 89) mX10_two (fun rv I' R' => R = R' ∧ frm [25, 26, 27, 28, 29, 30, 32, 33, 34, 35, 36, 37, 48] I I' ∧ XF I' ∧ twoQ ρ a k w rv) 59 [vR 1, vI a, vI k, vI w, vI (p : Int), none] [] J R 89 := by
    intro d
    induction d with
    | zero =>
      intro p J hp fJ l1 l2
      have : p = rN ρ := by omega
      subst this
      exact fin J fJ l1 l2
    | succ d ih =>
      intro p J hp fJ l1 l2
      have n5 : J (R 1 2) 5 = rN ρ := (fJ (R 1 2) (by simp only [List.mem_cons, List.not_mem_nil, or_false]; omega) 5).trans h.1
      have nx : ∀ x, R 1 2 ≤ x → x ≤ R 1 2 + 5 → ∀ j, J x j = I x j := fun x b1 b2 j => fJ x (by simp only [List.mem_cons, List.not_mem_nil, or_false]; omega) j
      have ec : J (R (R 1 2) 1) p = rC ρ p := (nx _ (by omega) (by omega) p).trans (XRf h (show p < rN ρ by omega)).2.1
      have hsd : sdIs J R (R 1 2) (rN ρ) (rS ρ) := fun q hq => ⟨(nx _ (by omega) (by omega) q).trans (XRf h hq).1, (hok.2.1 q).1⟩
      have h01 := (hok.2.1 p).1
      have ebit : (i32 ((i32 a >>> (i32 (p : Int) &&& 31)).toInt) &&& i32 1).toInt = bitT a p := rfl
      have b01 := bitT_01 a p
      have st : ∀ (sd : Nat → Bool) (key : Nat → Int) (r : Int), insAll (inR sd a r) key (p + 1) = if sd p = true ∧ bitT a p = r then insK key p (insAll (inR sd a r) key p) else insAll (inR sd a r) key p := fun sd key r => by
        show (if inR sd a r p = true then _ else _) = _
        simp only [inR, Bool.and_eq_true, decide_eq_true_eq]
      have lt : ∀ (sd : Nat → Bool) (r : Int), sd p = true → bitT a p = r → cntB sd (rN ρ) ≤ 10 → ∀ key, (insAll (inR sd a r) key p).length < 10 := fun sd r x y z key => by
        rw [insAll_len]
        have h1 := cntB_lt (S := inR sd a r) (show p < rN ρ by omega) (by unfold inR; rw [x, y]; simp)
        have h2 := cntB_mono (S := inR sd a r) (S' := sd) inR_le (rN ρ)
        omega
      have hb10 := hok.2.2.2.2.2.2.2.1.2
      have hs10 := hok.2.2.2.2.2.2.2.2.2
      have s0 : ∀ q, S0 (rS ρ) q = true ↔ rS ρ q = 0 := fun q => by simp [S0]
      have s1 : ∀ q, S1 (rS ρ) q = true ↔ rS ρ q = 1 := fun q => by simp [S1]
      refine gX10_two_59 hR ?_
      rw [n5, ebit, Int.toNat_natCast, ec, show (p : Int) + 1 = ((p + 1 : Nat) : Int) by omega]
      have put : ∀ (n : Nat) (r r' : Int), bitT a p = r → r' ≠ r → LNS 89 R n → linesIs J R n (insAll (inR (S0 (rS ρ)) a r) (kf 0 (rC ρ)) p) (insAll (inR (S1 (rS ρ)) a r) (kf 1 (rC ρ)) p) (rC ρ) →
          Spec mX3_put [vR n, vR (R 1 2), vI (p : Int), vI (rC ρ p)] J R 89 89 (fun _ I' R' => R' = R ∧ linesIs I' R n (insAll (inR (S0 (rS ρ)) a r) (kf 0 (rC ρ)) (p + 1)) (insAll (inR (S1 (rS ρ)) a r) (kf 1 (rC ρ)) (p + 1)) (rC ρ) ∧ frm (linesT R n) J I') := by
        intro n r r' hb _ hL hl
        refine Spec.mono (aX3_put (by decide) hL hl o a0 hsd (show p < rN ρ by omega) hn (fun z => lt _ r ((s0 p).mpr z) hb hb10 _) (fun z => lt _ r ((s1 p).mpr z) hb hs10 _) (insAll_srt p) (insAll_srt p) (okC hok)) (fun rv I' R' q => ?_)
        obtain ⟨q1, q2, q3⟩ := q
        refine ⟨q1, ?_, q3⟩
        rw [st, st]
        by_cases z : rS ρ p = 0
        · rw [if_pos z, if_pos z] at q2
          rw [if_pos ⟨(s0 p).mpr z, hb⟩, if_neg (fun x => by have := (s1 p).mp x.1; omega)]
          exact q2
        · rw [if_neg z, if_neg z] at q2
          rw [if_neg (fun x => z ((s0 p).mp x.1)), if_pos ⟨(s1 p).mpr (by omega), hb⟩]
          exact q2
      have same : ∀ (sd : Nat → Bool) (key : Nat → Int) (r : Int), bitT a p ≠ r → insAll (inR sd a r) key (p + 1) = insAll (inR sd a r) key p := fun sd key r hb => by
        rw [st, if_neg (fun x => hb x.2)]
      refine ⟨o, ⟨by omega, by omega⟩, ⟨by omega, by omega⟩, fun q => absurd q (by omega), fun _ => ⟨by rcases b01 with x | x <;> rw [x] <;> exact ⟨by decide, by decide⟩, fun q => ⟨a1, ⟨by omega, by omega⟩, _, put 24 0 1 (by omega) (by decide) (lns24 hR) l1, fun I9 R9 q9 => ?_⟩, fun q => ⟨a1, ⟨by omega, by omega⟩, _, put 31 1 0 q (by decide) (lns31 hR) l2, fun I9 R9 q9 => ?_⟩⟩⟩
      · obtain ⟨rfl, l9, f9⟩ := q9
        rw [t24] at f9
        refine ⟨rfl, ih (p + 1) I9 (by omega) (frm_trans fJ (frm_sub f9 (by decide))) l9 ?_⟩
        rw [same _ _ 1 q, same _ _ 1 q]
        exact linesIs_frm l2 f9 (fun x hx => by rw [t31] at hx; simp only [List.mem_cons, List.not_mem_nil, or_false] at hx ⊢; omega)
      · obtain ⟨rfl, l9, f9⟩ := q9
        rw [t31] at f9
        refine ⟨rfl, ih (p + 1) I9 (by omega) (frm_trans fJ (frm_sub f9 (by decide))) ?_ l9⟩
        rw [same _ _ 0 (by omega), same _ _ 0 (by omega)]
        exact linesIs_frm l1 f9 (fun x hx => by rw [t24] at hx; simp only [List.mem_cons, List.not_mem_nil, or_false] at hx ⊢; omega)
  refine ⟨_, aX3_empty (v := rC ρ) (by decide) (lns24 hR) (by rw [r_24_0 hR]; exact hF.1) (by rw [r_24_1 hR]; exact hF.2.1), fun I9 R9 q9 => ?_⟩
  obtain ⟨rfl, l9, f9⟩ := q9
  rw [t24] at f9
  refine ⟨rfl, _, aX3_empty (v := rC ρ) (by decide) (lns31 hR) (by rw [r_31_0 hR, f9 32 (by decide)]; exact hF.2.2.1) (by rw [r_31_1 hR, f9 35 (by decide)]; exact hF.2.2.2.1), fun I10 R10 q10 => ?_⟩
  obtain ⟨rfl, l10, f10⟩ := q10
  rw [t31] at f10
  refine ⟨rfl, loop (rN ρ) 0 I10 (by omega) (frm_trans (frm_sub f9 (by decide)) (frm_sub f10 (by decide))) ?_ l10⟩
  exact linesIs_frm l9 f10 (fun x hx => by rw [t24] at hx; simp only [List.mem_cons, List.not_mem_nil, or_false] at hx ⊢; omega)
