/-! two rooms, of the reference -/
theorem insK_one {key : Nat → Int} {p : Nat} {l : List Nat} (h : ∀ x ∈ l, key p < key x) : insK key p l = p :: l := insK_at (A := []) (fun a ha => by cases ha) h
theorem insK_filter {key : Nat → Int} {p : Nat} {P : Nat → Bool} : ∀ {ps : List Nat}, srt key ps → (insK key p ps).filter P = if P p = true then insK key p (ps.filter P) else ps.filter P
  | [], _ => by
    show [p].filter P = _
    by_cases h : P p = true
    · rw [if_pos h, List.filter_cons_of_pos h]; rfl
    · rw [if_neg h, List.filter_cons_of_neg h]
  | q :: t, hs => by
    have h1 := List.pairwise_cons.mp hs
    have ih := insK_filter (p := p) (P := P) (ps := t) h1.2
    show (if key q ≤ key p then q :: insK key p t else p :: q :: t).filter P = _
    by_cases hq : key q ≤ key p
    · rw [if_pos hq]
      by_cases hP : P q = true
      · rw [List.filter_cons_of_pos hP, List.filter_cons_of_pos hP, ih]
        by_cases h : P p = true
        · rw [if_pos h, if_pos h]
          show _ = if key q ≤ key p then _ else _
          rw [if_pos hq]
        · rw [if_neg h, if_neg h]
      · rw [List.filter_cons_of_neg hP, List.filter_cons_of_neg hP, ih]
    · rw [if_neg hq]
      by_cases h : P p = true
      · rw [if_pos h, List.filter_cons_of_pos h, insK_one (fun x hx => ?_)]
        have hx := (List.mem_filter.mp hx).1
        rcases List.mem_cons.mp hx with rfl | hx
        · omega
        · have := h1.1 x hx; omega
      · rw [if_neg h, List.filter_cons_of_neg h]
theorem insAll_filter {sd : Nat → Bool} {key : Nat → Int} {a r : Int} : ∀ n, (insAll sd key n).filter (fun p => decide (bitT a p = r)) = insAll (inR sd a r) key n
  | 0 => rfl
  | n + 1 => by
    show (if sd n = true then insK key n (insAll sd key n) else insAll sd key n).filter _ = if inR sd a r n = true then insK key n (insAll (inR sd a r) key n) else insAll (inR sd a r) key n
    by_cases h : sd n = true
    · rw [if_pos h, insK_filter (insAll_srt n), insAll_filter n]
      by_cases hb : bitT a n = r
      · rw [if_pos (by simpa using hb), if_pos (by unfold inR; rw [h]; simpa using hb)]
      · rw [if_neg (by simpa using hb), if_neg (by unfold inR; rw [h]; simpa using hb)]
    · rw [if_neg h, insAll_filter n, if_neg (fun x => h (inR_le n x))]
theorem rmB_eq {ρ : RM} (hok : okRM ρ) (a r : Int) : (rB ρ).filter (fun p => decide (bitT a p = r)) = rmB ρ a r := by
  unfold rB rmB
  rw [BLs_eq (fun p _ _ => by have := hok.2.1 p; omega)]
  exact insAll_filter _
theorem rmS_eq {ρ : RM} (hok : okRM ρ) (a r : Int) : (rSl ρ).filter (fun p => decide (bitT a p = r)) = rmS ρ a r := by
  unfold rSl rmS
  rw [SLs_eq (fun p _ _ => by have := hok.2.1 p; omega)]
  exact insAll_filter _
/-- those of the first k for whom the bit is r -/
def fk (l : List Nat) (a r : Int) (k : Nat) : List Nat := (l.take k).filter (fun p => decide (bitT a p = r))
theorem fk_0 {l : List Nat} {a r : Int} : fk l a r 0 = [] := by unfold fk; simp
theorem fk_yes {l : List Nat} {a r : Int} {k q : Nat} (h : l[k]? = some q) (hb : bitT a q = r) : fk l a r (k + 1) = fk l a r k ++ [q] := by
  unfold fk
  rw [List.take_add_one, h, List.filter_append]
  congr 1
  exact List.filter_cons_of_pos (by simpa using hb)
theorem fk_no {l : List Nat} {a r : Int} {k q : Nat} (h : l[k]? = some q) (hb : ¬ bitT a q = r) : fk l a r (k + 1) = fk l a r k := by
  unfold fk
  rw [List.take_add_one, h, List.filter_append]
  have : ([q] : List Nat).filter (fun p => decide (bitT a p = r)) = [] := List.filter_cons_of_neg (by simpa using hb)
  show _ ++ ([q] : List Nat).filter _ = _
  rw [this, List.append_nil]
theorem fk_all {l : List Nat} {a r : Int} : fk l a r l.length = l.filter (fun p => decide (bitT a p = r)) := by unfold fk; rw [List.take_length]
theorem fk_len {l : List Nat} {a r : Int} {k : Nat} : (fk l a r k).length ≤ k := by
  unfold fk
  have h1 := List.length_filter_le (fun p => decide (bitT a p = r)) (l.take k)
  have h2 := List.length_take_le k l
  omega
theorem psum_app {v : Nat → Int} {l : List Nat} {q j : Nat} (h : j ≤ l.length) : psum v (l ++ [q]) j = psum v l j := by
  unfold psum
  rw [List.take_append_of_le_length h]
theorem psum_app2 {v : Nat → Int} {l : List Nat} {q : Nat} : psum v (l ++ [q]) (l.length + 1) = psum v l l.length + v q := by
  rw [psum_succ (q := q) (by rw [List.getElem?_concat_length]), psum_app (Nat.le_refl _)]
/-- the reference's room r -/
def rmIs (J : II) (r : Nat) (B S : List Nat) (v : Nat → Int) : Prop := J 89 (2 * r) = B.length ∧ J 89 (2 * r + 1) = S.length ∧ (∀ j, j ≤ B.length → J 88 (22 * r + j) = psum v B j) ∧ ∀ j, j ≤ S.length → J 88 (22 * r + 11 + j) = psum v S j
theorem rmIs_same {J J' : II} {r : Nat} {B S : List Nat} {v : Nat → Int} (h : rmIs J r B S v) (hB : B.length ≤ 10) (hS : S.length ≤ 10) (e1 : ∀ j, 2 * r ≤ j → j < 2 * r + 2 → J' 89 j = J 89 j) (e2 : ∀ j, 22 * r ≤ j → j < 22 * r + 22 → J' 88 j = J 88 j) : rmIs J' r B S v := by
  obtain ⟨h1, h2, h3, h4⟩ := h
  exact ⟨(e1 _ (by omega) (by omega)).trans h1, (e1 _ (by omega) (by omega)).trans h2, fun j hj => (e2 _ (by omega) (by omega)).trans (h3 j hj), fun j hj => (e2 _ (by omega) (by omega)).trans (h4 j hj)⟩
theorem rmIs_b {J I7 I12 : II} {r q : Nat} {B S : List Nat} {v : Nat → Int} (h : rmIs J r B S v) (hB : B.length < 10) (h7 : I7 = up2 J 89 (2 * r) ((B.length : Int) + 1)) (h12 : I12 = up2 I7 88 (22 * r + B.length + 1) (psum v B B.length + v q)) : rmIs I12 r (B ++ [q]) S v := by
  obtain ⟨h1, h2, h3, h4⟩ := h
  refine ⟨?_, ?_, fun j hj => ?_, fun j hj => ?_⟩
  · rw [h12, up2_ne (by decide), h7, up2_self, List.length_append]; rfl
  · rw [h12, up2_ne (by decide), h7, up2_nj (by omega), h2]
  · rw [List.length_append] at hj
    have hj : j ≤ B.length + 1 := hj
    by_cases e : j = B.length + 1
    · subst e
      rw [psum_app2, h12, ← Nat.add_assoc, up2_self]
    · rw [psum_app (by omega), h12, up2_nj (by omega), h7, up2_ne (by decide), h3 j (by omega)]
  · rw [h12, up2_nj (by omega), h7, up2_ne (by decide), h4 j hj]
theorem rmIs_s {J I7 I12 : II} {r q : Nat} {B S : List Nat} {v : Nat → Int} (h : rmIs J r B S v) (hB : B.length ≤ 10) (hS : S.length < 10) (h7 : I7 = up2 J 89 (2 * r + 1) ((S.length : Int) + 1)) (h12 : I12 = up2 I7 88 (22 * r + 11 + S.length + 1) (psum v S S.length + v q)) : rmIs I12 r B (S ++ [q]) v := by
  obtain ⟨h1, h2, h3, h4⟩ := h
  refine ⟨?_, ?_, fun j hj => ?_, fun j hj => ?_⟩
  · rw [h12, up2_ne (by decide), h7, up2_nj (by omega), h1]
  · rw [h12, up2_ne (by decide), h7, up2_self, List.length_append]; rfl
  · rw [h12, up2_nj (by omega), h7, up2_ne (by decide), h3 j hj]
  · rw [List.length_append] at hj
    have hj : j ≤ S.length + 1 := hj
    by_cases e : j = S.length + 1
    · subst e
      rw [psum_app2, h12, ← Nat.add_assoc, up2_self]
    · rw [psum_app (by omega), h12, up2_nj (by omega), h7, up2_ne (by decide), h4 j (by omega)]
set_option maxHeartbeats 1000000 in
theorem aX11_layRooms {I : II} {R : RR} {ρ : RM} {a : Int} (hR : SR R) (h : MRo I ρ) (hok : okRM ρ) :
    Spec mX11_layRooms [vR 68, vI a] I R 89 89 (fun _ I' R' => R = R' ∧ mKeep I I' ∧ rmIs I' 0 (rmB ρ a 0) (rmS ρ a 0) (rC ρ) ∧ rmIs I' 1 (rmB ρ a 1) (rmS ρ a 1) (rC ρ)) := by
  refine sX11_layRooms (gX11_layRooms_0 hR ⟨_, mLaid hR h hok, fun I1 R1 q1 => ?_⟩)
  obtain ⟨rfl, k1, s1⟩ := q1
  refine ⟨rfl, _, s1, fun I2 R2 q2 => ?_⟩
  obtain ⟨rfl, k2, m2, v2⟩ := q2
  refine ⟨rfl, ?_⟩
  have hlb : (rB ρ).length ≤ 10 := Nat.le_trans BLs_len hok.2.2.2.2.2.2.2.1.2
  have hls : (rSl ρ).length ≤ 10 := Nat.le_trans SLs_len hok.2.2.2.2.2.2.2.2.2
  -- the room r is laid, what lies before it stays
  have room : ∀ (r : Nat) (J : II), r < 2 → frm [88, 89] I2 J →
      (∀ J', frm [88, 89] I2 J' → rmIs J' r (rmB ρ a r) (rmS ρ a r) (rC ρ) → (∀ j, j < 2 * r → J' 89 j = J 89 j) → (∀ j, j < 22 * r → J' 88 j = J 88 j) → wp (kN 89) mX11_layRooms (fun _ I' R' => R = R' ∧ mKeep I I' ∧ rmIs I' 0 (rmB ρ a 0) (rmS ρ a 0) (rC ρ) ∧ rmIs I' 1 (rmB ρ a 1) (rmS ρ a 1) (rC ρ)) 10 [vR 68, vI a, vI ((r + 1 : Nat) : Int), none] [] J' R 89) →
      wp (kN 89) mX11_layRooms (fun _ I' R' => R = R' ∧ mKeep I I' ∧ rmIs I' 0 (rmB ρ a 0) (rmS ρ a 0) (rC ρ) ∧ rmIs I' 1 (rmB ρ a 1) (rmS ρ a 1) (rC ρ)) 10 [vR 68, vI a, vI (r : Int), none] [] J R 89 := by
    intro r J0 hr f0 K
    have sells : ∀ (d k : Nat) (J : II), k + d = (rSl ρ).length → frm [88, 89] I2 J → (∀ j, j < 2 * r → J 89 j = J0 89 j) → (∀ j, j < 22 * r → J 88 j = J0 88 j) → rmIs J r (rmB ρ a r) (fk (rSl ρ) a r k) (rC ρ) →
        wp (kN 89) mX11_layRooms (fun _ I' R' => R = R' ∧ mKeep I I' ∧ rmIs I' 0 (rmB ρ a 0) (rmS ρ a 0) (rC ρ) ∧ rmIs I' 1 (rmB ρ a 1) (rmS ρ a 1) (rC ρ)) 146 [vR 68, vI a, vI (r : Int), vI (k : Int)] [] J R 89 := by
      intro d
      induction d with
      | zero =>
        intro k J hk fJ l9 l8 hJ
        have e20 : J 68 20 = (rSl ρ).length := (fJ 68 (by decide) 20).trans m2.2.1
        refine gX11_layRooms_146 hR ?_
        rw [e20, show (r : Int) + 1 = ((r + 1 : Nat) : Int) by omega]
        have hkk : k = (rSl ρ).length := by omega
        subst hkk
        rw [fk_all, rmS_eq hok] at hJ
        exact ⟨⟨by omega, by omega⟩, ⟨by omega, by omega⟩, fun _ => K J fJ hJ l9 l8, fun q => absurd (Int.le_refl _) q⟩
      | succ d ih =>
        intro k J hk fJ l9 l8 hJ
        have e20 : J 68 20 = (rSl ρ).length := (fJ 68 (by decide) 20).trans m2.2.1
        obtain ⟨q, hq⟩ : ∃ q, (rSl ρ)[k]? = some q := ⟨(rSl ρ)[k]'(by omega), List.getElem?_eq_getElem (by omega)⟩
        obtain ⟨g1, g2, g3⟩ := ml_s m2 v2 hq
        have e84 : J 84 k = (q : Int) := (fJ 84 (by decide) k).trans g1
        have ebit : (i32 ((i32 a >>> (i32 (q : Int) &&& 31)).toInt) &&& i32 1).toInt = bitT a q := rfl
        have b01 := bitT_01 a q
        have hfl := fk_len (l := rSl ρ) (a := a) (r := r) (k := k)
        refine gX11_layRooms_146 hR ?_
        rw [e20, Int.toNat_natCast, e84, ebit]
        have nx : ∀ J', frm [88, 89] I2 J' → (∀ j, j < 2 * r → J' 89 j = J0 89 j) → (∀ j, j < 22 * r → J' 88 j = J0 88 j) → rmIs J' r (rmB ρ a r) (fk (rSl ρ) a r (k + 1)) (rC ρ) → wp (kN 89) mX11_layRooms (fun _ I' R' => R = R' ∧ mKeep I I' ∧ rmIs I' 0 (rmB ρ a 0) (rmS ρ a 0) (rC ρ) ∧ rmIs I' 1 (rmB ρ a 1) (rmS ρ a 1) (rC ρ)) 234 [vR 68, vI a, vI (r : Int), vI (k : Int)] [] J' R 89 := fun J' x1 x2 x3 x4 => by
          refine gX11_layRooms_234 hR ?_
          rw [show (k : Int) + 1 = ((k + 1 : Nat) : Int) by omega]
          exact ih (k + 1) J' (by omega) x1 x2 x3 x4
        refine ⟨⟨by omega, by omega⟩, ⟨by omega, by omega⟩, fun q => absurd q (by omega), fun _ => ⟨⟨by omega, by omega⟩, by rcases b01 with x | x <;> rw [x] <;> exact ⟨by decide, by decide⟩, ⟨by omega, by omega⟩, fun hb => nx J fJ l9 l8 (by rw [fk_no hq hb]; exact hJ), fun hb => ?_⟩⟩
        have i1 : (2 * (r : Int) + 1).toNat = 2 * r + 1 := by omega
        rw [i1, hJ.2.1]
        refine ⟨⟨by omega, by omega⟩, fun I7 q7 => ?_⟩
        have z7 : I7 89 (2 * r + 1) = ((fk (rSl ρ) a r k).length : Int) + 1 := by rw [q7, up2_self]
        have f7 : frm [89] J I7 := by rw [q7]; exact frm_up (by decide)
        have i2 : (22 * (r : Int) + 10 + (((fk (rSl ρ) a r k).length : Int) + 1)).toNat = 22 * r + 11 + (fk (rSl ρ) a r k).length := by omega
        have i3 : (22 * (r : Int) + 11 + (((fk (rSl ρ) a r k).length : Int) + 1)).toNat = 22 * r + 11 + (fk (rSl ρ) a r k).length + 1 := by omega
        have e84' : I7 84 k = (q : Int) := (f7 84 (by decide) k).trans e84
        rw [z7, e84', Int.toNat_natCast, i2, i3]
        refine ⟨⟨by omega, by omega⟩, ⟨by omega, by omega⟩, ⟨by omega, by omega⟩, fun I12 q12 => ?_⟩
        have e82 : I7 82 q = rC ρ q := by
          rw [g1, Int.toNat_natCast] at g3
          exact (f7 82 (by decide) q).trans ((fJ 82 (by decide) q).trans g3)
        have e88 : I7 88 (22 * r + 11 + (fk (rSl ρ) a r k).length) = psum (rC ρ) (fk (rSl ρ) a r k) (fk (rSl ρ) a r k).length := (f7 88 (by decide) _).trans (hJ.2.2.2 _ (Nat.le_refl _))
        rw [e82, e88] at q12
        refine nx I12 (frm_trans fJ (by rw [q12, q7]; exact frm_trans (frm_up (by decide)) (frm_up (by decide)))) (fun j hj => by rw [q12, up2_ne (by decide), q7, up2_nj (by omega)]; exact l9 j hj) (fun j hj => by rw [q12, up2_nj (by omega), q7, up2_ne (by decide)]; exact l8 j hj) ?_
        rw [fk_yes hq hb]
        exact rmIs_s hJ (rm_len hok a r).1 (by omega) q7 q12
    have buys : ∀ (d k : Nat) (J : II), k + d = (rB ρ).length → frm [88, 89] I2 J → (∀ j, j < 2 * r → J 89 j = J0 89 j) → (∀ j, j < 22 * r → J 88 j = J0 88 j) → rmIs J r (fk (rB ρ) a r k) [] (rC ρ) →
        wp (kN 89) mX11_layRooms (fun _ I' R' => R = R' ∧ mKeep I I' ∧ rmIs I' 0 (rmB ρ a 0) (rmS ρ a 0) (rC ρ) ∧ rmIs I' 1 (rmB ρ a 1) (rmS ρ a 1) (rC ρ)) 60 [vR 68, vI a, vI (r : Int), vI (k : Int)] [] J R 89 := by
      intro d
      induction d with
      | zero =>
        intro k J hk fJ l9 l8 hJ
        have e19 : J 68 19 = (rB ρ).length := (fJ 68 (by decide) 19).trans m2.1
        refine gX11_layRooms_60 hR ?_
        rw [e19]
        have hkk : k = (rB ρ).length := by omega
        subst hkk
        rw [fk_all, rmB_eq hok] at hJ
        exact ⟨⟨by omega, by omega⟩, ⟨by omega, by omega⟩, fun _ => sells (rSl ρ).length 0 J (by omega) fJ l9 l8 (by rw [fk_0]; exact hJ), fun q => absurd (Int.le_refl _) q⟩
      | succ d ih =>
        intro k J hk fJ l9 l8 hJ
        have e19 : J 68 19 = (rB ρ).length := (fJ 68 (by decide) 19).trans m2.1
        obtain ⟨q, hq⟩ : ∃ q, (rB ρ)[k]? = some q := ⟨(rB ρ)[k]'(by omega), List.getElem?_eq_getElem (by omega)⟩
        obtain ⟨g1, g2, g3⟩ := ml_b m2 v2 hq
        have e83 : J 83 k = (q : Int) := (fJ 83 (by decide) k).trans g1
        have ebit : (i32 ((i32 a >>> (i32 (q : Int) &&& 31)).toInt) &&& i32 1).toInt = bitT a q := rfl
        have b01 := bitT_01 a q
        have hfl := fk_len (l := rB ρ) (a := a) (r := r) (k := k)
        refine gX11_layRooms_60 hR ?_
        rw [e19, Int.toNat_natCast, e83, ebit]
        have nx : ∀ J', frm [88, 89] I2 J' → (∀ j, j < 2 * r → J' 89 j = J0 89 j) → (∀ j, j < 22 * r → J' 88 j = J0 88 j) → rmIs J' r (fk (rB ρ) a r (k + 1)) [] (rC ρ) → wp (kN 89) mX11_layRooms (fun _ I' R' => R = R' ∧ mKeep I I' ∧ rmIs I' 0 (rmB ρ a 0) (rmS ρ a 0) (rC ρ) ∧ rmIs I' 1 (rmB ρ a 1) (rmS ρ a 1) (rC ρ)) 138 [vR 68, vI a, vI (r : Int), vI (k : Int)] [] J' R 89 := fun J' x1 x2 x3 x4 => by
          refine gX11_layRooms_138 hR ?_
          rw [show (k : Int) + 1 = ((k + 1 : Nat) : Int) by omega]
          exact ih (k + 1) J' (by omega) x1 x2 x3 x4
        refine ⟨⟨by omega, by omega⟩, ⟨by omega, by omega⟩, fun q => absurd q (by omega), fun _ => ⟨⟨by omega, by omega⟩, by rcases b01 with x | x <;> rw [x] <;> exact ⟨by decide, by decide⟩, ⟨by omega, by omega⟩, fun hb => nx J fJ l9 l8 (by rw [fk_no hq hb]; exact hJ), fun hb => ?_⟩⟩
        have i1 : (2 * (r : Int)).toNat = 2 * r := by omega
        rw [i1, hJ.1]
        refine ⟨⟨by omega, by omega⟩, fun I7 q7 => ?_⟩
        have z7 : I7 89 (2 * r) = ((fk (rB ρ) a r k).length : Int) + 1 := by rw [q7, up2_self]
        have f7 : frm [89] J I7 := by rw [q7]; exact frm_up (by decide)
        have i2 : (22 * (r : Int) + (((fk (rB ρ) a r k).length : Int) + 1) - 1).toNat = 22 * r + (fk (rB ρ) a r k).length := by omega
        have i3 : (22 * (r : Int) + (((fk (rB ρ) a r k).length : Int) + 1)).toNat = 22 * r + (fk (rB ρ) a r k).length + 1 := by omega
        have e83' : I7 83 k = (q : Int) := (f7 83 (by decide) k).trans e83
        rw [z7, e83', Int.toNat_natCast, i2, i3]
        refine ⟨⟨by omega, by omega⟩, ⟨by omega, by omega⟩, ⟨by omega, by omega⟩, fun I12 q12 => ?_⟩
        have e82 : I7 82 q = rC ρ q := by
          rw [g1, Int.toNat_natCast] at g3
          exact (f7 82 (by decide) q).trans ((fJ 82 (by decide) q).trans g3)
        have e88 : I7 88 (22 * r + (fk (rB ρ) a r k).length) = psum (rC ρ) (fk (rB ρ) a r k) (fk (rB ρ) a r k).length := (f7 88 (by decide) _).trans (hJ.2.2.1 _ (Nat.le_refl _))
        rw [e82, e88] at q12
        refine nx I12 (frm_trans fJ (by rw [q12, q7]; exact frm_trans (frm_up (by decide)) (frm_up (by decide)))) (fun j hj => by rw [q12, up2_ne (by decide), q7, up2_nj (by omega)]; exact l9 j hj) (fun j hj => by rw [q12, up2_nj (by omega), q7, up2_ne (by decide)]; exact l8 j hj) ?_
        rw [fk_yes hq hb]
        exact rmIs_b hJ (by omega) q7 q12
    refine gX11_layRooms_10 hR ⟨⟨by omega, by omega⟩, fun q => absurd q (by omega), fun _ => ⟨⟨by omega, by omega⟩, fun I3 q3 => ⟨⟨by omega, by omega⟩, fun I5 q5 => ⟨⟨by omega, by omega⟩, fun I7 q7 => ⟨⟨by omega, by omega⟩, fun I9 q9 => ?_⟩⟩⟩⟩⟩
    rw [show (2 * (r : Int)).toNat = 2 * r by omega] at q3
    rw [show (2 * (r : Int) + 1).toNat = 2 * r + 1 by omega] at q5
    rw [show (22 * (r : Int)).toNat = 22 * r by omega] at q7
    rw [show (22 * (r : Int) + 11).toNat = 22 * r + 11 by omega] at q9
    have f9 : frm [88, 89] J0 I9 := by rw [q9, q7, q5, q3]; exact frm_trans (frm_up (by decide)) (frm_trans (frm_up (by decide)) (frm_trans (frm_up (by decide)) (frm_up (by decide))))
    refine buys (rB ρ).length 0 I9 (by omega) (frm_trans f0 f9) (fun j hj => ?_) (fun j hj => ?_) ?_
    · rw [q9, up2_ne (by decide), q7, up2_ne (by decide), q5, up2_nj (by omega), q3, up2_nj (by omega)]
    · rw [q9, up2_nj (by omega), q7, up2_nj (by omega), q5, up2_ne (by decide), q3, up2_ne (by decide)]
    · rw [fk_0]
      refine ⟨?_, ?_, fun j hj => ?_, fun j hj => ?_⟩
      · rw [q9, up2_ne (by decide), q7, up2_ne (by decide), q5, up2_nj (by omega), q3, up2_self]; rfl
      · rw [q9, up2_ne (by decide), q7, up2_ne (by decide), q5, up2_self]; rfl
      · have : j = 0 := by have : j ≤ 0 := hj; omega
        subst this
        rw [psum_0, q9, up2_nj (by omega), q7, Nat.add_zero, up2_self]
      · have : j = 0 := by have : j ≤ 0 := hj; omega
        subst this
        rw [psum_0, q9, Nat.add_zero, up2_self]
  refine room 0 I2 (by decide) frm_rfl (fun J f r0 _ _ => room 1 J (by decide) f (fun J' f' r1 x9 x8 => ?_))
  refine gX11_layRooms_10 hR ⟨⟨by decide, by decide⟩, fun _ => ⟨rfl, mKeep_trans k2 (mKeep_frm f' (by decide)), ?_, r1⟩, fun q => absurd (Int.le_refl 2) q⟩
  exact rmIs_same r0 (rm_len hok a 0).1 (rm_len hok a 0).2 (fun j _ hj => x9 j (by omega)) (fun j _ hj => x8 j (by omega))
/-- the most gain with c carried; -10000 if there is none -/
def isG (v : Nat → Int) (B S C D : List Nat) (k c x : Int) : Prop := (∀ b s d, tok B S C D b s d → (s : Int) - (b : Int) = c → tval v B S C D k b s d ≤ x) ∧ (x = -10000 ∨ att v B S C D k x c)
theorem isG_bd {v : Nat → Int} {B S C D : List Nat} {k c x : Int} (hv : ∀ q, -99 ≤ v q ∧ v q ≤ 99) (hl : B.length ≤ 10 ∧ S.length ≤ 10 ∧ C.length ≤ 10 ∧ D.length ≤ 10) (hk : 0 ≤ k ∧ k ≤ 99) (h : isG v B S C D k c x) : -10000 ≤ x ∧ x ≤ 4950 := by
  rcases h.2 with e | ⟨b, s, d, t1, t2, t3⟩
  · omega
  · have := tval_bd (v := v) (k := k) hv hl hk t1
    omega
theorem isG_u {v : Nat → Int} {B S C D : List Nat} {k c x y : Int} (hv : ∀ q, -99 ≤ v q ∧ v q ≤ 99) (hl : B.length ≤ 10 ∧ S.length ≤ 10 ∧ C.length ≤ 10 ∧ D.length ≤ 10) (hk : 0 ≤ k ∧ k ≤ 99) (h : isG v B S C D k c x) (h' : isG v B S C D k c y) : x = y := by
  have b1 := isG_bd hv hl hk h
  have b2 := isG_bd hv hl hk h'
  have a1 : ∀ x y, isG v B S C D k c x → isG v B S C D k c y → -10000 ≤ y → x ≤ y := fun x y h h' hy => by
    rcases h.2 with e | ⟨b, s, d, t1, t2, t3⟩
    · omega
    · have := h'.1 b s d t1 t3
      omega
  have := a1 x y h h' b2.1
  have := a1 y x h' h b1.1
  omega
set_option maxHeartbeats 1000000 in
theorem aX11_carried {I : II} {R : RR} {B S C D : List Nat} {v : Nat → Int} {k c : Int} (hR : SR R) (h0 : rmIs I 0 B S v) (h1 : rmIs I 1 C D v) (hl : B.length ≤ 10 ∧ S.length ≤ 10 ∧ C.length ≤ 10 ∧ D.length ≤ 10) (hv : ∀ q, -99 ≤ v q ∧ v q ≤ 99) (hk : 0 ≤ k ∧ k ≤ 99) (hc : -10 ≤ c ∧ c ≤ 10) :
    Spec mX11_carried [vR 68, vI c, vI k] I R 89 89 (fun rv I' R' => R = R' ∧ I = I' ∧ ∃ x, rv = vI x ∧ isG v B S C D k c x) := by
  have e0 : I 89 0 = B.length := h0.1
  have e1 : I 89 1 = S.length := h0.2.1
  have e2 : I 89 2 = C.length := h1.1
  have e3 : I 89 3 = D.length := h1.2.1
  have w0 : ∀ j, j ≤ B.length → I 88 j = psum v B j := fun j hj => by have := h0.2.2.1 j hj; rw [show 22 * 0 + j = j by omega] at this; exact this
  have w1 : ∀ j, j ≤ S.length → I 88 (11 + j) = psum v S j := fun j hj => by have := h0.2.2.2 j hj; rw [show 22 * 0 + 11 + j = 11 + j by omega] at this; exact this
  have w2 : ∀ j, j ≤ C.length → I 88 (22 + j) = psum v C j := fun j hj => h1.2.2.1 j hj
  have w3 : ∀ j, j ≤ D.length → I 88 (33 + j) = psum v D j := fun j hj => h1.2.2.2 j hj
  let Iv : Nat → Nat → Int → Prop := fun b d x => (∀ b' s' d', tok B S C D b' s' d' → (s' : Int) - (b' : Int) = c → (b' < b ∨ b' = b ∧ d' < d) → tval v B S C D k b' s' d' ≤ x) ∧ (x = -10000 ∨ att v B S C D k x c)
  have bdI : ∀ b d x, Iv b d x → -10000 ≤ x ∧ x ≤ 4950 := fun b d x h => by
    rcases h.2 with e | ⟨b, s, d, t1, t2, t3⟩
    · omega
    · have := tval_bd (v := v) (k := k) hv hl hk t1
      omega
  have inner : ∀ (e b d : Nat) (x : Int), d + e = C.length + 1 → b ≤ B.length → Iv b d x →
      (∀ x', Iv (b + 1) 0 x' → wp (kN 89) mX11_carried (fun rv I' R' => R = R' ∧ I = I' ∧ ∃ x, rv = vI x ∧ isG v B S C D k c x) 7 [vR 68, vI c, vI k, vI x', vI ((b + 1 : Nat) : Int), none, none, none, none] [] I R 89) →
      wp (kN 89) mX11_carried (fun rv I' R' => R = R' ∧ I = I' ∧ ∃ x, rv = vI x ∧ isG v B S C D k c x) 21 [vR 68, vI c, vI k, vI x, vI (b : Int), vI (d : Int), none, none, none] [] I R 89 := by
    intro e
    induction e with
    | zero =>
      intro b d x hd hb hx K
      refine gX11_carried_21 hR ?_
      rw [e2, show (b : Int) + 1 = ((b + 1 : Nat) : Int) by omega]
      refine ⟨⟨by omega, by omega⟩, ⟨by omega, by omega⟩, fun _ => K x ⟨fun b' s' d' ht hc' hlt => hx.1 b' s' d' ht hc' ?_, hx.2⟩, fun q => absurd (by omega) q⟩
      have := ht.2.2.1
      omega
    | succ e ih =>
      intro b d x hd hb hx K
      have bx := bdI _ _ _ hx
      have nx : ∀ x', Iv b (d + 1) x' → wp (kN 89) mX11_carried (fun rv I' R' => R = R' ∧ I = I' ∧ ∃ x, rv = vI x ∧ isG v B S C D k c x) 146 [vR 68, vI c, vI k, vI x', vI (b : Int), vI (d : Int), none, none, none] [] I R 89 := fun x' hx' => by
        refine gX11_carried_146 hR ?_
        rw [show (d : Int) + 1 = ((d + 1 : Nat) : Int) by omega]
        exact ih b (d + 1) x' (by omega) hb hx' K
      have skip : ¬ (∃ s, tok B S C D b s d ∧ (s : Int) - (b : Int) = c) → Iv b (d + 1) x := fun hn => ⟨fun b' s' d' ht hc' hlt => by
        by_cases hh : b' = b ∧ d' = d
        · obtain ⟨rfl, rfl⟩ := hh
          exact absurd ⟨s', ht, hc'⟩ hn
        · exact hx.1 b' s' d' ht hc' (by omega), hx.2⟩
      refine gX11_carried_21 hR ?_
      rw [e2, e1, e3]
      refine ⟨⟨by omega, by omega⟩, ⟨by omega, by omega⟩, fun q => absurd q (by omega), fun _ => ⟨⟨by omega, by omega⟩, ⟨by omega, by omega⟩, fun q1 => ⟨⟨by omega, by omega⟩, ⟨by omega, by omega⟩, fun q2 => ?_, fun q2 => nx x (skip (fun ⟨s, ht, hs⟩ => q2 ⟨by have := ht.2.2.2.1; omega, by have := ht.2.2.2.2; have := ht.2.2.2.1; omega⟩))⟩, fun q1 => nx x (skip (fun ⟨s, ht, hs⟩ => q1 ⟨by omega, by have := ht.2.1; omega⟩))⟩⟩
      obtain ⟨s, es⟩ := nat_of q1.1
      have ht : tok B S C D b s d := ⟨hb, by omega, by omega, by omega, by omega⟩
      have hsc : (s : Int) - (b : Int) = c := by omega
      have tb := tval_bd (v := v) (k := k) hv hl hk ht
      have ed : (d : Int) - c = ((b + d - s : Nat) : Int) := by omega
      rw [es, ed, show (11 + (s : Int)).toNat = 11 + s by omega, show (22 + (d : Int)).toNat = 22 + d by omega, show (33 + ((b + d - s : Nat) : Int)).toNat = 33 + (b + d - s) by omega, Int.toNat_natCast, w0 b hb, w1 s (by omega), w2 d (by omega), w3 _ (by omega)]
      have ev1 : 0 ≤ c → psum v B b - psum v S s + psum v C d - psum v D (b + d - s) - k * c = tval v B S C D k b s d := fun h => by
        unfold tval
        rw [hsc, show ((c.natAbs : Nat) : Int) = c by omega]
        omega
      have ev2 : ¬ 0 ≤ c → psum v B b - psum v S s + psum v C d - psum v D (b + d - s) - k * (-c) = tval v B S C D k b s d := fun h => by
        unfold tval
        rw [hsc, show ((c.natAbs : Nat) : Int) = -c by omega]
        omega
      have le : tval v B S C D k b s d ≤ x → Iv b (d + 1) x := fun hle => ⟨fun b' s' d' ht' hc' hlt => by
        by_cases hh : b' = b ∧ d' = d
        · obtain ⟨rfl, rfl⟩ := hh
          have : s' = s := by omega
          subst this
          exact hle
        · exact hx.1 b' s' d' ht' hc' (by omega), hx.2⟩
      have gt : ¬ tval v B S C D k b s d ≤ x → Iv b (d + 1) (tval v B S C D k b s d) := fun hle => ⟨fun b' s' d' ht' hc' hlt => by
        by_cases hh : b' = b ∧ d' = d
        · obtain ⟨rfl, rfl⟩ := hh
          have : s' = s := by omega
          subst this
          exact Int.le_refl _
        · have := hx.1 b' s' d' ht' hc' (by omega); omega, Or.inr ⟨b, s, d, ht, rfl, hsc⟩⟩
      refine ⟨⟨by omega, by omega⟩, ⟨by omega, by omega⟩, ⟨by omega, by omega⟩, ⟨by omega, by omega⟩, ⟨by omega, by omega⟩, fun p => ?_, fun p => ?_⟩
      · rw [ev1 p]
        exact ⟨⟨by omega, by omega⟩, ⟨by omega, by omega⟩, fun y => nx x (le y), fun y => nx _ (gt y)⟩
      · rw [ev2 p]
        exact ⟨⟨by omega, by omega⟩, ⟨by omega, by omega⟩, fun y => nx x (le y), fun y => nx _ (gt y)⟩
  have outer : ∀ (e b : Nat) (x : Int), b + e = B.length + 1 → Iv b 0 x → wp (kN 89) mX11_carried (fun rv I' R' => R = R' ∧ I = I' ∧ ∃ x, rv = vI x ∧ isG v B S C D k c x) 7 [vR 68, vI c, vI k, vI x, vI (b : Int), none, none, none, none] [] I R 89 := by
    intro e
    induction e with
    | zero =>
      intro b x hb hx
      refine gX11_carried_7 hR ?_
      rw [e0]
      refine ⟨⟨by omega, by omega⟩, ⟨by omega, by omega⟩, fun _ => ⟨rfl, rfl, x, rfl, fun b' s' d' ht hc' => hx.1 b' s' d' ht hc' (Or.inl ?_), hx.2⟩, fun q => absurd (by omega) q⟩
      have := ht.1
      omega
    | succ e ih =>
      intro b x hb hx
      refine gX11_carried_7 hR ?_
      rw [e0]
      exact ⟨⟨by omega, by omega⟩, ⟨by omega, by omega⟩, fun q => absurd q (by omega), fun _ => inner (C.length + 1) b 0 x (by omega) (by omega) hx (fun x' hx' => ih (b + 1) x' (by omega) hx')⟩
  exact sX11_carried (gX11_carried_0 hR (outer (B.length + 1) 0 (-10000) (by omega) ⟨fun b' s' d' _ _ hlt => by omega, Or.inl rfl⟩))
set_option maxHeartbeats 1000000 in
theorem aX11_two {I : II} {R : RR} {ρ : RM} {a k w : Int} (hR : SR R) (h : MRo I ρ) (hok : okRM ρ) (ha : InI a) (hk : InI k) (hw : InI w) :
    Spec mX11_two [vR 68, vI a, vI k, vI w] I R 89 89 (fun rv I' R' => R = R' ∧ mKeep I I' ∧ twoQ ρ a k w rv) := by
  have hn := hok.1
  have no : ¬ isTwo ρ a k w → wp (kN 89) mX11_two (fun rv I' R' => R = R' ∧ mKeep I I' ∧ twoQ ρ a k w rv) 42 [none, none, none, none, none, none] [] I R 89 := fun hc =>
    gX11_two_42 hR ⟨rfl, mKeep_rfl, Or.inl ⟨hc, rfl⟩⟩
  refine sX11_two (gX11_two_0 hR ?_)
  rw [h.1]
  refine ⟨ha, topT_in hn, fun hc1 => ⟨hk, fun hc2 => ⟨hw, fun hc3 => ⟨_, aX11_layRooms hR h hok, fun I8 R8 q8 => ?_⟩, fun q => no (fun x => q x.2.2)⟩, fun q => no (fun x => q x.2.1)⟩, fun q => no (fun x => q x.1)⟩
  obtain ⟨rfl, k8, r0, r1⟩ := q8
  refine ⟨rfl, ?_⟩
  have hy : isTwo ρ a k w := ⟨hc1, hc2, hc3⟩
  have hl : (rmB ρ a 0).length ≤ 10 ∧ (rmS ρ a 0).length ≤ 10 ∧ (rmB ρ a 1).length ≤ 10 ∧ (rmS ρ a 1).length ≤ 10 := ⟨(rm_len hok a 0).1, (rm_len hok a 0).2, (rm_len hok a 1).1, (rm_len hok a 1).2⟩
  have hv : ∀ q, -99 ≤ rC ρ q ∧ rC ρ q ≤ 99 := fun q => by have := hok.2.1 q; omega
  have car : ∀ c, -10 ≤ c ∧ c ≤ 10 → Spec mX11_carried [vR 68, vI c, vI k] I8 R 89 89 (fun rv I' R' => R = R' ∧ I8 = I' ∧ ∃ x, rv = vI x ∧ isG (rC ρ) (rmB ρ a 0) (rmS ρ a 0) (rmB ρ a 1) (rmS ρ a 1) k c x) := fun c hc => aX11_carried hR r0 r1 hl hv hc2 hc
  have gu : ∀ c x y, isG (rC ρ) (rmB ρ a 0) (rmS ρ a 0) (rmB ρ a 1) (rmS ρ a 1) k c x → isG (rC ρ) (rmB ρ a 0) (rmS ρ a 0) (rmB ρ a 1) (rmS ρ a 1) k c y → x = y := fun c x y p q => isG_u hv hl hc2 p q
  have gb : ∀ c x, isG (rC ρ) (rmB ρ a 0) (rmS ρ a 0) (rmB ρ a 1) (rmS ρ a 1) k c x → -10000 ≤ x ∧ x ≤ 4950 := fun c x p => isG_bd hv hl hc2 p
  let nb : Int → Int → Nat → Prop := fun y best d => ∀ b s f, tok (rmB ρ a 0) (rmS ρ a 0) (rmB ρ a 1) (rmS ρ a 1) b s f → ((s : Int) - (b : Int)).natAbs < d → ¬ btr (tval (rC ρ) (rmB ρ a 0) (rmS ρ a 0) (rmB ρ a 1) (rmS ρ a 1) k b s f) ((s : Int) - (b : Int)) y best
  have loop : ∀ (e d : Nat) (best : Int), d + e = 11 → 1 ≤ d → best.natAbs < d → (1 < d → ∃ y, isG (rC ρ) (rmB ρ a 0) (rmS ρ a 0) (rmB ρ a 1) (rmS ρ a 1) k best y ∧ nb y best d) → (d = 1 → best = 0) →
      wp (kN 89) mX11_two (fun rv I' R' => R = R' ∧ mKeep I I' ∧ twoQ ρ a k w rv) 57 [vR 68, none, vI k, vI w, vI best, vI (d : Int)] [] I8 R 89 := by
    intro e
    induction e with
    | zero =>
      intro d best hd h1 hb hI _
      obtain ⟨y, gy, ny⟩ := hI (by omega)
      have ay : att (rC ρ) (rmB ρ a 0) (rmS ρ a 0) (rmB ρ a 1) (rmS ρ a 1) k y best := by
        rcases gy.2 with e | e
        · have := ny 0 0 0 tok_0 (by omega)
          rw [tval_0, e] at this
          exact absurd (Or.inl (by decide)) this
        · exact e
      have by2 : best2 (rC ρ) (rmB ρ a 0) (rmS ρ a 0) (rmB ρ a 1) (rmS ρ a 1) k y best := ⟨ay, fun b s f ht => ny b s f ht (by have := (tval_bd (v := rC ρ) (k := k) hv hl hc2 ht).2.2; omega)⟩
      refine gX11_two_57 hR ⟨⟨by omega, by omega⟩, fun _ => ⟨hw, fun q => ⟨rfl, k8, Or.inr ⟨hy, y, best, by2, by rw [if_neg q]⟩⟩, fun q => ⟨_, car best (by omega), fun x3 I3 R3 q3 => ?_⟩⟩, fun q => absurd (by omega) q⟩
      obtain ⟨rfl, rfl, x, ex, gx⟩ := q3
      refine ⟨rfl, rfl, k8, Or.inr ⟨hy, y, best, by2, ?_⟩⟩
      rw [if_pos q, ex, gu best x y gx gy]
    | succ e ih =>
      intro d best hd h1 hb hI h0
      have nx : ∀ (best' y' : Int), best'.natAbs < d + 1 → isG (rC ρ) (rmB ρ a 0) (rmS ρ a 0) (rmB ρ a 1) (rmS ρ a 1) k best' y' → nb y' best' (d + 1) → wp (kN 89) mX11_two (fun rv I' R' => R = R' ∧ mKeep I I' ∧ twoQ ρ a k w rv) 57 [vR 68, none, vI k, vI w, vI best', vI ((d : Int) + 1)] [] I8 R 89 := fun best' y' p1 p2 p3 => by
        rw [show (d : Int) + 1 = ((d + 1 : Nat) : Int) by omega]
        exact ih (d + 1) best' (by omega) (by omega) p1 (fun _ => ⟨y', p2, p3⟩) (fun q => absurd q (by omega))
      refine gX11_two_57 hR ⟨⟨by omega, by omega⟩, fun q => absurd q (by omega), fun _ => ⟨_, car d (by omega), fun x4 I4 R4 q4 => ?_⟩⟩
      obtain ⟨rfl, rfl, x, ex, gx⟩ := q4
      injection ex with ex; injection ex with ex
      subst ex
      refine ⟨rfl, _, car best (by omega), fun x5 I5 R5 q5 => ?_⟩
      obtain ⟨rfl, rfl, y, ey, gy⟩ := q5
      injection ey with ey; injection ey with ey
      subst ey
      have bx := gb _ _ gx
      have bye := gb _ _ gy
      have ny : nb x5 best d := by
        by_cases hd1 : 1 < d
        · obtain ⟨y', gy', ny'⟩ := hI hd1
          rw [gu best x5 y' gy gy']
          exact ny'
        · have d1 : d = 1 := by omega
          have b0 := h0 d1
          intro b s f ht hlt
          have hz : (s : Int) - (b : Int) = 0 := by omega
          have := gy.1 b s f ht (by rw [b0]; exact hz)
          rw [hz, b0]
          unfold btr
          omega
      have all : ∀ (z best' y' : Int), isG (rC ρ) (rmB ρ a 0) (rmS ρ a 0) (rmB ρ a 1) (rmS ρ a 1) k (-(d : Int)) z → (∀ V cc : Int, (cc.natAbs < d → ¬ btr V cc x5 best) → (cc = d → V ≤ x4) → (cc = -(d : Int) → V ≤ z) → cc.natAbs < d + 1 → ¬ btr V cc y' best') → nb y' best' (d + 1) := fun z best' y' gz H b s f ht hlt =>
        H _ _ (fun q => ny b s f ht q) (fun q => gx.1 b s f ht q) (fun q => gz.1 b s f ht q) hlt
      refine ⟨rfl, ⟨by omega, by omega⟩, ⟨by omega, by omega⟩, fun q => ⟨_, car (-(d : Int)) (by omega), fun x8 I8' R8 q8 => ?_⟩, fun q => ⟨_, car (-(d : Int)) (by omega), fun x8 I8' R8 q8 => ?_⟩⟩
      · obtain ⟨rfl, rfl, z, ez, gz⟩ := q8
        injection ez with ez; injection ez with ez
        subst ez
        refine ⟨rfl, _, car best (by omega), fun x9 I9 R9 q9 => ?_⟩
        obtain ⟨rfl, rfl, y9, e9, g9⟩ := q9
        injection e9 with e9; injection e9 with e9
        subst e9
        have e95 := gu best x9 x5 g9 gy
        subst e95
        have bz := gb _ _ gz
        refine ⟨rfl, ⟨by omega, by omega⟩, ⟨by omega, by omega⟩, fun p => nx best x9 (by omega) gy (all x8 best x9 gz (fun V cc c1 c2 c3 c4 => ?_)), fun p => nx (-(d : Int)) x8 (by omega) gz (all x8 _ x8 gz (fun V cc c1 c2 c3 c4 => ?_))⟩
        · unfold btr at c1 ⊢; omega
        · unfold btr at c1 ⊢; omega
      · obtain ⟨rfl, rfl, z, ez, gz⟩ := q8
        injection ez with ez; injection ez with ez
        subst ez
        refine ⟨rfl, _, car (d : Int) (by omega), fun x9 I9 R9 q9 => ?_⟩
        obtain ⟨rfl, rfl, y9, e9, g9⟩ := q9
        injection e9 with e9; injection e9 with e9
        subst e9
        have e95 := gu (d : Int) x9 x4 g9 gx
        subst e95
        have bz := gb _ _ gz
        refine ⟨rfl, ⟨by omega, by omega⟩, ⟨by omega, by omega⟩, fun p => nx (d : Int) x9 (by omega) gx (all x8 _ x9 gz (fun V cc c1 c2 c3 c4 => ?_)), fun p => nx (-(d : Int)) x8 (by omega) gz (all x8 _ x8 gz (fun V cc c1 c2 c3 c4 => ?_))⟩
        · unfold btr at c1 ⊢; omega
        · unfold btr at c1 ⊢; omega
  exact loop 10 1 0 (by decide) (by decide) (by decide) (fun q => absurd q (by decide)) (fun _ => rfl)
