theorem wp.mono {K : KT} {mt : MI} {Q Q' : QT} {pc : Nat} {L S : List AV} {I : II} {R : RR} {N : Nat} (h : wp K mt Q pc L S I R N) (hq : ∀ rv I' R', Q rv I' R' → Q' rv I' R') : wp K mt Q' pc L S I R N := by
  intro p l e Rm s m args below meth c A D ρ0 ca0 N0 QQ g
  obtain ⟨a1, a2, a3, a4, a5, a6, a7, a8, a9, a10, a11, a12⟩ := g
  exact h p l e Rm s m args below meth c A D ρ0 ca0 N0 QQ ⟨a1, a2, a3, a4, a5, a6, a7, a8, a9, a10, a11, fun pc H locs ls ρ ca L rv I R hr hQ hS => a12 pc H locs ls ρ ca L rv I R hr (hq _ _ _ hQ) hS⟩
/-! write, of both -/
/-- the byte at j of a long -/
def bytA (v : Int) (j : Nat) : Int := (i64 v).toInt / ((2 ^ (8 * j) : Nat) : Int) % 256
theorem bytA_bd (v : Int) (j : Nat) : 0 ≤ bytA v j ∧ bytA v j ≤ 255 := by unfold bytA; omega
theorem and255_32 (z : Int32) : (z &&& i32 255).toInt = z.toBitVec.toNat % 256 := by
  have h : (z &&& i32 255).toBitVec.toNat = z.toBitVec.toNat % 256 := by
    rw [Int32.toBitVec_and, BitVec.toNat_and]
    exact Nat.and_two_pow_sub_one_eq_mod z.toBitVec.toNat 8
  show (z &&& i32 255).toBitVec.toInt = _
  rw [BitVec.toInt_eq_toNat_cond, h]
  rw [if_pos (by omega)]
  rfl
theorem and255_64 (z : Int64) : (z &&& i64 255).toInt = z.toBitVec.toNat % 256 := by
  have h : (z &&& i64 255).toBitVec.toNat = z.toBitVec.toNat % 256 := by
    rw [Int64.toBitVec_and, BitVec.toNat_and]
    exact Nat.and_two_pow_sub_one_eq_mod z.toBitVec.toNat 8
  show (z &&& i64 255).toBitVec.toInt = _
  rw [BitVec.toInt_eq_toNat_cond, h]
  rw [if_pos (by omega)]
  rfl
theorem low_nat (b : BitVec 64) : ((b.toNat % 256 : Nat) : Int) = b.toInt % 256 := by
  have hb := b.isLt
  rw [BitVec.toInt_eq_toNat_cond]
  split <;> omega
theorem byt_M {x : Int64} {s : Int64} {j : Nat} (hs : (s.toBitVec.smod 64).toNat = 8 * j) : ((x >>> s) &&& i64 255).toInt = x.toInt / ((2 ^ (8 * j) : Nat) : Int) % 256 := by
  rw [and255_64, Int64.toBitVec_shiftRight]
  have := low_nat (x.toBitVec.sshiftRight' (s.toBitVec.smod 64))
  rw [BitVec.toInt_sshiftRight', hs] at this
  rw [show ((x.toBitVec.sshiftRight' (s.toBitVec.smod 64)).toNat : Int) % 256 = (((x.toBitVec.sshiftRight' (s.toBitVec.smod 64)).toNat % 256 : Nat) : Int) by omega, this, Int.shiftRight_eq_div_pow]
  rfl
theorem byt_X {x : Int64} {s : UInt64} {j : Nat} (hj : j < 8) (hs : s.toNat % 64 = 8 * j) : (i32 (x.toUInt64 >>> s).toInt64.toInt &&& i32 255).toInt = x.toInt / ((2 ^ (8 * j) : Nat) : Int) % 256 := by
  have e : i32 (x.toUInt64 >>> s).toInt64.toInt = ((x.toUInt64 >>> s).toInt64).toInt32 := by
    conv => rhs; rw [← i64_of (x.toUInt64 >>> s).toInt64]
    exact (Int64.toInt32_ofInt).symm
  rw [e, and255_32, Int64.toBitVec_toInt32, UInt64.toBitVec_toInt64]
  have h1 : (x.toUInt64 >>> s).toBitVec.toNat = x.toBitVec.toNat >>> (8 * j) := by
    show (x.toUInt64 >>> s).toNat = _
    rw [UInt64.toNat_shiftRight, hs]; rfl
  have hx := x.toBitVec.isLt
  have hy : ((x.toUInt64 >>> s).toBitVec.signExtend 32).toNat % 256 = (x.toUInt64 >>> s).toBitVec.toNat % 256 := by
    rw [BitVec.signExtend_eq_setWidth_of_le _ (by decide), BitVec.toNat_setWidth]; omega
  rw [show (((x.toUInt64 >>> s).toBitVec.signExtend 32).toNat : Int) % 256 = ((((x.toUInt64 >>> s).toBitVec.signExtend 32).toNat % 256 : Nat) : Int) by omega, hy, h1]
  show _ = x.toBitVec.toInt / _ % 256
  rw [BitVec.toInt_eq_toNat_cond, Nat.shiftRight_eq_div_pow]
  generalize x.toBitVec.toNat = n at hx
  have hj' : j = 0 ∨ j = 1 ∨ j = 2 ∨ j = 3 ∨ j = 4 ∨ j = 5 ∨ j = 6 ∨ j = 7 := by omega
  rcases hj' with rfl | rfl | rfl | rfl | rfl | rfl | rfl | rfl <;> (simp only [Nat.reduceMul, Nat.reducePow] <;> split <;> omega)

theorem shfX {j : Nat} (hj : j < 8) : ((i32 (8 * (j : Int))).toInt64.toUInt64 &&& Int64.toUInt64 63).toNat % 64 = 8 * j := by
  have hj' : j = 0 ∨ j = 1 ∨ j = 2 ∨ j = 3 ∨ j = 4 ∨ j = 5 ∨ j = 6 ∨ j = 7 := by omega
  rcases hj' with rfl | rfl | rfl | rfl | rfl | rfl | rfl | rfl <;> decide
theorem shfM {j : Nat} (hj : j < 8) : (((i32 (8 * (j : Int))).toInt64 &&& 63).toBitVec.smod 64).toNat = 8 * j := by
  have hj' : j = 0 ∨ j = 1 ∨ j = 2 ∨ j = 3 ∨ j = 4 ∨ j = 5 ∨ j = 6 ∨ j = 7 := by omega
  rcases hj' with rfl | rfl | rfl | rfl | rfl | rfl | rfl | rfl <;> decide
theorem bytX (v : Int) {j : Nat} (hj : j < 8) : (i32 (((i64 v).toUInt64 >>> ((i32 (8 * (j : Int))).toInt64.toUInt64 &&& Int64.toUInt64 63)).toInt64.toInt) &&& i32 255).toInt = bytA v j := byt_X hj (shfX hj)
theorem bytM (v : Int) {j : Nat} (hj : j < 8) : (i64 ((i64 v >>> ((i32 (8 * (j : Int))).toInt64 &&& 63)).toInt) &&& i64 255).toInt = bytA v j := by rw [i64_of]; exact byt_M (shfM hj)
theorem app_cons {bs c : List Int} {x : Int} : bs ++ [x] ++ c = bs ++ x :: c := by rw [List.append_assoc]; rfl
/-- the n low bytes of v, the highest first -/
def wrB (v : Int) : Nat → List Int
  | 0 => []
  | j + 1 => bytA v j :: wrB v j
theorem wrB_len (v : Int) : ∀ n, (wrB v n).length = n
  | 0 => rfl
  | n + 1 => by show (wrB v n).length + 1 = n + 1; rw [wrB_len v n]
abbrev isWr (bs : List Int) (n : Int) : Prop := (1 ≤ n ∧ n ≤ 8) ∧ bs.length + n ≤ 300
def wrA (bs : List Int) (n v : Int) : List Int := if isWr bs n then bs ++ wrB v n.toNat else bs
def wrP (bs : List Int) (n : Int) : Int := if ¬ (1 ≤ n ∧ n ≤ 8) then -1 else if bs.length + n ≤ 300 then bs.length + n else -3
def okBs (bs : List Int) : Prop := ∀ b ∈ bs, 0 ≤ b ∧ b ≤ 255
theorem wrB_ok (v : Int) : ∀ n, okBs (wrB v n)
  | 0 => fun b hb => by simp [wrB] at hb
  | n + 1 => fun b hb => by
    rcases List.mem_cons.mp hb with q | q
    · rw [q]; exact bytA_bd v n
    · exact wrB_ok v n b q
theorem wrA_ok {bs : List Int} {n v : Int} (h : okBs bs) : okBs (wrA bs n v) := by
  unfold wrA
  split
  · intro b hb
    rcases List.mem_append.mp hb with q | q
    · exact h b q
    · exact wrB_ok _ _ b q
  · exact h
theorem wr35 {R : RR} {v : Int} (hR : SR R) : ∀ (j : Nat) (I : II) (bs : List Int), j ≤ 8 → XT I bs → bs.length + j ≤ 300 → 
    wp (kN 89) mX10_write (fun rv I' R' => R = R' ∧ frm [2, 3] I I' ∧ XT I' (bs ++ wrB v j) ∧ rv = vI ((bs.length + j : Nat) : Int)) 35 [vR 1, none, vL v, none, vI ((j : Int) - 1)] [] I R 89 := by
  intro j
  induction j with
  | zero =>
    intro I bs hj h hl
    refine gX10_write_35 hR ?_
    refine ⟨⟨by omega, by omega⟩, fun _ => ⟨rfl, frm_rfl, by rw [show bs ++ wrB v 0 = bs from List.append_nil bs]; exact h, by rw [h.1]; rfl⟩, fun q => absurd q (by omega)⟩
  | succ j ih =>
    intro I bs hj h hl
    refine gX10_write_35 hR ?_
    rw [show ((j + 1 : Nat) : Int) - 1 = (j : Int) by omega, bytX v (j := j) (by omega)]
    refine ⟨⟨by omega, by omega⟩, fun q => absurd q (by omega), fun _ => ⟨_, aX8_add (v := bytA v j) hR h (by omega), fun I2 R2 q2 => ?_⟩⟩
    obtain ⟨rfl, f2, x2⟩ := q2
    refine ⟨rfl, ?_⟩
    have := ih I2 (bs ++ [bytA v j]) (by omega) x2 (by rw [List.length_append]; show bs.length + 1 + j ≤ 300; omega)
    rw [show (j : Int) + -1 = (j : Int) - 1 by omega]
    refine wp.mono this (fun rv I' R' q => ?_)
    obtain ⟨rfl, f3, x3, e3⟩ := q
    refine ⟨rfl, frm_trans f2 f3, by rw [app_cons] at x3; exact x3, ?_⟩
    rw [e3, List.length_append]
    show vI ((bs.length + 1 + j : Nat) : Int) = _
    congr 1
    omega
theorem aX10_write {I : II} {R : RR} {bs : List Int} {n v : Int} (hR : SR R) (h : XT I bs) (h1 : InI n) :
    Spec mX10_write [vR 1, vI n, vL v] I R 89 89 (fun rv I' R' => R = R' ∧ frm [2, 3] I I' ∧ XT I' (wrA bs n v) ∧ rv = vI (wrP bs n)) := by
  have hb := h.2.1
  refine sX10_write (gX10_write_0 hR ?_)
  rw [h.1]
  refine ⟨h1, fun hc => ⟨⟨by omega, by omega⟩, fun hd => ?_, fun hd => ⟨rfl, frm_rfl, by unfold wrA; rw [if_neg (fun q => hd q.2)]; exact h, by unfold wrP; rw [if_neg (fun q => q hc), if_neg hd]⟩⟩, fun hc => ⟨rfl, frm_rfl, by unfold wrA; rw [if_neg (fun q => hc q.1)]; exact h, by unfold wrP; rw [if_pos hc]⟩⟩
  have := wr35 (v := v) hR n.toNat I bs (by omega) h (by omega)
  rw [show ((n.toNat : Nat) : Int) = n by omega] at this
  refine wp.mono this (fun rv I' R' q => ?_)
  obtain ⟨rfl, f3, x3, e3⟩ := q
  refine ⟨rfl, f3, by unfold wrA; rw [if_pos ⟨hc, hd⟩]; exact x3, ?_⟩
  rw [e3]; unfold wrP; rw [if_neg (fun q => q hc), if_pos hd]
  congr 1
  omega
theorem mwr34 {R : RR} {v : Int} (hR : SR R) : ∀ (j : Nat) (I : II) (bs : List Int), j ≤ 8 → MT I bs → bs.length + j ≤ 300 → 
    wp (kN 89) mX11_write (fun rv I' R' => R = R' ∧ frm [68, 69] I I' ∧ (∀ i, i ≠ 0 → I' 68 i = I 68 i) ∧ MT I' (bs ++ wrB v j) ∧ rv = vI ((bs.length + j : Nat) : Int)) 34 [vR 68, none, vL v, none, vI ((j : Int) - 1)] [] I R 89 := by
  intro j
  induction j with
  | zero =>
    intro I bs hj h hl
    refine gX11_write_34 hR ?_
    refine ⟨⟨by omega, by omega⟩, fun _ => ⟨rfl, frm_rfl, fun _ _ => rfl, by rw [show bs ++ wrB v 0 = bs from List.append_nil bs]; exact h, by rw [h.1]; rfl⟩, fun q => absurd q (by omega)⟩
  | succ j ih =>
    intro I bs hj h hl
    refine gX11_write_34 hR ?_
    rw [show ((j + 1 : Nat) : Int) - 1 = (j : Int) by omega, bytM v (j := j) (by omega), h.1, Int.toNat_natCast]
    refine ⟨⟨by omega, by omega⟩, fun q => absurd q (by omega), fun _ => ⟨⟨by omega, by omega⟩, fun I3 q3 I4 q4 => ?_⟩⟩
    have x4 : MT I4 (bs ++ [bytA v j]) := by
      refine ⟨?_, by rw [List.length_append]; show bs.length + 1 ≤ 300; omega, fun i b hb => ?_⟩
      · rw [q4, up2_self, q3, up2_ne (by decide), h.1, List.length_append]; rfl
      · rw [q4, up2_ne (by decide), q3, up2_at]
        rcases appI_at hb with ⟨e1, e2⟩ | ⟨e1, e2⟩
        · rw [if_pos e1, e2]
        · rw [if_neg e1]; exact h.2.2 i b e2
    have := ih I4 (bs ++ [bytA v j]) (by omega) x4 (by rw [List.length_append]; show bs.length + 1 + j ≤ 300; omega)
    rw [show (j : Int) + -1 = (j : Int) - 1 by omega]
    refine wp.mono this (fun rv I' R' q => ?_)
    obtain ⟨rfl, f3, k3, x3, e3⟩ := q
    refine ⟨rfl, frm_trans (I1 := I4) (by rw [q4, q3]; exact frm_trans (frm_up (by decide)) (frm_up (by decide))) f3, fun i hi => by rw [k3 i hi, q4, up2_nj hi, q3, up2_ne (by decide)], by rw [app_cons] at x3; exact x3, ?_⟩
    rw [e3, List.length_append]
    show vI ((bs.length + 1 + j : Nat) : Int) = _
    congr 1
    omega
theorem aX11_write {I : II} {R : RR} {bs : List Int} {n v : Int} (hR : SR R) (h : MT I bs) (h1 : InI n) :
    Spec mX11_write [vR 68, vI n, vL v] I R 89 89 (fun rv I' R' => R = R' ∧ frm [68, 69] I I' ∧ (∀ i, i ≠ 0 → I' 68 i = I 68 i) ∧ MT I' (wrA bs n v) ∧ rv = vI (wrP bs n)) := by
  have hb := h.2.1
  refine sX11_write (gX11_write_0 hR ?_)
  rw [h.1]
  refine ⟨h1, fun hc => ⟨⟨by omega, by omega⟩, fun hd => ?_, fun hd => ⟨rfl, frm_rfl, fun _ _ => rfl, by unfold wrA; rw [if_neg (fun q => hd q.2)]; exact h, by unfold wrP; rw [if_neg (fun q => q hc), if_neg hd]⟩⟩, fun hc => ⟨rfl, frm_rfl, fun _ _ => rfl, by unfold wrA; rw [if_neg (fun q => hc q.1)]; exact h, by unfold wrP; rw [if_pos hc]⟩⟩
  have := mwr34 (v := v) hR n.toNat I bs (by omega) h (by omega)
  rw [show ((n.toNat : Nat) : Int) = n by omega] at this
  refine wp.mono this (fun rv I' R' q => ?_)
  obtain ⟨rfl, f3, k3, x3, e3⟩ := q
  refine ⟨rfl, f3, k3, by unfold wrA; rw [if_pos ⟨hc, hd⟩]; exact x3, ?_⟩
  rw [e3]; unfold wrP; rw [if_neg (fun q => q hc), if_pos hd]
  congr 1
  omega
