/-! making of cells, the JDK's own functions, references in arrays, the script -/
theorem cl_df0 : ∀ c, c < 11 → ∀ k, k < nfc c → defaultValue (fty c k) = if fref c k = true then .null else .int 0 := by decide +kernel
theorem range_map_succ {α : Type} (f : Nat → α) (N : Nat) : (List.range (N + 1)).map f = (List.range N).map f ++ [f N] := by
  rw [List.range_succ, List.map_append]; rfl
theorem cell_agr {ρ ρ' : Nat → Nat} {ca ca' : Nat → ClassId} {I : II} {R : RR} {i : Nat} (h1 : ca' i = ca i) (h2 : ∀ j, rfv ρ' (R i j) = rfv ρ (R i j)) : cellE ρ' ca' I R i = cellE ρ ca I R i := by
  unfold cellE
  have h3 : fval ρ' I R (sh i).2 i = fval ρ I R (sh i).2 i := by
    funext k
    unfold fval
    rw [h2]
  have h4 : (fun j => rfv ρ' (R i j)) = fun j => rfv ρ (R i j) := funext h2
  rw [h1, h3, h4]
theorem rfv_up {ρ : Nat → Nat} {N r q : Nat} (h : r ≤ N) : rfv (up1 ρ (N + 1) q) r = rfv ρ r := by
  unfold rfv up1
  rw [if_neg (show ¬ r = N + 1 by omega)]
theorem ws_push {ρ : Nat → Nat} {ca : Nat → ClassId} {I : II} {R : RR} {N q : Nat} {cA : ClassId} {e : va_E} (hR : ∀ i j, R i j ≤ N) (he : cellE (up1 ρ (N + 1) q) (up1 ca (N + 1) cA) I R (N + 1) = e) : wsW ρ ca I R N ++ [(q, e)] = wsW (up1 ρ (N + 1) q) (up1 ca (N + 1) cA) I R (N + 1) := by
  unfold wsW
  rw [range_map_succ]
  congr 1
  · apply List.map_congr_left
    intro j hj
    have hj := List.mem_range.mp hj
    have e1 : up1 ρ (N + 1) q (j + 1) = ρ (j + 1) := by unfold up1; rw [if_neg (by omega)]
    have e2 : up1 ca (N + 1) cA (j + 1) = ca (j + 1) := by unfold up1; rw [if_neg (by omega)]
    rw [e1, cell_agr e2 (fun k => rfv_up (hR _ _))]
  · rw [he]
    have e1 : up1 ρ (N + 1) q (N + 1) = q := by unfold up1; rw [if_pos rfl]
    rw [e1]
theorem agr_up {α : Type} {f f0 : Nat → α} {N0 N : Nat} {v : α} (h8 : N0 ≤ N) (h : agr f f0 N0 N) : agr (up1 f (N + 1) v) f0 N0 (N + 1) := fun r hr => by
  unfold up1
  rw [if_neg (by omega)]
  exact h r (by omega)
theorem agr_self {α : Type} {f : Nat → α} {N : Nat} {v : α} : agr (up1 f (N + 1) v) f N (N + 1) := fun r hr => by
  unfold up1
  rw [if_neg (by omega)]
theorem arK_up {D : va_G} {ca : Nat → ClassId} {N : Nat} {s : State} {cA : ClassId} (h : arK D ca N s) (h2 : ¬ (sh (N + 1)).1 = 0 → va_K D vwCl [(cA, aty (sh (N + 1)).1)] s) : arK D (up1 ca (N + 1) cA) (N + 1) s := fun i h0 h1 hk => by
  by_cases e : i = N + 1
  · subst e
    have e2 : up1 ca (N + 1) cA (N + 1) = cA := by unfold up1; rw [if_pos rfl]
    rw [e2]
    exact h2 hk
  · have e2 : up1 ca (N + 1) cA i = ca i := by unfold up1; rw [if_neg e]
    rw [e2]
    exact h i h0 (by omega) hk
section MORE
variable {K : KT} {mt : MI} {Q : QT} {pc pc' : Nat} {L S : List AV} {I : II} {R : RR} {N : Nat}
set_option maxHeartbeats 4000000 in
theorem wp_new {c0 n idx : Nat} {C : String} {T : u_T} (hd : decode mt.2.1 pc = .ok (.new idx, 3)) (hc : vwCl[c0]? = some (C, T, n)) (hsh : sh (N + 1) = (0, c0)) (w1 : Cond.classLink mt.1.cls idx C ∈ TB) (w2 : Cond.instantiable C n ∈ TB) (w3 : Cond.initialized C ∈ TB) (hM : N + 1 ≤ K.1) (okL : okP N (N + 1) L) (okS : okP N (N + 1) S) (hR : ∀ i j, R i j ≤ N) (hI0 : ∀ j, I (N + 1) j = 0) (hR0 : ∀ j, R (N + 1) j = 0) (hp : pc + 3 = pc')
    (kk : wp K mt Q pc' L (vR (N + 1) :: S) I R (N + 1)) : wp K mt Q pc L S I R N := by
  subst hp
  intro p l e Rm s m args below meth c A D ρ0 ca0 N0 QQ g H locs ls ρ ca ⟨s1, s2, s3, s4, s5, s6, s7, s8⟩
  have hrm := g.2.2.2.2.2.2.2.1
  have c1 := cum_le s8
  have c2 := cum_le hM
  have hcs : cum (N + 1) = cum N + n := by
    show cum N + szS (sh (N + 1)) = _
    rw [hsh]
    show cum N + nfc c0 = _
    rw [nfc_of hc]
  refine va_new (ci := c0) (D := D) (cl := vwCl) (tys := []) (C := C) (T := T) (N := n) (Ts := TB) (fs := (List.range n).map (fval ρ I R c0 (N + 1))) g.1 g.2.1 g.2.2.2.2.1 (cl_ws hc) (fty c0) (cl_ty hc) g.2.2.2.1 (g.2.2.2.2.1 _ w1) (g.2.2.2.2.1 _ w2) (g.2.2.2.2.1 _ w3) g.2.2.2.2.2.2.1 s1 s2 s3 g.2.2.2.2.2.1 hc (fun j hj => ?_) (by omega) (by omega) hd (fun q H1 a1 a2 a3 => ?_)
  · have h1 := cl_df0 c0 (vw_lt hc) j (by rw [nfc_of hc]; exact hj)
    rw [h1]
    unfold vp_V
    rw [List.getD_eq_getElem?_getD, fval_at hj]
    show _ = fval ρ I R c0 (N + 1) j
    unfold fval
    rw [hI0, hR0]
    rfl
  · have he : cellE (up1 ρ (N + 1) q) (up1 ca (N + 1) 0) I R (N + 1) = .inr (c0, (List.range n).map (fval ρ I R c0 (N + 1))) := by
      rw [cell_obj hsh, nfc_of hc]
      congr 2
      apply List.map_congr_left
      intro k _
      unfold fval
      rw [rfv_up (hR _ _)]
    rw [ws_push hR he] at a1 a2
    have e1 : N - N0 + 1 = N + 1 - N0 := by omega
    have e2 : cum N - cum N0 + n = cum (N + 1) - cum N0 := by omega
    have e3 : (vR (N + 1) :: S).map (cv (up1 ρ (N + 1) q)) = .ref q :: S.map (cv ρ) := by
      rw [List.map_cons, cv_pos (by omega), map_agr agr_self okS]
      unfold up1
      rw [if_pos rfl]
    have k9 := kk p l e Rm s m args below meth c A D ρ0 ca0 N0 QQ g H1 locs ls (up1 ρ (N + 1) q) (up1 ca (N + 1) 0) ⟨a1, a2, a3, s4.agr agr_self okL, arK_up s5 (fun h => absurd (by rw [hsh]) h), agr_up s8 s6, agr_up s8 s7, by omega⟩
    rw [e1, e2]
    rw [e3] at k9
    exact k9
set_option maxHeartbeats 4000000 in
theorem wp_newa {atype : ArrayType} {k n : Nat} {i : Int} (hd : decode mt.2.1 pc = .ok (.newarray atype, 2)) (hsh : sh (N + 1) = (k, n)) (hk : (k = 1 ∧ atype = .int) ∨ (k = 2 ∧ atype = .boolean)) (hi : i = (n : Int)) (w1 : Cond.arrayClass (newarray.typeOf atype) ∈ TB) (hM : N + 1 ≤ K.1) (okL : okP N (N + 1) L) (okS : okP N (N + 1) S) (hR : ∀ i j, R i j ≤ N) (hI0 : ∀ j, I (N + 1) j = 0) (hp : pc + 2 = pc')
    (kk : wp K mt Q pc' L (vR (N + 1) :: S) I R (N + 1)) : wp K mt Q pc L (vI i :: S) I R N := by
  subst hp hi
  intro p l e Rm s m args below meth c A D ρ0 ca0 N0 QQ g H locs ls ρ ca ⟨s1, s2, s3, s4, s5, s6, s7, s8⟩
  have hrm := g.2.2.2.2.2.2.2.1
  have c1 := cum_le s8
  have c2 := cum_le hM
  have hn : n ≤ 1000 := by have := sh_ok (N + 1); rw [hsh] at this; exact this
  have hk0 : ¬ k = 0 := by omega
  have hcs : cum (N + 1) = cum N + n := by
    show cum N + szS (sh (N + 1)) = _
    rw [hsh]
    unfold szS
    rw [if_neg hk0]
  have hty : newarray.typeOf atype = aty k := by rcases hk with ⟨rfl, rfl⟩ | ⟨rfl, rfl⟩ <;> rfl
  have hn0 : ¬ i32 (n : Int) < 0 := by rw [i32_0, i32_lt ⟨by omega, by omega⟩ InI_0]; omega
  refine va_newa (D := D) (cl := vwCl) (tys := []) (a0 := (n, .inl (fun j => i32 (I (N + 1) j)))) (N' := n) g.1 g.2.1 (g.2.2.2.2.1 _ w1) hty g.2.2.2.2.2.2.1 s1 s2 s3 g.2.2.2.2.2.1 (fun cA => ?_) hn0 (by rw [i32_cl (by omega) (by omega)]; omega) ?_ (by omega) (by omega) hd (fun q cA H1 a0 a1 a2 a3 => ?_)
  · rw [vp_cell_i]
    congr 1
    funext j
    rw [hI0]
    rcases hk with ⟨rfl, rfl⟩ | ⟨rfl, rfl⟩ <;> rfl
  · rcases hk with ⟨rfl, rfl⟩ | ⟨rfl, rfl⟩
    · show n * 4 ≤ _
      omega
    · show n * 1 ≤ _
      omega
  · have he : cellE (up1 ρ (N + 1) q) (up1 ca (N + 1) cA) I R (N + 1) = .inl (cA, n, .inl (fun j => i32 (I (N + 1) j))) := by
      rw [cell_int hsh (by omega) (by omega)]
      unfold up1
      rw [if_pos rfl]
    rw [ws_push hR he] at a1 a2
    have e1 : N - N0 + 1 = N + 1 - N0 := by omega
    have e2 : cum N - cum N0 + n = cum (N + 1) - cum N0 := by omega
    have e3 : (vR (N + 1) :: S).map (cv (up1 ρ (N + 1) q)) = .ref q :: S.map (cv ρ) := by
      rw [List.map_cons, cv_pos (by omega), map_agr agr_self okS]
      unfold up1
      rw [if_pos rfl]
    have k9 := kk p l e Rm s m args below meth c A D ρ0 ca0 N0 QQ g H1 locs ls (up1 ρ (N + 1) q) (up1 ca (N + 1) cA) ⟨a1, a2, a3, s4.agr agr_self okL, arK_up s5 (fun _ => by rw [hsh]; exact a0), agr_up s8 s6, agr_up s8 s7, by omega⟩
    rw [e1, e2]
    rw [e3] at k9
    exact k9
set_option maxHeartbeats 4000000 in
theorem wp_newq {n idx : Nat} {i : Int} (hd : decode mt.2.1 pc = .ok (.anewarray idx, 3)) (hsh : sh (N + 1) = (3, n)) (hi : i = (n : Int)) (w1 : Cond.classLink mt.1.cls idx RX1 ∈ TB) (hM : N + 1 ≤ K.1) (okL : okP N (N + 1) L) (okS : okP N (N + 1) S) (hR : ∀ i j, R i j ≤ N) (hR0 : ∀ j, R (N + 1) j = 0) (hp : pc + 3 = pc')
    (kk : wp K mt Q pc' L (vR (N + 1) :: S) I R (N + 1)) : wp K mt Q pc L (vI i :: S) I R N := by
  subst hp hi
  intro p l e Rm s m args below meth c A D ρ0 ca0 N0 QQ g H locs ls ρ ca ⟨s1, s2, s3, s4, s5, s6, s7, s8⟩
  have hrm := g.2.2.2.2.2.2.2.1
  have c1 := cum_le s8
  have c2 := cum_le hM
  have hn : n ≤ 1000 := by have := sh_ok (N + 1); rw [hsh] at this; exact this
  have hcs : cum (N + 1) = cum N + n := by
    show cum N + szS (sh (N + 1)) = _
    rw [hsh]
    rfl
  have hn0 : ¬ i32 (n : Int) < 0 := by rw [i32_0, i32_lt ⟨by omega, by omega⟩ InI_0]; omega
  refine va_newq (D := D) (cl := vwCl) (tys := []) (C := RX1) (N' := n) g.1 g.2.1 g.2.2.2.1 (g.2.2.2.2.1 _ w1) g.2.2.2.2.2.2.2.2.1.2.2.1 g.2.2.2.2.2.2.1 s1 s2 s3 g.2.2.2.2.2.1 hn0 (by rw [i32_cl (by omega) (by omega)]; omega) (by omega) (by omega) (by omega) hd (fun q cA H1 a0 a1 a2 a3 => ?_)
  have he : cellE (up1 ρ (N + 1) q) (up1 ca (N + 1) cA) I R (N + 1) = .inl (cA, n, .inr (.inr (.inr (.inr (fun _ => none))))) := by
    rw [cell_ref hsh (by omega)]
    have : (fun j => rfv (up1 ρ (N + 1) q) (R (N + 1) j)) = fun _ => none := funext fun j => by rw [hR0]; rfl
    rw [this]
    unfold up1
    rw [if_pos rfl]
  rw [ws_push hR he] at a1 a2
  have e1 : N - N0 + 1 = N + 1 - N0 := by omega
  have e2 : cum N - cum N0 + n = cum (N + 1) - cum N0 := by omega
  have e3 : (vR (N + 1) :: S).map (cv (up1 ρ (N + 1) q)) = .ref q :: S.map (cv ρ) := by
    rw [List.map_cons, cv_pos (by omega), map_agr agr_self okS]
    unfold up1
    rw [if_pos rfl]
  have k9 := kk p l e Rm s m args below meth c A D ρ0 ca0 N0 QQ g H1 locs ls (up1 ρ (N + 1) q) (up1 ca (N + 1) cA) ⟨a1, a2, a3, s4.agr agr_self okL, arK_up s5 (fun _ => by rw [hsh]; exact a0), agr_up s8 s6, agr_up s8 s7, by omega⟩
  rw [e1, e2]
  rw [e3] at k9
  exact k9
theorem wp_objInit {idx r : Nat} (hd : decode mt.2.1 pc = .ok (.invokespecial idx, 3)) (h0 : 0 < r) (w1 : Cond.methodLink mt.1.cls idx objectInit ∈ TB) (w2 : Cond.instanceMethod objectInit ∈ TB) (w3 : Cond.code objectInit ⟨#[0xb1]⟩ 1 none ∈ TB) (hf : 1 ≤ mt.2.2.2.2.1 ∧ catS S + 12 ≤ mt.2.2.2.2.2) (hp : pc + 3 = pc')
    (kk : wp K mt Q pc' L S I R N) : wp K mt Q pc L (vR r :: S) I R N := by
  subst hp
  intro p l e Rm s m args below meth c A D ρ0 ca0 N0 QQ g H locs ls ρ ca hs
  have hrm := g.2.2.2.2.2.2.2.1
  refine W.objInit (a := ρ r) (rest := S.map (cv ρ)) g.1 g.2.1 g.2.2.2.1 (g.2.2.2.2.1 _ w1) (g.2.2.2.2.1 _ w2) (g.2.2.2.2.1 _ w3) rfl (by rw [g.2.2.1]; exact hs.2.2.2.1.1) (by show (cv ρ (vR r) :: S.map (cv ρ)) = _; rw [cv_pos h0]) hd (by omega) ?_ (kk p l e Rm s m args below meth c A D ρ0 ca0 N0 QQ g H locs ls ρ ca hs)
  rw [catS_eq]
  show 2 * 0 + _ + 12 ≤ _
  omega
theorem wp_mmax {idx : Nat} {x y : Int} (ha : InI x) (hb2 : InI y) (hd : decode mt.2.1 pc = .ok (.invokestatic idx, 3)) (w1 : Cond.methodLink mt.1.cls idx Lib.Math.max.name ∈ TB) (w2 : Cond.static Lib.Math.max.name ∈ TB) (w3 : Cond.initialized "java/lang/Math" ∈ TB) (w4 : Cond.code Lib.Math.max.name Lib.Math.max.code 2 (some .int) ∈ TB) (hf : 1 ≤ mt.2.2.2.2.1 ∧ catS S + 13 ≤ mt.2.2.2.2.2) (hNK : N ≤ K.1) (hp : pc + 3 = pc')
    (kk : wp K mt Q pc' L (vI (max x y) :: S) I R N) : wp K mt Q pc L (vI y :: vI x :: S) I R N := by
  subst hp
  intro p l e Rm s m args below meth c A D ρ0 ca0 N0 QQ g H locs ls ρ ca hs
  have hrm := g.2.2.2.2.2.2.2.1
  have h8 : N0 ≤ N := hs.2.2.2.2.2.2.2
  have c1 := cum_le h8
  have c2 := cum_le hNK
  have k9 := kk p l e Rm s m args below meth c A D ρ0 ca0 N0 QQ g H locs ls ρ ca hs
  have e9 : (if i32 x < i32 y then i32 y else i32 x) = i32 (max x y) := by
    by_cases h : x < y
    · rw [if_pos ((i32_lt ha hb2).mpr h), Int.max_eq_right (by omega)]
    · rw [if_neg (fun q => h ((i32_lt ha hb2).mp q)), Int.max_eq_left (by omega)]
  refine va_mmax g.1 g.2.1 (by rw [g.2.2.1]; exact hs.2.2.2.1.1.symm) g.2.2.2.1 (g.2.2.2.2.1 _ w1) (g.2.2.2.2.1 _ w2) (g.2.2.2.2.1 _ w3) (g.2.2.2.2.1 _ w4) (by omega) (by rw [catS_eq]; omega) (by omega) (by omega) hd ?_
  rw [e9]
  exact k9

theorem wp_mmin {idx : Nat} {x y : Int} (ha : InI x) (hb2 : InI y) (hd : decode mt.2.1 pc = .ok (.invokestatic idx, 3)) (w1 : Cond.methodLink mt.1.cls idx Lib.Math.min.name ∈ TB) (w2 : Cond.static Lib.Math.min.name ∈ TB) (w3 : Cond.initialized "java/lang/Math" ∈ TB) (w4 : Cond.code Lib.Math.min.name Lib.Math.min.code 2 (some .int) ∈ TB) (hf : 1 ≤ mt.2.2.2.2.1 ∧ catS S + 13 ≤ mt.2.2.2.2.2) (hNK : N ≤ K.1) (hp : pc + 3 = pc')
    (kk : wp K mt Q pc' L (vI (min x y) :: S) I R N) : wp K mt Q pc L (vI y :: vI x :: S) I R N := by
  subst hp
  intro p l e Rm s m args below meth c A D ρ0 ca0 N0 QQ g H locs ls ρ ca hs
  have hrm := g.2.2.2.2.2.2.2.1
  have h8 : N0 ≤ N := hs.2.2.2.2.2.2.2
  have c1 := cum_le h8
  have c2 := cum_le hNK
  have k9 := kk p l e Rm s m args below meth c A D ρ0 ca0 N0 QQ g H locs ls ρ ca hs
  have e9 : (if i32 y < i32 x then i32 y else i32 x) = i32 (min x y) := by
    by_cases h : y < x
    · rw [if_pos ((i32_lt hb2 ha).mpr h), Int.min_eq_right (by omega)]
    · rw [if_neg (fun q => h ((i32_lt hb2 ha).mp q)), Int.min_eq_left (by omega)]
  refine va_mmin g.1 g.2.1 (by rw [g.2.2.1]; exact hs.2.2.2.1.1.symm) g.2.2.2.1 (g.2.2.2.2.1 _ w1) (g.2.2.2.2.1 _ w2) (g.2.2.2.2.1 _ w3) (g.2.2.2.2.1 _ w4) (by omega) (by rw [catS_eq]; omega) (by omega) (by omega) hd ?_
  rw [e9]
  exact k9

theorem wp_mabs {idx : Nat} {x : Int} (ha : InI x) (hd : decode mt.2.1 pc = .ok (.invokestatic idx, 3)) (w1 : Cond.methodLink mt.1.cls idx Lib.Math.abs.name ∈ TB) (w2 : Cond.static Lib.Math.abs.name ∈ TB) (w3 : Cond.initialized "java/lang/Math" ∈ TB) (w4 : Cond.code Lib.Math.abs.name Lib.Math.abs.code 1 (some .int) ∈ TB) (hf : 1 ≤ mt.2.2.2.2.1 ∧ catS S + 13 ≤ mt.2.2.2.2.2) (hNK : N ≤ K.1) (hp : pc + 3 = pc')
    (kk : wp K mt Q pc' L (vI (((x.natAbs : Nat) : Int)) :: S) I R N) : wp K mt Q pc L (vI x :: S) I R N := by
  subst hp
  intro p l e Rm s m args below meth c A D ρ0 ca0 N0 QQ g H locs ls ρ ca hs
  have hrm := g.2.2.2.2.2.2.2.1
  have h8 : N0 ≤ N := hs.2.2.2.2.2.2.2
  have c1 := cum_le h8
  have c2 := cum_le hNK
  have k9 := kk p l e Rm s m args below meth c A D ρ0 ca0 N0 QQ g H locs ls ρ ca hs
  have e9 : (if 0 ≤ i32 x then i32 x else 0 - i32 x) = i32 (((x.natAbs : Nat) : Int)) := by
    by_cases h : 0 ≤ x
    · rw [if_pos (by rw [i32_0]; exact (i32_le InI_0 ha).mpr h), show ((x.natAbs : Nat) : Int) = x by omega]
    · rw [if_neg (fun q => h ((i32_le InI_0 ha).mp (by rw [← i32_0]; exact q))), show ((x.natAbs : Nat) : Int) = 0 - x by omega, ← i32_sub, i32_0]
  refine va_mabs g.1 g.2.1 (by rw [g.2.2.1]; exact hs.2.2.2.1.1.symm) g.2.2.2.1 (g.2.2.2.2.1 _ w1) (g.2.2.2.2.1 _ w2) (g.2.2.2.2.1 _ w3) (g.2.2.2.2.1 _ w4) (by omega) (by rw [catS_eq]; omega) (by omega) (by omega) hd ?_
  rw [e9]
  exact k9

/-- n places of src from sp on, written into dst from dp on -/
def cpy2 (I : II) (src dst sp dp n : Nat) : II := fun a b => if a = dst ∧ dp ≤ b ∧ b < dp + n then I src (sp + (b - dp)) else I a b
theorem i32_cpy {I : II} {src dst sp dp n : Nat} : va_cpy (fun j => i32 (I src j)) (fun j => i32 (I dst j)) sp dp n = fun j => i32 (cpy2 I src dst sp dp n dst j) := by
  funext j
  unfold va_cpy cpy2
  by_cases h : dp ≤ j ∧ j < dp + n
  · rw [if_pos h, if_pos ⟨rfl, h⟩]
  · rw [if_neg h, if_neg (fun q => h q.2)]
set_option maxHeartbeats 4000000 in
theorem wp_copy {idx src dst n0 n1 : Nat} {sp dp n : Int} (hd : decode mt.2.1 pc = .ok (.invokestatic idx, 3)) (w1 : Cond.methodLink mt.1.cls idx arraycopyName ∈ TB) (w2 : Cond.native arraycopyName ∈ TB) (w3 : Cond.static arraycopyName ∈ TB) (w4 : Cond.initialized "java/lang/System" ∈ TB) (h0 : isA N src 1 n0) (h1 : isA N dst 1 n1) (hs0 : 0 ≤ sp ∧ 0 ≤ dp ∧ 0 ≤ n ∧ sp + n ≤ (n0 : Int) ∧ dp + n ≤ (n1 : Int)) (hf : 1 ≤ mt.2.2.2.2.1 ∧ catS S + (nativeFrameWords "java/lang/System" "arraycopy" 5 + 11) ≤ mt.2.2.2.2.2) (hp : pc + 3 = pc') {I' : II} (hI : I' = cpy2 I src dst sp.toNat dp.toNat n.toNat)
    (kk : wp K mt Q pc' L S I' R N) : wp K mt Q pc L (vI n :: vI dp :: vR dst :: vI sp :: vR src :: S) I R N := by
  subst hp hI
  intro p l e Rm s m args below meth c A D ρ0 ca0 N0 QQ g H locs ls ρ ca ⟨s1, s2, s3, s4, s5, s6⟩
  have hrm := g.2.2.2.2.2.2.2.1
  obtain ⟨p0, q0, r0⟩ := h0
  obtain ⟨p1, q1, r1⟩ := h1
  have hn0 : n0 ≤ 1000 := by have := sh_ok src; rw [r0] at this; exact this
  have hn1 : n1 ≤ 1000 := by have := sh_ok dst; rw [r1] at this; exact this
  have hka0 := s5 src p0 q0 (by rw [r0]; show ¬ 1 = 0; decide)
  have hka1 := s5 dst p1 q1 (by rw [r1]; show ¬ 1 = 0; decide)
  rw [r0] at hka0
  rw [r1] at hka1
  have hK2 : va_K D vwCl ([(ca src, aty 1)] ++ [(ca dst, aty 1)]) s := hka0.app hka1
  have e1 := i32_cl (x := sp) hs0.1 (by omega)
  have e2 := i32_cl (x := dp) hs0.2.1 (by omega)
  have e3 := i32_cl (x := n) hs0.2.2.1 (by omega)
  show W p l e Rm s m args below meth c H locs _ _ QQ (F0 m pc ls (.int (i32 n) :: .int (i32 dp) :: cv ρ (vR dst) :: .int (i32 sp) :: cv ρ (vR src) :: S.map (cv ρ)))
  rw [cv_pos p0, cv_pos p1]
  refine va_copyi (D := D) (cl := vwCl) (tys := [(ca src, aty 1)] ++ [(ca dst, aty 1)]) (n0 := n0) (n1 := n1) (f := fun j => i32 (I src j)) (g := fun j => i32 (I dst j)) (ty := .int) g.1 g.2.1 (by rw [g.2.2.1]; exact s4.1.symm) g.2.2.2.1 (g.2.2.2.2.1 _ w1) (g.2.2.2.2.1 _ w2) (g.2.2.2.2.1 _ w3) (g.2.2.2.2.1 _ w4) hK2 s1 s2 s3 (src - 1) (dst - 1) 0 1 ((ws_at p0 q0).trans (by rw [cell_int r0 (by decide) (by decide)])) ((ws_at p1 q1).trans (by rw [cell_int r1 (by decide) (by decide)])) rfl rfl rfl
    (by rw [i32_0, i32_lt ⟨by omega, by omega⟩ InI_0]; omega) (by rw [i32_0, i32_lt ⟨by omega, by omega⟩ InI_0]; omega) (by rw [i32_0, i32_lt ⟨by omega, by omega⟩ InI_0]; omega) (by rw [e1, e3]; omega) (by rw [e2, e3]; omega) (fun _ _ => rfl) (by omega) (by rw [catS_eq]; omega) hd (fun H1 locs1 a1 a2 a3 => ?_)
  rw [e1, e2, e3, i32_cpy, ws_set (I' := cpy2 I src dst sp.toNat dp.toNat n.toNat) (R' := R) p1 (cell_int r1 (by decide) (by decide)) (fun i h => cell_congr (fun j => by unfold cpy2; rw [if_neg (fun q => h q.1)]) (fun _ => rfl))] at a1 a2
  exact kk p l e Rm s m args below meth c A D ρ0 ca0 N0 QQ g H1 locs1 ls ρ ca ⟨a1, a2, a3, s4, s5, s6⟩
theorem wp_aald {r k n : Nat} {i : Int} (hd : decode mt.2.1 pc = .ok (.aaload, 1)) (ho : isA N r k n) (hk : k = 3 ∨ k = 4) (hi : 0 ≤ i ∧ i < (n : Int)) {j : Nat} (hj : i.toNat = j) (hp : pc + 1 = pc') (kk : wp K mt Q pc' L (vR (R r j) :: S) I R N) : wp K mt Q pc L (vI i :: vR r :: S) I R N := by
  subst hp hj
  intro p l e Rm s m args below meth c A D ρ0 ca0 N0 QQ g H locs ls ρ ca hs
  have k9 := kk p l e Rm s m args below meth c A D ρ0 ca0 N0 QQ g H locs ls ρ ca hs
  obtain ⟨h0, hN, hsh⟩ := ho
  have hn : n ≤ 1000 := by have := sh_ok r; rw [hsh] at this; exact this
  have hka := hs.2.2.2.2.1 r h0 hN (by rw [hsh]; show ¬ k = 0; omega)
  rw [hsh] at hka
  have hin := i32_in hi.1 hi.2 hn
  have hlt : (i32 i).toNatClampNeg < n := Nat.not_le.mp fun q => hin (Or.inr q)
  show W p l e Rm s m args below meth c H locs _ _ QQ (F0 m pc ls (.int (i32 i) :: cv ρ (vR r) :: S.map (cv ρ)))
  rw [cv_pos h0]
  have hcell := hs.1 (r - 1) _ ((ws_at h0 hN).trans (by rw [cell_ref hsh (by omega)]))
  refine W.aald (v := va_rf (rfv ρ (R r (i32 i).toNatClampNeg))) (ty := aty k) g.1 g.2.1 hcell ((hka.2 0 _ rfl).1 n (fun j => va_rf (rfv ρ (R r j)))) (by rcases hk with rfl | rfl <;> rfl) (fun q => by cases q) (by show ¬ (i32 i < 0 ∨ (arrV _ _ _).slots.size ≤ _); rw [arrV_size]; exact hin) (by show (arrV _ _ _).slots[_]? = _; rw [arrV_read _ _ hlt]) rfl rfl hd ?_
  rw [i32_cl hi.1 (by omega)]
  exact k9
set_option maxHeartbeats 4000000 in
theorem wp_aast {r n v : Nat} {i : Int} (hd : decode mt.2.1 pc = .ok (.aastore, 1)) (ho : isA N r 3 n) (hv : isO N v 1) (hi : 0 ≤ i ∧ i < (n : Int)) {j : Nat} (hj : i.toNat = j) (hp : pc + 1 = pc') {R' : RR} (hI : R' = up2 R r j v) (kk : wp K mt Q pc' L S I R' N) : wp K mt Q pc L (vR v :: vI i :: vR r :: S) I R N := by
  subst hj
  subst hp hI
  intro p l e Rm s m args below meth c A D ρ0 ca0 N0 QQ g H locs ls ρ ca ⟨s1, s2, s3, s4, s5, s6⟩
  obtain ⟨h0, hN, hsh⟩ := ho
  obtain ⟨v0, vN, vsh⟩ := hv
  have hn : n ≤ 1000 := by have := sh_ok r; rw [hsh] at this; exact this
  have hka := s5 r h0 hN (by rw [hsh]; show ¬ 3 = 0; decide)
  rw [hsh] at hka
  show W p l e Rm s m args below meth c H locs _ _ QQ (F0 m pc ls (cv ρ (vR v) :: .int (i32 i) :: cv ρ (vR r) :: S.map (cv ρ)))
  rw [cv_pos h0, cv_pos v0]
  refine va_astq (D := D) (cl := vwCl) (tys := [(ca r, aty 3)]) (n := n) (f := fun j => rfv ρ (R r j)) (r := (RX1, TX1, 2)) (ci := 1) g.1 g.2.1 hka s1 s2 s3 (r - 1) 0 (v - 1) ((ws_at h0 hN).trans (by rw [cell_ref hsh (by decide)])) rfl ((ws_at v0 vN).trans (by rw [cell_obj vsh])) rfl (i32_in hi.1 hi.2 hn) hd (fun H1 locs1 a1 a2 a3 => ?_)
  have e9 : va_up (fun j => rfv ρ (R r j)) i.toNat (some (ρ v)) = fun j => rfv ρ (up2 R r i.toNat v r j) := by
    funext j
    unfold va_up up2
    by_cases h : j = i.toNat
    · rw [if_pos h, if_pos ⟨rfl, h⟩, rfv_pos v0]
    · rw [if_neg h, if_neg (fun q => h q.2)]
  rw [i32_cl hi.1 (by omega), e9, ws_set (I' := I) (R' := up2 R r i.toNat v) h0 (cell_ref hsh (by decide)) cell_up_R] at a1 a2
  exact kk p l e Rm s m args below meth c A D ρ0 ca0 N0 QQ g H1 locs1 ls ρ ca ⟨a1, a2, a3, s4, s5, s6⟩
theorem wp_sld {i : Int} (hN : N < 1000) (hd : decode mt.2.1 pc = .ok (.iaload, 1)) (hi : 0 ≤ i ∧ i < ((K.2.1 - 1 : Nat) : Int)) (hp : pc + 1 = pc') (kk : wp K mt Q pc' L (vI (K.2.2 i.toNat).toInt :: S) I R N) : wp K mt Q pc L (vI i :: vR 1000 :: S) I R N := by
  subst hp
  intro p l e Rm s m args below meth c A D ρ0 ca0 N0 QQ g H locs ls ρ ca hs
  have k9 := kk p l e Rm s m args below meth c A D ρ0 ca0 N0 QQ g H locs ls ρ ca hs
  have k9 : W p l e Rm s m args below meth c H locs (N - N0) (cum N - cum N0) QQ (F0 m (pc + 1) ls (.int (i32 (K.2.2 i.toNat).toInt) :: S.map (cv ρ))) := k9
  rw [i32_of] at k9
  rcases g.2.2.2.2.2.2.2.2.2.1 with h | ⟨hX, hb, hA, hl⟩
  · omega
  · have hρ : ρ 1000 = ρ0 1000 := hs.2.2.2.2.2.1 1000 (Or.inr hN)
    show W p l e Rm s m args below meth c H locs _ _ QQ (F0 m pc ls (.int (i32 i) :: cv ρ (vR 1000) :: S.map (cv ρ)))
    rw [cv_pos (by decide), hρ]
    refine va_sld g.1 g.2.1 hX hb hA hs.2.2.1 (by rw [vp_in_iff, i32_toInt ⟨by omega, by omega⟩]; exact hi) hd ?_
    rw [i32_cl hi.1 (by omega)]
    exact k9
theorem wp_slen (hN : N < 1000) (hs0 : 0 < K.2.1) (hd : decode mt.2.1 pc = .ok (.arraylength, 1)) (hp : pc + 1 = pc') (kk : wp K mt Q pc' L (vI ((K.2.1 - 1 : Nat) : Int) :: S) I R N) : wp K mt Q pc L (vR 1000 :: S) I R N := by
  subst hp
  intro p l e Rm s m args below meth c A D ρ0 ca0 N0 QQ g H locs ls ρ ca hs
  have k9 := kk p l e Rm s m args below meth c A D ρ0 ca0 N0 QQ g H locs ls ρ ca hs
  rcases g.2.2.2.2.2.2.2.2.2.1 with h | ⟨hX, hb, hA, hl⟩
  · omega
  · have hρ : ρ 1000 = ρ0 1000 := hs.2.2.2.2.2.1 1000 (Or.inr hN)
    show W p l e Rm s m args below meth c H locs _ _ QQ (F0 m pc ls (cv ρ (vR 1000) :: S.map (cv ρ)))
    rw [cv_pos (by decide), hρ]
    refine va_slen g.1 g.2.1 hX hb hA hs.2.2.1 hd ?_
    rw [← Int32.ofInt_eq_ofNat]
    exact k9
theorem rvI {mt' : MI} {Q' : QT} {rest : List AV} {M' : Nat} (hr : mt'.2.2.2.1 = some .int) (k : ∀ x I' R', Q' (vI x) I' R' → wp K mt Q pc L (vI x :: rest) I' R' M') : ∀ rv I' R', okret mt'.2.2.2.1 rv → Q' rv I' R' → wp K mt Q pc L (psh rv rest) I' R' M' := fun rv I' R' ho hq => by
  rw [hr] at ho
  rcases rv with _ | x | x | x
  · exact ho.elim
  · exact k x I' R' hq
  · exact ho.elim
  · exact ho.elim
theorem rvZ {mt' : MI} {Q' : QT} {rest : List AV} {M' : Nat} (hr : mt'.2.2.2.1 = some .boolean) (k : ∀ x I' R', (x = 0 ∨ x = 1) → Q' (vI x) I' R' → wp K mt Q pc L (vI x :: rest) I' R' M') : ∀ rv I' R', okret mt'.2.2.2.1 rv → Q' rv I' R' → wp K mt Q pc L (psh rv rest) I' R' M' := fun rv I' R' ho hq => by
  rw [hr] at ho
  rcases rv with _ | x | x | x
  · exact ho.elim
  · exact k x I' R' ho hq
  · exact ho.elim
  · exact ho.elim
theorem rvL {mt' : MI} {Q' : QT} {rest : List AV} {M' : Nat} (hr : mt'.2.2.2.1 = some .long) (k : ∀ x I' R', Q' (vL x) I' R' → wp K mt Q pc L (vL x :: rest) I' R' M') : ∀ rv I' R', okret mt'.2.2.2.1 rv → Q' rv I' R' → wp K mt Q pc L (psh rv rest) I' R' M' := fun rv I' R' ho hq => by
  rw [hr] at ho
  rcases rv with _ | x | x | x
  · exact ho.elim
  · exact ho.elim
  · exact k x I' R' hq
  · exact ho.elim
theorem rvV {mt' : MI} {Q' : QT} {rest : List AV} {M' : Nat} (hr : mt'.2.2.2.1 = none) (k : ∀ I' R', Q' none I' R' → wp K mt Q pc L rest I' R' M') : ∀ rv I' R', okret mt'.2.2.2.1 rv → Q' rv I' R' → wp K mt Q pc L (psh rv rest) I' R' M' := fun rv I' R' ho hq => by
  rw [hr] at ho
  rcases rv with _ | x | x | x
  · exact k I' R' hq
  · exact ho.elim
  · exact ho.elim
  · exact ho.elim
end MORE
theorem wp_getRc {K : KT} {mt : MI} {Q : QT} {pc pc' : Nat} {L S : List AV} {I : II} {R : RR} {N : Nat} {r c0 k n idx j : Nat} {C : String} {T : u_T} (hd : decode mt.2.1 pc = .ok (.getfield idx, 3)) (hc : vwCl[c0]? = some (C, T, n)) (hk : k < n) (hr : fref c0 k = true) (lk : Cond.fieldLink mt.1.cls idx (T k).1 (T k).2.1 (T k).2.2.1 ∈ TB) (ho : isO N r c0) (hj : R r k = j) (hp : pc + 3 = pc') (kk : wp K mt Q pc' L (vR j :: S) I R N) : wp K mt Q pc L (vR r :: S) I R N := by
  subst hj
  exact wp_getR hd hc hk hr lk ho hp kk
theorem leP_n {L : List AV} : leP [] L := trivial
theorem leP_s {a b : List AV} {x : AV} (h : leP a b) : leP (x :: a) (x :: b) := by
  cases x with
  | none => exact h
  | some v => exact ⟨rfl, h⟩
theorem leP_d {a b : List AV} {y : AV} (h : leP a b) : leP (none :: a) (y :: b) := h
/-- the room of a method that makes no cells -/
abbrev kN (N : Nat) : KT := (N, 0, fun _ => 0)
