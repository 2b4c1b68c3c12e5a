/-! rows of rows, made -/
theorem cell_agr2 {ρ ρ' : Nat → Nat} {ca ca' : Nat → ClassId} {I : II} {R R' : RR} {i : Nat} (h1 : ca' i = ca i) (h2 : ∀ j, rfv ρ' (R' i j) = rfv ρ (R i j)) : cellE ρ' ca' I R' i = cellE ρ ca I R i := by
  unfold cellE
  rw [h1]
  have h3 : fval ρ' I R' (sh i).2 i = fval ρ I R (sh i).2 i := by
    funext k
    unfold fval
    rw [h2]
  have h4 : (fun j => rfv ρ' (R' i j)) = fun j => rfv ρ (R i j) := funext h2
  rw [h3, h4]
section MNA
variable {K : KT} {mt : MI} {Q : QT} {pc pc' : Nat} {L S : List AV} {I : II} {R : RR} {N : Nat}
set_option maxHeartbeats 8000000 in
theorem wp_mna {idx x0 n0 : Nat} (hd : decode mt.2.1 pc = .ok (.multianewarray idx 2, 4)) (hsh : sh (N + 1) = (4, 4)) (hs1 : ∀ j, j < 4 → sh (N + 2 + j) = (1, 3)) (w1 : Cond.classLink mt.1.cls idx ("[" ++ (FieldType.array FieldType.int).toString) ∈ TB) (w2 : Cond.arrayClass .int ∈ TB) (hx : isA N x0 1 n0) (hM : N + 5 ≤ K.1) (okL : okP N (N + 5) L) (okS : okP N (N + 5) S) (hR : ∀ i j, R i j ≤ N) (hI0 : ∀ i j, N < i → I i j = 0) (hR0 : ∀ i j, N < i → R i j = 0) (hp : pc + 4 = pc')
    {R' : RR} (hR' : R' = fun i j => if i = N + 1 ∧ j < 4 then N + 2 + j else R i j)
    (kk : wp K mt Q pc' L (vR (N + 1) :: S) I R' (N + 5)) : wp K mt Q pc L (vI 3 :: vI 4 :: S) I R N := by
  subst hp
  intro p l e Rm s m args below meth c A D ρ0 ca0 N0 QQ g H locs ls ρ ca ⟨s1, s2, s3, s4, s5, s6, s7, s8⟩
  have hrm := g.2.2.2.2.2.2.2.1
  have c1 := cum_le s8
  have c2 := cum_le hM
  have hcs : cum (N + 5) = cum N + 4 + 12 := by
    show cum N + szS (sh (N + 1)) + szS (sh (N + 2)) + szS (sh (N + 3)) + szS (sh (N + 4)) + szS (sh (N + 5)) = _
    have e0 := hs1 0 (by decide)
    have e1 := hs1 1 (by decide)
    have e2 := hs1 2 (by decide)
    have e3 := hs1 3 (by decide)
    rw [hsh, show N + 2 = N + 2 + 0 from rfl, e0, show N + 3 = N + 2 + 1 from rfl, e1, show N + 4 = N + 2 + 2 from rfl, e2, show N + 5 = N + 2 + 3 from rfl, e3]
    rfl
  have kx := s5 x0 hx.1 hx.2.1 (by rw [hx.2.2]; exact Nat.one_ne_zero)
  rw [hx.2.2] at kx
  have kx : va_K D vwCl [(ca x0, .int)] s := kx
  have hcy : s.vm.findClass (FieldType.array .int).toString = some (ca x0) := (kx.2 0 _ rfl).2
  have z4 : i32 4 = (4 : Int32) := by decide
  have z3 : i32 3 = (3 : Int32) := by decide
  refine va_mna (D := D) (cl := vwCl) (tys := []) (X := wsW ρ ca I R N) (L := []) (f := fun _ => .inl (0, (0, .inl (fun _ => 0)))) (ty := .int) (N' := 4) (K' := 3) (z := (3, .inl (fun _ => 0))) g.1 g.2.1 g.2.2.2.1 (g.2.2.2.2.1 _ w1) g.2.2.2.2.2.2.2.2.1.2.2.2 (g.2.2.2.2.1 _ w2) hcy g.2.2.2.2.2.2.1 (by show va_P D vwCl (wsW ρ ca I R N ++ []) H; rw [List.append_nil]; exact s1) (by show va_D A (wsW ρ ca I R N ++ []); rw [List.append_nil]; exact s2) s3 g.2.2.2.2.2.1 (n := i32 4) (k := i32 3) (by decide) (by decide) (by decide) (by decide) (by decide) (by decide) (by decide) (by decide) (by decide) (by omega) (by omega) (fun _ => rfl) hd (fun q r cA H1 ri rL kA a1 a2 a3 => ?_)
  let ρ' : Nat → Nat := fun a => if a = N + 1 then q else if N + 2 ≤ a ∧ a ≤ N + 5 then r (a - (N + 2)) else ρ a
  let ca' : Nat → ClassId := fun a => if a = N + 1 then cA else if N + 2 ≤ a ∧ a ≤ N + 5 then ca x0 else ca a
  have rlo : ∀ a, a ≤ N ∨ N + 5 < a → ρ' a = ρ a := fun a ha => by
    show (if a = N + 1 then q else if N + 2 ≤ a ∧ a ≤ N + 5 then r (a - (N + 2)) else ρ a) = ρ a
    rw [if_neg (by omega), if_neg (by omega)]
  have clo : ∀ a, a ≤ N ∨ N + 5 < a → ca' a = ca a := fun a ha => by
    show (if a = N + 1 then cA else if N + 2 ≤ a ∧ a ≤ N + 5 then ca x0 else ca a) = ca a
    rw [if_neg (by omega), if_neg (by omega)]
  have r1 : ρ' (N + 1) = q := if_pos rfl
  have rj : ∀ j, j < 4 → ρ' (N + 2 + j) = r j := fun j hj => by
    show (if N + 2 + j = N + 1 then q else if N + 2 ≤ N + 2 + j ∧ N + 2 + j ≤ N + 5 then r (N + 2 + j - (N + 2)) else ρ (N + 2 + j)) = r j
    rw [if_neg (by omega), if_pos (by omega), show N + 2 + j - (N + 2) = j by omega]
  have c1' : ca' (N + 1) = cA := if_pos rfl
  have cj : ∀ j, j < 4 → ca' (N + 2 + j) = ca x0 := fun j hj => by
    show (if N + 2 + j = N + 1 then cA else if N + 2 ≤ N + 2 + j ∧ N + 2 + j ≤ N + 5 then ca x0 else ca (N + 2 + j)) = ca x0
    rw [if_neg (by omega), if_pos (by omega)]
  have rfv_lo : ∀ x, x ≤ N → rfv ρ' x = rfv ρ x := fun x hx => by unfold rfv; rw [rlo x (Or.inl hx)]
  have eL : wsW ρ' ca' I R' (N + 5) = (wsW ρ ca I R N ++ [(q, .inl (cA, 4, .inr (.inr (.inr (.inr (fun i => if i < 4 then some (r i) else none))))))]) ++ va_pl ([] ++ (List.range 4).map r) (vr_up (fun _ => .inl (0, (0, .inl (fun _ => 0)))) ((List.range 4).map r) (.inl (ca x0, (3, .inl (fun _ => 0))))) := by
    have b1 : wsW ρ' ca' I R' (N + 5) = (List.range N).map (fun i => (ρ' (i + 1), cellE ρ' ca' I R' (i + 1))) ++ [(ρ' (N + 1), cellE ρ' ca' I R' (N + 1))] ++ [(ρ' (N + 2), cellE ρ' ca' I R' (N + 2))] ++ [(ρ' (N + 3), cellE ρ' ca' I R' (N + 3))] ++ [(ρ' (N + 4), cellE ρ' ca' I R' (N + 4))] ++ [(ρ' (N + 5), cellE ρ' ca' I R' (N + 5))] := by
      unfold wsW
      rw [range_map_succ, range_map_succ, range_map_succ, range_map_succ, range_map_succ]
    have b2 : (List.range N).map (fun i => (ρ' (i + 1), cellE ρ' ca' I R' (i + 1))) = wsW ρ ca I R N := by
      unfold wsW
      refine List.map_congr_left (fun i hi => ?_)
      have hi := List.mem_range.mp hi
      rw [rlo (i + 1) (Or.inl (by omega)), cell_agr2 (clo (i + 1) (Or.inl (by omega))) (fun j => ?_)]
      rw [hR']
      show rfv ρ' (if i + 1 = N + 1 ∧ j < 4 then N + 2 + j else R (i + 1) j) = _
      rw [if_neg (by omega), rfv_lo _ (hR _ _)]
    have b3 : cellE ρ' ca' I R' (N + 1) = .inl (cA, 4, .inr (.inr (.inr (.inr (fun i => if i < 4 then some (r i) else none))))) := by
      rw [cell_ref hsh (by decide), c1']
      have : (fun j => rfv ρ' (R' (N + 1) j)) = fun i => if i < 4 then some (r i) else none := funext fun j => by
        rw [hR']
        show rfv ρ' (if N + 1 = N + 1 ∧ j < 4 then N + 2 + j else R (N + 1) j) = _
        by_cases hj : j < 4
        · rw [if_pos ⟨rfl, hj⟩, if_pos hj, rfv_pos (by omega), rj j hj]
        · rw [if_neg (fun x => hj x.2), if_neg hj, hR0 _ _ (by omega)]; rfl
      rw [this]
    have b4 : ∀ j, j < 4 → cellE ρ' ca' I R' (N + 2 + j) = .inl (ca x0, (3, .inl (fun _ => 0))) := fun j hj => by
      rw [cell_int (hs1 j hj) (by decide) (by decide), cj j hj]
      have : (fun j' => i32 (I (N + 2 + j) j')) = fun _ => (0 : Int32) := funext fun j' => by rw [hI0 _ _ (by omega)]; rfl
      rw [this]
    rw [b1, b2, b3, r1, show N + 3 = N + 2 + 1 from rfl, show N + 4 = N + 2 + 2 from rfl, show N + 5 = N + 2 + 3 from rfl, rj 1 (by decide), rj 2 (by decide), rj 3 (by decide), b4 1 (by decide), b4 2 (by decide), b4 3 (by decide)]
    have r0 := rj 0 (by decide)
    have b40 := b4 0 (by decide)
    rw [show N + 2 + 0 = N + 2 from rfl] at r0 b40
    rw [r0, b40]
    have e4 : (List.range 4).map r = [r 0, r 1, r 2, r 3] := rfl
    rw [e4]
    unfold va_pl vr_up
    simp
  have k9 := kk p l e Rm s m args below meth c A D ρ0 ca0 N0 QQ g H1 locs ls ρ' ca' ⟨by rw [eL]; exact a1, by rw [eL]; exact a2, a3, s4.agr rlo okL, fun i h0 h1 hk => ?_, fun a ha => (rlo a (by omega)).trans (s6 a (by omega)), fun a ha => (clo a (by omega)).trans (s7 a (by omega)), by omega⟩
  · have e1 : N - N0 + 1 + 4 = N + 5 - N0 := by omega
    have e2 : cum N - cum N0 + 4 + 4 * 3 = cum (N + 5) - cum N0 := by omega
    have e3 : (vR (N + 1) :: S).map (cv ρ') = .ref q :: S.map (cv ρ) := by
      rw [List.map_cons, cv_pos (by omega), map_agr rlo okS, r1]
    rw [e1, e2]
    rw [e3] at k9
    exact k9
  · by_cases hi : i ≤ N
    · rw [clo i (Or.inl hi)]; exact s5 i h0 hi hk
    · by_cases hi1 : i = N + 1
      · subst hi1
        rw [c1', hsh]
        exact kA
      · obtain ⟨j, hj⟩ : ∃ j, i = N + 2 + j := ⟨i - (N + 2), by omega⟩
        subst hj
        rw [cj j (by omega), hs1 j (by omega)]
        exact kx
end MNA
/-! THE MAKING of the class's parts: I, R are zero beyond N, and come to more -/
def Zr (N : Nat) (I : II) (R : RR) : Prop := (∀ i j, N < i → I i j = 0) ∧ (∀ i j, N < i → R i j = 0) ∧ ∀ i j, R i j ≤ N
theorem Zr_n {N : Nat} {I : II} {R : RR} (h : Zr N I R) : Zr (N + 1) I R := ⟨fun i j hi => h.1 i j (by omega), fun i j hi => h.2.1 i j (by omega), fun i j => by have := h.2.2 i j; omega⟩
theorem Zr_R {N r k x : Nat} {I : II} {R R' : RR} (h : Zr N I R) (hr : r ≤ N) (hx : x ≤ N) (e : R' = up2 R r k x) : Zr N I R' := by
  subst e
  refine ⟨h.1, fun i j hi => ?_, fun i j => ?_⟩
  · rw [up2_ne (by omega)]; exact h.2.1 i j hi
  · unfold up2; split
    · exact hx
    · exact h.2.2 i j
theorem Zr_I {N r k : Nat} {x : Int} {I I' : II} {R : RR} (h : Zr N I R) (hr : r ≤ N) (e : I' = up2 I r k x) : Zr N I' R := by
  subst e
  exact ⟨fun i j hi => by rw [up2_ne (by omega)]; exact h.1 i j hi, h.2⟩
theorem Zr_f {N : Nat} {I I' : II} {R : RR} {T : List Nat} (h : Zr N I R) (hf : frm T I I') (hT : ∀ x ∈ T, x ≤ N) : Zr N I' R :=
  ⟨fun i j hi => by rw [hf i (fun q => by have := hT i q; omega) j]; exact h.1 i j hi, h.2⟩
theorem Zr_m {N : Nat} {I : II} {R R' : RR} (h : Zr N I R) (e : R' = fun i j => if i = N + 1 ∧ j < 4 then N + 2 + j else R i j) : Zr (N + 5) I R' := by
  subst e
  refine ⟨fun i j hi => h.1 i j (by omega), fun i j hi => ?_, fun i j => ?_⟩
  · show (if i = N + 1 ∧ j < 4 then N + 2 + j else R i j) = 0
    rw [if_neg (by omega)]; exact h.2.1 i j (by omega)
  · show (if i = N + 1 ∧ j < 4 then N + 2 + j else R i j) ≤ N + 5
    split
    · omega
    · have := h.2.2 i j; omega
/-- references set, one after the other -/
def upL : List (Nat × Nat × Nat) → RR → RR
  | [], R => R
  | e :: t, R => upL t (up2 R e.1 e.2.1 e.2.2)
theorem upL_app : ∀ (a b : List (Nat × Nat × Nat)) (R : RR), upL (a ++ b) R = upL b (upL a R)
  | [], _, _ => rfl
  | e :: t, b, R => upL_app t b (up2 R e.1 e.2.1 e.2.2)
theorem upL_one {R R' : RR} {l : List (Nat × Nat × Nat)} {R0' : RR} {r k x : Nat} (h : R = upL l R0') (e : R' = up2 R r k x) : R' = upL (l ++ [(r, k, x)]) R0' := by
  rw [upL_app, ← h, e]; rfl
theorem upL_more {R R' : RR} {l b : List (Nat × Nat × Nat)} {R0' : RR} (h : R = upL l R0') (e : R' = upL b R) : R' = upL (l ++ b) R0' := by
  rw [upL_app, ← h, e]
theorem upL_4 {R R' : RR} {n : Nat} (e : R' = fun i j => if i = n ∧ j < 4 then n + 1 + j else R i j) : R' = upL [(n, 0, n + 1), (n, 1, n + 2), (n, 2, n + 3), (n, 3, n + 4)] R := by
  subst e
  funext i j
  show (if i = n ∧ j < 4 then n + 1 + j else R i j) = up2 (up2 (up2 (up2 R n 0 (n + 1)) n 1 (n + 2)) n 2 (n + 3)) n 3 (n + 4) i j
  unfold up2
  by_cases hi : i = n
  · by_cases h0 : j = 0
    · subst h0; simp [hi]
    · by_cases h1 : j = 1
      · subst h1; simp [hi]
      · by_cases h2 : j = 2
        · subst h2; simp [hi]
        · by_cases h3 : j = 3
          · subst h3; simp [hi]
          · rw [if_neg (by omega), if_neg (by omega), if_neg (by omega), if_neg (by omega), if_neg (by omega)]
  · rw [if_neg (by omega), if_neg (by omega), if_neg (by omega), if_neg (by omega), if_neg (by omega)]

set_option maxHeartbeats 4000000 in
theorem iX8 {N : Nat} {I : II} {R : RR} (hN : N + 1 < 1000) (h0 : 0 < N) (hs : sh N = (0, 8)) (h1 : sh (N + 1) = (1, 300)) (hz : Zr N I R) :
    Spec mX8_init [vR N] I R N (N + 1) (fun _ I' R' => R' = upL [(N, 0, N + 1)] R ∧ Zr (N + 1) I' R' ∧ frm [N] I I' ∧ I' N 1 = 0) := by
  refine Spec_of_wp pyX8_init rfl (Nat.le_of_ble_eq_true rfl) (by omega) hN ?_
  refine wp_aload_n (pc' := 1) (q := 0) (i := 0) rfl rfl dX8_init_0 rfl ?_
  refine wp_objInit (pc' := 4) dX8_init_1 h0 lkX8_3 oi_inst oi_code ⟨Nat.le_of_ble_eq_true rfl, Nat.le_of_ble_eq_true rfl⟩ rfl ?_
  refine wp_aload_n (pc' := 5) (q := 0) (i := 0) rfl rfl dX8_init_4 rfl ?_
  refine wp_sipush (pc' := 8) (by decide) dX8_init_5 rfl ?_
  refine wp_newa (pc' := 10) (k := 1) (n := 300) dX8_init_8 h1 (Or.inl ⟨rfl, rfl⟩) rfl ay_int (show N + 1 ≤ N + 1 by omega) (okP_cons (Or.inl (by omega)) okP_nil) (okP_cons (Or.inl (by omega)) okP_nil) hz.2.2 (fun j => hz.1 _ j (by omega)) rfl ?_
  have hz1 : Zr (N + 1) I R := Zr_n hz
  obtain ⟨R_2, eR2⟩ : ∃ X : RR, X = up2 R N 0 ((N + 1)) := ⟨_, rfl⟩
  refine wp_putFR (pc' := 13) (k := 0) (Or.inr ⟨_, rfl⟩) dX8_init_10 vc8 (by decide) rfl rfl rfl rfl (tyX8_ok 0 (by decide)) lfX8_9 ⟨by omega, by omega, hs⟩ rfl eR2 ?_
  have hz3 : Zr (N + 1) I R_2 := Zr_R hz1 (by omega) (by omega) eR2
  refine wp_aload_n (pc' := 14) (q := 0) (i := 0) rfl rfl dX8_init_13 rfl ?_
  refine wp_iconst (pc' := 15) dX8_init_14 rfl ?_
  obtain ⟨I_4, eI4⟩ : ∃ X : II, X = up2 I N 1 0 := ⟨_, rfl⟩
  refine wp_putI (pc' := 18) (k := 1) dX8_init_15 vc8 (by decide) rfl rfl (tyX8_ok 1 (by decide)) lfX8_15 ⟨by omega, by omega, hs⟩ rfl eI4 ?_
  have hz5 : Zr (N + 1) I_4 R_2 := Zr_I hz3 (by omega) eI4
  refine wp_vreturn dX8_init_18 rfl rfl ?_
  refine ⟨?_, hz5, ?_, ?_⟩
  · rw [eR2]; rfl
  · rw [eI4]; exact (frm_up (by simp))
  · rw [eI4, up2_self]

set_option maxHeartbeats 4000000 in
theorem iX5 {N : Nat} {I : II} {R : RR} (hN : N + 1 < 1000) (h0 : 0 < N) (hs : sh N = (0, 5)) (h1 : sh (N + 1) = (1, 2)) (hz : Zr N I R) :
    Spec mX5_init [vR N] I R N (N + 1) (fun _ I' R' => R' = upL [(N, 0, N + 1)] R ∧ Zr (N + 1) I' R' ∧ frm [N] I I') := by
  refine Spec_of_wp pyX5_init rfl (Nat.le_of_ble_eq_true rfl) (by omega) hN ?_
  refine wp_aload_n (pc' := 1) (q := 0) (i := 0) rfl rfl dX5_init_0 rfl ?_
  refine wp_objInit (pc' := 4) dX5_init_1 h0 lkX5_3 oi_inst oi_code ⟨Nat.le_of_ble_eq_true rfl, Nat.le_of_ble_eq_true rfl⟩ rfl ?_
  refine wp_aload_n (pc' := 5) (q := 0) (i := 0) rfl rfl dX5_init_4 rfl ?_
  refine wp_iconst (pc' := 6) dX5_init_5 rfl ?_
  refine wp_newa (pc' := 8) (k := 1) (n := 2) dX5_init_6 h1 (Or.inl ⟨rfl, rfl⟩) rfl ay_int (show N + 1 ≤ N + 1 by omega) (okP_cons (Or.inl (by omega)) okP_nil) (okP_cons (Or.inl (by omega)) okP_nil) hz.2.2 (fun j => hz.1 _ j (by omega)) rfl ?_
  have hz1 : Zr (N + 1) I R := Zr_n hz
  obtain ⟨R_2, eR2⟩ : ∃ X : RR, X = up2 R N 0 ((N + 1)) := ⟨_, rfl⟩
  refine wp_putFR (pc' := 11) (k := 0) (Or.inr ⟨_, rfl⟩) dX5_init_8 vc5 (by decide) rfl rfl rfl rfl (tyX5_ok 0 (by decide)) lfX5_11 ⟨by omega, by omega, hs⟩ rfl eR2 ?_
  have hz3 : Zr (N + 1) I R_2 := Zr_R hz1 (by omega) (by omega) eR2
  refine wp_aload_n (pc' := 12) (q := 0) (i := 0) rfl rfl dX5_init_11 rfl ?_
  refine wp_iconst (pc' := 13) dX5_init_12 rfl ?_
  obtain ⟨I_4, eI4⟩ : ∃ X : II, X = up2 I N 1 0 := ⟨_, rfl⟩
  refine wp_putI (pc' := 16) (k := 1) dX5_init_13 vc5 (by decide) rfl rfl (tyX5_ok 1 (by decide)) lfX5_15 ⟨by omega, by omega, hs⟩ rfl eI4 ?_
  have hz5 : Zr (N + 1) I_4 R_2 := Zr_I hz3 (by omega) eI4
  refine wp_aload_n (pc' := 17) (q := 0) (i := 0) rfl rfl dX5_init_16 rfl ?_
  refine wp_iconst (pc' := 18) dX5_init_17 rfl ?_
  obtain ⟨I_6, eI6⟩ : ∃ X : II, X = up2 I_4 N 2 0 := ⟨_, rfl⟩
  refine wp_putI (pc' := 21) (k := 2) dX5_init_18 vc5 (by decide) rfl rfl (tyX5_ok 2 (by decide)) lfX5_19 ⟨by omega, by omega, hs⟩ rfl eI6 ?_
  have hz7 : Zr (N + 1) I_6 R_2 := Zr_I hz5 (by omega) eI6
  refine wp_vreturn dX5_init_21 rfl rfl ?_
  refine ⟨?_, hz7, ?_⟩
  · rw [eR2]; rfl
  · rw [eI6, eI4]; exact (frm_trans (frm_up (by simp)) (frm_up (by simp)))

set_option maxHeartbeats 4000000 in
theorem iX4 {N : Nat} {I : II} {R : RR} (hN : N + 4 < 1000) (h0 : 0 < N) (hs : sh N = (0, 4)) (h1 : sh (N + 1) = (1, 200)) (h2 : sh (N + 2) = (1, 200)) (h3 : sh (N + 3) = (1, 200)) (h4 : sh (N + 4) = (1, 200)) (hz : Zr N I R) :
    Spec mX4_init [vR N] I R N (N + 4) (fun _ I' R' => R' = upL [(N, 0, N + 1), (N, 1, N + 2), (N, 2, N + 3), (N, 3, N + 4)] R ∧ Zr (N + 4) I' R' ∧ frm [N] I I' ∧ I' N 4 = 0) := by
  refine Spec_of_wp pyX4_init rfl (Nat.le_of_ble_eq_true rfl) (by omega) hN ?_
  refine wp_aload_n (pc' := 1) (q := 0) (i := 0) rfl rfl dX4_init_0 rfl ?_
  refine wp_objInit (pc' := 4) dX4_init_1 h0 lkX4_3 oi_inst oi_code ⟨Nat.le_of_ble_eq_true rfl, Nat.le_of_ble_eq_true rfl⟩ rfl ?_
  refine wp_aload_n (pc' := 5) (q := 0) (i := 0) rfl rfl dX4_init_4 rfl ?_
  refine wp_sipush (pc' := 8) (by decide) dX4_init_5 rfl ?_
  refine wp_newa (pc' := 10) (k := 1) (n := 200) dX4_init_8 h1 (Or.inl ⟨rfl, rfl⟩) rfl ay_int (show N + 1 ≤ N + 4 by omega) (okP_cons (Or.inl (by omega)) okP_nil) (okP_cons (Or.inl (by omega)) okP_nil) hz.2.2 (fun j => hz.1 _ j (by omega)) rfl ?_
  have hz1 : Zr (N + 1) I R := Zr_n hz
  obtain ⟨R_2, eR2⟩ : ∃ X : RR, X = up2 R N 0 ((N + 1)) := ⟨_, rfl⟩
  refine wp_putFR (pc' := 13) (k := 0) (Or.inr ⟨_, rfl⟩) dX4_init_10 vc4 (by decide) rfl rfl rfl rfl (tyX4_ok 0 (by decide)) lfX4_9 ⟨by omega, by omega, hs⟩ rfl eR2 ?_
  have hz3 : Zr (N + 1) I R_2 := Zr_R hz1 (by omega) (by omega) eR2
  refine wp_aload_n (pc' := 14) (q := 0) (i := 0) rfl rfl dX4_init_13 rfl ?_
  refine wp_sipush (pc' := 17) (by decide) dX4_init_14 rfl ?_
  refine wp_newa (pc' := 19) (k := 1) (n := 200) dX4_init_17 h2 (Or.inl ⟨rfl, rfl⟩) rfl ay_int (show (N + 1) + 1 ≤ N + 4 by omega) (okP_cons (Or.inl (by omega)) okP_nil) (okP_cons (Or.inl (by omega)) okP_nil) hz3.2.2 (fun j => hz3.1 _ j (by omega)) rfl ?_
  have hz4 : Zr (N + 2) I R_2 := Zr_n hz3
  obtain ⟨R_5, eR5⟩ : ∃ X : RR, X = up2 R_2 N 1 ((N + 2)) := ⟨_, rfl⟩
  refine wp_putFR (pc' := 22) (k := 1) (Or.inr ⟨_, rfl⟩) dX4_init_19 vc4 (by decide) rfl rfl rfl rfl (tyX4_ok 1 (by decide)) lfX4_15 ⟨by omega, by omega, hs⟩ rfl eR5 ?_
  have hz6 : Zr (N + 2) I R_5 := Zr_R hz4 (by omega) (by omega) eR5
  refine wp_aload_n (pc' := 23) (q := 0) (i := 0) rfl rfl dX4_init_22 rfl ?_
  refine wp_sipush (pc' := 26) (by decide) dX4_init_23 rfl ?_
  refine wp_newa (pc' := 28) (k := 1) (n := 200) dX4_init_26 h3 (Or.inl ⟨rfl, rfl⟩) rfl ay_int (show (N + 2) + 1 ≤ N + 4 by omega) (okP_cons (Or.inl (by omega)) okP_nil) (okP_cons (Or.inl (by omega)) okP_nil) hz6.2.2 (fun j => hz6.1 _ j (by omega)) rfl ?_
  have hz7 : Zr (N + 3) I R_5 := Zr_n hz6
  obtain ⟨R_8, eR8⟩ : ∃ X : RR, X = up2 R_5 N 2 ((N + 3)) := ⟨_, rfl⟩
  refine wp_putFR (pc' := 31) (k := 2) (Or.inr ⟨_, rfl⟩) dX4_init_28 vc4 (by decide) rfl rfl rfl rfl (tyX4_ok 2 (by decide)) lfX4_18 ⟨by omega, by omega, hs⟩ rfl eR8 ?_
  have hz9 : Zr (N + 3) I R_8 := Zr_R hz7 (by omega) (by omega) eR8
  refine wp_aload_n (pc' := 32) (q := 0) (i := 0) rfl rfl dX4_init_31 rfl ?_
  refine wp_sipush (pc' := 35) (by decide) dX4_init_32 rfl ?_
  refine wp_newa (pc' := 37) (k := 1) (n := 200) dX4_init_35 h4 (Or.inl ⟨rfl, rfl⟩) rfl ay_int (show (N + 3) + 1 ≤ N + 4 by omega) (okP_cons (Or.inl (by omega)) okP_nil) (okP_cons (Or.inl (by omega)) okP_nil) hz9.2.2 (fun j => hz9.1 _ j (by omega)) rfl ?_
  have hz10 : Zr (N + 4) I R_8 := Zr_n hz9
  obtain ⟨R_11, eR11⟩ : ∃ X : RR, X = up2 R_8 N 3 ((N + 4)) := ⟨_, rfl⟩
  refine wp_putFR (pc' := 40) (k := 3) (Or.inr ⟨_, rfl⟩) dX4_init_37 vc4 (by decide) rfl rfl rfl rfl (tyX4_ok 3 (by decide)) lfX4_21 ⟨by omega, by omega, hs⟩ rfl eR11 ?_
  have hz12 : Zr (N + 4) I R_11 := Zr_R hz10 (by omega) (by omega) eR11
  refine wp_aload_n (pc' := 41) (q := 0) (i := 0) rfl rfl dX4_init_40 rfl ?_
  refine wp_iconst (pc' := 42) dX4_init_41 rfl ?_
  obtain ⟨I_13, eI13⟩ : ∃ X : II, X = up2 I N 4 0 := ⟨_, rfl⟩
  refine wp_putI (pc' := 45) (k := 4) dX4_init_42 vc4 (by decide) rfl rfl (tyX4_ok 4 (by decide)) lfX4_24 ⟨by omega, by omega, hs⟩ rfl eI13 ?_
  have hz14 : Zr (N + 4) I_13 R_11 := Zr_I hz12 (by omega) eI13
  refine wp_vreturn dX4_init_45 rfl rfl ?_
  refine ⟨?_, hz14, ?_, ?_⟩
  · rw [eR11, eR8, eR5, eR2]; rfl
  · rw [eI13]; exact (frm_up (by simp))
  · rw [eI13, up2_self]

set_option maxHeartbeats 4000000 in
theorem iX2 {N : Nat} {I : II} {R : RR} {b : Int} (hN : N + 2 < 1000) (h0 : 0 < N) (hs : sh N = (0, 2)) (h1 : sh (N + 1) = (1, 10)) (h2 : sh (N + 2) = (1, 10)) (hz : Zr N I R) (hb : b = 0 ∨ b = 1) :
    Spec mX2_init [vR N, vI b] I R N (N + 2) (fun _ I' R' => R' = upL [(N, 1, N + 1), (N, 2, N + 2)] R ∧ Zr (N + 2) I' R' ∧ frm [N] I I' ∧ I' N 0 = b) := by
  refine Spec_of_wp pyX2_init rfl (Nat.le_of_ble_eq_true rfl) (by omega) hN ?_
  refine wp_aload_n (pc' := 1) (q := 0) (i := 0) rfl rfl dX2_init_0 rfl ?_
  refine wp_objInit (pc' := 4) dX2_init_1 h0 lkX2_3 oi_inst oi_code ⟨Nat.le_of_ble_eq_true rfl, Nat.le_of_ble_eq_true rfl⟩ rfl ?_
  refine wp_aload_n (pc' := 5) (q := 0) (i := 0) rfl rfl dX2_init_4 rfl ?_
  refine wp_bipush (pc' := 7) (by decide) dX2_init_5 rfl ?_
  refine wp_newa (pc' := 9) (k := 1) (n := 10) dX2_init_7 h1 (Or.inl ⟨rfl, rfl⟩) rfl ay_int (show N + 1 ≤ N + 2 by omega) (okP_cons (Or.inl (by omega)) (okP_cons trivial okP_nil)) (okP_cons (Or.inl (by omega)) okP_nil) hz.2.2 (fun j => hz.1 _ j (by omega)) rfl ?_
  have hz1 : Zr (N + 1) I R := Zr_n hz
  obtain ⟨R_2, eR2⟩ : ∃ X : RR, X = up2 R N 1 ((N + 1)) := ⟨_, rfl⟩
  refine wp_putFR (pc' := 12) (k := 1) (Or.inr ⟨_, rfl⟩) dX2_init_9 vc2 (by decide) rfl rfl rfl rfl (tyX2_ok 1 (by decide)) lfX2_9 ⟨by omega, by omega, hs⟩ rfl eR2 ?_
  have hz3 : Zr (N + 1) I R_2 := Zr_R hz1 (by omega) (by omega) eR2
  refine wp_aload_n (pc' := 13) (q := 0) (i := 0) rfl rfl dX2_init_12 rfl ?_
  refine wp_bipush (pc' := 15) (by decide) dX2_init_13 rfl ?_
  refine wp_newa (pc' := 17) (k := 1) (n := 10) dX2_init_15 h2 (Or.inl ⟨rfl, rfl⟩) rfl ay_int (show (N + 1) + 1 ≤ N + 2 by omega) (okP_cons (Or.inl (by omega)) (okP_cons trivial okP_nil)) (okP_cons (Or.inl (by omega)) okP_nil) hz3.2.2 (fun j => hz3.1 _ j (by omega)) rfl ?_
  have hz4 : Zr (N + 2) I R_2 := Zr_n hz3
  obtain ⟨R_5, eR5⟩ : ∃ X : RR, X = up2 R_2 N 2 ((N + 2)) := ⟨_, rfl⟩
  refine wp_putFR (pc' := 20) (k := 2) (Or.inr ⟨_, rfl⟩) dX2_init_17 vc2 (by decide) rfl rfl rfl rfl (tyX2_ok 2 (by decide)) lfX2_15 ⟨by omega, by omega, hs⟩ rfl eR5 ?_
  have hz6 : Zr (N + 2) I R_5 := Zr_R hz4 (by omega) (by omega) eR5
  refine wp_aload_n (pc' := 21) (q := 0) (i := 0) rfl rfl dX2_init_20 rfl ?_
  refine wp_iconst (pc' := 22) dX2_init_21 rfl ?_
  obtain ⟨I_7, eI7⟩ : ∃ X : II, X = up2 I N 3 0 := ⟨_, rfl⟩
  refine wp_putI (pc' := 25) (k := 3) dX2_init_22 vc2 (by decide) rfl rfl (tyX2_ok 3 (by decide)) lfX2_18 ⟨by omega, by omega, hs⟩ rfl eI7 ?_
  have hz8 : Zr (N + 2) I_7 R_5 := Zr_I hz6 (by omega) eI7
  refine wp_aload_n (pc' := 26) (q := 0) (i := 0) rfl rfl dX2_init_25 rfl ?_
  refine wp_iload_n (pc' := 27) (q := 1) (i := 1) rfl rfl dX2_init_26 rfl ?_
  obtain ⟨I_9, eI9⟩ : ∃ X : II, X = up2 I_7 N 0 b := ⟨_, rfl⟩
  refine wp_putFZ (pc' := 30) (k := 0) hb dX2_init_27 vc2 (by decide) rfl rfl rfl rfl (tyX2_ok 0 (by decide)) lfX2_22 ⟨by omega, by omega, hs⟩ rfl eI9 ?_
  have hz10 : Zr (N + 2) I_9 R_5 := Zr_I hz8 (by omega) eI9
  refine wp_vreturn dX2_init_30 rfl rfl ?_
  refine ⟨?_, hz10, ?_, ?_⟩
  · rw [eR5, eR2]; rfl
  · rw [eI9, eI7]; exact (frm_trans (frm_up (by simp)) (frm_up (by simp)))
  · rw [eI9, up2_self]

set_option maxHeartbeats 4000000 in
theorem iX0 {N : Nat} {I : II} {R : RR} (hN : N + 0 < 1000) (h0 : 0 < N) (hs : sh N = (0, 0))  (hz : Zr N I R) :
    Spec mX0_init [vR N] I R N (N + 0) (fun _ I' R' => R' = upL [] R ∧ Zr (N + 0) I' R' ∧ frm [N] I I') := by
  refine Spec_of_wp pyX0_init rfl (Nat.le_of_ble_eq_true rfl) (by omega) hN ?_
  refine wp_aload_n (pc' := 1) (q := 0) (i := 0) rfl rfl dX0_init_0 rfl ?_
  refine wp_objInit (pc' := 4) dX0_init_1 h0 lkX0_1 oi_inst oi_code ⟨Nat.le_of_ble_eq_true rfl, Nat.le_of_ble_eq_true rfl⟩ rfl ?_
  refine wp_vreturn dX0_init_4 rfl rfl ?_
  refine ⟨?_, hz, ?_⟩
  · rfl
  · exact frm_rfl
set_option maxHeartbeats 4000000 in
theorem iX3 {N : Nat} {I : II} {R : RR} (hN : N + 6 < 1000) (h0 : 0 < N) (hs : sh N = (0, 3)) (h1 : sh (N + 1) = (0, 2)) (h2 : sh (N + 2) = (1, 10)) (h3 : sh (N + 3) = (1, 10)) (h4 : sh (N + 4) = (0, 2)) (h5 : sh (N + 5) = (1, 10)) (h6 : sh (N + 6) = (1, 10)) (hz : Zr N I R) :
    Spec mX3_init [vR N] I R N (N + 6) (fun _ I' R' => R' = upL [(N + 1, 1, N + 2), (N + 1, 2, N + 3), (N, 0, N + 1), (N + 4, 1, N + 5), (N + 4, 2, N + 6), (N, 1, N + 4)] R ∧ Zr (N + 6) I' R' ∧ frm [N + 1, N + 4] I I' ∧ I' (N + 1) 0 = 0 ∧ I' (N + 4) 0 = 1) := by
  refine Spec_of_wp pyX3_init rfl (Nat.le_of_ble_eq_true rfl) (by omega) hN ?_
  have hL0 : R = upL [] R := rfl
  refine wp_aload_n (pc' := 1) (q := 0) (i := 0) rfl rfl dX3_init_0 rfl ?_
  refine wp_objInit (pc' := 4) dX3_init_1 h0 lkX3_3 oi_inst oi_code ⟨Nat.le_of_ble_eq_true rfl, Nat.le_of_ble_eq_true rfl⟩ rfl ?_
  refine wp_aload_n (pc' := 5) (q := 0) (i := 0) rfl rfl dX3_init_4 rfl ?_
  refine wp_new (pc' := 8) (c0 := 2) dX3_init_5 vc2 h1 llX3_9 iaX2 iiX2 (show N + 1 ≤ N + 6 by omega) (okP_cons (Or.inl (by omega)) okP_nil) (okP_cons (Or.inl (by omega)) okP_nil) hz.2.2 (fun j => hz.1 _ j (by omega)) (fun j => hz.2.1 _ j (by omega)) rfl ?_
  have hz1 : Zr (N + 1) I R := Zr_n hz
  refine wp_dupR (pc' := 9) dX3_init_8 rfl ?_
  refine wp_iconst (pc' := 10) dX3_init_9 rfl ?_
  refine wp_callI (pc' := 13) (as := [vI 0]) (rest := [vR (N + 1), vR N]) (M' := (N + 3)) (iX2 (N := (N + 1)) (by omega) (by omega) h1 h2 h3 hz1 (Or.inl rfl)) dX3_init_10 rfl (by omega) lkX3_11 okX2_init inX2_init rfl rfl ⟨Nat.le_of_ble_eq_true rfl, Nat.le_of_ble_eq_true rfl⟩ (Nat.le_of_ble_eq_true rfl) (by omega) (show (N + 3) ≤ N + 6 by omega) (okP_cons (Or.inl (by omega)) okP_nil) (okP_cons (Or.inl (by omega)) (okP_cons (Or.inl (by omega)) okP_nil)) rfl (fun I_2 R_2 hq2 => ?_)
  obtain ⟨eR2, hz2, f2, v2_0⟩ := hq2
  have hL1 := upL_more hL0 eR2
  obtain ⟨R_3, eR3⟩ : ∃ X : RR, X = up2 R_2 N 0 ((N + 1)) := ⟨_, rfl⟩
  refine wp_putFR (pc' := 16) (k := 0) (Or.inl ⟨_, rfl⟩) dX3_init_13 vc3 (by decide) rfl rfl rfl rfl (tyX3_ok 0 (by decide)) lfX3_14 ⟨by omega, by omega, hs⟩ rfl eR3 ?_
  have hz4 : Zr (N + 3) I_2 R_3 := Zr_R hz2 (by omega) (by omega) eR3
  have hL2 := upL_one hL1 eR3
  refine wp_aload_n (pc' := 17) (q := 0) (i := 0) rfl rfl dX3_init_16 rfl ?_
  refine wp_new (pc' := 20) (c0 := 2) dX3_init_17 vc2 h4 llX3_9 iaX2 iiX2 (show (N + 3) + 1 ≤ N + 6 by omega) (okP_cons (Or.inl (by omega)) okP_nil) (okP_cons (Or.inl (by omega)) okP_nil) hz4.2.2 (fun j => hz4.1 _ j (by omega)) (fun j => hz4.2.1 _ j (by omega)) rfl ?_
  have hz5 : Zr (N + 4) I_2 R_3 := Zr_n hz4
  refine wp_dupR (pc' := 21) dX3_init_20 rfl ?_
  refine wp_iconst (pc' := 22) dX3_init_21 rfl ?_
  refine wp_callI (pc' := 25) (as := [vI 1]) (rest := [vR (N + 4), vR N]) (M' := (N + 6)) (iX2 (N := (N + 4)) (by omega) (by omega) h4 h5 h6 hz5 (Or.inr rfl)) dX3_init_22 rfl (by omega) lkX3_11 okX2_init inX2_init rfl rfl ⟨Nat.le_of_ble_eq_true rfl, Nat.le_of_ble_eq_true rfl⟩ (Nat.le_of_ble_eq_true rfl) (by omega) (show (N + 6) ≤ N + 6 by omega) (okP_cons (Or.inl (by omega)) okP_nil) (okP_cons (Or.inl (by omega)) (okP_cons (Or.inl (by omega)) okP_nil)) rfl (fun I_6 R_6 hq6 => ?_)
  obtain ⟨eR6, hz6, f6, v6_0⟩ := hq6
  have hL3 := upL_more hL2 eR6
  obtain ⟨R_7, eR7⟩ : ∃ X : RR, X = up2 R_6 N 1 ((N + 4)) := ⟨_, rfl⟩
  refine wp_putFR (pc' := 28) (k := 1) (Or.inl ⟨_, rfl⟩) dX3_init_25 vc3 (by decide) rfl rfl rfl rfl (tyX3_ok 1 (by decide)) lfX3_20 ⟨by omega, by omega, hs⟩ rfl eR7 ?_
  have hz8 : Zr (N + 6) I_6 R_7 := Zr_R hz6 (by omega) (by omega) eR7
  have hL4 := upL_one hL3 eR7
  refine wp_vreturn dX3_init_28 rfl rfl ?_
  refine ⟨hL4, hz8, frm_trans (frm_sub f2 (by simp)) (frm_sub f6 (by simp)), ?_, v6_0⟩
  rw [f6 (N + 1) (by simp)]; exact v2_0

set_option maxHeartbeats 4000000 in
theorem iX1 {N : Nat} {I : II} {R : RR} (hN : N + 6 < 1000) (h0 : 0 < N) (hs : sh N = (0, 1)) (h1 : sh (N + 1) = (1, 20)) (h2 : sh (N + 2) = (0, 4)) (h3 : sh (N + 3) = (1, 200)) (h4 : sh (N + 4) = (1, 200)) (h5 : sh (N + 5) = (1, 200)) (h6 : sh (N + 6) = (1, 200)) (hz : Zr N I R) :
    Spec mX1_init [vR N] I R N (N + 6) (fun _ I' R' => R' = upL [(N, 0, N + 1), (N + 2, 0, N + 3), (N + 2, 1, N + 4), (N + 2, 2, N + 5), (N + 2, 3, N + 6), (N, 1, N + 2)] R ∧ Zr (N + 6) I' R' ∧ frm [N + 2] I I') := by
  refine Spec_of_wp pyX1_init rfl (Nat.le_of_ble_eq_true rfl) (by omega) hN ?_
  have hL0 : R = upL [] R := rfl
  refine wp_aload_n (pc' := 1) (q := 0) (i := 0) rfl rfl dX1_init_0 rfl ?_
  refine wp_objInit (pc' := 4) dX1_init_1 h0 lkX1_3 oi_inst oi_code ⟨Nat.le_of_ble_eq_true rfl, Nat.le_of_ble_eq_true rfl⟩ rfl ?_
  refine wp_aload_n (pc' := 5) (q := 0) (i := 0) rfl rfl dX1_init_4 rfl ?_
  refine wp_bipush (pc' := 7) (by decide) dX1_init_5 rfl ?_
  refine wp_newa (pc' := 9) (k := 1) (n := 20) dX1_init_7 h1 (Or.inl ⟨rfl, rfl⟩) rfl ay_int (show N + 1 ≤ N + 6 by omega) (okP_cons (Or.inl (by omega)) okP_nil) (okP_cons (Or.inl (by omega)) okP_nil) hz.2.2 (fun j => hz.1 _ j (by omega)) rfl ?_
  have hz1 : Zr (N + 1) I R := Zr_n hz
  obtain ⟨R_2, eR2⟩ : ∃ X : RR, X = up2 R N 0 ((N + 1)) := ⟨_, rfl⟩
  refine wp_putFR (pc' := 12) (k := 0) (Or.inr ⟨_, rfl⟩) dX1_init_9 vc1 (by decide) rfl rfl rfl rfl (tyX1_ok 0 (by decide)) lfX1_9 ⟨by omega, by omega, hs⟩ rfl eR2 ?_
  have hz3 : Zr (N + 1) I R_2 := Zr_R hz1 (by omega) (by omega) eR2
  have hL1 := upL_one hL0 eR2
  refine wp_aload_n (pc' := 13) (q := 0) (i := 0) rfl rfl dX1_init_12 rfl ?_
  refine wp_new (pc' := 16) (c0 := 4) dX1_init_13 vc4 h2 llX1_15 iaX4 iiX4 (show (N + 1) + 1 ≤ N + 6 by omega) (okP_cons (Or.inl (by omega)) okP_nil) (okP_cons (Or.inl (by omega)) okP_nil) hz3.2.2 (fun j => hz3.1 _ j (by omega)) (fun j => hz3.2.1 _ j (by omega)) rfl ?_
  have hz4 : Zr (N + 2) I R_2 := Zr_n hz3
  refine wp_dupR (pc' := 17) dX1_init_16 rfl ?_
  refine wp_callIN (pc' := 20) (as := []) (rest := [vR (N + 2), vR N]) (M' := (N + 6)) (iX4 (N := (N + 2)) (by omega) (by omega) h2 h3 h4 h5 h6 hz4) dX1_init_17 rfl (by omega) lnX1_17 okX4_init inX4_init rfl rfl ⟨Nat.le_of_ble_eq_true rfl, Nat.le_of_ble_eq_true rfl⟩ (Nat.le_of_ble_eq_true rfl) (by omega) (show (N + 6) ≤ N + 6 by omega) (okP_cons (Or.inl (by omega)) okP_nil) (okP_cons (Or.inl (by omega)) (okP_cons (Or.inl (by omega)) okP_nil)) rfl (fun I_5 R_5 hq5 => ?_)
  obtain ⟨eR5, hz5, f5, v5_0⟩ := hq5
  have hL2 := upL_more hL1 eR5
  obtain ⟨R_6, eR6⟩ : ∃ X : RR, X = up2 R_5 N 1 ((N + 2)) := ⟨_, rfl⟩
  refine wp_putFR (pc' := 23) (k := 1) (Or.inl ⟨_, rfl⟩) dX1_init_20 vc1 (by decide) rfl rfl rfl rfl (tyX1_ok 1 (by decide)) lfX1_18 ⟨by omega, by omega, hs⟩ rfl eR6 ?_
  have hz7 : Zr (N + 6) I_5 R_6 := Zr_R hz5 (by omega) (by omega) eR6
  have hL3 := upL_one hL2 eR6
  refine wp_vreturn dX1_init_23 rfl rfl ?_
  exact ⟨hL3, hz7, f5⟩

set_option maxHeartbeats 4000000 in
theorem iX7 {N : Nat} {I : II} {R : RR} (hN : N + 9 < 1000) (h0 : 0 < N) (hs : sh N = (0, 7)) (h1 : sh (N + 1) = (1, 20)) (h2 : sh (N + 2) = (1, 20)) (h3 : sh (N + 3) = (0, 3)) (h4 : sh (N + 4) = (0, 2)) (h5 : sh (N + 5) = (1, 10)) (h6 : sh (N + 6) = (1, 10)) (h7 : sh (N + 7) = (0, 2)) (h8 : sh (N + 8) = (1, 10)) (h9 : sh (N + 9) = (1, 10)) (hz : Zr N I R) :
    Spec mX7_init [vR N] I R N (N + 9) (fun _ I' R' => R' = upL [(N, 0, N + 1), (N, 1, N + 2), (N + 4, 1, N + 5), (N + 4, 2, N + 6), (N + 3, 0, N + 4), (N + 7, 1, N + 8), (N + 7, 2, N + 9), (N + 3, 1, N + 7), (N, 2, N + 3)] R ∧ Zr (N + 9) I' R' ∧ frm [N + 4, N + 7] I I' ∧ I' (N + 4) 0 = 0 ∧ I' (N + 7) 0 = 1) := by
  refine Spec_of_wp pyX7_init rfl (Nat.le_of_ble_eq_true rfl) (by omega) hN ?_
  have hL0 : R = upL [] R := rfl
  refine wp_aload_n (pc' := 1) (q := 0) (i := 0) rfl rfl dX7_init_0 rfl ?_
  refine wp_objInit (pc' := 4) dX7_init_1 h0 lkX7_3 oi_inst oi_code ⟨Nat.le_of_ble_eq_true rfl, Nat.le_of_ble_eq_true rfl⟩ rfl ?_
  refine wp_aload_n (pc' := 5) (q := 0) (i := 0) rfl rfl dX7_init_4 rfl ?_
  refine wp_bipush (pc' := 7) (by decide) dX7_init_5 rfl ?_
  refine wp_newa (pc' := 9) (k := 1) (n := 20) dX7_init_7 h1 (Or.inl ⟨rfl, rfl⟩) rfl ay_int (show N + 1 ≤ N + 9 by omega) (okP_cons (Or.inl (by omega)) okP_nil) (okP_cons (Or.inl (by omega)) okP_nil) hz.2.2 (fun j => hz.1 _ j (by omega)) rfl ?_
  have hz1 : Zr (N + 1) I R := Zr_n hz
  obtain ⟨R_2, eR2⟩ : ∃ X : RR, X = up2 R N 0 ((N + 1)) := ⟨_, rfl⟩
  refine wp_putFR (pc' := 12) (k := 0) (Or.inr ⟨_, rfl⟩) dX7_init_9 vc7 (by decide) rfl rfl rfl rfl (tyX7_ok 0 (by decide)) lfX7_9 ⟨by omega, by omega, hs⟩ rfl eR2 ?_
  have hz3 : Zr (N + 1) I R_2 := Zr_R hz1 (by omega) (by omega) eR2
  have hL1 := upL_one hL0 eR2
  refine wp_aload_n (pc' := 13) (q := 0) (i := 0) rfl rfl dX7_init_12 rfl ?_
  refine wp_bipush (pc' := 15) (by decide) dX7_init_13 rfl ?_
  refine wp_newa (pc' := 17) (k := 1) (n := 20) dX7_init_15 h2 (Or.inl ⟨rfl, rfl⟩) rfl ay_int (show (N + 1) + 1 ≤ N + 9 by omega) (okP_cons (Or.inl (by omega)) okP_nil) (okP_cons (Or.inl (by omega)) okP_nil) hz3.2.2 (fun j => hz3.1 _ j (by omega)) rfl ?_
  have hz4 : Zr (N + 2) I R_2 := Zr_n hz3
  obtain ⟨R_5, eR5⟩ : ∃ X : RR, X = up2 R_2 N 1 ((N + 2)) := ⟨_, rfl⟩
  refine wp_putFR (pc' := 20) (k := 1) (Or.inr ⟨_, rfl⟩) dX7_init_17 vc7 (by decide) rfl rfl rfl rfl (tyX7_ok 1 (by decide)) lfX7_15 ⟨by omega, by omega, hs⟩ rfl eR5 ?_
  have hz6 : Zr (N + 2) I R_5 := Zr_R hz4 (by omega) (by omega) eR5
  have hL2 := upL_one hL1 eR5
  refine wp_aload_n (pc' := 21) (q := 0) (i := 0) rfl rfl dX7_init_20 rfl ?_
  refine wp_new (pc' := 24) (c0 := 3) dX7_init_21 vc3 h3 llX7_18 iaX3 iiX3 (show (N + 2) + 1 ≤ N + 9 by omega) (okP_cons (Or.inl (by omega)) okP_nil) (okP_cons (Or.inl (by omega)) okP_nil) hz6.2.2 (fun j => hz6.1 _ j (by omega)) (fun j => hz6.2.1 _ j (by omega)) rfl ?_
  have hz7 : Zr (N + 3) I R_5 := Zr_n hz6
  refine wp_dupR (pc' := 25) dX7_init_24 rfl ?_
  refine wp_callIN (pc' := 28) (as := []) (rest := [vR (N + 3), vR N]) (M' := (N + 9)) (iX3 (N := (N + 3)) (by omega) (by omega) h3 h4 h5 h6 h7 h8 h9 hz7) dX7_init_25 rfl (by omega) lnX7_20 okX3_init inX3_init rfl rfl ⟨Nat.le_of_ble_eq_true rfl, Nat.le_of_ble_eq_true rfl⟩ (Nat.le_of_ble_eq_true rfl) (by omega) (show (N + 9) ≤ N + 9 by omega) (okP_cons (Or.inl (by omega)) okP_nil) (okP_cons (Or.inl (by omega)) (okP_cons (Or.inl (by omega)) okP_nil)) rfl (fun I_8 R_8 hq8 => ?_)
  obtain ⟨eR8, hz8, f8, v8_0, v8_1⟩ := hq8
  have hL3 := upL_more hL2 eR8
  obtain ⟨R_9, eR9⟩ : ∃ X : RR, X = up2 R_8 N 2 ((N + 3)) := ⟨_, rfl⟩
  refine wp_putFR (pc' := 31) (k := 2) (Or.inl ⟨_, rfl⟩) dX7_init_28 vc7 (by decide) rfl rfl rfl rfl (tyX7_ok 2 (by decide)) lfX7_21 ⟨by omega, by omega, hs⟩ rfl eR9 ?_
  have hz10 : Zr (N + 9) I_8 R_9 := Zr_R hz8 (by omega) (by omega) eR9
  have hL4 := upL_one hL3 eR9
  refine wp_vreturn dX7_init_31 rfl rfl ?_
  exact ⟨hL4, hz10, f8, v8_0, v8_1⟩

set_option maxHeartbeats 4000000 in
theorem iX6 {N : Nat} {I : II} {R : RR} (hN : N + 5 < 1000) (h0 : 0 < N) (hs : sh N = (0, 6)) (h1 : sh (N + 1) = (2, 20)) (h2 : sh (N + 2) = (1, 20)) (h3 : sh (N + 3) = (1, 20)) (h4 : sh (N + 4) = (1, 10)) (h5 : sh (N + 5) = (1, 10)) (hz : Zr N I R) :
    Spec mX6_init [vR N] I R N (N + 5) (fun _ I' R' => R' = upL [(N, 0, N + 1), (N, 1, N + 2), (N, 2, N + 3), (N, 3, N + 4), (N, 4, N + 5)] R ∧ Zr (N + 5) I' R' ∧ frm [N] I I' ∧ XR I' R' N ρE) := by
  refine Spec_of_wp pyX6_init rfl (Nat.le_of_ble_eq_true rfl) (by omega) hN ?_
  have hL0 : R = upL [] R := rfl
  refine wp_aload_n (pc' := 1) (q := 0) (i := 0) rfl rfl dX6_init_0 rfl ?_
  refine wp_objInit (pc' := 4) dX6_init_1 h0 lkX6_3 oi_inst oi_code ⟨Nat.le_of_ble_eq_true rfl, Nat.le_of_ble_eq_true rfl⟩ rfl ?_
  refine wp_aload_n (pc' := 5) (q := 0) (i := 0) rfl rfl dX6_init_4 rfl ?_
  refine wp_bipush (pc' := 7) (by decide) dX6_init_5 rfl ?_
  refine wp_newa (pc' := 9) (k := 2) (n := 20) dX6_init_7 h1 (Or.inr ⟨rfl, rfl⟩) rfl ay_boolean (show N + 1 ≤ N + 5 by omega) (okP_cons (Or.inl (by omega)) okP_nil) (okP_cons (Or.inl (by omega)) okP_nil) hz.2.2 (fun j => hz.1 _ j (by omega)) rfl ?_
  have hz1 : Zr (N + 1) I R := Zr_n hz
  obtain ⟨R_2, eR2⟩ : ∃ X : RR, X = up2 R N 0 ((N + 1)) := ⟨_, rfl⟩
  refine wp_putFR (pc' := 12) (k := 0) (Or.inr ⟨_, rfl⟩) dX6_init_9 vc6 (by decide) rfl rfl rfl rfl (tyX6_ok 0 (by decide)) lfX6_9 ⟨by omega, by omega, hs⟩ rfl eR2 ?_
  have hz3 : Zr (N + 1) I R_2 := Zr_R hz1 (by omega) (by omega) eR2
  have hL1 := upL_one hL0 eR2
  refine wp_aload_n (pc' := 13) (q := 0) (i := 0) rfl rfl dX6_init_12 rfl ?_
  refine wp_bipush (pc' := 15) (by decide) dX6_init_13 rfl ?_
  refine wp_newa (pc' := 17) (k := 1) (n := 20) dX6_init_15 h2 (Or.inl ⟨rfl, rfl⟩) rfl ay_int (show (N + 1) + 1 ≤ N + 5 by omega) (okP_cons (Or.inl (by omega)) okP_nil) (okP_cons (Or.inl (by omega)) okP_nil) hz3.2.2 (fun j => hz3.1 _ j (by omega)) rfl ?_
  have hz4 : Zr (N + 2) I R_2 := Zr_n hz3
  obtain ⟨R_5, eR5⟩ : ∃ X : RR, X = up2 R_2 N 1 ((N + 2)) := ⟨_, rfl⟩
  refine wp_putFR (pc' := 20) (k := 1) (Or.inr ⟨_, rfl⟩) dX6_init_17 vc6 (by decide) rfl rfl rfl rfl (tyX6_ok 1 (by decide)) lfX6_15 ⟨by omega, by omega, hs⟩ rfl eR5 ?_
  have hz6 : Zr (N + 2) I R_5 := Zr_R hz4 (by omega) (by omega) eR5
  have hL2 := upL_one hL1 eR5
  refine wp_aload_n (pc' := 21) (q := 0) (i := 0) rfl rfl dX6_init_20 rfl ?_
  refine wp_bipush (pc' := 23) (by decide) dX6_init_21 rfl ?_
  refine wp_newa (pc' := 25) (k := 1) (n := 20) dX6_init_23 h3 (Or.inl ⟨rfl, rfl⟩) rfl ay_int (show (N + 2) + 1 ≤ N + 5 by omega) (okP_cons (Or.inl (by omega)) okP_nil) (okP_cons (Or.inl (by omega)) okP_nil) hz6.2.2 (fun j => hz6.1 _ j (by omega)) rfl ?_
  have hz7 : Zr (N + 3) I R_5 := Zr_n hz6
  obtain ⟨R_8, eR8⟩ : ∃ X : RR, X = up2 R_5 N 2 ((N + 3)) := ⟨_, rfl⟩
  refine wp_putFR (pc' := 28) (k := 2) (Or.inr ⟨_, rfl⟩) dX6_init_25 vc6 (by decide) rfl rfl rfl rfl (tyX6_ok 2 (by decide)) lfX6_19 ⟨by omega, by omega, hs⟩ rfl eR8 ?_
  have hz9 : Zr (N + 3) I R_8 := Zr_R hz7 (by omega) (by omega) eR8
  have hL3 := upL_one hL2 eR8
  refine wp_aload_n (pc' := 29) (q := 0) (i := 0) rfl rfl dX6_init_28 rfl ?_
  refine wp_bipush (pc' := 31) (by decide) dX6_init_29 rfl ?_
  refine wp_newa (pc' := 33) (k := 1) (n := 10) dX6_init_31 h4 (Or.inl ⟨rfl, rfl⟩) rfl ay_int (show (N + 3) + 1 ≤ N + 5 by omega) (okP_cons (Or.inl (by omega)) okP_nil) (okP_cons (Or.inl (by omega)) okP_nil) hz9.2.2 (fun j => hz9.1 _ j (by omega)) rfl ?_
  have hz10 : Zr (N + 4) I R_8 := Zr_n hz9
  obtain ⟨R_11, eR11⟩ : ∃ X : RR, X = up2 R_8 N 3 ((N + 4)) := ⟨_, rfl⟩
  refine wp_putFR (pc' := 36) (k := 3) (Or.inr ⟨_, rfl⟩) dX6_init_33 vc6 (by decide) rfl rfl rfl rfl (tyX6_ok 3 (by decide)) lfX6_22 ⟨by omega, by omega, hs⟩ rfl eR11 ?_
  have hz12 : Zr (N + 4) I R_11 := Zr_R hz10 (by omega) (by omega) eR11
  have hL4 := upL_one hL3 eR11
  refine wp_aload_n (pc' := 37) (q := 0) (i := 0) rfl rfl dX6_init_36 rfl ?_
  refine wp_bipush (pc' := 39) (by decide) dX6_init_37 rfl ?_
  refine wp_newa (pc' := 41) (k := 1) (n := 10) dX6_init_39 h5 (Or.inl ⟨rfl, rfl⟩) rfl ay_int (show (N + 4) + 1 ≤ N + 5 by omega) (okP_cons (Or.inl (by omega)) okP_nil) (okP_cons (Or.inl (by omega)) okP_nil) hz12.2.2 (fun j => hz12.1 _ j (by omega)) rfl ?_
  have hz13 : Zr (N + 5) I R_11 := Zr_n hz12
  obtain ⟨R_14, eR14⟩ : ∃ X : RR, X = up2 R_11 N 4 ((N + 5)) := ⟨_, rfl⟩
  refine wp_putFR (pc' := 44) (k := 4) (Or.inr ⟨_, rfl⟩) dX6_init_41 vc6 (by decide) rfl rfl rfl rfl (tyX6_ok 4 (by decide)) lfX6_25 ⟨by omega, by omega, hs⟩ rfl eR14 ?_
  have hz15 : Zr (N + 5) I R_14 := Zr_R hz13 (by omega) (by omega) eR14
  have hL5 := upL_one hL4 eR14
  refine wp_aload_n (pc' := 45) (q := 0) (i := 0) rfl rfl dX6_init_44 rfl ?_
  refine wp_callV (pc' := 48) (as := []) (rest := []) (aX6_empty (N := N + 5) hN ⟨by omega, by omega, hs⟩) dX6_init_45 rfl lkX6_28 okX6_empty inX6_empty seX6_empty ⟨by omega, by omega, hs⟩ vc6 ⟨Nat.le_of_ble_eq_true rfl, Nat.le_of_ble_eq_true rfl⟩ (Nat.le_of_ble_eq_true rfl) (Nat.le_refl _) (Nat.le_refl _) okP_eq okP_eq rfl (rvV rfl (fun I_9 R_9 hq9 => ?_))
  obtain ⟨e9, f9, x9⟩ := hq9
  subst e9
  have hz9 := Zr_f hz15 f9 (fun x hx => by rw [List.mem_singleton] at hx; omega)
  refine wp_vreturn dX6_init_48 rfl rfl ?_
  exact ⟨hL5, hz9, f9, x9⟩
