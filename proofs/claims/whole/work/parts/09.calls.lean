/-! contracts in the abstract words, and calls -/
abbrev ST : Type := II × RR × (Nat → Nat) × (Nat → ClassId)
def wldU (D : va_G) (ρ : Nat → Nat) (ca : Nat → ClassId) (I : II) (R : RR) (N : Nat) (U : State) : Prop := va_P D vwCl (wsW ρ ca I R N) U.heap ∧ va_K D vwCl [] U ∧ arK D ca N U ∧ va_D (fun _ => True) (wsW ρ ca I R N) ∧ nbw U
def bwl (D : va_G) (ρ : Nat → Nat) (ca : Nat → ClassId) (N M : Nat) (A : Nat → Prop) (u : ST) (t : State) : Prop := va_P D vwCl (wsW u.2.2.1 u.2.2.2 u.1 u.2.1 M) t.heap ∧ va_K D vwCl [] t ∧ arK D u.2.2.2 M t ∧ va_D A (wsW u.2.2.1 u.2.2.2 u.1 u.2.1 M) ∧ agr u.2.2.1 ρ N M ∧ agr u.2.2.2 ca N M
def QC (ret : Option FieldType) (Q : QT) (D : va_G) (ρ : Nat → Nat) (ca : Nat → ClassId) (N M : Nat) (A : Nat → Prop) : Array Value → State → Outcome → State → Prop :=
  if ret = none then va_Qv (fun u : ST => Q none u.1 u.2.1) (bwl D ρ ca N M A) A
  else if ret = some .long then va_Ql (fun (r : Int64) (u : ST) => ∃ x, r = i64 x ∧ Q (vL x) u.1 u.2.1) (bwl D ρ ca N M A) A
  else va_Qi (fun (r : Int32) (u : ST) => ∃ x, r = i32 x ∧ okret ret (vI x) ∧ Q (vI x) u.1 u.2.1) (bwl D ρ ca N M A) A
def rmO (mt : MI) (N M : Nat) : Room := { frames := mt.2.2.2.2.1, cells := M - N, slots := cum M - cum N, locals := mt.2.2.2.2.2 }
/-- called with these values over this heap (N cells), the method returns with Q, and M cells are there -/
def Spec (mt : MI) (as : List AV) (I : II) (R : RR) (N M : Nat) (Q : QT) : Prop :=
  ∀ (l : Launch) (D : va_G) (ρ : Nat → Nat) (ca : Nat → ClassId) (sz : Nat), Met l mt.1 (wds mt) (rmO mt N M) (va_Pc (as.map (cv ρ)) (fun U => U.heap.size = sz ∧ wldU D ρ ca I R N U)) (QC mt.2.2.2.1 Q D ρ ca N M (va_A (wsW ρ ca I R N) sz)) (M - N) (cum M - cum N) (va_A (wsW ρ ca I R N) sz)
def layL : List AV → List AV
  | [] => []
  | some (.inr (.inl x)) :: vs => some (.inr (.inl x)) :: none :: layL vs
  | v :: vs => v :: layL vs
def entL (n : Nat) (as : List AV) : List AV := layL as ++ List.replicate (n - (layL as).length) none
theorem lay_mem {ρ : Nat → Nat} : ∀ (as : List AV) (i k : Nat) (v : Int ⊕ (Int ⊕ Nat)), (layL as)[k]? = some (some v) → (i + k, cv ρ (some v)) ∈ lv_args i (as.map (cv ρ))
  | [], i, k, v, h => by simp [layL] at h
  | some (.inr (.inl x)) :: vs, i, 0, v, h => by
    simp [layL] at h
    subst h
    exact List.mem_cons_self
  | some (.inr (.inl x)) :: vs, i, 1, v, h => by simp [layL] at h
  | some (.inr (.inl x)) :: vs, i, k + 2, v, h => by
    have h1 : (layL vs)[k]? = some (some v) := by simpa [layL] using h
    refine List.mem_cons_of_mem _ ?_
    have := lay_mem (ρ := ρ) vs (i + 2) k v h1
    rw [show i + (k + 2) = i + 2 + k by omega]
    exact this
  | some (.inl x) :: vs, i, 0, v, h => by
    simp [layL] at h
    subst h
    exact List.mem_cons_self
  | some (.inl x) :: vs, i, k + 1, v, h => by
    have h1 : (layL vs)[k]? = some (some v) := by simpa [layL] using h
    refine List.mem_cons_of_mem _ ?_
    have := lay_mem (ρ := ρ) vs (i + 1) k v h1
    rw [show i + (k + 1) = i + 1 + k by omega]
    exact this
  | some (.inr (.inr r)) :: vs, i, 0, v, h => by
    simp [layL] at h
    subst h
    exact List.mem_cons_self
  | some (.inr (.inr r)) :: vs, i, k + 1, v, h => by
    have h1 : (layL vs)[k]? = some (some v) := by simpa [layL] using h
    refine List.mem_cons_of_mem _ ?_
    have := lay_mem (ρ := ρ) vs (i + 1) k v h1
    rw [show i + (k + 1) = i + 1 + k by omega]
    have hc : ¬ (cv ρ (some (.inr (.inr r)))).category = 2 := by
      have := cv_catR (ρ := ρ) (r := r)
      rw [show cv ρ (some (.inr (.inr r))) = cv ρ (vR r) from rfl]
      omega
    rw [if_neg hc]
    exact this
  | none :: vs, i, 0, v, h => by simp [layL] at h
  | none :: vs, i, k + 1, v, h => by
    have h1 : (layL vs)[k]? = some (some v) := by simpa [layL] using h
    refine List.mem_cons_of_mem _ ?_
    have := lay_mem (ρ := ρ) vs (i + 1) k v h1
    rw [show i + (k + 1) = i + 1 + k by omega]
    exact this
theorem lay_len {ρ : Nat → Nat} : ∀ as : List AV, (lg_sl (as.map (cv ρ))).length = (layL as).length
  | [] => rfl
  | some (.inr (.inl x)) :: vs => by
    have := lay_len (ρ := ρ) vs
    show ([Slot.val (cv ρ (some (.inr (.inl x)))), Slot.second] ++ lg_sl (vs.map (cv ρ))).length = _
    rw [List.length_append, this]
    show 2 + _ = (layL vs).length + 1 + 1
    omega
  | some (.inl x) :: vs => by
    have := lay_len (ρ := ρ) vs
    show ([Slot.val (cv ρ (some (.inl x)))] ++ lg_sl (vs.map (cv ρ))).length = _
    rw [List.length_append, this]
    show 1 + _ = (layL vs).length + 1
    omega
  | some (.inr (.inr r)) :: vs => by
    have := lay_len (ρ := ρ) vs
    have hc : ¬ (cv ρ (some (.inr (.inr r)))).category = 2 := by
      have := cv_catR (ρ := ρ) (r := r)
      rw [show cv ρ (some (.inr (.inr r))) = cv ρ (vR r) from rfl]
      omega
    show ((if (cv ρ (some (.inr (.inr r)))).category = 2 then [Slot.val (cv ρ (some (.inr (.inr r)))), .second] else [.val (cv ρ (some (.inr (.inr r))))]) ++ lg_sl (vs.map (cv ρ))).length = _
    rw [if_neg hc, List.length_append, this]
    show 1 + _ = (layL vs).length + 1
    omega
  | none :: vs => by
    have := lay_len (ρ := ρ) vs
    show ([Slot.val (cv ρ none)] ++ lg_sl (vs.map (cv ρ))).length = _
    rw [List.length_append, this]
    show 1 + _ = (layL vs).length + 1
    omega
theorem ent_LR {ρ : Nat → Nat} {ls : Array Slot} {n : Nat} {as : List AV} (h : lv_has ls n (lv_args 0 (as.map (cv ρ)))) : LR ρ ls n (entL n as) := by
  refine ⟨h.1, h.2.1, fun k v hk => ?_⟩
  unfold entL at hk
  by_cases hl : k < (layL as).length
  · rw [List.getElem?_append_left hl] at hk
    have := h.2.2 _ (lay_mem (ρ := ρ) as 0 k v hk)
    rw [show (0 + k, cv ρ (some v)).1 = k from Nat.zero_add k] at this
    exact this
  · rw [List.getElem?_append_right (by omega), List.getElem?_replicate] at hk
    split at hk
    · cases hk
    · cases hk
theorem okret_n {ret : Option FieldType} (h : okret ret none) : ret = none := by
  cases ret with
  | none => rfl
  | some ty => cases ty <;> simp [okret] at h
theorem okret_i {ret : Option FieldType} {x : Int} (h : okret ret (vI x)) : ret = some .int ∨ (ret = some .boolean ∧ (x = 0 ∨ x = 1)) := by
  cases ret with
  | none => simp [okret, vI] at h
  | some ty => cases ty <;> first | exact Or.inl rfl | exact Or.inr ⟨rfl, h⟩ | (simp [okret, vI] at h)
theorem okret_l {ret : Option FieldType} {x : Int} (h : okret ret (vL x)) : ret = some .long := by
  cases ret with
  | none => simp [okret, vL] at h
  | some ty => cases ty <;> first | rfl | (simp [okret, vL] at h)
theorem okret_r {ret : Option FieldType} {x : Nat} (h : okret ret (vR x)) : False := by
  cases ret with
  | none => simp [okret, vR] at h
  | some ty => cases ty <;> simp [okret, vR] at h
theorem arK.moved {D : va_G} {ca : Nat → ClassId} {N : Nat} {u U : State} (hvm : u.vm.Alike U.vm) (h : arK D ca N u) : arK D ca N U := fun i h0 h1 h2 => va_K.moved hvm (h i h0 h1 h2)
set_option maxHeartbeats 4000000 in
theorem Spec_of_wp {mt : MI} {as L : List AV} {I : II} {R : RR} {N M : Nat} {Q : QT} (hy : plainName mt.1.cls = true) (hL : entL mt.2.2.1 as = L) (hlen : (layL as).length ≤ mt.2.2.1) (hNM : N ≤ M) (hM : M < 1000) (h : wp (M, 0, fun _ => 0) mt Q 0 L [] I R N) : Spec mt as I R N M Q := by
  intro l D ρ ca sz
  refine Met.ofW (cc := mt.2.1) (maxL := mt.2.2.1) (ret := mt.2.2.2.1) hy rfl ?_
  intro p e s m args below meth c s₁ B hml hv
  obtain ⟨rfl, hsz, hP, hK, hAr, hD0, hNb⟩ := hv
  have hts := atoms_spec (ws := wds mt) B.pre
  have hown : s.vm.findClass mt.1.cls = some m.cls := findClass_of_methodNamed B.named
  have hnm : meth.name = mt.1.name := (name_of_methodNamed B.named B.method).1
  have hlocks : meth.locks = false := B.notSynchronized
  have hr := B.returns
  have hx := B.exec
  have hb := B.bytes
  subst hsz
  have hD := hD0.self (sz := s.heap.size)
  have hl := lv_entry (as.map (cv ρ)) (n := mt.2.2.1) (by rw [lay_len]; exact hlen)
  rw [lg_entry_eq]
  generalize (lg_sl (as.map (cv ρ)) ++ List.replicate (mt.2.2.1 - (lg_sl (as.map (cv ρ))).length) Slot.unset).toArray = ls at hl ⊢
  have hLR : LR ρ ls mt.2.2.1 L := by rw [← hL]; exact ent_LR hl
  have h1 := h p l e (rmO mt N M) s m (as.map (cv ρ)).toArray below meth c (va_A (wsW ρ ca I R N) s.heap.size) D ρ ca N (MQ below (QC mt.2.2.2.1 Q D ρ ca N M (va_A (wsW ρ ca I R N) s.heap.size)) (as.map (cv ρ)).toArray s (M - N) (cum M - cum N) (va_A (wsW ρ ca I R N) s.heap.size))
    ⟨hx, hb, hml, hown, fun w hw => hts w (List.mem_cons_of_mem _ hw), fun q h => Or.inr h, hK, ⟨Nat.le_refl _, Nat.le_refl _, Nat.le_refl _, Nat.le_refl _⟩, ⟨hnm, hNb⟩, Or.inl rfl, hM, ?_⟩ s.heap [] ls ρ ca ⟨hP, hD, va_S.rf, hLR, hAr, fun _ _ => rfl, fun _ _ => rfl, Nat.le_refl _⟩
  · rw [Nat.sub_self, Nat.sub_self] at h1
    exact h1
  · intro pc H locs ls' ρ' ca' L' rv I' R' hra hq hs
    obtain ⟨hok, hdec⟩ := hra
    obtain ⟨a1, a2, a3, -, a5, a6, a7, -⟩ := hs
    have fin : ∀ t : State, t.heap = H → s.WarmedH t.vm → bwl D ρ ca N M (va_A (wsW ρ ca I R N) s.heap.size) (I', R', ρ', ca') t := fun t ht hW => ⟨by rw [ht]; exact a1, va_K.moved hW.alike hK, arK.moved hW.alike a5, a2, a6, a7⟩
    rcases rv with _ | x | x | x
    · have hr0 := okret_n hok
      refine W.vret hx hb (hr.trans hr0) (fun t ht hW => ?_) a3.2.2 hdec hlocks
      unfold QC
      rw [if_pos hr0]
      exact ⟨⟨(I', R', ρ', ca'), rfl, hq, fin t ht hW⟩, a3.F ht⟩
    · rcases okret_i hok with hr0 | ⟨hr0, hx01⟩
      · refine W.iret (v := i32 x) hx hb (hr.trans hr0) (fun t ht hW => ?_) a3.2.2 hdec hlocks
        unfold QC
        rw [if_neg (by rw [hr0]; decide), if_neg (by rw [hr0]; decide)]
        exact ⟨⟨i32 x, (I', R', ρ', ca'), rfl, ⟨x, rfl, hok, hq⟩, fin t ht hW⟩, a3.F ht⟩
      · refine W.zret (v := i32 x) (ty := .boolean) hx hb (hr.trans hr0) (by rcases hx01 with rfl | rfl <;> rfl) (fun t ht hW => ?_) a3.2.2 hdec hlocks
        unfold QC
        rw [if_neg (by rw [hr0]; decide), if_neg (by rw [hr0]; decide)]
        exact ⟨⟨i32 x, (I', R', ρ', ca'), rfl, ⟨x, rfl, hok, hq⟩, fin t ht hW⟩, a3.F ht⟩
    · have hr0 := okret_l hok
      refine W.lret (v := i64 x) hx hb (hr.trans hr0) (fun t ht hW => ?_) a3.2.2 hdec hlocks
      unfold QC
      rw [if_neg (by rw [hr0]; decide), if_pos hr0]
      exact ⟨⟨i64 x, (I', R', ρ', ca'), rfl, ⟨x, rfl, hq⟩, fin t ht hW⟩, a3.F ht⟩
    · exact (okret_r hok).elim
/-! calls -/
def okv (N M : Nat) (v : AV) : Prop := match v with
  | some (.inr (.inr r)) => r ≤ N ∨ M < r
  | _ => True
def okP (N M : Nat) (L : List AV) : Prop := ∀ v ∈ L, okv N M v
theorem okP_nil {N M : Nat} : okP N M [] := fun _ h => by cases h
theorem okP_cons {N M : Nat} {v : AV} {L : List AV} (h : okv N M v) (h2 : okP N M L) : okP N M (v :: L) := fun w hw => (List.mem_cons.mp hw).elim (fun e => e ▸ h) (h2 w)
theorem okP_eq {N : Nat} {L : List AV} : okP N N L := fun v _ => by
  rcases v with _ | x | x | r
  · trivial
  · trivial
  · trivial
  · show r ≤ N ∨ N < r
    omega
theorem cv_agr {ρ ρ' : Nat → Nat} {N M : Nat} {v : AV} (h : agr ρ' ρ N M) (hv : okv N M v) : cv ρ' v = cv ρ v := by
  rcases v with _ | x | x | r
  · rfl
  · rfl
  · rfl
  · show va_rf (rfv ρ' r) = va_rf (rfv ρ r)
    unfold rfv
    rw [h r hv]
theorem map_agr {ρ ρ' : Nat → Nat} {N M : Nat} {L : List AV} (h : agr ρ' ρ N M) (hv : okP N M L) : L.map (cv ρ') = L.map (cv ρ) := List.map_congr_left (fun v hv' => cv_agr h (hv v hv'))
theorem LR.agr {ρ ρ' : Nat → Nat} {N M : Nat} {ls : Array Slot} {nL : Nat} {L : List AV} (hl : LR ρ ls nL L) (h : agr ρ' ρ N M) (hv : okP N M L) : LR ρ' ls nL L := ⟨hl.1, hl.2.1, fun k v hk => by
  rw [cv_agr h (hv _ (List.mem_of_getElem? hk))]
  exact hl.2.2 k v hk⟩
theorem agr.trans {α : Type} {f g k : Nat → α} {N0 N M : Nat} (h0 : N0 ≤ N) (h1 : N ≤ M) (a : agr f g N M) (b : agr g k N0 N) : agr f k N0 M := fun r hr => by
  rcases hr with hr | hr
  · rw [a r (Or.inl (by omega)), b r (Or.inl hr)]
  · rw [a r (Or.inr hr), b r (Or.inr (by omega))]
def psh (rv : AV) (rest : List AV) : List AV := match rv with
  | none => rest
  | some v => some v :: rest
def catA (v : AV) : Nat := match v with
  | some (.inr (.inl _)) => 2
  | _ => 1
def catS (L : List AV) : Nat := (L.map catA).sum
theorem catS_eq {ρ : Nat → Nat} : ∀ L : List AV, ((L.map (cv ρ)).map fun v => v.category).sum = catS L
  | [] => rfl
  | v :: L => by
    have ih := catS_eq (ρ := ρ) L
    have h1 : (cv ρ v).category = catA v := by
      rcases v with _ | x | x | r
      · rfl
      · rfl
      · rfl
      · exact cv_catR
    rw [List.map_cons, List.map_cons, List.sum_cons, h1, ih]
    unfold catS
    rw [List.map_cons, List.sum_cons]
section CALL
variable {K : KT} {mt : MI} {Q : QT} {pc pc' : Nat} {L S : List AV} {I : II} {R : RR} {N : Nat}
set_option maxHeartbeats 4000000 in
theorem call_fin {ret : Option FieldType} {Q' : QT} {M' : Nat} {rest : List AV} {p : Program} {l : Launch} {e : Env} {Rm : Room} {s : State} {m : MethodId} {args : Array Value} {below : List Frame} {meth : Method} {c : Code} {A : Nat → Prop} {D : va_G} {ρ0 : Nat → Nat} {ca0 : Nat → ClassId} {N0 : Nat} {QQ : State → Prop} {H : Heap} {locs : List Loc} {ls : Array Slot} {ρ : Nat → Nat} {ca : Nat → ClassId} {st0 : List Value} {a : Array Value}
    (g : good K mt Q p l e Rm s m args below meth c A D ρ0 ca0 N0 QQ) (hs : SM mt s A D ρ0 ca0 N0 H locs ls ρ ca L I R N) (hNM : N ≤ M') (okL : okP N M' L) (okr : okP N M' rest)
    (hrun : va_Run p l e Rm s m args below meth c H locs (N - N0) (cum N - cum N0) (M' - N) (cum M' - cum N) (F0 m pc ls st0) (rest.map (cv ρ)) (QC ret Q' D ρ ca N M' (va_A (wsW ρ ca I R N) H.size) a) (va_A (wsW ρ ca I R N) H.size))
    (kk : ∀ rv I' R', okret ret rv → Q' rv I' R' → wp K mt Q (pc + 3) L (psh rv rest) I' R' M') : W p l e Rm s m args below meth c H locs (N - N0) (cum N - cum N0) QQ (F0 m pc ls st0) := by
  obtain ⟨s1, s2, s3, s4, s5, s6, s7, s8⟩ := hs
  have hF : ∀ q, va_A (wsW ρ ca I R N) H.size q → A q := by
    intro q h
    rcases h with ⟨k, e, h⟩ | h
    · exact s2.2 k (q, e) h
    · exact g.2.2.2.2.2.1 q (Nat.le_trans s3.1 h)
  have hc1 : N - N0 + (M' - N) = M' - N0 := by omega
  have hc2 : cum N - cum N0 + (cum M' - cum N) = cum M' - cum N0 := by
    have h1 := cum_le s8
    have h2 := cum_le hNM
    omega
  have next : ∀ (rv : AV) (u : ST) (t : State) (H1 : Heap) (locs1 : List Loc), okret ret rv → Q' rv u.1 u.2.1 → t.heap = H1 → s.vm.Alike t.vm → bwl D ρ ca N M' (va_A (wsW ρ ca I R N) H.size) u t → va_S A s.heap H1 locs1 →
      W p l e Rm s m args below meth c H1 locs1 (N - N0 + (M' - N)) (cum N - cum N0 + (cum M' - cum N)) QQ (F0 m (pc + 3) ls ((psh rv rest).map (cv u.2.2.1))) := by
    intro rv u t H1 locs1 ho hq ht hvm hB hS
    obtain ⟨b1, b2, b3, b4, b5, b6⟩ := hB
    rw [ht] at b1
    rw [hc1, hc2]
    exact kk rv u.1 u.2.1 ho hq p l e Rm s m args below meth c A D ρ0 ca0 N0 QQ g H1 locs1 ls u.2.2.1 u.2.2.2 ⟨b1, b4.weaken (fun _ _ _ h => hF _ h), hS, s4.agr b5 okL, arK.moved hvm.symm b3, agr.trans s8 hNM b5 s6, agr.trans s8 hNM b6 s7, Nat.le_trans s8 hNM⟩
  unfold QC at hrun
  by_cases h0 : ret = none
  · rw [if_pos h0] at hrun
    refine va_callv hrun s3 (fun q _ h => hF q h) hF (fun u t H1 locs1 ht hvm hw hB hz hk hS => ?_)
    have := next none u t H1 locs1 (by rw [h0]; trivial) hw ht hvm hB hS
    rw [show (psh none rest).map (cv u.2.2.1) = rest.map (cv ρ) from map_agr hB.2.2.2.2.1 okr] at this
    exact this
  · rw [if_neg h0] at hrun
    by_cases h1 : ret = some .long
    · rw [if_pos h1] at hrun
      refine va_calll hrun s3 (fun q _ h => hF q h) hF (fun r u t H1 locs1 ht hvm hw hB hz hk hS => ?_)
      obtain ⟨x, rfl, hq⟩ := hw
      have := next (vL x) u t H1 locs1 (by rw [h1]; trivial) hq ht hvm hB hS
      rw [show (psh (vL x) rest).map (cv u.2.2.1) = .long (i64 x) :: rest.map (cv ρ) from congrArg (fun z => Value.long (i64 x) :: z) (map_agr hB.2.2.2.2.1 okr)] at this
      exact this
    · rw [if_neg h1] at hrun
      refine va_calli hrun s3 (fun q _ h => hF q h) hF (fun r u t H1 locs1 ht hvm hw hB hz hk hS => ?_)
      obtain ⟨x, rfl, hok, hq⟩ := hw
      have := next (vI x) u t H1 locs1 hok hq ht hvm hB hS
      rw [show (psh (vI x) rest).map (cv u.2.2.1) = .int (i32 x) :: rest.map (cv ρ) from congrArg (fun z => Value.int (i32 x) :: z) (map_agr hB.2.2.2.2.1 okr)] at this
      exact this
theorem gin {ws : List Cond} (h : ∀ w ∈ ws, w ∈ TB) : GoodIn TB ws := fun w hw => ⟨h w hw, tb_good (h w hw)⟩
theorem blind {D : va_G} {ρ : Nat → Nat} {ca : Nat → ClassId} {sz : Nat} {av : List Value} : FrameBlind (va_Pc av (fun U => U.heap.size = sz ∧ wldU D ρ ca I R N U)) := fun a U g mk q => by
  obtain ⟨q0, q1, qP, qK, qA, qD, qN⟩ := q
  exact ⟨q0, q1, qP, va_K.moved (u := U) (U := U.calling g mk a) (Vm.Alike.refl U.vm) qK, arK.moved (u := U) (U := U.calling g mk a) (Vm.Alike.refl U.vm) qA, qD, nbw.same (s := U) rfl qN⟩
theorem wds_in {mt' : MI} {n : Nat} (h : mOK mt' n) : ∀ w ∈ wds mt', w ∈ TB := fun w hw => (List.mem_cons.mp hw).elim (fun e => e ▸ h.1) id
theorem pcok {D : va_G} {ρ : Nat → Nat} {ca : Nat → ClassId} {A : Nat → Prop} {s : State} {H : Heap} {av : List Value} (s1 : va_P D vwCl (wsW ρ ca I R N) H) (s2 : va_D A (wsW ρ ca I R N)) (s5 : arK D ca N s) (gK : va_K D vwCl [] s) (gN : nbw s) : ∀ U : State, U.heap = H → s.WarmedH U.vm → va_Pc av (fun U => U.heap.size = H.size ∧ wldU D ρ ca I R N U) av.toArray U :=
  fun U hU hW => ⟨rfl, by rw [hU], by rw [hU]; exact s1, va_K.moved hW.alike gK, arK.moved hW.alike s5, s2.weaken (fun _ _ _ _ => trivial), nbw.warm hW gN⟩
set_option maxHeartbeats 4000000 in
theorem wp_callV {mt' : MI} {as rest : List AV} {r c0 idx M' n : Nat} {T : u_T} {Q' : QT} (hsp : Spec mt' (vR r :: as) I R N M' Q') (hd : decode mt.2.1 pc = .ok (.invokevirtual idx, 3)) (hS : as.reverse ++ vR r :: rest = S)
    (lk : Cond.methodLink mt.1.cls idx mt'.1 ∈ TB) (hm : mOK mt' as.length) (hin : Cond.instanceMethod mt'.1 ∈ TB) (hse : Cond.selects mt'.1.cls mt'.1 mt'.1 ∈ TB) (ho : isO N r c0) (hc : vwCl[c0]? = some (mt'.1.cls, T, n)) (hf : fits2 mt mt') (hw : catS rest ≤ 8) (hNM : N ≤ M') (hM : M' ≤ K.1) (okL : okP N M' L) (okr : okP N M' rest) (hp : pc + 3 = pc')
    (kk : ∀ rv I' R', okret mt'.2.2.2.1 rv → Q' rv I' R' → wp K mt Q pc' L (psh rv rest) I' R' M') : wp K mt Q pc L S I R N := by
  subst hS hp
  intro p l e Rm s m args below meth c A D ρ0 ca0 N0 QQ g H locs ls ρ ca hs
  have ⟨s1, s2, s3, s4, s5, s6, s7, s8⟩ := hs
  obtain ⟨h0, hN, hsh⟩ := ho
  have hrm := g.2.2.2.2.2.2.2.1
  have c1 := cum_le s8
  have c2 := cum_le hNM
  have c3 := cum_le hM
  have hG : GoodIn TB (wsV mt.1.cls idx mt'.1.cls mt'.1 (wds mt')) := gin (fun w hw => by
    rcases List.mem_append.mp hw with h | h
    · simp only [List.mem_cons, List.not_mem_nil, or_false] at h
      rcases h with rfl | rfl | rfl | rfl
      · exact lk
      · exact hin
      · exact hse
      · exact hm.2.1
    · exact wds_in hm w h)
  refine call_fin g hs hNM okL okr (va_runV (C := mt'.1.cls) (As := as.map (cv ρ)) (b := ρ r) (rest := rest.map (cv ρ)) (Ts := TB) ⟨g.1, g.2.1, g.2.2.1, g.2.2.2.1, g.2.2.2.2.1⟩ (hsp l D ρ ca H.size) (cwV as.length g.2.2.2.2.1 hG rfl rfl rfl ⟨rfl, hm.2.2.1, hm.2.2.2.1, hm.2.2.2.2⟩ ⟨Nat.le_trans hf.1 hrm.1, Nat.le_trans hf.2 hrm.2.1⟩) ⟨blind, va_recv g.2.2.2.2.2.2.1 s1 hc ((ws_at h0 hN).trans (by rw [cell_obj hsh])), ?_⟩ rfl (List.length_map _) s4.1 ?_ (lv_room (by rw [catS_eq]; exact hw)) hd ⟨by omega, by omega⟩) kk
  · have := pcok (av := (vR r :: as).map (cv ρ)) s1 s2 s5 g.2.2.2.2.2.2.1 g.2.2.2.2.2.2.2.2.1.2
    intro U hU hW
    have := this U hU hW
    rw [show (vR r :: as).map (cv ρ) = Value.ref (ρ r) :: as.map (cv ρ) by rw [List.map_cons, cv_pos h0]] at this ⊢
    exact this
  · show (as.reverse ++ vR r :: rest).map (cv ρ) = _
    rw [List.map_append, List.map_cons, cv_pos h0, List.map_reverse]
set_option maxHeartbeats 4000000 in
theorem wp_callS {mt' : MI} {as rest : List AV} {idx M' : Nat} {Q' : QT} (hsp : Spec mt' as I R N M' Q') (hd : decode mt.2.1 pc = .ok (.invokestatic idx, 3)) (hS : as.reverse ++ rest = S)
    (lk : Cond.methodLink mt.1.cls idx mt'.1 ∈ TB) (hm : mOK mt' as.length) (hst : Cond.static mt'.1 ∈ TB) (hf : fits2 mt mt') (hw : catS rest ≤ 8) (hNM : N ≤ M') (hM : M' ≤ K.1) (okL : okP N M' L) (okr : okP N M' rest) (hp : pc + 3 = pc')
    (kk : ∀ rv I' R', okret mt'.2.2.2.1 rv → Q' rv I' R' → wp K mt Q pc' L (psh rv rest) I' R' M') : wp K mt Q pc L S I R N := by
  subst hS hp
  intro p l e Rm s m args below meth c A D ρ0 ca0 N0 QQ g H locs ls ρ ca hs
  have ⟨s1, s2, s3, s4, s5, s6, s7, s8⟩ := hs
  have hrm := g.2.2.2.2.2.2.2.1
  have c1 := cum_le s8
  have c2 := cum_le hNM
  have c3 := cum_le hM
  have hG : GoodIn TB (va_wsS mt.1.cls idx mt'.1 (wds mt')) := gin (fun w hw => by
    rcases List.mem_append.mp hw with h | h
    · simp only [List.mem_cons, List.not_mem_nil, or_false] at h
      rcases h with rfl | rfl | rfl
      · exact lk
      · exact hst
      · exact hm.2.1
    · exact wds_in hm w h)
  refine call_fin g hs hNM okL okr (va_runS (As := as.map (cv ρ)) (rest := rest.map (cv ρ)) (Ts := TB) ⟨g.1, g.2.1, g.2.2.1, g.2.2.2.1, g.2.2.2.2.1⟩ (hsp l D ρ ca H.size) (va_cwS as.length g.2.2.2.2.1 hG rfl rfl rfl ⟨hm.2.2.1, hm.2.2.2.1, hm.2.2.2.2⟩ ⟨Nat.le_trans hf.1 hrm.1, Nat.le_trans hf.2 hrm.2.1⟩) ⟨blind, pcok s1 s2 s5 g.2.2.2.2.2.2.1 g.2.2.2.2.2.2.2.2.1.2⟩ rfl (List.length_map _) s4.1 ?_ (lv_room (by rw [catS_eq]; exact hw)) hd ⟨by omega, by omega⟩) kk
  show (as.reverse ++ rest).map (cv ρ) = _
  rw [List.map_append, List.map_reverse]
set_option maxHeartbeats 4000000 in
theorem wp_callSN {mt' : MI} {as rest : List AV} {idx M' : Nat} {host : String} {Q' : QT} (hsp : Spec mt' as I R N M' Q') (hd : decode mt.2.1 pc = .ok (.invokestatic idx, 3)) (hS : as.reverse ++ rest = S)
    (lk : Cond.methodLinkNest mt.1.cls idx mt'.1 host ∈ NB) (hm : mOK mt' as.length) (hst : Cond.static mt'.1 ∈ TB) (hf : fits2 mt mt') (hw : catS rest ≤ 8) (hNM : N ≤ M') (hM : M' ≤ K.1) (okL : okP N M' L) (okr : okP N M' rest) (hp : pc + 3 = pc')
    (kk : ∀ rv I' R', okret mt'.2.2.2.1 rv → Q' rv I' R' → wp K mt Q pc' L (psh rv rest) I' R' M') : wp K mt Q pc L S I R N := by
  subst hS hp
  intro p l e Rm s m args below meth c A D ρ0 ca0 N0 QQ g H locs ls ρ ca hs
  have ⟨s1, s2, s3, s4, s5, s6, s7, s8⟩ := hs
  have hrm := g.2.2.2.2.2.2.2.1
  have c1 := cum_le s8
  have c2 := cum_le hNM
  have c3 := cum_le hM
  refine call_fin g hs hNM okL okr (va_runSN (As := as.map (cv ρ)) (rest := rest.map (cv ρ)) (Ts := TB) ⟨g.1, g.2.1, g.2.2.1, g.2.2.2.1, g.2.2.2.2.1⟩ (hsp l D ρ ca H.size) ⟨va_cnB as.length g.2.2.2.2.1 (gin (wds_in hm)) rfl rfl rfl (g.2.2.2.2.2.2.2.2.1.2.1 _ lk) (g.2.2.2.2.1 _ hm.2.1) ⟨hm.2.2.1, hm.2.2.2.1, hm.2.2.2.2⟩ ⟨Nat.le_trans hf.1 hrm.1, Nat.le_trans hf.2 hrm.2.1⟩, g.2.2.2.2.1 _ hst, trivial⟩ ⟨blind, pcok s1 s2 s5 g.2.2.2.2.2.2.1 g.2.2.2.2.2.2.2.2.1.2⟩ rfl (List.length_map _) s4.1 ?_ (lv_room (by rw [catS_eq]; exact hw)) hd ⟨by omega, by omega⟩) kk
  show (as.reverse ++ rest).map (cv ρ) = _
  rw [List.map_append, List.map_reverse]
set_option maxHeartbeats 4000000 in
theorem wp_callI {mt' : MI} {as rest : List AV} {r idx M' : Nat} {Q' : QT} (hsp : Spec mt' (vR r :: as) I R N M' Q') (hd : decode mt.2.1 pc = .ok (.invokespecial idx, 3)) (hS : as.reverse ++ vR r :: rest = S) (h0 : 0 < r)
    (lk : Cond.methodLink mt.1.cls idx mt'.1 ∈ TB) (hm : mOK mt' as.length) (hin : Cond.instanceMethod mt'.1 ∈ TB) (hnm : mt'.1.name = "<init>") (hret : mt'.2.2.2.1 = none) (hf : fits2 mt mt') (hw : catS rest ≤ 8) (hNM : N ≤ M') (hM : M' ≤ K.1) (okL : okP N M' L) (okr : okP N M' rest) (hp : pc + 3 = pc')
    (kk : ∀ I' R', Q' none I' R' → wp K mt Q pc' L rest I' R' M') : wp K mt Q pc L S I R N := by
  subst hS hp
  intro p l e Rm s m args below meth c A D ρ0 ca0 N0 QQ g H locs ls ρ ca hs
  have ⟨s1, s2, s3, s4, s5, s6, s7, s8⟩ := hs
  have hrm := g.2.2.2.2.2.2.2.1
  have c1 := cum_le s8
  have c2 := cum_le hNM
  have c3 := cum_le hM
  have hme : wds mt' = Cond.code mt'.1 mt'.2.1 mt'.2.2.1 none :: TB := by unfold wds; rw [hret]
  have hp := pcok (av := (vR r :: as).map (cv ρ)) s1 s2 s5 g.2.2.2.2.2.2.1 g.2.2.2.2.2.2.2.2.1.2
  have hsp' := hsp l D ρ ca H.size
  have hav : (vR r :: as).map (cv ρ) = Value.ref (ρ r) :: as.map (cv ρ) := by rw [List.map_cons, cv_pos h0]
  rw [hav] at hp hsp'
  refine call_fin g hs hNM okL okr (va_runI (As := as.map (cv ρ)) (b := ρ r) (rest := rest.map (cv ρ)) (Ts := TB) ⟨g.1, g.2.1, g.2.2.1, g.2.2.2.1, g.2.2.2.2.1⟩ hsp' (cwI as.length g.2.2.2.2.1 (gin (wds_in hm)) hme rfl rfl (g.2.2.2.2.1 _ hm.2.1) (g.2.2.2.2.1 _ lk) (g.2.2.2.2.1 _ hin) hnm ⟨hm.2.2.1, hm.2.2.2.1, hm.2.2.2.2⟩ ⟨Nat.le_trans hf.1 hrm.1, Nat.le_trans hf.2 hrm.2.1⟩) ⟨blind, hp⟩ rfl (List.length_map _) s4.1 ?_ (lv_room (by rw [catS_eq]; exact hw)) hd ⟨by omega, by omega⟩) (fun rv I' R' ho hq => ?_)
  · show (as.reverse ++ vR r :: rest).map (cv ρ) = _
    rw [List.map_append, List.map_cons, cv_pos h0, List.map_reverse]
  · rw [hret] at ho
    rcases rv with _ | x | x | x
    · exact kk I' R' hq
    · rcases okret_i ho with h | ⟨h, -⟩ <;> cases h
    · have := okret_l ho; cases this
    · exact (okret_r ho).elim
set_option maxHeartbeats 4000000 in
theorem wp_callIN {mt' : MI} {as rest : List AV} {r idx M' : Nat} {host : String} {Q' : QT} (hsp : Spec mt' (vR r :: as) I R N M' Q') (hd : decode mt.2.1 pc = .ok (.invokespecial idx, 3)) (hS : as.reverse ++ vR r :: rest = S) (h0 : 0 < r)
    (lk : Cond.methodLinkNest mt.1.cls idx mt'.1 host ∈ NB) (hm : mOK mt' as.length) (hin : Cond.instanceMethod mt'.1 ∈ TB) (hnm : mt'.1.name = "<init>") (hret : mt'.2.2.2.1 = none) (hf : fits2 mt mt') (hw : catS rest ≤ 8) (hNM : N ≤ M') (hM : M' ≤ K.1) (okL : okP N M' L) (okr : okP N M' rest) (hp : pc + 3 = pc')
    (kk : ∀ I' R', Q' none I' R' → wp K mt Q pc' L rest I' R' M') : wp K mt Q pc L S I R N := by
  subst hS hp
  intro p l e Rm s m args below meth c A D ρ0 ca0 N0 QQ g H locs ls ρ ca hs
  have ⟨s1, s2, s3, s4, s5, s6, s7, s8⟩ := hs
  have hrm := g.2.2.2.2.2.2.2.1
  have c1 := cum_le s8
  have c2 := cum_le hNM
  have c3 := cum_le hM
  have hme : wds mt' = Cond.code mt'.1 mt'.2.1 mt'.2.2.1 none :: TB := by unfold wds; rw [hret]
  have hp := pcok (av := (vR r :: as).map (cv ρ)) s1 s2 s5 g.2.2.2.2.2.2.1 g.2.2.2.2.2.2.2.2.1.2
  have hsp' := hsp l D ρ ca H.size
  have hav : (vR r :: as).map (cv ρ) = Value.ref (ρ r) :: as.map (cv ρ) := by rw [List.map_cons, cv_pos h0]
  rw [hav] at hp hsp'
  refine call_fin g hs hNM okL okr (va_runIN (As := as.map (cv ρ)) (b := ρ r) (rest := rest.map (cv ρ)) (Ts := TB) ⟨g.1, g.2.1, g.2.2.1, g.2.2.2.1, g.2.2.2.2.1⟩ hsp' ⟨va_cnB as.length g.2.2.2.2.1 (gin (wds_in hm)) hme rfl rfl (g.2.2.2.2.2.2.2.2.1.2.1 _ lk) (g.2.2.2.2.1 _ hm.2.1) ⟨hm.2.2.1, hm.2.2.2.1, hm.2.2.2.2⟩ ⟨Nat.le_trans hf.1 hrm.1, Nat.le_trans hf.2 hrm.2.1⟩, hnm, g.2.2.2.2.1 _ hin⟩ ⟨blind, hp⟩ rfl (List.length_map _) s4.1 ?_ (lv_room (by rw [catS_eq]; exact hw)) hd ⟨by omega, by omega⟩) (fun rv I' R' ho hq => ?_)
  · show (as.reverse ++ vR r :: rest).map (cv ρ) = _
    rw [List.map_append, List.map_cons, cv_pos h0, List.map_reverse]
  · rw [hret] at ho
    rcases rv with _ | x | x | x
    · exact kk I' R' hq
    · rcases okret_i ho with h | ⟨h, -⟩ <;> cases h
    · have := okret_l ho; cases this
    · exact (okret_r ho).elim
end CALL
