/-! one rule an instruction, over the abstract words -/
theorem cl_ws0 : ∀ q ∈ vwCl, ∀ w ∈ u_ws q.1 q.2.1 q.2.2, w ∈ lw_tbl := by decide +kernel
theorem cl_ws1 : ∀ q ∈ vwCl, ∀ w ∈ u_ws q.1 q.2.1 q.2.2, goodWord w = true := by decide +kernel
theorem cl_ws {c : Nat} {C : String} {T : u_T} {n : Nat} (h : vwCl[c]? = some (C, T, n)) : ∀ w ∈ u_ws C T n, w ∈ TB := fun w hw => List.mem_filter.mpr ⟨cl_ws0 _ (List.mem_of_getElem? h) w hw, cl_ws1 _ (List.mem_of_getElem? h) w hw⟩
theorem cl_nm0 : ∀ q ∈ vwCl, ∀ a, a < q.2.2 → ∀ b, b < q.2.2 → a ≠ b → (q.2.1 a).2.1 ≠ (q.2.1 b).2.1 := by decide +kernel
theorem cl_nm {c : Nat} {C : String} {T : u_T} {n : Nat} (h : vwCl[c]? = some (C, T, n)) : ∀ a, a < n → ∀ b, b < n → a ≠ b → (T a).2.1 ≠ (T b).2.1 := cl_nm0 _ (List.mem_of_getElem? h)
theorem cl_ty0 : ∀ c, c < 11 → ∀ k, k < nfc c → (vwCl[c]?.bind (fun q => parseFieldDescriptor (q.2.1 k).2.2.1)) = some (fty c k) := by decide +kernel
theorem cl_ty {c : Nat} {C : String} {T : u_T} {n : Nat} (h : vwCl[c]? = some (C, T, n)) : ∀ k, k < n → parseFieldDescriptor (T k).2.2.1 = some (fty c k) := fun k hk => by
  have h1 := cl_ty0 c (vw_lt h) k (by rw [nfc_of h]; exact hk)
  rw [h] at h1
  exact h1
theorem cum_le {a b : Nat} (h : a ≤ b) : cum a ≤ cum b := by
  induction b with
  | zero => rw [show a = 0 by omega]; exact Nat.le_refl _
  | succ n ih =>
    by_cases e : a = n + 1
    · rw [e]; exact Nat.le_refl _
    · exact Nat.le_trans (ih (by omega)) (Nat.le_add_right _ _)
theorem bi_ok {n : Int} (h : -128 ≤ n ∧ n ≤ 127) : (Int8.ofInt n).toInt32 = i32 n := by
  apply Int32.toInt_inj.mp
  rw [Int8.toInt_toInt32, Int8.toInt_ofInt_of_le (by omega) (by omega), i32_toInt ⟨by omega, by omega⟩]
theorem si_ok {n : Int} (h : -32768 ≤ n ∧ n ≤ 32767) : (Int16.ofInt n).toInt32 = i32 n := by
  apply Int32.toInt_inj.mp
  rw [Int16.toInt_toInt32, Int16.toInt_ofInt_of_le (by omega) (by omega), i32_toInt ⟨by omega, by omega⟩]
section RULES
variable {K : KT} {mt : MI} {Q : QT} {pc pc' : Nat} {L L' S S' : List AV} {I : II} {R : RR} {N : Nat}
theorem wp_step (h : ∀ (p : Program) (l : Launch) (e : Env) (Rm : Room) (s : State) (m : MethodId) (args : Array Value) (below : List Frame) (meth : Method) (c : Code) (H : Heap) (locs : List Loc) (cells slots : Nat) (QQ : State → Prop) (ls : Array Slot) (ρ : Nat → Nat), p.tables.exec = Jvm.exec → c.code = mt.2.1 → LR ρ ls mt.2.2.1 L → s.vm.findClass mt.1.cls = some m.cls → (∀ w ∈ TB, w.before args s = true) → W p l e Rm s m args below meth c H locs cells slots QQ (F0 m pc' ls (S'.map (cv ρ))) → W p l e Rm s m args below meth c H locs cells slots QQ (F0 m pc ls (S.map (cv ρ))))
    (k : wp K mt Q pc' L S' I R N) : wp K mt Q pc L S I R N := by
  intro p l e Rm s m args below meth c A D ρ0 ca0 N0 QQ g H locs ls ρ ca hs
  exact h p l e Rm s m args below meth c H locs _ _ QQ ls ρ g.1 g.2.1 hs.2.2.2.1 g.2.2.2.1 g.2.2.2.2.1 (k p l e Rm s m args below meth c A D ρ0 ca0 N0 QQ g H locs ls ρ ca hs)
theorem wp_store (h : ∀ (p : Program) (l : Launch) (e : Env) (Rm : Room) (s : State) (m : MethodId) (args : Array Value) (below : List Frame) (meth : Method) (c : Code) (H : Heap) (locs : List Loc) (cells slots : Nat) (QQ : State → Prop) (ls : Array Slot) (ρ : Nat → Nat), p.tables.exec = Jvm.exec → c.code = mt.2.1 → LR ρ ls mt.2.2.1 L → (∀ ls' : Array Slot, LR ρ ls' mt.2.2.1 L' → W p l e Rm s m args below meth c H locs cells slots QQ (F0 m pc' ls' (S'.map (cv ρ)))) → W p l e Rm s m args below meth c H locs cells slots QQ (F0 m pc ls (S.map (cv ρ))))
    (k : wp K mt Q pc' L' S' I R N) : wp K mt Q pc L S I R N := by
  intro p l e Rm s m args below meth c A D ρ0 ca0 N0 QQ g H locs ls ρ ca ⟨h1, h2, h3, h4, h5⟩
  exact h p l e Rm s m args below meth c H locs _ _ QQ ls ρ g.1 g.2.1 h4 (fun ls' h4' => k p l e Rm s m args below meth c A D ρ0 ca0 N0 QQ g H locs ls' ρ ca ⟨h1, h2, h3, h4', h5⟩)
/-- fewer values are known -/
theorem wp_drop (hl : leL L' L = true) (k : wp K mt Q pc L' S I R N) : wp K mt Q pc L S I R N := by
  intro p l e Rm s m args below meth c A D ρ0 ca0 N0 QQ g H locs ls ρ ca ⟨h1, h2, h3, h4, h5⟩
  exact k p l e Rm s m args below meth c A D ρ0 ca0 N0 QQ g H locs ls ρ ca ⟨h1, h2, h3, h4.le hl, h5⟩

theorem wp_iconst {n : Int}  (hd : decode mt.2.1 pc = .ok (.iconst n, 1)) (hp : pc + 1 = pc') (kk : wp K mt Q pc' L (vI n :: S) I R N) : wp K mt Q pc L (S) I R N := by
  subst hp
  refine wp_step (fun p l e Rm s m args below meth c H locs cells slots QQ ls ρ hx hb hl hown hts k => ?_) kk
  exact lv_iconst hx hb hd rfl k

theorem wp_bipush {n : Int} (hn : -128 ≤ n ∧ n ≤ 127)  (hd : decode mt.2.1 pc = .ok (.bipush n, 2)) (hp : pc + 2 = pc') (kk : wp K mt Q pc' L (vI n :: S) I R N) : wp K mt Q pc L (S) I R N := by
  subst hp
  refine wp_step (fun p l e Rm s m args below meth c H locs cells slots QQ ls ρ hx hb hl hown hts k => ?_) kk
  exact lv_bipush hx hb hd (bi_ok hn) k

theorem wp_sipush {n : Int} (hn : -32768 ≤ n ∧ n ≤ 32767)  (hd : decode mt.2.1 pc = .ok (.sipush n, 3)) (hp : pc + 3 = pc') (kk : wp K mt Q pc' L (vI n :: S) I R N) : wp K mt Q pc L (S) I R N := by
  subst hp
  refine wp_step (fun p l e Rm s m args below meth c H locs cells slots QQ ls ρ hx hb hl hown hts k => ?_) kk
  exact lv_sipush hx hb hd (si_ok hn) k

theorem wp_lconst {n : Fin 2}  (hd : decode mt.2.1 pc = .ok (.lconst n, 1)) (hp : pc + 1 = pc') (kk : wp K mt Q pc' L (vL ((n : Nat) : Int) :: S) I R N) : wp K mt Q pc L (S) I R N := by
  subst hp
  refine wp_step (fun p l e Rm s m args below meth c H locs cells slots QQ ls ρ hx hb hl hown hts k => ?_) kk
  exact lv_lconst hx hb hd (Int64.ofInt_eq_ofNat (n := (n : Nat))).symm k

theorem wp_ldc2 {index : Nat} {v : Int64} {x : Int} (hc : Cond.constantLong mt.1.cls index v ∈ TB) (hv : v = i64 x)  (hd : decode mt.2.1 pc = .ok (.ldc2_w index, 3)) (hp : pc + 3 = pc') (kk : wp K mt Q pc' L (vL x :: S) I R N) : wp K mt Q pc L (S) I R N := by
  subst hp
  refine wp_step (fun p l e Rm s m args below meth c H locs cells slots QQ ls ρ hx hb hl hown hts k => ?_) kk
  subst hv; exact lv_ldc2 hx hb hown (hts _ hc) hd k

theorem wp_iload_n {q : Fin 4} {i : Nat} {x : Int} (hi : (q : Nat) = i) (hL : L[i]? = some (vI x))  (hd : decode mt.2.1 pc = .ok (.iload_n q, 1)) (hp : pc + 1 = pc') (kk : wp K mt Q pc' L (vI x :: S) I R N) : wp K mt Q pc L (S) I R N := by
  subst hp
  refine wp_step (fun p l e Rm s m args below meth c H locs cells slots QQ ls ρ hx hb hl hown hts k => ?_) kk
  exact lv_iload_n hx hb hd hi (hl.at hL) k

theorem wp_iload {i : Nat} {x : Int} (hL : L[i]? = some (vI x))  (hd : decode mt.2.1 pc = .ok (.iload i, 2)) (hp : pc + 2 = pc') (kk : wp K mt Q pc' L (vI x :: S) I R N) : wp K mt Q pc L (S) I R N := by
  subst hp
  refine wp_step (fun p l e Rm s m args below meth c H locs cells slots QQ ls ρ hx hb hl hown hts k => ?_) kk
  exact lv_iload hx hb hd (hl.at hL) k

theorem wp_lload_n {q : Fin 4} {i : Nat} {x : Int} (hi : (q : Nat) = i) (hL : L[i]? = some (vL x))  (hd : decode mt.2.1 pc = .ok (.lload_n q, 1)) (hp : pc + 1 = pc') (kk : wp K mt Q pc' L (vL x :: S) I R N) : wp K mt Q pc L (S) I R N := by
  subst hp
  refine wp_step (fun p l e Rm s m args below meth c H locs cells slots QQ ls ρ hx hb hl hown hts k => ?_) kk
  exact lv_lload_n hx hb hd hi (hl.at hL) k

theorem wp_lload {i : Nat} {x : Int} (hL : L[i]? = some (vL x))  (hd : decode mt.2.1 pc = .ok (.lload i, 2)) (hp : pc + 2 = pc') (kk : wp K mt Q pc' L (vL x :: S) I R N) : wp K mt Q pc L (S) I R N := by
  subst hp
  refine wp_step (fun p l e Rm s m args below meth c H locs cells slots QQ ls ρ hx hb hl hown hts k => ?_) kk
  exact lv_lload hx hb hd (hl.at hL) k

theorem wp_aload_n {q : Fin 4} {i x : Nat} (hi : (q : Nat) = i) (hL : L[i]? = some (vR x))  (hd : decode mt.2.1 pc = .ok (.aload_n q, 1)) (hp : pc + 1 = pc') (kk : wp K mt Q pc' L (vR x :: S) I R N) : wp K mt Q pc L (S) I R N := by
  subst hp
  refine wp_step (fun p l e Rm s m args below meth c H locs cells slots QQ ls ρ hx hb hl hown hts k => ?_) kk
  have hl2 := hl.at hL
  have k : W p l e Rm s m args below meth c H locs cells slots QQ (F0 m (pc + 1) ls (cv ρ (vR x) :: S.map (cv ρ))) := k
  by_cases h0 : x = 0
  · subst h0
    exact lv_aload_nN hx hb hd hi hl2 k
  · rw [cv_pos (by omega)] at k
    rw [show cv ρ (some (.inr (.inr x))) = .ref (ρ x) from cv_pos (by omega)] at hl2
    exact lv_aload_n hx hb hd hi hl2 k

theorem wp_aload {i x : Nat} (hL : L[i]? = some (vR x))  (hd : decode mt.2.1 pc = .ok (.aload i, 2)) (hp : pc + 2 = pc') (kk : wp K mt Q pc' L (vR x :: S) I R N) : wp K mt Q pc L (S) I R N := by
  subst hp
  refine wp_step (fun p l e Rm s m args below meth c H locs cells slots QQ ls ρ hx hb hl hown hts k => ?_) kk
  have hl2 := hl.at hL
  have k : W p l e Rm s m args below meth c H locs cells slots QQ (F0 m (pc + 2) ls (cv ρ (vR x) :: S.map (cv ρ))) := k
  by_cases h0 : x = 0
  · subst h0
    exact lv_aloadN hx hb hd hl2 k
  · rw [cv_pos (by omega)] at k
    rw [show cv ρ (some (.inr (.inr x))) = .ref (ρ x) from cv_pos (by omega)] at hl2
    exact lv_aload hx hb hd hl2 k

theorem wp_anull (hd : decode mt.2.1 pc = .ok (.aconst_null, 1)) (hp : pc + 1 = pc') (kk : wp K mt Q pc' L (vR 0 :: S) I R N) : wp K mt Q pc L (S) I R N := by
  subst hp
  refine wp_step (fun p l e Rm s m args below meth c H locs cells slots QQ ls ρ hx hb hl hown hts k => ?_) kk
  exact lv_null hx hb hd k

theorem wp_iadd {x y : Int}  (hd : decode mt.2.1 pc = .ok (.iadd, 1)) (hp : pc + 1 = pc') (kk : wp K mt Q pc' L (vI (x + y) :: S) I R N) : wp K mt Q pc L (vI y :: vI x :: S) I R N := by
  subst hp
  refine wp_step (fun p l e Rm s m args below meth c H locs cells slots QQ ls ρ hx hb hl hown hts k => ?_) kk
  refine lv_iadd hx hb hd ?_
  rw [i32_add]; exact k

theorem wp_isub {x y : Int}  (hd : decode mt.2.1 pc = .ok (.isub, 1)) (hp : pc + 1 = pc') (kk : wp K mt Q pc' L (vI (x - y) :: S) I R N) : wp K mt Q pc L (vI y :: vI x :: S) I R N := by
  subst hp
  refine wp_step (fun p l e Rm s m args below meth c H locs cells slots QQ ls ρ hx hb hl hown hts k => ?_) kk
  refine lv_isub hx hb hd ?_
  rw [i32_sub]; exact k

theorem wp_imul {x y : Int}  (hd : decode mt.2.1 pc = .ok (.imul, 1)) (hp : pc + 1 = pc') (kk : wp K mt Q pc' L (vI (x * y) :: S) I R N) : wp K mt Q pc L (vI y :: vI x :: S) I R N := by
  subst hp
  refine wp_step (fun p l e Rm s m args below meth c H locs cells slots QQ ls ρ hx hb hl hown hts k => ?_) kk
  refine lv_imul hx hb hd ?_
  rw [i32_mul]; exact k

theorem wp_ineg {x : Int}  (hd : decode mt.2.1 pc = .ok (.ineg, 1)) (hp : pc + 1 = pc') (kk : wp K mt Q pc' L (vI (-x) :: S) I R N) : wp K mt Q pc L (vI x :: S) I R N := by
  subst hp
  refine wp_step (fun p l e Rm s m args below meth c H locs cells slots QQ ls ρ hx hb hl hown hts k => ?_) kk
  refine lv_ineg hx hb hd ?_
  rw [i32_neg]; exact k

theorem wp_idiv {x y : Int} (h : 0 ≤ x ∧ x ≤ 2147483647 ∧ 0 < y ∧ y ≤ 2147483647)  (hd : decode mt.2.1 pc = .ok (.idiv, 1)) (hp : pc + 1 = pc') (kk : wp K mt Q pc' L (vI (x / y) :: S) I R N) : wp K mt Q pc L (vI y :: vI x :: S) I R N := by
  subst hp
  refine wp_step (fun p l e Rm s m args below meth c H locs cells slots QQ ls ρ hx hb hl hown hts k => ?_) kk
  refine lv_idiv hx hb hd (i32_ne0 h.2.2.1 h.2.2.2) ?_
  rw [i32_div h.1 h.2.1 h.2.2.1 h.2.2.2]; exact k

theorem wp_irem {x y : Int} (h : 0 ≤ x ∧ x ≤ 2147483647 ∧ 0 < y ∧ y ≤ 2147483647)  (hd : decode mt.2.1 pc = .ok (.irem, 1)) (hp : pc + 1 = pc') (kk : wp K mt Q pc' L (vI (x % y) :: S) I R N) : wp K mt Q pc L (vI y :: vI x :: S) I R N := by
  subst hp
  refine wp_step (fun p l e Rm s m args below meth c H locs cells slots QQ ls ρ hx hb hl hown hts k => ?_) kk
  refine lv_irem hx hb hd (i32_ne0 h.2.2.1 h.2.2.2) ?_
  rw [i32_rem h.1 h.2.1 h.2.2.1 h.2.2.2]; exact k

theorem wp_ldiv {x y : Int} (h : 0 ≤ x ∧ x ≤ 9223372036854775807 ∧ 0 < y ∧ y ≤ 9223372036854775807)  (hd : decode mt.2.1 pc = .ok (.ldiv, 1)) (hp : pc + 1 = pc') (kk : wp K mt Q pc' L (vL (x / y) :: S) I R N) : wp K mt Q pc L (vL y :: vL x :: S) I R N := by
  subst hp
  refine wp_step (fun p l e Rm s m args below meth c H locs cells slots QQ ls ρ hx hb hl hown hts k => ?_) kk
  refine lv_ldiv hx hb hd (i64_ne0 h.2.2.1 h.2.2.2) ?_
  rw [i64_div h.1 h.2.1 h.2.2.1 h.2.2.2]; exact k

theorem wp_lrem {x y : Int} (h : 0 ≤ x ∧ x ≤ 9223372036854775807 ∧ 0 < y ∧ y ≤ 9223372036854775807)  (hd : decode mt.2.1 pc = .ok (.lrem, 1)) (hp : pc + 1 = pc') (kk : wp K mt Q pc' L (vL (x % y) :: S) I R N) : wp K mt Q pc L (vL y :: vL x :: S) I R N := by
  subst hp
  refine wp_step (fun p l e Rm s m args below meth c H locs cells slots QQ ls ρ hx hb hl hown hts k => ?_) kk
  refine lv_lrem hx hb hd (i64_ne0 h.2.2.1 h.2.2.2) ?_
  rw [i64_rem h.1 h.2.1 h.2.2.1 h.2.2.2]; exact k

theorem wp_ladd {x y : Int}  (hd : decode mt.2.1 pc = .ok (.ladd, 1)) (hp : pc + 1 = pc') (kk : wp K mt Q pc' L (vL (x + y) :: S) I R N) : wp K mt Q pc L (vL y :: vL x :: S) I R N := by
  subst hp
  refine wp_step (fun p l e Rm s m args below meth c H locs cells slots QQ ls ρ hx hb hl hown hts k => ?_) kk
  refine lv_ladd hx hb hd ?_
  rw [i64_add]; exact k

theorem wp_lmul {x y : Int}  (hd : decode mt.2.1 pc = .ok (.lmul, 1)) (hp : pc + 1 = pc') (kk : wp K mt Q pc' L (vL (x * y) :: S) I R N) : wp K mt Q pc L (vL y :: vL x :: S) I R N := by
  subst hp
  refine wp_step (fun p l e Rm s m args below meth c H locs cells slots QQ ls ρ hx hb hl hown hts k => ?_) kk
  refine lv_lmul hx hb hd ?_
  rw [i64_mul]; exact k

theorem wp_iand {x y : Int}  (hd : decode mt.2.1 pc = .ok (.iand, 1)) (hp : pc + 1 = pc') (kk : wp K mt Q pc' L (vI (i32 x &&& i32 y).toInt :: S) I R N) : wp K mt Q pc L (vI y :: vI x :: S) I R N := by
  subst hp
  refine wp_step (fun p l e Rm s m args below meth c H locs cells slots QQ ls ρ hx hb hl hown hts k => ?_) kk
  refine lv_iand hx hb hd ?_
  have k : W p l e Rm s m args below meth c H locs cells slots QQ (F0 m (pc + 1) ls (.int (i32 (i32 x &&& i32 y).toInt) :: S.map (cv ρ))) := k
  rw [i32_of] at k; exact k

theorem wp_ior {x y : Int}  (hd : decode mt.2.1 pc = .ok (.ior, 1)) (hp : pc + 1 = pc') (kk : wp K mt Q pc' L (vI (i32 x ||| i32 y).toInt :: S) I R N) : wp K mt Q pc L (vI y :: vI x :: S) I R N := by
  subst hp
  refine wp_step (fun p l e Rm s m args below meth c H locs cells slots QQ ls ρ hx hb hl hown hts k => ?_) kk
  refine lv_ior hx hb hd ?_
  have k : W p l e Rm s m args below meth c H locs cells slots QQ (F0 m (pc + 1) ls (.int (i32 (i32 x ||| i32 y).toInt) :: S.map (cv ρ))) := k
  rw [i32_of] at k; exact k

theorem wp_land {x y : Int}  (hd : decode mt.2.1 pc = .ok (.land, 1)) (hp : pc + 1 = pc') (kk : wp K mt Q pc' L (vL (i64 x &&& i64 y).toInt :: S) I R N) : wp K mt Q pc L (vL y :: vL x :: S) I R N := by
  subst hp
  refine wp_step (fun p l e Rm s m args below meth c H locs cells slots QQ ls ρ hx hb hl hown hts k => ?_) kk
  refine lv_land hx hb hd ?_
  have k : W p l e Rm s m args below meth c H locs cells slots QQ (F0 m (pc + 1) ls (.long (i64 (i64 x &&& i64 y).toInt) :: S.map (cv ρ))) := k
  rw [i64_of] at k; exact k

theorem wp_lor {x y : Int}  (hd : decode mt.2.1 pc = .ok (.lor, 1)) (hp : pc + 1 = pc') (kk : wp K mt Q pc' L (vL (i64 x ||| i64 y).toInt :: S) I R N) : wp K mt Q pc L (vL y :: vL x :: S) I R N := by
  subst hp
  refine wp_step (fun p l e Rm s m args below meth c H locs cells slots QQ ls ρ hx hb hl hown hts k => ?_) kk
  refine lv_lor hx hb hd ?_
  have k : W p l e Rm s m args below meth c H locs cells slots QQ (F0 m (pc + 1) ls (.long (i64 (i64 x ||| i64 y).toInt) :: S.map (cv ρ))) := k
  rw [i64_of] at k; exact k

theorem wp_ishl {x y : Int}  (hd : decode mt.2.1 pc = .ok (.ishl, 1)) (hp : pc + 1 = pc') (kk : wp K mt Q pc' L (vI (i32 x <<< (i32 y &&& 31)).toInt :: S) I R N) : wp K mt Q pc L (vI y :: vI x :: S) I R N := by
  subst hp
  refine wp_step (fun p l e Rm s m args below meth c H locs cells slots QQ ls ρ hx hb hl hown hts k => ?_) kk
  refine lv_ishl hx hb hd ?_
  have k : W p l e Rm s m args below meth c H locs cells slots QQ (F0 m (pc + 1) ls (.int (i32 (i32 x <<< (i32 y &&& 31)).toInt) :: S.map (cv ρ))) := k
  rw [i32_of] at k; exact k

theorem wp_ishr {x y : Int}  (hd : decode mt.2.1 pc = .ok (.ishr, 1)) (hp : pc + 1 = pc') (kk : wp K mt Q pc' L (vI (i32 x >>> (i32 y &&& 31)).toInt :: S) I R N) : wp K mt Q pc L (vI y :: vI x :: S) I R N := by
  subst hp
  refine wp_step (fun p l e Rm s m args below meth c H locs cells slots QQ ls ρ hx hb hl hown hts k => ?_) kk
  refine lv_ishr hx hb hd ?_
  have k : W p l e Rm s m args below meth c H locs cells slots QQ (F0 m (pc + 1) ls (.int (i32 (i32 x >>> (i32 y &&& 31)).toInt) :: S.map (cv ρ))) := k
  rw [i32_of] at k; exact k

theorem wp_lshl {x y : Int}  (hd : decode mt.2.1 pc = .ok (.lshl, 1)) (hp : pc + 1 = pc') (kk : wp K mt Q pc' L (vL (i64 x <<< ((i32 y).toInt64 &&& 63)).toInt :: S) I R N) : wp K mt Q pc L (vI y :: vL x :: S) I R N := by
  subst hp
  refine wp_step (fun p l e Rm s m args below meth c H locs cells slots QQ ls ρ hx hb hl hown hts k => ?_) kk
  refine lv_lshl hx hb hd rfl ?_
  have k : W p l e Rm s m args below meth c H locs cells slots QQ (F0 m (pc + 1) ls (.long (i64 (i64 x <<< ((i32 y).toInt64 &&& 63)).toInt) :: S.map (cv ρ))) := k
  rw [i64_of] at k; exact k

theorem wp_lshr {x y : Int}  (hd : decode mt.2.1 pc = .ok (.lshr, 1)) (hp : pc + 1 = pc') (kk : wp K mt Q pc' L (vL (i64 x >>> ((i32 y).toInt64 &&& 63)).toInt :: S) I R N) : wp K mt Q pc L (vI y :: vL x :: S) I R N := by
  subst hp
  refine wp_step (fun p l e Rm s m args below meth c H locs cells slots QQ ls ρ hx hb hl hown hts k => ?_) kk
  refine lv_lshr hx hb hd rfl ?_
  have k : W p l e Rm s m args below meth c H locs cells slots QQ (F0 m (pc + 1) ls (.long (i64 (i64 x >>> ((i32 y).toInt64 &&& 63)).toInt) :: S.map (cv ρ))) := k
  rw [i64_of] at k; exact k

theorem wp_lushr {x y : Int}  (hd : decode mt.2.1 pc = .ok (.lushr, 1)) (hp : pc + 1 = pc') (kk : wp K mt Q pc' L (vL (((i64 x).toUInt64 >>> ((i32 y).toInt64.toUInt64 &&& Int64.toUInt64 63)).toInt64).toInt :: S) I R N) : wp K mt Q pc L (vI y :: vL x :: S) I R N := by
  subst hp
  refine wp_step (fun p l e Rm s m args below meth c H locs cells slots QQ ls ρ hx hb hl hown hts k => ?_) kk
  refine lv_lushr hx hb hd rfl ?_
  have k : W p l e Rm s m args below meth c H locs cells slots QQ (F0 m (pc + 1) ls (.long (i64 (((i64 x).toUInt64 >>> ((i32 y).toInt64.toUInt64 &&& Int64.toUInt64 63)).toInt64).toInt) :: S.map (cv ρ))) := k
  rw [i64_of] at k; exact k

theorem wp_i2l {x : Int} (h : InI x)  (hd : decode mt.2.1 pc = .ok (.i2l, 1)) (hp : pc + 1 = pc') (kk : wp K mt Q pc' L (vL x :: S) I R N) : wp K mt Q pc L (vI x :: S) I R N := by
  subst hp
  refine wp_step (fun p l e Rm s m args below meth c H locs cells slots QQ ls ρ hx hb hl hown hts k => ?_) kk
  exact lv_i2l hx hb hd (i32_i2l h) k

theorem wp_l2i {x : Int}  (hd : decode mt.2.1 pc = .ok (.l2i, 1)) (hp : pc + 1 = pc') (kk : wp K mt Q pc' L (vI x :: S) I R N) : wp K mt Q pc L (vL x :: S) I R N := by
  subst hp
  refine wp_step (fun p l e Rm s m args below meth c H locs cells slots QQ ls ρ hx hb hl hown hts k => ?_) kk
  exact lv_l2i hx hb hd (i64_l2i x) k

theorem wp_lcmp {x y : Int} (ha : InL x) (hb2 : InL y)  (hd : decode mt.2.1 pc = .ok (.lcmp, 1)) (hp : pc + 1 = pc') (kk : wp K mt Q pc' L (vI (if y < x then 1 else if x = y then 0 else -1) :: S) I R N) : wp K mt Q pc L (vL y :: vL x :: S) I R N := by
  subst hp
  refine wp_step (fun p l e Rm s m args below meth c H locs cells slots QQ ls ρ hx hb hl hown hts k => ?_) kk
  refine W.lcmp hx hb hd ?_
  rw [i64_cmp ha hb2]; exact k

theorem wp_dupI {x : Int}  (hd : decode mt.2.1 pc = .ok (.dup, 1)) (hp : pc + 1 = pc') (kk : wp K mt Q pc' L (vI x :: vI x :: S) I R N) : wp K mt Q pc L (vI x :: S) I R N := by
  subst hp
  refine wp_step (fun p l e Rm s m args below meth c H locs cells slots QQ ls ρ hx hb hl hown hts k => ?_) kk
  exact lv_dup hx hb hd rfl k

theorem wp_dupR {x : Nat}  (hd : decode mt.2.1 pc = .ok (.dup, 1)) (hp : pc + 1 = pc') (kk : wp K mt Q pc' L (vR x :: vR x :: S) I R N) : wp K mt Q pc L (vR x :: S) I R N := by
  subst hp
  refine wp_step (fun p l e Rm s m args below meth c H locs cells slots QQ ls ρ hx hb hl hown hts k => ?_) kk
  exact lv_dup hx hb hd cv_catR k

theorem wp_popI {x : Int}  (hd : decode mt.2.1 pc = .ok (.pop, 1)) (hp : pc + 1 = pc') (kk : wp K mt Q pc' L (S) I R N) : wp K mt Q pc L (vI x :: S) I R N := by
  subst hp
  refine wp_step (fun p l e Rm s m args below meth c H locs cells slots QQ ls ρ hx hb hl hown hts k => ?_) kk
  exact lv_pop hx hb hd rfl k

theorem wp_dup2 {x : Int} {r : Nat}  (hd : decode mt.2.1 pc = .ok (.dup2, 1)) (hp : pc + 1 = pc') (kk : wp K mt Q pc' L (vI x :: vR r :: vI x :: vR r :: S) I R N) : wp K mt Q pc L (vI x :: vR r :: S) I R N := by
  subst hp
  refine wp_step (fun p l e Rm s m args below meth c H locs cells slots QQ ls ρ hx hb hl hown hts k => ?_) kk
  exact lv_dup2_11 hx hb hd rfl cv_catR k

theorem wp_goto {off : Int} {tgt : Nat} (hd : decode mt.2.1 pc = .ok (.goto off, 3)) (ht : (pc : Int) + off = (tgt : Int)) (kk : wp K mt Q tgt L S I R N) : wp K mt Q pc L S I R N :=
  wp_step (fun p l e Rm s m args below meth c H locs cells slots QQ ls ρ hx hb hl hown hts k => lv_goto hx hb hd ht k) kk

theorem wp_ifnull0 {off : Int} {tgt : Nat} (hd : decode mt.2.1 pc = .ok (.ifnull off, 3)) (ht : (pc : Int) + off = (tgt : Int)) (kk : wp K mt Q tgt L S I R N) : wp K mt Q pc L (vR 0 :: S) I R N :=
  wp_step (fun p l e Rm s m args below meth c H locs cells slots QQ ls ρ hx hb hl hown hts k => lv_ifnullN hx hb hd ht k) kk

theorem wp_ifnull0' {off : Int} {tgt x : Nat} (h0 : x = 0) (hd : decode mt.2.1 pc = .ok (.ifnull off, 3)) (ht : (pc : Int) + off = (tgt : Int)) (kk : wp K mt Q tgt L S I R N) : wp K mt Q pc L (vR x :: S) I R N := by
  subst h0
  exact wp_ifnull0 hd ht kk

theorem wp_ifnull1 {off : Int} {x : Nat} (h0 : 0 < x) (hd : decode mt.2.1 pc = .ok (.ifnull off, 3)) (hp : pc + 3 = pc') (kk : wp K mt Q pc' L S I R N) : wp K mt Q pc L (vR x :: S) I R N := by
  subst hp
  refine wp_step (fun p l e Rm s m args below meth c H locs cells slots QQ ls ρ hx hb hl hown hts k => ?_) kk
  show W p l e Rm s m args below meth c H locs cells slots QQ (F0 m pc ls (cv ρ (vR x) :: S.map (cv ρ)))
  rw [cv_pos h0]
  exact lv_ifnull hx hb hd k

theorem wp_istore_n {q : Fin 4} {i : Nat} {x : Int} (hi : (q : Nat) = i) (hlt : i < mt.2.2.1) (ok : okst L i = true) (hd : decode mt.2.1 pc = .ok (.istore_n q, 1)) (hp : pc + 1 = pc') (hL : L.set i (vI x) = L') (kk : wp K mt Q pc' L' S I R N) : wp K mt Q pc L (vI x :: S) I R N := by
  subst hp hL
  refine wp_store (fun p l e Rm s m args below meth c H locs cells slots QQ ls ρ hx hb hl k => ?_) kk
  exact lv_istore_n hx hb hd hi hl.has hlt rfl (fun ls' h' => k ls' (hl.set1 ok h'))

theorem wp_istore {i : Nat} {x : Int} (hlt : i < mt.2.2.1) (ok : okst L i = true) (hd : decode mt.2.1 pc = .ok (.istore i, 2)) (hp : pc + 2 = pc') (hL : L.set i (vI x) = L') (kk : wp K mt Q pc' L' S I R N) : wp K mt Q pc L (vI x :: S) I R N := by
  subst hp hL
  refine wp_store (fun p l e Rm s m args below meth c H locs cells slots QQ ls ρ hx hb hl k => ?_) kk
  exact lv_istore hx hb hd hl.has hlt rfl (fun ls' h' => k ls' (hl.set1 ok h'))

theorem wp_lstore_n {q : Fin 4} {i : Nat} {x : Int} (hi : (q : Nat) = i) (hlt : i + 1 < mt.2.2.1) (ok : okst L i = true) (hd : decode mt.2.1 pc = .ok (.lstore_n q, 1)) (hp : pc + 1 = pc') (hL : (L.set i (vL x)).set (i + 1) none = L') (kk : wp K mt Q pc' L' S I R N) : wp K mt Q pc L (vL x :: S) I R N := by
  subst hp hL
  refine wp_store (fun p l e Rm s m args below meth c H locs cells slots QQ ls ρ hx hb hl k => ?_) kk
  exact lv_lstore_n hx hb hd hi hl.has hlt rfl (fun ls' h' => k ls' (hl.set2 ok h'))

theorem wp_lstore {i : Nat} {x : Int} (hlt : i + 1 < mt.2.2.1) (ok : okst L i = true) (hd : decode mt.2.1 pc = .ok (.lstore i, 2)) (hp : pc + 2 = pc') (hL : (L.set i (vL x)).set (i + 1) none = L') (kk : wp K mt Q pc' L' S I R N) : wp K mt Q pc L (vL x :: S) I R N := by
  subst hp hL
  refine wp_store (fun p l e Rm s m args below meth c H locs cells slots QQ ls ρ hx hb hl k => ?_) kk
  exact lv_lstore hx hb hd hl.has hlt rfl (fun ls' h' => k ls' (hl.set2 ok h'))

theorem wp_astore_n {q : Fin 4} {i x : Nat} (h0 : 0 < x) (hi : (q : Nat) = i) (hlt : i < mt.2.2.1) (ok : okst L i = true) (hd : decode mt.2.1 pc = .ok (.astore_n q, 1)) (hp : pc + 1 = pc') (hL : L.set i (vR x) = L') (kk : wp K mt Q pc' L' S I R N) : wp K mt Q pc L (vR x :: S) I R N := by
  subst hp hL
  refine wp_store (fun p l e Rm s m args below meth c H locs cells slots QQ ls ρ hx hb hl k => ?_) kk
  have hc : cv ρ (vR x) = .ref (ρ x) := cv_pos h0
  show W p l e Rm s m args below meth c H locs cells slots QQ (F0 m pc ls (cv ρ (vR x) :: S.map (cv ρ)))
  rw [hc]
  exact lv_astore_n hx hb hd hi hl.has hlt rfl (fun ls' h' => k ls' (hl.set1 ok (by rw [show cv ρ (some (.inr (.inr x))) = .ref (ρ x) from hc]; exact h')))

theorem wp_astore {i x : Nat} (h0 : 0 < x) (hlt : i < mt.2.2.1) (ok : okst L i = true) (hd : decode mt.2.1 pc = .ok (.astore i, 2)) (hp : pc + 2 = pc') (hL : L.set i (vR x) = L') (kk : wp K mt Q pc' L' S I R N) : wp K mt Q pc L (vR x :: S) I R N := by
  subst hp hL
  refine wp_store (fun p l e Rm s m args below meth c H locs cells slots QQ ls ρ hx hb hl k => ?_) kk
  have hc : cv ρ (vR x) = .ref (ρ x) := cv_pos h0
  show W p l e Rm s m args below meth c H locs cells slots QQ (F0 m pc ls (cv ρ (vR x) :: S.map (cv ρ)))
  rw [hc]
  exact lv_astore hx hb hd hl.has hlt rfl (fun ls' h' => k ls' (hl.set1 ok (by rw [show cv ρ (some (.inr (.inr x))) = .ref (ρ x) from hc]; exact h')))

theorem wp_iinc {i : Nat} {n x : Int} (hl0 : L[i]? = some (vI x)) (hlt : i < mt.2.2.1) (ok : okst L i = true) (hd : decode mt.2.1 pc = .ok (.iinc i n, 3)) (hp : pc + 3 = pc') (hL : L.set i (vI (x + n)) = L') (kk : wp K mt Q pc' L' S I R N) : wp K mt Q pc L S I R N := by
  subst hp hL
  refine wp_store (fun p l e Rm s m args below meth c H locs cells slots QQ ls ρ hx hb hl k => ?_) kk
  have h9 : lv_has ls mt.2.2.1 ((i, .int (i32 x)) :: asc ρ L) := ⟨hl.1, hl.2.1, fun q hq => by
    rcases List.mem_cons.mp hq with rfl | hq
    · exact hl.at hl0
    · exact hl.has.2.2 q hq⟩
  refine lv_iinc (k := 0) hx hb hd h9 rfl (i32_add x n) hlt rfl (fun ls' h' => k ls' (hl.set1 (v := .inl (x + n)) ok ⟨h'.1, h'.2.1, fun q hq => h'.2.2 q ?_⟩))
  rcases List.mem_cons.mp hq with rfl | hq
  · exact List.mem_cons_self
  · refine List.mem_cons_of_mem _ ?_
    rw [List.filter_cons]
    split
    · exact List.mem_cons_of_mem _ hq
    · exact hq

theorem wp_icmp_eq {x y : Int} {off : Int} {tgt : Nat} (ha : InI x) (hb2 : InI y) (hd : decode mt.2.1 pc = .ok (.if_icmp .eq off, 3)) (ht : (pc : Int) + off = (tgt : Int)) (hp : pc + 3 = pc') (kt : x = y → wp K mt Q tgt L S I R N) (kf : ¬ (x = y) → wp K mt Q pc' L S I R N) : wp K mt Q pc L (vI y :: vI x :: S) I R N := by
  subst hp
  intro p l e Rm s m args below meth c A D ρ0 ca0 N0 QQ g H locs ls ρ ca hs
  exact lv_icmp_eq g.1 g.2.1 hd ht (fun h => kt ((i32_eq ha hb2).mp h) p l e Rm s m args below meth c A D ρ0 ca0 N0 QQ g H locs ls ρ ca hs) (fun h => kf (fun h2 => h ((i32_eq ha hb2).mpr h2)) p l e Rm s m args below meth c A D ρ0 ca0 N0 QQ g H locs ls ρ ca hs)

theorem wp_icmp_ne {x y : Int} {off : Int} {tgt : Nat} (ha : InI x) (hb2 : InI y) (hd : decode mt.2.1 pc = .ok (.if_icmp .ne off, 3)) (ht : (pc : Int) + off = (tgt : Int)) (hp : pc + 3 = pc') (kt : ¬ x = y → wp K mt Q tgt L S I R N) (kf : x = y → wp K mt Q pc' L S I R N) : wp K mt Q pc L (vI y :: vI x :: S) I R N := by
  subst hp
  intro p l e Rm s m args below meth c A D ρ0 ca0 N0 QQ g H locs ls ρ ca hs
  exact lv_icmp_ne g.1 g.2.1 hd ht (fun h => kt ((not_congr (i32_eq ha hb2)).mp h) p l e Rm s m args below meth c A D ρ0 ca0 N0 QQ g H locs ls ρ ca hs) (fun h => kf ((i32_eq ha hb2).mp h) p l e Rm s m args below meth c A D ρ0 ca0 N0 QQ g H locs ls ρ ca hs)

theorem wp_icmp_lt {x y : Int} {off : Int} {tgt : Nat} (ha : InI x) (hb2 : InI y) (hd : decode mt.2.1 pc = .ok (.if_icmp .lt off, 3)) (ht : (pc : Int) + off = (tgt : Int)) (hp : pc + 3 = pc') (kt : x < y → wp K mt Q tgt L S I R N) (kf : ¬ (x < y) → wp K mt Q pc' L S I R N) : wp K mt Q pc L (vI y :: vI x :: S) I R N := by
  subst hp
  intro p l e Rm s m args below meth c A D ρ0 ca0 N0 QQ g H locs ls ρ ca hs
  exact lv_icmp_lt g.1 g.2.1 hd ht (fun h => kt ((i32_lt ha hb2).mp h) p l e Rm s m args below meth c A D ρ0 ca0 N0 QQ g H locs ls ρ ca hs) (fun h => kf (fun h2 => h ((i32_lt ha hb2).mpr h2)) p l e Rm s m args below meth c A D ρ0 ca0 N0 QQ g H locs ls ρ ca hs)

theorem wp_icmp_ge {x y : Int} {off : Int} {tgt : Nat} (ha : InI x) (hb2 : InI y) (hd : decode mt.2.1 pc = .ok (.if_icmp .ge off, 3)) (ht : (pc : Int) + off = (tgt : Int)) (hp : pc + 3 = pc') (kt : y ≤ x → wp K mt Q tgt L S I R N) (kf : ¬ (y ≤ x) → wp K mt Q pc' L S I R N) : wp K mt Q pc L (vI y :: vI x :: S) I R N := by
  subst hp
  intro p l e Rm s m args below meth c A D ρ0 ca0 N0 QQ g H locs ls ρ ca hs
  exact lv_icmp_ge g.1 g.2.1 hd ht (fun h => kt ((i32_le hb2 ha).mp h) p l e Rm s m args below meth c A D ρ0 ca0 N0 QQ g H locs ls ρ ca hs) (fun h => kf (fun h2 => h ((i32_le hb2 ha).mpr h2)) p l e Rm s m args below meth c A D ρ0 ca0 N0 QQ g H locs ls ρ ca hs)

theorem wp_icmp_gt {x y : Int} {off : Int} {tgt : Nat} (ha : InI x) (hb2 : InI y) (hd : decode mt.2.1 pc = .ok (.if_icmp .gt off, 3)) (ht : (pc : Int) + off = (tgt : Int)) (hp : pc + 3 = pc') (kt : y < x → wp K mt Q tgt L S I R N) (kf : ¬ (y < x) → wp K mt Q pc' L S I R N) : wp K mt Q pc L (vI y :: vI x :: S) I R N := by
  subst hp
  intro p l e Rm s m args below meth c A D ρ0 ca0 N0 QQ g H locs ls ρ ca hs
  exact lv_icmp_gt g.1 g.2.1 hd ht (fun h => kt ((i32_lt hb2 ha).mp h) p l e Rm s m args below meth c A D ρ0 ca0 N0 QQ g H locs ls ρ ca hs) (fun h => kf (fun h2 => h ((i32_lt hb2 ha).mpr h2)) p l e Rm s m args below meth c A D ρ0 ca0 N0 QQ g H locs ls ρ ca hs)

theorem wp_icmp_le {x y : Int} {off : Int} {tgt : Nat} (ha : InI x) (hb2 : InI y) (hd : decode mt.2.1 pc = .ok (.if_icmp .le off, 3)) (ht : (pc : Int) + off = (tgt : Int)) (hp : pc + 3 = pc') (kt : x ≤ y → wp K mt Q tgt L S I R N) (kf : ¬ (x ≤ y) → wp K mt Q pc' L S I R N) : wp K mt Q pc L (vI y :: vI x :: S) I R N := by
  subst hp
  intro p l e Rm s m args below meth c A D ρ0 ca0 N0 QQ g H locs ls ρ ca hs
  exact lv_icmp_le g.1 g.2.1 hd ht (fun h => kt ((i32_le ha hb2).mp h) p l e Rm s m args below meth c A D ρ0 ca0 N0 QQ g H locs ls ρ ca hs) (fun h => kf (fun h2 => h ((i32_le ha hb2).mpr h2)) p l e Rm s m args below meth c A D ρ0 ca0 N0 QQ g H locs ls ρ ca hs)

theorem wp_if_eq {x : Int} {off : Int} {tgt : Nat} (ha : InI x) (hd : decode mt.2.1 pc = .ok (.ifCond .eq off, 3)) (ht : (pc : Int) + off = (tgt : Int)) (hp : pc + 3 = pc') (kt : x = 0 → wp K mt Q tgt L S I R N) (kf : ¬ (x = 0) → wp K mt Q pc' L S I R N) : wp K mt Q pc L (vI x :: S) I R N := by
  subst hp
  intro p l e Rm s m args below meth c A D ρ0 ca0 N0 QQ g H locs ls ρ ca hs
  have hi : i32 x = 0 ↔ x = 0 := by
    rw [i32_0]; exact i32_eq ha InI_0
  exact lv_if_eq g.1 g.2.1 hd ht (fun h => kt (hi.mp h) p l e Rm s m args below meth c A D ρ0 ca0 N0 QQ g H locs ls ρ ca hs) (fun h => kf (fun h2 => h (hi.mpr h2)) p l e Rm s m args below meth c A D ρ0 ca0 N0 QQ g H locs ls ρ ca hs)

theorem wp_if_ne {x : Int} {off : Int} {tgt : Nat} (ha : InI x) (hd : decode mt.2.1 pc = .ok (.ifCond .ne off, 3)) (ht : (pc : Int) + off = (tgt : Int)) (hp : pc + 3 = pc') (kt : ¬ x = 0 → wp K mt Q tgt L S I R N) (kf : x = 0 → wp K mt Q pc' L S I R N) : wp K mt Q pc L (vI x :: S) I R N := by
  subst hp
  intro p l e Rm s m args below meth c A D ρ0 ca0 N0 QQ g H locs ls ρ ca hs
  have hi : (¬ i32 x = 0) ↔ ¬ x = 0 := by
    rw [i32_0]; exact not_congr (i32_eq ha InI_0)
  exact lv_if_ne g.1 g.2.1 hd ht (fun h => kt (hi.mp h) p l e Rm s m args below meth c A D ρ0 ca0 N0 QQ g H locs ls ρ ca hs) (fun h => kf (by rw [i32_0] at h; exact (i32_eq ha InI_0).mp h) p l e Rm s m args below meth c A D ρ0 ca0 N0 QQ g H locs ls ρ ca hs)

theorem wp_if_lt {x : Int} {off : Int} {tgt : Nat} (ha : InI x) (hd : decode mt.2.1 pc = .ok (.ifCond .lt off, 3)) (ht : (pc : Int) + off = (tgt : Int)) (hp : pc + 3 = pc') (kt : x < 0 → wp K mt Q tgt L S I R N) (kf : ¬ (x < 0) → wp K mt Q pc' L S I R N) : wp K mt Q pc L (vI x :: S) I R N := by
  subst hp
  intro p l e Rm s m args below meth c A D ρ0 ca0 N0 QQ g H locs ls ρ ca hs
  have hi : i32 x < 0 ↔ x < 0 := by
    rw [i32_0]; exact i32_lt ha InI_0
  exact lv_if_lt g.1 g.2.1 hd ht (fun h => kt (hi.mp h) p l e Rm s m args below meth c A D ρ0 ca0 N0 QQ g H locs ls ρ ca hs) (fun h => kf (fun h2 => h (hi.mpr h2)) p l e Rm s m args below meth c A D ρ0 ca0 N0 QQ g H locs ls ρ ca hs)

theorem wp_if_ge {x : Int} {off : Int} {tgt : Nat} (ha : InI x) (hd : decode mt.2.1 pc = .ok (.ifCond .ge off, 3)) (ht : (pc : Int) + off = (tgt : Int)) (hp : pc + 3 = pc') (kt : 0 ≤ x → wp K mt Q tgt L S I R N) (kf : ¬ (0 ≤ x) → wp K mt Q pc' L S I R N) : wp K mt Q pc L (vI x :: S) I R N := by
  subst hp
  intro p l e Rm s m args below meth c A D ρ0 ca0 N0 QQ g H locs ls ρ ca hs
  have hi : 0 ≤ i32 x ↔ 0 ≤ x := by
    rw [i32_0]; exact i32_le InI_0 ha
  exact lv_if_ge g.1 g.2.1 hd ht (fun h => kt (hi.mp h) p l e Rm s m args below meth c A D ρ0 ca0 N0 QQ g H locs ls ρ ca hs) (fun h => kf (fun h2 => h (hi.mpr h2)) p l e Rm s m args below meth c A D ρ0 ca0 N0 QQ g H locs ls ρ ca hs)

theorem wp_if_gt {x : Int} {off : Int} {tgt : Nat} (ha : InI x) (hd : decode mt.2.1 pc = .ok (.ifCond .gt off, 3)) (ht : (pc : Int) + off = (tgt : Int)) (hp : pc + 3 = pc') (kt : 0 < x → wp K mt Q tgt L S I R N) (kf : ¬ (0 < x) → wp K mt Q pc' L S I R N) : wp K mt Q pc L (vI x :: S) I R N := by
  subst hp
  intro p l e Rm s m args below meth c A D ρ0 ca0 N0 QQ g H locs ls ρ ca hs
  have hi : 0 < i32 x ↔ 0 < x := by
    rw [i32_0]; exact i32_lt InI_0 ha
  exact lv_if_gt g.1 g.2.1 hd ht (fun h => kt (hi.mp h) p l e Rm s m args below meth c A D ρ0 ca0 N0 QQ g H locs ls ρ ca hs) (fun h => kf (fun h2 => h (hi.mpr h2)) p l e Rm s m args below meth c A D ρ0 ca0 N0 QQ g H locs ls ρ ca hs)

theorem wp_if_le {x : Int} {off : Int} {tgt : Nat} (ha : InI x) (hd : decode mt.2.1 pc = .ok (.ifCond .le off, 3)) (ht : (pc : Int) + off = (tgt : Int)) (hp : pc + 3 = pc') (kt : x ≤ 0 → wp K mt Q tgt L S I R N) (kf : ¬ (x ≤ 0) → wp K mt Q pc' L S I R N) : wp K mt Q pc L (vI x :: S) I R N := by
  subst hp
  intro p l e Rm s m args below meth c A D ρ0 ca0 N0 QQ g H locs ls ρ ca hs
  have hi : i32 x ≤ 0 ↔ x ≤ 0 := by
    rw [i32_0]; exact i32_le ha InI_0
  exact lv_if_le g.1 g.2.1 hd ht (fun h => kt (hi.mp h) p l e Rm s m args below meth c A D ρ0 ca0 N0 QQ g H locs ls ρ ca hs) (fun h => kf (fun h2 => h (hi.mpr h2)) p l e Rm s m args below meth c A D ρ0 ca0 N0 QQ g H locs ls ρ ca hs)

theorem wp_table {x dflt lo hi : Int} {offs : Array Int} {len tgtD : Nat} (ha : InI x) (hd : decode mt.2.1 pc = .ok (.tableswitch dflt lo hi offs, len)) (ht : (pc : Int) + dflt = (tgtD : Int)) (kd : (x < lo ∨ hi < x) → wp K mt Q tgtD L S I R N)
    (ki : ∀ j : Nat, x = lo + j → lo + j ≤ hi → ∃ (off : Int) (tgt : Nat), offs[j]? = some off ∧ (pc : Int) + off = (tgt : Int) ∧ wp K mt Q tgt L S I R N) : wp K mt Q pc L (vI x :: S) I R N := by
  intro p l e Rm s m args below meth c A D ρ0 ca0 N0 QQ g H locs ls ρ ca hs
  by_cases h : x < lo ∨ hi < x
  · exact lv_tableOut g.1 g.2.1 hd (by rw [i32_toInt ha]; exact h) ht (kd h p l e Rm s m args below meth c A D ρ0 ca0 N0 QQ g H locs ls ρ ca hs)
  · obtain ⟨off, tgt, h1, h2, h3⟩ := ki (x - lo).toNat (by omega) (by omega)
    exact lv_tableIn g.1 g.2.1 hd (by rw [i32_toInt ha]; omega) (by rw [i32_toInt ha]; omega) (by rw [i32_toInt ha]; exact h1) h2 (h3 p l e Rm s m args below meth c A D ρ0 ca0 N0 QQ g H locs ls ρ ca hs)
theorem wp_lookup {x dflt off : Int} {ps : Array (Int × Int)} {len tgt : Nat} (ha : InI x) (hd : decode mt.2.1 pc = .ok (.lookupswitch dflt ps, len)) (hps : (ps.toList.zip (ps.toList.drop 1)).all (fun (a, next) => a.1 < next.1) = true) (ho : Op.lookupswitch.offset ps.toList dflt x = off) (ht : (pc : Int) + off = (tgt : Int)) (kk : wp K mt Q tgt L S I R N) : wp K mt Q pc L (vI x :: S) I R N := by
  intro p l e Rm s m args below meth c A D ρ0 ca0 N0 QQ g H locs ls ρ ca hs
  exact lv_lookup g.1 g.2.1 hd hps (by rw [i32_toInt ha]; exact ho) ht (kk p l e Rm s m args below meth c A D ρ0 ca0 N0 QQ g H locs ls ρ ca hs)

/-- fewer values -/
def leP : List AV → List AV → Prop
  | [], _ => True
  | none :: a, _ :: b => leP a b
  | some x :: a, some y :: b => x = y ∧ leP a b
  | none :: a, [] => leP a []
  | some _ :: _, _ => False
theorem leP_leL : ∀ {a b : List AV}, leP a b → leL a b = true
  | [], _, _ => rfl
  | none :: a, y :: b, h => leP_leL (a := a) (b := b) h
  | some x :: a, some y :: b, h => by
    obtain ⟨h1, h2⟩ := h
    simp [leL, h1, leP_leL h2]
  | none :: a, [], h => leP_leL (a := a) (b := []) h
  | some _ :: _, none :: _, h => h.elim
  | some _ :: _, [], h => h.elim
theorem wp_dropP (hl : leP L' L) (k : wp K mt Q pc L' S I R N) : wp K mt Q pc L S I R N := wp_drop (leP_leL hl) k

theorem wp_lif_eq {x y : Int} {off : Int} {tgt pc1 : Nat} (ha : InL x) (hb2 : InL y) (hd : decode mt.2.1 pc = .ok (.lcmp, 1)) (hp1 : pc + 1 = pc1) (hd2 : decode mt.2.1 pc1 = .ok (.ifCond .eq off, 3)) (ht : (pc1 : Int) + off = (tgt : Int)) (hp : pc1 + 3 = pc') (kt : x = y → wp K mt Q tgt L S I R N) (kf : ¬ (x = y) → wp K mt Q pc' L S I R N) : wp K mt Q pc L (vL y :: vL x :: S) I R N := by
  refine wp_lcmp ha hb2 hd hp1 (wp_if_eq (by unfold InI; split <;> (try split) <;> omega) hd2 ht hp (fun h => kt ?_) (fun h => kf ?_))
  · revert h; split <;> (try split) <;> omega
  · revert h; split <;> (try split) <;> omega

theorem wp_lif_ne {x y : Int} {off : Int} {tgt pc1 : Nat} (ha : InL x) (hb2 : InL y) (hd : decode mt.2.1 pc = .ok (.lcmp, 1)) (hp1 : pc + 1 = pc1) (hd2 : decode mt.2.1 pc1 = .ok (.ifCond .ne off, 3)) (ht : (pc1 : Int) + off = (tgt : Int)) (hp : pc1 + 3 = pc') (kt : ¬ x = y → wp K mt Q tgt L S I R N) (kf : x = y → wp K mt Q pc' L S I R N) : wp K mt Q pc L (vL y :: vL x :: S) I R N := by
  refine wp_lcmp ha hb2 hd hp1 (wp_if_ne (by unfold InI; split <;> (try split) <;> omega) hd2 ht hp (fun h => kt ?_) (fun h => kf ?_))
  · revert h; split <;> (try split) <;> omega
  · revert h; split <;> (try split) <;> omega

theorem wp_lif_lt {x y : Int} {off : Int} {tgt pc1 : Nat} (ha : InL x) (hb2 : InL y) (hd : decode mt.2.1 pc = .ok (.lcmp, 1)) (hp1 : pc + 1 = pc1) (hd2 : decode mt.2.1 pc1 = .ok (.ifCond .lt off, 3)) (ht : (pc1 : Int) + off = (tgt : Int)) (hp : pc1 + 3 = pc') (kt : x < y → wp K mt Q tgt L S I R N) (kf : ¬ (x < y) → wp K mt Q pc' L S I R N) : wp K mt Q pc L (vL y :: vL x :: S) I R N := by
  refine wp_lcmp ha hb2 hd hp1 (wp_if_lt (by unfold InI; split <;> (try split) <;> omega) hd2 ht hp (fun h => kt ?_) (fun h => kf ?_))
  · revert h; split <;> (try split) <;> omega
  · revert h; split <;> (try split) <;> omega

theorem wp_lif_ge {x y : Int} {off : Int} {tgt pc1 : Nat} (ha : InL x) (hb2 : InL y) (hd : decode mt.2.1 pc = .ok (.lcmp, 1)) (hp1 : pc + 1 = pc1) (hd2 : decode mt.2.1 pc1 = .ok (.ifCond .ge off, 3)) (ht : (pc1 : Int) + off = (tgt : Int)) (hp : pc1 + 3 = pc') (kt : y ≤ x → wp K mt Q tgt L S I R N) (kf : ¬ (y ≤ x) → wp K mt Q pc' L S I R N) : wp K mt Q pc L (vL y :: vL x :: S) I R N := by
  refine wp_lcmp ha hb2 hd hp1 (wp_if_ge (by unfold InI; split <;> (try split) <;> omega) hd2 ht hp (fun h => kt ?_) (fun h => kf ?_))
  · revert h; split <;> (try split) <;> omega
  · revert h; split <;> (try split) <;> omega

theorem wp_lif_gt {x y : Int} {off : Int} {tgt pc1 : Nat} (ha : InL x) (hb2 : InL y) (hd : decode mt.2.1 pc = .ok (.lcmp, 1)) (hp1 : pc + 1 = pc1) (hd2 : decode mt.2.1 pc1 = .ok (.ifCond .gt off, 3)) (ht : (pc1 : Int) + off = (tgt : Int)) (hp : pc1 + 3 = pc') (kt : y < x → wp K mt Q tgt L S I R N) (kf : ¬ (y < x) → wp K mt Q pc' L S I R N) : wp K mt Q pc L (vL y :: vL x :: S) I R N := by
  refine wp_lcmp ha hb2 hd hp1 (wp_if_gt (by unfold InI; split <;> (try split) <;> omega) hd2 ht hp (fun h => kt ?_) (fun h => kf ?_))
  · revert h; split <;> (try split) <;> omega
  · revert h; split <;> (try split) <;> omega

theorem wp_lif_le {x y : Int} {off : Int} {tgt pc1 : Nat} (ha : InL x) (hb2 : InL y) (hd : decode mt.2.1 pc = .ok (.lcmp, 1)) (hp1 : pc + 1 = pc1) (hd2 : decode mt.2.1 pc1 = .ok (.ifCond .le off, 3)) (ht : (pc1 : Int) + off = (tgt : Int)) (hp : pc1 + 3 = pc') (kt : x ≤ y → wp K mt Q tgt L S I R N) (kf : ¬ (x ≤ y) → wp K mt Q pc' L S I R N) : wp K mt Q pc L (vL y :: vL x :: S) I R N := by
  refine wp_lcmp ha hb2 hd hp1 (wp_if_le (by unfold InI; split <;> (try split) <;> omega) hd2 ht hp (fun h => kt ?_) (fun h => kf ?_))
  · revert h; split <;> (try split) <;> omega
  · revert h; split <;> (try split) <;> omega

theorem wp_ireturn {x : Int} (hd : decode mt.2.1 pc = .ok (.ireturn, 1)) (hr : mt.2.2.2.1 = some .int) (hN : N = K.1) (h : Q (vI x) I R) : wp K mt Q pc L [vI x] I R N := by
  subst hN
  intro p l e Rm s m args below meth c A D ρ0 ca0 N0 QQ g H locs ls ρ ca hs
  exact g.2.2.2.2.2.2.2.2.2.2.2 pc H locs ls ρ ca L (vI x) I R ⟨by rw [hr]; trivial, hd⟩ h hs

theorem wp_lreturn {x : Int} (hd : decode mt.2.1 pc = .ok (.lreturn, 1)) (hr : mt.2.2.2.1 = some .long) (hN : N = K.1) (h : Q (vL x) I R) : wp K mt Q pc L [vL x] I R N := by
  subst hN
  intro p l e Rm s m args below meth c A D ρ0 ca0 N0 QQ g H locs ls ρ ca hs
  exact g.2.2.2.2.2.2.2.2.2.2.2 pc H locs ls ρ ca L (vL x) I R ⟨by rw [hr]; trivial, hd⟩ h hs

theorem wp_zreturn {x : Int} (hd : decode mt.2.1 pc = .ok (.ireturn, 1)) (hr : mt.2.2.2.1 = some .boolean) (hN : N = K.1) (hx : x = 0 ∨ x = 1) (h : Q (vI x) I R) : wp K mt Q pc L [vI x] I R N := by
  subst hN
  intro p l e Rm s m args below meth c A D ρ0 ca0 N0 QQ g H locs ls ρ ca hs
  exact g.2.2.2.2.2.2.2.2.2.2.2 pc H locs ls ρ ca L (vI x) I R ⟨by rw [hr]; exact hx, hd⟩ h hs
theorem wp_vreturn (hd : decode mt.2.1 pc = .ok (.return_, 1)) (hr : mt.2.2.2.1 = none) (hN : N = K.1) (h : Q none I R) : wp K mt Q pc L [] I R N := by
  subst hN
  intro p l e Rm s m args below meth c A D ρ0 ca0 N0 QQ g H locs ls ρ ca hs
  exact g.2.2.2.2.2.2.2.2.2.2.2 pc H locs ls ρ ca L none I R ⟨by rw [hr]; trivial, hd⟩ h hs

theorem wp_getI {r c0 k n idx : Nat} {C : String} {T : u_T} (hd : decode mt.2.1 pc = .ok (.getfield idx, 3)) (hc : vwCl[c0]? = some (C, T, n)) (hk : k < n) (hr : fref c0 k = false) (lk : Cond.fieldLink mt.1.cls idx (T k).1 (T k).2.1 (T k).2.2.1 ∈ TB) (ho : isO N r c0) (hp : pc + 3 = pc') (kk : wp K mt Q pc' L (vI (I r k) :: S) I R N) : wp K mt Q pc L (vR r :: S) I R N := by
  subst hp
  intro p l e Rm s m args below meth c A D ρ0 ca0 N0 QQ g H locs ls ρ ca hs
  have k9 := kk p l e Rm s m args below meth c A D ρ0 ca0 N0 QQ g H locs ls ρ ca hs
  obtain ⟨h0, hN, hsh⟩ := ho
  show W p l e Rm s m args below meth c H locs _ _ QQ (F0 m pc ls (cv ρ (vR r) :: S.map (cv ρ)))
  rw [cv_pos h0]
  refine va_get (ci := c0) (D := D) (cl := vwCl) (tys := []) (C := C) (T := T) (N := n) (ref := (T k).1) (Ts := TB) g.1 g.2.1 g.2.2.2.2.1 (cl_ws hc) g.2.2.2.1 g.2.2.2.2.2.2.1 hs.1 (r - 1) ((ws_at h0 hN).trans (by rw [cell_obj hsh])) hc k hk (g.2.2.2.2.1 _ lk) (fun _ h9 => h9) (fval_at (by rw [nfc_of hc]; exact hk)) hd ?_
  rw [fval_I hr]
  exact k9

theorem wp_getR {r c0 k n idx : Nat} {C : String} {T : u_T} (hd : decode mt.2.1 pc = .ok (.getfield idx, 3)) (hc : vwCl[c0]? = some (C, T, n)) (hk : k < n) (hr : fref c0 k = true) (lk : Cond.fieldLink mt.1.cls idx (T k).1 (T k).2.1 (T k).2.2.1 ∈ TB) (ho : isO N r c0) (hp : pc + 3 = pc') (kk : wp K mt Q pc' L (vR (R r k) :: S) I R N) : wp K mt Q pc L (vR r :: S) I R N := by
  subst hp
  intro p l e Rm s m args below meth c A D ρ0 ca0 N0 QQ g H locs ls ρ ca hs
  have k9 := kk p l e Rm s m args below meth c A D ρ0 ca0 N0 QQ g H locs ls ρ ca hs
  obtain ⟨h0, hN, hsh⟩ := ho
  show W p l e Rm s m args below meth c H locs _ _ QQ (F0 m pc ls (cv ρ (vR r) :: S.map (cv ρ)))
  rw [cv_pos h0]
  refine va_get (ci := c0) (D := D) (cl := vwCl) (tys := []) (C := C) (T := T) (N := n) (ref := (T k).1) (Ts := TB) g.1 g.2.1 g.2.2.2.2.1 (cl_ws hc) g.2.2.2.1 g.2.2.2.2.2.2.1 hs.1 (r - 1) ((ws_at h0 hN).trans (by rw [cell_obj hsh])) hc k hk (g.2.2.2.2.1 _ lk) (fun _ h9 => h9) (fval_at (by rw [nfc_of hc]; exact hk)) hd ?_
  rw [fval_R hr]
  exact k9

theorem wp_putI {r c0 k n idx : Nat} {C : String} {T : u_T} {x : Int} (hd : decode mt.2.1 pc = .ok (.putfield idx, 3)) (hc : vwCl[c0]? = some (C, T, n)) (hk : k < n) (hr : fref c0 k = false) (hf : (T k).2.2.2 = false) (hty : parseFieldDescriptor (T k).2.2.1 = some .int) (lk : Cond.fieldLink mt.1.cls idx (T k).1 (T k).2.1 (T k).2.2.1 ∈ TB) (ho : isO N r c0) (hp : pc + 3 = pc') {I' : II} (hI : I' = up2 I r k x) (kk : wp K mt Q pc' L S I' R N) : wp K mt Q pc L (vI x :: vR r :: S) I R N := by
  subst hp hI
  intro p l e Rm s m args below meth c A D ρ0 ca0 N0 QQ g H locs ls ρ ca ⟨s1, s2, s3, s4⟩
  obtain ⟨h0, hN, hsh⟩ := ho
  show W p l e Rm s m args below meth c H locs _ _ QQ (F0 m pc ls (.int (i32 x) :: cv ρ (vR r) :: S.map (cv ρ)))
  rw [cv_pos h0]
  refine va_put (ci := c0) (D := D) (cl := vwCl) (tys := []) (C := C) (T := T) (N := n) (ref := (T k).1) (Ts := TB) g.1 g.2.1 g.2.2.2.2.1 (cl_ws hc) (fty c0) (cl_ty hc) (cl_nm hc) g.2.2.2.1 g.2.2.2.2.2.2.1 s1 s2 s3 (r - 1) ((ws_at h0 hN).trans (by rw [cell_obj hsh])) hc k hk (g.2.2.2.2.1 _ lk) (fun _ h9 => h9) hf  hty rfl rfl (by simp [nfc_of hc, hk]) hd (fun H1 locs1 a1 a2 a3 => ?_)
  rw [obj_set_I hr, ws_set (I' := up2 I r k x) (R' := R) h0 (cell_obj hsh) cell_up_I] at a1 a2
  exact kk p l e Rm s m args below meth c A D ρ0 ca0 N0 QQ g H1 locs1 ls ρ ca ⟨a1, a2, a3, s4⟩

theorem wp_putZ {r c0 k n idx : Nat} {C : String} {T : u_T} {x : Int} (hz : x = 0 ∨ x = 1) (hd : decode mt.2.1 pc = .ok (.putfield idx, 3)) (hc : vwCl[c0]? = some (C, T, n)) (hk : k < n) (hr : fref c0 k = false) (hf : (T k).2.2.2 = false) (hty : parseFieldDescriptor (T k).2.2.1 = some .boolean) (lk : Cond.fieldLink mt.1.cls idx (T k).1 (T k).2.1 (T k).2.2.1 ∈ TB) (ho : isO N r c0) (hp : pc + 3 = pc') {I' : II} (hI : I' = up2 I r k x) (kk : wp K mt Q pc' L S I' R N) : wp K mt Q pc L (vI x :: vR r :: S) I R N := by
  subst hp hI
  intro p l e Rm s m args below meth c A D ρ0 ca0 N0 QQ g H locs ls ρ ca ⟨s1, s2, s3, s4⟩
  obtain ⟨h0, hN, hsh⟩ := ho
  show W p l e Rm s m args below meth c H locs _ _ QQ (F0 m pc ls (.int (i32 x) :: cv ρ (vR r) :: S.map (cv ρ)))
  rw [cv_pos h0]
  refine va_put (ci := c0) (D := D) (cl := vwCl) (tys := []) (C := C) (T := T) (N := n) (ref := (T k).1) (Ts := TB) g.1 g.2.1 g.2.2.2.2.1 (cl_ws hc) (fty c0) (cl_ty hc) (cl_nm hc) g.2.2.2.1 g.2.2.2.2.2.2.1 s1 s2 s3 (r - 1) ((ws_at h0 hN).trans (by rw [cell_obj hsh])) hc k hk (g.2.2.2.2.1 _ lk) (fun _ h9 => h9) hf  hty (by rcases hz with rfl | rfl <;> rfl) (by rcases hz with rfl | rfl <;> rfl) (by simp [nfc_of hc, hk]) hd (fun H1 locs1 a1 a2 a3 => ?_)
  rw [obj_set_I hr, ws_set (I' := up2 I r k x) (R' := R) h0 (cell_obj hsh) cell_up_I] at a1 a2
  exact kk p l e Rm s m args below meth c A D ρ0 ca0 N0 QQ g H1 locs1 ls ρ ca ⟨a1, a2, a3, s4⟩

theorem wp_putR {r c0 k n idx : Nat} {C : String} {T : u_T} {x : Nat} {ty : FieldType} (ht : (∃ o, ty = .object o) ∨ ∃ o, ty = .array o) (hd : decode mt.2.1 pc = .ok (.putfield idx, 3)) (hc : vwCl[c0]? = some (C, T, n)) (hk : k < n) (hr : fref c0 k = true) (hf : (T k).2.2.2 = false) (hty : parseFieldDescriptor (T k).2.2.1 = some ty) (lk : Cond.fieldLink mt.1.cls idx (T k).1 (T k).2.1 (T k).2.2.1 ∈ TB) (ho : isO N r c0) (hp : pc + 3 = pc') {R' : RR} (hI : R' = up2 R r k x) (kk : wp K mt Q pc' L S I R' N) : wp K mt Q pc L (vR x :: vR r :: S) I R N := by
  subst hp hI
  intro p l e Rm s m args below meth c A D ρ0 ca0 N0 QQ g H locs ls ρ ca ⟨s1, s2, s3, s4⟩
  obtain ⟨h0, hN, hsh⟩ := ho
  show W p l e Rm s m args below meth c H locs _ _ QQ (F0 m pc ls (va_rf (rfv ρ x) :: cv ρ (vR r) :: S.map (cv ρ)))
  rw [cv_pos h0]
  refine va_put (ci := c0) (D := D) (cl := vwCl) (tys := []) (C := C) (T := T) (N := n) (ref := (T k).1) (Ts := TB) g.1 g.2.1 g.2.2.2.2.1 (cl_ws hc) (fty c0) (cl_ty hc) (cl_nm hc) g.2.2.2.1 g.2.2.2.2.2.2.1 s1 s2 s3 (r - 1) ((ws_at h0 hN).trans (by rw [cell_obj hsh])) hc k hk (g.2.2.2.2.1 _ lk) (fun _ h9 => h9) hf  hty (by rcases ht with ⟨o, rfl⟩ | ⟨o, rfl⟩ <;> (unfold rfv; split <;> rfl)) (by rcases ht with ⟨o, rfl⟩ | ⟨o, rfl⟩ <;> (unfold rfv; split <;> rfl)) (by simp [nfc_of hc, hk]) hd (fun H1 locs1 a1 a2 a3 => ?_)
  rw [obj_set_R hr, ws_set (I' := I) (R' := up2 R r k x) h0 (cell_obj hsh) cell_up_R] at a1 a2
  exact kk p l e Rm s m args below meth c A D ρ0 ca0 N0 QQ g H1 locs1 ls ρ ca ⟨a1, a2, a3, s4⟩

theorem wp_putFI {r c0 k n idx : Nat} {C : String} {T : u_T} {x : Int} (hd : decode mt.2.1 pc = .ok (.putfield idx, 3)) (hc : vwCl[c0]? = some (C, T, n)) (hk : k < n) (hr : fref c0 k = false) (hf : (T k).2.2.2 = true) (hin : mt.1.name = "<init>") (hdc : (T k).1 = mt.1.cls) (hty : parseFieldDescriptor (T k).2.2.1 = some .int) (lk : Cond.fieldLink mt.1.cls idx (T k).1 (T k).2.1 (T k).2.2.1 ∈ TB) (ho : isO N r c0) (hp : pc + 3 = pc') {I' : II} (hI : I' = up2 I r k x) (kk : wp K mt Q pc' L S I' R N) : wp K mt Q pc L (vI x :: vR r :: S) I R N := by
  subst hp hI
  intro p l e Rm s m args below meth c A D ρ0 ca0 N0 QQ g H locs ls ρ ca ⟨s1, s2, s3, s4⟩
  obtain ⟨h0, hN, hsh⟩ := ho
  show W p l e Rm s m args below meth c H locs _ _ QQ (F0 m pc ls (.int (i32 x) :: cv ρ (vR r) :: S.map (cv ρ)))
  rw [cv_pos h0]
  refine va_putF (ci := c0) (D := D) (cl := vwCl) (tys := []) (C := C) (T := T) (N := n) (ref := (T k).1) (Ts := TB) g.1 g.2.1 g.2.2.2.2.1 (cl_ws hc) (fty c0) (cl_ty hc) (cl_nm hc) g.2.2.2.1 g.2.2.2.2.2.2.1 s1 s2 s3 (r - 1) ((ws_at h0 hN).trans (by rw [cell_obj hsh])) hc k hk (g.2.2.2.2.1 _ lk) (fun _ h9 => h9) hf (g.2.2.2.2.2.2.2.2.1.1.trans hin) hdc hty rfl rfl (by simp [nfc_of hc, hk]) hd (fun H1 locs1 a1 a2 a3 => ?_)
  rw [obj_set_I hr, ws_set (I' := up2 I r k x) (R' := R) h0 (cell_obj hsh) cell_up_I] at a1 a2
  exact kk p l e Rm s m args below meth c A D ρ0 ca0 N0 QQ g H1 locs1 ls ρ ca ⟨a1, a2, a3, s4⟩

theorem wp_putFZ {r c0 k n idx : Nat} {C : String} {T : u_T} {x : Int} (hz : x = 0 ∨ x = 1) (hd : decode mt.2.1 pc = .ok (.putfield idx, 3)) (hc : vwCl[c0]? = some (C, T, n)) (hk : k < n) (hr : fref c0 k = false) (hf : (T k).2.2.2 = true) (hin : mt.1.name = "<init>") (hdc : (T k).1 = mt.1.cls) (hty : parseFieldDescriptor (T k).2.2.1 = some .boolean) (lk : Cond.fieldLink mt.1.cls idx (T k).1 (T k).2.1 (T k).2.2.1 ∈ TB) (ho : isO N r c0) (hp : pc + 3 = pc') {I' : II} (hI : I' = up2 I r k x) (kk : wp K mt Q pc' L S I' R N) : wp K mt Q pc L (vI x :: vR r :: S) I R N := by
  subst hp hI
  intro p l e Rm s m args below meth c A D ρ0 ca0 N0 QQ g H locs ls ρ ca ⟨s1, s2, s3, s4⟩
  obtain ⟨h0, hN, hsh⟩ := ho
  show W p l e Rm s m args below meth c H locs _ _ QQ (F0 m pc ls (.int (i32 x) :: cv ρ (vR r) :: S.map (cv ρ)))
  rw [cv_pos h0]
  refine va_putF (ci := c0) (D := D) (cl := vwCl) (tys := []) (C := C) (T := T) (N := n) (ref := (T k).1) (Ts := TB) g.1 g.2.1 g.2.2.2.2.1 (cl_ws hc) (fty c0) (cl_ty hc) (cl_nm hc) g.2.2.2.1 g.2.2.2.2.2.2.1 s1 s2 s3 (r - 1) ((ws_at h0 hN).trans (by rw [cell_obj hsh])) hc k hk (g.2.2.2.2.1 _ lk) (fun _ h9 => h9) hf (g.2.2.2.2.2.2.2.2.1.1.trans hin) hdc hty (by rcases hz with rfl | rfl <;> rfl) (by rcases hz with rfl | rfl <;> rfl) (by simp [nfc_of hc, hk]) hd (fun H1 locs1 a1 a2 a3 => ?_)
  rw [obj_set_I hr, ws_set (I' := up2 I r k x) (R' := R) h0 (cell_obj hsh) cell_up_I] at a1 a2
  exact kk p l e Rm s m args below meth c A D ρ0 ca0 N0 QQ g H1 locs1 ls ρ ca ⟨a1, a2, a3, s4⟩

theorem wp_putFR {r c0 k n idx : Nat} {C : String} {T : u_T} {x : Nat} {ty : FieldType} (ht : (∃ o, ty = .object o) ∨ ∃ o, ty = .array o) (hd : decode mt.2.1 pc = .ok (.putfield idx, 3)) (hc : vwCl[c0]? = some (C, T, n)) (hk : k < n) (hr : fref c0 k = true) (hf : (T k).2.2.2 = true) (hin : mt.1.name = "<init>") (hdc : (T k).1 = mt.1.cls) (hty : parseFieldDescriptor (T k).2.2.1 = some ty) (lk : Cond.fieldLink mt.1.cls idx (T k).1 (T k).2.1 (T k).2.2.1 ∈ TB) (ho : isO N r c0) (hp : pc + 3 = pc') {R' : RR} (hI : R' = up2 R r k x) (kk : wp K mt Q pc' L S I R' N) : wp K mt Q pc L (vR x :: vR r :: S) I R N := by
  subst hp hI
  intro p l e Rm s m args below meth c A D ρ0 ca0 N0 QQ g H locs ls ρ ca ⟨s1, s2, s3, s4⟩
  obtain ⟨h0, hN, hsh⟩ := ho
  show W p l e Rm s m args below meth c H locs _ _ QQ (F0 m pc ls (va_rf (rfv ρ x) :: cv ρ (vR r) :: S.map (cv ρ)))
  rw [cv_pos h0]
  refine va_putF (ci := c0) (D := D) (cl := vwCl) (tys := []) (C := C) (T := T) (N := n) (ref := (T k).1) (Ts := TB) g.1 g.2.1 g.2.2.2.2.1 (cl_ws hc) (fty c0) (cl_ty hc) (cl_nm hc) g.2.2.2.1 g.2.2.2.2.2.2.1 s1 s2 s3 (r - 1) ((ws_at h0 hN).trans (by rw [cell_obj hsh])) hc k hk (g.2.2.2.2.1 _ lk) (fun _ h9 => h9) hf (g.2.2.2.2.2.2.2.2.1.1.trans hin) hdc hty (by rcases ht with ⟨o, rfl⟩ | ⟨o, rfl⟩ <;> (unfold rfv; split <;> rfl)) (by rcases ht with ⟨o, rfl⟩ | ⟨o, rfl⟩ <;> (unfold rfv; split <;> rfl)) (by simp [nfc_of hc, hk]) hd (fun H1 locs1 a1 a2 a3 => ?_)
  rw [obj_set_R hr, ws_set (I' := I) (R' := up2 R r k x) h0 (cell_obj hsh) cell_up_R] at a1 a2
  exact kk p l e Rm s m args below meth c A D ρ0 ca0 N0 QQ g H1 locs1 ls ρ ca ⟨a1, a2, a3, s4⟩

theorem wp_iald {r n : Nat} {i : Int} (hd : decode mt.2.1 pc = .ok (.iaload, 1)) (ho : isA N r 1 n) (hi : 0 ≤ i ∧ i < (n : Int)) {j : Nat} (hj : i.toNat = j) (hp : pc + 1 = pc') (kk : wp K mt Q pc' L (vI (I r j) :: S) I R N) : wp K mt Q pc L (vI i :: vR r :: S) I R N := by
  subst hp hj
  intro p l e Rm s m args below meth c A D ρ0 ca0 N0 QQ g H locs ls ρ ca hs
  have k9 := kk p l e Rm s m args below meth c A D ρ0 ca0 N0 QQ g H locs ls ρ ca hs
  obtain ⟨h0, hN, hsh⟩ := ho
  have hn : n ≤ 1000 := by have := sh_ok r; rw [hsh] at this; exact this
  have hka := hs.2.2.2.2.1 r h0 hN (by rw [hsh]; show ¬ 1 = 0; decide)
  rw [hsh] at hka
  show W p l e Rm s m args below meth c H locs _ _ QQ (F0 m pc ls (.int (i32 i) :: cv ρ (vR r) :: S.map (cv ρ)))
  rw [cv_pos h0]
  refine va_iald (D := D) (cl := vwCl) (tys := [(ca r, aty 1)]) (n := n) (f := fun j => i32 (I r j)) g.1 g.2.1 hka hs.1 (r - 1) 0 ((ws_at h0 hN).trans (by rw [cell_int hsh (by decide) (by decide)])) rfl (i32_in hi.1 hi.2 hn) hd ?_
  rw [i32_cl hi.1 (by omega)]
  exact k9

theorem wp_zald {r n : Nat} {i : Int} (hd : decode mt.2.1 pc = .ok (.baload, 1)) (ho : isA N r 2 n) (hi : 0 ≤ i ∧ i < (n : Int)) {j : Nat} (hj : i.toNat = j) (hp : pc + 1 = pc') (kk : wp K mt Q pc' L (vI (I r j) :: S) I R N) : wp K mt Q pc L (vI i :: vR r :: S) I R N := by
  subst hp hj
  intro p l e Rm s m args below meth c A D ρ0 ca0 N0 QQ g H locs ls ρ ca hs
  have k9 := kk p l e Rm s m args below meth c A D ρ0 ca0 N0 QQ g H locs ls ρ ca hs
  obtain ⟨h0, hN, hsh⟩ := ho
  have hn : n ≤ 1000 := by have := sh_ok r; rw [hsh] at this; exact this
  have hka := hs.2.2.2.2.1 r h0 hN (by rw [hsh]; show ¬ 2 = 0; decide)
  rw [hsh] at hka
  show W p l e Rm s m args below meth c H locs _ _ QQ (F0 m pc ls (.int (i32 i) :: cv ρ (vR r) :: S.map (cv ρ)))
  rw [cv_pos h0]
  refine va_zald (D := D) (cl := vwCl) (tys := [(ca r, aty 2)]) (n := n) (f := fun j => i32 (I r j)) g.1 g.2.1 hka hs.1 (r - 1) 0 ((ws_at h0 hN).trans (by rw [cell_int hsh (by decide) (by decide)])) rfl (i32_in hi.1 hi.2 hn) hd ?_
  rw [i32_cl hi.1 (by omega)]
  exact k9

theorem i32_upd {I : II} {r : Nat} {i : Nat} {x : Int} : upd (fun j => i32 (I r j)) i (i32 x) = fun j => i32 (up2 I r i x r j) := by
  funext j
  unfold upd up2
  by_cases h : j = i
  · rw [if_pos h, if_pos ⟨rfl, h⟩]
  · rw [if_neg h, if_neg (fun q => h q.2)]
theorem nar_z {x : Int} (h : x = 0 ∨ x = 1) : vp_nar .boolean (i32 x) = i32 x := by rcases h with rfl | rfl <;> rfl

theorem wp_iast {r n : Nat} {i x : Int} (hd : decode mt.2.1 pc = .ok (.iastore, 1)) (ho : isA N r 1 n) (hi : 0 ≤ i ∧ i < (n : Int)) {j : Nat} (hj : i.toNat = j) (hp : pc + 1 = pc') {I' : II} (hI : I' = up2 I r j x) (kk : wp K mt Q pc' L S I' R N) : wp K mt Q pc L (vI x :: vI i :: vR r :: S) I R N := by
  subst hj
  subst hp hI
  intro p l e Rm s m args below meth c A D ρ0 ca0 N0 QQ g H locs ls ρ ca ⟨s1, s2, s3, s4, s5, s6⟩
  obtain ⟨h0, hN, hsh⟩ := ho
  have hn : n ≤ 1000 := by have := sh_ok r; rw [hsh] at this; exact this
  have hka := s5 r h0 hN (by rw [hsh]; show ¬ 1 = 0; decide)
  rw [hsh] at hka
  show W p l e Rm s m args below meth c H locs _ _ QQ (F0 m pc ls (.int (i32 x) :: .int (i32 i) :: cv ρ (vR r) :: S.map (cv ρ)))
  rw [cv_pos h0]
  refine va_iast (D := D) (cl := vwCl) (tys := [(ca r, aty 1)]) (n := n) (f := fun j => i32 (I r j)) g.1 g.2.1 hka s1 s2 s3 (r - 1) 0 ((ws_at h0 hN).trans (by rw [cell_int hsh (by decide) (by decide)])) rfl (i32_in hi.1 hi.2 hn) hd (fun H1 locs1 a1 a2 a3 => ?_)
  rw [i32_cl hi.1 (by omega), i32_upd, ws_set (I' := up2 I r i.toNat x) (R' := R) h0 (cell_int hsh (by decide) (by decide)) cell_up_I] at a1 a2
  exact kk p l e Rm s m args below meth c A D ρ0 ca0 N0 QQ g H1 locs1 ls ρ ca ⟨a1, a2, a3, s4, s5, s6⟩

theorem wp_zast {r n : Nat} {i x : Int} (hd : decode mt.2.1 pc = .ok (.bastore, 1)) (ho : isA N r 2 n) (hi : 0 ≤ i ∧ i < (n : Int)) (hz : x = 0 ∨ x = 1) {j : Nat} (hj : i.toNat = j) (hp : pc + 1 = pc') {I' : II} (hI : I' = up2 I r j x) (kk : wp K mt Q pc' L S I' R N) : wp K mt Q pc L (vI x :: vI i :: vR r :: S) I R N := by
  subst hj
  subst hp hI
  intro p l e Rm s m args below meth c A D ρ0 ca0 N0 QQ g H locs ls ρ ca ⟨s1, s2, s3, s4, s5, s6⟩
  obtain ⟨h0, hN, hsh⟩ := ho
  have hn : n ≤ 1000 := by have := sh_ok r; rw [hsh] at this; exact this
  have hka := s5 r h0 hN (by rw [hsh]; show ¬ 2 = 0; decide)
  rw [hsh] at hka
  show W p l e Rm s m args below meth c H locs _ _ QQ (F0 m pc ls (.int (i32 x) :: .int (i32 i) :: cv ρ (vR r) :: S.map (cv ρ)))
  rw [cv_pos h0]
  refine va_zast (D := D) (cl := vwCl) (tys := [(ca r, aty 2)]) (n := n) (f := fun j => i32 (I r j)) g.1 g.2.1 hka s1 s2 s3 (r - 1) 0 ((ws_at h0 hN).trans (by rw [cell_int hsh (by decide) (by decide)])) rfl (i32_in hi.1 hi.2 hn) hd (fun H1 locs1 a1 a2 a3 => ?_)
  rw [i32_cl hi.1 (by omega), nar_z hz, i32_upd, ws_set (I' := up2 I r i.toNat x) (R' := R) h0 (cell_int hsh (by decide) (by decide)) cell_up_I] at a1 a2
  exact kk p l e Rm s m args below meth c A D ρ0 ca0 N0 QQ g H1 locs1 ls ρ ca ⟨a1, a2, a3, s4, s5, s6⟩

end RULES
