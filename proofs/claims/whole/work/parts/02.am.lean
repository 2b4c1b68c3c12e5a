/-- the shapes of the cells in the order of making, from place 1 on -/
def shL : List (Nat × Nat) := [(9, 0), (0, 9), (0, 8), (1, 300), (0, 5), (1, 2), (0, 6), (2, 20), (1, 20), (1, 20), (1, 10), (1, 10), (0, 6), (2, 20), (1, 20), (1, 20), (1, 10), (1, 10), (0, 4), (1, 200), (1, 200), (1, 200), (1, 200), (3, 2), (0, 3), (0, 2), (1, 10), (1, 10), (0, 2), (1, 10), (1, 10), (0, 3), (0, 2), (1, 10), (1, 10), (0, 2), (1, 10), (1, 10), (0, 7), (1, 20), (1, 20), (0, 3), (0, 2), (1, 10), (1, 10), (0, 2), (1, 10), (1, 10), (0, 0), (4, 4), (1, 3), (1, 3), (1, 3), (1, 3), (0, 1), (1, 20), (0, 4), (1, 200), (1, 200), (1, 200), (1, 200), (0, 1), (1, 20), (0, 4), (1, 200), (1, 200), (1, 200), (1, 200), (0, 10), (1, 300), (1, 2), (1, 40), (1, 40), (1, 40), (1, 10), (1, 3), (1, 600), (1, 600), (1, 600), (1, 600), (1, 40), (1, 2), (1, 20), (1, 10), (1, 10), (1, 20), (1, 20), (1, 12), (1, 44), (1, 4)]
/-- which fields are references -/
def frefL : List (List Bool) := [[false, false], [true, true], [false, true, true, false], [true, true, false, false, false, false], [true, true, true, true, false], [true, false, false], [true, true, true, true, true, false, false, false, false, false, false, false, false], [true, true, true, false, false, false, false, false, false, false, false, false, false, false], [true, false], [true, true, true, true, true, true, false, true, true, true, true, true], [false, true, true, true, true, true, true, true, true, true, true, true, true, false, false, true, true, true, true, false, false, false, false, true, false, false, false, false, false, false, true, true, true, true]]
/-! THE ABSTRACT WORDS: whole numbers, references as places (0: none), a heap as two functions (numbers, references) of place and slot; shapes are fixed by the order in which the law makes its cells -/
abbrev II : Type := Nat → Nat → Int
abbrev RR : Type := Nat → Nat → Nat
abbrev AV : Type := Option (Int ⊕ (Int ⊕ Nat))
abbrev QT : Type := AV → II → RR → Prop
abbrev MI : Type := MethodName × ByteArray × Nat × Option FieldType × Nat × Nat
abbrev KT : Type := Nat × Nat × (Nat → Int32)
def vI (x : Int) : AV := some (.inl x)
def vL (x : Int) : AV := some (.inr (.inl x))
def vR (r : Nat) : AV := some (.inr (.inr r))
def i32 (x : Int) : Int32 := Int32.ofInt x
def i64 (x : Int) : Int64 := Int64.ofInt x
def InI (x : Int) : Prop := -2147483648 ≤ x ∧ x ≤ 2147483647
def InL (x : Int) : Prop := -9223372036854775808 ≤ x ∧ x ≤ 9223372036854775807
def up1 {α : Type} (f : Nat → α) (r : Nat) (v : α) : Nat → α := fun a => if a = r then v else f a
def up2 {α : Type} (f : Nat → Nat → α) (r j : Nat) (v : α) : Nat → Nat → α := fun a b => if a = r ∧ b = j then v else f a b
def clr {α : Type} (f : Nat → Nat → α) (r : Nat) (v : α) : Nat → Nat → α := fun a b => if a = r then v else f a b
def rfv (ρ : Nat → Nat) (r : Nat) : Option Nat := if r = 0 then none else some (ρ r)
def cv (ρ : Nat → Nat) : AV → Value
  | some (.inl x) => .int (i32 x)
  | some (.inr (.inl x)) => .long (i64 x)
  | some (.inr (.inr r)) => va_rf (rfv ρ r)
  | none => .null
def TB : List Cond := lw_tbl.filter goodWord
theorem tb_in {w : Cond} (i : Nat) (h : lw_tbl[i]? = some w) (hg : goodWord w = true) : w ∈ TB := List.mem_filter.mpr ⟨List.mem_of_getElem? h, hg⟩
theorem tb_good {w : Cond} (h : w ∈ TB) : (w.onTables && w.keeps) = true ∨ ∃ ty, w = .arrayClass ty := good_of_word (List.mem_filter.mp h).2
def wds (mt : MI) : List Cond := .code mt.1 mt.2.1 mt.2.2.1 mt.2.2.2.1 :: TB
/-- what a call needs of the called method's own words -/
def mOK (mt' : MI) (n : Nat) : Prop := Cond.code mt'.1 mt'.2.1 mt'.2.2.1 mt'.2.2.2.1 ∈ TB ∧ Cond.initialized mt'.1.cls ∈ TB ∧ (mt'.1.cls ≠ "java/lang/invoke/MethodHandle" ∧ mt'.1.cls ≠ "java/lang/invoke/VarHandle" ∧ (parseMethodDescriptor mt'.1.desc).map (fun d => d.parameters.length) = some n)
def fits2 (mt mt' : MI) : Prop := mt'.2.2.2.2.1 + 1 ≤ mt.2.2.2.2.1 ∧ 8 + (mt'.2.2.1 + 11) + mt'.2.2.2.2.2 ≤ mt.2.2.2.2.2
/-- kinds: 0 an object of the kind n of vwCl; 1 int[n]; 2 boolean[n]; 3 Kept[n]; 4 int[][n] -/
def sh (i : Nat) : Nat × Nat := shL.getD i (9, 0)
def nfc (c : Nat) : Nat := (vwCl[c]?.map (fun q => q.2.2)).getD 0
def fty (c k : Nat) : FieldType := ((vwCl[c]?.bind (fun q => parseFieldDescriptor (q.2.1 k).2.2.1))).getD .int
def fref (c k : Nat) : Bool := (frefL.getD c []).getD k false
def aty (k : Nat) : FieldType := match k with
  | 1 => .int
  | 2 => .boolean
  | 3 => .object RX1
  | _ => .array .int
def isO (N r c : Nat) : Prop := 0 < r ∧ r ≤ N ∧ sh r = (0, c)
def isA (N r k n : Nat) : Prop := 0 < r ∧ r ≤ N ∧ sh r = (k, n)
def szS (q : Nat × Nat) : Nat := if q.1 = 0 then nfc q.2 else q.2
def cum : Nat → Nat
  | 0 => 0
  | n + 1 => cum n + szS (sh (n + 1))
def fval (ρ : Nat → Nat) (I : II) (R : RR) (c i k : Nat) : Value := if fref c k = true then va_rf (rfv ρ (R i k)) else .int (i32 (I i k))
def cellE (ρ : Nat → Nat) (ca : Nat → ClassId) (I : II) (R : RR) (i : Nat) : va_E :=
  if (sh i).1 = 0 then .inr ((sh i).2, (List.range (nfc (sh i).2)).map (fval ρ I R (sh i).2 i))
  else if (sh i).1 ≤ 2 then .inl (ca i, (sh i).2, .inl (fun j => i32 (I i j)))
  else .inl (ca i, (sh i).2, .inr (.inr (.inr (.inr (fun j => rfv ρ (R i j))))))
def wsW (ρ : Nat → Nat) (ca : Nat → ClassId) (I : II) (R : RR) (N : Nat) : va_W := (List.range N).map (fun i => (ρ (i + 1), cellE ρ ca I R (i + 1)))
/-- the arrays' own kinds -/
def arK (D : va_G) (ca : Nat → ClassId) (N : Nat) (U : State) : Prop := ∀ i, 0 < i → i ≤ N → ¬ (sh i).1 = 0 → va_K D vwCl [(ca i, aty (sh i).1)] U
def agr {α : Type} (f g : Nat → α) (N0 N : Nat) : Prop := ∀ r, (r ≤ N0 ∨ N < r) → f r = g r
def isNst : Cond → Bool
  | .methodLinkNest .. => true
  | _ => false
def NB : List Cond := lw_tbl.filter isNst
/-- the words that aren't carried by the lists: those of nest mates, and what classes the arrays of arrays have -/
def nbw (U : State) : Prop := (∀ w ∈ NB, va_Nw w U) ∧ va_AO RX1 U ∧ va_AOA .int U
theorem va_AOA.moved {ty : FieldType} {u U : State} (hvm : u.vm.Alike U.vm) (h : va_AOA ty u) : va_AOA ty U := Jvm.Stand.arrayOver_alikeB hvm h
theorem nb_in {w : Cond} (i : Nat) (h : lw_tbl[i]? = some w) (hg : isNst w = true) : w ∈ NB := List.mem_filter.mpr ⟨List.mem_of_getElem? h, hg⟩
theorem nbw.warm {s U : State} (hW : s.WarmedH U.vm) (h : nbw s) : nbw U := ⟨fun w hw => by
  have h1 := h.1 w hw
  have h2 := (List.mem_filter.mp hw).2
  cases w <;> first | exact va_Nw.warmM hW h1 | (cases h2), va_AO.moved hW.alike h.2.1, va_AOA.moved hW.alike h.2.2⟩
theorem nbw.same {s U : State} (hvm : s.vm = U.vm) (h : nbw s) : nbw U := ⟨fun w hw => by
  have h1 := h.1 w hw
  have h2 := (List.mem_filter.mp hw).2
  cases w <;> first | exact va_Nw.same rfl hvm h1 | (cases h2), va_AO.moved (by rw [hvm]; exact Vm.Alike.refl _) h.2.1, va_AOA.moved (by rw [hvm]; exact Vm.Alike.refl _) h.2.2⟩
/-- the numbered slots of a method hold the listed values -/
def LR (ρ : Nat → Nat) (ls : Array Slot) (nL : Nat) (L : List AV) : Prop := ls.size = nL ∧ lv_wf ls ∧ ∀ (k : Nat) (v : Int ⊕ (Int ⊕ Nat)), L[k]? = some (some v) → ls[k]? = some (.val (cv ρ (some v)))
def SM (mt : MI) (s : State) (A : Nat → Prop) (D : va_G) (ρ0 : Nat → Nat) (ca0 : Nat → ClassId) (N0 : Nat) (H : Heap) (locs : List Loc) (ls : Array Slot) (ρ : Nat → Nat) (ca : Nat → ClassId) (L : List AV) (I : II) (R : RR) (N : Nat) : Prop :=
  va_P D vwCl (wsW ρ ca I R N) H ∧ va_D A (wsW ρ ca I R N) ∧ va_S A s.heap H locs ∧ LR ρ ls mt.2.2.1 L ∧ arK D ca N s ∧ agr ρ ρ0 N0 N ∧ agr ca ca0 N0 N ∧ N0 ≤ N
def stk (ρ : Nat → Nat) (rv : AV) : List Value := match rv with
  | none => []
  | some v => [cv ρ (some v)]
def okret (ret : Option FieldType) (rv : AV) : Prop := match ret, rv with
  | none, none => True
  | some .int, some (.inl _) => True
  | some .boolean, some (.inl x) => x = 0 ∨ x = 1
  | some .long, some (.inr (.inl _)) => True
  | _, _ => False
def retAt (mt : MI) (pc : Nat) (rv : AV) : Prop := okret mt.2.2.2.1 rv ∧ match rv with
  | none => decode mt.2.1 pc = .ok (.return_, 1)
  | some (.inl _) => decode mt.2.1 pc = .ok (.ireturn, 1)
  | some (.inr _) => decode mt.2.1 pc = .ok (.lreturn, 1)
def good (K : KT) (mt : MI) (Q : QT) (p : Program) (l : Launch) (e : Env) (Rm : Room) (s : State) (m : MethodId) (args : Array Value) (below : List Frame) (meth : Method) (c : Code) (A : Nat → Prop) (D : va_G) (ρ0 : Nat → Nat) (ca0 : Nat → ClassId) (N0 : Nat) (QQ : State → Prop) : Prop :=
  p.tables.exec = Jvm.exec ∧ c.code = mt.2.1 ∧ c.maxLocals = mt.2.2.1 ∧ s.vm.findClass mt.1.cls = some m.cls ∧ (∀ w ∈ TB, w.before args s = true) ∧ (∀ q, s.heap.size ≤ q → A q) ∧ va_K D vwCl [] s ∧ (mt.2.2.2.2.1 ≤ Rm.frames ∧ mt.2.2.2.2.2 ≤ Rm.locals ∧ K.1 - N0 ≤ Rm.cells ∧ cum K.1 - cum N0 ≤ Rm.slots) ∧ (meth.name = mt.1.name ∧ nbw s) ∧
  (K.2.1 = 0 ∨ (va_X (ρ0 1000) (K.2.1 - 1) K.2.2 s s.heap ∧ ρ0 1000 < s.heap.size ∧ ¬ A (ρ0 1000) ∧ K.2.1 < 2 ^ 31)) ∧ K.1 < 1000 ∧
  ∀ (pc : Nat) (H : Heap) (locs : List Loc) (ls : Array Slot) (ρ : Nat → Nat) (ca : Nat → ClassId) (L : List AV) (rv : AV) (I : II) (R : RR), retAt mt pc rv → Q rv I R → SM mt s A D ρ0 ca0 N0 H locs ls ρ ca L I R K.1 →
    W p l e Rm s m args below meth c H locs (K.1 - N0) (cum K.1 - cum N0) QQ (F0 m pc ls (stk ρ rv))
/-- from here the method goes on to an end with Q -/
def wp (K : KT) (mt : MI) (Q : QT) (pc : Nat) (L S : List AV) (I : II) (R : RR) (N : Nat) : Prop :=
  ∀ (p : Program) (l : Launch) (e : Env) (Rm : Room) (s : State) (m : MethodId) (args : Array Value) (below : List Frame) (meth : Method) (c : Code) (A : Nat → Prop) (D : va_G) (ρ0 : Nat → Nat) (ca0 : Nat → ClassId) (N0 : Nat) (QQ : State → Prop),
  good K mt Q p l e Rm s m args below meth c A D ρ0 ca0 N0 QQ → ∀ (H : Heap) (locs : List Loc) (ls : Array Slot) (ρ : Nat → Nat) (ca : Nat → ClassId), SM mt s A D ρ0 ca0 N0 H locs ls ρ ca L I R N →
    W p l e Rm s m args below meth c H locs (N - N0) (cum N - cum N0) QQ (F0 m pc ls (S.map (cv ρ)))

/-! numbers -/
theorem i32_toInt {x : Int} (h : InI x) : (i32 x).toInt = x := Int32.toInt_ofInt_of_le (by unfold InI at h; omega) (by unfold InI at h; omega)
theorem i64_toInt {x : Int} (h : InL x) : (i64 x).toInt = x := Int64.toInt_ofInt_of_le (by unfold InL at h; omega) (by unfold InL at h; omega)
theorem i32_lt {a b : Int} (ha : InI a) (hb : InI b) : (i32 a < i32 b) ↔ a < b := by rw [Int32.lt_iff_toInt_lt, i32_toInt ha, i32_toInt hb]
theorem i32_le {a b : Int} (ha : InI a) (hb : InI b) : (i32 a ≤ i32 b) ↔ a ≤ b := by rw [Int32.le_iff_toInt_le, i32_toInt ha, i32_toInt hb]
theorem i32_eq {a b : Int} (ha : InI a) (hb : InI b) : (i32 a = i32 b) ↔ a = b := by rw [← Int32.toInt_inj, i32_toInt ha, i32_toInt hb]
theorem i32_0 : (0 : Int32) = i32 0 := by decide
theorem InI_0 : InI 0 := by unfold InI; omega
theorem i32_add (a b : Int) : i32 a + i32 b = i32 (a + b) := (Int32.ofInt_add a b).symm
theorem i32_sub (a b : Int) : i32 a - i32 b = i32 (a - b) := (Int32.ofInt_sub a b).symm
theorem i32_mul (a b : Int) : i32 a * i32 b = i32 (a * b) := (Int32.ofInt_mul a b).symm
theorem i32_neg (a : Int) : - i32 a = i32 (-a) := (Int32.ofInt_neg a).symm
theorem i64_add (a b : Int) : i64 a + i64 b = i64 (a + b) := (Int64.ofInt_add a b).symm
theorem i64_sub (a b : Int) : i64 a - i64 b = i64 (a - b) := (Int64.ofInt_sub a b).symm
theorem i64_mul (a b : Int) : i64 a * i64 b = i64 (a * b) := (Int64.ofInt_mul a b).symm
theorem i32_of (x : Int32) : i32 x.toInt = x := Int32.ofInt_toInt x
theorem i64_of (x : Int64) : i64 x.toInt = x := Int64.ofInt_toInt x
theorem i32_cl {x : Int} (h0 : 0 ≤ x) (h : x < 2147483648) : (i32 x).toNatClampNeg = x.toNat := by rw [← Int32.toNat_toInt, i32_toInt ⟨by omega, by omega⟩]
theorem i32_in {x : Int} {n : Nat} (h0 : 0 ≤ x) (h : x < (n : Int)) (hn : n ≤ 1000) : vp_in (i32 x) n := by
  rw [vp_in_iff, i32_toInt ⟨by omega, by omega⟩]; exact ⟨h0, h⟩
theorem i32_div {a b : Int} (ha : 0 ≤ a) (ha2 : a ≤ 2147483647) (hb : 0 < b) (hb2 : b ≤ 2147483647) : i32 a / i32 b = i32 (a / b) := by
  have h1 : 0 ≤ a / b := Int.ediv_nonneg ha (by omega)
  have h2 : a / b ≤ a := Int.ediv_le_self b ha
  apply Int32.toInt_inj.mp
  rw [Int32.toInt_div_of_ne_right, i32_toInt ⟨by omega, by omega⟩, i32_toInt ⟨by omega, by omega⟩, i32_toInt ⟨by omega, by omega⟩, Int.tdiv_eq_ediv_of_nonneg ha]
  intro h
  have := congrArg Int32.toInt h
  rw [i32_toInt ⟨by omega, by omega⟩] at this
  have e : (-1 : Int32).toInt = -1 := by decide
  omega
theorem i32_rem {a b : Int} (ha : 0 ≤ a) (ha2 : a ≤ 2147483647) (hb : 0 < b) (hb2 : b ≤ 2147483647) : i32 a - i32 a / i32 b * i32 b = i32 (a % b) := by
  rw [i32_div ha ha2 hb hb2, i32_mul, i32_sub]
  congr 1
  have := Int.emod_add_mul_ediv a b
  rw [Int.mul_comm b] at this
  omega
theorem i32_ne0 {b : Int} (hb : 0 < b) (hb2 : b ≤ 2147483647) : ¬ i32 b = 0 := by
  rw [i32_0, i32_eq ⟨by omega, by omega⟩ InI_0]; omega
theorem i64_div {a b : Int} (ha : 0 ≤ a) (ha2 : a ≤ 9223372036854775807) (hb : 0 < b) (hb2 : b ≤ 9223372036854775807) : i64 a / i64 b = i64 (a / b) := by
  have h1 : 0 ≤ a / b := Int.ediv_nonneg ha (by omega)
  have h2 : a / b ≤ a := Int.ediv_le_self b ha
  apply Int64.toInt_inj.mp
  rw [Int64.toInt_div_of_ne_right, i64_toInt ⟨by omega, by omega⟩, i64_toInt ⟨by omega, by omega⟩, i64_toInt ⟨by omega, by omega⟩, Int.tdiv_eq_ediv_of_nonneg ha]
  intro h
  have := congrArg Int64.toInt h
  rw [i64_toInt ⟨by omega, by omega⟩] at this
  have e : (-1 : Int64).toInt = -1 := by decide
  omega
theorem i64_rem {a b : Int} (ha : 0 ≤ a) (ha2 : a ≤ 9223372036854775807) (hb : 0 < b) (hb2 : b ≤ 9223372036854775807) : i64 a - i64 a / i64 b * i64 b = i64 (a % b) := by
  rw [i64_div ha ha2 hb hb2, i64_mul, i64_sub]
  congr 1
  have := Int.emod_add_mul_ediv a b
  rw [Int.mul_comm b] at this
  omega
theorem i64_ne0 {b : Int} (hb : 0 < b) (hb2 : b ≤ 9223372036854775807) : ¬ i64 b = 0 := by
  intro h
  have := congrArg Int64.toInt h
  rw [i64_toInt ⟨by omega, by omega⟩, Int64.toInt_zero] at this
  omega
theorem i32_i2l {x : Int} (h : InI x) : (i32 x).toInt64 = i64 x := by
  apply Int64.toInt_inj.mp
  rw [Int32.toInt_toInt64, i32_toInt h, i64_toInt ⟨by unfold InI at h; omega, by unfold InI at h; omega⟩]
theorem i64_l2i (x : Int) : (i64 x).toInt32 = i32 x := Int64.toInt32_ofInt
theorem i64_cmp {a b : Int} (ha : InL a) (hb : InL b) : lg_cmp (i64 a) (i64 b) = i32 (if b < a then 1 else if a = b then 0 else -1) := by
  unfold lg_cmp
  simp only [gt_iff_lt, Int64.lt_iff_toInt_lt, ← Int64.toInt_inj, i64_toInt ha, i64_toInt hb]
  repeat' split
  all_goals rfl
/-! the listed values of a method's slots -/
def asc (ρ : Nat → Nat) (L : List AV) : List (Nat × Value) := (List.range L.length).filterMap (fun k => match L[k]? with
  | some (some v) => some (k, cv ρ (some v))
  | _ => none)
theorem asc_mem {ρ : Nat → Nat} {L : List AV} {k : Nat} {v : Int ⊕ (Int ⊕ Nat)} (h : L[k]? = some (some v)) : (k, cv ρ (some v)) ∈ asc ρ L := by
  refine List.mem_filterMap.mpr ⟨k, List.mem_range.mpr (List.getElem?_eq_some_iff.mp h).1, ?_⟩
  rw [h]
theorem asc_of {ρ : Nat → Nat} {L : List AV} {q : Nat × Value} (h : q ∈ asc ρ L) : ∃ v, L[q.1]? = some (some v) ∧ q.2 = cv ρ (some v) := by
  obtain ⟨k, -, hk⟩ := List.mem_filterMap.mp h
  cases hL : L[k]? with
  | none => rw [hL] at hk; cases hk
  | some o =>
    rw [hL] at hk
    cases o with
    | none => cases hk
    | some v => cases hk; exact ⟨v, hL, rfl⟩
theorem LR.has {ρ : Nat → Nat} {ls : Array Slot} {nL : Nat} {L : List AV} (h : LR ρ ls nL L) : lv_has ls nL (asc ρ L) := by
  refine ⟨h.1, h.2.1, fun q hq => ?_⟩
  obtain ⟨v, h1, h2⟩ := asc_of hq
  rw [h2]
  exact h.2.2 _ _ h1
/-- no long begins one place ahead -/
def okst (L : List AV) (i : Nat) : Bool := match i with
  | 0 => true
  | j + 1 => match L[j]? with
    | some (some (.inr (.inl _))) => false
    | _ => true
theorem cv_cat1 {ρ : Nat → Nat} {x : Int} : (cv ρ (vI x)).category = 1 := rfl
theorem cv_catR {ρ : Nat → Nat} {r : Nat} : (cv ρ (vR r)).category = 1 := by
  show (va_rf (rfv ρ r)).category = 1
  unfold rfv; split <;> rfl
theorem cv_cat2 {ρ : Nat → Nat} {v : Int ⊕ (Int ⊕ Nat)} (h : (cv ρ (some v)).category = 2) : ∃ x, v = .inr (.inl x) := by
  rcases v with x | x | r
  · cases h
  · exact ⟨x, rfl⟩
  · have := cv_catR (ρ := ρ) (r := r)
    rw [show cv ρ (some (.inr (.inr r))) = cv ρ (vR r) from rfl] at h
    omega
theorem LR.set1 {ρ : Nat → Nat} {ls ls' : Array Slot} {nL i : Nat} {L : List AV} {v : Int ⊕ (Int ⊕ Nat)} (h : LR ρ ls nL L) (ok : okst L i = true)
    (h' : lv_has ls' nL ((i, cv ρ (some v)) :: (asc ρ L).filter (fun q => !(q.1 == i) && !(q.1 + 1 == i && q.2.category == 2)))) : LR ρ ls' nL (L.set i (some v)) := by
  refine ⟨h'.1, h'.2.1, fun k w hk => ?_⟩
  by_cases hki : i = k
  · subst hki
    by_cases hl : i < L.length
    · rw [List.getElem?_set_self hl] at hk
      cases hk
      exact h'.2.2 _ List.mem_cons_self
    · have := (List.getElem?_eq_some_iff.mp hk).1
      rw [List.length_set] at this
      omega
  · rw [List.getElem?_set_ne hki] at hk
    refine h'.2.2 (k, cv ρ (some w)) (List.mem_cons_of_mem _ (List.mem_filter.mpr ⟨asc_mem hk, ?_⟩))
    simp only [Bool.and_eq_true, Bool.not_eq_true', beq_eq_false_iff_ne, ne_eq, Bool.and_eq_false_iff]
    refine ⟨fun e => hki e.symm, ?_⟩
    by_cases hk1 : k + 1 = i
    · right
      intro hc
      obtain ⟨x, rfl⟩ := cv_cat2 hc
      subst hk1
      simp [okst, hk] at ok
    · exact Or.inl hk1
theorem LR.set2 {ρ : Nat → Nat} {ls ls' : Array Slot} {nL i : Nat} {L : List AV} {x : Int} (h : LR ρ ls nL L) (ok : okst L i = true)
    (h' : lv_has ls' nL ((i, .long (i64 x)) :: (asc ρ L).filter (fun q => !(q.1 == i) && (!(q.1 == i + 1) && !(q.1 + 1 == i && q.2.category == 2))))) : LR ρ ls' nL ((L.set i (vL x)).set (i + 1) none) := by
  refine ⟨h'.1, h'.2.1, fun k w hk => ?_⟩
  by_cases hk2 : i + 1 = k
  · subst hk2
    by_cases hl : i + 1 < (L.set i (vL x)).length
    · rw [List.getElem?_set_self hl] at hk
      cases hk
    · have := (List.getElem?_eq_some_iff.mp hk).1
      rw [List.length_set] at this
      omega
  · rw [List.getElem?_set_ne hk2] at hk
    by_cases hki : i = k
    · subst hki
      by_cases hl : i < L.length
      · rw [List.getElem?_set_self hl] at hk
        cases hk
        exact h'.2.2 _ List.mem_cons_self
      · have := (List.getElem?_eq_some_iff.mp hk).1
        rw [List.length_set] at this
        omega
    · rw [List.getElem?_set_ne hki] at hk
      refine h'.2.2 (k, cv ρ (some w)) (List.mem_cons_of_mem _ (List.mem_filter.mpr ⟨asc_mem hk, ?_⟩))
      simp only [Bool.and_eq_true, Bool.not_eq_true', beq_eq_false_iff_ne, ne_eq, Bool.and_eq_false_iff]
      refine ⟨fun e => hki e.symm, fun e => hk2 e.symm, ?_⟩
      by_cases hk1 : k + 1 = i
      · right
        intro hc
        obtain ⟨x, rfl⟩ := cv_cat2 hc
        subst hk1
        simp [okst, hk] at ok
      · exact Or.inl hk1
theorem LR.at {ρ : Nat → Nat} {ls : Array Slot} {nL i : Nat} {L : List AV} {v : Int ⊕ (Int ⊕ Nat)} (h : LR ρ ls nL L) (hi : L[i]? = some (some v)) : ls[i]? = some (.val (cv ρ (some v))) := h.2.2 _ _ hi
/-- fewer values -/
def leL : List AV → List AV → Bool
  | [], _ => true
  | none :: a, _ :: b => leL a b
  | some x :: a, some y :: b => decide (x = y) && leL a b
  | none :: a, [] => leL a []
  | some _ :: _, _ => false
theorem leL_at : ∀ {a b : List AV} {k : Nat} {v : Int ⊕ (Int ⊕ Nat)}, leL a b = true → a[k]? = some (some v) → b[k]? = some (some v)
  | [], _, _, _, _, h => by simp at h
  | none :: a, y :: b, 0, _, _, h => by simp at h
  | none :: a, y :: b, k + 1, v, hl, h => by
    have hl : leL a b = true := hl
    simpa using leL_at hl (by simpa using h)
  | none :: a, [], 0, _, _, h => by simp at h
  | none :: a, [], k + 1, v, hl, h => by
    have hl : leL a [] = true := hl
    have := leL_at hl (by simpa using h)
    simp at this
  | some x :: a, some y :: b, 0, v, hl, h => by
    simp only [leL, Bool.and_eq_true, decide_eq_true_eq] at hl
    simp at h
    simp [← hl.1, h]
  | some x :: a, some y :: b, k + 1, v, hl, h => by
    simp only [leL, Bool.and_eq_true] at hl
    simpa using leL_at hl.2 (by simpa using h)
  | some x :: a, none :: b, _, _, hl, _ => by simp [leL] at hl
  | some x :: a, [], _, _, hl, _ => by simp [leL] at hl
theorem LR.le {ρ : Nat → Nat} {ls : Array Slot} {nL : Nat} {L L' : List AV} (h : LR ρ ls nL L) (hl : leL L' L = true) : LR ρ ls nL L' := ⟨h.1, h.2.1, fun k v hk => h.2.2 k v (leL_at hl hk)⟩
/-! the world's list -/
theorem set_mr {α : Type} (n k : Nat) (f : Nat → α) (v : α) : ((List.range n).map f).set k v = (List.range n).map (fun j => if j = k then v else f j) := by
  apply List.ext_getElem
  · simp
  · intro i h1 h2
    rw [List.getElem_set]
    simp only [List.getElem_map, List.getElem_range]
    by_cases h : k = i
    · rw [if_pos h, if_pos h.symm]
    · rw [if_neg h, if_neg (fun e => h e.symm)]
theorem ws_at {ρ : Nat → Nat} {ca : Nat → ClassId} {I : II} {R : RR} {N r : Nat} (h0 : 0 < r) (hN : r ≤ N) : (wsW ρ ca I R N)[r - 1]? = some (ρ r, cellE ρ ca I R r) := by
  unfold wsW
  rw [List.getElem?_map, List.getElem?_range (by omega)]
  simp only [Option.map_some]
  rw [show r - 1 + 1 = r by omega]
theorem ws_set {ρ : Nat → Nat} {ca : Nat → ClassId} {I I' : II} {R R' : RR} {N r : Nat} {e : va_E} (h0 : 0 < r) (he : cellE ρ ca I' R' r = e) (ho : ∀ i, i ≠ r → cellE ρ ca I' R' i = cellE ρ ca I R i) : (wsW ρ ca I R N).set (r - 1) (ρ r, e) = wsW ρ ca I' R' N := by
  unfold wsW
  rw [set_mr]
  apply List.map_congr_left
  intro j _
  by_cases h : j = r - 1
  · rw [if_pos h]
    subst he
    rw [show j + 1 = r by omega]
  · rw [if_neg h, ho (j + 1) (by omega)]
theorem cell_obj {ρ : Nat → Nat} {ca : Nat → ClassId} {I : II} {R : RR} {r c : Nat} (h : sh r = (0, c)) : cellE ρ ca I R r = .inr (c, (List.range (nfc c)).map (fval ρ I R c r)) := by
  unfold cellE; rw [h]; rfl
theorem cell_int {ρ : Nat → Nat} {ca : Nat → ClassId} {I : II} {R : RR} {r k n : Nat} (h : sh r = (k, n)) (h1 : 0 < k) (h2 : k ≤ 2) : cellE ρ ca I R r = .inl (ca r, n, .inl (fun j => i32 (I r j))) := by
  unfold cellE; rw [h, if_neg (by show ¬ k = 0; omega), if_pos h2]
theorem cell_ref {ρ : Nat → Nat} {ca : Nat → ClassId} {I : II} {R : RR} {r k n : Nat} (h : sh r = (k, n)) (h1 : 2 < k) : cellE ρ ca I R r = .inl (ca r, n, .inr (.inr (.inr (.inr (fun j => rfv ρ (R r j)))))) := by
  unfold cellE; rw [h, if_neg (by show ¬ k = 0; omega), if_neg (by show ¬ k ≤ 2; omega)]
theorem cell_congr {ρ : Nat → Nat} {ca : Nat → ClassId} {I I' : II} {R R' : RR} {i : Nat} (hI : ∀ j, I' i j = I i j) (hR : ∀ j, R' i j = R i j) : cellE ρ ca I' R' i = cellE ρ ca I R i := by
  have h1 : I' i = I i := funext hI
  have h2 : R' i = R i := funext hR
  unfold cellE
  have h3 : fval ρ I' R' (sh i).2 i = fval ρ I R (sh i).2 i := by
    funext k
    unfold fval
    rw [hI, hR]
  rw [h3, h1, h2]
theorem up2_ne {α : Type} {f : Nat → Nat → α} {r j a b : Nat} {v : α} (h : a ≠ r) : up2 f r j v a b = f a b := by
  unfold up2; rw [if_neg (fun q => h q.1)]
theorem up2_self {α : Type} {f : Nat → Nat → α} {r j : Nat} {v : α} : up2 f r j v r j = v := by
  unfold up2; rw [if_pos ⟨rfl, rfl⟩]
theorem up2_nj {α : Type} {f : Nat → Nat → α} {r j a b : Nat} {v : α} (h : b ≠ j) : up2 f r j v a b = f a b := by
  unfold up2; rw [if_neg (fun q => h q.2)]
theorem cell_up_I {ρ : Nat → Nat} {ca : Nat → ClassId} {I : II} {R : RR} {r k : Nat} {x : Int} (i : Nat) (h : i ≠ r) : cellE ρ ca (up2 I r k x) R i = cellE ρ ca I R i := cell_congr (fun _ => up2_ne h) (fun _ => rfl)
theorem cell_up_R {ρ : Nat → Nat} {ca : Nat → ClassId} {I : II} {R : RR} {r k : Nat} {x : Nat} (i : Nat) (h : i ≠ r) : cellE ρ ca I (up2 R r k x) i = cellE ρ ca I R i := cell_congr (fun _ => rfl) (fun _ => up2_ne h)
theorem fval_at {ρ : Nat → Nat} {I : II} {R : RR} {c r k n : Nat} (h : k < n) : ((List.range n).map (fval ρ I R c r))[k]? = some (fval ρ I R c r k) := by
  rw [List.getElem?_map, List.getElem?_range h]; rfl
theorem fval_I {ρ : Nat → Nat} {I : II} {R : RR} {c r k : Nat} (h : fref c k = false) : fval ρ I R c r k = .int (i32 (I r k)) := by
  unfold fval; rw [h]; rfl
theorem fval_R {ρ : Nat → Nat} {I : II} {R : RR} {c r k : Nat} (h : fref c k = true) : fval ρ I R c r k = va_rf (rfv ρ (R r k)) := by
  unfold fval; rw [if_pos h]
theorem obj_set_I {ρ : Nat → Nat} {I : II} {R : RR} {c r k n : Nat} {x : Int} (h : fref c k = false) : ((List.range n).map (fval ρ I R c r)).set k (.int (i32 x)) = (List.range n).map (fval ρ (up2 I r k x) R c r) := by
  rw [set_mr]
  apply List.map_congr_left
  intro j _
  by_cases hj : j = k
  · subst hj
    rw [if_pos rfl, fval_I h, up2_self]
  · rw [if_neg hj]
    unfold fval
    rw [up2_nj hj]
theorem obj_set_R {ρ : Nat → Nat} {I : II} {R : RR} {c r k n x : Nat} (h : fref c k = true) : ((List.range n).map (fval ρ I R c r)).set k (va_rf (rfv ρ x)) = (List.range n).map (fval ρ I (up2 R r k x) c r) := by
  rw [set_mr]
  apply List.map_congr_left
  intro j _
  by_cases hj : j = k
  · subst hj
    rw [if_pos rfl, fval_R h, up2_self]
  · rw [if_neg hj]
    unfold fval
    rw [up2_nj hj]
theorem rfv_pos {ρ : Nat → Nat} {r : Nat} (h : 0 < r) : rfv ρ r = some (ρ r) := by unfold rfv; rw [if_neg (by omega)]
theorem cv_pos {ρ : Nat → Nat} {r : Nat} (h : 0 < r) : cv ρ (vR r) = .ref (ρ r) := by
  show va_rf (rfv ρ r) = _
  rw [rfv_pos h]; rfl
theorem sh_ok : ∀ i, (sh i).2 ≤ 1000 := by
  intro i
  unfold sh
  by_cases h : i < shL.length
  · have : ∀ q ∈ shL, q.2 ≤ 1000 := by decide +kernel
    rw [List.getD_eq_getElem?_getD, List.getElem?_eq_getElem h]
    exact this _ (List.getElem_mem h)
  · rw [List.getD_eq_getElem?_getD, List.getElem?_eq_none (by omega)]
    decide
theorem nfc_of {c n : Nat} {C : String} {T : u_T} (h : vwCl[c]? = some (C, T, n)) : nfc c = n := by unfold nfc; rw [h]; rfl
theorem vw_lt {c : Nat} {q : vw_C} (h : vwCl[c]? = some q) : c < 11 := (List.getElem?_eq_some_iff.mp h).1
