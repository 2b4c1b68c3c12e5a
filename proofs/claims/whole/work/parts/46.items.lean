/-! THE TEXT, item by item: what is read -/
def bt (bs : List Int) (k : Nat) : Int := (bs[k]?).getD 0
theorem bt_bd {bs : List Int} (h : okBs bs) (k : Nat) : 0 ≤ bt bs k ∧ bt bs k ≤ 255 := by
  unfold bt
  cases e : bs[k]? with
  | none => show 0 ≤ (0 : Int) ∧ (0 : Int) ≤ 255; omega
  | some b => exact h b (List.mem_of_getElem? e)
theorem bt_end {bs : List Int} {k : Nat} (h : bs.length ≤ k) : bt bs k = 0 := by unfold bt; rw [List.getElem?_eq_none h]; rfl
theorem bt_lt {bs : List Int} {k : Nat} (h : bt bs k ≠ 0) : k < bs.length := Nat.lt_of_not_le (fun q => h (bt_end q))
abbrev isDg (x : Int) : Prop := 48 ≤ x ∧ x ≤ 57
/-- figures, r of them at the most: how many more there might be, their number, the place behind -/
def scan (bs : List Int) : Nat → Nat → Int → Nat × Int × Nat
  | 0, k, v => (0, v, k)
  | r + 1, k, v => if isDg (bt bs k) then scan bs r (k + 1) (10 * v + bt bs k - 48) else (r + 1, v, k)
theorem scan_yes {bs : List Int} {r k : Nat} {v : Int} (h : isDg (bt bs k)) : scan bs (r + 1) k v = scan bs r (k + 1) (10 * v + bt bs k - 48) := by
  show (if _ then _ else _) = _; rw [if_pos h]
theorem scan_no {bs : List Int} {r k : Nat} {v : Int} (h : ¬ isDg (bt bs k)) : scan bs (r + 1) k v = (r + 1, v, k) := by
  show (if _ then _ else _) = _; rw [if_neg h]
theorem scan_at (bs : List Int) : ∀ r k v, k ≤ (scan bs r k v).2.2 ∧ (scan bs r k v).2.2 ≤ k + r ∧ (scan bs r k v).1 ≤ r
  | 0, k, v => ⟨Nat.le_refl _, Nat.le_refl _, Nat.le_refl _⟩
  | r + 1, k, v => by
    by_cases h : isDg (bt bs k)
    · rw [scan_yes h]
      have := scan_at bs r (k + 1) (10 * v + bt bs k - 48)
      omega
    · rw [scan_no h]; exact ⟨Nat.le_refl _, by show k ≤ k + (r + 1); omega, Nat.le_refl _⟩
def topN : Nat → Int → Int
  | 0, b => b
  | r + 1, b => topN r (10 * b + 9)
theorem topN_le : ∀ r b c, b ≤ c → topN r b ≤ topN r c
  | 0, _, _, h => h
  | r + 1, b, c, h => topN_le r _ _ (by omega)
theorem topN_ge : ∀ r b, 0 ≤ b → b ≤ topN r b
  | 0, _, _ => Int.le_refl _
  | r + 1, b, h => Int.le_trans (by omega) (topN_ge r (10 * b + 9) (by omega))
theorem scan_v (bs : List Int) : ∀ r k v, 0 ≤ v → 0 ≤ (scan bs r k v).2.1 ∧ (scan bs r k v).2.1 ≤ topN r v
  | 0, k, v, h => ⟨h, Int.le_refl _⟩
  | r + 1, k, v, h => by
    by_cases hd : isDg (bt bs k)
    · rw [scan_yes hd]
      have h1 := scan_v bs r (k + 1) (10 * v + bt bs k - 48) (by omega)
      have h2 := topN_le r (10 * v + bt bs k - 48) (10 * v + 9) (by omega)
      exact ⟨h1.1, Int.le_trans h1.2 h2⟩
    · rw [scan_no hd]
      exact ⟨h, topN_ge (r + 1) v h⟩
/-- a number with c behind it, and the place behind that -/
def fg (bs : List Int) (k : Nat) (c : Int) : Option (Int × Nat) :=
  if (1 ≤ (scan bs 4 k 0).1 ∧ (scan bs 4 k 0).1 ≤ 3) ∧ bt bs (scan bs 4 k 0).2.2 = c then some ((scan bs 4 k 0).2.1, (scan bs 4 k 0).2.2 + 1) else none
theorem fg_yes {bs : List Int} {k : Nat} {c : Int} (h : (1 ≤ (scan bs 4 k 0).1 ∧ (scan bs 4 k 0).1 ≤ 3) ∧ bt bs (scan bs 4 k 0).2.2 = c) : fg bs k c = some ((scan bs 4 k 0).2.1, (scan bs 4 k 0).2.2 + 1) := by unfold fg; rw [if_pos h]
theorem fg_no {bs : List Int} {k : Nat} {c : Int} (h : ¬ ((1 ≤ (scan bs 4 k 0).1 ∧ (scan bs 4 k 0).1 ≤ 3) ∧ bt bs (scan bs 4 k 0).2.2 = c)) : fg bs k c = none := by unfold fg; rw [if_neg h]
theorem fg_bd {bs : List Int} {k : Nat} {c : Int} {a : Int × Nat} (hc : c ≠ 0) (h : fg bs k c = some a) : 0 ≤ a.1 ∧ a.1 ≤ 9999 ∧ k < a.2 ∧ a.2 ≤ bs.length := by
  unfold fg at h
  split at h
  · next hd =>
    injection h with h
    subst h
    have h1 := scan_v bs 4 k 0 (Int.le_refl _)
    have h2 := scan_at bs 4 k 0
    have h3 := bt_lt (bs := bs) (k := (scan bs 4 k 0).2.2) (by rw [hd.2]; exact hc)
    have h4 : topN 4 0 = 9999 := rfl
    rw [h4] at h1
    exact ⟨h1.1, h1.2, by show k < (scan bs 4 k 0).2.2 + 1; omega, by show (scan bs 4 k 0).2.2 + 1 ≤ bs.length; omega⟩
  · cases h
theorem fg_one {bs : List Int} {k : Nat} {c d : Int} {a : Int × Nat} (h : fg bs k c = some a) (hcd : c ≠ d) : fg bs k d = none := by
  unfold fg at h
  split at h
  · next hd => exact fg_no (fun q => hcd (hd.2.symm.trans q.2))
  · cases h
/-- one more of PEOPLE -/
def pushP (ρ : RM) (side c w : Int) : RM := (rN ρ + 1, (fun q => if q = rN ρ then side else rS ρ q), (fun q => if q = rN ρ then c else rC ρ q), (fun q => if q = rN ρ then w else rL ρ q), rP ρ)
def sideN (ρ : RM) (side : Int) : Nat := if side = 0 then cntB (S0 (rS ρ)) (rN ρ) else cntB (S1 (rS ρ)) (rN ρ)
abbrev mayP (ρ : RM) (side c w : Int) : Prop := sideN ρ side < 10 ∧ c ≤ 99 ∧ w ≤ 5
def addP (ρ : RM) (side c w : Int) : Option RM := if mayP ρ side c w then some (pushP ρ side c w) else none
def setP (ρ : RM) (k : Nat) (v : Int) : RM := (rN ρ, rS ρ, rC ρ, rL ρ, fun q => if q = k then v else rP ρ q)
def numP (ρ : RM) (x v : Int) : Option RM :=
  if x = 110 then (if 1 ≤ v ∧ v ≤ 200 then some (setP ρ 0 v) else none) else if x = 116 then (if 0 ≤ v ∧ v ≤ 50 then some (setP ρ 1 v) else none)
  else if x = 108 then (if 0 ≤ v ∧ v ≤ 99 then some (setP ρ 2 v) else none) else if x = 120 then (if 0 ≤ v ∧ v ≤ 50 then some (setP ρ 3 v) else none)
  else if x = 104 then (if 0 ≤ v ∧ v ≤ 99 then some (setP ρ 4 v) else none) else none
/-- two numbers behind a letter -/
def two2 (bs : List Int) (k : Nat) : Option (Int × Int × Nat) := match fg bs k 44 with
  | none => none
  | some a => match fg bs a.2 59 with
    | none => none
    | some b => some (a.1, b.1, b.2)
def itP (bs : List Int) (k : Nat) (ρ : RM) (side : Int) : Option (RM × Nat) := match two2 bs k with
  | none => none
  | some a => (addP ρ side a.1 a.2.1).map (fun r => (r, a.2.2))
def itN (bs : List Int) (k : Nat) (ρ : RM) (x : Int) : Option (RM × Nat) := match fg bs k 59 with
  | none => none
  | some a => (numP ρ x a.1).map (fun r => (r, a.2))
/-- the item at k -/
def item (bs : List Int) (k : Nat) (ρ : RM) : Option (RM × Nat) :=
  if bt bs k = 118 then itP bs (k + 1) ρ 0 else if bt bs k = 99 then itP bs (k + 1) ρ 1 else itN bs (k + 1) ρ (bt bs k)
theorem item_no {bs : List Int} {k : Nat} {ρ : RM} (h1 : fg bs (k + 1) 59 = none) (h2 : two2 bs (k + 1) = none) : item bs k ρ = none := by
  have a : ∀ s, itP bs (k + 1) ρ s = none := fun s => by unfold itP; rw [h2]
  have b : ∀ x, itN bs (k + 1) ρ x = none := fun x => by unfold itN; rw [h1]
  unfold item
  split
  · exact a 0
  split
  · exact a 1
  · exact b _
/-- all items from k on: the FAULT, and the room -/
def rdA (bs : List Int) : Nat → Nat → RM → Int × RM
  | 0, _, ρ => (-4, ρ)
  | f + 1, k, ρ => if k < bs.length then (match item bs k ρ with
    | none => ((k : Int), ρ)
    | some a => rdA bs f a.2 a.1) else (-4, ρ)
theorem rdA_none {bs : List Int} {f k : Nat} {ρ : RM} (hk : k < bs.length) (e : item bs k ρ = none) : rdA bs (f + 1) k ρ = ((k : Int), ρ) := by
  unfold rdA; rw [if_pos hk, e]
theorem rdA_some {bs : List Int} {f k : Nat} {ρ : RM} {a : RM × Nat} (hk : k < bs.length) (e : item bs k ρ = some a) : rdA bs (f + 1) k ρ = rdA bs f a.2 a.1 := by
  rw [rdA, if_pos hk, e]
def ρE : RM := (0, fun _ => 0, fun _ => 0, fun _ => 0, fun q => if q = 0 then 60 else if q = 1 then 0 else if q = 2 then 99 else if q = 3 then 5 else 50)
def readA (bs : List Int) : Int × RM := rdA bs bs.length 0 ρE
/-- a room while it is read -/
def okR0 (ρ : RM) : Prop := (∀ p, (rS ρ p = 0 ∨ rS ρ p = 1) ∧ 0 ≤ rC ρ p ∧ rC ρ p ≤ 99 ∧ 0 ≤ rL ρ p ∧ rL ρ p ≤ 5) ∧ (1 ≤ rP ρ 0 ∧ rP ρ 0 ≤ 200) ∧ (0 ≤ rP ρ 1 ∧ rP ρ 1 ≤ 50) ∧ (0 ≤ rP ρ 2 ∧ rP ρ 2 ≤ 99) ∧ (0 ≤ rP ρ 3 ∧ rP ρ 3 ≤ 50) ∧ (0 ≤ rP ρ 4 ∧ rP ρ 4 ≤ 99) ∧ cntB (S0 (rS ρ)) (rN ρ) ≤ 10 ∧ cntB (S1 (rS ρ)) (rN ρ) ≤ 10
theorem cnt_both {sd : Nat → Int} (h : ∀ p, sd p = 0 ∨ sd p = 1) : ∀ n, cntB (S0 sd) n + cntB (S1 sd) n = n
  | 0 => rfl
  | n + 1 => by
    have ih := cnt_both h n
    show (if S0 sd n = true then _ else _ : Nat) + (if S1 sd n = true then _ else _ : Nat) = n + 1
    rcases h n with q | q
    · rw [if_pos (by unfold S0; rw [q]; rfl), if_neg (by unfold S1; rw [q]; decide)]; omega
    · rw [if_neg (by unfold S0; rw [q]; decide), if_pos (by unfold S1; rw [q]; rfl)]; omega
theorem okR0_n {ρ : RM} (h : okR0 ρ) : rN ρ ≤ 20 := by
  have := cnt_both (sd := rS ρ) (fun p => (h.1 p).1) (rN ρ)
  have h1 := h.2.2.2.2.2.2
  omega
theorem cntB_same {S S' : Nat → Bool} : ∀ n, (∀ p, p < n → S p = S' p) → cntB S n = cntB S' n
  | 0, _ => rfl
  | n + 1, h => by
    show (if S n = true then cntB S n + 1 else cntB S n) = if S' n = true then cntB S' n + 1 else cntB S' n
    rw [h n (by omega), cntB_same n (fun p hp => h p (by omega))]
theorem flt_same {S S' : Nat → Bool} : ∀ n, (∀ p, p < n → S p = S' p) → flt S n = flt S' n
  | 0, _ => rfl
  | n + 1, h => by
    show (if S n = true then flt S n ++ [n] else flt S n) = if S' n = true then flt S' n ++ [n] else flt S' n
    rw [h n (by omega), flt_same n (fun p hp => h p (by omega))]
theorem push_S0 {ρ : RM} {s c w : Int} : cntB (S0 (rS (pushP ρ s c w))) (rN ρ + 1) = (if s = 0 then cntB (S0 (rS ρ)) (rN ρ) + 1 else cntB (S0 (rS ρ)) (rN ρ)) ∧ flt (S0 (rS (pushP ρ s c w))) (rN ρ + 1) = (if s = 0 then flt (S0 (rS ρ)) (rN ρ) ++ [rN ρ] else flt (S0 (rS ρ)) (rN ρ)) := by
  have e : ∀ p, p < rN ρ → S0 (rS (pushP ρ s c w)) p = S0 (rS ρ) p := fun p hp => by
    show decide ((if p = rN ρ then s else rS ρ p) = 0) = _; rw [if_neg (by omega)]; rfl
  have e2 : S0 (rS (pushP ρ s c w)) (rN ρ) = decide (s = 0) := by
    show decide ((if rN ρ = rN ρ then s else rS ρ (rN ρ)) = 0) = _; rw [if_pos rfl]
  constructor
  · show (if S0 (rS (pushP ρ s c w)) (rN ρ) = true then _ else _ : Nat) = _
    rw [e2, cntB_same _ e]
    simp only [decide_eq_true_eq]
  · show (if S0 (rS (pushP ρ s c w)) (rN ρ) = true then _ else _ : List Nat) = _
    rw [e2, flt_same _ e]
    simp only [decide_eq_true_eq]
theorem push_S1 {ρ : RM} {s c w : Int} : cntB (S1 (rS (pushP ρ s c w))) (rN ρ + 1) = (if s = 1 then cntB (S1 (rS ρ)) (rN ρ) + 1 else cntB (S1 (rS ρ)) (rN ρ)) ∧ flt (S1 (rS (pushP ρ s c w))) (rN ρ + 1) = (if s = 1 then flt (S1 (rS ρ)) (rN ρ) ++ [rN ρ] else flt (S1 (rS ρ)) (rN ρ)) := by
  have e : ∀ p, p < rN ρ → S1 (rS (pushP ρ s c w)) p = S1 (rS ρ) p := fun p hp => by
    show decide ((if p = rN ρ then s else rS ρ p) = 1) = _; rw [if_neg (by omega)]; rfl
  have e2 : S1 (rS (pushP ρ s c w)) (rN ρ) = decide (s = 1) := by
    show decide ((if rN ρ = rN ρ then s else rS ρ (rN ρ)) = 1) = _; rw [if_pos rfl]
  constructor
  · show (if S1 (rS (pushP ρ s c w)) (rN ρ) = true then _ else _ : Nat) = _
    rw [e2, cntB_same _ e]
    simp only [decide_eq_true_eq]
  · show (if S1 (rS (pushP ρ s c w)) (rN ρ) = true then _ else _ : List Nat) = _
    rw [e2, flt_same _ e]
    simp only [decide_eq_true_eq]
theorem okR0_push {ρ : RM} {s c w : Int} (h : okR0 ρ) (hs : s = 0 ∨ s = 1) (hc : 0 ≤ c) (hw : 0 ≤ w) (hm : mayP ρ s c w) : okR0 (pushP ρ s c w) := by
  obtain ⟨h1, h2, h3, h4, h5, h6, h7, h8⟩ := h
  obtain ⟨m1, m2, m3⟩ := hm
  refine ⟨fun p => ?_, h2, h3, h4, h5, h6, ?_, ?_⟩
  · obtain ⟨a, b, c', d, e⟩ := h1 p
    show ((if p = rN ρ then s else rS ρ p) = 0 ∨ (if p = rN ρ then s else rS ρ p) = 1) ∧ 0 ≤ (if p = rN ρ then c else rC ρ p) ∧ (if p = rN ρ then c else rC ρ p) ≤ 99 ∧ 0 ≤ (if p = rN ρ then w else rL ρ p) ∧ (if p = rN ρ then w else rL ρ p) ≤ 5
    by_cases q : p = rN ρ
    · simp only [if_pos q]; exact ⟨hs, hc, m2, hw, m3⟩
    · simp only [if_neg q]; exact ⟨a, b, c', d, e⟩
  · show cntB (S0 (rS (pushP ρ s c w))) (rN ρ + 1) ≤ 10
    rw [push_S0.1]
    unfold sideN at m1
    split
    · next q => rw [if_pos q] at m1; omega
    · exact h7
  · show cntB (S1 (rS (pushP ρ s c w))) (rN ρ + 1) ≤ 10
    rw [push_S1.1]
    unfold sideN at m1
    split
    · next q => rw [if_neg (by omega)] at m1; omega
    · exact h8
theorem okR0_num {ρ ρ' : RM} {x v : Int} (h : okR0 ρ) (hn : numP ρ x v = some ρ') : okR0 ρ' := by
  obtain ⟨h1, h2, h3, h4, h5, h6, h7, h8⟩ := h
  unfold numP at hn
  split at hn
  · split at hn
    · next q => injection hn with hn; subst hn; exact ⟨h1, q, h3, h4, h5, h6, h7, h8⟩
    · cases hn
  split at hn
  · split at hn
    · next q => injection hn with hn; subst hn; exact ⟨h1, h2, q, h4, h5, h6, h7, h8⟩
    · cases hn
  split at hn
  · split at hn
    · next q => injection hn with hn; subst hn; exact ⟨h1, h2, h3, q, h5, h6, h7, h8⟩
    · cases hn
  split at hn
  · split at hn
    · next q => injection hn with hn; subst hn; exact ⟨h1, h2, h3, h4, q, h6, h7, h8⟩
    · cases hn
  split at hn
  · split at hn
    · next q => injection hn with hn; subst hn; exact ⟨h1, h2, h3, h4, h5, q, h7, h8⟩
    · cases hn
  · cases hn
theorem two2_bd {bs : List Int} {k : Nat} {a : Int × Int × Nat} (h : two2 bs k = some a) : (0 ≤ a.1 ∧ a.1 ≤ 9999) ∧ (0 ≤ a.2.1 ∧ a.2.1 ≤ 9999) ∧ k < a.2.2 ∧ a.2.2 ≤ bs.length := by
  unfold two2 at h
  split at h
  · cases h
  · next b hb =>
    split at h
    · cases h
    · next c hc =>
      injection h with h
      subst h
      have h1 := fg_bd (by decide) hb
      have h2 := fg_bd (by decide) hc
      exact ⟨⟨h1.1, h1.2.1⟩, ⟨h2.1, h2.2.1⟩, by show k < c.2; omega, h2.2.2.2⟩
theorem item_ok {bs : List Int} {k : Nat} {ρ : RM} {a : RM × Nat} (h : okR0 ρ) (hi : item bs k ρ = some a) : okR0 a.1 ∧ k < a.2 ∧ a.2 ≤ bs.length := by
  have hP : ∀ s : Int, (s = 0 ∨ s = 1) → itP bs (k + 1) ρ s = some a → okR0 a.1 ∧ k < a.2 ∧ a.2 ≤ bs.length := by
    intro s hs hp
    unfold itP at hp
    split at hp
    · cases hp
    · next b hb =>
      obtain ⟨b1, b2, b3, b4⟩ := two2_bd hb
      unfold addP at hp
      split at hp
      · next hm =>
        injection hp with hp
        subst hp
        exact ⟨okR0_push h hs b1.1 b2.1 hm, by show k < b.2.2; omega, b4⟩
      · cases hp
  unfold item at hi
  split at hi
  · exact hP 0 (Or.inl rfl) hi
  split at hi
  · exact hP 1 (Or.inr rfl) hi
  · unfold itN at hi
    split at hi
    · cases hi
    · next b hb =>
      have hb' := fg_bd (by decide) hb
      cases e : numP ρ (bt bs k) b.1 with
      | none => rw [e] at hi; cases hi
      | some r =>
        rw [e] at hi
        injection hi with hi
        subst hi
        exact ⟨okR0_num h e, by show k < b.2; omega, hb'.2.2.2⟩
theorem okR0_E : okR0 ρE := ⟨fun _ => ⟨Or.inl rfl, Int.le_refl 0, (by decide : (0 : Int) ≤ 99), Int.le_refl 0, (by decide : (0 : Int) ≤ 5)⟩, by decide, by decide, by decide, by decide, by decide, by decide, by decide⟩
theorem rdA_ok {bs : List Int} : ∀ (f k : Nat) (ρ : RM), okR0 ρ → okR0 (rdA bs f k ρ).2 ∧ ((rdA bs f k ρ).1 = -4 ∨ 0 ≤ (rdA bs f k ρ).1 ∧ (rdA bs f k ρ).1 < bs.length)
  | 0, _, _, h => ⟨h, Or.inl rfl⟩
  | f + 1, k, ρ, h => by
    unfold rdA
    split
    · next hk =>
      cases e : item bs k ρ with
      | none => exact ⟨h, Or.inr ⟨by show 0 ≤ (k : Int); omega, by show (k : Int) < bs.length; omega⟩⟩
      | some a => exact rdA_ok f a.2 a.1 (item_ok h e).1
    · exact ⟨h, Or.inl rfl⟩
theorem okRM_of {ρ : RM} (h : okR0 ρ) (hb : cntB (S0 (rS ρ)) (rN ρ) ≠ 0) (hs : cntB (S1 (rS ρ)) (rN ρ) ≠ 0) : okRM ρ := by
  have hn := okR0_n h
  obtain ⟨h1, h2, h3, h4, h5, h6, h7, h8⟩ := h
  exact ⟨hn, h1, h2, h3, h4, h5, h6, ⟨by omega, h7⟩, ⟨by omega, h8⟩⟩
/-! the class's room, while it is read -/
def roomAt (N : Nat) (R : RR) (r : Nat) : Prop := (isO N r 6 ∧ isA N (r + 1) 2 20 ∧ isA N (r + 2) 1 20 ∧ isA N (r + 3) 1 20 ∧ isA N (r + 4) 1 10 ∧ isA N (r + 5) 1 10) ∧ R r 0 = r + 1 ∧ R r 1 = r + 2 ∧ R r 2 = r + 3 ∧ R r 3 = r + 4 ∧ R r 4 = r + 5
theorem roomAt_of {R : RR} {r : Nat} (hR : SR R) (hr : r = 6 ∨ r = 12) : roomAt 89 R r := by
  refine ⟨?_, roomR hR hr⟩
  rcases hr with rfl | rfl
  · exact ⟨o_6, a_7, a_8, a_9, a_10, a_11⟩
  · exact ⟨o_12, a_13, a_14, a_15, a_16, a_17⟩
theorem aX6_empty {N : Nat} {I : II} {R : RR} {r : Nat} (hN : N < 1000) (ho : isO N r 6) :
    Spec mX6_empty [vR r] I R N N (fun _ I' R' => R = R' ∧ frm [r] I I' ∧ XR I' R r ρE) := by
  refine sX6_empty hN (gX6_empty_0 ⟨ho, fun I2 q2 I3 q3 I4 q4 I5 q5 I6 q6 I7 q7 I8 q8 I9 q9 => ⟨rfl, ?_, ?_⟩⟩)
  · rw [q9, q8, q7, q6, q5, q4, q3, q2]
    exact frm_trans (frm_up (by simp)) (frm_trans (frm_up (by simp)) (frm_trans (frm_up (by simp)) (frm_trans (frm_up (by simp)) (frm_trans (frm_up (by simp)) (frm_trans (frm_up (by simp)) (frm_trans (frm_up (by simp)) (frm_up (by simp))))))))
  · subst q9; subst q8; subst q7; subst q6; subst q5; subst q4; subst q3; subst q2
    refine ⟨?_, ?_, ?_, ?_, ?_, ?_, ?_, ?_, fun p hp => absurd hp (Nat.not_lt_zero _), fun j p hj => ?_, fun j p hj => ?_⟩
    · rw [up2_nj (by decide), up2_nj (by decide), up2_nj (by decide), up2_nj (by decide), up2_nj (by decide), up2_nj (by decide), up2_nj (by decide), up2_self]; rfl
    · rw [up2_nj (by decide), up2_nj (by decide), up2_nj (by decide), up2_nj (by decide), up2_nj (by decide), up2_nj (by decide), up2_self]; rfl
    · rw [up2_nj (by decide), up2_nj (by decide), up2_nj (by decide), up2_nj (by decide), up2_nj (by decide), up2_self]; rfl
    · rw [up2_nj (by decide), up2_nj (by decide), up2_nj (by decide), up2_nj (by decide), up2_self]; rfl
    · rw [up2_nj (by decide), up2_nj (by decide), up2_nj (by decide), up2_self]; rfl
    · rw [up2_nj (by decide), up2_nj (by decide), up2_self]; rfl
    · rw [up2_nj (by decide), up2_self]; rfl
    · rw [up2_self]; rfl
    · have : (flt (S0 (rS ρE)) (rN ρE)) = [] := rfl
      rw [this] at hj; cases hj
    · have : (flt (S1 (rS ρE)) (rN ρE)) = [] := rfl
      rw [this] at hj; cases hj
set_option maxHeartbeats 1000000 in
theorem aX6_addPerson {N : Nat} {I : II} {R : RR} {r : Nat} {ρ : RM} {s c w : Int} (hN : N < 1000) (hA : roomAt N R r) (h : XR I R r ρ) (hok : okR0 ρ) (hs : s = 0 ∨ s = 1) (hc : 0 ≤ c ∧ c ≤ 9999) (hw : 0 ≤ w ∧ w ≤ 9999) :
    Spec mX6_addPerson [vR r, vI s, vI c, vI w] I R N N (fun rv I' R' => R = R' ∧ frm [r, r + 1, r + 2, r + 3, r + 4, r + 5] I I' ∧ (∀ ρ', addP ρ s c w = some ρ' → rv = vI 1 ∧ XR I' R r ρ') ∧ (addP ρ s c w = none → rv = vI 0)) := by
  obtain ⟨⟨o0, o1, o2, o3, o4, o5⟩, g0, g1, g2, g3, g4⟩ := hA
  have hn20 := okR0_n hok
  have hb := hok.2.2.2.2.2.2.1
  have hs10 := hok.2.2.2.2.2.2.2
  obtain ⟨h5, h6, h7, h8, h9, h10, h11, h12, hp, hbl, hsl⟩ := h
  have no : ¬ mayP ρ s c w → wp (kN N) mX6_addPerson (fun rv I' R' => R = R' ∧ frm [r, r + 1, r + 2, r + 3, r + 4, r + 5] I I' ∧ (∀ ρ', addP ρ s c w = some ρ' → rv = vI 1 ∧ XR I' R r ρ') ∧ (addP ρ s c w = none → rv = vI 0)) 43 [none, none, none, none, none] [] I R N := fun hn =>
    gX6_addPerson_43 ⟨rfl, frm_rfl, fun ρ' e => (by unfold addP at e; rw [if_neg hn] at e; cases e), fun _ => rfl⟩
  have yes : ∀ (J : II), mayP ρ s c w → frm [r, r + 4, r + 5] I J → (∀ j, j ≠ 6 → j ≠ 7 → J r j = I r j) → J r 6 = ((cntB (S0 (rS (pushP ρ s c w))) (rN ρ + 1) : Nat) : Int) → J r 7 = ((cntB (S1 (rS (pushP ρ s c w))) (rN ρ + 1) : Nat) : Int) → arrIs J (r + 4) (flt (S0 (rS (pushP ρ s c w))) (rN ρ + 1)) → arrIs J (r + 5) (flt (S1 (rS (pushP ρ s c w))) (rN ρ + 1)) →
      wp (kN N) mX6_addPerson (fun rv I' R' => R = R' ∧ frm [r, r + 1, r + 2, r + 3, r + 4, r + 5] I I' ∧ (∀ ρ', addP ρ s c w = some ρ' → rv = vI 1 ∧ XR I' R r ρ') ∧ (addP ρ s c w = none → rv = vI 0)) 98 [vR r, vI s, vI c, vI w, none] [] J R N := by
    intro J hm hf hk z6 z7 zb zs
    have z5 : J r 5 = rN ρ := (hk 5 (by decide) (by decide)).trans h5
    have hlt : rN ρ < 20 := by
      have := cnt_both (sd := rS ρ) (fun p => (hok.1 p).1) (rN ρ)
      have := hm.1
      unfold sideN at this
      split at this <;> omega
    refine gX6_addPerson_98 ?_
    rw [g0, g1, g2, z5, Int.toNat_natCast]
    refine ⟨o0, o1, ⟨by omega, by omega⟩, hs, fun I5 q5 => ?_⟩
    have y5 : I5 r 5 = rN ρ := by rw [q5, up2_ne (by omega), z5]
    rw [y5, Int.toNat_natCast]
    refine ⟨o2, ⟨by omega, by omega⟩, fun I8 q8 => ?_⟩
    have y8 : I8 r 5 = rN ρ := by rw [q8, up2_ne (by omega), y5]
    rw [y8, Int.toNat_natCast]
    refine ⟨o3, ⟨by omega, by omega⟩, fun I11 q11 I12 q12 => ?_⟩
    have y11 : I11 r 5 = rN ρ := by rw [q11, up2_ne (by omega), y8]
    have f12 : frm [r, r + 1, r + 2, r + 3] J I12 := by
      rw [q12, q11, q8, q5]; exact frm_trans (frm_up (by simp)) (frm_trans (frm_up (by simp)) (frm_trans (frm_up (by simp)) (frm_up (by simp))))
    have k12 : ∀ j, j ≠ 5 → I12 r j = J r j := fun j hj => by rw [q12, up2_nj hj, q11, up2_ne (by omega), q8, up2_ne (by omega), q5, up2_ne (by omega)]
    refine ⟨rfl, frm_trans (frm_sub hf (by simp)) (frm_sub f12 (by simp)), fun ρ' e => ⟨rfl, ?_⟩, fun e => (by unfold addP at e; rw [if_pos hm] at e; cases e)⟩
    unfold addP at e
    rw [if_pos hm] at e
    injection e with e
    subst e
    refine ⟨?_, ?_, ?_, ?_, ?_, ?_, ?_, ?_, fun p hpn => ?_, ?_, ?_⟩
    · rw [q12, up2_self, y11]; rfl
    · exact (k12 6 (by decide)).trans z6
    · exact (k12 7 (by decide)).trans z7
    · exact (k12 8 (by decide)).trans ((hk 8 (by decide) (by decide)).trans h8)
    · exact (k12 9 (by decide)).trans ((hk 9 (by decide) (by decide)).trans h9)
    · exact (k12 10 (by decide)).trans ((hk 10 (by decide) (by decide)).trans h10)
    · exact (k12 11 (by decide)).trans ((hk 11 (by decide) (by decide)).trans h11)
    · exact (k12 12 (by decide)).trans ((hk 12 (by decide) (by decide)).trans h12)
    · have jx : ∀ x, r < x → x < r + 4 → J x p = I x p := fun x a b => hf x (by simp only [List.mem_cons, List.not_mem_nil, or_false]; omega) p
      have hpn' : p < rN ρ + 1 := hpn
      rw [g0, g1, g2]
      rw [show I12 (r + 1) p = if p = rN ρ then s else J (r + 1) p by rw [q12, up2_ne (by omega), q11, up2_ne (by omega), q8, up2_ne (by omega), q5, up2_at]]
      rw [show I12 (r + 2) p = if p = rN ρ then c else J (r + 2) p by rw [q12, up2_ne (by omega), q11, up2_ne (by omega), q8, up2_at, q5, up2_ne (by omega)]]
      rw [show I12 (r + 3) p = if p = rN ρ then w else J (r + 3) p by rw [q12, up2_ne (by omega), q11, up2_at, q8, up2_ne (by omega), q5, up2_ne (by omega)]]
      show (if p = rN ρ then s else J (r + 1) p) = (if p = rN ρ then s else rS ρ p) ∧ (if p = rN ρ then c else J (r + 2) p) = (if p = rN ρ then c else rC ρ p) ∧ (if p = rN ρ then w else J (r + 3) p) = (if p = rN ρ then w else rL ρ p)
      by_cases q : p = rN ρ
      · simp only [if_pos q]; exact ⟨trivial, trivial, trivial⟩
      · simp only [if_neg q]
        obtain ⟨a, b, d⟩ := hp p (by omega)
        rw [g0] at a; rw [g1] at b; rw [g2] at d
        exact ⟨(jx _ (by omega) (by omega)).trans a, (jx _ (by omega) (by omega)).trans b, (jx _ (by omega) (by omega)).trans d⟩
    · rw [g3]; exact arrIs_same zb (f12 _ (by simp only [List.mem_cons, List.not_mem_nil, or_false]; omega))
    · rw [g4]; exact arrIs_same zs (f12 _ (by simp only [List.mem_cons, List.not_mem_nil, or_false]; omega))
  have flb := flt_len (S := S0 (rS ρ)) (rN ρ)
  have fls := flt_len (S := S1 (rS ρ)) (rN ρ)
  refine sX6_addPerson hN (gX6_addPerson_0 ?_)
  rw [h5, h6, h7, g3, g4]
  rw [g3] at hbl
  rw [g4] at hsl
  refine ⟨⟨by omega, by omega⟩, fun s0 => ?_, fun s0 => ?_⟩
  · subst s0
    refine ⟨o0, ⟨by omega, by omega⟩, fun q => no (fun x => by have := x.1; unfold sideN at this; rw [if_pos rfl] at this; omega), fun q => ⟨⟨by omega, by omega⟩, hN, fun q2 => ⟨⟨by omega, by omega⟩, fun q3 => ⟨fun _ => ⟨o4, ⟨by omega, by omega⟩, fun I11 q11 I12 q12 => ?_⟩, fun q => absurd rfl q⟩, fun q3 => no (fun x => q3 ⟨hw.1, x.2.2⟩)⟩, fun q2 => no (fun x => q2 ⟨hc.1, x.2.1⟩)⟩⟩
    rw [Int.toNat_natCast] at q11
    have hm : mayP ρ 0 c w := ⟨by unfold sideN; rw [if_pos rfl]; omega, q2.2, q3.2⟩
    have e6 : I12 r 6 = (cntB (S0 (rS ρ)) (rN ρ) : Int) + 1 := by rw [q12, up2_self, q11, up2_ne (by omega), h6]
    refine yes I12 hm (by rw [q12, q11]; exact frm_trans (frm_up (by simp)) (frm_up (by simp))) (fun j h6' _ => by rw [q12, up2_nj h6', q11, up2_ne (by omega)]) ?_ ?_ ?_ ?_
    · rw [e6, push_S0.1, if_pos rfl]; rfl
    · rw [q12, up2_nj (by decide), q11, up2_ne (by omega), h7, push_S1.1, if_neg (by decide)]
    · rw [push_S0.2, if_pos rfl]
      refine arrIs_app hbl (fun j => ?_)
      rw [q12, up2_ne (by omega), q11, up2_at, flb]
    · rw [push_S1.2, if_neg (by decide)]
      exact arrIs_same hsl (fun j => by rw [q12, up2_ne (by omega), q11, up2_ne (by omega)])
  · have s1 : s = 1 := by omega
    subst s1
    refine ⟨o0, ⟨by omega, by omega⟩, fun q => no (fun x => by have := x.1; unfold sideN at this; rw [if_neg (by decide)] at this; omega), fun q => ⟨⟨by omega, by omega⟩, hN, fun q2 => ⟨⟨by omega, by omega⟩, fun q3 => ⟨fun q => absurd q (by decide), fun _ => ⟨o5, ⟨by omega, by omega⟩, fun I11 q11 I12 q12 => ?_⟩⟩, fun q3 => no (fun x => q3 ⟨hw.1, x.2.2⟩)⟩, fun q2 => no (fun x => q2 ⟨hc.1, x.2.1⟩)⟩⟩
    rw [Int.toNat_natCast] at q11
    have hm : mayP ρ 1 c w := ⟨by unfold sideN; rw [if_neg (by decide)]; omega, q2.2, q3.2⟩
    have e7 : I12 r 7 = (cntB (S1 (rS ρ)) (rN ρ) : Int) + 1 := by rw [q12, up2_self, q11, up2_ne (by omega), h7]
    refine yes I12 hm (by rw [q12, q11]; exact frm_trans (frm_up (by simp)) (frm_up (by simp))) (fun j _ h7' => by rw [q12, up2_nj h7', q11, up2_ne (by omega)]) ?_ ?_ ?_ ?_
    · rw [q12, up2_nj (by decide), q11, up2_ne (by omega), h6, push_S0.1, if_neg (by decide)]
    · rw [e7, push_S1.1, if_pos rfl]; rfl
    · rw [push_S0.2, if_neg (by decide)]
      exact arrIs_same hbl (fun j => by rw [q12, up2_ne (by omega), q11, up2_ne (by omega)])
    · rw [push_S1.2, if_pos rfl]
      refine arrIs_app hsl (fun j => ?_)
      rw [q12, up2_ne (by omega), q11, up2_at, fls]
theorem XR_set {I : II} {R : RR} {r k : Nat} {ρ : RM} {v : Int} (hA : R r 0 = r + 1 ∧ R r 1 = r + 2 ∧ R r 2 = r + 3 ∧ R r 3 = r + 4 ∧ R r 4 = r + 5) (h : XR I R r ρ) (hk : k < 5) : XR (up2 I r (8 + k) v) R r (setP ρ k v) := by
  obtain ⟨g0, g1, g2, g3, g4⟩ := hA
  obtain ⟨h5, h6, h7, h8, h9, h10, h11, h12, hp, hbl, hsl⟩ := h
  have pv : ∀ q, q < 5 → I r (8 + q) = rP ρ q := fun q hq => by
    have : q = 0 ∨ q = 1 ∨ q = 2 ∨ q = 3 ∨ q = 4 := by omega
    rcases this with rfl | rfl | rfl | rfl | rfl <;> assumption
  have pq : ∀ q, q < 5 → up2 I r (8 + k) v r (8 + q) = rP (setP ρ k v) q := fun q hq => by
    show _ = if q = k then v else rP ρ q
    by_cases e : q = k
    · rw [if_pos e, e, up2_self]
    · rw [if_neg e, up2_nj (by omega), pv q hq]
  have nr : ∀ x, x ≠ r → ∀ j, up2 I r (8 + k) v x j = I x j := fun x hx j => up2_ne hx
  refine ⟨(up2_nj (by omega)).trans h5, (up2_nj (by omega)).trans h6, (up2_nj (by omega)).trans h7, pq 0 (by decide), pq 1 (by decide), pq 2 (by decide), pq 3 (by decide), pq 4 (by decide), fun p hpn => ?_, arrIs_same hbl (nr _ (by omega)), arrIs_same hsl (nr _ (by omega))⟩
  rw [nr _ (by omega), nr _ (by omega), nr _ (by omega)]
  exact hp p hpn
theorem aX6_set {N : Nat} {I : II} {R : RR} {r : Nat} {ρ : RM} {x v : Int} (hN : N < 1000) (hA : roomAt N R r) (h : XR I R r ρ) (hx : InI x) (hv : InI v) :
    Spec mX6_set [vR r, vI x, vI v] I R N N (fun rv I' R' => R = R' ∧ frm [r, r + 1, r + 2, r + 3, r + 4, r + 5] I I' ∧ (∀ ρ', numP ρ x v = some ρ' → rv = vI 1 ∧ XR I' R r ρ') ∧ (numP ρ x v = none → rv = vI 0)) := by
  have o0 := hA.1.1
  have st : ∀ (k : Nat) (J : II) (a b : Int), k < 5 → J = up2 I r (8 + k) v → numP ρ x v = (if a ≤ v ∧ v ≤ b then some (setP ρ k v) else none) →
      (a ≤ v ∧ v ≤ b → R = R ∧ frm [r, r + 1, r + 2, r + 3, r + 4, r + 5] I J ∧ (∀ ρ', numP ρ x v = some ρ' → vI 1 = vI 1 ∧ XR J R r ρ') ∧ (numP ρ x v = none → vI 1 = vI 0)) ∧
      (¬ (a ≤ v ∧ v ≤ b) → R = R ∧ frm [r, r + 1, r + 2, r + 3, r + 4, r + 5] I J ∧ (∀ ρ', numP ρ x v = some ρ' → vI 0 = vI 1 ∧ XR J R r ρ') ∧ (numP ρ x v = none → vI 0 = vI 0)) := by
    intro k J a b hk hJ hn
    have hf : frm [r, r + 1, r + 2, r + 3, r + 4, r + 5] I J := by rw [hJ]; exact frm_up (by simp)
    refine ⟨fun q => ⟨rfl, hf, fun ρ' e => ⟨rfl, ?_⟩, fun e => ?_⟩, fun q => ⟨rfl, hf, fun ρ' e => ?_, fun _ => rfl⟩⟩
    · rw [hn, if_pos q] at e
      injection e with e
      subst e
      rw [hJ]
      exact XR_set hA.2 h hk
    · rw [hn, if_pos q] at e; cases e
    · rw [hn, if_neg q] at e; cases e
  refine sX6_set hN (gX6_set_0 ⟨hx, fun q => ⟨o0, fun J e => ⟨hv, hN, st 4 J 0 99 (by decide) e ?_⟩⟩, fun q => ⟨o0, fun J e => ⟨hv, hN, st 2 J 0 99 (by decide) e ?_⟩⟩, fun q => ⟨o0, fun J e => ⟨hv, hN, st 0 J 1 200 (by decide) e ?_⟩⟩, fun q => ⟨o0, fun J e => ⟨hv, hN, st 1 J 0 50 (by decide) e ?_⟩⟩, fun q => ⟨o0, fun J e => ⟨hv, hN, st 3 J 0 50 (by decide) e ?_⟩⟩, fun q => ⟨rfl, frm_rfl, fun ρ' e => ?_, fun _ => rfl⟩⟩)
  · subst q; rfl
  · subst q; rfl
  · subst q; rfl
  · subst q; rfl
  · subst q; rfl
  · unfold numP at e
    rw [if_neg q.2.2.1, if_neg q.2.2.2.1, if_neg q.2.1, if_neg q.2.2.2.2, if_neg q.1] at e
    cases e
/-! the class reads THE TEXT -/
theorem xt_bt {I : II} {bs : List Int} {k : Nat} (h : XT I bs) (hk : k < bs.length) : I 3 k = bt bs k := by
  obtain ⟨b, hb⟩ : ∃ b, bs[k]? = some b := ⟨bs[k], List.getElem?_eq_getElem hk⟩
  rw [h.2.2 k b hb]; unfold bt; rw [hb]; rfl
theorem XT_frm {T : List Nat} {I I' : II} {bs : List Int} (h : XT I bs) (hf : frm T I I') (hT : ∀ x ∈ T, x ≠ 2 ∧ x ≠ 3) : XT I' bs :=
  ⟨(hf 2 (fun q => (hT 2 q).1 rfl) 1).trans h.1, h.2.1, fun j b hb => (hf 3 (fun q => (hT 3 q).2 rfl) j).trans (h.2.2 j b hb)⟩
abbrev sEnd (s : Nat × Int × Nat) (m : Nat) : Prop := (1 ≤ s.1 ∧ s.1 ≤ 3) ∧ m < 2
theorem sp15 {Q : QT} {R : RR} {bs : List Int} {m : Nat} (hR : SR R) (hb : okBs bs) (hm : m ≤ 2) : ∀ (r : Nat) (I : II) (k : Nat) (v : Int), r + 1 ≤ 4 → k ≤ bs.length → XT I bs → I 4 1 = m →
    (¬ (sEnd (scan bs (r + 1) k v) m ∧ (bt bs (scan bs (r + 1) k v).2.2 = 59 ∨ bt bs (scan bs (r + 1) k v).2.2 = 44)) → Q (vI 0) I R) →
    (sEnd (scan bs (r + 1) k v) m → bt bs (scan bs (r + 1) k v).2.2 = 59 → ∀ J, J = up2 (up2 (up2 I 5 m (scan bs (r + 1) k v).2.1) 4 1 ((m : Int) + 1)) 4 2 (((scan bs (r + 1) k v).2.2 + 1 : Nat) : Int) → Q (vI 1) J R) →
    (sEnd (scan bs (r + 1) k v) m → bt bs (scan bs (r + 1) k v).2.2 = 44 → ∀ J, J = up2 (up2 I 5 m (scan bs (r + 1) k v).2.1) 4 1 ((m : Int) + 1) → wp (kN 89) mX5_split Q 15 [vR 4, vR 2, none, vI 0, vI 0, vI (((scan bs (r + 1) k v).2.2 + 1 : Nat) : Int), none] [] J R 89) →
    wp (kN 89) mX5_split Q 15 [vR 4, vR 2, none, vI (3 - (r : Int)), vI v, vI (k : Int), none] [] I R 89 := by
  intro r
  -- no figure here
  have stop : ∀ (r : Nat) (I : II) (k : Nat) (v : Int), r + 1 ≤ 4 → XT I bs → I 4 1 = m → k < bs.length → ¬ isDg (bt bs k) →
      (¬ (sEnd (r + 1, v, k) m ∧ (bt bs k = 59 ∨ bt bs k = 44)) → Q (vI 0) I R) →
      (sEnd (r + 1, v, k) m → bt bs k = 59 → ∀ J, J = up2 (up2 (up2 I 5 m v) 4 1 ((m : Int) + 1)) 4 2 ((k + 1 : Nat) : Int) → Q (vI 1) J R) →
      (sEnd (r + 1, v, k) m → bt bs k = 44 → ∀ J, J = up2 (up2 I 5 m v) 4 1 ((m : Int) + 1) → wp (kN 89) mX5_split Q 15 [vR 4, vR 2, none, vI 0, vI 0, vI ((k + 1 : Nat) : Int), none] [] J R 89) →
      wp (kN 89) mX5_split Q 71 [vR 4, vR 2, none, vI (3 - (r : Int)), vI v, vI (k : Int), vI (bt bs k)] [] I R 89 := by
    intro r I k v hr h h1 hk hd k0 k59 k44
    have bb := bt_bd hb k
    have ek : (k : Int) + 1 = ((k + 1 : Nat) : Int) := by omega
    have e85 : (bt bs k = 59 ∨ bt bs k = 44) → wp (kN 89) mX5_split Q 85 [vR 4, vR 2, none, vI (3 - (r : Int)), vI v, vI (k : Int), vI (bt bs k)] [] I R 89 := by
      intro hor
      refine gX5_split_85 hR ?_
      rw [h1, Int.toNat_natCast]
      refine ⟨⟨by omega, by omega⟩, fun q => gX5_split_143 hR (k0 (fun x => by have := x.1.1.2; omega)), fun q => ⟨⟨by omega, by omega⟩, fun q2 => gX5_split_143 hR (k0 (fun x => by have := x.1.2; omega)), fun q2 => ⟨⟨by omega, by omega⟩, fun I4 q4 I5 q5 => ⟨⟨by omega, by omega⟩, fun q6 => ?_, fun q6 I7 q7 => ?_⟩⟩⟩⟩
      · have z : I4 4 1 = m := by rw [q4, up2_ne (by decide), h1]
        refine gX5_split_145 hR ?_
        rw [ek]
        exact k44 ⟨⟨by show 1 ≤ r + 1; omega, by show r + 1 ≤ 3; omega⟩, by omega⟩ (by rcases hor with x | x; exact absurd x q6; exact x) I5 (by rw [q5, z, q4])
      · have z : I4 4 1 = m := by rw [q4, up2_ne (by decide), h1]
        refine k59 ⟨⟨by show 1 ≤ r + 1; omega, by show r + 1 ≤ 3; omega⟩, by omega⟩ q6 I7 ?_
        rw [q7, q5, z, q4, ek]
    refine gX5_split_71 hR ⟨⟨by omega, by omega⟩, fun q => e85 (Or.inr q), fun q => ⟨fun q2 => gX5_split_143 hR (k0 (fun x => by rcases x.2 with y | y; exact q2 y; exact q y)), fun q2 => e85 (Or.inl q2)⟩⟩
  have step : ∀ (r : Nat) (I : II) (k : Nat) (v : Int), r + 1 ≤ 4 → k ≤ bs.length → XT I bs → I 4 1 = m →
      (isDg (bt bs k) → k < bs.length → (r = 0 → Q (vI 0) I R) ∧ (¬ r = 0 → wp (kN 89) mX5_split Q 15 [vR 4, vR 2, none, vI (3 - (r : Int) + 1), vI (10 * v + bt bs k - 48), vI ((k : Int) + 1), none] [] I R 89)) →
      (¬ isDg (bt bs k) → ¬ (sEnd (r + 1, v, k) m ∧ (bt bs k = 59 ∨ bt bs k = 44)) → Q (vI 0) I R) →
      (¬ isDg (bt bs k) → sEnd (r + 1, v, k) m → bt bs k = 59 → ∀ J, J = up2 (up2 (up2 I 5 m v) 4 1 ((m : Int) + 1)) 4 2 ((k + 1 : Nat) : Int) → Q (vI 1) J R) →
      (¬ isDg (bt bs k) → sEnd (r + 1, v, k) m → bt bs k = 44 → ∀ J, J = up2 (up2 I 5 m v) 4 1 ((m : Int) + 1) → wp (kN 89) mX5_split Q 15 [vR 4, vR 2, none, vI 0, vI 0, vI ((k + 1 : Nat) : Int), none] [] J R 89) →
      wp (kN 89) mX5_split Q 15 [vR 4, vR 2, none, vI (3 - (r : Int)), vI v, vI (k : Int), none] [] I R 89 := by
    intro r I k v hr hkl h h1 hdg k0 k59 k44
    have hl := h.2.1
    have bb := bt_bd hb k
    refine gX5_split_15 hR ?_
    rw [h.1, r_2_0 hR, Int.toNat_natCast]
    refine ⟨o_2, ⟨by omega, by omega⟩, ⟨by omega, by omega⟩, fun q => ?_, fun q => ?_⟩
    · have e0 : bt bs k = 0 := bt_end (by omega)
      exact k0 (by rw [e0]; decide) (fun x => by rcases x.2 with y | y <;> omega)
    · have hk : k < bs.length := by omega
      rw [xt_bt h hk]
      refine ⟨a_3, ⟨by omega, by omega⟩, ⟨by omega, by omega⟩, fun q1 => ?_, fun q1 => ⟨fun q2 => ?_, fun q2 => ⟨⟨by omega, by omega⟩, fun q3 => ?_, fun q3 => ?_⟩⟩⟩
      · have nd : ¬ isDg (bt bs k) := fun x => by omega
        exact stop r I k v hr h h1 hk nd (k0 nd) (k59 nd) (k44 nd)
      · have nd : ¬ isDg (bt bs k) := fun x => by omega
        exact stop r I k v hr h h1 hk nd (k0 nd) (k59 nd) (k44 nd)
      · refine gX5_split_71 hR ⟨⟨by omega, by omega⟩, fun q => absurd q (by omega), fun q => ⟨fun q2 => gX5_split_143 hR ((hdg ⟨by omega, by omega⟩ hk).1 (by omega)), fun q2 => absurd q2 (by omega)⟩⟩
      · exact gX5_split_145 hR ((hdg ⟨by omega, by omega⟩ hk).2 (by omega))
  induction r with
  | zero =>
    intro I k v hr hkl h h1 k0 k59 k44
    refine step 0 I k v hr hkl h h1 (fun hd hk => ⟨fun _ => k0 (fun x => ?_), fun q => absurd rfl q⟩) (fun nd => ?_) (fun nd => ?_) (fun nd => ?_)
    · rw [scan_yes hd] at x
      have := x.1.1.1
      exact absurd this (by show ¬ 1 ≤ 0; decide)
    · rw [scan_no nd] at k0; exact k0
    · rw [scan_no nd] at k59; exact k59
    · rw [scan_no nd] at k44; exact k44
  | succ r ih =>
    intro I k v hr hkl h h1 k0 k59 k44
    refine step (r + 1) I k v hr hkl h h1 (fun hd hk => ⟨fun q => absurd q (by omega), fun _ => ?_⟩) (fun nd => ?_) (fun nd => ?_) (fun nd => ?_)
    · rw [scan_yes hd] at k0 k59 k44
      rw [show 3 - ((r + 1 : Nat) : Int) + 1 = 3 - (r : Int) by omega, show (k : Int) + 1 = ((k + 1 : Nat) : Int) by omega]
      exact ih I (k + 1) (10 * v + bt bs k - 48) (by omega) (by omega) h h1 k0 k59 k44
    · rw [scan_no nd] at k0; exact k0
    · rw [scan_no nd] at k59; exact k59
    · rw [scan_no nd] at k44; exact k44
def splitQ (bs : List Int) (k : Nat) (rv : AV) (I' : II) : Prop :=
  (rv = vI 0 ∧ fg bs (k + 1) 59 = none ∧ two2 bs (k + 1) = none) ∨
  (rv = vI 1 ∧ ∃ a, fg bs (k + 1) 59 = some a ∧ two2 bs (k + 1) = none ∧ I' 4 1 = 1 ∧ I' 5 0 = a.1 ∧ I' 4 2 = (a.2 : Int)) ∨
  (rv = vI 1 ∧ ∃ a, two2 bs (k + 1) = some a ∧ fg bs (k + 1) 59 = none ∧ I' 4 1 = 2 ∧ I' 5 0 = a.1 ∧ I' 5 1 = a.2.1 ∧ I' 4 2 = (a.2.2 : Int))
theorem two2_none {bs : List Int} {k : Nat} (h : fg bs k 44 = none) : two2 bs k = none := by unfold two2; rw [h]
theorem two2_none2 {bs : List Int} {k : Nat} {a : Int × Nat} (h : fg bs k 44 = some a) (h2 : fg bs a.2 59 = none) : two2 bs k = none := by unfold two2; rw [h]; dsimp only; rw [h2]
theorem two2_some {bs : List Int} {k : Nat} {a b : Int × Nat} (h : fg bs k 44 = some a) (h2 : fg bs a.2 59 = some b) : two2 bs k = some (a.1, b.1, b.2) := by unfold two2; rw [h]; dsimp only; rw [h2]
theorem aX5_split {I : II} {R : RR} {bs : List Int} {k : Nat} (hR : SR R) (hb : okBs bs) (h : XT I bs) (hk : k < bs.length) :
    Spec mX5_split [vR 4, vR 2, vI k] I R 89 89 (fun rv I' R' => R = R' ∧ frm [4, 5] I I' ∧ splitQ bs k rv I') := by
  refine sX5_split (gX5_split_0 hR (fun I1 q1 => ?_))
  have f1 : frm [4, 5] I I1 := by rw [q1]; exact frm_up (by decide)
  have x1 := XT_frm h f1 (by decide)
  have z1 : I1 4 1 = ((0 : Nat) : Int) := by rw [q1, up2_self]; rfl
  rw [show (k : Int) + 1 = ((k + 1 : Nat) : Int) by omega]
  refine sp15 (m := 0) hR hb (by decide) 3 I1 (k + 1) 0 (by decide) (by omega) x1 z1 (fun q => ?_) (fun q q59 J hJ => ?_) (fun q q44 J hJ => ?_)
  · refine ⟨rfl, f1, Or.inl ⟨rfl, fg_no (fun y => q ⟨⟨y.1, by decide⟩, Or.inl y.2⟩), two2_none (fg_no (fun y => q ⟨⟨y.1, by decide⟩, Or.inr y.2⟩))⟩⟩
  · have e59 := fg_yes ⟨q.1, q59⟩
    refine ⟨rfl, frm_trans f1 (by rw [hJ]; exact frm_trans (frm_up (by decide)) (frm_trans (frm_up (by decide)) (frm_up (by decide)))), Or.inr (Or.inl ⟨rfl, _, e59, two2_none (fg_one e59 (by decide)), ?_, ?_, ?_⟩)⟩
    · rw [hJ, up2_nj (by decide), up2_self]; rfl
    · rw [hJ, up2_ne (by decide), up2_ne (by decide), up2_self]
    · rw [hJ, up2_self]
  · have e44 := fg_yes ⟨q.1, q44⟩
    have e59 : fg bs (k + 1) 59 = none := fg_one e44 (by decide)
    have hlt := bt_lt (bs := bs) (k := (scan bs (3 + 1) (k + 1) 0).2.2) (by rw [q44]; decide)
    have fJ : frm [4, 5] I1 J := by rw [hJ]; exact frm_trans (frm_up (by decide)) (frm_up (by decide))
    have xJ := XT_frm x1 fJ (by decide)
    have zJ : J 4 1 = ((1 : Nat) : Int) := by rw [hJ, up2_self]; rfl
    have vJ : J 5 0 = (scan bs (3 + 1) (k + 1) 0).2.1 := by rw [hJ, up2_ne (by decide), up2_self]
    have f01 := frm_trans f1 fJ
    refine sp15 (m := 1) hR hb (by decide) 3 J _ 0 (by decide) (by omega) xJ zJ (fun p => ?_) (fun p p59 J2 hJ2 => ?_) (fun p p44 J2 hJ2 => ?_)
    · exact ⟨rfl, f01, Or.inl ⟨rfl, e59, two2_none2 e44 (fg_no (fun y => p ⟨⟨y.1, by decide⟩, Or.inl y.2⟩))⟩⟩
    · refine ⟨rfl, frm_trans f01 (by rw [hJ2]; exact frm_trans (frm_up (by decide)) (frm_trans (frm_up (by decide)) (frm_up (by decide)))), Or.inr (Or.inr ⟨rfl, _, two2_some e44 (fg_yes ⟨p.1, p59⟩), e59, ?_, ?_, ?_, ?_⟩)⟩
      · rw [hJ2, up2_nj (by decide), up2_self]; rfl
      · rw [hJ2, up2_ne (by decide), up2_ne (by decide), up2_nj (by decide), vJ]
      · rw [hJ2, up2_ne (by decide), up2_ne (by decide), up2_self]
      · rw [hJ2, up2_self]
    · have p59 : fg bs ((scan bs (3 + 1) (k + 1) 0).2.2 + 1) 59 = none := fg_one (fg_yes ⟨p.1, p44⟩) (by decide)
      have hlt2 := bt_lt (bs := bs) (k := (scan bs (3 + 1) ((scan bs (3 + 1) (k + 1) 0).2.2 + 1) 0).2.2) (by rw [p44]; decide)
      have fJ2 : frm [4, 5] J J2 := by rw [hJ2]; exact frm_trans (frm_up (by decide)) (frm_up (by decide))
      have xJ2 := XT_frm xJ fJ2 (by decide)
      have zJ2 : J2 4 1 = ((2 : Nat) : Int) := by rw [hJ2, up2_self]; rfl
      refine sp15 (m := 2) hR hb (by decide) 3 J2 _ 0 (by decide) (by omega) xJ2 zJ2 (fun _ => ?_) (fun p => absurd p.2 (by decide)) (fun p => absurd p.2 (by decide))
      exact ⟨rfl, frm_trans f01 fJ2, Or.inl ⟨rfl, e59, two2_none2 e44 p59⟩⟩
theorem XR_frm2 {T : List Nat} {I I' : II} {R : RR} {r : Nat} {ρ : RM} (hA : roomAt 89 R r) (h : XR I R r ρ) (hf : frm T I I') (hd : ∀ x ∈ T, ¬ (r ≤ x ∧ x ≤ r + 5)) : XR I' R r ρ := by
  obtain ⟨e0, e1, e2, e3, e4⟩ := hA.2
  have g : ∀ x, r ≤ x → x ≤ r + 5 → ∀ j, I' x j = I x j := fun x h1 h2 => hf x (fun hx => hd x hx ⟨h1, h2⟩)
  obtain ⟨h5, h6, h7, h8, h9, h10, h11, h12, hp, hb, hs⟩ := h
  have gr := g r (by omega) (by omega)
  refine ⟨(gr 5).trans h5, (gr 6).trans h6, (gr 7).trans h7, (gr 8).trans h8, (gr 9).trans h9, (gr 10).trans h10, (gr 11).trans h11, (gr 12).trans h12, fun p hpn => ?_, ?_, ?_⟩
  · obtain ⟨x, y, z⟩ := hp p hpn
    rw [g (R r 0) (by omega) (by omega), g (R r 1) (by omega) (by omega), g (R r 2) (by omega) (by omega)]
    exact ⟨x, y, z⟩
  · exact arrIs_same hb (g _ (by omega) (by omega))
  · exact arrIs_same hs (g _ (by omega) (by omega))
def rT (r : Nat) : List Nat := [r, r + 1, r + 2, r + 3, r + 4, r + 5]
/-- what is taken of the numbers that were found -/
theorem aX5_take {I : II} {R : RR} {bs : List Int} {k r : Nat} {ρ : RM} (hR : SR R) (hr : r = 6 ∨ r = 12) (hb : okBs bs) (h : XR I R r ρ) (hok : okR0 ρ) (hs : splitQ bs k (vI 1) I) :
    Spec mX5_take [vR 4, vI (bt bs k), vR r] I R 89 89 (fun rv I' R' => R = R' ∧ frm (rT r) I I' ∧ (∀ a, item bs k ρ = some a → rv = vI 1 ∧ XR I' R r a.1 ∧ I 4 2 = (a.2 : Int)) ∧ (item bs k ρ = none → rv = vI 0)) := by
  have hA := roomAt_of hR hr
  have bb := bt_bd hb k
  have z41 : InI (I 4 1) := by
    rcases hs with ⟨e, _⟩ | ⟨_, a, _, _, e, _⟩ | ⟨_, a, _, _, e, _⟩
    · cases e
    · rw [e]; exact ⟨by decide, by decide⟩
    · rw [e]; exact ⟨by decide, by decide⟩
  have no54 : item bs k ρ = none → wp (kN 89) mX5_take (fun rv I' R' => R = R' ∧ frm (rT r) I I' ∧ (∀ a, item bs k ρ = some a → rv = vI 1 ∧ XR I' R r a.1 ∧ I 4 2 = (a.2 : Int)) ∧ (item bs k ρ = none → rv = vI 0)) 54 [none, none, none] [] I R 89 := fun hn => gX5_take_54 hR ⟨rfl, frm_rfl, fun a e => (by rw [hn] at e; cases e), fun _ => rfl⟩
  have p12 : ∀ s : Int, (s = 0 ∨ s = 1) → (bt bs k = 99 ↔ s = 1) → item bs k ρ = itP bs (k + 1) ρ s → wp (kN 89) mX5_take (fun rv I' R' => R = R' ∧ frm (rT r) I I' ∧ (∀ a, item bs k ρ = some a → rv = vI 1 ∧ XR I' R r a.1 ∧ I 4 2 = (a.2 : Int)) ∧ (item bs k ρ = none → rv = vI 0)) 12 [vR 4, vI (bt bs k), vR r] [] I R 89 := by
    intro s hs01 h99 hit
    refine gX5_take_12 hR ⟨z41, fun q2 => no54 ?_, fun q2 => ?_⟩
    · rcases hs with ⟨e, _⟩ | ⟨_, a, _, e, _⟩ | ⟨_, a, _, _, e, _⟩
      · cases e
      · rw [hit]; unfold itP; rw [e]
      · exact absurd e q2
    · have h2 : ∃ a, two2 bs (k + 1) = some a ∧ I 5 0 = a.1 ∧ I 5 1 = a.2.1 ∧ I 4 2 = (a.2.2 : Int) := by
        rcases hs with ⟨e, _⟩ | ⟨_, a, _, _, e, _⟩ | ⟨_, a, t, _, _, e⟩
        · cases e
        · rw [e] at q2; exact absurd q2 (by decide)
        · exact ⟨a, t, e⟩
      obtain ⟨a, t2, v0, v1, w2⟩ := h2
      obtain ⟨b1, b2, -, -⟩ := two2_bd t2
      have hit' : item bs k ρ = (addP ρ s a.1 a.2.1).map (fun x => (x, a.2.2)) := by rw [hit]; unfold itP; rw [t2]
      have fin : Spec mX6_addPerson [vR r, vI s, vI (I 5 0), vI (I 5 1)] I R 89 89 (fun rv I' R' => R = R' ∧ frm (rT r) I I' ∧ (∀ ρ', addP ρ s a.1 a.2.1 = some ρ' → rv = vI 1 ∧ XR I' R r ρ') ∧ (addP ρ s a.1 a.2.1 = none → rv = vI 0)) := by
        rw [v0, v1]
        exact aX6_addPerson (by decide) hA h hok hs01 b1 b2
      have aft : ∀ (x3 : Int) (I3 : II) (R3 : RR), (x3 = 0 ∨ x3 = 1) → (R = R3 ∧ frm (rT r) I I3 ∧ (∀ ρ', addP ρ s a.1 a.2.1 = some ρ' → vI x3 = vI 1 ∧ XR I3 R r ρ') ∧ (addP ρ s a.1 a.2.1 = none → vI x3 = vI 0)) →
          R = R3 ∧ InI x3 ∧ ((x3 = 0 → wp (kN 89) mX5_take (fun rv I' R' => R = R' ∧ frm (rT r) I I' ∧ (∀ a, item bs k ρ = some a → rv = vI 1 ∧ XR I' R r a.1 ∧ I 4 2 = (a.2 : Int)) ∧ (item bs k ρ = none → rv = vI 0)) 54 [none, none, none] [] I3 R 89) ∧ (¬ (x3 = 0) → R = R ∧ frm (rT r) I I3 ∧ (∀ a, item bs k ρ = some a → vI 1 = vI 1 ∧ XR I3 R r a.1 ∧ I 4 2 = (a.2 : Int)) ∧ (item bs k ρ = none → vI 1 = vI 0))) := by
        intro x3 I3 R3 h01 q3
        obtain ⟨rfl, f3, y3, n3⟩ := q3
        cases e : addP ρ s a.1 a.2.1 with
        | none =>
          have e3 := n3 e
          have e0 : x3 = 0 := by injection e3 with e3; injection e3
          rw [e] at hit'
          refine ⟨rfl, ⟨by omega, by omega⟩, fun _ => gX5_take_54 hR ⟨rfl, f3, fun a' e' => (by rw [hit'] at e'; cases e'), fun _ => rfl⟩, fun q => absurd e0 q⟩
        | some ρ' =>
          obtain ⟨e3, x3'⟩ := y3 ρ' e
          have e0 : x3 = 1 := by injection e3 with e3; injection e3
          rw [e] at hit'
          refine ⟨rfl, ⟨by omega, by omega⟩, fun q => absurd q (by omega), fun _ => ⟨rfl, f3, fun a' e' => ?_, fun e' => by rw [hit'] at e'; cases e'⟩⟩
          rw [hit'] at e'
          injection e' with e'
          subst e'
          exact ⟨rfl, x3', w2⟩
      refine ⟨⟨by omega, by omega⟩, fun q => ?_, fun q => ?_⟩
      · have s0 : s = 0 := by rcases hs01 with x | x; exact x; exact absurd (h99.mpr x) q
        subst s0
        exact ⟨hA.1.1, _, fin, aft⟩
      · have s1 : s = 1 := h99.mp q
        subst s1
        exact ⟨hA.1.1, _, fin, aft⟩
  refine sX5_take (gX5_take_0 hR ⟨⟨by omega, by omega⟩, fun q => p12 0 (Or.inl rfl) ⟨fun x => by omega, fun x => absurd x (by decide)⟩ (by unfold item; rw [if_pos q]), fun q => ⟨fun q2 => ⟨z41, fun q3 => ?_, fun q3 => ?_⟩, fun q2 => p12 1 (Or.inr rfl) ⟨fun _ => rfl, fun _ => q2⟩ (by unfold item; rw [if_neg q, if_pos q2])⟩⟩)
  · have hit : item bs k ρ = itN bs (k + 1) ρ (bt bs k) := by unfold item; rw [if_neg q, if_neg q2]
    refine gX5_take_82 hR ⟨rfl, frm_rfl, fun a e => ?_, fun _ => rfl⟩
    rcases hs with ⟨e', _⟩ | ⟨_, a, _, _, e', _⟩ | ⟨_, a, _, e', _⟩
    · cases e'
    · exact absurd e' q3
    · rw [hit] at e; unfold itN at e; rw [e'] at e; cases e
  · have hit : item bs k ρ = itN bs (k + 1) ρ (bt bs k) := by unfold item; rw [if_neg q, if_neg q2]
    have h1 : ∃ a, fg bs (k + 1) 59 = some a ∧ I 5 0 = a.1 ∧ I 4 2 = (a.2 : Int) := by
      rcases hs with ⟨e, _⟩ | ⟨_, a, t, _, _, e⟩ | ⟨_, a, _, _, e, _⟩
      · cases e
      · exact ⟨a, t, e⟩
      · rw [e] at q3; exact absurd q3 (by decide)
    obtain ⟨a, t1, v0, w2⟩ := h1
    have b1 := fg_bd (by decide) t1
    have hit' : item bs k ρ = (numP ρ (bt bs k) a.1).map (fun x => (x, a.2)) := by rw [hit]; unfold itN; rw [t1]
    rw [v0]
    refine ⟨hA.1.1, _, aX6_set (by decide) hA h ⟨by omega, by omega⟩ ⟨by omega, by omega⟩, fun x3 I3 R3 h01 q3 => ?_⟩
    obtain ⟨rfl, f3, y3, n3⟩ := q3
    cases e : numP ρ (bt bs k) a.1 with
    | none =>
      have e3 := n3 e
      have e0 : x3 = 0 := by injection e3 with e3; injection e3
      rw [e] at hit'
      exact ⟨rfl, ⟨by omega, by omega⟩, fun _ => gX5_take_82 hR ⟨rfl, f3, fun a' e' => (by rw [hit'] at e'; cases e'), fun _ => rfl⟩, fun q => absurd e0 q⟩
    | some ρ' =>
      obtain ⟨e3, x3'⟩ := y3 ρ' e
      have e0 : x3 = 1 := by injection e3 with e3; injection e3
      rw [e] at hit'
      refine ⟨rfl, ⟨by omega, by omega⟩, fun q => absurd q (by omega), fun _ => ⟨rfl, f3, fun a' e' => ?_, fun e' => by rw [hit'] at e'; cases e'⟩⟩
      rw [hit'] at e'
      injection e' with e'
      subst e'
      exact ⟨rfl, x3', w2⟩
theorem splitQ_same {bs : List Int} {k : Nat} {rv : AV} {I I' : II} (h : splitQ bs k rv I) (e : ∀ x, x = 4 ∨ x = 5 → ∀ j, I' x j = I x j) : splitQ bs k rv I' := by
  unfold splitQ
  rw [e 4 (Or.inl rfl), e 4 (Or.inl rfl), e 5 (Or.inr rfl), e 5 (Or.inr rfl)]
  exact h
theorem rd9 {R : RR} {bs : List Int} {r : Nat} (hR : SR R) (hr : r = 6 ∨ r = 12) (hb : okBs bs) : ∀ (f : Nat) (I : II) (k n : Nat) (ρ : RM), bs.length ≤ k + f → n ≤ k → k ≤ bs.length → XT I bs → XR I R r ρ → okR0 ρ →
    wp (kN 89) mX5_read (fun rv I' R' => R = R' ∧ frm ([4, 5] ++ rT r) I I' ∧ rv = vI (rdA bs f k ρ).1 ∧ ((rdA bs f k ρ).1 = -4 → XR I' R r (rdA bs f k ρ).2)) 9 [vR 4, vR 2, vR r, vI (k : Int), vI (n : Int)] [] I R 89 := by
  intro f
  induction f with
  | zero =>
    intro I k n ρ hf hn hk h hx hok
    have hl := h.2.1
    have done : wp (kN 89) mX5_read (fun rv I' R' => R = R' ∧ frm ([4, 5] ++ rT r) I I' ∧ rv = vI (rdA bs 0 k ρ).1 ∧ ((rdA bs 0 k ρ).1 = -4 → XR I' R r (rdA bs 0 k ρ).2)) 61 [none, none, none, none, none] [] I R 89 := gX5_read_61 hR ⟨rfl, frm_rfl, rfl, fun _ => hx⟩
    refine gX5_read_9 hR ?_
    rw [h.1]
    exact ⟨⟨by omega, by omega⟩, fun _ => done, fun _ => ⟨o_2, ⟨by omega, by omega⟩, ⟨by omega, by omega⟩, fun _ => done, fun q => absurd q (by omega)⟩⟩
  | succ f ih =>
    intro I k n ρ hf hn hk h hx hok
    have hl := h.2.1
    have hA := roomAt_of hR hr
    by_cases hkl : k < bs.length
    · have hrd : rdA bs (f + 1) k ρ = match item bs k ρ with
        | none => ((k : Int), ρ)
        | some a => rdA bs f a.2 a.1 := by
        show (if k < bs.length then _ else _) = _
        rw [if_pos hkl]
      refine gX5_read_9 hR ?_
      rw [h.1, r_2_0 hR, Int.toNat_natCast]
      refine ⟨⟨by omega, by omega⟩, fun q => absurd q (by omega), fun _ => ⟨o_2, ⟨by omega, by omega⟩, ⟨by omega, by omega⟩, fun q => absurd q (by omega), fun _ => ⟨_, aX5_split hR hb h hkl, fun x5 I5 R5 h01 q5 => ?_⟩⟩⟩
      obtain ⟨rfl, f5, s5⟩ := q5
      have x5' : XT I5 bs := XT_frm h f5 (by decide)
      have r5 : XR I5 R r ρ := XR_frm2 hA hx f5 (fun x hx => by simp only [List.mem_cons, List.not_mem_nil, or_false] at hx; omega)
      have f5' : frm ([4, 5] ++ rT r) I I5 := frm_sub f5 (fun x hx => List.mem_append.mpr (Or.inl hx))
      have bad : ∀ (J : II), frm ([4, 5] ++ rT r) I J → item bs k ρ = none → wp (kN 89) mX5_read (fun rv I' R' => R = R' ∧ frm ([4, 5] ++ rT r) I I' ∧ rv = vI (rdA bs (f + 1) k ρ).1 ∧ ((rdA bs (f + 1) k ρ).1 = -4 → XR I' R r (rdA bs (f + 1) k ρ).2)) 48 [none, none, none, vI (k : Int), none] [] J R 89 := by
        intro J hJ hn
        rw [hn] at hrd
        refine gX5_read_48 hR ⟨rfl, hJ, by rw [hrd], fun e => ?_⟩
        rw [hrd] at e
        have : (k : Int) = -4 := e
        omega
      rw [xt_bt x5' hkl]
      rcases h01 with e0 | e1
      · subst e0
        refine ⟨rfl, ⟨by decide, by decide⟩, fun _ => bad I5 f5' ?_, fun q => absurd rfl q⟩
        rcases s5 with ⟨_, e1, e2⟩ | ⟨e, _⟩ | ⟨e, _⟩
        · exact item_no e1 e2
        · injection e with e; injection e with e; exact absurd e (by decide)
        · injection e with e; injection e with e; exact absurd e (by decide)
      · subst e1
        refine ⟨rfl, ⟨by decide, by decide⟩, fun q => absurd q (by decide), fun _ => ⟨a_3, ⟨by omega, by omega⟩, _, aX5_take hR hr hb r5 hok s5, fun x9 I9 R9 h01 q9 => ?_⟩⟩
        obtain ⟨rfl, f9, y9, n9⟩ := q9
        have f9' : frm ([4, 5] ++ rT r) I I9 := frm_trans f5' (frm_sub f9 (fun x hx => List.mem_append.mpr (Or.inr hx)))
        cases e : item bs k ρ with
        | none =>
          have e3 := n9 e
          have e0 : x9 = 0 := by injection e3 with e3; injection e3
          exact ⟨rfl, ⟨by omega, by omega⟩, fun q => absurd e0 q, fun _ => bad I9 f9' e⟩
        | some a =>
          obtain ⟨e3, x9', w9⟩ := y9 a e
          have e0 : x9 = 1 := by injection e3 with e3; injection e3
          obtain ⟨i1, i2, i3⟩ := item_ok hok e
          rw [e] at hrd
          have hrd' : rdA bs (f + 1) k ρ = rdA bs f a.2 a.1 := hrd
          refine ⟨rfl, ⟨by omega, by omega⟩, fun _ => ?_, fun q => absurd q (by omega)⟩
          have t9 : I9 4 2 = (a.2 : Int) := by rw [f9 4 (by unfold rT; simp only [List.mem_cons, List.not_mem_nil, or_false]; omega), w9]
          rw [t9, show (n : Int) + 1 = ((n + 1 : Nat) : Int) by omega, hrd']
          refine wp.mono (ih I9 a.2 (n + 1) a.1 (by omega) (by omega) i3 (XT_frm x5' f9 (fun x hx => by unfold rT at hx; simp only [List.mem_cons, List.not_mem_nil, or_false] at hx; omega)) x9' i1) (fun rv I' R' q => ?_)
          obtain ⟨e1, e2, e3⟩ := q
          exact ⟨e1, frm_trans f9' e2, e3⟩
    · have hrd : rdA bs (f + 1) k ρ = (-4, ρ) := by
        show (if k < bs.length then _ else _) = _
        rw [if_neg hkl]
      have done : wp (kN 89) mX5_read (fun rv I' R' => R = R' ∧ frm ([4, 5] ++ rT r) I I' ∧ rv = vI (rdA bs (f + 1) k ρ).1 ∧ ((rdA bs (f + 1) k ρ).1 = -4 → XR I' R r (rdA bs (f + 1) k ρ).2)) 61 [none, none, none, none, none] [] I R 89 := gX5_read_61 hR ⟨rfl, frm_rfl, by rw [hrd], fun _ => by rw [hrd]; exact hx⟩
      refine gX5_read_9 hR ?_
      rw [h.1]
      exact ⟨⟨by omega, by omega⟩, fun _ => done, fun _ => ⟨o_2, ⟨by omega, by omega⟩, ⟨by omega, by omega⟩, fun _ => done, fun q => absurd q (by omega)⟩⟩
theorem aX5_read {I : II} {R : RR} {bs : List Int} {r : Nat} (hR : SR R) (hr : r = 6 ∨ r = 12) (hb : okBs bs) (h : XT I bs) :
    Spec mX5_read [vR 4, vR 2, vR r] I R 89 89 (fun rv I' R' => R = R' ∧ frm ([4, 5] ++ rT r) I I' ∧ rv = vI (readA bs).1 ∧ ((readA bs).1 = -4 → XR I' R r (readA bs).2)) := by
  have hA := roomAt_of hR hr
  refine sX5_read (gX5_read_0 hR ⟨hA.1.1, _, aX6_empty (by decide) hA.1.1, fun I1 R1 q1 => ?_⟩)
  obtain ⟨rfl, f1, x1⟩ := q1
  refine ⟨rfl, ?_⟩
  have f1' : frm ([4, 5] ++ rT r) I I1 := frm_sub f1 (fun x hx => List.mem_append.mpr (Or.inr (by rw [List.mem_singleton] at hx; rw [hx]; exact List.mem_cons_self ..)))
  have := rd9 (r := r) hR hr hb bs.length I1 0 0 ρE (by omega) (Nat.le_refl _) (Nat.zero_le _) (XT_frm h f1 (fun x hx => by rw [List.mem_singleton] at hx; omega)) x1 okR0_E
  refine wp.mono this (fun rv I' R' q => ?_)
  obtain ⟨e1, e2, e3⟩ := q
  exact ⟨e1, frm_trans f1' e2, e3⟩
theorem aX10_fault {I : II} {R : RR} {bs : List Int} (hR : SR R) (hr : R 1 3 = 6 ∨ R 1 3 = 12) (hb : okBs bs) (h : XT I bs) :
    Spec mX10_fault [vR 1] I R 89 89 (fun rv I' R' => R = R' ∧ frm ([4, 5] ++ rT (R 1 3)) I I' ∧ rv = vI (readA bs).1) := by
  refine sX10_fault (gX10_fault_0 hR ⟨_, aX5_read hR hr hb h, fun x1 I1 R1 q1 => ?_⟩)
  obtain ⟨rfl, f1, e1, -⟩ := q1
  exact ⟨rfl, rfl, f1, e1⟩
abbrev isLaid (bs : List Int) : Prop := (readA bs).1 = -4 ∧ cntB (S0 (rS (readA bs).2)) (rN (readA bs).2) ≠ 0 ∧ cntB (S1 (rS (readA bs).2)) (rN (readA bs).2) ≠ 0
def layRM (ρ : RM) (bs : List Int) : RM := if isLaid bs then (readA bs).2 else ρ
def layLg (l : List LE) (bs : List Int) : List LE := if isLaid bs then [] else l
def layKp (kp : List KE) (bs : List Int) : List KE := if isLaid bs then [] else kp
def layP (bs : List Int) : Int := if isLaid bs then rN (readA bs).2 else -2
theorem readA_ok (bs : List Int) : okR0 (readA bs).2 ∧ ((readA bs).1 = -4 ∨ 0 ≤ (readA bs).1 ∧ (readA bs).1 < bs.length) := rdA_ok bs.length 0 ρE okR0_E
theorem layRM_ok {ρ : RM} {bs : List Int} (h : okRM ρ) : okRM (layRM ρ bs) := by
  unfold layRM
  split
  · next q => exact okRM_of (readA_ok bs).1 q.2.1 q.2.2
  · exact h
theorem XR_R {I : II} {R R' : RR} {r : Nat} {ρ : RM} (h : XR I R r ρ) (e : ∀ k, R' r k = R r k) : XR I R' r ρ := by
  unfold XR
  rw [e 0, e 1, e 2, e 3, e 4]
  exact h
def roomsAt (R : RR) : Prop := (R 1 2 = 6 ∧ R 1 3 = 12) ∨ (R 1 2 = 12 ∧ R 1 3 = 6)
theorem aX10_lay {I : II} {R : RR} {ρ : RM} {bs : List Int} {l : List LE} {kp : List KE} (hR : SR R) (hr : roomsAt R) (hb : okBs bs) (h : XT I bs) (hx : XR I R (R 1 2) ρ) (hl : XLg I R 18 l) (hk : I 1 6 = (kp.length : Int)) :
    Spec mX10_lay [vR 1] I R 89 89 (fun rv I' R' => SR R' ∧ roomsAt R' ∧ (∀ i k, i ≠ 1 → R' i k = R i k) ∧ frm ([1, 4, 5, 18] ++ rT (R 1 3)) I I' ∧ XR I' R' (R' 1 2) (layRM ρ bs) ∧ XLg I' R' 18 (layLg l bs) ∧ I' 1 6 = ((layKp kp bs).length : Int) ∧ (¬ isLaid bs → I' 1 6 = I 1 6) ∧ rv = vI (layP bs)) := by
  have hr3 : R 1 3 = 6 ∨ R 1 3 = 12 := by rcases hr with q | q <;> omega
  have hr2 : R 1 2 = 6 ∨ R 1 2 = 12 := by rcases hr with q | q <;> omega
  have hA3 := roomAt_of hR hr3
  have hA2 := roomAt_of hR hr2
  have hro := readA_ok bs
  refine sX10_lay (gX10_lay_0 hR ⟨_, aX5_read hR hr3 hb h, fun x1 I1 R1 q1 => ?_⟩)
  obtain ⟨rfl, f1, e1, x1'⟩ := q1
  injection e1 with e1
  injection e1 with e1
  have f1' : frm ([1, 4, 5, 18] ++ rT (R 1 3)) I I1 := frm_sub f1 (fun x hx => by
    rcases List.mem_append.mp hx with q | q
    · exact List.mem_append.mpr (Or.inl (by simp only [List.mem_cons, List.not_mem_nil, or_false] at q ⊢; omega))
    · exact List.mem_append.mpr (Or.inr q))
  have n1 : ∀ x, x ≠ 4 → x ≠ 5 → ¬ (R 1 3 ≤ x ∧ x ≤ R 1 3 + 5) → ∀ j, I1 x j = I x j := fun x a b c j => f1 x (fun q => by
    unfold rT at q
    simp only [List.cons_append, List.nil_append, List.mem_cons, List.not_mem_nil, or_false] at q
    omega) j
  have l1 : XLg I1 R 18 l := XLgA_frm (log18 hR) hl f1 (fun x hx => by
    unfold rT at hx
    simp only [List.cons_append, List.nil_append, List.mem_cons, List.not_mem_nil, or_false] at hx
    omega)
  have bad : ¬ isLaid bs → wp (kN 89) mX10_lay (fun rv I' R' => SR R' ∧ roomsAt R' ∧ (∀ i k, i ≠ 1 → R' i k = R i k) ∧ frm ([1, 4, 5, 18] ++ rT (R 1 3)) I I' ∧ XR I' R' (R' 1 2) (layRM ρ bs) ∧ XLg I' R' 18 (layLg l bs) ∧ I' 1 6 = ((layKp kp bs).length : Int) ∧ (¬ isLaid bs → I' 1 6 = I 1 6) ∧ rv = vI (layP bs)) 40 [none, none] [] I1 R 89 := by
    intro hn
    have e6 := n1 1 (by decide) (by decide) (by omega) 6
    refine gX10_lay_40 hR ⟨hR, hr, fun _ _ _ => rfl, f1', ?_, ?_, ?_, fun _ => e6, ?_⟩
    · unfold layRM; rw [if_neg hn]
      exact XR_frm2 hA2 hx f1 (fun x hx => by
        unfold rT at hx
        simp only [List.cons_append, List.nil_append, List.mem_cons, List.not_mem_nil, or_false] at hx
        rcases hr with q | q <;> omega)
    · unfold layLg; rw [if_neg hn]; exact l1
    · unfold layKp; rw [if_neg hn, e6, hk]
    · unfold layP; rw [if_neg hn]
  refine ⟨rfl, by rw [e1]; rcases hro.2 with q | q <;> exact ⟨by have := h.2.1; omega, by have := h.2.1; omega⟩, fun q => bad (fun x => q (e1.trans x.1)), fun q => ?_⟩
  have xr := x1' (e1.symm.trans q)
  have c6 := xr.2.1
  have c7 := xr.2.2.1
  have c5 := xr.1
  have hb10 := hro.1.2.2.2.2.2.2
  rw [c6, c7]
  refine ⟨hA3.1.1, ⟨by omega, by omega⟩, fun q2 => bad (fun x => x.2.1 (by omega)), fun q2 => ⟨⟨by omega, by omega⟩, fun q3 => ⟨by omega, fun R7 q7 R8 q8 I9 q9 I10 q10 => ?_⟩, fun q3 => bad (fun x => x.2.2 (by omega))⟩⟩
  have hy : isLaid bs := ⟨e1.symm.trans q, by omega, by omega⟩
  have hR7 := SR_u3 hR q7
  have hR8 := SR_u2 hR7 q8
  have e12 : R8 1 2 = R 1 3 := by rw [q8, up2_self]
  have e13 : R8 1 3 = R 1 2 := by rw [q8, up2_nj (by decide), q7, up2_self]
  have e8 : ∀ i k, i ≠ 1 → R8 i k = R i k := fun i k hi => by rw [q8, up2_ne hi, q7, up2_ne hi]
  have f10 : frm [1, 18] I1 I10 := by rw [q10, q9]; exact frm_trans (frm_up (by decide)) (frm_up (by decide))
  rw [e12]
  refine ⟨hA3.1.1, hR8, by unfold roomsAt; rw [e12, e13]; rcases hr with x | x; exact Or.inr ⟨x.2, x.1⟩; exact Or.inl ⟨x.2, x.1⟩, e8, frm_trans f1' (frm_sub f10 (fun x hx => by
    refine List.mem_append.mpr (Or.inl ?_)
    simp only [List.mem_cons, List.not_mem_nil, or_false] at hx ⊢
    omega)), ?_, ?_, ?_, fun x => absurd hy x, ?_⟩
  · unfold layRM; rw [if_pos hy]
    refine XR_R (XR_frm2 hA3 xr f10 (fun x hx => ?_)) (fun k => e8 _ _ (by omega))
    simp only [List.mem_cons, List.not_mem_nil, or_false] at hx
    omega
  · unfold layLg; rw [if_pos hy]
    refine ⟨by rw [q10, up2_ne (by decide), q9, up2_self]; rfl, by decide, fun i e he => by simp at he⟩
  · unfold layKp; rw [if_pos hy, q10, up2_self]; rfl
  · rw [f10 (R 1 3) (by simp only [List.mem_cons, List.not_mem_nil, or_false]; omega) 5, c5]
    unfold layP; rw [if_pos hy]
