/-! what a line holds -/
def frm (T : List Nat) (I I' : II) : Prop := ∀ i, i ∉ T → ∀ j, I' i j = I i j
theorem frm_rfl {T : List Nat} {I : II} : frm T I I := fun _ _ _ => rfl
theorem frm_trans {T : List Nat} {I I1 I2 : II} (a : frm T I I1) (b : frm T I1 I2) : frm T I I2 := fun i h j => (b i h j).trans (a i h j)
theorem frm_up {T : List Nat} {I : II} {r k : Nat} {x : Int} (h : r ∈ T) : frm T I (up2 I r k x) := fun i hi j => up2_ne (fun e => hi (e ▸ h))
theorem frm_sub {T T' : List Nat} {I I' : II} (a : frm T I I') (h : ∀ i ∈ T, i ∈ T') : frm T' I I' := fun i hi j => a i (fun q => hi (h i q)) j
/-- the place n is a line, R n 1 holds whose, R n 2 the cards -/
def LN (N : Nat) (R : RR) (n : Nat) : Prop := isO N n 2 ∧ isA N (R n 1) 1 10 ∧ isA N (R n 2) 1 10 ∧ R n 1 ≠ R n 2 ∧ n ≠ R n 1 ∧ n ≠ R n 2
def lineIs (I : II) (R : RR) (n : Nat) (ps : List Nat) (v : Nat → Int) : Prop := I n 3 = ps.length ∧ ∀ (j p : Nat), ps[j]? = some p → I (R n 1) j = (p : Int) ∧ I (R n 2) j = v p
def lineT (R : RR) (n : Nat) : List Nat := [n, R n 1, R n 2]
def kf (rs : Int) (v : Nat → Int) (q : Nat) : Int := if rs = 0 then - v q else v q
def insK (key : Nat → Int) (p : Nat) : List Nat → List Nat
  | [] => [p]
  | q :: t => if key q ≤ key p then q :: insK key p t else p :: q :: t
def srt (key : Nat → Int) (ps : List Nat) : Prop := ps.Pairwise (fun a b => key a ≤ key b)
theorem insK_at {key : Nat → Int} {p : Nat} : ∀ {A B : List Nat}, (∀ a ∈ A, key a ≤ key p) → (∀ b ∈ B, key p < key b) → insK key p (A ++ B) = A ++ p :: B
  | [], [], _, _ => rfl
  | [], b :: B, _, h => by
    have := h b List.mem_cons_self
    show (if key b ≤ key p then _ else _) = _
    rw [if_neg (by omega)]; rfl
  | a :: A, B, h1, h2 => by
    have := h1 a List.mem_cons_self
    show (if key a ≤ key p then _ else _) = _
    rw [if_pos this]
    exact congrArg (fun z => a :: z) (insK_at (fun x hx => h1 x (List.mem_cons_of_mem _ hx)) h2)
theorem insK_len {key : Nat → Int} {p : Nat} : ∀ ps : List Nat, (insK key p ps).length = ps.length + 1
  | [] => rfl
  | q :: t => by
    show (if key q ≤ key p then q :: insK key p t else p :: q :: t).length = _
    split
    · rw [List.length_cons, insK_len t]; rfl
    · rfl
theorem insK_mem {key : Nat → Int} {p x : Nat} : ∀ ps : List Nat, x ∈ insK key p ps ↔ x = p ∨ x ∈ ps
  | [] => by simp [insK]
  | q :: t => by
    show x ∈ (if key q ≤ key p then q :: insK key p t else p :: q :: t) ↔ _
    split
    · rw [List.mem_cons, insK_mem t, List.mem_cons]
      constructor
      · rintro (h | h | h)
        · exact Or.inr (Or.inl h)
        · exact Or.inl h
        · exact Or.inr (Or.inr h)
      · rintro (h | h | h)
        · exact Or.inr (Or.inl h)
        · exact Or.inl h
        · exact Or.inr (Or.inr h)
    · simp
theorem insK_srt {key : Nat → Int} {p : Nat} : ∀ {ps : List Nat}, srt key ps → srt key (insK key p ps)
  | [], _ => by
    show List.Pairwise _ [p]
    exact List.pairwise_singleton _ _
  | q :: t, h => by
    have h1 := List.pairwise_cons.mp h
    show List.Pairwise _ (if key q ≤ key p then q :: insK key p t else p :: q :: t)
    split
    · next hq =>
      refine List.pairwise_cons.mpr ⟨fun x hx => ?_, insK_srt h1.2⟩
      rcases (insK_mem t).mp hx with rfl | hx
      · exact hq
      · exact h1.1 x hx
    · next hq =>
      refine List.pairwise_cons.mpr ⟨fun x hx => ?_, h⟩
      rcases List.mem_cons.mp hx with rfl | hx
      · omega
      · have := h1.1 x hx
        omega
theorem srt_last {key : Nat → Int} {ps : List Nat} {at9 q : Nat} {y : Int} (h : srt key ps) (hq : ps[at9]? = some q) (hy : key q ≤ y) : ∀ a ∈ ps.take (at9 + 1), key a ≤ y := by
  intro a ha
  obtain ⟨k, hk⟩ := List.getElem?_of_mem ha
  have hk2 : k < at9 + 1 := by
    have := (List.getElem?_eq_some_iff.mp hk).1
    rw [List.length_take] at this
    omega
  rw [List.getElem?_take_of_lt hk2] at hk
  by_cases e : k = at9
  · subst e
    rw [hq] at hk
    cases hk
    exact hy
  · have h1 := List.pairwise_iff_getElem.mp h k at9 (List.getElem?_eq_some_iff.mp hk).1 (List.getElem?_eq_some_iff.mp hq).1 (by omega)
    rw [(List.getElem?_eq_some_iff.mp hk).2, (List.getElem?_eq_some_iff.mp hq).2] at h1
    omega
theorem up2_at {α : Type} {f : Nat → Nat → α} {r j b : Nat} {v : α} : up2 f r j v r b = if b = j then v else f r b := by
  unfold up2
  by_cases h : b = j
  · rw [if_pos ⟨rfl, h⟩, if_pos h]
  · rw [if_neg (fun q => h q.2), if_neg h]
set_option maxHeartbeats 1000000 in
/-- a PERSON is put into its place of a line -/
theorem aX2_add {N : Nat} {R : RR} {n : Nat} {I : II} {ps : List Nat} {v : Nat → Int} {p : Nat} {rs : Int} (hN : N < 1000) (h : LN N R n) (hl : lineIs I R n ps v) (hlen : ps.length < 10) (hr : I n 0 = rs) (hr01 : rs = 0 ∨ rs = 1) (hs : srt (kf rs v) ps) (hv : ∀ q, -1000 ≤ v q ∧ v q ≤ 1000) :
    Spec mX2_add [vR n, vI p, vI (v p)] I R N N (fun _ I' R' => R' = R ∧ lineIs I' R n (insK (kf rs v) p ps) v ∧ frm (lineT R n) I I' ∧ I' n 0 = rs) := by
  obtain ⟨ho, hw, hc, h1, h2, h3⟩ := h
  refine sX2_add hN ?_
  have hlen0 := hl.1
  have hvp := hv p
  have exit : ∀ (k : Nat) (I1 : II), k ≤ ps.length → I1 n 3 = ps.length → I1 n 0 = rs → frm (lineT R n) I I1 → (∀ (j q : Nat), j < k → ps[j]? = some q → I1 (R n 1) j = (q : Int) ∧ I1 (R n 2) j = v q) → (∀ (j q : Nat), k ≤ j → ps[j]? = some q → I1 (R n 1) (j + 1) = (q : Int) ∧ I1 (R n 2) (j + 1) = v q ∧ kf rs v p < kf rs v q) → (∀ a ∈ ps.take k, kf rs v a ≤ kf rs v p) →
      wp (kN N) mX2_add (fun _ I' R' => R' = R ∧ lineIs I' R n (insK (kf rs v) p ps) v ∧ frm (lineT R n) I I' ∧ I' n 0 = rs) 87 [vR n, vI p, vI (v p), vI (k : Int)] [] I1 R N := by
    intro k I1 hk e3 e0 hf hlo hhi hA
    refine gX2_add_87 ⟨ho, hc, ⟨by omega, by omega⟩, fun I4 e4 => ⟨hw, fun I6 e6 => fun I7 e7 => ?_⟩⟩
    rw [Int.toNat_natCast] at e4 e6
    have hins : insK (kf rs v) p ps = ps.take k ++ p :: ps.drop k := by
      have h9 := insK_at (key := kf rs v) (p := p) (A := ps.take k) (B := ps.drop k) hA (fun b hb => by
        obtain ⟨j, hj⟩ := List.getElem?_of_mem hb
        rw [List.getElem?_drop] at hj
        exact (hhi (k + j) b (by omega) hj).2.2)
      rw [List.take_append_drop] at h9
      exact h9
    have z3 : I6 n 3 = ps.length := by rw [e6, up2_ne h2, e4, up2_ne h3, e3]
    refine ⟨rfl, ⟨?_, fun j q hj => ?_⟩, ?_, ?_⟩
    · rw [e7, up2_self, z3, insK_len]
      omega
    · rw [hins] at hj
      have y1 : I7 (R n 1) j = if j = k then (p : Int) else I1 (R n 1) j := by
        rw [e7, up2_ne h2.symm, e6, up2_at, e4, up2_ne h1]
      have y2 : I7 (R n 2) j = if j = k then v p else I1 (R n 2) j := by
        rw [e7, up2_ne h3.symm, e6, up2_ne h1.symm, e4, up2_at]
      rw [y1, y2]
      have hlt : (ps.take k).length = k := by rw [List.length_take]; omega
      by_cases a1 : j < k
      · rw [List.getElem?_append_left (by omega), List.getElem?_take_of_lt a1] at hj
        rw [if_neg (by omega), if_neg (by omega)]
        exact hlo j q a1 hj
      · rw [List.getElem?_append_right (by omega), hlt] at hj
        by_cases a2 : j = k
        · subst a2
          rw [Nat.sub_self, List.getElem?_cons_zero] at hj
          cases hj
          rw [if_pos rfl, if_pos rfl]
          exact ⟨rfl, rfl⟩
        · rw [show j - k = (j - k - 1) + 1 by omega, List.getElem?_cons_succ, List.getElem?_drop] at hj
          have := hhi (k + (j - k - 1)) q (by omega) hj
          rw [show k + (j - k - 1) + 1 = j by omega] at this
          rw [if_neg a2, if_neg a2]
          exact ⟨this.1, this.2.1⟩
    · rw [e7, e6, e4]
      exact frm_trans (frm_trans (frm_trans hf (frm_up (by simp [lineT]))) (frm_up (by simp [lineT]))) (frm_up (by simp [lineT]))
    · rw [e7, up2_nj (by decide), e6, up2_ne h2, e4, up2_ne h3, e0]
  have loop : ∀ (k : Nat) (I1 : II), k ≤ ps.length → I1 n 3 = ps.length → I1 n 0 = rs → frm (lineT R n) I I1 → (∀ (j q : Nat), j < k → ps[j]? = some q → I1 (R n 1) j = (q : Int) ∧ I1 (R n 2) j = v q) → (∀ (j q : Nat), k ≤ j → ps[j]? = some q → I1 (R n 1) (j + 1) = (q : Int) ∧ I1 (R n 2) (j + 1) = v q ∧ kf rs v p < kf rs v q) →
      wp (kN N) mX2_add (fun _ I' R' => R' = R ∧ lineIs I' R n (insK (kf rs v) p ps) v ∧ frm (lineT R n) I I' ∧ I' n 0 = rs) 15 [vR n, vI p, vI (v p), vI (k : Int)] [] I1 R N := by
    intro k
    induction k with
    | zero =>
      intro I1 hk e3 e0 hf hlo hhi
      exact gX2_add_15 ⟨⟨by omega, by omega⟩, fun _ => exit 0 I1 hk e3 e0 hf hlo hhi (by simp), fun hc => absurd (by omega) hc⟩
    | succ k ih =>
      intro I1 hk e3 e0 hf hlo hhi
      have hkl : k < ps.length := by omega
      obtain ⟨q, hq⟩ : ∃ q, ps[k]? = some q := ⟨ps[k], List.getElem?_eq_getElem hkl⟩
      have hvq := hv q
      have e1 : (((k + 1 : Nat) : Int) - 1).toNat = k := by omega
      have e2 : ((k + 1 : Nat) : Int).toNat = k + 1 := by omega
      have e5 : ((k + 1 : Nat) : Int) + (-1) = (k : Int) := by omega
      obtain ⟨hq1, hq2⟩ := hlo k q (by omega) hq
      have goon : kf rs v p < kf rs v q → wp (kN N) mX2_add (fun _ I' R' => R' = R ∧ lineIs I' R n (insK (kf rs v) p ps) v ∧ frm (lineT R n) I I' ∧ I' n 0 = rs) 53 [vR n, vI p, vI (v p), vI ((k + 1 : Nat) : Int)] [] I1 R N := by
        intro hlt
        refine gX2_add_53 ⟨ho, hc, ⟨by omega, by omega⟩, ⟨by omega, by omega⟩, fun I5 e5' => ⟨hw, fun I7 e7 => ?_⟩⟩
        rw [e1, e2] at e5' e7
        rw [e5]
        have y1 : ∀ j, I7 (R n 1) j = if j = k + 1 then (q : Int) else I1 (R n 1) j := fun j => by
          rw [e7, up2_at, e5', up2_ne h1, up2_ne h1, hq1]
        have y2 : ∀ j, I7 (R n 2) j = if j = k + 1 then v q else I1 (R n 2) j := fun j => by
          rw [e7, up2_ne h1.symm, e5', up2_at, hq2]
        refine ih I7 (by omega) (by rw [e7, up2_ne h2, e5', up2_ne h3, e3]) (by rw [e7, up2_ne h2, e5', up2_ne h3, e0]) ?_ (fun j r hj hr => ?_) (fun j r hj hr => ?_)
        · rw [e7, e5']
          exact frm_trans (frm_trans hf (frm_up (by simp [lineT]))) (frm_up (by simp [lineT]))
        · rw [y1, y2, if_neg (by omega), if_neg (by omega)]
          exact hlo j r (by omega) hr
        · rw [y1, y2]
          by_cases hjk : j = k
          · subst hjk
            rw [hq] at hr
            cases hr
            rw [if_pos rfl, if_pos rfl]
            exact ⟨rfl, rfl, hlt⟩
          · rw [if_neg (by omega), if_neg (by omega)]
            exact hhi j r (by omega) hr
      have stop : kf rs v q ≤ kf rs v p → wp (kN N) mX2_add (fun _ I' R' => R' = R ∧ lineIs I' R n (insK (kf rs v) p ps) v ∧ frm (lineT R n) I I' ∧ I' n 0 = rs) 87 [vR n, vI p, vI (v p), vI ((k + 1 : Nat) : Int)] [] I1 R N := fun hle => exit (k + 1) I1 hk e3 e0 hf hlo hhi (srt_last hs hq hle)
      refine gX2_add_15 ⟨⟨by omega, by omega⟩, fun hc => absurd hc (by omega), fun _ => ⟨ho, by rw [e0]; rcases hr01 with rfl | rfl <;> exact ⟨by decide, by decide⟩, ?_⟩⟩
      rw [e0, e1, hq2]
      refine ⟨fun hz => ⟨hc, ⟨by omega, by omega⟩, ⟨by omega, by omega⟩, ⟨by omega, by omega⟩, fun hle => stop ?_, fun hle => goon ?_⟩, fun hz => ⟨hc, ⟨by omega, by omega⟩, ⟨by omega, by omega⟩, ⟨by omega, by omega⟩, fun hle => stop ?_, fun hle => goon ?_⟩⟩
      · unfold kf; rw [if_pos hz, if_pos hz]; omega
      · unfold kf; rw [if_pos hz, if_pos hz]; omega
      · unfold kf; rw [if_neg hz, if_neg hz]; omega
      · unfold kf; rw [if_neg hz, if_neg hz]; omega
  refine gX2_add_0 ⟨ho, ⟨by omega, by omega⟩, fun hc => ?_, fun hc => absurd (by omega) hc⟩
  rw [hlen0]
  refine loop ps.length I (Nat.le_refl _) hlen0 hr frm_rfl (fun j q _ hq => hl.2 j q hq) (fun j q hj hq => ?_)
  have := (List.getElem?_eq_some_iff.mp hq).1
  omega
/-- the sum of the first k -/
def psum (v : Nat → Int) (ps : List Nat) (k : Nat) : Int := ((ps.take k).map v).sum
theorem psum_0 {v : Nat → Int} {ps : List Nat} : psum v ps 0 = 0 := by simp [psum]
theorem psum_succ {v : Nat → Int} {ps : List Nat} {k q : Nat} (h : ps[k]? = some q) : psum v ps (k + 1) = psum v ps k + v q := by
  unfold psum
  rw [List.take_add_one, h]
  simp
theorem psum_bd {v : Nat → Int} {ps : List Nat} {B : Int} (hv : ∀ q, -B ≤ v q ∧ v q ≤ B) (h0 : 0 ≤ B) : ∀ k, k ≤ ps.length → -(B * k) ≤ psum v ps k ∧ psum v ps k ≤ B * k
  | 0, _ => by rw [psum_0]; simp
  | k + 1, h => by
    obtain ⟨q, hq⟩ : ∃ q, ps[k]? = some q := ⟨ps[k], List.getElem?_eq_getElem (by omega)⟩
    have := psum_bd (v := v) (ps := ps) hv h0 k (by omega)
    have := hv q
    rw [psum_succ hq]
    have e : B * ((k + 1 : Nat) : Int) = B * k + B := by rw [show ((k + 1 : Nat) : Int) = (k : Int) + 1 by omega, Int.mul_add, Int.mul_one]
    rw [e]
    omega
theorem nat_of {a : Int} (h : 0 ≤ a) : ∃ k : Nat, a = (k : Int) := ⟨a.toNat, by omega⟩
theorem aX2_sum {N : Nat} {R : RR} {n : Nat} {I : II} {ps : List Nat} {v : Nat → Int} {f t : Nat} (hN : N < 1000) (h : LN N R n) (hl : lineIs I R n ps v) (hlen : ps.length ≤ 10) (hft : f ≤ t) (htl : t ≤ ps.length) :
    Spec mX2_sum [vR n, vI f, vI t] I R N N (fun rv I' R' => R' = R ∧ I' = I ∧ rv = vI (psum v ps t - psum v ps f)) := by
  obtain ⟨ho, hw, hc, h1, h2, h3⟩ := h
  refine sX2_sum hN (gX2_sum_0 ⟨⟨by omega, by omega⟩, ?_⟩)
  rw [Int.max_eq_left (by omega)]
  have hlen0 := hl.1
  have loop : ∀ (d k : Nat) (a : Int), k + d = t → f ≤ k → a = psum v ps k - psum v ps f → wp (kN N) mX2_sum (fun rv I' R' => R' = R ∧ I' = I ∧ rv = vI (psum v ps t - psum v ps f)) 9 [vR n, none, vI (t : Int), vI a, vI (k : Int)] [] I R N := by
    intro d
    induction d with
    | zero =>
      intro k a hk _ ha
      refine gX2_sum_9 ⟨⟨by omega, by omega⟩, ⟨by omega, by omega⟩, fun _ => gX2_sum_40 ⟨rfl, rfl, ?_⟩, fun hc => absurd (by omega) hc⟩
      rw [ha, show k = t by omega]
    | succ d ih =>
      intro k a hk hf ha
      obtain ⟨q, hq⟩ : ∃ q, ps[k]? = some q := ⟨ps[k], List.getElem?_eq_getElem (by omega)⟩
      refine gX2_sum_9 ⟨⟨by omega, by omega⟩, ⟨by omega, by omega⟩, fun hc => absurd hc (by omega), fun _ => ⟨ho, ⟨by omega, by omega⟩, fun hc => absurd hc (by omega), fun _ => ⟨hc, ⟨by omega, by omega⟩, ?_⟩⟩⟩
      rw [show (k : Int) + 1 = ((k + 1 : Nat) : Int) by omega]
      refine ih (k + 1) _ (by omega) (by omega) ?_
      rw [Int.toNat_natCast, (hl.2 k q hq).2, psum_succ hq, ha]
      omega
  exact loop (t - f) f 0 (by omega) (Nat.le_refl _) (by omega)
/-- how many are as good as a price -/
def asGood (rs x : Int) (v : Nat → Int) (q : Nat) : Bool := if rs = 0 then decide (x ≤ v q) else decide (v q ≤ x)
theorem aX2_ahead {N : Nat} {R : RR} {n : Nat} {I : II} {ps : List Nat} {v : Nat → Int} {x rs : Int} (hN : N < 1000) (h : LN N R n) (hl : lineIs I R n ps v) (hlen : ps.length ≤ 10) (hr : I n 0 = rs) (hr01 : rs = 0 ∨ rs = 1) (hv : ∀ q, -1000 ≤ v q ∧ v q ≤ 1000) (hx : InI x) :
    Spec mX2_ahead [vR n, vI x] I R N N (fun rv I' R' => R' = R ∧ I' = I ∧ rv = vI ((ps.filter (asGood rs x v)).length : Int)) := by
  obtain ⟨ho, hw, hc, h1, h2, h3⟩ := h
  refine sX2_ahead hN (gX2_ahead_0 ?_)
  have hlen0 := hl.1
  have loop : ∀ (d k : Nat) (a : Int), k + d = ps.length → a = (((ps.take k).filter (asGood rs x v)).length : Int) → wp (kN N) mX2_ahead (fun rv I' R' => R' = R ∧ I' = I ∧ rv = vI ((ps.filter (asGood rs x v)).length : Int)) 4 [vR n, vI x, vI a, vI (k : Int)] [] I R N := by
    intro d
    induction d with
    | zero =>
      intro k a hk ha
      refine gX2_ahead_4 ⟨ho, ⟨by omega, by omega⟩, ⟨by omega, by omega⟩, fun _ => ⟨rfl, rfl, ?_⟩, fun hc => absurd (by omega) hc⟩
      rw [ha, List.take_of_length_le (by omega)]
    | succ d ih =>
      intro k a hk ha
      obtain ⟨q, hq⟩ : ∃ q, ps[k]? = some q := ⟨ps[k], List.getElem?_eq_getElem (by omega)⟩
      have hvq := hv q
      have e2 := (hl.2 k q hq).2
      have ek : (k : Int) + 1 = ((k + 1 : Nat) : Int) := by omega
      have step : ps.take (k + 1) = ps.take k ++ [q] := by rw [List.take_add_one, hq]; rfl
      have yes : asGood rs x v q = true → wp (kN N) mX2_ahead (fun rv I' R' => R' = R ∧ I' = I ∧ rv = vI ((ps.filter (asGood rs x v)).length : Int)) 42 [vR n, vI x, vI a, vI (k : Int)] [] I R N := fun hg => by
        refine gX2_ahead_42 (gX2_ahead_45 ?_)
        rw [ek]
        refine ih (k + 1) _ (by omega) ?_
        rw [step, List.filter_append, List.filter_cons, if_pos hg, ha]
        simp
      have no : ¬ asGood rs x v q = true → wp (kN N) mX2_ahead (fun rv I' R' => R' = R ∧ I' = I ∧ rv = vI ((ps.filter (asGood rs x v)).length : Int)) 45 [vR n, vI x, vI a, vI (k : Int)] [] I R N := fun hg => by
        refine gX2_ahead_45 ?_
        rw [ek]
        refine ih (k + 1) _ (by omega) ?_
        rw [step, List.filter_append, List.filter_cons, if_neg hg, ha]
        simp
      refine gX2_ahead_4 ⟨ho, ⟨by omega, by omega⟩, ⟨by omega, by omega⟩, fun hc => absurd hc (by omega), fun _ => ⟨by rw [hr]; rcases hr01 with rfl | rfl <;> exact ⟨by decide, by decide⟩, ?_⟩⟩
      rw [hr, Int.toNat_natCast, e2]
      refine ⟨fun hz => ⟨hc, ⟨by omega, by omega⟩, ⟨by omega, by omega⟩, hx, fun hlt => no ?_, fun hlt => yes ?_⟩, fun hz => ⟨hc, ⟨by omega, by omega⟩, ⟨by omega, by omega⟩, hx, fun hlt => no ?_, fun hlt => yes ?_⟩⟩
      all_goals (unfold asGood; simp only [hz, if_true, if_false, decide_eq_true_eq]; omega)
  exact loop ps.length 0 0 (by omega) (by simp)
theorem aX2_holds {N : Nat} {R : RR} {n : Nat} {I : II} {ps : List Nat} {v : Nat → Int} {p k : Nat} (hN : N < 1000) (h : LN N R n) (hl : lineIs I R n ps v) (hlen : ps.length ≤ 10) (hp : p < 100) (hps : ∀ q ∈ ps, q < 100) (hk : k ≤ ps.length) :
    Spec mX2_holds [vR n, vI p, vI k] I R N N (fun rv I' R' => R' = R ∧ I' = I ∧ rv = vI (if p ∈ ps.take k then 1 else 0)) := by
  obtain ⟨ho, hw, hc, h1, h2, h3⟩ := h
  refine sX2_holds hN (gX2_holds_0 ?_)
  have hlen0 := hl.1
  have loop : ∀ (d j : Nat), j + d = k → p ∉ ps.take j → wp (kN N) mX2_holds (fun rv I' R' => R' = R ∧ I' = I ∧ rv = vI (if p ∈ ps.take k then 1 else 0)) 2 [vR n, vI (p : Int), vI (k : Int), vI (j : Int)] [] I R N := by
    intro d
    induction d with
    | zero =>
      intro j hj hn
      refine gX2_holds_2 ⟨⟨by omega, by omega⟩, ⟨by omega, by omega⟩, fun _ => gX2_holds_33 ⟨rfl, rfl, ?_⟩, fun hc => absurd (by omega) hc⟩
      rw [← show j = k by omega, if_neg hn]
    | succ d ih =>
      intro j hj hn
      obtain ⟨q, hq⟩ : ∃ q, ps[j]? = some q := ⟨ps[j], List.getElem?_eq_getElem (by omega)⟩
      have hq9 := hps q (List.mem_of_getElem? hq)
      have step : ps.take (j + 1) = ps.take j ++ [q] := by rw [List.take_add_one, hq]; rfl
      refine gX2_holds_2 ⟨⟨by omega, by omega⟩, ⟨by omega, by omega⟩, fun hc => absurd hc (by omega), fun _ => ⟨ho, ⟨by omega, by omega⟩, fun hc => absurd hc (by omega), fun _ => ⟨hw, ⟨by omega, by omega⟩, ?_⟩⟩⟩
      rw [Int.toNat_natCast, (hl.2 j q hq).1]
      refine ⟨⟨by omega, by omega⟩, ⟨by omega, by omega⟩, fun hne => ?_, fun he => ⟨rfl, rfl, ?_⟩⟩
      · rw [show (j : Int) + 1 = ((j + 1 : Nat) : Int) by omega]
        refine ih (j + 1) (by omega) ?_
        rw [step]
        simp only [List.mem_append, List.mem_singleton, not_or]
        exact ⟨hn, fun e => hne (by rw [e])⟩
      · rw [if_pos]
        have hm : p ∈ ps.take (j + 1) := by
          rw [step]
          simp only [List.mem_append, List.mem_singleton]
          exact Or.inr (by omega)
        exact (List.take_subset_take_left ps (by omega)) hm
  exact loop k 0 (by omega) (by simp)
