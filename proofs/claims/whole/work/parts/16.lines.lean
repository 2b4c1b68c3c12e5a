/-! two lines, and where they cross -/
theorem lineIs_frm {T : List Nat} {I I' : II} {R : RR} {n : Nat} {ps : List Nat} {v : Nat → Int} (h : lineIs I R n ps v) (hf : frm T I I') (hd : ∀ x ∈ lineT R n, x ∉ T) : lineIs I' R n ps v :=
  ⟨(hf n (hd n (by simp [lineT])) 3).trans h.1, fun j p hp => ⟨(hf (R n 1) (hd _ (by simp [lineT])) j).trans (h.2 j p hp).1, (hf (R n 2) (hd _ (by simp [lineT])) j).trans (h.2 j p hp).2⟩⟩
def LNS (N : Nat) (R : RR) (n : Nat) : Prop := isO N n 3 ∧ LN N R (R n 0) ∧ LN N R (R n 1) ∧ (∀ x ∈ lineT R (R n 0), x ∉ lineT R (R n 1)) ∧ n ∉ lineT R (R n 0) ∧ n ∉ lineT R (R n 1)
def linesIs (I : II) (R : RR) (n : Nat) (bl sl : List Nat) (v : Nat → Int) : Prop := lineIs I R (R n 0) bl v ∧ lineIs I R (R n 1) sl v ∧ I (R n 0) 0 = 0 ∧ I (R n 1) 0 = 1
def linesT (R : RR) (n : Nat) : List Nat := lineT R (R n 0) ++ lineT R (R n 1)
theorem linesIs_frm {T : List Nat} {I I' : II} {R : RR} {n : Nat} {bl sl : List Nat} {v : Nat → Int} (h : linesIs I R n bl sl v) (hf : frm T I I') (hd : ∀ x ∈ linesT R n, x ∉ T) : linesIs I' R n bl sl v :=
  ⟨lineIs_frm h.1 hf (fun x hx => hd x (List.mem_append_left _ hx)), lineIs_frm h.2.1 hf (fun x hx => hd x (List.mem_append_right _ hx)),
   (hf _ (hd _ (List.mem_append_left _ (by simp [lineT]))) 0).trans h.2.2.1, (hf _ (hd _ (List.mem_append_right _ (by simp [lineT]))) 0).trans h.2.2.2⟩
def gv (v : Nat → Int) (ps : List Nat) (k : Nat) : Int := (ps[k]?.map v).getD 0
theorem gv_at {v : Nat → Int} {ps : List Nat} {k q : Nat} (h : ps[k]? = some q) : gv v ps k = v q := by unfold gv; rw [h]; rfl
def qty (v : Nat → Int) (t : Int) : List Nat → List Nat → Nat
  | b :: bs, s :: ss => if v s + t ≤ v b then qty v t bs ss + 1 else 0
  | _, _ => 0
def isQ (v : Nat → Int) (t : Int) (bl sl : List Nat) (k : Nat) : Prop := k ≤ bl.length ∧ k ≤ sl.length ∧ (∀ (j b s : Nat), j < k → bl[j]? = some b → sl[j]? = some s → v s + t ≤ v b) ∧ (∀ (b s : Nat), bl[k]? = some b → sl[k]? = some s → v b < v s + t)
theorem qty_of {v : Nat → Int} {t : Int} : ∀ (k : Nat) (bl sl : List Nat), isQ v t bl sl k → qty v t bl sl = k
  | 0, [], _, _ => by simp [qty]
  | 0, _ :: _, [], _ => by simp [qty]
  | 0, b :: bs, s :: ss, h => by
    have := h.2.2.2 b s rfl rfl
    show (if v s + t ≤ v b then _ else _) = _
    rw [if_neg (by omega)]
  | k + 1, [], _, h => by have := h.1; simp at this
  | k + 1, _ :: _, [], h => by have := h.2.1; simp at this
  | k + 1, b :: bs, s :: ss, h => by
    have h0 := h.2.2.1 0 b s (by omega) rfl rfl
    show (if v s + t ≤ v b then _ else _) = _
    rw [if_pos h0, qty_of k bs ss ⟨by have := h.1; simp at this; omega, by have := h.2.1; simp at this; omega, fun j b' s' hj h1 h2 => h.2.2.1 (j + 1) b' s' (by omega) (by simpa using h1) (by simpa using h2), fun b' s' h1 h2 => h.2.2.2 b' s' (by simpa using h1) (by simpa using h2)⟩]
theorem qty_is {v : Nat → Int} {t : Int} : ∀ (bl sl : List Nat), isQ v t bl sl (qty v t bl sl)
  | [], sl => by simp [isQ, qty]
  | b :: bs, [] => by simp [isQ, qty]
  | b :: bs, s :: ss => by
    have ih := qty_is (v := v) (t := t) bs ss
    show isQ v t (b :: bs) (s :: ss) (if v s + t ≤ v b then qty v t bs ss + 1 else 0)
    split
    · next h =>
      refine ⟨by have := ih.1; simp; omega, by have := ih.2.1; simp; omega, fun j b' s' hj h1 h2 => ?_, fun b' s' h1 h2 => ih.2.2.2 b' s' (by simpa using h1) (by simpa using h2)⟩
      cases j with
      | zero =>
        simp at h1 h2
        subst h1 h2
        exact h
      | succ j => exact ih.2.2.1 j b' s' (by omega) (by simpa using h1) (by simpa using h2)
    · next h =>
      refine ⟨by simp, by simp, fun j b' s' hj => by omega, fun b' s' h1 h2 => ?_⟩
      simp at h1 h2
      subst h1 h2
      omega
def lowP (v : Nat → Int) (t : Int) (bl sl : List Nat) (q : Nat) : Int := if q = 0 then -4 else if q < bl.length then max (gv v sl (q - 1) + t) (gv v bl q) else gv v sl (q - 1) + t
def highP (v : Nat → Int) (t : Int) (bl sl : List Nat) (q : Nat) : Int := if q = 0 then -4 else if q < sl.length then min (gv v bl (q - 1)) (gv v sl q + t) else gv v bl (q - 1)
theorem aX3_empty {N : Nat} {R : RR} {n : Nat} {I : II} {v : Nat → Int} (hN : N < 1000) (h : LNS N R n) (h0 : I (R n 0) 0 = 0) (h1 : I (R n 1) 0 = 1) :
    Spec mX3_empty [vR n] I R N N (fun _ I' R' => R' = R ∧ linesIs I' R n [] [] v ∧ frm (linesT R n) I I') := by
  obtain ⟨ho, hb, hs, hd, hn1, hn2⟩ := h
  have hne : R n 0 ≠ R n 1 := fun e => hd (R n 0) (by simp [lineT]) (by rw [e]; simp [lineT])
  refine sX3_empty hN (gX3_empty_0 ⟨ho, hb.1, fun I3 e3 => ⟨hs.1, fun I5 e5 => ⟨rfl, ⟨⟨?_, fun j p hp => by simp at hp⟩, ⟨?_, fun j p hp => by simp at hp⟩, ?_, ?_⟩, ?_⟩⟩⟩)
  · rw [e5, up2_ne hne, e3, up2_self]; rfl
  · rw [e5, up2_self]; rfl
  · rw [e5, up2_nj (by decide), e3, up2_nj (by decide), h0]
  · rw [e5, up2_nj (by decide), e3, up2_nj (by decide), h1]
  · rw [e5, e3]
    exact frm_trans (frm_up (by simp [linesT, lineT])) (frm_up (by simp [linesT, lineT]))
/-- who sells, of the room at r -/
def sdIs (I : II) (R : RR) (r : Nat) (n : Nat) (sd : Nat → Int) : Prop := ∀ p, p < n → I (R r 0) p = sd p ∧ (sd p = 0 ∨ sd p = 1)
theorem aX3_put {N : Nat} {R : RR} {n r m : Nat} {I : II} {bl sl : List Nat} {v sd : Nat → Int} {p : Nat} (hN : N < 1000) (h : LNS N R n) (hl : linesIs I R n bl sl v) (hr : isO N r 6) (hra : isA N (R r 0) 2 20) (hsd : sdIs I R r m sd) (hp : p < m) (hm : m ≤ 20) (hb : sd p = 0 → bl.length < 10) (hs : sd p = 1 → sl.length < 10) (sb : srt (kf 0 v) bl) (ss : srt (kf 1 v) sl) (hv : ∀ q, -1000 ≤ v q ∧ v q ≤ 1000) :
    Spec mX3_put [vR n, vR r, vI p, vI (v p)] I R N N (fun _ I' R' => R' = R ∧ linesIs I' R n (if sd p = 0 then insK (kf 0 v) p bl else bl) (if sd p = 0 then sl else insK (kf 1 v) p sl) v ∧ frm (linesT R n) I I') := by
  obtain ⟨ho, hLb, hLs, hd, hn1, hn2⟩ := h
  obtain ⟨e1, e2⟩ := hsd p hp
  refine sX3_put hN (gX3_put_0 ⟨hr, hra, ⟨by omega, by omega⟩, ?_⟩)
  rw [Int.toNat_natCast, e1]
  refine ⟨by rcases e2 with e | e <;> rw [e] <;> exact ⟨by decide, by decide⟩, fun hz => ⟨ho, hLb.1, ⟨_, aX2_add hN hLb hl.1 (hb hz) hl.2.2.1 (Or.inl rfl) sb hv, fun I6 R6 hq => gX3_put_30 ?_⟩⟩, fun hz => ⟨ho, hLs.1, ⟨_, aX2_add hN hLs hl.2.1 (hs (by omega)) hl.2.2.2 (Or.inr rfl) ss hv, fun I6 R6 hq => gX3_put_30 ?_⟩⟩⟩
  · obtain ⟨rfl, q1, q2, q3⟩ := hq
    rw [if_pos hz, if_pos hz]
    refine ⟨rfl, ⟨q1, lineIs_frm hl.2.1 q2 (fun x hx hx2 => hd x hx2 hx), q3, (q2 _ (fun hx => hd _ hx (by simp [lineT])) 0).trans hl.2.2.2⟩, frm_sub q2 (fun i hi => List.mem_append_left _ hi)⟩
  · obtain ⟨rfl, q1, q2, q3⟩ := hq
    rw [if_neg hz, if_neg hz]
    refine ⟨rfl, ⟨lineIs_frm hl.1 q2 (fun x hx => hd x hx), q1, (q2 _ (fun hx => hd _ (by simp [lineT]) hx) 0).trans hl.2.2.1, q3⟩, frm_sub q2 (fun i hi => List.mem_append_right _ hi)⟩
/-- the line of those of m PEOPLE for whom S holds -/
def insAll (S : Nat → Bool) (key : Nat → Int) : Nat → List Nat
  | 0 => []
  | m + 1 => if S m = true then insK key m (insAll S key m) else insAll S key m
theorem insAll_srt {S : Nat → Bool} {key : Nat → Int} : ∀ m, srt key (insAll S key m)
  | 0 => List.Pairwise.nil
  | m + 1 => by
    show srt key (if S m = true then _ else _)
    split
    · exact insK_srt (insAll_srt m)
    · exact insAll_srt m
theorem insAll_mem {S : Nat → Bool} {key : Nat → Int} {x : Nat} : ∀ m, x ∈ insAll S key m ↔ x < m ∧ S x = true
  | 0 => by simp [insAll]
  | m + 1 => by
    show x ∈ (if S m = true then _ else _) ↔ _
    split
    · next h =>
      rw [insK_mem, insAll_mem m]
      constructor
      · rintro (rfl | ⟨h1, h2⟩)
        · exact ⟨by omega, h⟩
        · exact ⟨by omega, h2⟩
      · rintro ⟨h1, h2⟩
        by_cases e : x = m
        · exact Or.inl e
        · exact Or.inr ⟨by omega, h2⟩
    · next h =>
      rw [insAll_mem m]
      constructor
      · rintro ⟨h1, h2⟩
        exact ⟨by omega, h2⟩
      · rintro ⟨h1, h2⟩
        by_cases e : x = m
        · rw [e] at h2; exact absurd h2 h
        · exact ⟨by omega, h2⟩
/-- how many of the first m -/
def cntB (S : Nat → Bool) : Nat → Nat
  | 0 => 0
  | m + 1 => if S m = true then cntB S m + 1 else cntB S m
theorem insAll_len {S : Nat → Bool} {key : Nat → Int} : ∀ m, (insAll S key m).length = cntB S m
  | 0 => rfl
  | m + 1 => by
    show (if S m = true then insK key m (insAll S key m) else insAll S key m).length = if S m = true then cntB S m + 1 else cntB S m
    split
    · rw [insK_len, insAll_len m]
    · exact insAll_len m
theorem cntB_le {S : Nat → Bool} {a b : Nat} (h : a ≤ b) : cntB S a ≤ cntB S b := by
  induction b with
  | zero => rw [show a = 0 by omega]; exact Nat.le_refl _
  | succ b ih =>
    by_cases e : a = b + 1
    · rw [e]; exact Nat.le_refl _
    · refine Nat.le_trans (ih (by omega)) ?_
      show cntB S b ≤ if S b = true then cntB S b + 1 else cntB S b
      split <;> omega
theorem cntB_lt {S : Nat → Bool} {a b : Nat} (h : a < b) (hs : S a = true) : cntB S a < cntB S b := by
  have h1 : cntB S (a + 1) = cntB S a + 1 := by show (if S a = true then _ else _) = _; rw [if_pos hs]
  have h2 := cntB_le (S := S) (show a + 1 ≤ b by omega)
  omega
theorem cntB_leN {S : Nat → Bool} : ∀ m, cntB S m ≤ m
  | 0 => Nat.le_refl _
  | m + 1 => by
    have := cntB_leN (S := S) m
    show (if S m = true then cntB S m + 1 else cntB S m) ≤ m + 1
    split <;> omega
theorem linesIs_n {I : II} {R : RR} {n k : Nat} {x : Int} {bl sl : List Nat} {v : Nat → Int} (h : linesIs I R n bl sl v) (h1 : n ∉ lineT R (R n 0)) (h2 : n ∉ lineT R (R n 1)) : linesIs (up2 I n k x) R n bl sl v :=
  linesIs_frm h (frm_up (T := [n]) (by simp)) (fun y hy => by
    simp only [List.mem_singleton]
    rintro rfl
    rcases List.mem_append.mp hy with h | h
    · exact h1 h
    · exact h2 h)
set_option maxHeartbeats 1000000 in
theorem aX3_price {N : Nat} {R : RR} {n : Nat} {I : II} {bl sl : List Nat} {v : Nat → Int} {t : Int} {q : Nat} (hN : N < 1000) (h : LNS N R n) (hl : linesIs I R n bl sl v) (hlb : bl.length ≤ 10) (hls : sl.length ≤ 10) (hq : I n 2 = q) (hq0 : 0 < q) (hqb : q ≤ bl.length) (hqs : q ≤ sl.length) (hv : ∀ q, -1000 ≤ v q ∧ v q ≤ 1000) (ht : -1000 ≤ t ∧ t ≤ 1000) :
    Spec mX3_price [vR n, vI t] I R N N (fun _ I' R' => R' = R ∧ linesIs I' R n bl sl v ∧ frm [n] I I' ∧ I' n 2 = q ∧ I' n 3 = I n 3 ∧ I' n 4 = lowP v t bl sl q ∧ I' n 5 = highP v t bl sl q) := by
  obtain ⟨ho, hLb, hLs, hd, hn1, hn2⟩ := h
  obtain ⟨s1, hs1⟩ : ∃ q', sl[q - 1]? = some q' := ⟨sl[q - 1], List.getElem?_eq_getElem (by omega)⟩
  obtain ⟨b1, hb1⟩ : ∃ q', bl[q - 1]? = some q' := ⟨bl[q - 1], List.getElem?_eq_getElem (by omega)⟩
  have fin : ∀ (I1 : II), linesIs I1 R n bl sl v → frm [n] I I1 → I1 n 2 = q → I1 n 3 = I n 3 → I1 n 4 = lowP v t bl sl q → I1 n 5 = gv v bl (q - 1) →
      wp (kN N) mX3_price (fun _ I' R' => R' = R ∧ linesIs I' R n bl sl v ∧ frm [n] I I' ∧ I' n 2 = q ∧ I' n 3 = I n 3 ∧ I' n 4 = lowP v t bl sl q ∧ I' n 5 = highP v t bl sl q) 75 [vR n, vI t] [] I1 R N := by
    intro I1 l1 f1 z2 z3 z4 z5
    have hlen := l1.2.1.1
    have b5 : gv v bl (q - 1) = v b1 := gv_at hb1
    have hvb := hv b1
    refine gX3_price_75 ⟨ho, hLs.1, ⟨by omega, by omega⟩, ⟨by omega, by omega⟩, fun hc => gX3_price_114 ⟨rfl, l1, f1, z2, z3, z4, ?_⟩, fun hc => ?_⟩
    · rw [z5]; unfold highP; rw [if_neg (by omega), if_neg (by omega)]
    · obtain ⟨s2, hs2⟩ : ∃ q', sl[q]? = some q' := ⟨sl[q], List.getElem?_eq_getElem (by omega)⟩
      have hvs := hv s2
      have es : I1 (R (R n 1) 2) (I1 n 2).toNat = v s2 := by rw [z2, Int.toNat_natCast]; exact (l1.2.1.2 q s2 hs2).2
      rw [es]
      refine ⟨hLs.2.2.1, ⟨by omega, by omega⟩, ⟨by omega, by omega⟩, ⟨by omega, by omega⟩, fun I9 e9 => gX3_price_114 ⟨rfl, by rw [e9]; exact linesIs_n l1 hn1 hn2, by rw [e9]; exact frm_trans f1 (frm_up (by simp)), ?_, ?_, ?_, ?_⟩⟩
      · rw [e9, up2_nj (by decide), z2]
      · rw [e9, up2_nj (by decide), z3]
      · rw [e9, up2_nj (by decide), z4]
      · rw [e9, up2_self, z5]; unfold highP; rw [if_neg (by omega), if_pos (by omega), gv_at hs2]
  have es : I (R (R n 1) 2) (I n 2 - 1).toNat = v s1 := by
    rw [hq, show ((q : Int) - 1).toNat = q - 1 by omega]; exact (hl.2.1.2 _ s1 hs1).2
  have hvs1 := hv s1
  refine sX3_price hN (gX3_price_0 ⟨ho, hLs.1, hLs.2.2.1, ⟨by omega, by omega⟩, fun I5 e5 => ?_⟩)
  rw [es] at e5
  have l5 : linesIs I5 R n bl sl v := by rw [e5]; exact linesIs_n hl hn1 hn2
  have q5 : I5 n 2 = q := by rw [e5, up2_nj (by decide), hq]
  refine ⟨hLb.1, hLb.2.2.1, ⟨by omega, by omega⟩, fun I9 e9 => ?_⟩
  have eb : I5 (R (R n 0) 2) (I5 n 2 - 1).toNat = v b1 := by
    rw [q5, show ((q : Int) - 1).toNat = q - 1 by omega]; exact (l5.1.2 _ b1 hb1).2
  rw [eb] at e9
  have l9 : linesIs I9 R n bl sl v := by rw [e9]; exact linesIs_n l5 hn1 hn2
  have q9 : I9 n 2 = q := by rw [e9, up2_nj (by decide), q5]
  have f9 : frm [n] I I9 := by rw [e9, e5]; exact frm_trans (frm_up (by simp)) (frm_up (by simp))
  have y3 : I9 n 3 = I n 3 := by rw [e9, up2_nj (by decide), e5, up2_nj (by decide)]
  have y4 : I9 n 4 = v s1 + t := by rw [e9, up2_nj (by decide), e5, up2_self]
  have y5 : I9 n 5 = gv v bl (q - 1) := by rw [e9, up2_self, gv_at hb1]
  have hlen := l9.1.1
  refine ⟨⟨by omega, by omega⟩, ⟨by omega, by omega⟩, fun hc => ?_, fun hc => ?_⟩
  · refine fin I9 l9 f9 q9 y3 ?_ y5
    rw [y4]; unfold lowP; rw [if_neg (by omega), if_neg (by omega), gv_at hs1]
  · obtain ⟨b2, hb2⟩ : ∃ q', bl[q]? = some q' := ⟨bl[q], List.getElem?_eq_getElem (by omega)⟩
    have hvb := hv b2
    have e2 : I9 (R (R n 0) 2) (I9 n 2).toNat = v b2 := by rw [q9, Int.toNat_natCast]; exact (l9.1.2 q b2 hb2).2
    rw [e2]
    refine ⟨⟨by omega, by omega⟩, ⟨by omega, by omega⟩, ⟨by omega, by omega⟩, fun I15 e15 => ?_⟩
    refine fin I15 (by rw [e15]; exact linesIs_n l9 hn1 hn2) (by rw [e15]; exact frm_trans f9 (frm_up (by simp))) (by rw [e15, up2_nj (by decide), q9]) (by rw [e15, up2_nj (by decide), y3]) ?_ (by rw [e15, up2_nj (by decide), y5])
    rw [e15, up2_self, y4]; unfold lowP; rw [if_neg (by omega), if_pos (by omega), gv_at hs1, gv_at hb2]
/-- what a pair of lines says behind 'cross' -/
def crossIs (I : II) (R : RR) (n : Nat) (bl sl : List Nat) (v : Nat → Int) (t : Int) : Prop := I n 2 = (qty v t bl sl : Int) ∧ I n 3 = psum v bl (qty v t bl sl) - psum v sl (qty v t bl sl) ∧ I n 4 = lowP v t bl sl (qty v t bl sl) ∧ I n 5 = highP v t bl sl (qty v t bl sl)
set_option maxHeartbeats 1000000 in
theorem aX3_cross {N : Nat} {R : RR} {n : Nat} {I : II} {bl sl : List Nat} {v : Nat → Int} {t : Int} (hN : N < 1000) (h : LNS N R n) (hl : linesIs I R n bl sl v) (hlb : bl.length ≤ 10) (hls : sl.length ≤ 10) (hv : ∀ q, -1000 ≤ v q ∧ v q ≤ 1000) (ht : -1000 ≤ t ∧ t ≤ 1000) :
    Spec mX3_cross [vR n, vI t] I R N N (fun _ I' R' => R' = R ∧ linesIs I' R n bl sl v ∧ frm [n] I I' ∧ crossIs I' R n bl sl v t) := by
  have hh := h
  obtain ⟨ho, hLb, hLs, hd, hn1, hn2⟩ := h
  have lb0 := hl.1.1
  have ls0 := hl.2.1.1
  have fin : ∀ (k : Nat) (I1 : II), isQ v t bl sl k → linesIs I1 R n bl sl v → frm [n] I I1 → I1 n 2 = k →
      wp (kN N) mX3_cross (fun _ I' R' => R' = R ∧ linesIs I' R n bl sl v ∧ frm [n] I I' ∧ crossIs I' R n bl sl v t) 73 [vR n, vI t, none] [] I1 R N := by
    intro k I1 hk l1 f1 z2
    have hq := qty_of k bl sl hk
    refine gX3_cross_73 ⟨ho, hLb.1, ?_⟩
    rw [z2]
    refine ⟨_, aX2_sum (f := 0) (t := k) hN hLb l1.1 hlb (by omega) hk.1, fun x2 I2 R2 hq2 => ?_⟩
    obtain ⟨rfl, rfl, r2⟩ := hq2
    cases r2
    refine ⟨hLs.1, ?_⟩
    rw [z2]
    refine ⟨_, aX2_sum (f := 0) (t := k) hN hLs l1.2.1 hls (by omega) hk.2.1, fun x4 I4 R4 hq4 => ?_⟩
    obtain ⟨rfl, rfl, r4⟩ := hq4
    cases r4
    rw [psum_0, psum_0]
    intro I6 e6 I7 e7 I8 e8
    have l8 : linesIs I8 R4 n bl sl v := by rw [e8, e7, e6]; exact linesIs_n (linesIs_n (linesIs_n l1 hn1 hn2) hn1 hn2) hn1 hn2
    have f8 : frm [n] I I8 := by rw [e8, e7, e6]; exact frm_trans (frm_trans (frm_trans f1 (frm_up (by simp))) (frm_up (by simp))) (frm_up (by simp))
    have y2 : I8 n 2 = k := by rw [e8, up2_nj (by decide), e7, up2_nj (by decide), e6, up2_nj (by decide), z2]
    have y3 : I8 n 3 = psum v bl k - psum v sl k := by rw [e8, up2_nj (by decide), e7, up2_nj (by decide), e6, up2_self]; omega
    have y4 : I8 n 4 = -4 := by rw [e8, up2_nj (by decide), e7, up2_self]
    have y5 : I8 n 5 = -4 := by rw [e8, up2_self]
    have h1 := hk.1
    refine ⟨⟨by omega, by omega⟩, fun hc => gX3_cross_126 ⟨rfl, l8, f8, ?_⟩, fun hc => ⟨_, aX3_price hN hh l8 hlb hls y2 (by omega) hk.1 hk.2.1 hv ht, fun I10 R10 hq10 => gX3_cross_126 ?_⟩⟩
    · have : k = 0 := by omega
      subst this
      unfold crossIs
      rw [hq]
      exact ⟨y2, y3, by rw [y4]; rfl, by rw [y5]; rfl⟩
    · obtain ⟨rfl, p1, p2, p3, p4, p5, p6⟩ := hq10
      refine ⟨rfl, p1, frm_trans f8 p2, ?_⟩
      unfold crossIs
      rw [hq]
      exact ⟨p3, p4.trans y3, p5, p6⟩
  have loop : ∀ (d k : Nat) (I1 : II), k + d = min bl.length sl.length → (∀ (j b s : Nat), j < k → bl[j]? = some b → sl[j]? = some s → v s + t ≤ v b) → linesIs I1 R n bl sl v → frm [n] I I1 → I1 n 2 = k →
      wp (kN N) mX3_cross (fun _ I' R' => R' = R ∧ linesIs I' R n bl sl v ∧ frm [n] I I' ∧ crossIs I' R n bl sl v t) 23 [vR n, vI t, vI ((min bl.length sl.length : Nat) : Int)] [] I1 R N := by
    intro d
    induction d with
    | zero =>
      intro k I1 hk hj l1 f1 z2
      refine gX3_cross_23 ⟨ho, ⟨by omega, by omega⟩, ⟨by omega, by omega⟩, fun _ => fin k I1 ⟨by omega, by omega, hj, fun b s hb hs => ?_⟩ l1 f1 z2, fun hc => absurd (by omega) hc⟩
      have h1 := (List.getElem?_eq_some_iff.mp hb).1
      have h2 := (List.getElem?_eq_some_iff.mp hs).1
      omega
    | succ d ih =>
      intro k I1 hk hj l1 f1 z2
      obtain ⟨b, hb⟩ : ∃ q', bl[k]? = some q' := ⟨bl[k], List.getElem?_eq_getElem (by omega)⟩
      obtain ⟨s, hs⟩ : ∃ q', sl[k]? = some q' := ⟨sl[k], List.getElem?_eq_getElem (by omega)⟩
      have hvb := hv b
      have hvs := hv s
      have eb : I1 (R (R n 0) 2) (I1 n 2).toNat = v b := by rw [z2, Int.toNat_natCast]; exact (l1.1.2 k b hb).2
      have es : I1 (R (R n 1) 2) (I1 n 2).toNat = v s := by rw [z2, Int.toNat_natCast]; exact (l1.2.1.2 k s hs).2
      refine gX3_cross_23 ⟨ho, ⟨by omega, by omega⟩, ⟨by omega, by omega⟩, fun hc => absurd hc (by omega), fun _ => ⟨hLb.1, hLb.2.2.1, ⟨by omega, by omega⟩, hLs.1, hLs.2.2.1, ?_⟩⟩
      rw [eb, es]
      refine ⟨⟨by omega, by omega⟩, ⟨by omega, by omega⟩, fun hc => fin k I1 ⟨by omega, by omega, hj, fun b' s' hb' hs' => ?_⟩ l1 f1 z2, fun hc I11 e11 => ih (k + 1) I11 (by omega) (fun j b' s' hjk hb' hs' => ?_) (by rw [e11]; exact linesIs_n l1 hn1 hn2) (by rw [e11]; exact frm_trans f1 (frm_up (by simp))) (by rw [e11, up2_self, z2]; omega)⟩
      · rw [hb] at hb'; rw [hs] at hs'; cases hb'; cases hs'; exact hc
      · by_cases e : j = k
        · subst e
          rw [hb] at hb'; rw [hs] at hs'; cases hb'; cases hs'; omega
        · exact hj j b' s' (by omega) hb' hs'
  refine sX3_cross hN (gX3_cross_0 ⟨ho, hLb.1, hLs.1, ⟨by omega, by omega⟩, ⟨by omega, by omega⟩, fun I6 e6 => ?_⟩)
  rw [lb0, ls0, show min (bl.length : Int) (sl.length : Int) = ((min bl.length sl.length : Nat) : Int) by omega]
  exact loop (min bl.length sl.length) 0 I6 (by omega) (fun j b s hj => by omega) (by rw [e6]; exact linesIs_n hl hn1 hn2) (by rw [e6]; exact frm_up (by simp)) (by rw [e6, up2_self]; rfl)
def S0 (sd : Nat → Int) (p : Nat) : Bool := decide (sd p = 0)
def S1 (sd : Nat → Int) (p : Nat) : Bool := decide (sd p = 1)
theorem aX3_meet {N : Nat} {R : RR} {n r m : Nat} {I : II} {sd v : Nat → Int} {t : Int} (hN : N < 1000) (h : LNS N R n) (h0 : I (R n 0) 0 = 0) (h1 : I (R n 1) 0 = 1) (hr : isO N r 6) (hra : isA N (R r 0) 2 20) (hrc : isA N (R r 1) 1 20) (hsd : sdIs I R r m sd) (hcd : ∀ p, p < m → I (R r 1) p = v p) (hm : m ≤ 20) (hrm : I r 5 = m) (hap : ∀ x ∈ n :: linesT R n, x ∉ [r, R r 0, R r 1]) (hb : cntB (S0 sd) m ≤ 10) (hs : cntB (S1 sd) m ≤ 10) (hv : ∀ q, -1000 ≤ v q ∧ v q ≤ 1000) (ht : -1000 ≤ t ∧ t ≤ 1000) :
    Spec mX3_meet [vR n, vR r, vI t] I R N N (fun _ I' R' => R' = R ∧ linesIs I' R n (insAll (S0 sd) (kf 0 v) m) (insAll (S1 sd) (kf 1 v) m) v ∧ frm (n :: linesT R n) I I' ∧ crossIs I' R n (insAll (S0 sd) (kf 0 v) m) (insAll (S1 sd) (kf 1 v) m) v t) := by
  refine sX3_meet hN (gX3_meet_0 ⟨h.1, _, aX3_empty (v := v) hN h h0 h1, fun I1 R1 hq => ?_⟩)
  obtain ⟨rfl, q1, q2⟩ := hq
  have q2' : frm (n :: linesT R1 n) I I1 := frm_sub q2 (fun i hi => List.mem_cons_of_mem _ hi)
  have loop : ∀ (d k : Nat) (I2 : II), k + d = m → linesIs I2 R1 n (insAll (S0 sd) (kf 0 v) k) (insAll (S1 sd) (kf 1 v) k) v → frm (n :: linesT R1 n) I I2 →
      wp (kN N) mX3_meet (fun _ I' R' => R' = R1 ∧ linesIs I' R1 n (insAll (S0 sd) (kf 0 v) m) (insAll (S1 sd) (kf 1 v) m) v ∧ frm (n :: linesT R1 n) I I' ∧ crossIs I' R1 n (insAll (S0 sd) (kf 0 v) m) (insAll (S1 sd) (kf 1 v) m) v t) 6 [vR n, vR r, vI t, vI (k : Int)] [] I2 R1 N := by
    intro d
    induction d with
    | zero =>
      intro k I2 hk l2 f2
      have hkm : k = m := by omega
      subst hkm
      have e5 : I2 r 5 = (k : Int) := (f2 r (fun hx => hap r hx (by simp)) 5).trans hrm
      refine gX3_meet_6 ⟨hr, ⟨by omega, by omega⟩, ⟨by omega, by omega⟩, fun _ => ⟨h.1, _, aX3_cross hN h l2 (by rw [insAll_len]; exact hb) (by rw [insAll_len]; exact hs) hv ht, fun I4 R4 hq4 => ?_⟩, fun hc => absurd (by omega) hc⟩
      obtain ⟨rfl, p1, p2, p3⟩ := hq4
      exact ⟨rfl, p1, frm_trans f2 (frm_sub p2 (by simp)), p3⟩
    | succ d ih =>
      intro k I2 hk l2 f2
      have e5 : I2 r 5 = (m : Int) := (f2 r (fun hx => hap r hx (by simp)) 5).trans hrm
      have ec : I2 (R1 r 1) (k : Int).toNat = v k := by rw [Int.toNat_natCast]; exact (f2 _ (fun hx => hap _ hx (by simp)) k).trans (hcd k (by omega))
      have hsd2 : sdIs I2 R1 r m sd := fun p hp => ⟨(f2 _ (fun hx => hap _ hx (by simp)) p).trans (hsd p hp).1, (hsd p hp).2⟩
      have h01 := (hsd k (by omega)).2
      refine gX3_meet_6 ⟨hr, ⟨by omega, by omega⟩, ⟨by omega, by omega⟩, fun hc => absurd hc (by omega), fun _ => ⟨hrc, ⟨by omega, by omega⟩, h.1, ?_⟩⟩
      rw [ec]
      refine ⟨_, aX3_put hN h l2 hr hra hsd2 (show k < m by omega) hm (fun hz => ?_) (fun hz => ?_) (insAll_srt k) (insAll_srt k) hv, fun I8 R8 hq8 => ?_⟩
      · rw [insAll_len]
        have := cntB_lt (S := S0 sd) (show k < m by omega) (by simp [S0, hz])
        omega
      · rw [insAll_len]
        have := cntB_lt (S := S1 sd) (show k < m by omega) (by simp [S1, hz])
        omega
      · obtain ⟨rfl, p1, p2⟩ := hq8
        rw [show (k : Int) + 1 = ((k + 1 : Nat) : Int) by omega]
        refine ih (k + 1) I8 (by omega) ?_ (frm_trans f2 (frm_sub p2 (fun i hi => List.mem_cons_of_mem _ hi)))
        have a0 : insAll (S0 sd) (kf 0 v) (k + 1) = if sd k = 0 then insK (kf 0 v) k (insAll (S0 sd) (kf 0 v) k) else insAll (S0 sd) (kf 0 v) k := by
          show (if S0 sd k = true then _ else _) = _
          simp only [S0, decide_eq_true_eq]
        have a1 : insAll (S1 sd) (kf 1 v) (k + 1) = if sd k = 0 then insAll (S1 sd) (kf 1 v) k else insK (kf 1 v) k (insAll (S1 sd) (kf 1 v) k) := by
          show (if S1 sd k = true then _ else _) = _
          simp only [S1, decide_eq_true_eq]
          rcases h01 with e | e <;> rw [e] <;> rfl
        rw [a0, a1]
        exact p1
  exact loop m 0 I1 (by omega) q1 q2'
theorem aX3_trades {N : Nat} {R : RR} {n : Nat} {I : II} {bl sl : List Nat} {v : Nat → Int} {p k : Nat} {z : Int} (hN : N < 1000) (h : LNS N R n) (hl : linesIs I R n bl sl v) (hlb : bl.length ≤ 10) (hls : sl.length ≤ 10) (hq : I n 2 = k) (hkb : k ≤ bl.length) (hks : k ≤ sl.length) (hp : p < 100) (hpb : ∀ q ∈ bl, q < 100) (hps : ∀ q ∈ sl, q < 100) (hz : z = 0 ∨ z = 1) :
    Spec mX3_trades [vR n, vI z, vI p] I R N N (fun rv I' R' => R' = R ∧ I' = I ∧ rv = vI (if p ∈ (if z = 0 then bl else sl).take k then 1 else 0)) := by
  obtain ⟨ho, hLb, hLs, hd, hn1, hn2⟩ := h
  refine sX3_trades hN (gX3_trades_0 ⟨by rcases hz with rfl | rfl <;> exact ⟨by decide, by decide⟩, fun hc => ⟨ho, hLb.1, ?_⟩, fun hc => ⟨ho, hLs.1, ?_⟩⟩)
  · rw [hq]
    refine ⟨_, aX2_holds hN hLb hl.1 hlb hp hpb hkb, fun x3 I3 R3 _ hq3 => ?_⟩
    rw [if_pos hc]
    exact hq3
  · rw [hq]
    refine ⟨_, aX2_holds hN hLs hl.2.1 hls hp hps hks, fun x3 I3 R3 _ hq3 => ?_⟩
    rw [if_neg hc]
    exact hq3
