/-! the reference's lines: laid value by value; the same lists -/
def fl (S : Nat → Bool) (key : Nat → Int) (x : Int) : Nat → List Nat
  | 0 => []
  | m + 1 => if S m = true ∧ key m = x then fl S key x m ++ [m] else fl S key x m
def bk (S : Nat → Bool) (key : Nat → Int) (n : Nat) (lo : Int) : Nat → List Nat
  | 0 => []
  | c + 1 => bk S key n lo c ++ fl S key (lo + c) n
theorem fl_mem {S : Nat → Bool} {key : Nat → Int} {x : Int} {p : Nat} : ∀ m, p ∈ fl S key x m → p < m ∧ S p = true ∧ key p = x
  | 0, h => by simp [fl] at h
  | m + 1, h => by
    unfold fl at h
    split at h
    · next hs =>
      rcases List.mem_append.mp h with h | h
      · have := fl_mem m h
        exact ⟨by omega, this.2⟩
      · rw [List.mem_singleton] at h
        subst h
        exact ⟨by omega, hs⟩
    · have := fl_mem m h
      exact ⟨by omega, this.2⟩
theorem bk_mem {S : Nat → Bool} {key : Nat → Int} {n : Nat} {lo : Int} {p : Nat} : ∀ (c : Nat), p ∈ bk S key n lo c → p < n ∧ S p = true ∧ lo ≤ key p ∧ key p < lo + c
  | 0, h => by simp [bk] at h
  | c + 1, h => by
    rcases List.mem_append.mp h with h | h
    · have := bk_mem c h
      exact ⟨this.1, this.2.1, by omega, by omega⟩
    · have := fl_mem n h
      exact ⟨this.1, this.2.1, by omega, by omega⟩
theorem insK_app {key : Nat → Int} {p : Nat} : ∀ {A B : List Nat}, (∀ b ∈ B, key p < key b) → insK key p (A ++ B) = insK key p A ++ B
  | [], B, h => insK_at (A := []) (fun a ha => by simp at ha) h
  | a :: A, B, h => by
    show (if key a ≤ key p then a :: insK key p (A ++ B) else p :: a :: (A ++ B)) = (if key a ≤ key p then a :: insK key p A else p :: a :: A) ++ B
    split
    · rw [insK_app h]; rfl
    · rfl
theorem bk_no {S : Nat → Bool} {key : Nat → Int} {n : Nat} {lo : Int} : ∀ (c : Nat), ¬ (S n = true ∧ lo ≤ key n ∧ key n < lo + c) → bk S key (n + 1) lo c = bk S key n lo c
  | 0, _ => rfl
  | c + 1, h => by
    show bk S key (n + 1) lo c ++ fl S key (lo + c) (n + 1) = bk S key n lo c ++ fl S key (lo + c) n
    rw [bk_no c (fun q => h ⟨q.1, q.2.1, by omega⟩)]
    congr 1
    show (if S n = true ∧ key n = lo + c then _ else _) = _
    rw [if_neg (fun q => h ⟨q.1, by omega, by omega⟩)]
theorem bk_ins {S : Nat → Bool} {key : Nat → Int} {n : Nat} {lo : Int} : ∀ (c : Nat), S n = true → lo ≤ key n → key n < lo + c → bk S key (n + 1) lo c = insK key n (bk S key n lo c)
  | 0, _, h1, h2 => by omega
  | c + 1, hs, h1, h2 => by
    show bk S key (n + 1) lo c ++ fl S key (lo + c) (n + 1) = insK key n (bk S key n lo c ++ fl S key (lo + c) n)
    by_cases e : key n = lo + c
    · rw [bk_no c (fun q => by omega)]
      have hf : fl S key (lo + c) (n + 1) = fl S key (lo + c) n ++ [n] := by
        show (if S n = true ∧ key n = lo + c then _ else _) = _
        rw [if_pos ⟨hs, e⟩]
      rw [hf]
      have := insK_at (key := key) (p := n) (A := bk S key n lo c ++ fl S key (lo + c) n) (B := []) (fun a ha => by
        rcases List.mem_append.mp ha with h | h
        · have := bk_mem c h; omega
        · have := fl_mem n h; omega) (fun b hb => by simp at hb)
      rw [List.append_nil] at this
      rw [this, List.append_assoc]
    · have hf : fl S key (lo + c) (n + 1) = fl S key (lo + c) n := by
        show (if S n = true ∧ key n = lo + c then _ else _) = _
        rw [if_neg (fun q => e q.2)]
      rw [hf, bk_ins c hs h1 (by omega), insK_app (fun b hb => by have := fl_mem n hb; omega)]
def Sr (S : Nat → Bool) (key : Nat → Int) (lo : Int) (c : Nat) (p : Nat) : Bool := S p && decide (lo ≤ key p ∧ key p < lo + c)
theorem bk_all {S : Nat → Bool} {key : Nat → Int} {lo : Int} {c : Nat} : ∀ n, bk S key n lo c = insAll (Sr S key lo c) key n
  | 0 => by
    show bk S key 0 lo c = []
    induction c with
    | zero => rfl
    | succ c ih => show bk S key 0 lo c ++ [] = []; rw [ih]; rfl
  | n + 1 => by
    show _ = if Sr S key lo c n = true then insK key n (insAll (Sr S key lo c) key n) else insAll (Sr S key lo c) key n
    by_cases h : S n = true ∧ lo ≤ key n ∧ key n < lo + c
    · rw [if_pos (by simp [Sr, h.1, h.2.1, h.2.2]), bk_ins c h.1 h.2.1 h.2.2, bk_all n]
    · rw [if_neg (by simp only [Sr, Bool.and_eq_true, decide_eq_true_eq]; exact h), bk_no c h, bk_all n]
theorem insAll_congr {S S' : Nat → Bool} {key key' : Nat → Int} : ∀ n, (∀ p, p < n → S p = S' p) → (∀ p, p < n → key p = key' p) → insAll S key n = insAll S' key' n
  | 0, _, _ => rfl
  | n + 1, h, hk => by
    have ih := insAll_congr n (fun p hp => h p (by omega)) (fun p hp => hk p (by omega))
    show (if S n = true then insK key n (insAll S key n) else insAll S key n) = if S' n = true then insK key' n (insAll S' key' n) else insAll S' key' n
    rw [h n (by omega), ih]
    split
    · have : ∀ l : List Nat, (∀ q ∈ l, key q = key' q) → insK key n l = insK key' n l := by
        intro l
        induction l with
        | nil => intro _; rfl
        | cons q t iht =>
          intro hl
          show (if key q ≤ key n then _ else _) = if key' q ≤ key' n then _ else _
          rw [hl q List.mem_cons_self, hk n (by omega), iht (fun x hx => hl x (List.mem_cons_of_mem _ hx))]
      exact this _ (fun q hq => hk q (Nat.lt_succ_of_lt ((insAll_mem n).mp hq).1))
    · rfl
theorem fl_len {S : Nat → Bool} {key : Nat → Int} {x : Int} {a b : Nat} (h : a ≤ b) : (fl S key x a).length ≤ (fl S key x b).length := by
  induction b with
  | zero => rw [show a = 0 by omega]; exact Nat.le_refl _
  | succ b ih =>
    by_cases e : a = b + 1
    · rw [e]; exact Nat.le_refl _
    · refine Nat.le_trans (ih (by omega)) ?_
      show _ ≤ (if S b = true ∧ key b = x then fl S key x b ++ [b] else fl S key x b).length
      split
      · rw [List.length_append]; omega
      · exact Nat.le_refl _
theorem bk_len {S : Nat → Bool} {key : Nat → Int} {n : Nat} {lo : Int} {a b : Nat} (h : a ≤ b) : (bk S key n lo a).length ≤ (bk S key n lo b).length := by
  induction b with
  | zero => rw [show a = 0 by omega]; exact Nat.le_refl _
  | succ b ih =>
    by_cases e : a = b + 1
    · rw [e]; exact Nat.le_refl _
    · refine Nat.le_trans (ih (by omega)) ?_
      show _ ≤ (bk S key n lo b ++ fl S key (lo + b) n).length
      rw [List.length_append]; omega
/-- an array holds the list -/
def arrIs (I : II) (r : Nat) (ps : List Nat) : Prop := ∀ (j p : Nat), ps[j]? = some p → I r j = (p : Int)
theorem arrIs_app {I I' : II} {r : Nat} {ps : List Nat} {p : Nat} (h : arrIs I r ps) (e : ∀ j, I' r j = if j = ps.length then (p : Int) else I r j) : arrIs I' r (ps ++ [p]) := fun j q hq => by
  rw [e]
  by_cases hj : j < ps.length
  · rw [List.getElem?_append_left hj] at hq
    rw [if_neg (by omega)]
    exact h j q hq
  · rw [List.getElem?_append_right (by omega)] at hq
    by_cases hz : j = ps.length
    · subst hz
      rw [Nat.sub_self, List.getElem?_cons_zero] at hq
      cases hq
      rw [if_pos rfl]
    · rw [show j - ps.length = (j - ps.length - 1) + 1 by omega, List.getElem?_cons_succ] at hq
      simp at hq
theorem arrIs_same {I I' : II} {r : Nat} {ps : List Nat} (h : arrIs I r ps) (e : ∀ j, I' r j = I r j) : arrIs I' r ps := fun j q hq => by rw [e]; exact h j q hq
theorem aX11_showTrue {I : II} {R : RR} {n : Nat} (hR : SR R) (hn : I 70 0 = n) (hm : n ≤ 20) : Spec mX11_showTrue [vR 68] I R 89 89 (fun _ I' R' => R = R' ∧ (∀ p, p < n → I' 82 p = I 72 p) ∧ frm [82] I I') := by
  refine sX11_showTrue (gX11_showTrue_0 hR ?_)
  have loop : ∀ (d k : Nat) (I1 : II), k + d = n → (∀ p, p < k → I1 82 p = I 72 p) → frm [82] I I1 → wp (kN 89) mX11_showTrue (fun _ I' R' => R = R' ∧ (∀ p, p < n → I' 82 p = I 72 p) ∧ frm [82] I I') 2 [vR 68, vI (k : Int)] [] I1 R 89 := by
    intro d
    induction d with
    | zero =>
      intro k I1 hk h1 f1
      have e := f1 70 (by simp) 0
      rw [hn] at e
      have hkn : k = n := by omega
      exact gX11_showTrue_2 hR ⟨⟨by omega, by omega⟩, ⟨by omega, by omega⟩, fun _ => ⟨rfl, by rw [← hkn]; exact h1, f1⟩, fun hc => absurd (by omega) hc⟩
    | succ d ih =>
      intro k I1 hk h1 f1
      have e := f1 70 (by simp) 0
      rw [hn] at e
      refine gX11_showTrue_2 hR ⟨⟨by omega, by omega⟩, ⟨by omega, by omega⟩, fun hc => absurd hc (by omega), fun _ => ⟨⟨by omega, by omega⟩, ⟨by omega, by omega⟩, fun I9 e9 => ?_⟩⟩
      rw [Int.toNat_natCast] at e9
      rw [show (k : Int) + 1 = ((k + 1 : Nat) : Int) by omega]
      refine ih (k + 1) I9 (by omega) (fun p hp => ?_) (by rw [e9]; exact frm_trans f1 (frm_up (by simp)))
      rw [e9, up2_at]
      split
      · next h => rw [h]; exact f1 72 (by simp) k
      · exact h1 p (by omega)
  exact loop n 0 I (by omega) (fun p hp => by omega) frm_rfl
theorem cntB_mono {S S' : Nat → Bool} (h : ∀ p, S p = true → S' p = true) : ∀ n, cntB S n ≤ cntB S' n
  | 0 => Nat.le_refl _
  | n + 1 => by
    have ih := cntB_mono h n
    show (if S n = true then cntB S n + 1 else cntB S n) ≤ (if S' n = true then cntB S' n + 1 else cntB S' n)
    split
    · next hs => rw [if_pos (h n hs)]; omega
    · split <;> omega
theorem bk_lenN {S : Nat → Bool} {key : Nat → Int} {n : Nat} {lo : Int} (c : Nat) : (bk S key n lo c).length ≤ cntB S n := by
  rw [bk_all, insAll_len]
  exact cntB_mono (fun p hp => by simp only [Sr, Bool.and_eq_true] at hp; exact hp.1) n
/-- the reference's lines -/
def mlIs (I : II) (bl sl : List Nat) : Prop := I 68 19 = bl.length ∧ I 68 20 = sl.length ∧ arrIs I 83 bl ∧ arrIs I 84 sl
def mFr (I I' : II) : Prop := frm [68, 83, 84] I I' ∧ ∀ k, k ≠ 19 → k ≠ 20 → I' 68 k = I 68 k
def BLs (sd v : Nat → Int) (n : Nat) : List Nat := insAll (Sr (S0 sd) (kf 0 v) (-99) 100) (kf 0 v) n
def SLs (sd v : Nat → Int) (n : Nat) : List Nat := insAll (Sr (S1 sd) (kf 1 v) 0 100) (kf 1 v) n
/-- who sells, what is shown, of the reference's first n -/
def mSh (I : II) (n : Nat) (sd v : Nat → Int) : Prop := I 70 0 = n ∧ n ≤ 20 ∧ ∀ p, p < n → I 71 p = sd p ∧ (sd p = 0 ∨ sd p = 1) ∧ I 82 p = v p
theorem mSh_frm {I I' : II} {n : Nat} {sd v : Nat → Int} (h : mSh I n sd v) (hf : mFr I I') : mSh I' n sd v :=
  ⟨(hf.1 70 (by simp) 0).trans h.1, h.2.1, fun p hp => ⟨(hf.1 71 (by simp) p).trans (h.2.2 p hp).1, (h.2.2 p hp).2.1, (hf.1 82 (by simp) p).trans (h.2.2 p hp).2.2⟩⟩
theorem mFr_trans {I I1 I2 : II} (a : mFr I I1) (b : mFr I1 I2) : mFr I I2 := ⟨frm_trans a.1 b.1, fun k h1 h2 => (b.2 k h1 h2).trans (a.2 k h1 h2)⟩
set_option maxHeartbeats 2000000 in
theorem aX11_layLines {I : II} {R : RR} {n : Nat} {sd v : Nat → Int} (hR : SR R) (h : mSh I n sd v) (hb : cntB (S0 sd) n ≤ 10) (hs : cntB (S1 sd) n ≤ 10) (hv : ∀ q, -1000 ≤ v q ∧ v q ≤ 1000) :
    Spec mX11_layLines [vR 68] I R 89 89 (fun _ I' R' => R = R' ∧ mlIs I' (BLs sd v n) (SLs sd v n) ∧ mFr I I') := by
  have h0 := h.1
  have hn := h.2.1
  have inner2 : ∀ (c : Nat) (d m : Nat) (I1 : II), c < 100 → m + d = n → mFr I I1 → I1 68 19 = ((BLs sd v n).length : Int) → arrIs I1 83 (BLs sd v n) → I1 68 20 = ((bk (S1 sd) (kf 1 v) n 0 c ++ fl (S1 sd) (kf 1 v) c m).length : Int) → arrIs I1 84 (bk (S1 sd) (kf 1 v) n 0 c ++ fl (S1 sd) (kf 1 v) c m) →
      (∀ I2, mFr I I2 → I2 68 19 = ((BLs sd v n).length : Int) → arrIs I2 83 (BLs sd v n) → I2 68 20 = ((bk (S1 sd) (kf 1 v) n 0 (c + 1)).length : Int) → arrIs I2 84 (bk (S1 sd) (kf 1 v) n 0 (c + 1)) → wp (kN 89) mX11_layLines (fun _ I' R' => R = R' ∧ mlIs I' (BLs sd v n) (SLs sd v n) ∧ mFr I I') 82 [vR 68, vI ((c + 1 : Nat) : Int), none] [] I2 R 89) →
      wp (kN 89) mX11_layLines (fun _ I' R' => R = R' ∧ mlIs I' (BLs sd v n) (SLs sd v n) ∧ mFr I I') 90 [vR 68, vI (c : Int), vI (m : Int)] [] I1 R 89 := by
    intro c d
    induction d with
    | zero =>
      intro m I1 hc hm f1 x19 x83 x20 x84 kk
      have hmn : m = n := by omega
      subst hmn
      have e := (mSh_frm h f1).1
      refine gX11_layLines_90 hR ⟨⟨by omega, by omega⟩, ⟨by omega, by omega⟩, fun _ => ?_, fun q => absurd (by omega) q⟩
      have ee : bk (S1 sd) (kf 1 v) m 0 (c + 1) = bk (S1 sd) (kf 1 v) m 0 c ++ fl (S1 sd) (kf 1 v) c m := by
        show _ ++ fl _ _ (0 + (c : Int)) m = _
        rw [Int.zero_add]
      rw [show (c : Int) + 1 = ((c + 1 : Nat) : Int) by omega]
      exact kk I1 f1 x19 x83 (by rw [ee]; exact x20) (by rw [ee]; exact x84)
    | succ d ih =>
      intro m I1 hc hm f1 x19 x83 x20 x84 kk
      have hs1 := mSh_frm h f1
      obtain ⟨g1, g2, g3⟩ := hs1.2.2 m (by omega)
      have hvm := hv m
      have e := hs1.1
      have ek : (m : Int) + 1 = ((m + 1 : Nat) : Int) := by omega
      have skip : ¬ (S1 sd m = true ∧ kf 1 v m = c) → wp (kN 89) mX11_layLines (fun _ I' R' => R = R' ∧ mlIs I' (BLs sd v n) (SLs sd v n) ∧ mFr I I') 140 [vR 68, vI (c : Int), vI (m : Int)] [] I1 R 89 := fun q => by
        have ef : fl (S1 sd) (kf 1 v) c (m + 1) = fl (S1 sd) (kf 1 v) c m := by
          show (if S1 sd m = true ∧ kf 1 v m = c then _ else _) = _
          rw [if_neg q]
        refine gX11_layLines_140 hR ?_
        rw [ek]
        exact ih (m + 1) I1 hc (by omega) f1 x19 x83 (by rw [ef]; exact x20) (by rw [ef]; exact x84) kk
      refine gX11_layLines_90 hR ⟨⟨by omega, by omega⟩, ⟨by omega, by omega⟩, fun q => absurd q (by omega), fun _ => ⟨⟨by omega, by omega⟩, ?_⟩⟩
      rw [Int.toNat_natCast, g1, g3]
      refine ⟨by rcases g2 with z | z <;> rw [z] <;> exact ⟨by decide, by decide⟩, fun hz => skip (fun q => by simp [S1] at q; omega), fun hz => ⟨⟨by omega, by omega⟩, ⟨by omega, by omega⟩, ⟨by omega, by omega⟩, fun hy => skip (fun q => by have := q.2; simp [kf] at this; omega), fun hy => ?_⟩⟩
      have hS : S1 sd m = true := by simp [S1, hz]
      have hk : kf 1 v m = c := by simp [kf]; omega
      have ef : fl (S1 sd) (kf 1 v) c (m + 1) = fl (S1 sd) (kf 1 v) c m ++ [m] := by
        show (if S1 sd m = true ∧ kf 1 v m = c then _ else _) = _
        rw [if_pos ⟨hS, hk⟩]
      have hlen : (bk (S1 sd) (kf 1 v) n 0 c ++ fl (S1 sd) (kf 1 v) c (m + 1)).length ≤ 10 := by
        have b1 := bk_lenN (S := S1 sd) (key := kf 1 v) (n := n) (lo := 0) (c + 1)
        have b2 := fl_len (S := S1 sd) (key := kf 1 v) (x := (c : Int)) (show m + 1 ≤ n by omega)
        have b3 : (bk (S1 sd) (kf 1 v) n 0 (c + 1)).length = (bk (S1 sd) (kf 1 v) n 0 c).length + (fl (S1 sd) (kf 1 v) c n).length := by
          show (bk (S1 sd) (kf 1 v) n 0 c ++ fl (S1 sd) (kf 1 v) (0 + (c : Int)) n).length = _
          rw [Int.zero_add, List.length_append]
        rw [List.length_append]
        omega
      have hlen2 : (bk (S1 sd) (kf 1 v) n 0 c ++ fl (S1 sd) (kf 1 v) c (m + 1)).length = (bk (S1 sd) (kf 1 v) n 0 c ++ fl (S1 sd) (kf 1 v) c m).length + 1 := by
        rw [ef, List.length_append, List.length_append, List.length_append]; simp; omega
      refine ⟨⟨by omega, by omega⟩, fun I9 e9 I10 e10 => gX11_layLines_140 hR ?_⟩
      rw [x20, Int.toNat_natCast] at e9
      rw [ek]
      have y : ∀ j, I10 84 j = if j = (bk (S1 sd) (kf 1 v) n 0 c ++ fl (S1 sd) (kf 1 v) c m).length then (m : Int) else I1 84 j := fun j => by
        rw [e10, up2_ne (by decide), e9, up2_at]
      refine ih (m + 1) I10 hc (by omega) ⟨?_, fun k hk1 hk2 => ?_⟩ ?_ (arrIs_same x83 (fun j => by rw [e10, up2_ne (by decide), e9, up2_ne (by decide)])) ?_ ?_ kk
      · rw [e10, e9]
        exact frm_trans (frm_trans f1.1 (frm_up (by simp))) (frm_up (by simp))
      · rw [e10, up2_nj hk2, e9, up2_ne (by decide)]
        exact f1.2 k hk1 hk2
      · rw [e10, up2_nj (by decide), e9, up2_ne (by decide), x19]
      · rw [e10, up2_self, e9, up2_ne (by decide), x20, hlen2]; omega
      · rw [ef, ← List.append_assoc]
        exact arrIs_app x84 y
  have outer2 : ∀ (d c : Nat) (I1 : II), c + d = 100 → mFr I I1 → I1 68 19 = ((BLs sd v n).length : Int) → arrIs I1 83 (BLs sd v n) → I1 68 20 = ((bk (S1 sd) (kf 1 v) n 0 c).length : Int) → arrIs I1 84 (bk (S1 sd) (kf 1 v) n 0 c) →
      wp (kN 89) mX11_layLines (fun _ I' R' => R = R' ∧ mlIs I' (BLs sd v n) (SLs sd v n) ∧ mFr I I') 82 [vR 68, vI (c : Int), none] [] I1 R 89 := by
    intro d
    induction d with
    | zero =>
      intro c I1 hc f1 x19 x83 x20 x84
      have hc : c = 100 := by omega
      subst hc
      rw [bk_all] at x20 x84
      exact gX11_layLines_82 hR ⟨⟨by omega, by omega⟩, fun _ => ⟨rfl, ⟨x19, x20, x83, x84⟩, f1⟩, fun q => absurd (by omega) q⟩
    | succ d ih =>
      intro c I1 hc f1 x19 x83 x20 x84
      refine gX11_layLines_82 hR ⟨⟨by omega, by omega⟩, fun q => absurd q (by omega), fun _ => inner2 c n 0 I1 (by omega) (by omega) f1 x19 x83 (by rw [show fl (S1 sd) (kf 1 v) c 0 = [] from rfl, List.append_nil]; exact x20) (by rw [show fl (S1 sd) (kf 1 v) c 0 = [] from rfl, List.append_nil]; exact x84) (fun I2 a1 a2 a3 a4 a5 => ih (c + 1) I2 (by omega) a1 a2 a3 a4 a5)⟩
  have inner1 : ∀ (c : Nat) (d m : Nat) (I1 : II), c < 100 → m + d = n → mFr I I1 → I1 68 20 = 0 → I1 68 19 = ((bk (S0 sd) (kf 0 v) n (-99) c ++ fl (S0 sd) (kf 0 v) (-99 + c) m).length : Int) → arrIs I1 83 (bk (S0 sd) (kf 0 v) n (-99) c ++ fl (S0 sd) (kf 0 v) (-99 + c) m) →
      (∀ I2, mFr I I2 → I2 68 20 = 0 → I2 68 19 = ((bk (S0 sd) (kf 0 v) n (-99) (c + 1)).length : Int) → arrIs I2 83 (bk (S0 sd) (kf 0 v) n (-99) (c + 1)) → wp (kN 89) mX11_layLines (fun _ I' R' => R = R' ∧ mlIs I' (BLs sd v n) (SLs sd v n) ∧ mFr I I') 13 [vR 68, vI (99 - ((c + 1 : Nat) : Int)), none] [] I2 R 89) →
      wp (kN 89) mX11_layLines (fun _ I' R' => R = R' ∧ mlIs I' (BLs sd v n) (SLs sd v n) ∧ mFr I I') 19 [vR 68, vI (99 - (c : Int)), vI (m : Int)] [] I1 R 89 := by
    intro c d
    induction d with
    | zero =>
      intro m I1 hc hm f1 x20 x19 x83 kk
      have hmn : m = n := by omega
      subst hmn
      have e := (mSh_frm h f1).1
      refine gX11_layLines_19 hR ⟨⟨by omega, by omega⟩, ⟨by omega, by omega⟩, fun _ => ?_, fun q => absurd (by omega) q⟩
      rw [show (99 - (c : Int)) + (-1) = 99 - ((c + 1 : Nat) : Int) by omega]
      exact kk I1 f1 x20 x19 x83
    | succ d ih =>
      intro m I1 hc hm f1 x20 x19 x83 kk
      have hs1 := mSh_frm h f1
      obtain ⟨g1, g2, g3⟩ := hs1.2.2 m (by omega)
      have hvm := hv m
      have e := hs1.1
      have ek : (m : Int) + 1 = ((m + 1 : Nat) : Int) := by omega
      have skip : ¬ (S0 sd m = true ∧ kf 0 v m = -99 + c) → wp (kN 89) mX11_layLines (fun _ I' R' => R = R' ∧ mlIs I' (BLs sd v n) (SLs sd v n) ∧ mFr I I') 68 [vR 68, vI (99 - (c : Int)), vI (m : Int)] [] I1 R 89 := fun q => by
        have ef : fl (S0 sd) (kf 0 v) (-99 + c) (m + 1) = fl (S0 sd) (kf 0 v) (-99 + c) m := by
          show (if S0 sd m = true ∧ kf 0 v m = -99 + c then _ else _) = _
          rw [if_neg q]
        refine gX11_layLines_68 hR ?_
        rw [ek]
        exact ih (m + 1) I1 hc (by omega) f1 x20 (by rw [ef]; exact x19) (by rw [ef]; exact x83) kk
      refine gX11_layLines_19 hR ⟨⟨by omega, by omega⟩, ⟨by omega, by omega⟩, fun q => absurd q (by omega), fun _ => ⟨⟨by omega, by omega⟩, ?_⟩⟩
      rw [Int.toNat_natCast, g1, g3]
      refine ⟨by rcases g2 with z | z <;> rw [z] <;> exact ⟨by decide, by decide⟩, fun hz => skip (fun q => by simp [S0] at q; omega), fun hz => ⟨⟨by omega, by omega⟩, ⟨by omega, by omega⟩, ⟨by omega, by omega⟩, fun hy => skip (fun q => by have := q.2; simp [kf] at this; omega), fun hy => ?_⟩⟩
      have hS : S0 sd m = true := by simp [S0, hz]
      have hk : kf 0 v m = -99 + c := by simp [kf]; omega
      have ef : fl (S0 sd) (kf 0 v) (-99 + c) (m + 1) = fl (S0 sd) (kf 0 v) (-99 + c) m ++ [m] := by
        show (if S0 sd m = true ∧ kf 0 v m = -99 + c then _ else _) = _
        rw [if_pos ⟨hS, hk⟩]
      have hlen : (bk (S0 sd) (kf 0 v) n (-99) c ++ fl (S0 sd) (kf 0 v) (-99 + c) (m + 1)).length ≤ 10 := by
        have b1 := bk_lenN (S := S0 sd) (key := kf 0 v) (n := n) (lo := -99) (c + 1)
        have b2 := fl_len (S := S0 sd) (key := kf 0 v) (x := (-99 + c : Int)) (show m + 1 ≤ n by omega)
        have b3 : (bk (S0 sd) (kf 0 v) n (-99) (c + 1)).length = (bk (S0 sd) (kf 0 v) n (-99) c).length + (fl (S0 sd) (kf 0 v) (-99 + c) n).length := by
          show (bk (S0 sd) (kf 0 v) n (-99) c ++ fl (S0 sd) (kf 0 v) (-99 + (c : Int)) n).length = _
          rw [List.length_append]
        rw [List.length_append]
        omega
      have hlen2 : (bk (S0 sd) (kf 0 v) n (-99) c ++ fl (S0 sd) (kf 0 v) (-99 + c) (m + 1)).length = (bk (S0 sd) (kf 0 v) n (-99) c ++ fl (S0 sd) (kf 0 v) (-99 + c) m).length + 1 := by
        rw [ef, List.length_append, List.length_append, List.length_append]; simp; omega
      refine ⟨⟨by omega, by omega⟩, fun I9 e9 I10 e10 => gX11_layLines_68 hR ?_⟩
      rw [x19, Int.toNat_natCast] at e9
      rw [ek]
      have y : ∀ j, I10 83 j = if j = (bk (S0 sd) (kf 0 v) n (-99) c ++ fl (S0 sd) (kf 0 v) (-99 + c) m).length then (m : Int) else I1 83 j := fun j => by
        rw [e10, up2_ne (by decide), e9, up2_at]
      refine ih (m + 1) I10 hc (by omega) ⟨?_, fun k hk1 hk2 => ?_⟩ ?_ ?_ ?_ kk
      · rw [e10, e9]
        exact frm_trans (frm_trans f1.1 (frm_up (by simp))) (frm_up (by simp))
      · rw [e10, up2_nj hk1, e9, up2_ne (by decide)]
        exact f1.2 k hk1 hk2
      · rw [e10, up2_nj (by decide), e9, up2_ne (by decide), x20]
      · rw [e10, up2_self, e9, up2_ne (by decide), x19, hlen2]; omega
      · rw [ef, ← List.append_assoc]
        exact arrIs_app x83 y
  have outer1 : ∀ (d c : Nat) (I1 : II), c + d = 100 → mFr I I1 → I1 68 20 = 0 → I1 68 19 = ((bk (S0 sd) (kf 0 v) n (-99) c).length : Int) → arrIs I1 83 (bk (S0 sd) (kf 0 v) n (-99) c) →
      wp (kN 89) mX11_layLines (fun _ I' R' => R = R' ∧ mlIs I' (BLs sd v n) (SLs sd v n) ∧ mFr I I') 13 [vR 68, vI (99 - (c : Int)), none] [] I1 R 89 := by
    intro d
    induction d with
    | zero =>
      intro c I1 hc f1 x20 x19 x83
      have hc : c = 100 := by omega
      subst hc
      rw [bk_all] at x19 x83
      refine gX11_layLines_13 hR ⟨⟨by omega, by omega⟩, fun _ => ?_, fun q => absurd (by omega) q⟩
      exact outer2 100 0 I1 (by omega) f1 x19 x83 x20 (fun j p hp => by simp [bk] at hp)
    | succ d ih =>
      intro c I1 hc f1 x20 x19 x83
      refine gX11_layLines_13 hR ⟨⟨by omega, by omega⟩, fun q => absurd q (by omega), fun _ => inner1 c n 0 I1 (by omega) (by omega) f1 x20 (by rw [show fl (S0 sd) (kf 0 v) (-99 + c) 0 = [] from rfl, List.append_nil]; exact x19) (by rw [show fl (S0 sd) (kf 0 v) (-99 + c) 0 = [] from rfl, List.append_nil]; exact x83) (fun I2 a1 a2 a3 a4 => ih (c + 1) I2 (by omega) a1 a2 a3 a4)⟩
  refine sX11_layLines (gX11_layLines_0 hR (fun I1 e1 I2 e2 => ?_))
  refine outer1 100 0 I2 (by omega) ⟨?_, fun k h1 h2 => ?_⟩ ?_ ?_ (fun j p hp => by simp [bk] at hp)
  · rw [e2, e1]
    exact frm_trans (frm_up (by simp)) (frm_up (by simp))
  · rw [e2, up2_nj h2, e1, up2_nj h1]
  · rw [e2, up2_self]
  · rw [e2, up2_nj (by decide), e1, up2_self]; rfl
