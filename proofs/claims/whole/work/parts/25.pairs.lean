/-! pairs: the mean gain in lowest terms -/
def sumN (f : Nat → Int) : Nat → Int
  | 0 => 0
  | n + 1 => sumN f n + f n
theorem sumN_congr {f g : Nat → Int} : ∀ n, (∀ p, p < n → f p = g p) → sumN f n = sumN g n
  | 0, _ => rfl
  | n + 1, h => by
    show sumN f n + f n = sumN g n + g n
    rw [sumN_congr n (fun p hp => h p (by omega)), h n (by omega)]
theorem sumN_0 : ∀ n, sumN (fun _ => 0) n = 0
  | 0 => rfl
  | n + 1 => by show sumN _ n + 0 = 0; rw [sumN_0 n]; rfl
theorem sumN_bd {f : Nat → Int} {B : Int} (h0 : 0 ≤ B) : ∀ n, (∀ p, 0 ≤ f p ∧ f p ≤ B) → 0 ≤ sumN f n ∧ sumN f n ≤ B * n
  | 0, _ => by show 0 ≤ (0 : Int) ∧ (0 : Int) ≤ B * ((0 : Nat) : Int); simp
  | n + 1, h => by
    have := sumN_bd h0 n h
    have h1 := h n
    show 0 ≤ sumN f n + f n ∧ sumN f n + f n ≤ B * ((n + 1 : Nat) : Int)
    rw [show ((n + 1 : Nat) : Int) = (n : Int) + 1 by omega, Int.mul_add, Int.mul_one]
    omega
theorem flt_sum {S : Nat → Bool} {f : Nat → Int} : ∀ n, ((flt S n).map f).sum = sumN (fun p => if S p = true then f p else 0) n
  | 0 => rfl
  | n + 1 => by
    show (((if S n = true then flt S n ++ [n] else flt S n)).map f).sum = sumN _ n + (if S n = true then f n else 0)
    rw [← flt_sum n]
    split
    · simp
    · simp
theorem flt_len {S : Nat → Bool} : ∀ n, (flt S n).length = cntB S n
  | 0 => rfl
  | n + 1 => by
    show (if S n = true then flt S n ++ [n] else flt S n).length = if S n = true then cntB S n + 1 else cntB S n
    split
    · rw [List.length_append, flt_len n]; rfl
    · exact flt_len n
theorem flt_mem {S : Nat → Bool} {p : Nat} : ∀ n, p ∈ flt S n → p < n ∧ S p = true
  | 0, h => by simp [flt] at h
  | n + 1, h => by
    unfold flt at h
    split at h
    · next hs =>
      rcases List.mem_append.mp h with h | h
      · have := flt_mem n h; exact ⟨by omega, this.2⟩
      · rw [List.mem_singleton] at h; subst h; exact ⟨by omega, hs⟩
    · have := flt_mem n h; exact ⟨by omega, this.2⟩
def hP (ρ : RM) (b s : Nat) : Int := if rC ρ s + rP ρ 1 ≤ rC ρ b then rC ρ b - rC ρ s else 0
def gP (ρ : RM) (b s : Nat) : Int := if rS ρ b = 0 ∧ rS ρ s = 1 then hP ρ b s else 0
def pairSum (ρ : RM) : Int := sumN (fun b => sumN (gP ρ b) (rN ρ)) (rN ρ)
def downP (ρ : RM) : Nat := max (cntB (S0 (rS ρ)) (rN ρ)) (cntB (S1 (rS ρ)) (rN ρ))
def gcdP (ρ : RM) : Nat := Nat.gcd (pairSum ρ).toNat (downP ρ)
def pairsSp (ρ : RM) (w : Int) : Int := if 0 ≤ w ∧ w ≤ 1 then (if w = 0 then pairSum ρ / (gcdP ρ : Int) else (downP ρ : Int) / (gcdP ρ : Int)) else -1
theorem hP_bd {ρ : RM} (hok : okRM ρ) (b s : Nat) : 0 ≤ hP ρ b s ∧ hP ρ b s ≤ 99 := by
  have h1 := hok.2.1 b
  have h2 := hok.2.1 s
  have := hok.2.2.2.1
  unfold hP; split <;> omega
theorem gP_bd {ρ : RM} (hok : okRM ρ) (b s : Nat) : 0 ≤ gP ρ b s ∧ gP ρ b s ≤ 99 := by
  have := hP_bd hok b s
  unfold gP; split <;> omega
theorem pairSum_bd {ρ : RM} (hok : okRM ρ) : 0 ≤ pairSum ρ ∧ pairSum ρ ≤ 39600 := by
  have hn := hok.1
  have h1 : ∀ b, 0 ≤ sumN (gP ρ b) (rN ρ) ∧ sumN (gP ρ b) (rN ρ) ≤ 1980 := fun b => by
    have := sumN_bd (f := gP ρ b) (B := 99) (by decide) (rN ρ) (gP_bd hok b)
    omega
  have := sumN_bd (f := fun b => sumN (gP ρ b) (rN ρ)) (B := 1980) (by decide) (rN ρ) h1
  show 0 ≤ sumN _ _ ∧ sumN _ _ ≤ _
  omega
theorem downP_bd {ρ : RM} (hok : okRM ρ) : 1 ≤ downP ρ ∧ downP ρ ≤ 10 := by
  have h1 := hok.2.2.2.2.2.2.2.1
  have h2 := hok.2.2.2.2.2.2.2.2
  unfold downP
  omega
theorem gcdP_pos {ρ : RM} (hok : okRM ρ) : 1 ≤ gcdP ρ := Nat.gcd_pos_of_pos_right _ (by have := downP_bd hok; omega)
theorem gcdP_le {ρ : RM} (hok : okRM ρ) : gcdP ρ ≤ downP ρ := Nat.gcd_le_right _ (by have := downP_bd hok; omega)
/-- the class's sum, seller by seller of each buyer -/
theorem pairSum_X {ρ : RM} : ((flt (S0 (rS ρ)) (rN ρ)).map (fun b => ((flt (S1 (rS ρ)) (rN ρ)).map (hP ρ b)).sum)).sum = pairSum ρ := by
  rw [flt_sum]
  refine sumN_congr _ (fun b _ => ?_)
  by_cases e : rS ρ b = 0
  · rw [if_pos (by simp [S0, e]), flt_sum]
    refine sumN_congr _ (fun s _ => ?_)
    unfold gP
    by_cases e2 : rS ρ s = 1
    · rw [if_pos (by simp [S1, e2]), if_pos ⟨e, e2⟩]
    · rw [if_neg (by simp [S1, e2]), if_neg (fun q => e2 q.2)]
  · rw [if_neg (by simp [S0, e])]
    rw [sumN_congr (g := fun _ => 0) _ (fun s _ => by unfold gP; rw [if_neg (fun q => e q.1)]), sumN_0]
theorem psum_all {v : Nat → Int} {ps : List Nat} : psum v ps ps.length = (ps.map v).sum := by unfold psum; rw [List.take_length]
set_option maxHeartbeats 1000000 in
theorem aX10_gainOfAll {I : II} {R : RR} {ρ : RM} (hR : SR R) (hr : R 1 2 = 6 ∨ R 1 2 = 12) (h : XR I R (R 1 2) ρ) (hok : okRM ρ) :
    Spec mX10_gainOfAllMeetings [vR 1] I R 89 89 (fun rv I' R' => R = R' ∧ I = I' ∧ rv = vI (pairSum ρ)) := by
  obtain ⟨o, a0, a1, a2, a3, a4⟩ := roomO hR hr
  obtain ⟨x5, x6, x7, x8, x9, x10, x11, x12, xp, xb, xs⟩ := h
  have hn := hok.1
  have hn0 := hok.2.2.2.2.2.2.2.1
  have hn1 := hok.2.2.2.2.2.2.2.2
  have htx := hok.2.2.2.1
  have l0 := flt_len (S := S0 (rS ρ)) (rN ρ)
  have l1 := flt_len (S := S1 (rS ρ)) (rN ρ)
  refine sX10_gainOfAllMeetings (gX10_gainOfAllMeetings_0 hR ?_)
  have inner : ∀ (b j : Nat) (a0' : Int), (flt (S0 (rS ρ)) (rN ρ))[j]? = some b →
      (∀ a, a = a0' + ((flt (S1 (rS ρ)) (rN ρ)).map (hP ρ b)).sum → wp (kN 89) mX10_gainOfAllMeetings (fun rv I' R' => R = R' ∧ I = I' ∧ rv = vI (pairSum ρ)) 4 [vR 1, vI a, vI ((j + 1 : Nat) : Int), none, none, none] [] I R 89) →
      ∀ (d i : Nat) (a : Int), i + d = (flt (S1 (rS ρ)) (rN ρ)).length → a = a0' + psum (hP ρ b) (flt (S1 (rS ρ)) (rN ρ)) i → wp (kN 89) mX10_gainOfAllMeetings (fun rv I' R' => R = R' ∧ I = I' ∧ rv = vI (pairSum ρ)) 17 [vR 1, vI a, vI (j : Int), vI (i : Int), none, none] [] I R 89 := by
    intro b j a0' hb kk d
    have hjl := (List.getElem?_eq_some_iff.mp hb).1
    have hbm := flt_mem _ (List.mem_of_getElem? hb)
    induction d with
    | zero =>
      intro i a hi ha
      refine gX10_gainOfAllMeetings_17 hR ⟨o, ⟨by omega, by omega⟩, ⟨by omega, by omega⟩, fun _ => ?_, fun q => absurd (by omega) q⟩
      rw [show (j : Int) + 1 = ((j + 1 : Nat) : Int) by omega]
      refine kk a ?_
      rw [ha, show i = (flt (S1 (rS ρ)) (rN ρ)).length by omega, psum_all]
    | succ d ih =>
      intro i a hi ha
      obtain ⟨s, hs⟩ : ∃ q', (flt (S1 (rS ρ)) (rN ρ))[i]? = some q' := ⟨(flt (S1 (rS ρ)) (rN ρ))[i], List.getElem?_eq_getElem (by omega)⟩
      have hsm := flt_mem _ (List.mem_of_getElem? hs)
      have eb := xb j b hb
      have es := xs i s hs
      have cb := (xp b hbm.1).2.1
      have cs := (xp s hsm.1).2.1
      have bb1 := hok.2.1 b
      have bs1 := hok.2.1 s
      refine gX10_gainOfAllMeetings_17 hR ⟨o, ⟨by omega, by omega⟩, ⟨by omega, by omega⟩, fun q => absurd q (by omega), fun _ => ⟨a3, ⟨by omega, by omega⟩, a1, ?_⟩⟩
      rw [Int.toNat_natCast, Int.toNat_natCast, eb, es, Int.toNat_natCast, Int.toNat_natCast, cb, cs, x9]
      have ei : (i : Int) + 1 = ((i + 1 : Nat) : Int) := by omega
      refine ⟨⟨by omega, by omega⟩, a4, ⟨by omega, by omega⟩, ⟨by omega, by omega⟩, ⟨by omega, by omega⟩, ⟨by omega, by omega⟩, fun hlt => gX10_gainOfAllMeetings_89 hR ?_, fun hlt => gX10_gainOfAllMeetings_89 hR ?_⟩
      · rw [ei]
        refine ih (i + 1) a (by omega) ?_
        rw [psum_succ hs, ha]
        unfold hP
        rw [if_neg (by omega)]
        omega
      · rw [ei]
        refine ih (i + 1) _ (by omega) ?_
        rw [psum_succ hs, ha]
        unfold hP
        rw [if_pos (by omega)]
        omega
  have outer : ∀ (d j : Nat) (a : Int), j + d = (flt (S0 (rS ρ)) (rN ρ)).length → a = psum (fun b => ((flt (S1 (rS ρ)) (rN ρ)).map (hP ρ b)).sum) (flt (S0 (rS ρ)) (rN ρ)) j → wp (kN 89) mX10_gainOfAllMeetings (fun rv I' R' => R = R' ∧ I = I' ∧ rv = vI (pairSum ρ)) 4 [vR 1, vI a, vI (j : Int), none, none, none] [] I R 89 := by
    intro d
    induction d with
    | zero =>
      intro j a hj ha
      refine gX10_gainOfAllMeetings_4 hR ⟨o, ⟨by omega, by omega⟩, ⟨by omega, by omega⟩, fun _ => ⟨rfl, rfl, ?_⟩, fun q => absurd (by omega) q⟩
      rw [ha, show j = (flt (S0 (rS ρ)) (rN ρ)).length by omega, psum_all, pairSum_X]
    | succ d ih =>
      intro j a hj ha
      obtain ⟨b, hb⟩ : ∃ q', (flt (S0 (rS ρ)) (rN ρ))[j]? = some q' := ⟨(flt (S0 (rS ρ)) (rN ρ))[j], List.getElem?_eq_getElem (by omega)⟩
      refine gX10_gainOfAllMeetings_4 hR ⟨o, ⟨by omega, by omega⟩, ⟨by omega, by omega⟩, fun q => absurd q (by omega), fun _ => ?_⟩
      exact inner b j a hb (fun a' ha' => ih (j + 1) a' (by omega) (by rw [psum_succ hb, ha', ha])) (flt (S1 (rS ρ)) (rN ρ)).length 0 a (by omega) (by rw [psum_0]; omega)
  exact outer (flt (S0 (rS ρ)) (rN ρ)).length 0 0 (by omega) (by rw [psum_0])
theorem natmod {a b : Nat} : (a : Int) % (b : Int) = ((a % b : Nat) : Int) := (Int.natCast_emod a b).symm
set_option maxHeartbeats 1000000 in
theorem aX10_pairs {I : II} {R : RR} {ρ : RM} {w : Int} (hR : SR R) (hr : R 1 2 = 6 ∨ R 1 2 = 12) (h : XR I R (R 1 2) ρ) (hok : okRM ρ) (hw : InI w) :
    Spec mX10_pairs [vR 1, vI w] I R 89 89 (fun rv I' R' => R = R' ∧ I = I' ∧ rv = vL (pairsSp ρ w)) := by
  obtain ⟨o, a0, a1, a2, a3, a4⟩ := roomO hR hr
  have hn0 := hok.2.2.2.2.2.2.2.1
  have hn1 := hok.2.2.2.2.2.2.2.2
  have bs := pairSum_bd hok
  have bd := downP_bd hok
  have gp := gcdP_pos hok
  have gl := gcdP_le hok
  refine sX10_pairs (gX10_pairs_0 hR ⟨hw, fun hc => ⟨_, aX10_gainOfAll hR hr h hok, fun x3 I3 R3 hq => ?_⟩, fun hc => ⟨rfl, rfl, by unfold pairsSp; rw [if_neg hc]⟩⟩)
  obtain ⟨rfl, rfl, e3⟩ := hq
  cases e3
  rw [h.2.1, h.2.2.1]
  refine ⟨rfl, o, ⟨by omega, by omega⟩, ⟨by omega, by omega⟩, ?_⟩
  rw [show max ((cntB (S0 (rS ρ)) (rN ρ) : Nat) : Int) ((cntB (S1 (rS ρ)) (rN ρ) : Nat) : Int) = (downP ρ : Int) by unfold downP; omega]
  obtain ⟨A, hA⟩ := nat_of bs.1
  have hg : gcdP ρ = Nat.gcd A (downP ρ) := by unfold gcdP; rw [hA, Int.toNat_natCast]
  have loop : ∀ (t d m : Nat), d + t = downP ρ + 1 → 2 ≤ d → 1 ≤ m → m ∣ A → m ∣ downP ρ → m ≤ downP ρ → (∀ e, e < d → e ∣ A → e ∣ downP ρ → e ≤ m) → wp (kN 89) mX10_pairs (fun rv I' R' => R = R' ∧ I = I' ∧ rv = vL (pairsSp ρ w)) 42 [none, vI w, vI (A : Int), vI (downP ρ : Int), vI (m : Int), vI (d : Int)] [] I R 89 := by
    intro t
    induction t with
    | zero =>
      intro d m hd h2 hm m1 m2 m3 hall
      have em : m = gcdP ρ := by
        rw [hg]
        refine Nat.le_antisymm ?_ (hall _ ?_ (Nat.gcd_dvd_left _ _) (Nat.gcd_dvd_right _ _))
        · exact Nat.le_of_dvd (by rw [← hg]; omega) (Nat.dvd_gcd m1 m2)
        · have : Nat.gcd A (downP ρ) ≤ downP ρ := Nat.gcd_le_right _ (by omega)
          omega
      subst em
      have q1 : 0 ≤ (downP ρ : Int) / (gcdP ρ : Int) := Int.ediv_nonneg (by omega) (by omega)
      have q2 : (downP ρ : Int) / (gcdP ρ : Int) ≤ (downP ρ : Int) := Int.ediv_le_self _ (by omega)
      have q3 : 0 ≤ (A : Int) / (gcdP ρ : Int) := Int.ediv_nonneg (by omega) (by omega)
      have q4 : (A : Int) / (gcdP ρ : Int) ≤ (A : Int) := Int.ediv_le_self _ (by omega)
      refine gX10_pairs_42 hR ⟨⟨by omega, by omega⟩, ⟨by omega, by omega⟩, fun _ => ⟨hw, fun hw0 => ⟨⟨by omega, by omega, by omega, by omega⟩, ⟨by omega, by omega⟩, rfl, rfl, ?_⟩, fun hw0 => ⟨⟨by omega, by omega, by omega, by omega⟩, ⟨by omega, by omega⟩, rfl, rfl, ?_⟩⟩, fun q => absurd (by omega) q⟩
      · unfold pairsSp; rw [if_pos hc, if_neg hw0]
      · unfold pairsSp; rw [if_pos hc, if_pos hw0, hA]
    | succ t ih =>
      intro d m hd h2 hm m1 m2 m3 hall
      have ed : (d : Int) + 1 = ((d + 1 : Nat) : Int) := by omega
      have r1 : A % d < d := Nat.mod_lt _ (by omega)
      have r2 : downP ρ % d < d := Nat.mod_lt _ (by omega)
      have no : ¬ (d ∣ A ∧ d ∣ downP ρ) → wp (kN 89) mX10_pairs (fun rv I' R' => R = R' ∧ I = I' ∧ rv = vL (pairsSp ρ w)) 66 [none, vI w, vI (A : Int), vI (downP ρ : Int), vI (m : Int), vI (d : Int)] [] I R 89 := fun hnd => by
        refine gX10_pairs_66 hR ?_
        rw [ed]
        refine ih (d + 1) m (by omega) (by omega) hm m1 m2 m3 (fun e he e1 e2 => ?_)
        by_cases x : e = d
        · subst x; exact absurd ⟨e1, e2⟩ hnd
        · exact hall e (by omega) e1 e2
      refine gX10_pairs_42 hR ⟨⟨by omega, by omega⟩, ⟨by omega, by omega⟩, fun q => absurd q (by omega), fun _ => ?_⟩
      rw [natmod, natmod]
      refine ⟨⟨by omega, by omega, by omega, by omega⟩, ⟨by omega, by omega⟩, fun q => no (fun z => q (by rw [Nat.mod_eq_zero_of_dvd z.1]; rfl)), fun z1 => ⟨⟨by omega, by omega, by omega, by omega⟩, ⟨by omega, by omega⟩, fun q => no (fun z => q (by rw [Nat.mod_eq_zero_of_dvd z.2]; rfl)), fun z2 => gX10_pairs_66 hR ?_⟩⟩
      rw [ed]
      exact ih (d + 1) d (by omega) (by omega) (by omega) (Nat.dvd_of_mod_eq_zero (by omega)) (Nat.dvd_of_mod_eq_zero (by omega)) (by omega) (fun e he _ _ => by omega)
  rw [hA]
  exact loop (downP ρ - 1) 2 1 (by omega) (by omega) (by omega) (Nat.one_dvd _) (Nat.one_dvd _) (by omega) (fun e he _ _ => by omega)
theorem aX11_manyOf {I : II} {R : RR} {ρ : RM} {sd : Int} (hR : SR R) (h : MRo I ρ) (hok : okRM ρ) (hs : sd = 0 ∨ sd = 1) :
    Spec mX11_manyOf [vR 68, vI sd] I R 89 89 (fun rv I' R' => R = R' ∧ I = I' ∧ rv = vI (cntB (fun p => decide (rS ρ p = sd)) (rN ρ) : Int)) := by
  have hn := hok.1
  refine sX11_manyOf (gX11_manyOf_0 hR ?_)
  have loop : ∀ (d k : Nat) (a : Int), k + d = rN ρ → a = (cntB (fun p => decide (rS ρ p = sd)) k : Int) → wp (kN 89) mX11_manyOf (fun rv I' R' => R = R' ∧ I = I' ∧ rv = vI (cntB (fun p => decide (rS ρ p = sd)) (rN ρ) : Int)) 4 [vR 68, vI sd, vI a, vI (k : Int)] [] I R 89 := by
    intro d
    induction d with
    | zero =>
      intro k a hk ha
      have e := h.1
      exact gX11_manyOf_4 hR ⟨⟨by omega, by omega⟩, ⟨by omega, by omega⟩, fun _ => ⟨rfl, rfl, by rw [ha, show k = rN ρ by omega]⟩, fun q => absurd (by omega) q⟩
    | succ d ih =>
      intro k a hk ha
      have e := h.1
      have h1 := (h.2.1 k (by omega)).1
      have h01 := (hok.2.1 k).1
      have ek : (k : Int) + 1 = ((k + 1 : Nat) : Int) := by omega
      refine gX11_manyOf_4 hR ⟨⟨by omega, by omega⟩, ⟨by omega, by omega⟩, fun q => absurd q (by omega), fun _ => ⟨⟨by omega, by omega⟩, ?_⟩⟩
      rw [Int.toNat_natCast, h1, ek]
      refine ⟨⟨by omega, by omega⟩, ⟨by omega, by omega⟩, fun hne => ih (k + 1) _ (by omega) ?_, fun he => ih (k + 1) _ (by omega) ?_⟩
      · rw [ha]
        show _ = (((if decide (rS ρ k = sd) = true then cntB (fun p => decide (rS ρ p = sd)) k + 1 else cntB (fun p => decide (rS ρ p = sd)) k) : Nat) : Int)
        rw [if_neg (by simpa using hne)]; omega
      · rw [ha]
        show _ = (((if decide (rS ρ k = sd) = true then cntB (fun p => decide (rS ρ p = sd)) k + 1 else cntB (fun p => decide (rS ρ p = sd)) k) : Nat) : Int)
        rw [if_pos (by simpa using he)]; omega
  exact loop (rN ρ) 0 0 (by omega) rfl
theorem aX11_common {I : II} {R : RR} {A B : Nat} (hR : SR R) (hA : A ≤ 100000) (hB : B ≤ 100000) :
    Spec mX11_common [vL A, vL B] I R 89 89 (fun rv I' R' => R = R' ∧ I = I' ∧ rv = vL (Nat.gcd A B : Int)) := by
  refine sX11_common (gX11_common_0 hR ?_)
  have loop : ∀ (f x y : Nat), y < f → x ≤ 100000 → y ≤ 100000 → Nat.gcd x y = Nat.gcd A B → wp (kN 89) mX11_common (fun rv I' R' => R = R' ∧ I = I' ∧ rv = vL (Nat.gcd A B : Int)) 6 [none, none, none, none, vL (x : Int), none, vL (y : Int), none, none, none] [] I R 89 := by
    intro f
    induction f with
    | zero => intro x y hy; omega
    | succ f ih =>
      intro x y hy hx hy2 hg
      refine gX11_common_6 hR ⟨⟨by omega, by omega⟩, fun hz => ⟨rfl, rfl, ?_⟩, fun hz => ⟨⟨by omega, by omega, by omega, by omega⟩, ?_⟩⟩
      · have : y = 0 := by omega
        subst this
        rw [← hg, Nat.gcd_zero_right]
      · rw [natmod]
        have hm : x % y < y := Nat.mod_lt _ (by omega)
        refine ih y (x % y) (by omega) hy2 (by omega) ?_
        rw [← hg, Nat.gcd_comm x y, Nat.gcd_rec y x, Nat.gcd_comm]
  exact loop (B + 1) A B (by omega) hA hB rfl
set_option maxHeartbeats 1000000 in
theorem aX11_pairs {I : II} {R : RR} {ρ : RM} {w : Int} (hR : SR R) (h : MRo I ρ) (hok : okRM ρ) (hw : InI w) :
    Spec mX11_pairs [vR 68, vI w] I R 89 89 (fun rv I' R' => R = R' ∧ I = I' ∧ rv = vL (pairsSp ρ w)) := by
  have hn := hok.1
  have hn0 := hok.2.2.2.2.2.2.2.1
  have hn1 := hok.2.2.2.2.2.2.2.2
  have bs := pairSum_bd hok
  have bd := downP_bd hok
  have gp := gcdP_pos hok
  have gl := gcdP_le hok
  have htx := hok.2.2.2.1
  have e70 := h.1
  have q1 : 0 ≤ (downP ρ : Int) / (gcdP ρ : Int) := Int.ediv_nonneg (by omega) (by omega)
  have m0 : Spec mX11_manyOf [vR 68, vI 0] I R 89 89 (fun rv I' R' => R = R' ∧ I = I' ∧ rv = vI (cntB (S0 (rS ρ)) (rN ρ) : Int)) := aX11_manyOf hR h hok (Or.inl rfl)
  have m1 : Spec mX11_manyOf [vR 68, vI 1] I R 89 89 (fun rv I' R' => R = R' ∧ I = I' ∧ rv = vI (cntB (S1 (rS ρ)) (rN ρ) : Int)) := aX11_manyOf hR h hok (Or.inr rfl)
  refine sX11_pairs (gX11_pairs_0 hR ⟨hw, fun hc => ?_, fun hc => ⟨rfl, rfl, by unfold pairsSp; rw [if_neg hc]⟩⟩)
  obtain ⟨A, hA⟩ := nat_of bs.1
  have hg : gcdP ρ = Nat.gcd A (downP ρ) := by unfold gcdP; rw [hA, Int.toNat_natCast]
  have done : wp (kN 89) mX11_pairs (fun rv I' R' => R = R' ∧ I = I' ∧ rv = vL (pairsSp ρ w)) 19 [vR 68, vI w, vL (pairSum ρ), none, vI (rN ρ : Int), none, none] [] I R 89 := by
    have sc : Spec mX11_common [vL (pairSum ρ), vL (downP ρ : Int)] I R 89 89 (fun rv I' R' => R = R' ∧ I = I' ∧ rv = vL (gcdP ρ : Int)) := by
      rw [hA, hg]; exact aX11_common hR (by omega) (by omega)
    refine gX11_pairs_19 hR ⟨⟨by omega, by omega⟩, ⟨by omega, by omega⟩, fun _ => ⟨_, m0, fun x3 I3 R3 hq => ?_⟩, fun q => absurd (by omega) q⟩
    obtain ⟨rfl, rfl, e⟩ := hq
    cases e
    refine ⟨rfl, _, m1, fun x4 I4 R4 hq => ?_⟩
    obtain ⟨rfl, rfl, e⟩ := hq
    cases e
    refine ⟨rfl, ⟨by omega, by omega⟩, ⟨by omega, by omega⟩, fun hle => ⟨_, m1, fun x7 I7 R7 hq => ?_⟩, fun hle => ⟨_, m0, fun x7 I7 R7 hq => ?_⟩⟩
    · obtain ⟨rfl, rfl, e⟩ := hq
      cases e
      have ed : ((cntB (S1 (rS ρ)) (rN ρ) : Nat) : Int) = (downP ρ : Int) := by unfold downP; omega
      rw [ed]
      refine ⟨rfl, ⟨by omega, by omega⟩, _, sc, fun x9 I9 R9 hq => ?_⟩
      obtain ⟨rfl, rfl, e⟩ := hq
      cases e
      refine ⟨rfl, hw, fun hw0 => ⟨⟨by omega, by omega, by omega, by omega⟩, rfl, rfl, ?_⟩, fun hw0 => ⟨⟨by omega, by omega, by omega, by omega⟩, rfl, rfl, ?_⟩⟩
      · unfold pairsSp; rw [if_pos hc, if_neg hw0]
      · unfold pairsSp; rw [if_pos hc, if_pos hw0]
    · obtain ⟨rfl, rfl, e⟩ := hq
      cases e
      have ed : ((cntB (S0 (rS ρ)) (rN ρ) : Nat) : Int) = (downP ρ : Int) := by unfold downP; omega
      rw [ed]
      refine ⟨rfl, ⟨by omega, by omega⟩, _, sc, fun x9 I9 R9 hq => ?_⟩
      obtain ⟨rfl, rfl, e⟩ := hq
      cases e
      refine ⟨rfl, hw, fun hw0 => ⟨⟨by omega, by omega, by omega, by omega⟩, rfl, rfl, ?_⟩, fun hw0 => ⟨⟨by omega, by omega, by omega, by omega⟩, rfl, rfl, ?_⟩⟩
      · unfold pairsSp; rw [if_pos hc, if_neg hw0]
      · unfold pairsSp; rw [if_pos hc, if_pos hw0]
  have inner : ∀ (b : Nat) (a0 : Int), b < rN ρ →
      wp (kN 89) mX11_pairs (fun rv I' R' => R = R' ∧ I = I' ∧ rv = vL (pairsSp ρ w)) 19 [vR 68, vI w, vL (a0 + sumN (gP ρ b) (rN ρ)), none, vI ((b + 1 : Nat) : Int), none, none] [] I R 89 →
      ∀ (d s : Nat), s + d = rN ρ → wp (kN 89) mX11_pairs (fun rv I' R' => R = R' ∧ I = I' ∧ rv = vL (pairsSp ρ w)) 33 [vR 68, vI w, vL (a0 + sumN (gP ρ b) s), none, vI (b : Int), vI (s : Int), none] [] I R 89 := by
    intro b a0 hb kk d
    induction d with
    | zero =>
      intro s hs
      refine gX11_pairs_33 hR ⟨⟨by omega, by omega⟩, ⟨by omega, by omega⟩, fun _ => ?_, fun q => absurd (by omega) q⟩
      rw [show (b : Int) + 1 = ((b + 1 : Nat) : Int) by omega, show s = rN ρ by omega]
      exact kk
    | succ d ih =>
      intro s hs
      obtain ⟨y1, y2, y3⟩ := h.2.1 b hb
      obtain ⟨z1, z2, z3⟩ := h.2.1 s (by omega)
      have bb1 := hok.2.1 b
      have bs1 := hok.2.1 s
      have et := h.2.2 1 (by decide)
      have es : (s : Int) + 1 = ((s + 1 : Nat) : Int) := by omega
      have next := ih (s + 1) (by omega)
      rw [show sumN (gP ρ b) (s + 1) = sumN (gP ρ b) s + gP ρ b s from rfl] at next
      have skip : gP ρ b s = 0 → wp (kN 89) mX11_pairs (fun rv I' R' => R = R' ∧ I = I' ∧ rv = vL (pairsSp ρ w)) 93 [vR 68, vI w, vL (a0 + sumN (gP ρ b) s), none, vI (b : Int), vI (s : Int), none] [] I R 89 := fun hz => by
        refine gX11_pairs_93 hR ?_
        rw [es]
        rw [hz, Int.add_zero] at next
        rw [Int.add_zero]
        exact next
      refine gX11_pairs_33 hR ⟨⟨by omega, by omega⟩, ⟨by omega, by omega⟩, fun q => absurd q (by omega), fun _ => ⟨⟨by omega, by omega⟩, ?_⟩⟩
      rw [Int.toNat_natCast, Int.toNat_natCast, y1, y2, z1, z2, et]
      refine ⟨⟨by omega, by omega⟩, fun hne => skip (by unfold gP; rw [if_neg (fun q => hne q.1)]), fun h0 => ⟨⟨by omega, by omega⟩, ⟨by omega, by omega⟩, fun hne => skip (by unfold gP; rw [if_neg (fun q => hne q.2)]), fun h1 => ⟨⟨by omega, by omega⟩, ⟨by omega, by omega⟩, fun hlt => skip (by unfold gP hP; rw [if_pos ⟨h0, h1⟩, if_neg (by omega)]), fun hge => ⟨⟨by omega, by omega⟩, ?_⟩⟩⟩⟩
      rw [es, Int.add_assoc]
      rw [show gP ρ b s = rC ρ b - rC ρ s by unfold gP hP; rw [if_pos ⟨h0, h1⟩, if_pos (by omega)]] at next
      exact next
  have outer : ∀ (d b : Nat), b + d = rN ρ → wp (kN 89) mX11_pairs (fun rv I' R' => R = R' ∧ I = I' ∧ rv = vL (pairsSp ρ w)) 19 [vR 68, vI w, vL (sumN (fun b => sumN (gP ρ b) (rN ρ)) b), none, vI (b : Int), none, none] [] I R 89 := by
    intro d
    induction d with
    | zero =>
      intro b hb
      have hb : b = rN ρ := by omega
      subst hb
      exact done
    | succ d ih =>
      intro b hb
      refine gX11_pairs_19 hR ⟨⟨by omega, by omega⟩, ⟨by omega, by omega⟩, fun q => absurd q (by omega), fun _ => ?_⟩
      have := inner b (sumN (fun b => sumN (gP ρ b) (rN ρ)) b) (by omega) (ih (b + 1) (by omega)) (rN ρ) 0 (by omega)
      rw [show sumN (gP ρ b) 0 = 0 from rfl, Int.add_zero] at this
      exact this
  exact outer (rN ρ) 0 (by omega)
