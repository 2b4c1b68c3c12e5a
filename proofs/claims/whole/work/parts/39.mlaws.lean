theorem aX11_laws {I : II} {R : RR} {ρ : RM} {p : Int} {l : List LE} (hR : SR R) (h : MRo I ρ) (hok : okRM ρ) (hl : MLg I 0 l) (ho : ∀ e ∈ l, okE ρ e) (h1 : InI p) :
    Spec mX11_laws [vR 68, vI p] I R 89 89 (fun rv I' R' => R = R' ∧ I = I' ∧ rv = vI (lawsP ρ l p)) := by
  have hn := hok.1
  have l4 := hl.1
  have l200 := hl.2.1
  refine sX11_laws (gX11_laws_0 hR ?_)
  rw [h.1]
  refine ⟨h1, ⟨by omega, by omega⟩, fun hc => ?_, fun hc => ⟨rfl, rfl, by unfold lawsP; rw [if_neg (by omega)]⟩⟩
  obtain ⟨q, rfl⟩ := nat_of hc.1
  have loop : ∀ (d k : Nat), k + d = 6 → wp (kN 89) mX11_laws (fun rv I' R' => R = R' ∧ I = I' ∧ rv = vI (lawsP ρ l (q : Int))) 14 [vR 68, vI (q : Int), vI (lawW ρ q l k).toInt, vI (k : Int), none, none] [] I R 89 := by
    intro d
    induction d with
    | zero =>
      intro k hk
      refine gX11_laws_14 hR ⟨⟨by omega, by omega⟩, fun _ => ⟨rfl, rfl, ?_⟩, fun q => absurd (by omega) q⟩
      unfold lawsP; rw [if_pos (by omega), Int.toNat_natCast, show k = 6 by omega]
    | succ d ih =>
      intro k hk
      have ek : (k : Int) + 1 = ((k + 1 : Nat) : Int) := by omega
      have nx := ih (k + 1) (by omega)
      have st : lawW ρ q l (k + 1) = if mayAll ρ q k l = true then lawW ρ q l k ||| (i32 1 <<< (i32 (k : Int) &&& 31)) else lawW ρ q l k := rfl
      have w76 : ∀ a : Int, (a = if mayAll ρ q k l = true then 1 else 0) → wp (kN 89) mX11_laws (fun rv I' R' => R = R' ∧ I = I' ∧ rv = vI (lawsP ρ l (q : Int))) 76 [vR 68, vI (q : Int), vI (lawW ρ q l k).toInt, vI (k : Int), vI a, none] [] I R 89 := fun a ha => by
        refine gX11_laws_76 hR ?_
        rw [i32_of, i32_of, ek, ← i32_0, Int32.or_zero]
        by_cases hm : mayAll ρ q k l = true
        · rw [if_pos hm] at ha
          rw [st, if_pos hm] at nx
          exact ⟨by rw [ha]; exact ⟨by decide, by decide⟩, fun q => absurd q (by omega), fun _ => nx⟩
        · rw [if_neg hm] at ha
          rw [st, if_neg hm] at nx
          exact ⟨by rw [ha]; exact ⟨by decide, by decide⟩, fun _ => nx, fun q => absurd ha q⟩
      have inner : ∀ (c i : Nat), i + c = l.length → (∀ (j : Nat) (e : LE), j < i → l[j]? = some e → e.1 = q → mayX ρ k e) → wp (kN 89) mX11_laws (fun rv I' R' => R = R' ∧ I = I' ∧ rv = vI (lawsP ρ l (q : Int))) 26 [vR 68, vI (q : Int), vI (lawW ρ q l k).toInt, vI (k : Int), vI 1, vI (i : Int)] [] I R 89 := by
        intro c
        induction c with
        | zero =>
          intro i hi hall
          refine gX11_laws_26 hR ?_
          rw [l4]
          refine ⟨⟨by omega, by omega⟩, ⟨by omega, by omega⟩, fun _ => w76 1 (by rw [if_pos (mayAll_yes (fun j e hj => hall j e (by omega)))]), fun q => absurd (by omega) q⟩
        | succ c ih2 =>
          intro i hi hall
          obtain ⟨e, he⟩ : ∃ e, l[i]? = some e := ⟨_, List.getElem?_eq_getElem (by omega)⟩
          obtain ⟨x1, x2, x3, x4⟩ := hl.2.2 i e he
          rw [show 200 * 0 + i = i by omega] at x1
          have oke := ho e (List.mem_of_getElem? he)
          have k1 := oke.1
          have ei : (i : Int) + 1 = ((i + 1 : Nat) : Int) := by omega
          have w63 : (e.1 = q → mayX ρ k e) → wp (kN 89) mX11_laws (fun rv I' R' => R = R' ∧ I = I' ∧ rv = vI (lawsP ρ l (q : Int))) 63 [vR 68, vI (q : Int), vI (lawW ρ q l k).toInt, vI (k : Int), none, vI (i : Int)] [] I R 89 := fun hm => by
            refine gX11_laws_63 hR ?_
            rw [ei]
            refine ih2 (i + 1) (by omega) (fun j x hj hx => ?_)
            by_cases hji : j = i
            · subst hji
              rw [he] at hx
              injection hx with hx
              subst hx
              exact hm
            · exact hall j x (by omega) hx
          refine gX11_laws_26 hR ?_
          rw [l4, Int.toNat_natCast, x1]
          refine ⟨⟨by omega, by omega⟩, ⟨by omega, by omega⟩, fun w => absurd w (by omega), fun _ => ⟨⟨by decide, by decide⟩, fun w => absurd w (by decide), fun _ => ⟨⟨by omega, by omega⟩, ⟨by omega, by omega⟩, ⟨by omega, by omega⟩, fun hne => w63 (fun w => absurd (by omega) hne), fun heq => ⟨_, aX11_mayBe (law := (k : Int)) hR h hok ⟨by omega, by omega⟩ hl he oke, fun x7 I7 R7 h01 hq => ?_⟩⟩⟩⟩
          obtain ⟨rfl, rfl, ee⟩ := hq
          have ex : x7 = (if mayX ρ k e then 1 else 0) := by cases ee; rfl
          have hep : e.1 = q := by omega
          refine ⟨rfl, by rcases h01 with w | w <;> rw [w] <;> exact ⟨by decide, by decide⟩, fun hz => ?_, fun hz => w63 (fun _ => Decidable.byContradiction fun w => hz (by rw [ex, if_neg w]))⟩
          have hm : ¬ mayX ρ k e := fun w => by rw [if_pos w] at ex; omega
          have fin := w76 0 (by rw [mayAll_no he hep hm]; rfl)
          refine gX11_laws_26 hR ?_
          rw [l4]
          exact ⟨⟨by omega, by omega⟩, ⟨by omega, by omega⟩, fun _ => fin, fun _ => ⟨⟨by decide, by decide⟩, fun _ => fin, fun w => absurd rfl w⟩⟩
      refine gX11_laws_14 hR ⟨⟨by omega, by omega⟩, fun q => absurd q (by omega), fun _ => inner l.length 0 (by omega) (fun j e hj => by omega)⟩
  exact loop 6 0 (by omega)
