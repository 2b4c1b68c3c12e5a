/-! THE TEXT of both -/
def XT (I : II) (bs : List Int) : Prop := I 2 1 = bs.length ∧ bs.length ≤ 300 ∧ ∀ (j : Nat) (b : Int), bs[j]? = some b → I 3 j = b
def MT (I : II) (bs : List Int) : Prop := I 68 0 = bs.length ∧ bs.length ≤ 300 ∧ ∀ (j : Nat) (b : Int), bs[j]? = some b → I 69 j = b
theorem aX10_wipe {I : II} {R : RR} {bs : List Int} (hR : SR R) (h : XT I bs) :
    Spec mX10_wipe [vR 1] I R 89 89 (fun rv I' R' => R = R' ∧ frm [2] I I' ∧ XT I' [] ∧ rv = vI (bs.length : Int)) := by
  refine sX10_wipe (gX10_wipe_0 hR (fun I1 q1 => ⟨rfl, by rw [q1]; exact frm_up (by decide), ⟨by rw [q1, up2_self]; rfl, by decide, fun j b hb => by simp at hb⟩, by rw [h.1]⟩))
theorem aX11_wipe {I : II} {R : RR} {bs : List Int} (hR : SR R) (h : MT I bs) :
    Spec mX11_wipe [vR 68] I R 89 89 (fun rv I' R' => R = R' ∧ frm [68] I I' ∧ (∀ j, j ≠ 0 → I' 68 j = I 68 j) ∧ MT I' [] ∧ rv = vI (bs.length : Int)) := by
  refine sX11_wipe (gX11_wipe_0 hR (fun I1 q1 => ⟨rfl, by rw [q1]; exact frm_up (by decide), fun j hj => by rw [q1, up2_nj hj], ⟨by rw [q1, up2_self]; rfl, by decide, fun j b hb => by simp at hb⟩, by rw [h.1]⟩))
theorem appI_at {l : List Int} {e x : Int} {i : Nat} (h : (l ++ [x])[i]? = some e) : (i = l.length ∧ e = x) ∨ (i ≠ l.length ∧ l[i]? = some e) := by
  by_cases hi : i < l.length
  · rw [List.getElem?_append_left hi] at h
    exact Or.inr ⟨by omega, h⟩
  · by_cases hj : i = l.length
    · subst hj
      rw [List.getElem?_concat_length] at h
      exact Or.inl ⟨rfl, by injection h with h; exact h.symm⟩
    · rw [List.getElem?_eq_none (by rw [List.length_append]; simp; omega)] at h
      cases h
theorem aX8_add {I : II} {R : RR} {bs : List Int} {v : Int} (hR : SR R) (h : XT I bs) (hl : bs.length < 300) :
    Spec mX8_add [vR 2, vI v] I R 89 89 (fun _ I' R' => R = R' ∧ frm [2, 3] I I' ∧ XT I' (bs ++ [v])) := by
  obtain ⟨h1, h2, h3⟩ := h
  refine sX8_add (gX8_add_0 hR ?_)
  rw [h1]
  refine ⟨⟨by omega, by omega⟩, fun q => absurd q (by omega), fun _ => ⟨⟨by omega, by omega⟩, fun I3 q3 I4 q4 => gX8_add_30 hR ⟨rfl, by rw [q4, q3]; exact frm_trans (frm_up (by decide)) (frm_up (by decide)), ?_, by rw [List.length_append]; simp; omega, fun j b hb => ?_⟩⟩⟩
  · rw [q4, up2_self, q3, up2_ne (by decide), h1, List.length_append]; simp
  · rw [Int.toNat_natCast] at q3
    rw [q4, up2_ne (by decide), q3, up2_at]
    rcases appI_at hb with ⟨e1, e2⟩ | ⟨e1, e2⟩
    · rw [if_pos e1, e2]
    · rw [if_neg e1]; exact h3 j b e2
