/-! a dinner: one speaks, or doesn't -/
theorem hairS_c {c c' : Nat → Int} {i : Nat} (h : ∀ k, k ≠ 7 → c' k = c k) : ∀ w, hairS c' i w = hairS c i w
  | 0 => rfl
  | w + 1 => by rw [hairS, hairS, hairS_c h w, h _ (by omega), h _ (by omega)]
theorem longS_c {c c' : Nat → Int} {i : Nat} {a : Int} (h : ∀ k, k ≠ 7 → c' k = c k) : ∀ w, longS c' i a w = longS c i a w
  | 0 => rfl
  | w + 1 => by rw [longS, longS, longS_c h w, h (43 + i) (by omega), h (49 + (8 * i + w)) (by omega), h (49 + (8 * i + _)) (by omega)]
theorem up_up {σ : Sg} {o k : Nat} {x y : Int} : up_s (up_s σ o k x) o k y = up_s σ o k y := by
  funext a b; rw [up_v, up_v]; split
  · rfl
  · next h => rw [up_v, if_neg h]
theorem up_sw {σ : Sg} {o k o' k' : Nat} {x y : Int} (h : ¬ (o = o' ∧ k = k')) : up_s (up_s σ o k x) o' k' y = up_s (up_s σ o' k' y) o k x := by
  funext a b
  rw [up_v, up_v, up_v, up_v]
  by_cases e1 : a = o ∧ b = k
  · by_cases e2 : a = o' ∧ b = k'
    · exact absurd ⟨e1.1.symm.trans e2.1, e1.2.symm.trans e2.2⟩ h
    · rw [if_neg e2, if_pos e1, if_pos e1]
  · rw [if_neg e1, if_neg e1]
theorem sayM_7 (τ : Sg) (i k j : Nat) (s x : Int) : up_s (sayM (up_s τ 5 7 s) i k j) 5 7 x = up_s (sayM τ i k j) 5 7 x := by
  unfold sayM
  rw [up_k (o := 5) (k := 7) (b := 37 + j) (by omega), up_k (o := 5) (k := 7) (b := 43 + i) (by omega)]
  rw [up_sw (o := 5) (k := 43 + i) (o' := 5) (k' := 7) (by omega), up_sw (o := 5) (k := 37 + j) (o' := 5) (k' := 7) (by omega), up_up]
  rw [up_sw (o := 5) (k := 7) (o' := 5) (k' := 37 + j) (by omega), up_sw (o := 5) (k := 7) (o' := 5) (k' := 43 + i) (by omega)]
