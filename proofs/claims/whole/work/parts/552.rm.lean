/-! living: whether a condition holds -/
section
variable {p : Nat} {σ τ : Sg} {W N D E : Nat}
theorem cell_c {c : Nat → Int} {a : Nat} (ha : a < 30) (hc : ∀ j, j < 9 → τ 5 (177 + (9 * a + j)) = c (9 * a + j)) (j : Nat) (z : Int) (hz : z = (j : Int)) (hj : j < 9) (g : Int → Rs) :
    rd 2235 (w32 (((177 + 9 * a : Nat) : Int) + z)) (τ 5 (Int.toNat (w32 (((177 + 9 * a : Nat) : Int) + z)))) g = g (c (9 * a + j)) := by
  rw [hz, w32_i (by omega) (by omega), ← Int.natCast_add, rd_k (by omega) (by omega), Int.toNat_natCast, Nat.add_assoc, hc j hj]
theorem if_b {P : Prop} [Decidable P] {σ τ : Sg} {u v : Rs} (hu : u = if P then some (1, σ) else some (0, σ)) (hv : v = if P then some (1, τ) else some (0, τ)) : ∃ r : Int, (r = 0 ∨ r = 1) ∧ u = some (r, σ) ∧ v = some (r, τ) := by
  by_cases e : P
  · exact ⟨1, .inr rfl, by rw [hu, if_pos e], by rw [hv, if_pos e]⟩
  · exact ⟨0, .inl rfl, by rw [hu, if_neg e], by rw [hv, if_neg e]⟩
theorem hold_r (h : PR p σ τ W N D E) {o f s t c : Nat → Int} {a x y : Nat} (hx : x < 60) (ha : a < 30)
    (ho : σ (y + 1) x = o x) (hf : σ (y + 2) x = f x) (hs : σ (y + 3) x = s x) (ht : σ (y + 4) x = t x) (hc : ∀ j, j < 9 → τ 5 (177 + (9 * a + j)) = c (9 * a + j)) (hO : OPN o f s t c W N a x) (h5 : c (9 * a) = 5) :
    ∃ r : Int, (r = 0 ∨ r = 1) ∧ Li_holds p y x σ = some (r, σ) ∧ M_isSo ((177 + 9 * a : Nat) : Int) τ = some (r, τ) := by
  have bN := h.bN
  have c1 := cell_c ha hc 1 1 rfl (by omega)
  have c2 := cell_c ha hc 2 2 rfl (by omega)
  have c6 := cell_c ha hc 6 6 rfl (by omega)
  have c7 := cell_c ha hc 7 7 rfl (by omega)
  have hM : M_isSo ((177 + 9 * a : Nat) : Int) τ = _ := M_isSo.eq_1 _ _
  rw [c6] at hM
  have hL : Li_holds p y x σ = _ := Li_holds.eq_1 _ _ _ _
  rw [rd_k (by omega) (by omega), Int.toNat_natCast, ho] at hL
  rcases hO with ⟨e0, e1, e2, e3, e4, ⟨e5, e6⟩, e7, e8⟩ | ⟨e0, e1, e2, e3, e4, e5, ⟨e6, e7⟩, ⟨e8, e9⟩, e10⟩ | ⟨e0, e1, e2, e3⟩
  · obtain ⟨i, hi⟩ := nat_of e5
    obtain ⟨w, hw⟩ := nat_of e7
    rw [e1, if_pos rfl, c1, c2, ← e3, ← e4, hi, hw, knows_m _ _ (by omega), bd_s] at hM
    rw [e2, if_pos rfl, rd_k (by omega) (by omega), rd_k (by omega) (by omega), hf, hs, hi, hw, known_h h (by omega) (by omega), bd_s] at hL
    by_cases e : an32 (sr32 (τ 5 (37 + i)) w) 1 = 1
    · rw [if_pos e, zb_1] at hM hL
      exact ⟨1, .inr rfl, hL, hM⟩
    · rw [if_neg e, zb_0] at hM hL
      exact ⟨0, .inl rfl, hL, hM⟩
  · obtain ⟨i, hi⟩ := nat_of e6
    rw [e1, if_neg (by decide), c1, ← e3, hi, hair_m h (by omega), bd_s, c7, c7, c2, c2, c2, ← e4, ← e5] at hM
    rw [e2, if_neg (by decide), rd_k (by omega) (by omega), hf, hi, hair_h h (by omega), bd_s, rd_k (by omega) (by omega), rd_k (by omega) (by omega), hs, ht] at hL
    rcases e10 with z | z | z
    · rw [z, if_pos rfl] at hM hL
      exact if_b hL hM
    · rw [z, if_neg (by decide), if_neg (by decide)] at hM hL
      exact if_b hL hM
    · rw [z, if_neg (by decide), if_pos rfl] at hM hL
      exact if_b hL hM
  · omega
end
