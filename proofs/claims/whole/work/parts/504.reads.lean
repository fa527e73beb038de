/-! what is read of a province -/
theorem tn8 (i w : Nat) : Int.toNat ((i : Int) * 8 + w) = i * 8 + w := by omega
theorem tn49 (i w : Nat) : Int.toNat (49 + 8 * (i : Int) + w) = 49 + (8 * i + w) := by omega
theorem tn97 (i w : Nat) : Int.toNat (97 + 8 * (i : Int) + w) = 97 + (8 * i + w) := by omega
theorem tl (m : Nat) (x : Int) (i : Nat) (h : x = m) : Int.toNat (x + i) = m + i := by omega
theorem tn43 (i : Nat) : Int.toNat (43 + (i : Int)) = 43 + i := tl 43 _ _ rfl
theorem tn37 (i : Nat) : Int.toNat (37 + (i : Int)) = 37 + i := tl 37 _ _ rfl
theorem tn25 (i : Nat) : Int.toNat (25 + (i : Int)) = 25 + i := tl 25 _ _ rfl
theorem tn31 (i : Nat) : Int.toNat (31 + (i : Int)) = 31 + i := tl 31 _ _ rfl
theorem tn9 (i : Nat) : Int.toNat (9 + (i : Int)) = 9 + i := tl 9 _ _ rfl
theorem tn17 (i : Nat) : Int.toNat (17 + (i : Int)) = 17 + i := tl 17 _ _ rfl
theorem tn145 (i : Nat) : Int.toNat (145 + (i : Int)) = 145 + i := tl 145 _ _ rfl
theorem tn151 (i : Nat) : Int.toNat (151 + (i : Int)) = 151 + i := tl 151 _ _ rfl
theorem tn157 (i : Nat) : Int.toNat (157 + (i : Int)) = 157 + i := tl 157 _ _ rfl
theorem tn163 (i : Nat) : Int.toNat (163 + (i : Int)) = 163 + i := tl 163 _ _ rfl
theorem tn169 (i : Nat) : Int.toNat (169 + (i : Int)) = 169 + i := tl 169 _ _ rfl
theorem suc (k : Nat) : (k : Int) + 1 = ((k + 1 : Nat) : Int) := by omega
def hairS (c : Nat → Int) (i : Nat) : Nat → Int
  | 0 => 0
  | w + 1 => w32 (hairS c i w + if an32 (sr32 (c (43 + i)) w) 1 = 1 then c (49 + (8 * i + w)) else 0)
section
variable {p : Nat} {σ τ : Sg} {W N D E : Nat}
theorem hair_m0 (hw : τ 5 0 = W) (bW : W ≤ 8) {i : Nat} (hi : i < 6) : M_hairOf i τ = some (hairS (τ 5) i W, τ) := by
  rw [M_hairOf]
  refine loopN (X := fun n k => M_hairOf_L4 i n (hairS (τ 5) i k) k τ) (W := W) ?_ ?_ fu (by unfold fu; omega)
  · intro k n hk
    have h1 : (k : Int) < W := by omega
    simp (disch := omega) only [M_hairOf_L4, hw, h1, ↓reduceIte, rd_k, M_keeps, M_has, Int.toNat_natCast, w32_i, nm_k, tn43, tn49, suc, hairS, Int.toNat_zero]
    by_cases e : an32 (sr32 (τ 5 (43 + i)) k) 1 = 1
    · simp only [e, ↓reduceIte, bd_s, zb_1]; rfl
    · simp only [e, ↓reduceIte, bd_s, zb_0]
  · intro n
    simp (disch := omega) only [M_hairOf_L4, hw, Int.lt_irrefl, ↓reduceIte, rd_k, Int.toNat_zero]
theorem hair_m (h : PR p σ τ W N D E) {i : Nat} (hi : i < N) : M_hairOf i τ = some (hairS (τ 5) i W, τ) := hair_m0 h.w' h.bW (by have := h.bN; omega)
end
