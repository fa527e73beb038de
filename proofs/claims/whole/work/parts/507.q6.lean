/-! a day's growth -/
def gX (τ : Sg) (i k : Nat) : Int := if τ 5 (97 + (8 * i + k)) < τ 5 (17 + k) then w32 (τ 5 (49 + (8 * i + k)) + τ 5 (9 + k)) else τ 5 (49 + (8 * i + k))
def gY (τ : Sg) (i k : Nat) : Int := min 999 (w32 (τ 5 (97 + (8 * i + k)) + 1))
def gM1 (τ : Sg) (i k : Nat) : Sg := if an32 (sr32 (τ 5 (43 + i)) k) 1 = 1 then up_s (up_s τ 5 (49 + (8 * i + k)) (gX τ i k)) 5 (97 + (8 * i + k)) (gY τ i k) else τ
def gH1 (σ τ : Sg) (p i k : Nat) : Sg := if an32 (sr32 (τ 5 (43 + i)) k) 1 = 1 then up_s (up_s σ (p + 8) (i * 8 + k) (gX τ i k)) (p + 9) (i * 8 + k) (gY τ i k) else σ
def gM (τ : Sg) (i : Nat) : Nat → Sg
  | 0 => τ
  | k + 1 => gM1 (gM τ i k) i k
def gH (σ τ : Sg) (p i : Nat) : Nat → Sg
  | 0 => σ
  | k + 1 => gH1 (gH σ τ p i k) (gM τ i k) p i k
theorem gM_f (τ : Sg) {i : Nat} (hi : i < 6) : ∀ k, k ≤ 8 → ∀ o b, (o ≠ 5 ∨ b < 49 ∨ 145 ≤ b) → gM τ i k o b = τ o b
  | 0, _, _, _, _ => rfl
  | k + 1, hk, o, b, h => by
    rw [gM, gM1]
    split
    · by_cases e : o = 5
      · rw [up_k (by omega), up_k (by omega)]; exact gM_f τ hi k (by omega) o b h
      · rw [up_o e, up_o e]; exact gM_f τ hi k (by omega) o b h
    · exact gM_f τ hi k (by omega) o b h
theorem gH_f (σ τ : Sg) (p i : Nat) : ∀ k o b, o ≠ p + 8 → o ≠ p + 9 → gH σ τ p i k o b = σ o b
  | 0, _, _, _, _ => rfl
  | k + 1, o, b, h1, h2 => by
    rw [gH, gH1]
    split
    · rw [up_o h2, up_o h1]; exact gH_f σ τ p i k o b h1 h2
    · exact gH_f σ τ p i k o b h1 h2
section
variable {p : Nat} {σ τ : Sg} {W N D E : Nat}
theorem g1_r (h : PR p σ τ W N D E) {i k : Nat} (hi : i < N) (hk : k < W) : PR p (gH1 σ τ p i k) (gM1 τ i k) W N D E := by
  have bW := h.bW
  have a1 := h.lnb i k hi (by omega)
  have a2 := h.agb i k hi (by omega)
  have a3 := h.grb k hk
  have a4 := h.gyb k hk
  unfold gH1 gM1
  split
  · have ey : gY τ i k = min 999 (τ 5 (97 + (8 * i + k)) + 1) := by unfold gY; rw [w32_i (by omega) (by omega)]
    have ex : gX τ i k = if τ 5 (97 + (8 * i + k)) < τ 5 (17 + k) then τ 5 (49 + (8 * i + k)) + τ 5 (9 + k) else τ 5 (49 + (8 * i + k)) := by unfold gX; rw [w32_i (by omega) (by omega)]
    refine h.sLA hi (by omega) ?_ ?_ ?_ ?_ ?_
    · rw [ex]; split <;> omega
    · rw [ex, ey]; split <;> omega
    · rw [ex]; split <;> omega
    · rw [ey]; omega
    · rw [ey]; omega
  · exact h
theorem g_r (h : PR p σ τ W N D E) {i : Nat} (hi : i < N) : ∀ k, k ≤ W → PR p (gH σ τ p i k) (gM τ i k) W N D E
  | 0, _ => h
  | k + 1, hk => g1_r (g_r h hi k (by omega)) hi (by omega)
theorem ex_h (h : PR p σ τ W N D E) {i k : Nat} (hi : i < N) (hk : k < W) : w32 (τ 5 (49 + (8 * i + k)) + w32 (τ 5 (9 + k) * min 1 (max 0 (w32 (τ 5 (17 + k) - τ 5 (97 + (8 * i + k))))))) = gX τ i k := by
  have bW := h.bW
  have a1 := h.lnb i k hi (by omega)
  have a2 := h.agb i k hi (by omega)
  have a3 := h.grb k hk
  have a4 := h.gyb k hk
  unfold gX
  rw [w32_i (x := τ 5 (17 + k) - τ 5 (97 + (8 * i + k))) (by omega) (by omega)]
  split
  · rw [show min 1 (max 0 (τ 5 (17 + k) - τ 5 (97 + (8 * i + k)))) = 1 by omega, Int.mul_one, w32_i (x := τ 5 (9 + k)) (by omega) (by omega)]
  · rw [show min 1 (max 0 (τ 5 (17 + k) - τ 5 (97 + (8 * i + k)))) = 0 by omega, Int.mul_zero, w32_i (x := 0) (by omega) (by omega), Int.add_zero, w32_i (by omega) (by omega)]
theorem ey_h (τ : Sg) (i k : Nat) : min (w32 (τ 5 (97 + (8 * i + k)) + 1)) 999 = gY τ i k := Int.min_comm _ _
theorem ey_m (τ : Sg) (i k : Nat) : min 999 (w32 (τ 5 (97 + (8 * i + k)) + 1)) = gY τ i k := rfl
theorem wi8 {i : Nat} (hi : i < 6) : w32 ((i : Int) * 8) = (i : Int) * 8 := w32_i (by omega) (by omega)
theorem wi8k {i k : Nat} (hi : i < 6) (hk : k < 8) : w32 ((i : Int) * 8 + k) = (i : Int) * 8 + k := w32_i (by omega) (by omega)
theorem wk8 {k : Nat} (hk : k < 1000000) : w32 ((k : Int) + 1) = ((k + 1 : Nat) : Int) := w32_i (by omega) (by omega)
theorem w8i {i : Nat} (hi : i < 6) : w32 (8 * (i : Int)) = 8 * (i : Int) := w32_i (by omega) (by omega)
theorem w8ik {i k : Nat} (hi : i < 6) (hk : k < 8) : w32 (8 * (i : Int) + k) = ((8 * i + k : Nat) : Int) := by rw [w32_i (by omega) (by omega)]; omega
theorem wlt (m : Int) {k : Nat} (h0 : 0 ≤ m) (h1 : m < 100000) (hk : k < 1000000) : w32 (m + (k : Int)) = m + k := w32_i (by omega) (by omega)
theorem g1_h (h : PR p σ τ W N D E) {i k : Nat} (hi : i < N) (hk : k < W) (n : Nat) : Pr_growHead_L2 p i (n + 1) k σ = Pr_growHead_L2 p i n (k + 1 : Nat) (gH1 σ τ p i k) := by
  have bN := h.bN
  have bW := h.bW
  have h1 : (k : Int) < W := by omega
  have h2 : (k : Int) < 8 := by omega
  by_cases e : an32 (sr32 (τ 5 (43 + i)) k) 1 = 1
  · rw [gH1, if_pos e, Pr_growHead_L2, h.w, if_pos h1, if_pos h2, kept_h h hi hk, bd_s, if_pos e, if_neg (by omega), nm_k, wi8 (by omega), wi8k (by omega) (by omega), rd_k (by omega) (by omega), rd_k (by omega) (by omega), tn8, h.ag i k hi (by omega), h.ln i k hi (by omega), growth_h h hk, bd_s, wr_k (by omega) (by omega), rd_k (by omega) (by omega), up_o (by omega), h.ag i k hi (by omega), wr_k (by omega) (by omega), ex_h h hi hk, ey_h, nm_k, wk8 (by omega)]
  · rw [gH1, if_neg e, Pr_growHead_L2, h.w, if_pos h1, if_pos h2, kept_h h hi hk, bd_s, if_neg e, if_pos rfl, nm_k, wk8 (by omega)]
theorem g1_m (h : PR p σ τ W N D E) {i k : Nat} (hi : i < N) (hk : k < W) (n : Nat) : M_grows_L2 i (n + 1) k τ = M_grows_L2 i n (k + 1 : Nat) (gM1 τ i k) := by
  have bN := h.bN
  have bW := h.bW
  have h1 : (k : Int) < W := by omega
  by_cases e : an32 (sr32 (τ 5 (43 + i)) k) 1 = 1
  · by_cases e2 : τ 5 (97 + (8 * i + k)) < τ 5 (17 + k)
    · have ex : gX τ i k = w32 (τ 5 (49 + (8 * i + k)) + τ 5 (9 + k)) := by unfold gX; rw [if_pos e2]
      rw [gM1, if_pos e, ex, M_grows_L2, rd_k (by omega) (by omega), Int.toNat_zero, h.w', if_pos h1, keeps_m τ k (by omega), bd_s, if_pos e, if_neg (by omega), nm_k, w8i (by omega), w8ik (by omega) (by omega), wlt 97 (by omega) (by omega) (by omega), rd_k (by omega) (by omega), tl 97 97 _ rfl, wlt 17 (by omega) (by omega) (by omega), rd_k (by omega) (by omega), tn17, if_pos e2, wlt 49 (by omega) (by omega) (by omega), rd_k (by omega) (by omega), tl 49 49 _ rfl, wlt 9 (by omega) (by omega) (by omega), rd_k (by omega) (by omega), tn9, wr_k (by omega) (by omega), M_grows_J73, wlt 97 (by omega) (by omega) (by omega), rd_k (by omega) (by omega), tl 97 97 _ rfl, up_k (by omega), wr_k (by omega) (by omega), ey_m, nm_k, wk8 (by omega)]
    · have es : up_s τ 5 (49 + (8 * i + k)) (gX τ i k) = τ := up_same (by unfold gX; rw [if_neg e2])
      rw [gM1, if_pos e, es, M_grows_L2, rd_k (by omega) (by omega), Int.toNat_zero, h.w', if_pos h1, keeps_m τ k (by omega), bd_s, if_pos e, if_neg (by omega), nm_k, w8i (by omega), w8ik (by omega) (by omega), wlt 97 (by omega) (by omega) (by omega), rd_k (by omega) (by omega), tl 97 97 _ rfl, wlt 17 (by omega) (by omega) (by omega), rd_k (by omega) (by omega), tn17, if_neg e2, M_grows_J73, wlt 97 (by omega) (by omega) (by omega), rd_k (by omega) (by omega), tl 97 97 _ rfl, wr_k (by omega) (by omega), ey_m, nm_k, wk8 (by omega)]
  · rw [gM1, if_neg e, M_grows_L2, rd_k (by omega) (by omega), Int.toNat_zero, h.w', if_pos h1, keeps_m τ k (by omega), bd_s, if_neg e, if_pos rfl, nm_k, wk8 (by omega)]
theorem grow_h (h : PR p σ τ W N D E) {i : Nat} (hi : i < N) : Pr_growHead p i σ = some (0, gH σ τ p i W) := by
  have bW := h.bW
  rw [Pr_growHead]
  refine loopN (X := fun n k => Pr_growHead_L2 p i n k (gH σ τ p i k)) (W := W) ?_ ?_ fu (by unfold fu; omega)
  · intro k n hk
    exact g1_h (g_r h hi k (by omega)) hi hk n
  · intro n
    have h' := g_r h hi W (by omega)
    simp only [Pr_growHead_L2, h'.w, Int.lt_irrefl, ↓reduceIte]
theorem grow_m (h : PR p σ τ W N D E) {i : Nat} (hi : i < N) : M_grows i τ = some (0, gM τ i W) := by
  have bW := h.bW
  rw [M_grows]
  refine loopN (X := fun n k => M_grows_L2 i n k (gM τ i k)) (W := W) ?_ ?_ fu (by unfold fu; omega)
  · intro k n hk
    exact g1_m (g_r h hi k (by omega)) hi hk n
  · intro n
    have h' := g_r h hi W (by omega)
    simp (disch := omega) only [M_grows_L2, rd_k, Int.toNat_zero, h'.w', Int.lt_irrefl, ↓reduceIte]
end
