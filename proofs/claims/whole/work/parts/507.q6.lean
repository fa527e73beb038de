/-! a day's growth -/
def gX (τ : Sg) (i k : Nat) : Int := if τ 5 (97 + (8 * i + k)) < τ 5 (17 + k) then w32 (τ 5 (49 + (8 * i + k)) + τ 5 (9 + k)) else τ 5 (49 + (8 * i + k))
def gY (τ : Sg) (i k : Nat) : Int := min 999 (w32 (τ 5 (97 + (8 * i + k)) + 1))
def gM1 (τ : Sg) (i k : Nat) : Sg := if an32 (sr32 (τ 5 (43 + i)) k) 1 = 1 then up_s (up_s τ 5 (49 + (8 * i + k)) (gX τ i k)) 5 (97 + (8 * i + k)) (gY τ i k) else τ
def gH1 (σ τ : Sg) (p i k : Nat) : Sg := if an32 (sr32 (τ 5 (43 + i)) k) 1 = 1 then up_s (up_s σ (p + 8) (i * 8 + k) (gX τ i k)) (p + 9) (i * 8 + k) (gY τ i k) else σ
def gM (τ : Sg) (i : Nat) : Nat → Sg
  | 0 => τ
  | k + 1 => gM1 (gM τ i k) i k
def gH (σ τ : Sg) (p i : Nat) : Nat → Sg
  | 0 => σ
  | k + 1 => gH1 (gH σ τ p i k) (gM τ i k) p i k
theorem gM_f (τ : Sg) {i : Nat} (hi : i < 6) : ∀ k, k ≤ 8 → ∀ o b, (o ≠ 5 ∨ b < 49 ∨ 145 ≤ b) → gM τ i k o b = τ o b
  | 0, _, _, _, _ => rfl
  | k + 1, hk, o, b, h => by
    rw [gM, gM1]
    split
    · by_cases e : o = 5
      · rw [up_k (by omega), up_k (by omega)]; exact gM_f τ hi k (by omega) o b h
      · rw [up_o e, up_o e]; exact gM_f τ hi k (by omega) o b h
    · exact gM_f τ hi k (by omega) o b h
theorem gH_f (σ τ : Sg) (p i : Nat) : ∀ k o b, o ≠ p + 8 → o ≠ p + 9 → gH σ τ p i k o b = σ o b
  | 0, _, _, _, _ => rfl
  | k + 1, o, b, h1, h2 => by
    rw [gH, gH1]
    split
    · rw [up_o h2, up_o h1]; exact gH_f σ τ p i k o b h1 h2
    · exact gH_f σ τ p i k o b h1 h2
section
variable {p : Nat} {σ τ : Sg} {W N D E : Nat}
theorem g1_r (h : PR p σ τ W N D E) {i k : Nat} (hi : i < N) (hk : k < W) : PR p (gH1 σ τ p i k) (gM1 τ i k) W N D E := by
  have bW := h.bW
  have a1 := h.lnb i k hi (by omega)
  have a2 := h.agb i k hi (by omega)
  have a3 := h.grb k hk
  have a4 := h.gyb k hk
  unfold gH1 gM1
  split
  · have ey : gY τ i k = min 999 (τ 5 (97 + (8 * i + k)) + 1) := by unfold gY; rw [w32_i (by omega) (by omega)]
    have ex : gX τ i k = if τ 5 (97 + (8 * i + k)) < τ 5 (17 + k) then τ 5 (49 + (8 * i + k)) + τ 5 (9 + k) else τ 5 (49 + (8 * i + k)) := by unfold gX; rw [w32_i (by omega) (by omega)]
    refine h.sLA hi (by omega) ?_ ?_ ?_ ?_ ?_
    · rw [ex]; split <;> omega
    · rw [ex, ey]; split <;> omega
    · rw [ex]; split <;> omega
    · rw [ey]; omega
    · rw [ey]; omega
  · exact h
theorem g_r (h : PR p σ τ W N D E) {i : Nat} (hi : i < N) : ∀ k, k ≤ W → PR p (gH σ τ p i k) (gM τ i k) W N D E
  | 0, _ => h
  | k + 1, hk => g1_r (g_r h hi k (by omega)) hi (by omega)
theorem g1_h (h : PR p σ τ W N D E) {i k : Nat} (hi : i < N) (hk : k < W) (n : Nat) : Pr_growHead_L2 p i (n + 1) k σ = Pr_growHead_L2 p i n (k + 1 : Nat) (gH1 σ τ p i k) := by
  have bN := h.bN
  have bW := h.bW
  have h1 : (k : Int) < W := by omega
  have h2 : (k : Int) < 8 := by omega
  have a1 := h.lnb i k hi (by omega)
  have a2 := h.agb i k hi (by omega)
  have a3 := h.grb k hk
  have a4 := h.gyb k hk
  by_cases e : an32 (sr32 (τ 5 (43 + i)) k) 1 = 1
  · have ex : w32 (τ 5 (49 + (8 * i + k)) + w32 (τ 5 (9 + k) * min 1 (max 0 (w32 (τ 5 (17 + k) - τ 5 (97 + (8 * i + k))))))) = gX τ i k := by
      unfold gX
      rw [w32_i (x := τ 5 (17 + k) - τ 5 (97 + (8 * i + k))) (by omega) (by omega)]
      split
      · rw [show min 1 (max 0 (τ 5 (17 + k) - τ 5 (97 + (8 * i + k)))) = 1 by omega, Int.mul_one, w32_i (x := τ 5 (9 + k)) (by omega) (by omega)]
      · rw [show min 1 (max 0 (τ 5 (17 + k) - τ 5 (97 + (8 * i + k)))) = 0 by omega, Int.mul_zero, w32_i (x := 0) (by omega) (by omega), Int.add_zero, w32_i (by omega) (by omega)]
    have ey : min (w32 (τ 5 (97 + (8 * i + k)) + 1)) 999 = gY τ i k := by unfold gY; omega
    simp (disch := omega) only [Pr_growHead_L2, h.w, h1, h2, ↓reduceIte, kept_h h hi hk, e, bd_s, show ¬ (1 : Int) = 0 by omega, nm_k, w32_i (x := (i : Int) * 8), w32_i (x := (i : Int) * 8 + k), w32_i (x := ((k + 1 : Nat) : Int)), rd_k, wr_k, tn8, h.ln, h.ag, growth_h h hk, up_o, ex, ey, suc, gH1]
  · simp (disch := omega) only [Pr_growHead_L2, h.w, h1, h2, ↓reduceIte, kept_h h hi hk, e, bd_s, nm_k, w32_i (x := ((k + 1 : Nat) : Int)), suc, gH1]
theorem g1_m (h : PR p σ τ W N D E) {i k : Nat} (hi : i < N) (hk : k < W) (n : Nat) : M_grows_L2 i (n + 1) k τ = M_grows_L2 i n (k + 1 : Nat) (gM1 τ i k) := by
  have bN := h.bN
  have bW := h.bW
  have h1 : (k : Int) < W := by omega
  have t1 : Int.toNat (97 + (8 * (i : Int) + k)) = 97 + (8 * i + k) := by omega
  have t2 : Int.toNat (49 + (8 * (i : Int) + k)) = 49 + (8 * i + k) := by omega
  by_cases e : an32 (sr32 (τ 5 (43 + i)) k) 1 = 1
  · by_cases e2 : τ 5 (97 + (8 * i + k)) < τ 5 (17 + k)
    · have ex : w32 (τ 5 (49 + (8 * i + k)) + τ 5 (9 + k)) = gX τ i k := by unfold gX; rw [if_pos e2]
      have ey : min 999 (w32 (τ 5 (97 + (8 * i + k)) + 1)) = gY τ i k := rfl
      simp (disch := omega) only [M_grows_L2, M_grows_J73, rd_k, wr_k, Int.toNat_zero, h.w', h1, ↓reduceIte, keeps_m, e, e2, bd_s, show ¬ (1 : Int) = 0 by omega, nm_k, w32_i (x := 8 * (i : Int)), w32_i (x := 8 * (i : Int) + k), w32_i (x := 97 + (8 * (i : Int) + k)), w32_i (x := 49 + (8 * (i : Int) + k)), w32_i (x := 17 + (k : Int)), w32_i (x := 9 + (k : Int)), w32_i (x := ((k + 1 : Nat) : Int)), t1, t2, tn17, tn9, up_k, ex, ey, suc, gM1]
    · have ex : τ 5 (49 + (8 * i + k)) = gX τ i k := by unfold gX; rw [if_neg e2]
      have ey : min 999 (w32 (τ 5 (97 + (8 * i + k)) + 1)) = gY τ i k := rfl
      have es : up_s τ 5 (49 + (8 * i + k)) (gX τ i k) = τ := up_same ex
      simp (disch := omega) only [M_grows_L2, M_grows_J73, rd_k, wr_k, Int.toNat_zero, h.w', h1, ↓reduceIte, keeps_m, e, e2, bd_s, show ¬ (1 : Int) = 0 by omega, nm_k, w32_i (x := 8 * (i : Int)), w32_i (x := 8 * (i : Int) + k), w32_i (x := 97 + (8 * (i : Int) + k)), w32_i (x := 17 + (k : Int)), w32_i (x := ((k + 1 : Nat) : Int)), t1, tn17, ey, es, suc, gM1]
  · simp (disch := omega) only [M_grows_L2, rd_k, Int.toNat_zero, h.w', h1, ↓reduceIte, keeps_m, e, bd_s, nm_k, w32_i (x := ((k + 1 : Nat) : Int)), suc, gM1]
theorem grow_h (h : PR p σ τ W N D E) {i : Nat} (hi : i < N) : Pr_growHead p i σ = some (0, gH σ τ p i W) := by
  have bW := h.bW
  rw [Pr_growHead]
  refine loopN (X := fun n k => Pr_growHead_L2 p i n k (gH σ τ p i k)) (W := W) ?_ ?_ fu (by unfold fu; omega)
  · intro k n hk
    exact g1_h (g_r h hi k (by omega)) hi hk n
  · intro n
    have h' := g_r h hi W (by omega)
    simp only [Pr_growHead_L2, h'.w, Int.lt_irrefl, ↓reduceIte]
theorem grow_m (h : PR p σ τ W N D E) {i : Nat} (hi : i < N) : M_grows i τ = some (0, gM τ i W) := by
  have bW := h.bW
  rw [M_grows]
  refine loopN (X := fun n k => M_grows_L2 i n k (gM τ i k)) (W := W) ?_ ?_ fu (by unfold fu; omega)
  · intro k n hk
    exact g1_m (g_r h hi k (by omega)) hi hk n
  · intro n
    have h' := g_r h hi W (by omega)
    simp (disch := omega) only [M_grows_L2, rd_k, Int.toNat_zero, h'.w', Int.lt_irrefl, ↓reduceIte]
end
