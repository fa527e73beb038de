/-! a day -/
section
variable {p : Nat} {σ τ : Sg} {W N D E : Nat}
theorem isD_1 (h : PR p σ τ W N D E) {d : Nat} (hd : d < D) : Pr_isDinner p d σ = some (1, σ) := by
  have bD := h.bD
  rw [Pr_isDinner, h.d, if_neg (by omega), if_pos (by omega), if_pos (by omega)]
theorem df0 (h : PR p σ τ W N D E) {d : Nat} (hd : d < D) : Pr_dinnerFact p d 0 σ = some (τ 5 (145 + d), σ) := by
  have bD := h.bD
  rw [Pr_dinnerFact, isD_1 h hd, bd_s, if_neg (by omega), if_neg (by omega), if_pos (by omega), Pr_dinnerFact_J22, if_neg (by omega), w32_i (x := (d : Int) * 3) (by omega) (by omega), w32_i (by omega) (by omega), rd_k (by omega) (by omega), show Int.toNat ((d : Int) * 3 + 0) = 3 * d by omega, h.d1 d hd]
theorem df1 (h : PR p σ τ W N D E) {d : Nat} (hd : d < D) : Pr_dinnerFact p d 1 σ = some (τ 5 (151 + d), σ) := by
  have bD := h.bD
  rw [Pr_dinnerFact, isD_1 h hd, bd_s, if_neg (by omega), if_neg (by omega), if_pos (by omega), Pr_dinnerFact_J22, if_neg (by omega), w32_i (x := (d : Int) * 3) (by omega) (by omega), w32_i (by omega) (by omega), rd_k (by omega) (by omega), show Int.toNat ((d : Int) * 3 + 1) = 3 * d + 1 by omega, h.d2 d hd]
theorem df2 (h : PR p σ τ W N D E) {d : Nat} (hd : d < D) : Pr_dinnerFact p d 2 σ = some (τ 5 (157 + d), σ) := by
  have bD := h.bD
  rw [Pr_dinnerFact, isD_1 h hd, bd_s, if_neg (by omega), if_neg (by omega), if_pos (by omega), Pr_dinnerFact_J22, if_neg (by omega), w32_i (x := (d : Int) * 3) (by omega) (by omega), w32_i (by omega) (by omega), rd_k (by omega) (by omega), show Int.toNat ((d : Int) * 3 + 2) = 3 * d + 2 by omega, h.d3 d hd]
theorem since_h (h : PR p σ τ W N D E) {d : Nat} (hd : d < D) : Pr_daysSinceDinner p d σ = some (rm32 (τ 5 6) (τ 5 (157 + d)), σ) := by
  have q := h.d3b d hd
  rw [Pr_daysSinceDinner, df2 h hd, bd_s, if_pos (by omega), dv_k (by omega), h.dt]
end
