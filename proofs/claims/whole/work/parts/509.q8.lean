/-! a day -/
section
variable {p : Nat} {σ τ : Sg} {W N D E : Nat}
theorem isD_1 (h : PR p σ τ W N D E) {d : Nat} (hd : d < D) : Pr_isDinner p d σ = some (1, σ) := by
  have bD := h.bD
  rw [Pr_isDinner, h.d, if_neg (by omega), if_pos (by omega), if_pos (by omega)]
theorem df0 (h : PR p σ τ W N D E) {d : Nat} (hd : d < D) : Pr_dinnerFact p d 0 σ = some (τ 5 (145 + d), σ) := by
  have bD := h.bD
  rw [Pr_dinnerFact, isD_1 h hd, bd_s, if_neg (by omega), if_neg (by omega), if_pos (by omega), Pr_dinnerFact_J22, if_neg (by omega), w32_i (x := (d : Int) * 3) (by omega) (by omega), w32_i (by omega) (by omega), rd_k (by omega) (by omega), show Int.toNat ((d : Int) * 3 + 0) = 3 * d by omega, h.d1 d hd]
theorem df1 (h : PR p σ τ W N D E) {d : Nat} (hd : d < D) : Pr_dinnerFact p d 1 σ = some (τ 5 (151 + d), σ) := by
  have bD := h.bD
  rw [Pr_dinnerFact, isD_1 h hd, bd_s, if_neg (by omega), if_neg (by omega), if_pos (by omega), Pr_dinnerFact_J22, if_neg (by omega), w32_i (x := (d : Int) * 3) (by omega) (by omega), w32_i (by omega) (by omega), rd_k (by omega) (by omega), show Int.toNat ((d : Int) * 3 + 1) = 3 * d + 1 by omega, h.d2 d hd]
theorem df2 (h : PR p σ τ W N D E) {d : Nat} (hd : d < D) : Pr_dinnerFact p d 2 σ = some (τ 5 (157 + d), σ) := by
  have bD := h.bD
  rw [Pr_dinnerFact, isD_1 h hd, bd_s, if_neg (by omega), if_neg (by omega), if_pos (by omega), Pr_dinnerFact_J22, if_neg (by omega), w32_i (x := (d : Int) * 3) (by omega) (by omega), w32_i (by omega) (by omega), rd_k (by omega) (by omega), show Int.toNat ((d : Int) * 3 + 2) = 3 * d + 2 by omega, h.d3 d hd]
theorem till_h (h : PR p σ τ W N D E) {d : Nat} (hd : d < D) : Pr_daysTillDinner p d σ = some (w32 (τ 5 (157 + d) - rm32 (τ 5 6) (τ 5 (157 + d))), σ) := by
  have q := h.d3b d hd
  rw [Pr_daysTillDinner, df2 h hd, bd_s, if_pos (by omega), dv_k (by omega), h.dt]
theorem dx0 {d : Nat} (hd : d < 6) : w32 ((d : Int) * 3) = (3 * d : Nat) := by rw [w32_i (by omega) (by omega)]; omega
theorem dx1 {d : Nat} (hd : d < 6) : w32 (w32 ((d : Int) * 3) + 1) = (3 * d + 1 : Nat) := by rw [dx0 hd, w32_i (by omega) (by omega)]; omega
theorem dx2 {d : Nat} (hd : d < 6) : w32 (w32 ((d : Int) * 3) + 2) = (3 * d + 2 : Nat) := by rw [dx0 hd, w32_i (by omega) (by omega)]; omega
theorem w32_ss (a b c : Int) : w32 (w32 (a + b) + c) = w32 (a + w32 (b + c)) := by unfold w32; omega
theorem din_l {a1 v2 v3 : Int} {k7 : Int → Sg → Rs} : ∀ (m d n n' : Nat) (σ τ : Sg) (acc : Int), d + m = D → m < n → m < n' → PR p σ (up_s τ 5 7 (w32 (τ 5 7 + acc))) W N D E → c32 (τ 5 7) →
    ∃ (r : Int) (σ' τ' : Sg), Pr_passDays_L25 p a1 v2 v3 k7 n d σ = k7 (w32 (v3 + 1)) σ' ∧ M_goesDay_L38 n' acc d τ = some (r, τ') ∧ PR p σ' τ' W N D E ∧ FH p σ σ' ∧ FM τ τ' ∧ τ' 5 7 = w32 (τ 5 7 + r) ∧ (∀ k, k ≠ 7 → k < 37 ∨ 49 ≤ k → τ' 5 k = τ 5 k) ∧ KM τ τ' N := by
  intro m
  induction m with
  | zero =>
    intro d n n' σ τ acc hd hn hn' h h7
    obtain ⟨n, rfl⟩ : ∃ x, n = x + 1 := ⟨n - 1, by omega⟩
    obtain ⟨n', rfl⟩ : ∃ x, n' = x + 1 := ⟨n' - 1, by omega⟩
    obtain rfl : d = D := by omega
    have bN := h.bN
    have q := h.d'
    rw [up_k (by omega)] at q
    refine ⟨acc, σ, up_s τ 5 7 (w32 (τ 5 7 + acc)), ?_, ?_, h, FH.rfl, FM.up (by omega), up_e, fun k h1 _ => up_k h1, ?_⟩
    · rw [Pr_passDays_L25, h.d, if_neg (by omega), nm_k]
    · rw [M_goesDay_L38, rd_k (by omega) (by omega), show Int.toNat 2 = 2 from rfl, q, if_neg (by omega), rd_k (by omega) (by omega), wr_k (by omega) (by omega), show Int.toNat 7 = 7 from rfl]
    · intro q hq w hw b; rw [up_k (by omega)]; exact b
  | succ m ih =>
    intro d n n' σ τ acc hd hn hn' h h7
    obtain ⟨n, rfl⟩ : ∃ x, n = x + 1 := ⟨n - 1, by omega⟩
    obtain ⟨n', rfl⟩ : ∃ x, n' = x + 1 := ⟨n' - 1, by omega⟩
    have bN := h.bN
    have bD := h.bD
    have hdD : d < D := by omega
    have q := h.d'
    have z := h.d3b d hdD
    have f1 := h.d1b d hdD
    have f2 := h.d2b d hdD
    have f3 := h.d12 d hdD
    have s0 := h.dt
    have g0 := h.d1 d hdD
    have g1 := h.d2 d hdD
    have g2 := h.d3 d hdD
    rw [up_k (by omega)] at q z f1 f2 g0 g1 g2 s0
    rw [up_k (by omega), up_k (by omega)] at f3
    have HD : Pr_passDays_L25 p a1 v2 v3 k7 (n + 1) d σ = if rm32 (τ 5 6) (τ 5 (157 + d)) = 0 then bd (Pr_blurt p (τ 5 (145 + d)) (τ 5 (151 + d)) σ) (fun r7 s8 => bd (Pr_blurt p (τ 5 (151 + d)) (τ 5 (145 + d)) s8) (fun r9 s10 => Pr_passDays_L25 p a1 v2 v3 k7 n (d + 1 : Nat) s10)) else Pr_passDays_L25 p a1 v2 v3 k7 n (d + 1 : Nat) σ := by
      rw [Pr_passDays_L25, h.d, if_pos (by omega), if_pos (by omega), dx2 (by omega), rd_k (by omega) (by omega), Int.toNat_natCast, g2, if_pos (by omega), dv_k (by omega), s0, dx1 (by omega), dx0 (by omega), wk8 (by omega)]
      simp only [nm_k]
      split
      · rw [rd_k (by omega) (by omega), rd_k (by omega) (by omega), Int.toNat_natCast, Int.toNat_natCast, g0, g1]
      · rfl
    obtain ⟨i, hi⟩ := nat_of f1.1
    obtain ⟨j, hj⟩ := nat_of f2.1
    by_cases e : rm32 (τ 5 6) (τ 5 (157 + d)) = 0
    · obtain ⟨r1, σ1, τ1, a1', a2, a3, a4, a5, a6, a7, a8⟩ := dine_r h h7 (i := i) (j := j) (by omega) (by omega) (by omega)
      rw [w32_ss] at a4
      have a9 : τ1 5 7 = τ 5 7 := a7 7 (by omega)
      obtain ⟨r2, σ2, τ2, b1, b2, b3, b4, b5, b6, b7, b8⟩ := dine_r a4 (by rw [a9]; exact h7) (i := j) (j := i) (by omega) (by omega) (by omega)
      rw [w32_ss] at b4
      have b9 : τ2 5 7 = τ 5 7 := (b7 7 (by omega)).trans a9
      rw [← b9] at b4
      obtain ⟨r, σ', τ', c1, c2, c3, c4, c5, c6, c7, c8⟩ := ih (d + 1) n n' σ2 τ2 (w32 (w32 (acc + r1) + r2)) (by omega) (by omega) (by omega) b4 (by rw [b9]; exact h7)
      refine ⟨r, σ', τ', ?_, ?_, c3, (a5.tr b5).tr c4, (a6.tr b6).tr c5, by rw [c6, b9], fun k h1 h2 => (c7 k h1 h2).trans ((b7 k h2).trans (a7 k h2)), (a8.tr b8).tr c8⟩
      · rw [HD, if_pos e, hi, hj, a1', bd_s, b1, bd_s]
        exact c1
      · rw [M_goesDay_L38, rd_k (by omega) (by omega), show Int.toNat 2 = 2 from rfl, q, if_pos (by omega), rd_k (by omega) (by omega), show Int.toNat 6 = 6 from rfl, wlt 157 (by omega) (by omega) (by omega), rd_k (by omega) (by omega), tn157, dv_k (by omega), if_pos e, wlt 145 (by omega) (by omega) (by omega), rd_k (by omega) (by omega), tn145, wlt 151 (by omega) (by omega) (by omega), rd_k (by omega) (by omega), tn151, hi, hj, a2, bd_s, nm_k, rd_k (by omega) (by omega), rd_k (by omega) (by omega), a7 _ (by omega), a7 _ (by omega), hi, hj, b2, bd_s, nm_k, nm_k, wk8 (by omega)]
        exact c2
    · obtain ⟨r, σ', τ', c1, c2, c3⟩ := ih (d + 1) n n' σ τ acc (by omega) (by omega) (by omega) h h7
      refine ⟨r, σ', τ', ?_, ?_, c3⟩
      · rw [HD, if_neg e]
        exact c1
      · rw [M_goesDay_L38, rd_k (by omega) (by omega), show Int.toNat 2 = 2 from rfl, q, if_pos (by omega), rd_k (by omega) (by omega), show Int.toNat 6 = 6 from rfl, wlt 157 (by omega) (by omega) (by omega), rd_k (by omega) (by omega), tn157, dv_k (by omega), if_neg e, nm_k, wk8 (by omega)]
        exact c2
end
