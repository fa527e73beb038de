/-! a day, and days -/
section
variable {p : Nat} {σ τ : Sg} {W N D E : Nat}
theorem all_g {k38 : Int → Int → Sg → Rs} (hw : τ 5 0 = W) (hn' : τ 5 1 = N) (bW : W ≤ 8) (bN : N ≤ 6) : ∀ (m i n : Nat), i + m = N → m < n →
    M_goesDay_L2 k38 n i (gA τ W i) = k38 0 0 (up_s (gA τ W N) 5 6 (w32 (τ 5 6 + 1))) := by
  intro m
  induction m with
  | zero =>
    intro i n hd hn
    obtain ⟨n, rfl⟩ : ∃ x, n = x + 1 := ⟨n - 1, by omega⟩
    obtain rfl : i = N := by omega
    rw [M_goesDay_L2, rd_k (by omega) (by omega), show Int.toNat 1 = 1 from rfl, gA_f τ bW i bN _ _ (by omega), hn', if_neg (by omega), rd_k (by omega) (by omega), wr_k (by omega) (by omega), show Int.toNat 6 = 6 from rfl, gA_f τ bW i bN _ _ (by omega)]
  | succ m ih =>
    intro i n hd hn
    obtain ⟨n, rfl⟩ : ∃ x, n = x + 1 := ⟨n - 1, by omega⟩
    rw [M_goesDay_L2, rd_k (by omega) (by omega), show Int.toNat 1 = 1 from rfl, gA_f τ bW i (by omega) _ _ (by omega), hn', if_pos (by omega), grow_m (by rw [gA_f τ bW i (by omega) _ _ (by omega)]; exact hw) bW (by omega), bd_s, nm_k, wk8 (by omega)]
    exact ih (i + 1) n (by omega) (by omega)
/-- one day of both -/
theorem day_1 {a1 v2 : Int} {n : Nat} {k : Int} (h : PR p σ τ W N D E) (hk : k < a1) (hd : τ 5 6 < 100000) :
    ∃ (r : Int) (σ' τ' : Sg), Pr_passDays_L7 p a1 v2 (n + 1) k σ = Pr_passDays_L7 p a1 v2 n (w32 (k + 1)) σ' ∧ M_goesDay τ = some (r, τ') ∧ PR p σ' τ' W N D E ∧ FH p σ σ' ∧ FM τ τ' ∧ τ' 5 6 = w32 (τ 5 6 + 1) ∧ τ' 5 7 = w32 (τ 5 7 + r) ∧ (∀ k, k ≠ 6 → k ≠ 7 → k < 37 → τ' 5 k = τ 5 k) ∧ KM τ τ' N := by
  have bN := h.bN
  have bW := h.bW
  have bD := h.bD
  have a3 := h.day hd
  have fr : ∀ o b, (o ≠ 5 ∨ (b ≠ 6 ∧ (b < 49 ∨ 145 ≤ b))) → up_s (gA τ W N) 5 6 (w32 (τ 5 6 + 1)) o b = τ o b := fun o b q => by rw [up_v, if_neg (by omega), gA_f τ bW N bN _ _ (by omega)]
  have a2 : M_goesDay_L2 (fun x7 x8 s9 => (M_goesDay_L38 fu x7 x8 s9)) fu 0 τ = M_goesDay_L38 fu 0 0 (up_s (gA τ W N) 5 6 (w32 (τ 5 6 + 1))) := all_g h.w' h.n' bW bN N 0 fu (by omega) (by unfold fu; omega)
  generalize hT : up_s (gA τ W N) 5 6 (w32 (τ 5 6 + 1)) = τ1 at a2 a3 fr
  have a6 : τ1 5 6 = w32 (τ 5 6 + 1) := by rw [← hT, up_e]
  have h1 : PR p (up_s σ p 16 (w32 (σ p 16 + 1))) (up_s τ1 5 7 (w32 (τ1 5 7 + 0))) W N D E := by
    rw [Int.add_zero, w32_id a3.sdb, up_same rfl]; exact a3
  obtain ⟨r, σ2, τ2, b1, b2, b3, b4, b5, b6, b7, b8⟩ := din_l (p := p) (a1 := a1) (v2 := v2) (v3 := k) (k7 := fun x16 s17 => (Pr_passDays_L7 p a1 v2 n x16 s17)) D 0 fu fu _ τ1 0 (by omega) (by unfold fu; omega) (by unfold fu; omega) h1 a3.sdb
  refine ⟨r, σ2, τ2, ?_, ?_, b3, (FH.up (by omega) (by omega) (by omega)).tr b4, FM.tr (fun o b q => fr o b (by omega)) b5, ?_, ?_, ?_, ?_⟩
  · rw [Pr_passDays_L7, if_pos hk, nm_k]
    exact b1
  · rw [M_goesDay]
    exact a2.trans b2
  · rw [b7 6 (by omega) (by omega), a6]
  · rw [b6, fr 5 7 (by omega)]
  · intro k h1 h2 h3; rw [b7 k h2 (by omega), fr 5 k (by omega)]
  · intro q hq w hw b
    exact b8 q hq w hw (by rw [fr 5 (37 + q) (by omega)]; exact b)
end
