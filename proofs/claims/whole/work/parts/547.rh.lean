/-! living: days, with how many are said -/
section
variable {p : Nat} {W N D E : Nat}
theorem din_b {a1 v2 v3 : Int} {k7 : Int → Sg → Rs} : ∀ (m d n n' : Nat) (σ τ : Sg) (acc : Int), d + m = D → m < n → m < n' → PR p σ (up_s τ 5 7 (w32 (τ 5 7 + acc))) W N D E → c32 (τ 5 7) →
    ∃ (r : Int) (σ' τ' : Sg), Pr_passDays_L25 p a1 v2 v3 k7 n d σ = k7 (w32 (v3 + 1)) σ' ∧ M_goesDay_L38 n' acc d τ = some (r, τ') ∧ PR p σ' τ' W N D E ∧ FH p σ σ' ∧ FM τ τ' ∧ τ' 5 7 = w32 (τ 5 7 + r) ∧ (∀ k, k ≠ 7 → k < 37 ∨ 49 ≤ k → τ' 5 k = τ 5 k) ∧ KM τ τ' N ∧ (0 ≤ acc → acc ≤ 2 * (d : Int) → 0 ≤ r ∧ r ≤ 2 * (D : Int)) := by
  intro m
  induction m with
  | zero =>
    intro d n n' σ τ acc hd hn hn' h h7
    obtain ⟨n, rfl⟩ : ∃ x, n = x + 1 := ⟨n - 1, by omega⟩
    obtain ⟨n', rfl⟩ : ∃ x, n' = x + 1 := ⟨n' - 1, by omega⟩
    obtain rfl : d = D := by omega
    have bN := h.bN
    have q := h.d'
    rw [up_k (by omega)] at q
    refine ⟨acc, σ, up_s τ 5 7 (w32 (τ 5 7 + acc)), ?_, ?_, h, FH.rfl, FM.up (by omega), up_e, fun k h1 _ => up_k h1, ?_, fun h1 h2 => ⟨h1, h2⟩⟩
    · rw [Pr_passDays_L25, h.d, if_neg (by omega), nm_k]
    · rw [M_goesDay_L38, rd_k (by omega) (by omega), show Int.toNat 2 = 2 from rfl, q, if_neg (by omega), rd_k (by omega) (by omega), wr_k (by omega) (by omega), show Int.toNat 7 = 7 from rfl]
    · intro q hq w hw b; rw [up_k (by omega)]; exact b
  | succ m ih =>
    intro d n n' σ τ acc hd hn hn' h h7
    obtain ⟨n, rfl⟩ : ∃ x, n = x + 1 := ⟨n - 1, by omega⟩
    obtain ⟨n', rfl⟩ : ∃ x, n' = x + 1 := ⟨n' - 1, by omega⟩
    have bN := h.bN
    have bD := h.bD
    have hdD : d < D := by omega
    have q := h.d'
    have z := h.d3b d hdD
    have f1 := h.d1b d hdD
    have f2 := h.d2b d hdD
    have f3 := h.d12 d hdD
    have s0 := h.dt
    have g0 := h.d1 d hdD
    have g1 := h.d2 d hdD
    have g2 := h.d3 d hdD
    rw [up_k (by omega)] at q z f1 f2 g0 g1 g2 s0
    rw [up_k (by omega), up_k (by omega)] at f3
    have HD : Pr_passDays_L25 p a1 v2 v3 k7 (n + 1) d σ = if rm32 (τ 5 6) (τ 5 (157 + d)) = 0 then bd (Pr_blurt p (τ 5 (145 + d)) (τ 5 (151 + d)) σ) (fun r7 s8 => bd (Pr_blurt p (τ 5 (151 + d)) (τ 5 (145 + d)) s8) (fun r9 s10 => Pr_passDays_L25 p a1 v2 v3 k7 n (d + 1 : Nat) s10)) else Pr_passDays_L25 p a1 v2 v3 k7 n (d + 1 : Nat) σ := by
      rw [Pr_passDays_L25, h.d, if_pos (by omega), if_pos (by omega), dx2 (by omega), rd_k (by omega) (by omega), Int.toNat_natCast, g2, if_pos (by omega), dv_k (by omega), s0, dx1 (by omega), dx0 (by omega), wk8 (by omega)]
      simp only [nm_k]
      split
      · rw [rd_k (by omega) (by omega), rd_k (by omega) (by omega), Int.toNat_natCast, Int.toNat_natCast, g0, g1]
      · rfl
    obtain ⟨i, hi⟩ := nat_of f1.1
    obtain ⟨j, hj⟩ := nat_of f2.1
    by_cases e : rm32 (τ 5 6) (τ 5 (157 + d)) = 0
    · obtain ⟨r1, σ1, τ1, a1', a2, a3, a4, a5, a6, a7, a8⟩ := dine_r h h7 (i := i) (j := j) (by omega) (by omega) (by omega)
      rw [w32_ss] at a4
      have a9 : τ1 5 7 = τ 5 7 := a7 7 (by omega)
      obtain ⟨r2, σ2, τ2, b1, b2, b3, b4, b5, b6, b7, b8⟩ := dine_r a4 (by rw [a9]; exact h7) (i := j) (j := i) (by omega) (by omega) (by omega)
      rw [w32_ss] at b4
      have b9 : τ2 5 7 = τ 5 7 := (b7 7 (by omega)).trans a9
      rw [← b9] at b4
      obtain ⟨r, σ', τ', c1, c2, c3, c4, c5, c6, c7, c8, c9⟩ := ih (d + 1) n n' σ2 τ2 (w32 (w32 (acc + r1) + r2)) (by omega) (by omega) (by omega) b4 (by rw [b9]; exact h7)
      refine ⟨r, σ', τ', ?_, ?_, c3, (a5.tr b5).tr c4, (a6.tr b6).tr c5, by rw [c6, b9], fun k h1 h2 => (c7 k h1 h2).trans ((b7 k h2).trans (a7 k h2)), (a8.tr b8).tr c8, fun h1 h2 => c9 (by rcases a3 with y | y <;> rcases b3 with z | z <;> rw [y, z] <;> rw [w32_i (x := acc + _) (by omega) (by omega), w32_i (by omega) (by omega)] <;> omega) (by rcases a3 with y | y <;> rcases b3 with z | z <;> rw [y, z] <;> rw [w32_i (x := acc + _) (by omega) (by omega), w32_i (by omega) (by omega)] <;> omega)⟩
      · rw [HD, if_pos e, hi, hj, a1', bd_s, b1, bd_s]
        exact c1
      · rw [M_goesDay_L38, rd_k (by omega) (by omega), show Int.toNat 2 = 2 from rfl, q, if_pos (by omega), rd_k (by omega) (by omega), show Int.toNat 6 = 6 from rfl, wlt 157 (by omega) (by omega) (by omega), rd_k (by omega) (by omega), tn157, dv_k (by omega), if_pos e, wlt 145 (by omega) (by omega) (by omega), rd_k (by omega) (by omega), tn145, wlt 151 (by omega) (by omega) (by omega), rd_k (by omega) (by omega), tn151, hi, hj, a2, bd_s, nm_k, rd_k (by omega) (by omega), rd_k (by omega) (by omega), a7 _ (by omega), a7 _ (by omega), hi, hj, b2, bd_s, nm_k, nm_k, wk8 (by omega)]
        exact c2
    · obtain ⟨r, σ', τ', c1, c2, c3, c4, c5, c6, c7, c8, c9⟩ := ih (d + 1) n n' σ τ acc (by omega) (by omega) (by omega) h h7
      refine ⟨r, σ', τ', ?_, ?_, c3, c4, c5, c6, c7, c8, fun h1 h2 => c9 h1 (by omega)⟩
      · rw [HD, if_neg e]
        exact c1
      · rw [M_goesDay_L38, rd_k (by omega) (by omega), show Int.toNat 2 = 2 from rfl, q, if_pos (by omega), rd_k (by omega) (by omega), show Int.toNat 6 = 6 from rfl, wlt 157 (by omega) (by omega) (by omega), rd_k (by omega) (by omega), tn157, dv_k (by omega), if_neg e, nm_k, wk8 (by omega)]
        exact c2
/-- one day of both -/
theorem day_b {a1 v2 : Int} {n : Nat} {k : Int} {σ τ : Sg} (h : PR p σ τ W N D E) (hk : k < a1) (hd : τ 5 6 < 100000) :
    ∃ (r : Int) (σ' τ' : Sg), Pr_passDays_L7 p a1 v2 (n + 1) k σ = Pr_passDays_L7 p a1 v2 n (w32 (k + 1)) σ' ∧ M_goesDay τ = some (r, τ') ∧ PR p σ' τ' W N D E ∧ FH p σ σ' ∧ FM τ τ' ∧ τ' 5 6 = w32 (τ 5 6 + 1) ∧ τ' 5 7 = w32 (τ 5 7 + r) ∧ (∀ k, k ≠ 6 → k ≠ 7 → k < 37 → τ' 5 k = τ 5 k) ∧ KM τ τ' N ∧ 0 ≤ r ∧ r ≤ 12 := by
  have bN := h.bN
  have bW := h.bW
  have bD := h.bD
  have a3 := h.day hd
  have fr : ∀ o b, (o ≠ 5 ∨ (b ≠ 6 ∧ (b < 49 ∨ 145 ≤ b))) → up_s (gA τ W N) 5 6 (w32 (τ 5 6 + 1)) o b = τ o b := fun o b q => by rw [up_v, if_neg (by omega), gA_f τ bW N bN _ _ (by omega)]
  have a2 : M_goesDay_L2 (fun x7 x8 s9 => (M_goesDay_L38 fu x7 x8 s9)) fu 0 τ = M_goesDay_L38 fu 0 0 (up_s (gA τ W N) 5 6 (w32 (τ 5 6 + 1))) := all_g h.w' h.n' bW bN N 0 fu (by omega) (by unfold fu; omega)
  generalize hT : up_s (gA τ W N) 5 6 (w32 (τ 5 6 + 1)) = τ1 at a2 a3 fr
  have a6 : τ1 5 6 = w32 (τ 5 6 + 1) := by rw [← hT, up_e]
  have h1 : PR p (up_s σ p 16 (w32 (σ p 16 + 1))) (up_s τ1 5 7 (w32 (τ1 5 7 + 0))) W N D E := by
    rw [Int.add_zero, w32_id a3.sdb, up_same rfl]; exact a3
  obtain ⟨r, σ2, τ2, b1, b2, b3, b4, b5, b6, b7, b8, b9⟩ := din_b (p := p) (a1 := a1) (v2 := v2) (v3 := k) (k7 := fun x16 s17 => (Pr_passDays_L7 p a1 v2 n x16 s17)) D 0 fu fu _ τ1 0 (by omega) (by unfold fu; omega) (by unfold fu; omega) h1 a3.sdb
  refine ⟨r, σ2, τ2, ?_, ?_, b3, (FH.up (by omega) (by omega) (by omega)).tr b4, FM.tr (fun o b q => fr o b (by omega)) b5, ?_, ?_, ?_, ?_, (b9 (by omega) (by omega)).1, by have := (b9 (by omega) (by omega)).2; omega⟩
  · rw [Pr_passDays_L7, if_pos hk, nm_k]
    exact b1
  · rw [M_goesDay]
    exact a2.trans b2
  · rw [b7 6 (by omega) (by omega), a6]
  · rw [b6, fr 5 7 (by omega)]
  · intro k h1 h2 h3; rw [b7 k h2 (by omega), fr 5 k (by omega)]
  · intro q hq w hw b
    exact b8 q hq w hw (by rw [fr 5 (37 + q) (by omega)]; exact b)
/-- so many days of the class, and of the reference as it counts them in its years -/
theorem days_y {dd : Nat} {v2 : Int} (hdd : dd < 1000) : ∀ (m k n n' : Nat) (σ τ : Sg) (acc S : Nat), k + m = dd → m < n → m < n' → PR p σ τ W N D E → τ 5 6 + m ≤ 100000 → τ 5 7 = w32 (v2 + acc) → acc ≤ 12 * k → S + 12 * m < 1000000 → τ 0 41 = (S : Int) →
    ∃ (r : Nat) (σ' τ' : Sg), Pr_passDays_L7 p dd v2 n k σ = some (((acc + r : Nat) : Int), σ') ∧ M_anyDays_L19 dd n' k τ = some (1, up_s τ' 0 40 (w32 (τ' 0 40 + dd))) ∧ PR p σ' τ' W N D E ∧ FH p σ σ' ∧ FM (up_s τ 0 41 ((S + r : Nat) : Int)) τ' ∧ τ' 5 6 = w32 (τ 5 6 + m) ∧ (∀ k, k ≠ 6 → k ≠ 7 → k < 37 → τ' 5 k = τ 5 k) ∧ r ≤ 12 * m := by
  intro m
  induction m with
  | zero =>
    intro k n n' σ τ acc S hk hn hn' h hd h7 ha hS h41
    obtain ⟨n, rfl⟩ : ∃ x, n = x + 1 := ⟨n - 1, by omega⟩
    obtain ⟨n', rfl⟩ : ∃ x, n' = x + 1 := ⟨n' - 1, by omega⟩
    refine ⟨0, σ, τ, ?_, ?_, h, FH.rfl, ?_, ?_, fun _ _ _ _ => rfl, by omega⟩
    · rw [Pr_passDays_L7, if_neg (by omega), h.sd, h7, w32_sub _ _ (by unfold c32; omega)]; rfl
    · rw [M_anyDays_L19, if_neg (by omega), nm_k]
    · rw [Nat.add_zero, up_same h41]; exact FM.rfl
    · have := h.dtb; rw [w32_i (by omega) (by omega)]; omega
  | succ m ih =>
    intro k n n' σ τ acc S hk hn hn' h hd h7 ha hS h41
    obtain ⟨n, rfl⟩ : ∃ x, n = x + 1 := ⟨n - 1, by omega⟩
    obtain ⟨n', rfl⟩ : ∃ x, n' = x + 1 := ⟨n' - 1, by omega⟩
    obtain ⟨r, σ1, τ1, a1, a2, a3, a4, a5, a6, a7, a8, a9, a10, a11⟩ := day_b (a1 := dd) (v2 := v2) (n := n) (k := (k : Int)) h (by omega) (by omega)
    obtain ⟨r0, rfl⟩ := nat_of a10
    have h1 : PR p σ1 (up_s τ1 0 41 ((S + r0 : Nat) : Int)) W N D E := a3.cg (fun _ _ _ _ => rfl) (fun x _ => up_o (by omega))
    obtain ⟨r', σ', τ', b1, b2, b3, b4, b5, b6, b7, b8⟩ := ih (k + 1) n n' σ1 (up_s τ1 0 41 ((S + r0 : Nat) : Int)) (acc + r0) (S + r0) (by omega) (by omega) (by omega) h1 (by have := h.dtb; rw [up_o (by omega), a6, w32_i (by omega) (by omega)]; omega) (by rw [up_o (by omega), a7, h7, w32_ss, ← Int.natCast_add, w32_i (x := ((acc + r0 : Nat) : Int)) (by omega) (by omega)]) (by omega) (by omega) up_e
    refine ⟨r0 + r', σ', τ', ?_, ?_, b3, a4.tr b4, ?_, ?_, ?_, by omega⟩
    · rw [a1, wk8 (by omega), ← Nat.add_assoc]; exact b1
    · rw [M_anyDays_L19, if_pos (by omega), a2, bd_s, nm_k, h41, ← Int.natCast_add, w32_i (x := ((S + r0 : Nat) : Int)) (by omega) (by omega), nm_k, wk8 (by omega)]; exact b2
    · rw [← Nat.add_assoc]
      refine FM.tr (b := up_s (up_s τ1 0 41 ((S + r0 : Nat) : Int)) 0 41 ((S + r0 + r' : Nat) : Int)) (fun o x z => ?_) b5
      rw [up_2]
      by_cases e : o = 0 ∧ x = 41
      · rw [up_v, if_pos e, up_v, if_pos e]
      · rw [up_v, if_neg e, up_v, if_neg e]; exact a5 o x z
    · rw [b6, up_o (by omega), a6]; exact w32_ad _ _
    · intro x x1 x2 x3; rw [b7 x x1 x2 x3, up_o (by omega)]; exact a8 x x1 x2 x3
end
