/-! a day, and days -/
section
variable {p : Nat} {W N D E : Nat}
theorem all_g {a1 v2 v3 : Int} {k56 : Int → Int → Sg → Rs} {k38 : Int → Int → Sg → Rs} : ∀ (m i n n' : Nat) (σ τ : Sg), i + m = N → m < n → m < n' → PR p σ τ W N D E →
    ∃ (σ' τ' : Sg), Pr_passDays_L15 p a1 v2 v3 k56 n i σ = k56 v3 0 σ' ∧ M_goesDay_L2 k38 n' i τ = k38 0 0 τ' ∧ PR p σ' τ' W N D E ∧ FH p σ σ' ∧ FM τ τ' ∧ τ' 5 6 = w32 (τ 5 6 + 1) ∧ (∀ k, k ≠ 6 → k < 49 → τ' 5 k = τ 5 k) := by
  intro m
  induction m with
  | zero =>
    intro i n n' σ τ hd hn hn' h
    obtain ⟨n, rfl⟩ : ∃ x, n = x + 1 := ⟨n - 1, by omega⟩
    obtain ⟨n', rfl⟩ : ∃ x, n' = x + 1 := ⟨n' - 1, by omega⟩
    obtain rfl : i = N := by omega
    refine ⟨up_s σ p 16 (w32 (τ 5 6 + 1)), up_s τ 5 6 (w32 (τ 5 6 + 1)), ?_, ?_, h.sDt (w32_c _), FH.up (by omega) (by omega) (by omega), FM.up (by omega), up_e, fun k h1 _ => up_k h1⟩
    · rw [Pr_passDays_L15, h.n, if_neg (by omega), nm_k, h.dt]
    · rw [M_goesDay_L2, rd_k (by omega) (by omega), show Int.toNat 1 = 1 from rfl, h.n', if_neg (by omega), rd_k (by omega) (by omega), wr_k (by omega) (by omega), show Int.toNat 6 = 6 from rfl]
  | succ m ih =>
    intro i n n' σ τ hd hn hn' h
    obtain ⟨n, rfl⟩ : ∃ x, n = x + 1 := ⟨n - 1, by omega⟩
    obtain ⟨n', rfl⟩ : ∃ x, n' = x + 1 := ⟨n' - 1, by omega⟩
    have bN := h.bN
    have bW := h.bW
    have hi : i < N := by omega
    have hg := g_r h hi W (by omega)
    have fg := gM_f τ (i := i) (by omega) W (by omega)
    obtain ⟨σ', τ', c1, c2, c3, c4, c5, c6, c7⟩ := ih (i + 1) n n' _ _ (by omega) (by omega) (by omega) hg
    refine ⟨σ', τ', ?_, ?_, c3, ?_, ?_, ?_, ?_⟩
    · rw [Pr_passDays_L15, h.n, if_pos (by omega), if_pos (by omega), grow_h h hi, bd_s, nm_k, wk8 (by omega)]
      exact c1
    · rw [M_goesDay_L2, rd_k (by omega) (by omega), show Int.toNat 1 = 1 from rfl, h.n', if_pos (by omega), grow_m h hi, bd_s, nm_k, wk8 (by omega)]
      exact c2
    · exact FH.tr (fun o k q => gH_f σ τ p i W o k (by omega) (by omega)) c4
    · exact FM.tr (fun o k q => fg o k (by omega)) c5
    · rw [c6, fg 5 6 (by omega)]
    · intro k h1 h2; rw [c7 k h1 h2, fg 5 k (by omega)]
/-- one day of both -/
theorem day_1 {a1 v2 : Int} {n : Nat} {k : Int} {σ τ : Sg} (h : PR p σ τ W N D E) (hk : k < a1) :
    ∃ (r : Int) (σ' τ' : Sg), Pr_passDays_L7 p a1 v2 (n + 1) k σ = Pr_passDays_L7 p a1 v2 n (w32 (k + 1)) σ' ∧ M_goesDay τ = some (r, τ') ∧ PR p σ' τ' W N D E ∧ FH p σ σ' ∧ FM τ τ' ∧ τ' 5 6 = w32 (τ 5 6 + 1) ∧ τ' 5 7 = w32 (τ 5 7 + r) ∧ (∀ k, k ≠ 6 → k ≠ 7 → k < 37 → τ' 5 k = τ 5 k) ∧ KM τ τ' N := by
  have bN := h.bN
  have bD := h.bD
  obtain ⟨σ1, τ1, a1', a2, a3, a4, a5, a6, a7⟩ := all_g (p := p) (a1 := a1) (v2 := v2) (v3 := k) (k56 := fun x7 x8 s9 => (Pr_passDays_L56 p a1 v2 x7 (fun x28 s29 => (Pr_passDays_L7 p a1 v2 n x28 s29)) fu x8 s9)) (k38 := fun x7 x8 s9 => (M_goesDay_L38 fu x7 x8 s9)) N 0 fu fu σ τ (by omega) (by unfold fu; omega) (by unfold fu; omega) h
  have h1 : PR p σ1 (up_s τ1 5 7 (w32 (τ1 5 7 + 0))) W N D E := by
    rw [Int.add_zero, w32_id a3.sdb, up_same rfl]; exact a3
  obtain ⟨r, σ2, τ2, b1, b2, b3, b4, b5, b6, b7, b8⟩ := din_l (p := p) (a1 := a1) (v2 := v2) (v3 := k) (k7 := fun x28 s29 => (Pr_passDays_L7 p a1 v2 n x28 s29)) D 0 fu fu σ1 τ1 0 (by omega) (by unfold fu; omega) (by unfold fu; omega) h1 a3.sdb
  refine ⟨r, σ2, τ2, ?_, ?_, b3, a4.tr b4, a5.tr b5, ?_, ?_, ?_, ?_⟩
  · rw [Pr_passDays_L7, if_pos hk]
    exact a1'.trans b1
  · rw [M_goesDay]
    exact a2.trans b2
  · rw [b7 6 (by omega) (by omega), a6]
  · rw [b6, a7 7 (by omega) (by omega)]
  · intro k h1 h2 h3; rw [b7 k h2 (by omega), a7 k h1 (by omega)]
  · intro q hq w hw b
    exact b8 q hq w hw (by rw [a7 _ (by omega) (by omega)]; exact b)
end
