/-! days -/
def gd : Nat → Int → Sg → Rs
  | 0, acc, τ => some (acc, τ)
  | n + 1, acc, τ => bd (M_goesDay τ) (fun r s => gd n (w32 (acc + r)) s)
theorem w32_sub (a r : Int) (hr : c32 r) : w32 (w32 (a + r) - a) = r := by unfold c32 at hr; unfold w32; omega
theorem w32_ad (a : Int) (m : Nat) : w32 (w32 (a + 1) + m) = w32 (a + (m + 1 : Nat)) := by unfold w32; omega
section
variable {p : Nat} {W N D E : Nat}
theorem days_l {dd : Nat} {v2 : Int} (hdd : dd < 100000) : ∀ (m k n : Nat) (σ τ : Sg) (acc : Int), k + m = dd → m < n → PR p σ τ W N D E → τ 5 6 + m ≤ 100000 → τ 5 7 = w32 (v2 + acc) → c32 acc →
    ∃ (r : Int) (σ' τ' : Sg), Pr_passDays_L7 p dd v2 n k σ = some (r, σ') ∧ gd m acc τ = some (r, τ') ∧ PR p σ' τ' W N D E ∧ FH p σ σ' ∧ FM τ τ' ∧ τ' 5 6 = w32 (τ 5 6 + m) ∧ (∀ k, k ≠ 6 → k ≠ 7 → k < 37 → τ' 5 k = τ 5 k) ∧ KM τ τ' N := by
  intro m
  induction m with
  | zero =>
    intro k n σ τ acc hk hn h hd h7 ha
    obtain ⟨n, rfl⟩ : ∃ x, n = x + 1 := ⟨n - 1, by omega⟩
    refine ⟨acc, σ, τ, ?_, rfl, h, FH.rfl, FM.rfl, ?_, fun _ _ _ _ => rfl, KM.rfl⟩
    · rw [Pr_passDays_L7, if_neg (by omega), h.sd, h7, w32_sub _ _ ha]
    · have := h.dtb; rw [w32_i (by omega) (by omega)]; omega
  | succ m ih =>
    intro k n σ τ acc hk hn h hd h7 ha
    obtain ⟨n, rfl⟩ : ∃ x, n = x + 1 := ⟨n - 1, by omega⟩
    obtain ⟨r, σ1, τ1, a1, a2, a3, a4, a5, a6, a7, a8, a9⟩ := day_1 (a1 := dd) (v2 := v2) (n := n) (k := (k : Int)) h (by omega) (by omega)
    obtain ⟨r', σ', τ', b1, b2, b3, b4, b5, b6, b7, b8⟩ := ih (k + 1) n σ1 τ1 (w32 (acc + r)) (by omega) (by omega) a3 (by have := h.dtb; rw [a6, w32_i (by omega) (by omega)]; omega) (by rw [a7, h7, w32_ss]) (w32_c _)
    refine ⟨r', σ', τ', ?_, ?_, b3, a4.tr b4, a5.tr b5, ?_, fun k h1 h2 h3 => (b7 k h1 h2 h3).trans (a8 k h1 h2 h3), a9.tr b8⟩
    · rw [a1, wk8 (by omega)]; exact b1
    · rw [gd, a2, bd_s]; exact b2
    · rw [b6, a6]; exact w32_ad _ _
/-- so many days of the class, told by the reference's days one by one -/
theorem days_h {dd : Nat} {σ τ : Sg} (hdd : dd < 99999) (h : PR p σ τ W N D E) (hd : τ 5 6 + dd ≤ 100000) :
    ∃ (r : Int) (σ' τ' : Sg), Pr_passDays p dd σ = some (r, σ') ∧ gd dd 0 τ = some (r, τ') ∧ PR p σ' τ' W N D E ∧ FH p σ σ' ∧ FM τ τ' ∧ τ' 5 6 = w32 (τ 5 6 + dd) ∧ (∀ k, k ≠ 6 → k ≠ 7 → k < 37 → τ' 5 k = τ 5 k) ∧ KM τ τ' N := by
  rw [Pr_passDays, nm_k]
  exact days_l (v2 := σ p 18) (by omega) dd 0 fu σ τ 0 (by omega) (by unfold fu; omega) h (by omega) (by rw [Int.add_zero, h.sd, w32_id h.sdb]) c32_0
end
