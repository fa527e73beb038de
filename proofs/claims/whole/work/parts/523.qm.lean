/-! days ahead: out -/
section
variable {σ τ σ' τ' : Sg} {W N D E : Nat}
theorem szS_m {x y : Int} : ∀ k : Nat, (∀ j : Nat, j < k → an32 (sr32 x j) 1 = 1 → an32 (sr32 y j) 1 = 1) → szS x k ≤ szS y k ∧ (szS y k ≤ szS x k → ∀ j : Nat, j < k → an32 (sr32 y j) 1 = 1 → an32 (sr32 x j) 1 = 1)
  | 0, _ => ⟨by simp [szS], fun _ j hj => absurd hj (by omega)⟩
  | k + 1, h => by
    obtain ⟨a, b⟩ := szS_m k (fun j hj => h j (by omega))
    have hk := h k (by omega)
    rw [szS, szS]
    by_cases ex : an32 (sr32 x k) 1 = 1
    · have ey := hk ex
      rw [if_pos ex, if_pos ey]
      refine ⟨by omega, fun q j hj g => ?_⟩
      by_cases e : j = k
      · rw [e]; exact ex
      · exact b (by omega) j (by omega) g
    · rw [if_neg ex]
      by_cases ey : an32 (sr32 y k) 1 = 1
      · rw [if_pos ey]; exact ⟨by omega, fun q => by omega⟩
      · rw [if_neg ey]
        refine ⟨a, fun q j hj g => ?_⟩
        by_cases e : j = k
        · rw [e] at g; exact absurd g ey
        · exact b q j (by omega) g
theorem orS_c {f g : Nat → Bool} : ∀ {n : Nat}, (∀ i, i < n → f i = g i) → orS f n = orS g n
  | 0, _ => rfl
  | n + 1, h => by rw [orS, orS, orS_c (fun i hi => h i (by omega)), h n (by omega)]
theorem orS_hi (f : Nat → Bool) {n i : Nat} (hn : n ≤ 30) (hi : n ≤ i) (h2 : i < 32) : an32 (sr32 (orS f n) i) 1 = 0 := by
  obtain ⟨m, h1, h2', h3⟩ := orS_n f n hn
  have e2 : 2 ^ n ≤ 2 ^ 30 := Nat.pow_le_pow_right (by omega) (by omega)
  rw [h1, hb_n (by omega) (by omega), h3]; simp [show ¬ i < n by omega]
/-- the set grows just when its size does -/
theorem set_gt (bN : N ≤ 6) {w : Nat} (hw : w < 8) (hk : KM τ τ' N) : (szS (pwS (τ 5) 37 w N) 8 < szS (pwS (τ' 5) 37 w N) 8) ↔ ¬ pwS (τ' 5) 37 w N = pwS (τ 5) 37 w N := by
  rw [pwS_o, pwS_o]
  have key := szS_m (x := orS (fun q => decide (an32 (sr32 (τ 5 (37 + q)) w) 1 = 1)) N) (y := orS (fun q => decide (an32 (sr32 (τ' 5 (37 + q)) w) 1 = 1)) N) 8 (fun j hj g => by
    by_cases e : j < N
    · rw [orS_b _ (by omega) e] at g ⊢
      by_cases q : an32 (sr32 (τ 5 (37 + j)) w) 1 = 1
      · have := hk j e w hw q; simp [this]
      · simp [q] at g
    · rw [orS_hi _ (by omega) (by omega) (by omega)] at g; omega)
  constructor
  · intro q e; rw [e] at q; omega
  · intro q
    apply Classical.byContradiction
    intro g
    apply q
    apply orS_c
    intro j hj
    have k2 := key.2 (by omega) j (by omega)
    rw [orS_b _ (by omega) hj, orS_b _ (by omega) hj] at k2
    have k1 := hk j hj w hw
    by_cases e1 : an32 (sr32 (τ 5 (37 + j)) w) 1 = 1
    · simp [e1, k1 e1]
    · by_cases e2 : an32 (sr32 (τ' 5 (37 + j)) w) 1 = 1
      · exfalso; simp [e1, e2] at k2
      · simp [e1, e2]
theorem out_l {σ0 τ0 : Sg} (h0 : RR σ0 τ0 W N D E) (hz : τ0 0 0 = 0) {w : Nat} (hw : w < W) : ∀ (m d n n' : Nat) (σ τ : Sg), d + m = 201 → m < n → m + 1 < n' → PR 19 σ τ W N D E → τ 5 6 ≤ 9999 + d → F19 σ0 σ → FM (pt τ0 175) τ → KM (pt τ0 175) τ N →
    Ag (H_out_L39 w (pwS (τ0 5) 37 w N) n d σ) (M_out_L45 w (szS (pwS (τ0 5) 37 w N) 8) (fun x s => M_out_J85 x s) n' (-1) d τ) := by
  intro m
  have bN := h0.pr.bN
  have bW := h0.pr.bW
  induction m with
  | zero =>
    intro d n n' σ τ hd hn hn' h h6 hs ht hk
    obtain ⟨n, rfl⟩ : ∃ x, n = x + 1 := ⟨n - 1, by omega⟩
    obtain ⟨n', rfl⟩ : ∃ x, n' = x + 1 := ⟨n' - 1, by omega⟩
    obtain ⟨c1, c2⟩ := ah_1 h0 hs ht
    rw [H_out_L39, if_pos (by omega), M_out_L45, if_pos (by omega), M_out_J85, gives_m, bd_s, if_pos (by omega)]
    exact ag_fail c1 8
  | succ m ih =>
    intro d n n' σ τ hd hn hn' h h6 hs ht hk
    obtain ⟨n, rfl⟩ : ∃ x, n = x + 1 := ⟨n - 1, by omega⟩
    obtain ⟨n', rfl⟩ : ∃ x, n' = x + 2 := ⟨n' - 2, by omega⟩
    obtain ⟨r, r', σ', τ', a1, a2, a3, a4, a5, a6, a7⟩ := day1_h h (by omega)
    have g := set_gt bN (w := w) (by omega) (hk.tr a6)
    have g0 : pwS (pt τ0 175 5) 37 w N = pwS (τ0 5) 37 w N := by congr 1
    rw [g0] at g
    rw [H_out_L39, if_neg (show ¬ (200 : Int) < (d : Int) by omega), a1, bd_s, knowers_h a3 (by omega), bd_s, M_out_L45, if_neg (show ¬ (200 : Int) < (d : Int) by omega), if_pos (show (-1 : Int) < 0 by omega), a2, bd_s, pw37_m a3, bd_s, sz_m, bd_s, nm_k, w32_i (by omega) (by omega), suc]
    by_cases e : pwS (τ' 5) 37 w N = pwS (τ0 5) 37 w N
    · rw [if_pos e, if_neg (fun q => g.mp q e), nm_k]
      exact ih (d + 1) n (n' + 1) σ' τ' (by omega) (by omega) (by omega) a3 (by omega) (hs.fh a4) (ht.tr a5) (hk.tr a6)
    · obtain ⟨c1, c2⟩ := ah_1 h0 (hs.fh a4) (ht.tr a5)
      rw [if_neg e, if_pos (g.mpr e), nm_k, M_out_L45]
      have q : ∀ (X : Rs), (if (200 : Int) < (d + 1 : Nat) then M_out_J85 d τ' else if (d : Int) < 0 then X else M_out_J85 d τ') = M_out_J85 d τ' := fun X => by
        split
        · rfl
        · rw [if_neg (by omega)]
      rw [q, M_out_J85, gives_m, bd_s, if_neg (by omega)]
      exact ag_give c1 (c2.trans hz) _
theorem k_out (h : RR σ τ W N D E) (a : Int) : Ag (H_out a σ) (M_out a τ) := by
  rw [M_out]; refine ag_go h (fun τ h hz => ?_)
  rw [H_out]
  have hp := h.pr
  have bW := hp.bW
  rcases pc a W with ⟨w, rfl, hw⟩ | ha
  · obtain ⟨σ1, a1, a2, a3⟩ := ah_0 h
    rw [isW_1 hp hw, isWm_1 hp hw, bd_s, bd_s, if_neg i10, if_neg i10, knowers_h hp (by omega), bd_s, a1, bd_s, pw37_m hp, bd_s, sz_m, bd_s, puts_m, bd_s]
    exact out_l h hz hw 200 1 fu fu σ1 _ (by omega) (by unfold fu; omega) (by unfold fu; omega) a2 (by have := pt_dt h; omega) a3 FM.rfl KM.rfl
  · rw [isW_0 hp ha, isWm_0 hp ha, bd_s, bd_s, if_pos rfl, if_pos rfl]; exact ag_fail h 2
end
