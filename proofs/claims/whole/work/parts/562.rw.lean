/-! the call mean: its loop -/
section
variable {p : Nat} {σ τ σ' τ' : Sg} {W N D E : Nat}
theorem hairS_b (h : PR p σ τ W N D E) {i : Nat} (hi : i < N) : ∀ w : Nat, w ≤ 8 → 0 ≤ hairS (τ 5) i w ∧ hairS (τ 5) i w ≤ 891 * (w : Int)
  | 0, _ => by rw [hairS]; omega
  | w + 1, hw => by
    have q := hairS_b h hi w (by omega)
    have l := h.lnb i w hi (by omega)
    rw [hairS]
    by_cases e : an32 (sr32 (τ 5 (43 + i)) w) 1 = 1
    · rw [if_pos e, w32_i (by omega) (by omega)]; omega
    · rw [if_neg e, w32_i (by omega) (by omega)]; omega
theorem allS_b (h : PR p σ τ W N D E) : ∀ i : Nat, i ≤ N → 0 ≤ allS (τ 5) W i ∧ allS (τ 5) W i ≤ 7128 * (i : Int)
  | 0, _ => by rw [allS]; omega
  | i + 1, hi => by
    have bN := h.bN
    have bW := h.bW
    have q := allS_b h i (by omega)
    have l := hairS_b h (i := i) (by omega) W bW
    rw [allS, w32_i (by omega) (by omega)]; omega
theorem mean_l {A B : Nat} (hA : A + B ≤ 10000) (hB : 0 < B) (hB' : B ≤ 20) : ∀ (m j n n' acc : Nat) (σ τ : Sg), j + m = B → m < n → m < n' → RR σ τ W N D E → (∀ k, k < 175 → τ 7 k = τ 5 k) → τ 0 0 = 0 → σ 30 7 ≠ 0 → acc ≤ 50000 * j →
    Ag (H_mean_L60 A B (fun x21 s22 => (H_mean_J113 B x21 s22)) n acc j σ) (M_mean_L93 A B n' acc j τ) := by
  intro m
  induction m with
  | zero =>
    intro j n n' acc σ τ hj hn hn' h h7 hz h30 hacc
    obtain ⟨n, rfl⟩ : ∃ x, n = x + 1 := ⟨n - 1, by omega⟩
    obtain ⟨n', rfl⟩ : ∃ x, n' = x + 1 := ⟨n' - 1, by omega⟩
    obtain ⟨σ', τ', a1, a2, a3, a4⟩ := frac_r h (a := acc) (b := B) (est_s 100 acc B (by omega)) hB (by omega) (by omega)
    rw [H_mean_L60, if_neg (by omega), M_mean_L93, if_neg (by omega), H_mean_J113, a1, bd_s, a2, bd_s, zb_1]
    exact ag_yes a3 (a4.trans hz)
  | succ m ih =>
    intro j n n' acc σ τ hj hn hn' h h7 hz h30 hacc
    obtain ⟨n, rfl⟩ : ∃ x, n = x + 1 := ⟨n - 1, by omega⟩
    obtain ⟨n', rfl⟩ : ∃ x, n' = x + 1 := ⟨n' - 1, by omega⟩
    obtain ⟨σ1, c1, c2⟩ := copyP (q := 19) (p := 8) (by omega) σ
    have p1 : PR 19 σ1 τ W N D E := c2.pr h.pr (fun k _ => rfl)
    have f1 : F19 σ σ1 := fun o k q => c2.f (by omega)
    have y1 : YS 30 σ1 τ W N := h.rb.ye.cg (fun k _ _ => f1 _ _ (by omega)) (fun i k _ _ _ => f1 _ _ (by omega)) (fun _ _ _ => rfl)
    obtain ⟨σ2, τ2, k, a1, a2, a3, a4, a5, a6⟩ := lives_r (p := 19) (by omega) p1 h.dt y1 (by rw [f1 _ _ (by omega)]; exact h30) (a := ((A + j : Nat) : Int)) (by omega) (by omega)
    have ab := allS_b a3.pr N (by omega)
    have bN := a3.pr.bN
    obtain ⟨x, hx⟩ := nat_of ab.1
    have s2 : ∀ o k, SbH o k ∨ (8 ≤ o ∧ o ≤ 18) → σ2 o k = σ o k := fun o k q => by
      unfold SbH at q
      exact (a5 o k (by omega) (by omega) (by omega) (by omega)).trans (f1 o k (by omega))
    have t2 : ∀ o k, SbM o k ∨ (o = 5 ∧ k < 175) → gm τ2 175 o k = τ o k := fun o k q => by
      unfold SbM at q
      unfold gm
      by_cases e : o = 5 ∧ k < 175
      · rw [if_pos e, a6 _ _ (by omega) (by omega), h7 _ e.2, e.1]
      · rw [if_neg e]; exact a6 _ _ (by omega) (by omega)
    have r2 := h.fr s2 t2
    have g7 : ∀ k, k < 175 → gm τ2 175 7 k = gm τ2 175 5 k := fun k hk => by unfold gm; rw [if_neg (by omega), if_pos (by omega)]
    have gz : gm τ2 175 0 0 = 0 := by unfold gm; rw [if_neg (by omega), a6 _ _ (by omega) (by omega)]; exact hz
    have s30 : σ2 30 7 ≠ 0 := by rw [s2 30 7 (by unfold SbH; omega)]; exact h30
    have lt : (j : Int) < (B : Int) := by omega
    have fin := ih (j + 1) n n' (acc + x) σ2 (gm τ2 175) (by omega) (by omega) (by omega) r2 g7 gz s30 (by omega)
    have b0 : (A : Int) + j < 2147483648 := by omega
    have b1 : -2147483648 ≤ (A : Int) + j := by omega
    have b2 : -9223372036854775808 ≤ (acc : Int) + (x : Int) := by omega
    have b3 : (acc : Int) + (x : Int) < 9223372036854775808 := by omega
    have b4 : w32 ((j : Int) + 1) = ((j + 1 : Nat) : Int) := wk8 (by omega)
    rw [H_mean_L60, if_pos lt, c1, bd_s, w32_i b1 b0, ← Int.natCast_add, a1, bd_s, all_h a3.pr, bd_s, hx, nm_k, w64_i b2 b3, ← Int.natCast_add, nm_k, b4, M_mean_L93, if_pos lt, w32_i b1 b0, ← Int.natCast_add, a2, bd_s, all_m a3.pr, bd_s, hx, nm_k, w64_i b2 b3, ← Int.natCast_add, mean_g, b4]
    exact fin
theorem k_mean (h : RR σ τ W N D E) (a b : Int) (ha : c32 a) (hb : c32 b) : Ag (H_mean a b σ) (M_mean a b τ) := by
  rw [M_mean]; refine ag_go h (fun τ h hz => ?_)
  rw [H_mean]
  by_cases hB : 1 ≤ b ∧ b ≤ 20
  · rw [in_1 hB, bd_s, if_neg i10, w32_i (x := 10000 - b) (by omega) (by omega)]
    by_cases hA : 0 ≤ a ∧ a ≤ 10000 - b
    · obtain ⟨A, rfl⟩ := nat_of hA.1
      obtain ⟨B, rfl⟩ := nat_of (x := b) (by omega)
      rw [in_1 hA, bd_s, if_neg i10, wi_1 (show 0 ≤ (A : Int) ∧ (A : Int) ≤ 9999 by omega), bd_s, if_neg i10, wi_1 hB, bd_s, if_neg i10, w32_i (x := (A : Int) + B) (by omega) (by omega), w32_i (by omega) (by omega), if_neg (show ¬ 9999 < (A : Int) + B - 1 by omega), rd_k (by omega) (by omega), show Int.toNat 175 = 175 from rfl]
      have y := h.rb.ye
      by_cases e : σ 30 7 = 0
      · have e' : τ 5 175 = 0 := by
          rcases y with y | y
          · exact y.2
          · have := y.1; omega
        rw [if_pos e, if_pos e']; exact ag_no h 8
      · have e' : τ 5 175 ≠ 0 := by
          rcases y with y | y
          · exact absurd y.1 e
          · have := y.2.1; omega
        rw [if_neg e, if_neg e', mean_p]
        have key : ∀ o k, o ≠ 7 → pm τ 175 o k = τ o k := fun o k q => by unfold pm; rw [if_neg (by omega)]
        exact mean_l (by omega) (by omega) (by omega) B 0 fu fu 0 σ (pm τ 175) (by omega) (by unfold fu; omega) (by unfold fu; omega) (h.fr (fun _ _ _ => rfl) (fun o k q => key o k (by unfold SbM at q; omega))) (fun k hk => by rw [key 5 k (by omega)]; unfold pm; rw [if_pos (by omega)]) ((key 0 0 (by omega)).trans hz) e (by omega)
    · rw [in_0 hA, bd_s, if_pos rfl]
      by_cases hA' : 0 ≤ a ∧ a ≤ 9999
      · rw [wi_1 hA', bd_s, if_neg i10, wi_1 hB, bd_s, if_neg i10, w32_i (x := a + b) (by omega) (by omega), w32_i (by omega) (by omega), if_pos (show 9999 < a + b - 1 by omega)]; exact ag_no h 5
      · rw [wi_0 hA', bd_s, if_pos rfl]; exact ag_no h 5
  · rw [in_0 hB, bd_s, if_pos rfl]
    by_cases hA' : 0 ≤ a ∧ a ≤ 9999
    · rw [wi_1 hA', bd_s, if_neg i10, wi_0 hB, bd_s, if_pos rfl]; exact ag_no h 5
    · rw [wi_0 hA', bd_s, if_pos rfl]; exact ag_no h 5
end
