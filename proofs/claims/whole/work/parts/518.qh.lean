/-! hair cut, on both sides -/
section
variable {p : Nat} {σ τ : Sg} {W N D E : Nat}
theorem trim_l {i b : Nat} (hi : i < N) (hb : b < N) (hib : i ≠ b) (h0 : PR p σ τ W N D E) : ∀ (m k n : Nat) (σ1 : Sg), k + m = W → m < n → PR p σ1 (cuM τ i b k) W N D E → FH p σ σ1 →
    ∃ σ', Pr_trim_L23 p i b n (cuS τ i b k) k σ1 = some (cuS τ i b W, σ') ∧ PR p σ' (up_s (cuM τ i b W) 5 8 (w32 (τ 5 8 + 1))) W N D E ∧ FH p σ σ' := by
  intro m
  have bN := h0.bN
  have bW := h0.bW
  induction m with
  | zero =>
    intro k n σ1 hk hn h hf
    obtain ⟨n, rfl⟩ : ∃ x, n = x + 1 := ⟨n - 1, by omega⟩
    obtain rfl : k = W := by omega
    refine ⟨_, ?_, h.sCt (w32_c _), hf.tr (FH.up (by omega) (by omega) (by omega))⟩
    rw [Pr_trim_L23, h.w, if_neg (by omega), nm_k, h.ct, cuM_f (by omega) (by omega) (by omega) (by omega)]
  | succ m ih =>
    intro k n σ1 hk hn h hf
    obtain ⟨n, rfl⟩ : ∃ x, n = x + 1 := ⟨n - 1, by omega⟩
    have c1 : cuM τ i b k 5 (43 + i) = τ 5 (43 + i) := cuM_f (by omega) (by omega) (by omega) (by omega)
    have c2 : cuM τ i b k 5 4 = τ 5 4 := cuM_f (by omega) (by omega) (by omega) (by omega)
    have c3 := cuM_l (τ := τ) (k := k) hib (by omega) (show b < 6 by omega) (by omega)
    have c4 := cuM_k (τ := τ) (i := i) (k := k) (show b < 6 by omega) (by omega)
    have c5 := cuM_b (i := i) (k := k) h0 hb (by omega)
    have c6 := h0.knb b hb
    have c7 := pow_le h0.bW
    have hk' : k < W := by omega
    have kk := kept_h h hi hk'
    rw [c1] at kk
    rw [Pr_trim_L23, h.w, if_pos (by omega), if_pos (by omega), kk, bd_s]
    by_cases e1 : an32 (sr32 (τ 5 (43 + i)) k) 1 = 1
    · have sl := slen_h h hi hk' (by rw [c1]; exact e1)
      have kn := known_h h hb hk'
      rw [c3] at sl
      rw [c4, c5] at kn
      rw [if_pos e1, if_neg i10, sl, bd_s, h.hd, c2, ix8 (by omega) (by omega), tn8]
      by_cases e2 : τ 5 (49 + (8 * i + k)) < τ 5 4
      · have nA : ¬ cuB τ i b k = true := fun q => ((cuB_A τ i b k).mp q).2.1 e2
        have w := ih (k + 1) n (up_s σ1 (p + 9) (i * 8 + k) (cuM τ i b k 5 6)) (by omega) (by omega) (by rw [cuM_s2 hib (by omega) (by omega) (by omega) nA e1]; exact h.sSh hi hk') (hf.tr (FH.up (by omega) (by omega) (by omega)))
        rw [cuS, if_neg nA] at w
        rw [if_pos e2, wr_k (by omega) (by omega), h.dt, nm_k, w32_i (x := (k : Int) + 1) (by omega) (by omega), suc]; exact w
      · rw [if_neg e2, kn, bd_s]
        by_cases e3 : an32 (sr32 (τ 5 (37 + b)) k) 1 = 1
        · have nA : ¬ cuB τ i b k = true := fun q => ((cuB_A τ i b k).mp q).2.2 e3
          have w := ih (k + 1) n (up_s σ1 (p + 9) (i * 8 + k) (cuM τ i b k 5 6)) (by omega) (by omega) (by rw [cuM_s2 hib (by omega) (by omega) (by omega) nA e1]; exact h.sSh hi hk') (hf.tr (FH.up (by omega) (by omega) (by omega)))
          rw [cuS, if_neg nA] at w
          rw [if_pos e3, if_neg i10, wr_k (by omega) (by omega), h.dt, nm_k, w32_i (x := (k : Int) + 1) (by omega) (by omega), suc]; exact w
        · have hA : cuB τ i b k = true := (cuB_A τ i b k).mpr ⟨e1, e2, e3⟩
          have q1 := orB h.bW (h.knb b hb).1 (h.knb b hb).2 (k := k) (by omega)
          have h1 := h.sKn hb q1.1 q1.2
          have h3 := beg_r h1 hb (k := k) hk'
          have h2 := h3.sSh hi (w := k) hk'
          have w := ih (k + 1) n _ (by omega) (by omega) (by rw [cuM_s1 hib (by omega) (by omega) (by omega) hA]; exact h2) ?_
          · rw [cuS, if_pos hA] at w
            rw [if_neg e3, if_pos rfl, nm_k, rd_k (by omega) (by omega), Int.toNat_natCast, h.kn b hb, wr_k (by omega) (by omega), beg_h h1 hb hk', bd_s, wr_k (by omega) (by omega), h3.dt, nm_k, w32_i (x := (k : Int) + 1) (by omega) (by omega), suc]
            exact w
          · unfold begH
            exact ((((hf.tr (FH.up (by omega) (by omega) (by omega))).tr (FH.up (by omega) (by omega) (by omega))).tr (FH.up (by omega) (by omega) (by omega))).tr (FH.up (by omega) (by omega) (by omega))).tr (FH.up (by omega) (by omega) (by omega))
    · have nA : ¬ cuB τ i b k = true := fun q => e1 ((cuB_A τ i b k).mp q).1
      have w := ih (k + 1) n σ1 (by omega) (by omega) (by rw [cuM_s3 e1]; exact h) hf
      rw [cuS, if_neg nA] at w
      rw [if_neg e1, if_pos rfl, nm_k, w32_i (by omega) (by omega), suc]; exact w
theorem cuts_2 {b : Nat} {τ0 s : Sg} {i : Nat} (hb : b < 6) (bW : W ≤ 8) (hw : ∀ k, k ≤ W → bst (fun k => cuB τ0 i b k = true) b s k 5 0 = W) : ∀ (m k n : Nat), k + m = W → m < n →
    M_cuts_L127 b (cuS τ0 i b W) n k (bst (fun k => cuB τ0 i b k = true) b s k) = some (cuS τ0 i b W, up_s (bst (fun k => cuB τ0 i b k = true) b s W) 5 8 (w32 (bst (fun k => cuB τ0 i b k = true) b s W 5 8 + 1))) := by
  intro m
  induction m with
  | zero =>
    intro k n hk hn
    obtain ⟨n, rfl⟩ : ∃ x, n = x + 1 := ⟨n - 1, by omega⟩
    obtain rfl : k = W := by omega
    rw [M_cuts_L127, rd_k (by omega) (by omega), Int.toNat_zero, hw k (by omega), if_neg (by omega), rd_k (by omega) (by omega), wr_k (by omega) (by omega), show Int.toNat 8 = 8 from rfl]
  | succ m ih =>
    intro k n hk hn
    obtain ⟨n, rfl⟩ : ∃ x, n = x + 1 := ⟨n - 1, by omega⟩
    obtain ⟨S, h1, h2, h3⟩ := cuS_n τ0 i b W bW
    have e2 : 2 ^ W ≤ 2 ^ 8 := Nat.pow_le_pow_right (by omega) (by omega)
    have w := ih (k + 1) n (by omega) (by omega)
    have hbit : an32 (sr32 (cuS τ0 i b W) k) 1 = if cuB τ0 i b k then 1 else 0 := by
      rw [h1, hb_n (by omega) (by omega), h3]; simp [show k < W by omega]
    rw [M_cuts_L127, rd_k (by omega) (by omega), Int.toNat_zero, hw k (by omega), if_pos (by omega), has_m, bd_s, hbit, nm_k, w32_i (by omega) (by omega), suc]
    rw [bst] at w
    by_cases e : cuB τ0 i b k = true
    · rw [if_pos e] at w
      rw [if_pos e, if_pos rfl, if_neg i10, beg_m _ hb (by omega), bd_s, nm_k]; exact w
    · rw [if_neg e] at w
      rw [if_neg e, if_neg (show ¬ (0 : Int) = 1 by omega), if_pos rfl]; exact w
theorem cuts_1 {i b : Nat} (hi : i < 6) (hb : b < 6) (bW : W ≤ 8) (hw : τ 5 0 = W) {k127 : Int → Int → Sg → Rs} : ∀ (m k n : Nat), k + m = W → m < n →
    M_cuts_L24 i b k127 n (cuS τ i b k) k (cuL τ i k) = k127 (cuS τ i b W) 0 (up_s (cuL τ i W) 5 (37 + b) (or32 (τ 5 (37 + b)) (cuS τ i b W))) := by
  intro m
  induction m with
  | zero =>
    intro k n hk hn
    obtain ⟨n, rfl⟩ : ∃ x, n = x + 1 := ⟨n - 1, by omega⟩
    obtain rfl : k = W := by omega
    rw [M_cuts_L24, rd_k (by omega) (by omega), Int.toNat_zero, cuL_f τ i k _ _ (by omega), hw, if_neg (by omega), w32_i (by omega) (by omega), rd_k (by omega) (by omega), wr_k (by omega) (by omega), tn37, cuL_f τ i k _ _ (by omega)]
  | succ m ih =>
    intro k n hk hn
    obtain ⟨n, rfl⟩ : ∃ x, n = x + 1 := ⟨n - 1, by omega⟩
    have w := ih (k + 1) n (by omega) (by omega)
    rw [M_cuts_L24, rd_k (by omega) (by omega), Int.toNat_zero, cuL_f τ i k 5 0 (by omega), hw, if_pos (by omega), keeps_m _ _ hi, bd_s, cuL_f τ i k 5 (43 + i) (by omega), nm_k, w32_i (x := (k : Int) + 1) (by omega) (by omega), suc]
    rw [cuL, cuS] at w
    by_cases e1 : an32 (sr32 (τ 5 (43 + i)) k) 1 = 1
    · rw [if_pos e1] at w
      rw [if_pos e1, if_neg i10, ix49 hi (by omega), rd_k (by omega) (by omega), rd_k (by omega) (by omega), tn49, show Int.toNat 4 = 4 from rfl, cuL_f τ i k 5 (49 + (8 * i + k)) (by omega), cuL_f τ i k 5 4 (by omega), wr_k (by omega) (by omega), nm_k]
      by_cases e2 : τ 5 (49 + (8 * i + k)) < τ 5 4
      · have nA : ¬ cuB τ i b k = true := fun q => ((cuB_A τ i b k).mp q).2.1 e2
        rw [if_neg nA] at w
        rw [if_pos e2]; exact w
      · rw [if_neg e2, knows_m _ _ hb, bd_s, cuL_f τ i k 5 (37 + b) (by omega)]
        by_cases e3 : an32 (sr32 (τ 5 (37 + b)) k) 1 = 1
        · have nA : ¬ cuB τ i b k = true := fun q => ((cuB_A τ i b k).mp q).2.2 e3
          rw [if_neg nA] at w
          rw [if_pos e3, if_neg i10, wr_k (by omega) (by omega), nm_k]; exact w
        · have hA : cuB τ i b k = true := (cuB_A τ i b k).mpr ⟨e1, e2, e3⟩
          rw [if_pos hA] at w
          rw [if_neg e3, if_pos rfl, nm_k, wr_k (by omega) (by omega), nm_k]; exact w
    · have nA : ¬ cuB τ i b k = true := fun q => e1 ((cuB_A τ i b k).mp q).1
      rw [if_neg e1, if_neg nA] at w
      rw [if_neg e1, if_pos rfl]; exact w
/-- hair cut by a barber, on both sides -/
theorem trim_r (h : PR p σ τ W N D E) {i b : Nat} (hi : i < N) (hb : b < N) (hib : i ≠ b) (hB : τ 5 (31 + b) = 1) :
    ∃ (r : Int) (σ' τ' : Sg), Pr_trim p i b σ = some (r, σ') ∧ M_cuts i b τ = some (r, τ') ∧ 0 ≤ r ∧ PR p σ' τ' W N D E ∧ FH p σ σ' ∧ FM τ τ' ∧ ∀ k, k < 37 → k ≠ 8 → τ' 5 k = τ 5 k := by
  have bN := h.bN
  have bW := h.bW
  have hkb := h.knb b hb
  have hpw := pow_le h.bW
  obtain ⟨S, g1, g2, -⟩ := cuS_n τ i b W bW
  obtain ⟨σ', e1, e2, e3⟩ := trim_l hi hb hib h W 0 fu σ (by omega) (by unfold fu; omega) (by rw [cuM_0 τ i b (by unfold c32; omega)]; exact h) FH.rfl
  refine ⟨cuS τ i b W, σ', _, ?_, ?_, by omega, e2, e3, ?_, ?_⟩
  · rw [Pr_trim, isP_1 h hi, bd_s, if_neg i10, isP_1 h hb, bd_s, if_neg i10]; exact e1
  · rw [M_cuts, if_neg (by omega), w32_i (by omega) (by omega), rd_k (by omega) (by omega), tn31, hB, if_neg i10]
    rw [show M_cuts_L24 i b (fun x19 x20 s21 => M_cuts_L127 b x19 fu x20 s21) fu 0 0 τ = _ from cuts_1 (by omega) (by omega) bW h.w' W 0 fu (by omega) (by unfold fu; omega)]
    have q := cuts_2 (τ0 := τ) (i := i) (s := up_s (cuL τ i W) 5 (37 + b) (or32 (τ 5 (37 + b)) (cuS τ i b W))) (show b < 6 by omega) bW (fun k hk => by rw [bst_f _ (by omega) k (by omega) _ _ (by omega), up_k (by omega), cuL_f _ _ _ _ _ (by omega)]; exact h.w') W 0 fu (by omega) (by unfold fu; omega)
    rw [show bst (fun k => cuB τ i b k = true) b (up_s (cuL τ i W) 5 (37 + b) (or32 (τ 5 (37 + b)) (cuS τ i b W))) W = cuM τ i b W from rfl, cuM_f (o := 5) (c := 8) (by omega) (by omega) (by omega) (by omega)] at q
    exact q
  · exact FM.tr (b := cuM τ i b W) (fun o c q => cuM_f (by omega) (by omega) (by omega) (by omega)) (FM.up (by omega))
  · intro k hk h8; rw [up_k h8]; exact cuM_f (by omega) (by omega) (by omega) (by omega)
end
