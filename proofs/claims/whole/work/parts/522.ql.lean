/-! days ahead: first times -/
section
variable {σ τ σ' τ' : Sg} {W N D E : Nat}
theorem pt_dt (h : RR σ τ W N D E) : pt τ 175 5 6 ≤ 9999 + (0 : Nat) := by
  have := h.dt; unfold DT at this; rw [show pt τ 175 5 6 = τ 5 6 by unfold pt; rw [if_neg (by omega)]]; omega
theorem day1_h {p : Nat} (h : PR p σ τ W N D E) (hd : τ 5 6 < 100000) : ∃ r r' σ' τ', Pr_passDays p 1 σ = some (r, σ') ∧ M_goesDay τ = some (r', τ') ∧ PR p σ' τ' W N D E ∧ FH p σ σ' ∧ FM τ τ' ∧ KM τ τ' N ∧ τ' 5 6 = τ 5 6 + 1 := by
  obtain ⟨r, σ', τ', a1, a2, a3, a4, a5, a7, -, a8⟩ := days_h (dd := 1) (by omega) h (by omega)
  have a9 := h.dtb
  rw [w32_i (by omega) (by omega)] at a7
  rw [gd] at a2
  cases e : M_goesDay τ with
  | none => rw [e] at a2; cases a2
  | some q =>
    obtain ⟨r1, s1⟩ := q
    rw [e, bd_s, gd] at a2
    injection a2 with a2
    injection a2 with e1 e2
    subst e2
    exact ⟨_, r1, σ', _, a1, rfl, a3, a4, a5, a8, a7⟩
theorem learns_l {σ0 τ0 : Sg} (h0 : RR σ0 τ0 W N D E) (hz : τ0 0 0 = 0) {i w : Nat} (hi : i < N) (hw : w < W) : ∀ (m d n n' : Nat) (σ τ : Sg), d + m = 201 → m < n → m + 1 < n' → PR 19 σ τ W N D E → τ 5 6 ≤ 9999 + d → F19 σ0 σ → FM (pt τ0 175) τ →
    Ag (H_learnsIn_L41 i w n d σ) (M_learnsIn_L42 i w (fun x s => M_learnsIn_J77 x s) n' (-1) d τ) := by
  intro m
  have bN := h0.pr.bN
  induction m with
  | zero =>
    intro d n n' σ τ hd hn hn' h h6 hs ht
    obtain ⟨n, rfl⟩ : ∃ x, n = x + 1 := ⟨n - 1, by omega⟩
    obtain ⟨n', rfl⟩ : ∃ x, n' = x + 1 := ⟨n' - 1, by omega⟩
    obtain ⟨c1, c2⟩ := ah_1 h0 hs ht
    rw [H_learnsIn_L41, if_pos (by omega), M_learnsIn_L42, if_pos (by omega), M_learnsIn_J77, gives_m, bd_s, if_pos (by omega)]
    exact ag_fail c1 8
  | succ m ih =>
    intro d n n' σ τ hd hn hn' h h6 hs ht
    obtain ⟨n, rfl⟩ : ∃ x, n = x + 1 := ⟨n - 1, by omega⟩
    obtain ⟨n', rfl⟩ : ∃ x, n' = x + 2 := ⟨n' - 2, by omega⟩
    obtain ⟨r, r', σ', τ', a1, a2, a3, a4, a5, a6, a7⟩ := day1_h h (by omega)
    rw [H_learnsIn_L41, if_neg (show ¬ (200 : Int) < (d : Int) by omega), known_h h hi hw, bd_s, M_learnsIn_L42, if_neg (show ¬ (200 : Int) < (d : Int) by omega), if_pos (show (-1 : Int) < 0 by omega), knows_m _ _ (by omega), bd_s, a2, bd_s, nm_k, w32_i (by omega) (by omega), suc]
    by_cases e : an32 (sr32 (τ 5 (37 + i)) w) 1 = 1
    · obtain ⟨c1, c2⟩ := ah_1 h0 hs (ht.tr a5)
      rw [if_pos e, if_neg i10, if_neg i10, bd_s, nm_k, M_learnsIn_L42]
      have q : ∀ (X : Rs), (if (200 : Int) < (d + 1 : Nat) then M_learnsIn_J77 d τ' else if (d : Int) < 0 then X else M_learnsIn_J77 d τ') = M_learnsIn_J77 d τ' := fun X => by
        split
        · rfl
        · rw [if_neg (by omega)]
      rw [q, M_learnsIn_J77, gives_m, bd_s, if_neg (by omega)]
      exact ag_give ((ah_1 h0 hs (ht.tr a5)).1) (c2.trans hz) _
    · rw [if_neg e, if_pos rfl, if_pos rfl, a1, bd_s, nm_k]
      exact ih (d + 1) n (n' + 1) σ' τ' (by omega) (by omega) (by omega) a3 (by omega) (hs.fh a4) (ht.tr a5)
theorem k_learnsIn (h : RR σ τ W N D E) (a b : Int) : Ag (H_learnsIn a b σ) (M_learnsIn a b τ) := by
  rw [M_learnsIn]; refine ag_go h (fun τ h hz => ?_)
  rw [H_learnsIn]
  have hp := h.pr
  rcases pc a N with ⟨i, rfl, hi⟩ | ha
  · rw [isP_1 hp hi, isPm_1 hp hi, bd_s, bd_s, if_neg i10, if_neg i10]
    rcases pc b W with ⟨w, rfl, hw⟩ | hb
    · obtain ⟨σ1, a1, a2, a3⟩ := ah_0 h
      rw [isW_1 hp hw, isWm_1 hp hw, bd_s, bd_s, if_neg i10, if_neg i10, a1, bd_s, puts_m, bd_s]
      exact learns_l h hz hi hw 201 0 fu fu σ1 _ (by omega) (by unfold fu; omega) (by unfold fu; omega) a2 (pt_dt h) a3 FM.rfl
    · rw [isW_0 hp hb, isWm_0 hp hb, bd_s, bd_s, if_pos rfl, if_pos rfl]; exact ag_fail h 2
  · rw [isP_0 hp ha, isPm_0 hp ha, bd_s, bd_s, if_pos rfl, if_pos rfl]; exact ag_fail h 2
theorem wild_l {σ0 τ0 : Sg} (h0 : RR σ0 τ0 W N D E) (hz : τ0 0 0 = 0) {i : Nat} (hi : i < N) : ∀ (m d n n' : Nat) (σ τ : Sg), d + m = 201 → m < n → m + 1 < n' → PR 19 σ τ W N D E → τ 5 6 ≤ 9999 + d → F19 σ0 σ → FM (pt τ0 175) τ →
    Ag (H_wildIn_L30 i n d σ) (M_wildIn_L32 i (fun x s => M_wildIn_J73 x s) n' (-1) d τ) := by
  intro m
  have bN := h0.pr.bN
  induction m with
  | zero =>
    intro d n n' σ τ hd hn hn' h h6 hs ht
    obtain ⟨n, rfl⟩ : ∃ x, n = x + 1 := ⟨n - 1, by omega⟩
    obtain ⟨n', rfl⟩ : ∃ x, n' = x + 1 := ⟨n' - 1, by omega⟩
    obtain ⟨c1, c2⟩ := ah_1 h0 hs ht
    rw [H_wildIn_L30, if_pos (by omega), M_wildIn_L32, if_pos (by omega), M_wildIn_J73, gives_m, bd_s, if_pos (by omega)]
    exact ag_fail c1 8
  | succ m ih =>
    intro d n n' σ τ hd hn hn' h h6 hs ht
    obtain ⟨n, rfl⟩ : ∃ x, n = x + 1 := ⟨n - 1, by omega⟩
    obtain ⟨n', rfl⟩ : ∃ x, n' = x + 2 := ⟨n' - 2, by omega⟩
    obtain ⟨r, r', σ', τ', a1, a2, a3, a4, a5, a6, a7⟩ := day1_h h (by omega)
    rw [H_wildIn_L30, if_neg (show ¬ (200 : Int) < (d : Int) by omega), hair_h h hi, bd_s, rd_k (n := 6) (by omega) (by omega), Int.toNat_natCast, show (24 : Nat) = 19 + 5 from rfl, h.tp i hi, M_wildIn_L32, if_neg (show ¬ (200 : Int) < (d : Int) by omega), if_pos (show (-1 : Int) < 0 by omega), hair_m h hi, bd_s, w32_i (x := 25 + (i : Int)) (by omega) (by omega), rd_k (by omega) (by omega), tn25, a2, bd_s, nm_k, w32_i (by omega) (by omega), suc]
    by_cases e : τ 5 (25 + i) < hairS (τ 5) i W
    · obtain ⟨c1, c2⟩ := ah_1 h0 hs (ht.tr a5)
      rw [if_pos e, if_pos e, M_wildIn_L32]
      have q : ∀ (X : Rs), (if (200 : Int) < (d + 1 : Nat) then M_wildIn_J73 d τ' else if (d : Int) < 0 then X else M_wildIn_J73 d τ') = M_wildIn_J73 d τ' := fun X => by
        split
        · rfl
        · rw [if_neg (by omega)]
      rw [q, M_wildIn_J73, gives_m, bd_s, if_neg (by omega)]
      exact ag_give ((ah_1 h0 hs (ht.tr a5)).1) (c2.trans hz) _
    · rw [if_neg e, if_neg e, a1, bd_s, nm_k, bd_s, nm_k]
      exact ih (d + 1) n (n' + 1) σ' τ' (by omega) (by omega) (by omega) a3 (by omega) (hs.fh a4) (ht.tr a5)
theorem k_wildIn (h : RR σ τ W N D E) (a : Int) : Ag (H_wildIn a σ) (M_wildIn a τ) := by
  rw [M_wildIn]; refine ag_go h (fun τ h hz => ?_)
  rw [H_wildIn]
  have hp := h.pr
  rcases pc a N with ⟨i, rfl, hi⟩ | ha
  · obtain ⟨σ1, a1, a2, a3⟩ := ah_0 h
    rw [isP_1 hp hi, isPm_1 hp hi, bd_s, bd_s, if_neg i10, if_neg i10, a1, bd_s, puts_m, bd_s]
    exact wild_l h hz hi 201 0 fu fu σ1 _ (by omega) (by unfold fu; omega) (by unfold fu; omega) a2 (pt_dt h) a3 FM.rfl
  · rw [isP_0 hp ha, isPm_0 hp ha, bd_s, bd_s, if_pos rfl, if_pos rfl]; exact ag_fail h 2
end
