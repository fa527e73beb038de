/-! words learnt, kept, said; days -/
section
variable {σ τ σ' τ' : Sg} {W N D E : Nat}
theorem DT.eq (h : DT τ) (e : τ' 5 6 = τ 5 6) : DT τ' := by unfold DT at h ⊢; rw [e]; exact h
theorem k_cut (h : RR σ τ W N D E) (a b : Int) : Ag (H_cut a b σ) (M_cut_ a b τ) := by
  rw [M_cut_]; refine ag_go h (fun τ h hz => ?_)
  rw [H_cut]
  have hp := h.pr
  have bN := hp.bN
  rcases pc a N with ⟨i, rfl, hi⟩ | ha
  · rw [isP_1 hp hi, isPm_1 hp hi, bd_s, bd_s, if_neg i10, if_neg i10]
    rcases pc b N with ⟨j, rfl, hj⟩ | hb
    · rw [isP_1 hp hj, isPm_1 hp hj, bd_s, bd_s, if_neg i10, if_neg i10, Pr_canTrim, isP_1 hp hi, bd_s, if_neg i10, barb_h hp hj, bd_s]
      by_cases e : (i : Int) = j
      · have e1 : (bd (if τ 5 (31 + j) = 0 then some (0, σ) else if (i : Int) = j then some (0, σ) else some (1, σ)) fun r9 s10 => if r9 = 0 then bd (H_fail 9 s10) fun r11 s12 => some (r11, s12) else bd (Pr_trim 8 i j s10) fun r13 s14 => bd (H_give r13 s14) fun r15 s16 => some (r15, s16)) = bd (H_fail 9 σ) fun r11 s12 => some (r11, s12) := by
          rw [if_pos e]
          by_cases g : τ 5 (31 + j) = 0
          · rw [if_pos g, bd_s, if_pos rfl]
          · rw [if_neg g, bd_s, if_pos rfl]
        rw [e1, M_cuts, if_pos e, bd_s, if_pos (by omega)]; exact ag_fail h 9
      · rcases hp.bab j hj with g | g
        · rw [g, if_pos rfl, bd_s, if_pos rfl, M_cuts, if_neg e, w32_i (by omega) (by omega), rd_k (by omega) (by omega), tn31, g, if_pos rfl, bd_s, if_pos (by omega)]; exact ag_fail h 9
        · obtain ⟨r, σ', τ', a1, a2, a3, a4, a5, a6, a7⟩ := trim_r hp hi hj (by omega) g
          rw [g, if_neg i10, if_neg e, bd_s, if_neg i10, a1, a2, bd_s, bd_s, if_neg (by omega)]
          exact ag_give (h.mv a4 (h.dt.eq (a7 6 (by omega) (by omega))) a5 a6) (by rw [a6 _ _ (by omega)]; exact hz) _
    · rw [isP_0 hp hb, isPm_0 hp hb, bd_s, bd_s, if_pos rfl, if_pos rfl]; exact ag_fail h 2
  · rw [isP_0 hp ha, isPm_0 hp ha, bd_s, bd_s, if_pos rfl, if_pos rfl]; exact ag_fail h 2
theorem k_learn (h : RR σ τ W N D E) (a b : Int) : Ag (H_learn a b σ) (M_learn a b τ) := by
  rw [M_learn]; refine ag_go h (fun τ h hz => ?_)
  rw [H_learn]
  have hp := h.pr
  have bN := hp.bN
  have bW := hp.bW
  rcases pc a N with ⟨i, rfl, hi⟩ | ha
  · rw [isP_1 hp hi, isPm_1 hp hi, bd_s, bd_s, if_neg i10, if_neg i10]
    rcases pc b W with ⟨w, rfl, hw⟩ | hb
    · rw [isW_1 hp hw, isWm_1 hp hw, bd_s, bd_s, if_neg i10, if_neg i10, known_h hp hi hw, knows_m _ _ (by omega), bd_s, bd_s]
      by_cases e : an32 (sr32 (τ 5 (37 + i)) w) 1 = 1
      · rw [if_pos e, if_neg i10, if_neg i10]; exact ag_fail h 9
      · have q1 := orB hp.bW (hp.knb i hi).1 (hp.knb i hi).2 hw
        have h1 := hp.sKn hi q1.1 q1.2
        have h2 := h.mv h1 (h.dt.up (by omega)) (FH.up (p := 8) (by omega) (by omega) (by omega)) (FM.up (by omega))
        have g := orS_g (fun q => decide (an32 (sr32 ((up_s τ 5 (37 + i) (or32 (τ 5 (37 + i)) (sl32 1 w))) 5 (37 + q)) w) 1 = 1)) bN
        rw [← pwS_o] at g
        rw [if_neg e, if_pos rfl, if_pos rfl, rd_k (by omega) (by omega), wr_k (by omega) (by omega), Int.toNat_natCast, hp.kn i hi, w32_i (by omega) (by omega), rd_k (by omega) (by omega), wr_k (by omega) (by omega), tn37]
        rw [show (14 : Nat) = 8 + 6 from rfl, knowers_h h1 (by omega), pw37_m h1, bd_s, bd_s, bc_n g.1 (by omega), sz_m, bd_s, bd_s]
        exact ag_give h2 (by rw [up_o (by omega)]; exact hz) _
    · rw [isW_0 hp hb, isWm_0 hp hb, bd_s, bd_s, if_pos rfl, if_pos rfl]; exact ag_fail h 2
  · rw [isP_0 hp ha, isPm_0 hp ha, bd_s, bd_s, if_pos rfl, if_pos rfl]; exact ag_fail h 2
theorem FH_beg {p i k : Nat} : FH p σ (begH σ p i k) := by
  unfold begH; exact ((FH.up (by omega) (by omega) (by omega)).tr (FH.up (by omega) (by omega) (by omega))).tr (FH.up (by omega) (by omega) (by omega))
theorem FM_beg {i k : Nat} (hi : i < 6) (hk : k < 8) : FM τ (begM τ i k) := by
  unfold begM; exact ((FM.up (by omega)).tr (FM.up (by omega))).tr (FM.up (by omega))
theorem FH_say {p i k j : Nat} : FH p σ (sayH σ p i k j) := by
  unfold sayH; exact (FH.up (by omega) (by omega) (by omega)).tr (FH.up (by omega) (by omega) (by omega))
theorem FM_say {i k j : Nat} (hi : i < 6) (hj : j < 6) : FM τ (sayM τ i k j) := by
  unfold sayM; exact (FM.up (by omega)).tr (FM.up (by omega))
theorem k_keep (h : RR σ τ W N D E) (a b : Int) : Ag (H_keep a b σ) (M_keep a b τ) := by
  rw [M_keep]; refine ag_go h (fun τ h hz => ?_)
  rw [H_keep]
  have hp := h.pr
  have bN := hp.bN
  have bW := hp.bW
  rcases pc a N with ⟨i, rfl, hi⟩ | ha
  · rw [isP_1 hp hi, isPm_1 hp hi, bd_s, bd_s, if_neg i10, if_neg i10]
    rcases pc b W with ⟨w, rfl, hw⟩ | hb
    · rw [isW_1 hp hw, isWm_1 hp hw, bd_s, bd_s, if_neg i10, if_neg i10, Pr_canStart, known_h hp hi hw, M_keepsNow, knows_m _ _ (by omega), bd_s, bd_s]
      by_cases e : an32 (sr32 (τ 5 (37 + i)) w) 1 = 1
      · rw [if_pos e, if_neg i10, if_neg i10, kept_h hp hi hw, keeps_m _ _ (by omega), bd_s, bd_s]
        by_cases e2 : an32 (sr32 (τ 5 (43 + i)) w) 1 = 1
        · rw [if_pos e2, if_neg i10, if_neg i10, bd_s, bd_s, if_pos rfl, if_pos rfl]; exact ag_fail h 9
        · have h1 := beg_r hp hi hw
          have h2 := h.mv h1 (h.dt.eq (by unfold begM; rw [up_k (by omega), up_k (by omega), up_k (by omega)])) FH_beg (FM_beg (by omega) (by omega))
          have g := h1.kpb i hi
          have g2 := pow_le bW
          rw [if_neg e2, if_pos rfl, if_pos rfl, bd_s, if_neg i10, beg_h hp hi hw, beg_m τ (by omega) (by omega), bd_s, bd_s, bd_s, if_neg i10, rd_k (by omega) (by omega), Int.toNat_natCast, w32_i (by omega) (by omega), rd_k (by omega) (by omega), tn43, show (15 : Nat) = 8 + 7 from rfl, h1.kp i hi, bc_n g.1 (by omega), sz_m, bd_s, bd_s]
          exact ag_give h2 (by rw [FM_beg (by omega) (by omega) _ _ (by omega)]; exact hz) _
      · rw [if_neg e, if_pos rfl, if_pos rfl, bd_s, bd_s, if_pos rfl, if_pos rfl]; exact ag_fail h 9
    · rw [isW_0 hp hb, isWm_0 hp hb, bd_s, bd_s, if_pos rfl, if_pos rfl]; exact ag_fail h 2
  · rw [isP_0 hp ha, isPm_0 hp ha, bd_s, bd_s, if_pos rfl, if_pos rfl]; exact ag_fail h 2
/-- whether one can say a word to another -/
theorem can_h {p : Nat} (h : PR p σ τ W N D E) {i k j : Nat} (hi : i < N) (hk : k < W) (hj : j < N) : Pr_canSpeak p i k j σ = some (if i ≠ j ∧ an32 (sr32 (τ 5 (43 + i)) k) 1 = 1 ∧ ¬ an32 (sr32 (τ 5 (37 + j)) k) 1 = 1 then 1 else 0, σ) := by
  rw [Pr_canSpeak, kept_h h hi hk, bd_s]
  by_cases e1 : an32 (sr32 (τ 5 (43 + i)) k) 1 = 1
  · rw [if_pos e1, if_neg i10, isP_1 h hj, bd_s, if_neg i10]
    by_cases e0 : (i : Int) = j
    · rw [if_pos e0, if_neg (fun q => q.1 (by omega))]
    · rw [if_neg e0, known_h h hj hk, bd_s]
      by_cases e2 : an32 (sr32 (τ 5 (37 + j)) k) 1 = 1
      · rw [if_pos e2, if_neg i10, if_neg (fun q => q.2.2 e2)]
      · rw [if_neg e2, if_pos rfl, if_pos ⟨by omega, e1, e2⟩]
  · rw [if_neg e1, if_pos rfl, if_neg (fun q => e1 q.2.1)]
theorem k_say (h : RR σ τ W N D E) (a b c : Int) : Ag (H_say a b c σ) (M_say a b c τ) := by
  rw [M_say]; refine ag_go h (fun τ h hz => ?_)
  rw [H_say]
  have hp := h.pr
  have bN := hp.bN
  have bW := hp.bW
  rcases pc a N with ⟨i, rfl, hi⟩ | ha
  · rw [isP_1 hp hi, isPm_1 hp hi, bd_s, bd_s, if_neg i10, if_neg i10]
    rcases pc b W with ⟨w, rfl, hw⟩ | hb
    · rw [isW_1 hp hw, isWm_1 hp hw, bd_s, bd_s, if_neg i10, if_neg i10]
      rcases pc c N with ⟨j, rfl, hj⟩ | hc
      · rw [isP_1 hp hj, isPm_1 hp hj, bd_s, bd_s, if_neg i10, if_neg i10, can_h hp hi hw hj, bd_s]
        by_cases e : i ≠ j ∧ an32 (sr32 (τ 5 (43 + i)) w) 1 = 1 ∧ ¬ an32 (sr32 (τ 5 (37 + j)) w) 1 = 1
        · have h1 := say_r hp hi hw hj
          have h2 := h.mv h1 (h.dt.eq (by unfold sayM; rw [up_k (by omega), up_k (by omega)])) FH_say (FM_say (by omega) (by omega))
          rw [if_pos e, if_neg i10, speak_h hp hi hw hj, bd_s, says_m hp hi hj e.1 e.2.1 e.2.2, bd_s, if_neg i10, hair_h h1 hi, hair_m h1 hi, bd_s, bd_s]
          exact ag_give h2 (by rw [FM_say (by omega) (by omega) _ _ (by omega)]; exact hz) _
        · rw [if_neg e, if_pos rfl, says_0 hp hi hj e, bd_s, if_pos rfl]; exact ag_fail h 9
      · rw [isP_0 hp hc, isPm_0 hp hc, bd_s, bd_s, if_pos rfl, if_pos rfl]; exact ag_fail h 2
    · rw [isW_0 hp hb, isWm_0 hp hb, bd_s, bd_s, if_pos rfl, if_pos rfl]; exact ag_fail h 2
  · rw [isP_0 hp ha, isPm_0 hp ha, bd_s, bd_s, if_pos rfl, if_pos rfl]; exact ag_fail h 2
theorem day_l {dd : Nat} (hdd : dd < 100000) : ∀ (m k n : Nat) (τ : Sg) (acc : Int), k + m = dd → m < n → M_day_L54 dd n acc k τ = gd m acc τ := by
  intro m
  induction m with
  | zero =>
    intro k n τ acc hk hn
    obtain ⟨n, rfl⟩ : ∃ x, n = x + 1 := ⟨n - 1, by omega⟩
    rw [M_day_L54, if_neg (by omega), gd]
  | succ m ih =>
    intro k n τ acc hk hn
    obtain ⟨n, rfl⟩ : ∃ x, n = x + 1 := ⟨n - 1, by omega⟩
    rw [M_day_L54, if_pos (by omega), gd]
    congr 1; funext r s
    rw [nm_k, nm_k, w32_i (x := (k : Int) + 1) (by omega) (by omega), suc]
    exact ih (k + 1) n s _ (by omega) (by omega)
theorem k_day (h : RR σ τ W N D E) (a : Int) : Ag (H_day a σ) (M_day a τ) := by
  rw [M_day]; refine ag_go h (fun τ h hz => ?_)
  rw [H_day]
  have hp := h.pr
  have hd := h.dt
  unfold DT at hd
  by_cases ha : 1 ≤ a ∧ a ≤ 99
  · obtain ⟨n, rfl⟩ := nat_of (x := a) (by omega)
    rw [wi_1 ha, in_1 ha, bd_s, bd_s, if_neg i10, if_neg i10, rd_k (by omega) (by omega), show Int.toNat 6 = 6 from rfl, hp.dt, w32_i (by omega) (by omega)]
    by_cases e : 9999 < τ 5 6 + n
    · rw [if_pos e, if_pos e]; exact ag_fail h 7
    · obtain ⟨r, σ', τ', a1, a2, a3, a4, a5, a6, a7, a8⟩ := days_h (dd := n) (by omega) hp (by omega)
      rw [if_neg e, if_neg e, a1, bd_s, show M_day_L54 n fu 0 0 τ = gd n 0 τ from day_l (by omega) n 0 fu τ 0 (by omega) (by unfold fu; omega), a2]
      refine ag_give (h.mv a3 ?_ a4 a5) (by rw [a5 _ _ (by omega)]; exact hz) _
      unfold DT; rw [a6, w32_i (by omega) (by omega)]; omega
  · rw [wi_0 ha, in_0 ha, bd_s, bd_s, if_pos rfl, if_pos rfl]; exact ag_fail h 5
end
