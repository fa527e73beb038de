/-! days ahead: hair, what is known -/
section
variable {σ τ σ' τ' : Sg} {W N D E : Nat}
/-- cells put aside, and given back -/
def pt (τ : Sg) (n : Nat) : Sg := fun o k => if o = 6 ∧ k < n then τ 5 k else τ o k
def gv (τ : Sg) (n : Nat) : Sg := fun o k => if o = 5 ∧ k < n then τ 6 k else τ o k
theorem puts_m (τ : Sg) : M_puts τ = some (0, pt τ 175) := by
  rw [M_puts]
  have q := loopN (X := fun n k => M_puts_L2 n k (pt τ k)) (W := 175) (R := some (0, pt τ 175)) ?_ ?_ fu (by unfold fu; omega)
  · rw [show pt τ 0 = τ by funext o k; unfold pt; rw [if_neg (by omega)]] at q; exact q
  · intro k n hk
    show M_puts_L2 (n + 1) k _ = _
    rw [M_puts_L2, if_pos (by omega), rd_k (by omega) (by omega), wr_k (by omega) (by omega), Int.toNat_natCast, nm_k, w32_i (by omega) (by omega), suc]
    congr 1
    funext o x; rw [up_v]; unfold pt
    by_cases e : o = 6 ∧ x = k
    · rw [if_pos e, if_neg (by omega), if_pos (by omega), e.2]
    · rw [if_neg e]
      by_cases g : o = 6 ∧ x < k
      · rw [if_pos g, if_pos (by omega)]
      · rw [if_neg g, if_neg (by omega)]
  · intro n
    show M_puts_L2 (n + 1) (175 : Nat) _ = _
    rw [M_puts_L2, if_neg (by omega)]
theorem gives_m (τ : Sg) : M_gives τ = some (0, gv τ 175) := by
  rw [M_gives]
  have q := loopN (X := fun n k => M_gives_L2 n k (gv τ k)) (W := 175) (R := some (0, gv τ 175)) ?_ ?_ fu (by unfold fu; omega)
  · rw [show gv τ 0 = τ by funext o k; unfold gv; rw [if_neg (by omega)]] at q; exact q
  · intro k n hk
    show M_gives_L2 (n + 1) k _ = _
    rw [M_gives_L2, if_pos (by omega), rd_k (by omega) (by omega), wr_k (by omega) (by omega), Int.toNat_natCast, nm_k, w32_i (by omega) (by omega), suc]
    congr 1
    funext o x; rw [up_v]; unfold gv
    by_cases e : o = 5 ∧ x = k
    · rw [if_pos e, if_neg (by omega), if_pos (by omega), e.2]
    · rw [if_neg e]
      by_cases g : o = 5 ∧ x < k
      · rw [if_pos g, if_pos (by omega)]
      · rw [if_neg g, if_neg (by omega)]
  · intro n
    show M_gives_L2 (n + 1) (175 : Nat) _ = _
    rw [M_gives_L2, if_neg (by omega)]
/-- the spare province alone has moved -/
def F19 (σ σ' : Sg) : Prop := ∀ o k, (o < 19 ∨ 29 < o) → σ' o k = σ o k
theorem F19.fh {a : Sg} (h : F19 σ a) (h' : FH 19 a σ') : F19 σ σ' := fun o k q => (h' o k (by omega)).trans (h o k q)
theorem ah_0 (h : RR σ τ W N D E) : ∃ σ1, Pr_copyFrom 19 8 σ = some (0, σ1) ∧ PR 19 σ1 (pt τ 175) W N D E ∧ F19 σ σ1 := by
  obtain ⟨σ1, a, b⟩ := copyP (q := 19) (p := 8) (by omega) σ
  exact ⟨σ1, a, b.pr h.pr (fun k _ => by unfold pt; rw [if_neg (by omega)]), fun o k q => b.f (by omega)⟩
theorem ah_1 (h : RR σ τ W N D E) (hs : F19 σ σ') (ht : FM (pt τ 175) τ') : RR σ' (gv τ' 175) W N D E ∧ gv τ' 175 0 0 = τ 0 0 := by
  have key : ∀ o k, o ≠ 6 → gv τ' 175 o k = τ o k := fun o k q => by
    unfold gv
    by_cases e : o = 5 ∧ k < 175
    · rw [if_pos e, ht _ _ (by omega)]; unfold pt; rw [if_pos (by omega), e.1]
    · rw [if_neg e, ht _ _ (by omega)]; unfold pt; rw [if_neg (by omega)]
  refine ⟨h.fr (fun o k q => hs o k (by unfold SbH at q; omega)) (fun o k q => key o k (by unfold SbM at q; omega)), key 0 0 (by omega)⟩
theorem ga_l {dd : Nat} (hdd : dd < 100000) : ∀ (m k n : Nat) (τ : Sg) (acc r : Int) (τ' : Sg), k + m = dd → m < n → gd m acc τ = some (r, τ') → M_goesAhead_L6 dd n k τ = some (0, τ') := by
  intro m
  induction m with
  | zero =>
    intro k n τ acc r τ' hk hn h
    obtain ⟨n, rfl⟩ : ∃ x, n = x + 1 := ⟨n - 1, by omega⟩
    rw [gd] at h
    cases h
    rw [M_goesAhead_L6, if_neg (by omega)]
  | succ m ih =>
    intro k n τ acc r τ' hk hn h
    obtain ⟨n, rfl⟩ : ∃ x, n = x + 1 := ⟨n - 1, by omega⟩
    rw [gd] at h
    rw [M_goesAhead_L6, if_pos (by omega)]
    cases e : M_goesDay τ with
    | none => rw [e] at h; cases h
    | some q =>
      obtain ⟨r1, s1⟩ := q
      rw [e, bd_s] at h
      rw [bd_s, nm_k, w32_i (by omega) (by omega), suc]
      exact ih (k + 1) n s1 _ r τ' (by omega) (by omega) h
/-- the days ahead, as the class tries them and as the reference does -/
theorem ah_d (h : RR σ τ W N D E) {n : Nat} (hn : n ≤ 200) : ∃ σ1 σ2 τ2 r, Pr_copyFrom 19 8 σ = some (0, σ1) ∧ Pr_passDays 19 n σ1 = some (r, σ2) ∧ M_goesAhead n τ = some (0, τ2) ∧ PR 19 σ2 τ2 W N D E ∧ F19 σ σ2 ∧ FM (pt τ 175) τ2 := by
  obtain ⟨σ1, a1, a2, a3⟩ := ah_0 h
  obtain ⟨r, σ2, τ2, b1, b2, b3, b4, b5, -⟩ := days_h (dd := n) (by omega) a2 (by have := h.dt; unfold DT at this; rw [show pt τ 175 5 6 = τ 5 6 by unfold pt; rw [if_neg (by omega)]]; omega)
  refine ⟨σ1, σ2, τ2, r, a1, b1, ?_, b3, a3.fh b4, b5⟩
  rw [M_goesAhead, puts_m, bd_s]
  exact ga_l (by omega) n 0 fu _ 0 r τ2 (by omega) (by unfold fu; omega) b2
theorem as_c (h : RR σ τ W N D E) (a b : Int) : (H_aheadStatus a b σ = some (2, σ) ∧ M_isPersonAt a τ = some (0, τ)) ∨ (H_aheadStatus a b σ = some (5, σ) ∧ M_isPersonAt a τ = some (1, τ) ∧ M_isAhead b τ = some (0, τ)) ∨
    (H_aheadStatus a b σ = some (0, σ) ∧ M_isPersonAt a τ = some (1, τ) ∧ M_isAhead b τ = some (1, τ) ∧ ∃ i n : Nat, a = i ∧ i < N ∧ b = n ∧ n ≤ 200) := by
  have hp := h.pr
  rcases pc a N with ⟨i, rfl, hi⟩ | ha
  · by_cases hb : 0 ≤ b ∧ b ≤ 200
    · refine .inr (.inr ⟨?_, isPm_1 hp hi, ?_, i, b.toNat, rfl, hi, by omega, by omega⟩)
      · rw [H_aheadStatus, isP_1 hp hi, bd_s, if_neg i10, wi_1 hb, bd_s, if_neg i10]
      · rw [M_isAhead, in_1 hb, bd_s, zb_1]
    · refine .inr (.inl ⟨?_, isPm_1 hp hi, ?_⟩)
      · rw [H_aheadStatus, isP_1 hp hi, bd_s, if_neg i10, wi_0 hb, bd_s, if_pos rfl]
      · rw [M_isAhead, in_0 hb, bd_s, zb_0]
  · refine .inl ⟨?_, isPm_0 hp ha⟩
    rw [H_aheadStatus, isP_0 hp ha, bd_s, if_pos rfl]
theorem k_hairIn (h : RR σ τ W N D E) (a b : Int) : Ag (H_hairIn a b σ) (M_hairIn a b τ) := by
  rw [M_hairIn]; refine ag_go h (fun τ h hz => ?_)
  rw [H_hairIn]
  rcases as_c h a b with ⟨e1, e2⟩ | ⟨e1, e2, e3⟩ | ⟨e1, e2, e3, i, n, rfl, hi, rfl, hn⟩
  · rw [e1, e2, bd_s, bd_s, if_neg (by omega), if_pos rfl]; exact ag_fail h 2
  · rw [e1, e2, bd_s, bd_s, if_neg (by omega), if_neg i10, e3, bd_s, if_pos rfl]; exact ag_fail h 5
  · obtain ⟨σ1, σ2, τ2, r, a1, a2, a3, a4, a5, a6⟩ := ah_d h hn
    obtain ⟨c1, c2⟩ := ah_1 h a5 a6
    rw [e1, e2, bd_s, bd_s, if_pos rfl, if_neg i10, e3, bd_s, if_neg i10, a1, bd_s, a2, bd_s, a3, bd_s, hair_h a4 hi, hair_m a4 hi, bd_s, bd_s, gives_m, bd_s]
    exact ag_give c1 (c2.trans hz) _
theorem k_knownIn (h : RR σ τ W N D E) (a b : Int) : Ag (H_knownIn a b σ) (M_knownIn a b τ) := by
  rw [M_knownIn]; refine ag_go h (fun τ h hz => ?_)
  rw [H_knownIn]
  have bN := h.pr.bN
  rcases as_c h a b with ⟨e1, e2⟩ | ⟨e1, e2, e3⟩ | ⟨e1, e2, e3, i, n, rfl, hi, rfl, hn⟩
  · rw [e1, e2, bd_s, bd_s, if_neg (by omega), if_pos rfl]; exact ag_fail h 2
  · rw [e1, e2, bd_s, bd_s, if_neg (by omega), if_neg i10, e3, bd_s, if_pos rfl]; exact ag_fail h 5
  · obtain ⟨σ1, σ2, τ2, r, a1, a2, a3, a4, a5, a6⟩ := ah_d h hn
    obtain ⟨c1, c2⟩ := ah_1 h a5 a6
    rw [e1, e2, bd_s, bd_s, if_pos rfl, if_neg i10, e3, bd_s, if_neg i10, a1, bd_s, a2, bd_s, a3, bd_s, rd_k (by omega) (by omega), Int.toNat_natCast, w32_i (by omega) (by omega), rd_k (by omega) (by omega), tn37, show (25 : Nat) = 19 + 6 from rfl, a4.kn i hi, gives_m, bd_s]
    exact ag_give c1 (c2.trans hz) _
end
