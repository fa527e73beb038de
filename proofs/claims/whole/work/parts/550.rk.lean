/-! living: anything -/
section
variable {p : Nat} {σ τ : Sg} {W N D E k b m : Nat}
theorem drw {x : Int} (h0 : 0 ≤ x) (h1 : x < 65536) : rm32 (w32 (w32 (x * 2971) + 10789)) 65536 = (x * 2971 + 10789) % 65536 := by
  rw [w32_i (x := x * 2971) (by omega) (by omega), w32_i (x := x * 2971 + 10789) (by omega) (by omega), rm_n (by omega) (by omega) (by omega) (by omega)]
theorem draw_h {n : Nat} (hn : 0 < n) (hn' : n ≤ 20) (h0 : 0 ≤ σ 95 3) (h1 : σ 95 3 < 65536) : Li_draw n σ = some ((σ 95 3 * 2971 + 10789) % 65536 / 8 % n, up_s σ 95 3 ((σ 95 3 * 2971 + 10789) % 65536)) := by
  rw [Li_draw, drw h0 h1, dv_k (by omega), nm_k, if_pos (by omega), up_e, dv_n (by omega) (by omega) (by omega) (by omega), dv_k (by omega), rm_n (by omega) (by omega) (by omega) (by omega), dv_k (by omega)]
theorem draw_m {n : Nat} (hn : 0 < n) (hn' : n ≤ 20) (h0 : 0 ≤ τ 0 37) (h1 : τ 0 37 < 65536) : M_draw n τ = some ((τ 0 37 * 2971 + 10789) % 65536 / 8 % n, up_s τ 0 37 ((τ 0 37 * 2971 + 10789) % 65536)) := by
  rw [M_draw, drw h0 h1, dv_k (by omega), nm_k, up_e, dv_n (by omega) (by omega) (by omega) (by omega), dv_k (by omega), rm_n (by omega) (by omega) (by omega) (by omega), dv_k (by omega)]
theorem LQ.d (hp : p ≤ 19) (q : LQ p σ τ W N D E k b m) {x : Int} (h0 : 0 ≤ x) (h1 : x < 65536) : LQ p (up_s σ 95 3 x) (up_s τ 0 37 x) W N D E k b m := by
  have s : ∀ y, up_s σ 95 3 x 96 y = σ 96 y := fun y => up_o (by omega)
  have t : ∀ y, y ≠ 37 → up_s τ 0 37 x 0 y = τ 0 y := fun y z => up_k z
  exact LQ.mk (q.pr.cg (fun i y _ _ => up_o (by omega)) (fun y _ => up_o (by omega))) (q.dt.eq (up_o (by omega))) (by rw [up_k (by omega)]; exact q.st) (by rw [t _ (by omega)]; exact q.st') (by rw [up_e, up_e]) (by rw [up_e]; exact ⟨h0, h1⟩) (by rw [s, t _ (by omega)]; exact q.f0) (by rw [t _ (by omega)]; exact q.f0b) (by rw [s, t _ (by omega)]; exact q.f1) (by rw [t _ (by omega)]; exact q.f1b) (by rw [s, t _ (by omega)]; exact q.f2) (by rw [t _ (by omega)]; exact q.f2b) (by rw [s, t _ (by omega)]; exact q.f3) (by rw [t _ (by omega)]; exact q.f3b) (by rw [s, t _ (by omega)]; exact q.f4) (by rw [t _ (by omega)]; exact q.f4b)
/-- one draw of both -/
theorem drawn (hp : p ≤ 19) (q : LQ p σ τ W N D E k b m) {n : Nat} (hn : 0 < n) (hn' : n ≤ 20) : ∃ (r : Nat) (σ' τ' : Sg), Li_draw n σ = some ((r : Int), σ') ∧ M_draw n τ = some ((r : Int), τ') ∧ r < n ∧ LQ p σ' τ' W N D E k b m ∧ LFH p σ σ' ∧ LFM τ τ' ∧ ∀ x, x = 36 ∨ x = 39 → τ' 0 x = τ 0 x := by
  have g := q.drb
  obtain ⟨r, hr⟩ := nat_of (x := (τ 0 37 * 2971 + 10789) % 65536 / 8 % (n : Int)) (Int.emod_nonneg _ (by omega))
  have hl := Int.emod_lt_of_pos ((τ 0 37 * 2971 + 10789) % 65536 / 8) (show (0 : Int) < n by omega)
  rw [hr] at hl
  refine ⟨r, _, _, ?_, ?_, by omega, q.d hp (x := (τ 0 37 * 2971 + 10789) % 65536) (by omega) (by omega), LFH.u (by omega), LFM.u (by omega), fun x z => up_k (by omega)⟩
  · rw [draw_h hn hn' (by rw [q.dr]; exact g.1) (by rw [q.dr]; exact g.2), q.dr, hr]
  · rw [draw_m hn hn' g.1 g.2, hr]
theorem a_any (hp : p ≤ 19) (hb : b ≤ 300) (q : LQ p σ τ W N D E k b m) : ACT p (Li_anything p σ) (M_isAny τ) σ τ W N D E k b m := by
  have h := q.pr
  have bN := h.bN
  have bW := h.bW
  rw [Li_anything, M_isAny, rd_k (by omega) (by omega), show Int.toNat 1 = 1 from rfl, show Int.toNat 0 = 0 from rfl, h.n, h.n', h.w]
  by_cases e : N = 0
  · rw [if_pos (by omega), if_pos (by omega)]; exact act_no q
  · rw [if_neg (show ¬ (N : Int) = 0 by omega), if_neg (show ¬ (N : Int) = 0 by omega), rd_k (by omega) (by omega), h.w']
    by_cases e' : W = 0
    · rw [if_pos (by omega), if_pos (by omega)]; exact act_no q
    · obtain ⟨i, σ1, τ1, a1, a2, a3, a4, a5, a6, a7⟩ := drawn hp q (n := N) (by omega) (by omega)
      obtain ⟨w, σ2, τ2, b1, b2, b3, b4, b5, b6, b7⟩ := drawn hp a4 (n := W) (by omega) (by omega)
      obtain ⟨j, σ3, τ3, c1, c2, c3, c4, c5, c6, c7⟩ := drawn hp b4 (n := N) (by omega) (by omega)
      obtain ⟨r, σ4, τ4, d1, d2, d3, d4, d5, d6, d7⟩ := a_say hp hb c4 a3 b3 c3
      rw [if_neg (show ¬ (W : Int) = 0 by omega), if_neg (show ¬ (W : Int) = 0 by omega), a1, bd_s, a4.pr.w, b1, bd_s, b4.pr.n, c1, bd_s, d1, bd_s, rd_k (by omega) (by omega), a2, bd_s, rd_k (by omega) (by omega), a4.pr.w', b2, bd_s, rd_k (by omega) (by omega), b4.pr.n', c2, bd_s, d2, bd_s, zb_k (by omega), zb_k (by omega)]
      exact ⟨r, σ4, τ4, rfl, rfl, d3, d4, ((a5.tr b5).tr c5).tr d5, ((a6.tr b6).tr c6).tr d6, fun x z => (d7 x z).trans ((c7 x z).trans ((b7 x z).trans (a7 x z)))⟩
end
