/-! living: one step of the reference -/
section
variable {y O : Nat} {σ τ τ' : Sg} {o f s t m c : Nat → Int} {rc : Int → Int → Sg → Rs}
theorem c9 (h : LSC y σ τ o f s t m c O) {a j : Nat} (ha : a < 30) (hj : j < 9) : τ 5 (177 + (9 * a + j)) = c (9 * a + j) := h.cc _ (by omega)
theorem x4_n {a : Nat} (ha : a < 30) : w32 (177 + w32 (9 * (a : Int))) = ((177 + 9 * a : Nat) : Int) := by
  rw [w32_i (x := 9 * (a : Int)) (by omega) (by omega), w32_i (by omega) (by omega)]; omega
theorem one_over {a : Int} (hk : τ 0 38 = 300) : M_doOne rc a τ = some (0, up_s (up_s τ 0 36 1) 0 43 1) := by
  rw [M_doOne, if_pos hk, zb_1, nm_k, nm_k]
theorem one_u (h : LSC y σ τ o f s t m c O) {a k : Nat} (ha : a < 30) (hk : τ 0 38 = k) (hk' : k < 300) : M_doOne rc a τ =
    (if c (9 * a) < 5 then (bd (M_does ((177 + 9 * a : Nat) : Int) (up_s τ 0 38 ((k + 1 : Nat) : Int))) (fun r6 s7 => (if r6 = 0 then (nm (up_s s7 0 39 (w32 (τ 0 39 + 1))) (fun s8 => (some (0, s8)))) else (nm (up_s s7 0 39 (w32 (τ 0 39 + 0))) (fun s9 => (some (0, s9))))))) else (if c (9 * a) = 5 then (bd (M_isSo ((177 + 9 * a : Nat) : Int) (up_s τ 0 38 ((k + 1 : Nat) : Int))) (fun r10 s11 => (if r10 = 0 then (M_doOne_J109 rc a ((177 + 9 * a : Nat) : Int) (c (9 * a)) s11) else (rd 2235 (w32 (((177 + 9 * a : Nat) : Int) + 8)) (s11 5 (Int.toNat (w32 (((177 + 9 * a : Nat) : Int) + 8)))) (fun x18 => (bd (rc (w32 (a + 1)) x18 s11) (fun r19 s20 => (some (0, s20))))))))) else (M_doOne_J109 rc a ((177 + 9 * a : Nat) : Int) (c (9 * a)) (up_s τ 0 38 ((k + 1 : Nat) : Int))))) := by
  have e1 : w32 ((k : Int) + 1) = ((k + 1 : Nat) : Int) := wk8 (by omega)
  have e2 := c9 h ha (j := 0) (by omega)
  rw [Nat.add_zero] at e2
  rw [M_doOne, if_neg (by omega), nm_k, hk, e1, nm_k, x4_n ha, rd_k (by omega) (by omega), Int.toNat_natCast, up_o (by omega), e2, up_k (by omega)]
theorem one_plain (h : LSC y σ τ o f s t m c O) {a k : Nat} (ha : a < 30) (hk : τ 0 38 = k) (hk' : k < 300) (h5 : c (9 * a) < 5) (b0 : 0 ≤ τ 0 39) (b1 : τ 0 39 ≤ 300) {r : Int} (hr : M_does ((177 + 9 * a : Nat) : Int) (up_s τ 0 38 ((k + 1 : Nat) : Int)) = some (r, τ')) :
    M_doOne rc a τ = some (0, up_s τ' 0 39 (τ 0 39 + oneIf r)) := by
  rw [one_u h ha hk hk', if_pos h5, hr, bd_s]
  by_cases e : r = 0
  · rw [if_pos e, nm_k, w32_i (by omega) (by omega), oneIf, if_pos e]
  · rw [if_neg e, nm_k, w32_i (by omega) (by omega), oneIf, if_neg e]
theorem one_stop (h : LSC y σ τ o f s t m c O) {a k : Nat} (ha : a < 30) (hk : τ 0 38 = k) (hk' : k < 300) (h7 : c (9 * a) = 7) : M_doOne rc a τ = some (0, up_s (up_s τ 0 38 ((k + 1 : Nat) : Int)) 0 36 1) := by
  rw [one_u h ha hk hk', h7, if_neg (by decide), if_neg (by decide), M_doOne_J109, if_neg (by decide), if_pos (by decide), zb_1, nm_k]
theorem one_loop (h : LSC y σ τ o f s t m c O) {a k : Nat} (ha : a < 30) (hk : τ 0 38 = k) (hk' : k < 300) (h6 : c (9 * a) = 6) : M_doOne rc a τ = M_doOne_L118 rc a ((177 + 9 * a : Nat) : Int) fu 0 (up_s τ 0 38 ((k + 1 : Nat) : Int)) := by
  rw [one_u h ha hk hk', h6, if_neg (by decide), if_neg (by decide), M_doOne_J109, if_pos rfl]
theorem one_no (h : LSC y σ τ o f s t m c O) {a k : Nat} (ha : a < 30) (hk : τ 0 38 = k) (hk' : k < 300) (h5 : c (9 * a) = 5) (hr : M_isSo ((177 + 9 * a : Nat) : Int) (up_s τ 0 38 ((k + 1 : Nat) : Int)) = some (0, τ')) : M_doOne rc a τ = some (0, τ') := by
  rw [one_u h ha hk hk', h5, if_neg (by decide), if_pos rfl, hr, bd_s, if_pos rfl, M_doOne_J109, if_neg (by decide), if_neg (by decide)]
theorem one_yes (h : LSC y σ τ o f s t m c O) {a k q : Nat} (ha : a < 30) (hk : τ 0 38 = k) (hk' : k < 300) (h5 : c (9 * a) = 5) (h8 : c (9 * a + 8) = q) (hr : M_isSo ((177 + 9 * a : Nat) : Int) (up_s τ 0 38 ((k + 1 : Nat) : Int)) = some (1, up_s τ 0 38 ((k + 1 : Nat) : Int))) : M_doOne rc a τ = bd (rc ((a + 1 : Nat) : Int) q (up_s τ 0 38 ((k + 1 : Nat) : Int))) (fun _ s => some (0, s)) := by
  have e1 : w32 ((a : Int) + 1) = ((a + 1 : Nat) : Int) := wk8 (by omega)
  have hc : ∀ j, j < 9 → up_s τ 0 38 ((k + 1 : Nat) : Int) 5 (177 + (9 * a + j)) = c (9 * a + j) := fun j hj => (up_o (by omega)).trans (c9 h ha hj)
  rw [one_u h ha hk hk', h5, if_neg (by decide), if_pos rfl, hr, bd_s, if_neg i10, cell_c ha hc 8 8 rfl (by omega), h8, e1]
theorem all_s (h : LSC y σ τ' o f s t m c O) {a q b n : Nat} (ha : a < 30) (hab : a < b) (h0 : τ 0 36 = 0) {r : Int} (h1 : M_doOne rc a τ = some (r, τ')) (h8 : c (9 * a + 8) = q) : M_doAll_L2 rc b (n + 1) a τ = M_doAll_L2 rc b n q τ' := by
  rw [M_doAll_L2, if_pos (by omega), if_pos h0, h1, bd_s, x4_n ha, cell_c ha (fun j hj => c9 h ha hj) 8 8 rfl (by omega), h8]
theorem all_o {v b : Int} {n : Nat} (h0 : τ 0 36 = 1) : M_doAll_L2 rc b (n + 1) v τ = some (0, τ) := by
  rw [M_doAll_L2]
  by_cases e : v < b
  · rw [if_pos e, if_neg (by omega)]
  · rw [if_neg e]
theorem loop_s (h : LSC y σ τ o f s t m c O) {a q g v n : Nat} (ha : a < 30) (h1 : c (9 * a + 1) = g) (hv : v < g) (hg : g < 100) (h8 : c (9 * a + 8) = q) (h0 : τ 0 36 = 0) : M_doOne_L118 rc a ((177 + 9 * a : Nat) : Int) (n + 1) v τ = bd (rc ((a + 1 : Nat) : Int) q τ) (fun _ s => M_doOne_L118 rc a ((177 + 9 * a : Nat) : Int) n ((v + 1 : Nat) : Int) s) := by
  have e1 : w32 ((a : Int) + 1) = ((a + 1 : Nat) : Int) := wk8 (by omega)
  have e2 : w32 ((v : Int) + 1) = ((v + 1 : Nat) : Int) := wk8 (by omega)
  rw [M_doOne_L118, cell_c ha (fun j hj => c9 h ha hj) 1 1 rfl (by omega), h1, if_pos (by omega), if_pos h0, cell_c ha (fun j hj => c9 h ha hj) 8 8 rfl (by omega), h8, e1, e2]
  rfl
theorem loop_e (h : LSC y σ τ o f s t m c O) {a g v n : Nat} (ha : a < 30) (h1 : c (9 * a + 1) = g) (hv : g ≤ v ∨ τ 0 36 = 1) : M_doOne_L118 rc a ((177 + 9 * a : Nat) : Int) (n + 1) v τ = some (0, τ) := by
  rw [M_doOne_L118, cell_c ha (fun j hj => c9 h ha hj) 1 1 rfl (by omega), h1]
  by_cases e : v < g
  · rw [if_pos (by omega), if_neg (by omega)]
  · rw [if_neg (by omega)]
end
