/-! living: openings and ends of blocks; what a run leaves -/
def RFH (p x z : Nat) (σ σ' : Sg) : Prop := ∀ o k, (o < p ∨ p + 10 < o ∨ o = p + 1) → o ≠ 95 → o ≠ 96 → (o ≠ 97 ∨ k < x ∨ z ≤ k) → σ' o k = σ o k
theorem RFH.rfl {p x z : Nat} {σ : Sg} : RFH p x z σ σ := fun _ _ _ _ _ _ => Eq.refl _
theorem RFH.tr {p x z x1 z1 x2 z2 : Nat} {a b c : Sg} (h : RFH p x1 z1 a b) (h' : RFH p x2 z2 b c) (e1 : x ≤ x1 ∧ x ≤ x2) (e2 : z1 ≤ z ∧ z2 ≤ z) : RFH p x z a c := fun o k q1 q2 q3 q4 => (h' o k q1 q2 q3 (by omega)).trans (h o k q1 q2 q3 (by omega))
theorem LFH.r {p x z : Nat} {a b : Sg} (h : LFH p a b) : RFH p x z a b := fun o k q1 q2 q3 _ => h o k q1 q2 q3
theorem RFH.w {p x z : Nat} {σ : Sg} {v : Int} : RFH p x (x + 1) σ (up_s σ 97 x v) := fun o k _ _ _ q => by rw [up_v, if_neg (by omega)]
section
variable {p y O : Nat} {σ τ σ' τ' : Sg} {o f s t m c : Nat → Int} {W N D E k b j : Nat}
theorem LSC.r (hy : p + 10 < y ∧ y < 80) (h : LSC y σ τ o f s t m c O) {x z : Nat} (h1 : RFH p x z σ σ') (h2 : LFM τ τ') : LSC y σ' τ' o f s t m c O :=
  h.cg (fun j k hj => h1 _ _ (by omega) (by omega) (by omega) (by omega)) (fun k hk => h2 _ _ (by omega) (by omega))
theorem b_when (h : LSC y σ τ o f s t m c O) {x e : Nat} (hx : x < O) (ho : o x = 20 ∨ o x = 21) (hm : m x = e) (he : e < 60) {r : Int} (hr : Li_holds p y x σ = some (r, σ)) : Li_behindBeginning p y x σ = some (if r = 0 then ((e + 1 : Nat) : Int) else ((x + 1 : Nat) : Int), σ) := by
  have := h.oo
  have e1 : w32 ((x : Int) + 1) = ((x + 1 : Nat) : Int) := wk8 (by omega)
  have e2 : w32 ((e : Int) + 1) = ((e + 1 : Nat) : Int) := wk8 (by omega)
  rw [Li_behindBeginning, rd_k (by omega) (by omega), rd_k (by omega) (by omega), Int.toNat_natCast, h.o1 x (by omega), h.o5 x (by omega), if_neg (by omega), hr, bd_s, hm, e1, e2]
  by_cases z : r = 0
  · rw [if_pos z, if_pos z]
  · rw [if_neg z, if_neg z]
theorem b_loop (h : LSC y σ τ o f s t m c O) {x e : Nat} (hx : x < O) (ho : o x = 22) (hm : m x = e) (he : e < 60) : Li_behindBeginning p y x σ = some (if e = x + 1 then ((e + 1 : Nat) : Int) else ((x + 1 : Nat) : Int), up_s σ 97 x (f x)) := by
  have := h.oo
  have e1 : w32 ((x : Int) + 1) = ((x + 1 : Nat) : Int) := wk8 (by omega)
  have e2 : w32 ((e : Int) + 1) = ((e + 1 : Nat) : Int) := wk8 (by omega)
  rw [Li_behindBeginning, rd_k (by omega) (by omega), rd_k (by omega) (by omega), Int.toNat_natCast, h.o1 x (by omega), h.o5 x (by omega), if_pos ho, rd_k (by omega) (by omega), h.o2 x (by omega), wr_k (by omega) (by omega), hm, e1, e2]
  by_cases z : e = x + 1
  · rw [if_pos (by omega), if_pos z]
  · rw [if_neg (by omega), if_neg z]
theorem e_when (h : LSC y σ τ o f s t m c O) {x e : Nat} (hx : x < O) (he : e < O) (ho : o x = 20 ∨ o x = 21) (hm : m e = x) : Li_behindEnd y e σ = some (((e + 1 : Nat) : Int), σ) := by
  have := h.oo
  have e2 : w32 ((e : Int) + 1) = ((e + 1 : Nat) : Int) := wk8 (by omega)
  rw [Li_behindEnd, rd_k (by omega) (by omega), Int.toNat_natCast, h.o5 e (by omega), hm, isO h hx, bd_s, if_neg i10, rd_k (by omega) (by omega), Int.toNat_natCast, h.o1 x (by omega), if_neg (by omega), e2]
theorem e_loop (h : LSC y σ τ o f s t m c O) {x e g : Nat} (hx : x < O) (he : e < O) (ho : o x = 22) (hm : m e = x) (hg : σ 97 x = ((g + 1 : Nat) : Int)) (hg' : g < 100) : Li_behindEnd y e σ = some (if 0 < g then ((x + 1 : Nat) : Int) else ((e + 1 : Nat) : Int), up_s σ 97 x (g : Int)) := by
  have := h.oo
  have e1 : w32 ((x : Int) + 1) = ((x + 1 : Nat) : Int) := wk8 (by omega)
  have e2 : w32 ((e : Int) + 1) = ((e + 1 : Nat) : Int) := wk8 (by omega)
  have e3 : w32 (((g + 1 : Nat) : Int) - 1) = (g : Int) := by rw [w32_i (by omega) (by omega)]; omega
  rw [Li_behindEnd, rd_k (by omega) (by omega), Int.toNat_natCast, h.o5 e (by omega), hm, isO h hx, bd_s, if_neg i10, rd_k (by omega) (by omega), Int.toNat_natCast, h.o1 x (by omega), if_pos ho, rd_k (by omega) (by omega), hg, e3, wr_k (by omega) (by omega), rd_k (by omega) (by omega), up_e, e1, e2]
  by_cases z : 0 < g
  · rw [if_pos (by omega), if_pos z]
  · rw [if_neg (by omega), if_neg z]
theorem LQ.k1 (q : LQ p σ τ W N D E k b j) (hp : p ≤ 19) {v : Nat} : LQ p (up_s σ 95 2 (v : Int)) (up_s τ 0 38 (v : Int)) W N D E v b j := by
  have s : ∀ y, up_s σ 95 2 (v : Int) 96 y = σ 96 y := fun y => up_o (by omega)
  have t : ∀ y, y ≠ 38 → up_s τ 0 38 (v : Int) 0 y = τ 0 y := fun y z => up_k z
  exact LQ.mk (q.pr.cg (fun i y _ _ => up_o (by omega)) (fun y _ => up_o (by omega))) (q.dt.eq (up_o (by omega))) up_e up_e (by rw [up_k (by omega), t _ (by omega)]; exact q.dr) (by rw [t _ (by omega)]; exact q.drb) (by rw [s, t _ (by omega)]; exact q.f0) (by rw [t _ (by omega)]; exact q.f0b) (by rw [s, t _ (by omega)]; exact q.f1) (by rw [t _ (by omega)]; exact q.f1b) (by rw [s, t _ (by omega)]; exact q.f2) (by rw [t _ (by omega)]; exact q.f2b) (by rw [s, t _ (by omega)]; exact q.f3) (by rw [t _ (by omega)]; exact q.f3b) (by rw [s, t _ (by omega)]; exact q.f4) (by rw [t _ (by omega)]; exact q.f4b)
theorem LQ.o1 (q : LQ p σ τ W N D E k b j) {v : Int} : LQ p σ (up_s τ 0 36 v) W N D E k b j := by
  have t : ∀ y, y ≠ 36 → up_s τ 0 36 v 0 y = τ 0 y := fun y z => up_k z
  exact LQ.mk (q.pr.cg (fun i y _ _ => Eq.refl _) (fun y _ => up_o (by omega))) (q.dt.eq (up_o (by omega))) q.st (by rw [t _ (by omega)]; exact q.st') (by rw [t _ (by omega)]; exact q.dr) (by rw [t _ (by omega)]; exact q.drb) (by rw [t _ (by omega)]; exact q.f0) (by rw [t _ (by omega)]; exact q.f0b) (by rw [t _ (by omega)]; exact q.f1) (by rw [t _ (by omega)]; exact q.f1b) (by rw [t _ (by omega)]; exact q.f2) (by rw [t _ (by omega)]; exact q.f2b) (by rw [t _ (by omega)]; exact q.f3) (by rw [t _ (by omega)]; exact q.f3b) (by rw [t _ (by omega)]; exact q.f4) (by rw [t _ (by omega)]; exact q.f4b)
theorem LQ.r97 (hp : p ≤ 19) (q : LQ p σ τ W N D E k b j) {x : Nat} {v : Int} : LQ p (up_s σ 97 x v) τ W N D E k b j := by
  have s : ∀ y, up_s σ 97 x v 96 y = σ 96 y := fun y => up_o (by omega)
  exact LQ.mk (q.pr.cg (fun i y _ _ => up_o (by omega)) (fun _ _ => Eq.refl _)) q.dt (by rw [up_o (by omega)]; exact q.st) q.st' (by rw [up_o (by omega)]; exact q.dr) q.drb (by rw [s]; exact q.f0) q.f0b (by rw [s]; exact q.f1) q.f1b (by rw [s]; exact q.f2) q.f2b (by rw [s]; exact q.f3) q.f3b (by rw [s]; exact q.f4) q.f4b
end
/-- what a run over orders leaves: both go on behind them, or both are over -/
def LOUT (p y z x k i ex : Nat) (u v : Rs) (σ τ : Sg) (W N D E : Nat) : Prop :=
  (∃ (σ' τ' : Sg) (k' i' : Nat), u = RUN p y z i' σ' ∧ v = some (0, τ') ∧ τ' 0 36 = 0 ∧ LQ p σ' τ' W N D E k' k' k' ∧ k' ≤ 300 ∧ 4 * k + i' + ex ≤ 4 * k' + i ∧ RFH p x z σ σ' ∧ LFM τ τ') ∨
  (∃ (σ' τ' : Sg) (k' : Nat), u = some (0, σ') ∧ v = some (0, τ') ∧ τ' 0 36 = 1 ∧ LQ p σ' τ' W N D E k' k' k' ∧ k' ≤ 300 ∧ RFH p 0 60 σ σ' ∧ LFM τ τ')
theorem LOUT.pre {p y z x x' k i ex k1 i1 e1 : Nat} {u v : Rs} {σ τ σ1 τ1 : Sg} {W N D E : Nat} (h : LOUT p y z x' k1 i1 e1 u v σ1 τ1 W N D E) (hs : RFH p x z σ σ1) (ht : LFM τ τ1) (hx : x ≤ x') (hz : z ≤ 60) (hk : 4 * k + i1 + ex ≤ 4 * k1 + i + e1) : LOUT p y z x k i ex u v σ τ W N D E := by
  rcases h with ⟨σ', τ', k', i', a1, a2, a3, a4, a5, a6, a7, a8⟩ | ⟨σ', τ', k', a1, a2, a3, a4, a5, a6, a7⟩
  · exact .inl ⟨σ', τ', k', i', a1, a2, a3, a4, a5, by omega, hs.tr a7 (by omega) (by omega), ht.tr a8⟩
  · exact .inr ⟨σ', τ', k', a1, a2, a3, a4, a5, hs.tr a6 (by omega) (by omega), ht.tr a7⟩
