/-! living: elements of a run -/
section
variable {p y O : Nat} {σ τ : Sg} {o f s t m c : Nat → Int} {W N D E k i a x z : Nat} {rc : Int → Int → Sg → Rs}
theorem el_over (hp : p ≤ 19) (hy : p + 10 < y ∧ y < 80) (h : LSC y σ τ o f s t m c O) (q : LQ p σ τ W N D E k k k) (hk : k = 300) (hx : x < O) (hi : i ≤ 4 * k) (e : o x ≠ 23) :
    LOUT p y z x k i 2 (RUN p y x i σ) (M_doOne rc a τ) σ τ W N D E := by
  subst hk
  refine .inr ⟨up_s σ 96 4 1, up_s (up_s τ 0 36 1) 0 43 1, 300, it_over h hx (by omega) e q.st, one_over q.st', ?_, ?_, by omega, ?_, ?_⟩
  · rw [up_k (by omega), up_e]
  · exact q.o1.u hp (j := 4) (x := 1) (by omega) (by omega) (by omega) ⟨fun z => by omega, fun z => by omega, fun z => by omega, fun z => by omega, fun _ => by omega⟩
  · exact (LFH.u (by omega)).r
  · exact (LFM.u (by omega)).tr (LFM.u (by omega))
theorem pln_o (h : PLN o f s t c W N a x) : (c (9 * a) = 7 ∧ o x = 24) ∨ (c (9 * a) < 5 ∧ c (9 * a) ≠ 7 ∧ o x ≠ 20 ∧ o x ≠ 21 ∧ o x ≠ 22 ∧ o x ≠ 23 ∧ o x ≠ 24) := by
  rcases h with h | h | h | h | h | h <;> omega
theorem el_plain (hp : p ≤ 19) (hy : p + 10 < y ∧ y < 80) (h : LSC y σ τ o f s t m c O) (q : LQ p σ τ W N D E k k k) (hk : k ≤ 300) (ha : a < 30) (hx : x < O) (hi : i ≤ 4 * k) (h0 : τ 0 36 = 0) (hP : PLN o f s t c W N a x) :
    LOUT p y (x + 1) x k i 2 (RUN p y x i σ) (M_doOne rc a τ) σ τ W N D E := by
  have oo := h.oo
  have po := pln_o hP
  by_cases e : k = 300
  · exact el_over hp hy h q e hx hi (by omega)
  · have q1 := q.k1 hp (v := k + 1)
    have h1 : LSC y (up_s σ 95 2 ((k + 1 : Nat) : Int)) (up_s τ 0 38 ((k + 1 : Nat) : Int)) o f s t m c O := h.r (p := p) hy (LFH.u (by omega)).r (x := 0) (z := 0) (LFM.u (by omega))
    rcases po with ⟨e1, e2⟩ | ⟨e1, e2, e3⟩
    · refine .inr ⟨_, _, k + 1, it_stop (by omega) h hx (by omega) e2 q.st (by omega), one_stop h ha q.st' (by omega) e1, up_e, (q1.w (by omega) (by omega)).o1, by omega, (LFH.u (by omega)).r, (LFM.u (by omega)).tr (LFM.u (by omega))⟩
    · obtain ⟨r, σ', τ', a1, a2, a3, a4, a5, a6, a7⟩ := plain_r hp (by omega) (by omega) q1 (y := y) (show x < 60 by omega) ha (h1.o1 x (by omega)) (h1.o2 x (by omega)) (h1.o3 x (by omega)) (h1.o4 x (by omega)) (fun j hj => c9 h1 ha hj) hP e2
      have g := q.f0b
      rw [up_k (by omega)] at a4
      refine .inl ⟨σ', _, k + 1, i + 1, it_plain (by omega) h hx (by omega) (by omega) q.st (by omega) a1, one_plain h ha q.st' (by omega) e1 g.1 (by omega) a2, ?_, a4, by omega, by omega, ((LFH.u (by omega)).tr a5).r, ((LFM.u (by omega)).tr a6).tr (LFM.u (by omega))⟩
      rw [up_k (by omega), a7, up_k (by omega)]; exact h0
/-- a body, as both run it -/
def BODY (p y : Nat) (o f s t m c : Nat → Int) (O : Nat) (rc : Int → Int → Sg → Rs) (a q x e W N D E : Nat) : Prop :=
  ∀ (σ τ : Sg) (k i ex : Nat), ex ≤ 2 → (a = q → ex = 0) → LSC y σ τ o f s t m c O → LQ p σ τ W N D E k k k → k ≤ 300 → i ≤ 4 * k → τ 0 36 = 0 → LOUT p y e x k i ex (RUN p y x i σ) (rc (a : Int) (q : Int) τ) σ τ W N D E
theorem el_when (hp : p ≤ 19) (hy : p + 10 < y ∧ y < 80) (h : LSC y σ τ o f s t m c O) (q : LQ p σ τ W N D E k k k) (hk : k ≤ 300) (ha : a < 30) {b e : Nat} (hx : x < e) (he : e < O) (hi : i ≤ 4 * k) (h0 : τ 0 36 = 0) (hO : OPN o f s t c W N a x) (h5 : c (9 * a) = 5) (h8 : c (9 * a + 8) = b) (hm : m x = e) (ho : o e = 23) (hm' : m e = x)
    (hb : BODY p y o f s t m c O rc (a + 1) b (x + 1) e W N D E) : LOUT p y (e + 1) x k i 2 (RUN p y x i σ) (M_doOne rc a τ) σ τ W N D E := by
  have oo := h.oo
  have o2 : o x = 20 ∨ o x = 21 := by rcases hO with h | h | h <;> omega
  by_cases e3 : k = 300
  · exact el_over hp hy h q e3 (by omega) hi (by omega)
  · have q1 := (q.k1 hp (v := k + 1)).w (b' := k + 1) (m' := k + 1) (by omega) (by omega)
    have f1 : RFH p x (e + 1) σ (up_s σ 95 2 ((k + 1 : Nat) : Int)) := (LFH.u (by omega)).r
    have f2 : LFM τ (up_s τ 0 38 ((k + 1 : Nat) : Int)) := LFM.u (by omega)
    have h1 := h.r hy f1 f2
    obtain ⟨r, r1, r2, r3⟩ := hold_r q1.pr (y := y) (show x < 60 by omega) ha (h1.o1 x (by omega)) (h1.o2 x (by omega)) (h1.o3 x (by omega)) (h1.o4 x (by omega)) (fun j hj => c9 h1 ha hj) hO h5
    have bw := b_when h1 (by omega) o2 hm (by omega) r2
    have z36 : up_s τ 0 38 ((k + 1 : Nat) : Int) 0 36 = 0 := (up_k (by omega)).trans h0
    rcases r1 with r1 | r1
    · subst r1
      rw [if_pos rfl] at bw
      exact .inl ⟨_, _, k + 1, i + 1, it_open (by omega) h (by omega) (by omega) (by omega) q.st (by omega) bw, one_no h ha q.st' (by omega) h5 r3, z36, q1, by omega, by omega, f1, f2⟩
    · subst r1
      rw [if_neg i10] at bw
      have u1 := it_open (by omega) h (i := i) (by omega) (by omega) (by omega) q.st (by omega) bw
      have v1 := one_yes (rc := rc) h ha q.st' (by omega) h5 h8 r3
      rcases hb _ _ (k + 1) (i + 1) 0 (by omega) (by omega) h1 q1 (by omega) (by omega) z36 with ⟨σ', τ', k', i', a1, a2, a3, a4, a5, a6, a7, a8⟩ | ⟨σ', τ', k', a1, a2, a3, a4, a5, a6, a7⟩
      · have h2 := h1.r hy a7 a8
        have u2 := it_end (p := p) h2 (x := e) (i := i') (by omega) (by omega) ho (e_when h2 (by omega) (by omega) o2 hm')
        exact .inl ⟨σ', τ', k', i' + 1, u1.trans (a1.trans u2), by rw [v1, a2, bd_s], a3, a4, a5, by omega, f1.tr a7 (by omega) (by omega), f2.tr a8⟩
      · exact .inr ⟨σ', τ', k', u1.trans a1, by rw [v1, a2, bd_s], a3, a4, a5, f1.tr a6 (x := 0) (z := 60) (by omega) (by omega), f2.tr a7⟩
end
