/-! living: loops, and whole runs -/
section
variable {p y O : Nat} {σ τ : Sg} {o f s t m c : Nat → Int} {W N D E k i a x z : Nat} {rc : Int → Int → Sg → Rs}
theorem rounds_0 {b G : Nat} (ha : a < 30) (h1 : c (9 * a + 1) = G) (hG : G < 100) (h8 : c (9 * a + 8) = b) (h : LSC y σ τ o f s t m c O) (h0 : τ 0 36 = 0) (hr : rc ((a + 1 : Nat) : Int) b τ = some (0, τ)) :
    ∀ (g v n : Nat), v + g = G → g < n → M_doOne_L118 rc a ((177 + 9 * a : Nat) : Int) n v τ = some (0, τ) := by
  intro g
  induction g with
  | zero =>
    intro v n hv hn
    obtain ⟨n, rfl⟩ : ∃ z, n = z + 1 := ⟨n - 1, by omega⟩
    exact loop_e h ha h1 (by omega)
  | succ g ih =>
    intro v n hv hn
    obtain ⟨n, rfl⟩ : ∃ z, n = z + 1 := ⟨n - 1, by omega⟩
    rw [loop_s h ha h1 (by omega) hG h8 h0, hr, bd_s]
    exact ih (v + 1) n (by omega) (by omega)
theorem rounds_r (hp : p ≤ 19) (hy : p + 10 < y ∧ y < 80) {b e G : Nat} (ha : a < 30) (hx : x < e) (he : e < O) (hO6 : O ≤ 60) (ho2 : o x = 22) (h1 : c (9 * a + 1) = G) (hG : G < 100) (h8 : c (9 * a + 8) = b) (ho : o e = 23) (hm' : m e = x)
    (hb : BODY p y o f s t m c O rc (a + 1) b (x + 1) e W N D E) (hne : a + 1 ≠ b) :
    ∀ (g v n k i : Nat) (σ τ : Sg), v + (g + 1) = G → g + 1 < n → LSC y σ τ o f s t m c O → LQ p σ τ W N D E k k k → k ≤ 300 → i ≤ 4 * k → τ 0 36 = 0 → σ 97 x = ((g + 1 : Nat) : Int) →
      LOUT p y (e + 1) x k i 0 (RUN p y (x + 1) i σ) (M_doOne_L118 rc a ((177 + 9 * a : Nat) : Int) n v τ) σ τ W N D E := by
  intro g
  induction g with
  | zero =>
    intro v n k i σ τ hv hn h q hk hi h0 h97
    obtain ⟨n, rfl⟩ : ∃ z, n = z + 2 := ⟨n - 2, by omega⟩
    have v1 := loop_s (rc := rc) (n := n + 1) h ha h1 (v := v) (by omega) hG h8 h0
    rcases hb σ τ k i 2 (by omega) (by omega) h q hk hi h0 with ⟨σ', τ', k', i', a1, a2, a3, a4, a5, a6, a7, a8⟩ | ⟨σ', τ', k', a1, a2, a3, a4, a5, a6, a7⟩
    · have h2 := h.r hy a7 a8
      have x97 : σ' 97 x = ((0 + 1 : Nat) : Int) := (a7 97 x (by omega) (by omega) (by omega) (by omega)).trans h97
      have el := e_loop h2 (by omega) he ho2 hm' x97 (by omega)
      rw [if_neg (by omega)] at el
      have u2 := it_end (p := p) h2 (x := e) (i := i') (by omega) (by omega) ho el
      exact .inl ⟨_, τ', k', i' + 1, a1.trans u2, by rw [v1, a2, bd_s]; exact loop_e h2 ha h1 (by omega), a3, a4.r97 hp, a5, by omega, (a7.tr (RFH.w (z := 0)) (x := x) (z := e + 1) (by omega) (by omega)), a8⟩
    · have h2 := h.r hy a6 a7
      exact .inr ⟨σ', τ', k', a1, by rw [v1, a2, bd_s]; exact loop_e h2 ha h1 (.inr a3), a3, a4, a5, a6, a7⟩
  | succ g ih =>
    intro v n k i σ τ hv hn h q hk hi h0 h97
    obtain ⟨n, rfl⟩ : ∃ z, n = z + 2 := ⟨n - 2, by omega⟩
    have v1 := loop_s (rc := rc) (n := n + 1) h ha h1 (v := v) (by omega) hG h8 h0
    rcases hb σ τ k i 2 (by omega) (by omega) h q hk hi h0 with ⟨σ', τ', k', i', a1, a2, a3, a4, a5, a6, a7, a8⟩ | ⟨σ', τ', k', a1, a2, a3, a4, a5, a6, a7⟩
    · have h2 := h.r hy a7 a8
      have x97 : σ' 97 x = (((g + 1) + 1 : Nat) : Int) := (a7 97 x (by omega) (by omega) (by omega) (by omega)).trans h97
      have el := e_loop h2 (by omega) he ho2 hm' x97 (by omega)
      rw [if_pos (by omega)] at el
      have u2 := it_end (p := p) h2 (x := e) (i := i') (by omega) (by omega) ho el
      have fw : RFH p x (e + 1) σ (up_s σ' 97 x ((g + 1 : Nat) : Int)) := a7.tr (RFH.w (z := 0)) (x := x) (z := e + 1) (by omega) (by omega)
      have h3 := h.r hy fw a8
      have r := ih (v + 1) (n + 1) k' (i' + 1) _ τ' (by omega) (by omega) h3 (a4.r97 hp) a5 (by omega) a3 up_e
      rw [v1, a2, bd_s, a1.trans u2]
      exact r.pre fw a8 (by omega) (by omega) (by omega)
    · have h2 := h.r hy a6 a7
      exact .inr ⟨σ', τ', k', a1, by rw [v1, a2, bd_s]; exact loop_e h2 ha h1 (.inr a3), a3, a4, a5, a6, a7⟩
theorem el_loop (hp : p ≤ 19) (hy : p + 10 < y ∧ y < 80) (h : LSC y σ τ o f s t m c O) (q : LQ p σ τ W N D E k k k) (hk : k ≤ 300) (ha : a < 30) {b e : Nat} (hx : x < e) (he : e < O) (hi : i ≤ 4 * k) (h0 : τ 0 36 = 0) (h6 : c (9 * a) = 6) (o2 : o x = 22) (hf : f x = c (9 * a + 1)) (hf1 : 1 ≤ f x) (hf2 : f x ≤ 99) (h8 : c (9 * a + 8) = b) (hm : m x = e) (ho : o e = 23) (hm' : m e = x)
    (hb : BODY p y o f s t m c O rc (a + 1) b (x + 1) e W N D E) (hie : x + 1 = e → a + 1 = b) (hei : a + 1 = b → x + 1 = e) (hb0 : a + 1 = b → ∀ τ, rc ((a + 1 : Nat) : Int) b τ = some (0, τ)) : LOUT p y (e + 1) x k i 2 (RUN p y x i σ) (M_doOne rc a τ) σ τ W N D E := by
  have oo := h.oo
  by_cases e3 : k = 300
  · exact el_over hp hy h q e3 (by omega) hi (by omega)
  · obtain ⟨G, hG⟩ := nat_of (x := f x) (by omega)
    have q1 := (q.k1 hp (v := k + 1)).w (b' := k + 1) (m' := k + 1) (by omega) (by omega)
    have f1 : RFH p x (e + 1) σ (up_s σ 95 2 ((k + 1 : Nat) : Int)) := (LFH.u (by omega)).r
    have f2 : LFM τ (up_s τ 0 38 ((k + 1 : Nat) : Int)) := LFM.u (by omega)
    have h1 := h.r hy f1 f2
    have bw := b_loop (p := p) h1 (by omega) o2 hm (by omega)
    have z36 : up_s τ 0 38 ((k + 1 : Nat) : Int) 0 36 = 0 := (up_k (by omega)).trans h0
    have v1 := one_loop (rc := rc) h ha q.st' (by omega) h6
    have f3 : RFH p x (e + 1) σ (up_s (up_s σ 95 2 ((k + 1 : Nat) : Int)) 97 x (f x)) := f1.tr (RFH.w (z := 0)) (by omega) (by omega)
    have h2 := h.r hy f3 f2
    by_cases e4 : e = x + 1
    · rw [if_pos e4] at bw
      have u1 := it_open (by omega) h (i := i) (by omega) (by omega) (by omega) q.st (by omega) bw
      exact .inl ⟨_, _, k + 1, i + 1, u1, by rw [v1]; exact rounds_0 (G := G) ha (by omega) (by omega) h8 h2 z36 (hb0 (hie e4.symm) _) G 0 fu (by omega) (by unfold fu; omega), z36, q1.r97 hp, by omega, by omega, f3, f2⟩
    · rw [if_neg e4] at bw
      have u1 := it_open (by omega) h (i := i) (by omega) (by omega) (by omega) q.st (by omega) bw
      have r := rounds_r hp hy (G := G) ha hx he oo o2 (by omega) (by omega) h8 ho hm' hb (fun z => e4 (hei z).symm) (G - 1) 0 fu (k + 1) (i + 1) _ _ (by omega) (by unfold fu; omega) h2 (q1.r97 hp) (by omega) (by omega) z36 (by rw [up_e]; omega)
      rw [v1, u1]
      exact r.pre f3 f2 (by omega) (by omega) (by omega)
theorem blk_e : ∀ {n d a b x z : Nat}, BLK o f s t m c W N n d a b x z → (a = b → x = z) ∧ (x = z → a = b) ∧ a ≤ b ∧ x ≤ z := by
  intro n d a b x z h
  cases n with
  | zero => exact h.elim
  | succ n =>
    rw [BLK] at h
    rcases h with ⟨h1, h2⟩ | ⟨h1, h2, _⟩ | ⟨q, e, h1, h2, h3, h4, h5, _⟩ <;> omega
theorem seq_r (hy : p + 10 < y ∧ y < 80) (h : LSC y σ τ o f s t m c O) (ha : a < 30) {b q z1 n : Nat} (hab : a < b) (h0 : τ 0 36 = 0) (h8 : c (9 * a + 8) = q) (hx : x ≤ z1) (hz1 : z1 ≤ z) (hz : z ≤ 60) (hi : i ≤ 4 * k)
    (hel : LOUT p y z1 x k i 2 (RUN p y x i σ) (M_doOne rc a τ) σ τ W N D E)
    (rest : ∀ (σ1 τ1 : Sg) (k1 i1 : Nat), LSC y σ1 τ1 o f s t m c O → LQ p σ1 τ1 W N D E k1 k1 k1 → k1 ≤ 300 → i1 ≤ 4 * k1 → τ1 0 36 = 0 → LOUT p y z z1 k1 i1 0 (RUN p y z1 i1 σ1) (M_doAll_L2 rc b (n + 1) q τ1) σ1 τ1 W N D E) :
    LOUT p y z x k i 2 (RUN p y x i σ) (M_doAll_L2 rc b (n + 2) a τ) σ τ W N D E := by
  rcases hel with ⟨σ', τ', k', i', a1, a2, a3, a4, a5, a6, a7, a8⟩ | ⟨σ', τ', k', a1, a2, a3, a4, a5, a6, a7⟩
  · have h2 := h.r hy a7 a8
    have r := rest σ' τ' k' i' h2 a4 a5 (by omega) a3
    rw [all_s h2 ha hab h0 a2 h8, a1]
    exact r.pre (a7.tr RFH.rfl (x := x) (z := z) (x2 := x) (z2 := z) (by omega) (by omega)) a8 hx hz (by omega)
  · have h2 := h.r hy a6 a7
    exact .inr ⟨σ', τ', k', a1, by rw [all_s h2 ha hab h0 a2 h8]; exact all_o a3, a3, a4, a5, a6, a7⟩
end
