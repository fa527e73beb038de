/-! living: the whole run -/
section
variable {p y O : Nat} {o f s t m c : Nat → Int} {W N D E : Nat}
theorem doAll_s {n : Nat} {a b : Int} {τ : Sg} : M_doAll (n + 1) a b τ = M_doAll_L2 (M_doAll n) b fu a τ := by
  rw [M_doAll, M_doAll_B]
theorem run_b (hp : p ≤ 19) (hy : p + 10 < y ∧ y < 80) (hO : O ≤ 60) : ∀ (n d a b x z : Nat), BLK o f s t m c W N n d a b x z → n < 100 → b ≤ 30 → z ≤ O → ∀ (nd n' k i ex : Nat) (σ τ : Sg), d ≤ nd → n < n' → ex ≤ 2 → (a = b → ex = 0) → LSC y σ τ o f s t m c O → LQ p σ τ W N D E k k k → k ≤ 300 → i ≤ 4 * k → τ 0 36 = 0 →
    LOUT p y z x k i ex (RUN p y x i σ) (M_doAll_L2 (M_doAll nd) b n' a τ) σ τ W N D E := by
  intro n
  induction n with
  | zero => intro d a b x z h; exact h.elim
  | succ n ih =>
    intro d a b x z hB hn hb hz nd n' k i ex σ τ hd hn' hex he0 h q hk hi h0
    obtain ⟨n', rfl⟩ : ∃ w, n' = w + 2 := ⟨n' - 2, by omega⟩
    rw [BLK] at hB
    rcases hB with ⟨h1, h2⟩ | ⟨h1, h2, h3, h4, h5⟩ | ⟨q', e, h1, h2, h3, h4, h5, h6, h7, h8, h9, h10, h11, h12⟩
    · subst h1 h2
      refine .inl ⟨σ, τ, k, i, rfl, ?_, h0, q, hk, by omega, RFH.rfl, LFM.rfl⟩
      rw [M_doAll_L2, if_neg (by omega)]
    · have el := el_plain (rc := M_doAll nd) hp hy h q hk (show a < 30 by omega) (show x < O by omega) hi h0 h3
      have r := seq_r (n := n') hy h (show a < 30 by omega) (z := z) h1 h0 h4 (by omega) (by omega) (by omega) hi el (fun σ1 τ1 k1 i1 g1 g2 g3 g4 g5 => ih d (a + 1) b (x + 1) z h5 (by omega) hb hz nd (n' + 1) k1 i1 0 σ1 τ1 hd (by omega) (by omega) (fun _ => rfl) g1 g2 g3 g4 g5)
      exact r.pre RFH.rfl LFM.rfl (by omega) (by omega) (by omega)
    · obtain ⟨nd, rfl⟩ : ∃ w, nd = w + 1 := ⟨nd - 1, by omega⟩
      have be := blk_e h11
      have hbody : BODY p y o f s t m c O (M_doAll (nd + 1)) (a + 1) q' (x + 1) e W N D E := by
        intro σ1 τ1 k1 i1 ex1 g1 g2 g3 g4 g5 g6 g7
        rw [doAll_s]
        exact ih (d - 1) (a + 1) q' (x + 1) e h11 (by omega) (by omega) (by omega) nd fu k1 i1 ex1 σ1 τ1 (by omega) (by unfold fu; omega) g1 g2 g3 g4 g5 g6 g7
      have el : LOUT p y (e + 1) x k i 2 (RUN p y x i σ) (M_doOne (M_doAll (nd + 1)) a τ) σ τ W N D E := by
        by_cases c5 : c (9 * a) = 5
        · exact el_when hp hy h q hk (show a < 30 by omega) h4 (by omega) hi h0 h6 c5 h7 h8 h9 h10 hbody
        · have c6 : c (9 * a) = 6 ∧ o x = 22 ∧ f x = c (9 * a + 1) ∧ 1 ≤ f x ∧ f x ≤ 99 := by
            rcases h6 with g | g | g
            · exact absurd g.1 c5
            · exact absurd g.1 c5
            · exact g
          obtain ⟨j1, j2, j3, j4, j5⟩ := c6
          exact el_loop hp hy h q hk (show a < 30 by omega) h4 (by omega) hi h0 j1 j2 j3 j4 j5 h7 h8 h9 h10 hbody be.2.1 be.1 (fun z τ => by
            rw [doAll_s, show fu = 99999 + 1 from rfl, M_doAll_L2, if_neg (by omega)])
      have r := seq_r (n := n') hy h (show a < 30 by omega) (z := z) (by omega) h0 h7 (by omega) (by omega) (by omega) hi el (fun σ1 τ1 k1 i1 g1 g2 g3 g4 g5 => ih d q' b (e + 1) z h12 (by omega) hb hz (nd + 1) (n' + 1) k1 i1 0 σ1 τ1 hd (by omega) (by omega) (fun _ => rfl) g1 g2 g3 g4 g5)
      exact r.pre RFH.rfl LFM.rfl (by omega) (by omega) (by omega)
end
