/-! pouring and feeding -/
/-- places lo to hi of the poured row have come -/
def pu (τ : Sg) (sp dp lo hi : Nat) : Sg := fun o x => if o = 3 ∧ dp + lo ≤ x ∧ x < dp + hi then τ 3 (sp + (x - dp)) else τ o x
theorem pu_0 (τ : Sg) (sp dp k : Nat) : pu τ sp dp k k = τ := by funext o x; unfold pu; rw [if_neg (by omega)]
theorem pu_o {τ : Sg} {sp dp lo hi o x : Nat} (h : o ≠ 3 ∨ x < dp + lo ∨ dp + hi ≤ x) : pu τ sp dp lo hi o x = τ o x := by unfold pu; rw [if_neg (by omega)]
theorem pu_up {τ : Sg} {sp dp k : Nat} (h : sp + k < dp ∨ dp ≤ sp) : up_s (pu τ sp dp 0 k) 3 (dp + k) (pu τ sp dp 0 k 3 (sp + k)) = pu τ sp dp 0 (k + 1) := by
  rw [pu_o (by omega)]
  funext o x; rw [up_v]
  by_cases e : o = 3 ∧ x = dp + k
  · rw [if_pos e]; unfold pu; rw [if_pos (by omega), e.2]; congr 1; omega
  · rw [if_neg e]; unfold pu
    by_cases e2 : o = 3 ∧ dp + 0 ≤ x ∧ x < dp + k
    · rw [if_pos e2, if_pos (by omega)]
    · rw [if_neg e2, if_neg (by omega)]
theorem pu_dn {τ : Sg} {sp dp k n : Nat} (hk : k < n) (h : sp ≤ dp ∨ dp + n ≤ sp) : up_s (pu τ sp dp (n - k) n) 3 (dp + (n - 1 - k)) (pu τ sp dp (n - k) n 3 (sp + (n - 1 - k))) = pu τ sp dp (n - (k + 1)) n := by
  rw [pu_o (by omega)]
  funext o x; rw [up_v]
  by_cases e : o = 3 ∧ x = dp + (n - 1 - k)
  · rw [if_pos e]; unfold pu; rw [if_pos (by omega), e.2]; congr 1; omega
  · rw [if_neg e]; unfold pu
    by_cases e2 : o = 3 ∧ dp + (n - k) ≤ x ∧ x < dp + n
    · rw [if_pos e2, if_pos (by omega)]
    · rw [if_neg e2, if_neg (by omega)]
section
variable {σ τ σ' τ' : Sg} {W N D E : Nat}
theorem pxt {t i k : Nat} (ht : t < 4) (hi : i + k < 60) : w32 (w32 (w32 (60 * (t : Int)) + i) + k) = ((60 * t + i + k : Nat) : Int) := by
  rw [w32_i (x := 60 * (t : Int)) (by omega) (by omega), w32_i (x := 60 * (t : Int) + i) (by omega) (by omega), w32_i (by omega) (by omega)]; omega
theorem pour_m {t u i j n : Nat} (ht : t < 4) (hu : u < 4) (hi : i + n ≤ 60) (hj : j + n ≤ 60) {v6 : Int} (hv : v6 = if (i : Int) < j then 1 else 0) :
    M_pour_L158 t i u j n v6 fu 0 τ = some (1, pu τ (60 * t + i) (60 * u + j) 0 n) := by
  by_cases e : (i : Int) < j
  · rw [if_pos e] at hv
    subst hv
    have q := loopN (X := fun m k => M_pour_L158 t i u j n 1 m k (pu τ (60 * t + i) (60 * u + j) (n - k) n)) (W := n) (R := some (1, pu τ (60 * t + i) (60 * u + j) 0 n)) ?_ ?_ fu (by unfold fu; omega)
    · rw [Nat.sub_zero, pu_0] at q; exact q
    · intro k m hk
      show M_pour_L158 t i u j n 1 (m + 1) k _ = _
      rw [M_pour_L158, if_pos (by omega), if_neg i10, M_pour_J182, w32_i (x := (n : Int) - 1) (by omega) (by omega), w32_i (x := (n : Int) - 1 - k) (by omega) (by omega), show (n : Int) - 1 - k = ((n - 1 - k : Nat) : Int) by omega, pxt ht (by omega), pxt hu (by omega), rd_k (by omega) (by omega), wr_k (by omega) (by omega), Int.toNat_natCast, Int.toNat_natCast, nm_k, pu_dn hk (by omega), w32_i (by omega) (by omega), suc]
    · intro m
      show M_pour_L158 t i u j n 1 (m + 1) n _ = _
      rw [M_pour_L158, if_neg (by omega), Nat.sub_self]
  · rw [if_neg e] at hv
    subst hv
    have q := loopN (X := fun m k => M_pour_L158 t i u j n 0 m k (pu τ (60 * t + i) (60 * u + j) 0 k)) (W := n) (R := some (1, pu τ (60 * t + i) (60 * u + j) 0 n)) ?_ ?_ fu (by unfold fu; omega)
    · rw [pu_0] at q; exact q
    · intro k m hk
      show M_pour_L158 t i u j n 0 (m + 1) k _ = _
      rw [M_pour_L158, if_pos (by omega), if_pos rfl, M_pour_J182, pxt ht (by omega), pxt hu (by omega), rd_k (by omega) (by omega), wr_k (by omega) (by omega), Int.toNat_natCast, Int.toNat_natCast, nm_k, pu_up (by omega), w32_i (by omega) (by omega), suc]
    · intro m
      show M_pour_L158 t i u j n 0 (m + 1) n _ = _
      rw [M_pour_L158, if_neg (by omega)]
theorem cp_v (σ : Sg) (a0 a1 sp dp n a b : Nat) : cp_s σ a0 a1 sp dp n a b = if a = a1 ∧ dp ≤ b ∧ b < dp + n then σ a0 (sp + (b - dp)) else σ a b := by
  unfold cp_s
  by_cases e : a = a1
  · subst e
    rw [if_pos rfl]
    by_cases e2 : dp ≤ b ∧ b < dp + n
    · rw [if_pos e2, if_pos ⟨rfl, e2⟩]
    · rw [if_neg e2, if_neg (fun q => e2 q.2)]
  · rw [if_neg e, if_neg (fun q => e q.1)]
theorem cpw_k {n0 n1 : Nat} {sp dp n : Int} {s : Sg} {F : Sg → Rs} (h : 0 ≤ sp ∧ 0 ≤ dp ∧ 0 ≤ n ∧ sp + n ≤ (n0 : Int) ∧ dp + n ≤ (n1 : Int)) : cpw n0 n1 sp dp n s F = F s := if_pos h
theorem pour_t {t u v i j n m m2 k : Nat} (hi : i + n ≤ m) (hm2 : m2 ≤ 60) (q7 : ∀ k, k < m → σ 4 (60 * t + k) = τ 3 (60 * t + k)) (h7 : ∀ k, k < m2 → σ 4 (60 * v + k) = τ 3 (60 * v + k)) (hk : k < m2) :
    cp_s σ 4 4 (60 * t + i) (60 * u + j) n 4 (60 * v + k) = pu τ (60 * t + i) (60 * u + j) 0 n 3 (60 * v + k) := by
  rw [cp_v]; unfold pu
  by_cases g : 60 * u + j ≤ 60 * v + k ∧ 60 * v + k < 60 * u + j + n
  · have g' : 60 * u + j + 0 ≤ 60 * v + k ∧ 60 * v + k < 60 * u + j + n := g
    rw [if_pos ⟨rfl, g⟩, if_pos ⟨rfl, g'⟩, Nat.add_assoc]
    exact q7 _ (by omega)
  · rw [if_neg (fun z => g z.2), if_neg (fun z => g z.2)]; exact h7 k hk
theorem k_pour (h : RR σ τ W N D E) (a b c d e : Int) (hb : c32 b) (hd : c32 d) (he : c32 e) : Ag (H_pour a b c d e σ) (M_pour a b c d e τ) := by
  rw [M_pour]; refine ag_go h (fun τ h hz => ?_)
  rw [H_pour]
  rcases pc a 4 with ⟨t, rfl, ht⟩ | ha
  · rw [ta_1 ht, bd_s, if_neg i10, if_neg (by omega), if_pos (by omega)]
    rcases pc c 4 with ⟨u, rfl, hu⟩ | hc
    · rw [ta_1 hu, bd_s, if_neg i10, if_neg (by omega), if_pos (by omega), rd_k (by omega) (by omega), Int.toNat_natCast]
      rcases tr_c h ht with ⟨q1, q2⟩ | ⟨s, m, q, q7⟩
      · rw [mi_1 ht q1, bd_s, if_neg i10, q2, if_pos (by omega)]; exact ag_no h 3
      · have a1 := q.a
        have b1 := q.hm
        rw [mi_0 ht (by omega), bd_s, if_pos rfl, q.d, if_neg (by omega), rd_k (by omega) (by omega), Int.toNat_natCast]
        rcases tr_c h hu with ⟨r1, r2⟩ | ⟨s', m', r, r7⟩
        · rw [mi_1 hu r1, bd_s, if_neg i10, r2, if_pos (by omega)]; exact ag_no h 3
        · have a2 := r.a
          have b2 := r.hm
          rw [mi_0 hu (by omega), bd_s, if_pos rfl, r.d, if_neg (by omega), rd_k (by omega) (by omega), rd_k (by omega) (by omega), Tr_sortOf, ta_1 ht, bd_s, if_neg i10, rd_k (by omega) (by omega), bd_s, Tr_sortOf, ta_1 hu, bd_s, if_neg i10, rd_k (by omega) (by omega), bd_s]
          rw [Int.toNat_natCast t, Int.toNat_natCast u, q.a, q.b, r.a, r.b]
          by_cases e0 : (s : Int) = s'
          · rw [if_pos e0, if_pos e0]
            by_cases e1 : e < 0
            · rw [if_pos e1, if_pos e1]; exact ag_no h 6
            · rw [if_neg e1, if_neg e1, hr_h ht q.c q.hm hb he, bd_s, rd_k (by omega) (by omega), rd_k (by omega) (by omega)]
              unfold c32 at hb hd he
              rw [w64_i (x := b + e) (by omega) (by omega), w64_i (x := d + e) (by omega) (by omega)]
              by_cases g1 : 0 ≤ b ∧ 0 ≤ e ∧ b + e ≤ m
              · rw [if_pos g1, if_neg i10, hr_h hu r.c r.hm hd he, bd_s, if_neg (show ¬ b < 0 by omega)]
                by_cases g2 : 0 ≤ d ∧ 0 ≤ e ∧ d + e ≤ m'
                · obtain ⟨i, rfl⟩ := nat_of g1.1
                  obtain ⟨j, rfl⟩ := nat_of g2.1
                  obtain ⟨n, rfl⟩ := nat_of g1.2.1
                  have hL : (if (i : Int) < j then M_pour_L158 t i u j n 1 fu 0 τ else M_pour_L158 t i u j n 0 fu 0 τ) = some (1, pu τ (60 * t + i) (60 * u + j) 0 n) := by
                    by_cases g : (i : Int) < j
                    · rw [if_pos g]; exact pour_m ht hu (by omega) (by omega) (by rw [if_pos g])
                    · rw [if_neg g]; exact pour_m ht hu (by omega) (by omega) (by rw [if_neg g])
                  rw [if_pos g2, if_neg i10, if_neg (show ¬ (j : Int) < 0 by omega), if_neg (show ¬ (m : Int) < (i : Int) + n by omega), if_neg (show ¬ (m' : Int) < (j : Int) + n by omega), hL, Tr_move, hr_h ht q.c q.hm hb he, bd_s, if_pos g1, if_neg i10, hr_h hu r.c r.hm hd he, bd_s, if_pos g2, if_neg i10, cpw_k, bd_s]
                  · have x1 : Int.toNat (w32 (w32 ((t : Int) * 60) + i)) = 60 * t + i := by rw [w32_i (x := (t : Int) * 60) (by omega) (by omega), w32_i (by omega) (by omega)]; omega
                    have x2 : Int.toNat (w32 (w32 ((u : Int) * 60) + j)) = 60 * u + j := by rw [w32_i (x := (u : Int) * 60) (by omega) (by omega), w32_i (by omega) (by omega)]; omega
                    have gn : i + n ≤ m := Int.ofNat_le.mp (by rw [Int.natCast_add]; exact g1.2.2)
                    rw [x1, x2, Int.toNat_natCast]
                    clear x1 x2 hL g1 g2 hb hd he
                    refine ag_yes (h.trs (fun o k g => by rw [cp_v, if_neg (by omega)]) (fun o k g => pu_o (by omega)) (fun v hv => ?_)) (by rw [pu_o (by omega)]; exact hz)
                    rcases h.rb.tr v hv with g | ⟨s2, m2, h1, h2, h3, h4, h5, h6, h7⟩
                    · exact .inl ⟨by rw [cp_v, if_neg (by omega)]; exact g.1, by rw [pu_o (by omega)]; exact g.2⟩
                    · refine .inr ⟨s2, m2, h1, h2, by rw [cp_v, if_neg (by omega)]; exact h3, by rw [pu_o (by omega)]; exact h4, by rw [cp_v, if_neg (by omega)]; exact h5, by rw [pu_o (by omega)]; exact h6, fun k hk => ?_⟩
                      exact pour_t gn h2 q7 h7 hk
                  · rw [w32_i (x := (t : Int) * 60) (by omega) (by omega), w32_i (x := (u : Int) * 60) (by omega) (by omega), w32_i (by omega) (by omega), w32_i (by omega) (by omega)]; omega
                · rw [if_neg g2, if_pos rfl]
                  by_cases g3 : d < 0
                  · rw [if_pos g3]; exact ag_no h 4
                  · rw [if_neg g3, if_neg (by omega), if_pos (by omega)]; exact ag_no h 4
              · rw [if_neg g1, if_pos rfl]
                by_cases g3 : b < 0
                · rw [if_pos g3]; exact ag_no h 4
                · rw [if_neg g3]
                  by_cases g4 : d < 0
                  · rw [if_pos g4]; exact ag_no h 4
                  · rw [if_neg g4, if_pos (by omega)]; exact ag_no h 4
          · rw [if_neg e0, if_neg e0]; exact ag_no h 11
    · rw [ta_0 hc, bd_s, if_pos rfl]
      by_cases g : c < 0
      · rw [if_pos g]; exact ag_no h 1
      · rw [if_neg g, if_neg (by omega)]; exact ag_no h 1
  · rw [ta_0 ha, bd_s, if_pos rfl]
    by_cases g : a < 0
    · rw [if_pos g]; exact ag_no h 1
    · rw [if_neg g, if_neg (by omega)]; exact ag_no h 1
/-- a byte more on the tape -/
theorem RR.byte (h : RR σ τ W N D E) {m : Nat} (e1 : σ 5 1 = m) (e2 : τ 0 8 = m) (hm : m < 900) (x : Int) : RR (up_s (up_s σ 6 m x) 5 1 (m + 1 : Nat)) (up_s (up_s τ 4 m x) 0 8 (m + 1 : Nat)) W N D E := by
  have r := h.rb
  have hs : ∀ o k, o ≠ 6 → (o ≠ 5 ∨ k ≠ 1) → up_s (up_s σ 6 m x) 5 1 (m + 1 : Nat) o k = σ o k := fun o k h1 h2 => by rw [up_v, if_neg (by omega), up_o (by omega)]
  have ht : ∀ o k, o ≠ 4 → (o ≠ 0 ∨ k ≠ 8) → up_s (up_s τ 4 m x) 0 8 (m + 1 : Nat) o k = τ o k := fun o k h1 h2 => by rw [up_v, if_neg (by omega), up_o (by omega)]
  refine RR.mk (h.pr.cg (fun j k _ _ => hs _ _ (by omega) (by omega)) (fun k hk => ht _ _ (by omega) (by omega))) (by have q := h.dt; unfold DT at q ⊢; rw [ht 5 6 (by omega) (by omega)]; exact q) ?_
  refine RB.mk ?_ ?_ ?_ ?_ ?_ ?_ ?_ ?_ ?_ ?_ ?_ ?_
  · rw [hs _ _ (by omega) (by omega), ht _ _ (by omega) (by omega)]; exact r.tp
  · rw [hs _ _ (by omega) (by omega), ht _ _ (by omega) (by omega)]; exact r.bt
  · rw [hs _ _ (by omega) (by omega), ht _ _ (by omega) (by omega)]; exact r.fk
  · rw [hs _ _ (by omega) (by omega), ht _ _ (by omega) (by omega)]; exact r.fp
  · exact fun t q => (r.tr t q).cg (fun o k _ _ => hs o k (by omega) (by omega)) (fun o k _ _ => ht o k (by omega) (by omega))
  · obtain ⟨m', a, b, c, d⟩ := r.tz
    obtain rfl : m' = m := by omega
    refine ⟨m' + 1, by omega, up_e, up_e, fun k hk => ?_⟩
    rw [up_o (o := 5) (by omega), up_o (o := 0) (by omega)]
    by_cases e : k = m'
    · rw [e, up_e, up_e]
    · rw [up_k e, up_k e]; exact d k (by omega)
  · exact r.na.cg h.pr.bW h.pr.bN (fun k _ => hs _ _ (by omega) (by omega)) (fun k _ => ht _ _ (by omega) (by omega))
  · exact r.ye.cg (fun k _ _ => hs _ _ (by omega) (by omega)) (fun j k _ _ _ => hs _ _ (by omega) (by omega)) (fun k _ _ => ht _ _ (by omega) (by omega))
  · exact r.lv.cg (fun k _ => hs _ _ (by omega) (by omega)) (ht _ _ (by omega) (by omega)) (fun k _ => ht _ _ (by omega) (by omega))
  · exact r.ms.cg (hs _ _ (by omega) (by omega)) (ht _ _ (by omega) (by omega)) (fun o k _ _ => hs _ _ (by omega) (by omega)) (fun k _ _ => ht _ _ (by omega) (by omega)) (fun k _ _ => ht _ _ (by omega) (by omega))
  · rw [hs _ _ (by omega) (by omega)]; exact r.mz
  · intro kk; rw [hs _ _ (by omega) (by omega)]; exact r.kc kk
/-- four bytes, one by one -/
theorem lay_l (a : Int) : ∀ (j n n' m : Nat) (σ τ : Sg), j ≤ 4 → j < n → j < n' → m + j ≤ 900 → RR σ τ W N D E → σ 5 1 = m → τ 0 8 = m → σ 0 0 = τ 0 0 →
    ∃ σ' τ', To_putBytes_L3 a n (8 * (j : Int) - 8) σ = some (0, σ') ∧ M_lay_L2 a n' ((j : Int) - 1) τ = some (0, τ') ∧ RR σ' τ' W N D E ∧ σ' 5 1 = (m + j : Nat) ∧ τ' 0 8 = (m + j : Nat) ∧ σ' 0 0 = τ' 0 0 := by
  intro j
  induction j with
  | zero =>
    intro n n' m σ τ hj hn hn' hm h e1 e2 hs
    obtain ⟨n, rfl⟩ : ∃ x, n = x + 1 := ⟨n - 1, by omega⟩
    obtain ⟨n', rfl⟩ : ∃ x, n' = x + 1 := ⟨n' - 1, by omega⟩
    refine ⟨σ, τ, ?_, ?_, h, e1, e2, hs⟩
    · rw [To_putBytes_L3, if_pos (by omega)]
    · rw [M_lay_L2, if_pos (by omega)]
  | succ j ih =>
    intro n n' m σ τ hj hn hn' hm h e1 e2 hs
    obtain ⟨n, rfl⟩ : ∃ x, n = x + 1 := ⟨n - 1, by omega⟩
    obtain ⟨n', rfl⟩ : ∃ x, n' = x + 1 := ⟨n' - 1, by omega⟩
    obtain ⟨σ', τ', b1, b2, b3, b4, b5, b6⟩ := ih n n' (m + 1) _ _ (by omega) (by omega) (by omega) (by omega) (h.byte e1 e2 (by omega) (b32 (b32 (sr32 a (8 * (j : Int)))))) up_e up_e (by rw [up_o (by omega), up_o (by omega), up_k (by omega), up_o (by omega)]; exact hs)
    refine ⟨σ', τ', ?_, ?_, b3, by rw [b4]; congr 1; omega, by rw [b5]; congr 1; omega, b6⟩
    · rw [To_putBytes_L3, if_neg (by omega), e1, if_pos (by omega), wr_k (by omega) (by omega), Int.toNat_natCast, nm_k, nm_k, up_o (by omega), e1, w32_i (x := (m : Int) + 1) (by omega) (by omega), w32_i (by omega) (by omega), show 8 * ((j + 1 : Nat) : Int) - 8 + -8 = 8 * (j : Int) - 8 by omega, show 8 * ((j + 1 : Nat) : Int) - 8 = 8 * (j : Int) by omega]
      exact b1
    · rw [M_lay_L2, if_neg (by omega), e2, wr_k (by omega) (by omega), Int.toNat_natCast, nm_k, nm_k, up_o (by omega), e2, w32_i (x := (m : Int) + 1) (by omega) (by omega), w32_i (x := 8 * (((j + 1 : Nat) : Int) - 1)) (by omega) (by omega), w32_i (by omega) (by omega), show ((j + 1 : Nat) : Int) - 1 + -1 = (j : Int) - 1 by omega, show ((j + 1 : Nat) : Int) - 1 = (j : Int) by omega]
      exact b2
theorem lay_1 (a : Int) {m : Nat} (hm : m + 4 ≤ 900) (h : RR σ τ W N D E) (e1 : σ 5 1 = m) (e2 : τ 0 8 = m) (hs : σ 0 0 = τ 0 0) :
    ∃ σ' τ', To_putBytes a σ = some (0, σ') ∧ M_lay a τ = some (0, τ') ∧ RR σ' τ' W N D E ∧ σ' 5 1 = (m + 4 : Nat) ∧ τ' 0 8 = (m + 4 : Nat) ∧ σ' 0 0 = τ' 0 0 := by
  obtain ⟨σ', τ', b⟩ := lay_l a 4 fu fu m σ τ (by omega) (by unfold fu; omega) (by unfold fu; omega) hm h e1 e2 hs
  exact ⟨σ', τ', b⟩
theorem k_feed (h : RR σ τ W N D E) (hs : σ 0 0 = τ 0 0) (a b c d e : Int) : Ag (H_feed a b c d e σ) (M_feed a b c d e τ) := by
  rw [M_feed]; refine ag_m1 h hs (fun τ h hs => ?_)
  rw [H_feed]
  obtain ⟨m, m1, m2, m3, -⟩ := h.rb.tz
  rw [m2, m3, w32_i (by omega) (by omega)]
  by_cases g : 900 < (m : Int) + 20
  · rw [if_pos g, if_pos g]; exact ag_h h hs _
  · rw [if_neg g, if_neg g]
    obtain ⟨s1, t1, x1, y1, h1, u1, v1, w1⟩ := lay_1 a (by omega) h m2 m3 hs
    obtain ⟨s2, t2, x2, y2, h2, u2, v2, w2⟩ := lay_1 b (by omega) h1 u1 v1 w1
    obtain ⟨s3, t3, x3, y3, h3, u3, v3, w3⟩ := lay_1 c (by omega) h2 u2 v2 w2
    obtain ⟨s4, t4, x4, y4, h4, u4, v4, w4⟩ := lay_1 d (by omega) h3 u3 v3 w3
    obtain ⟨s5, t5, x5, y5, h5, u5, v5, w5⟩ := lay_1 e (by omega) h4 u4 v4 w4
    rw [x1, y1, bd_s, bd_s, x2, y2, bd_s, bd_s, x3, y3, bd_s, bd_s, x4, y4, bd_s, bd_s, x5, y5, bd_s, bd_s, u5, v5]
    exact ag_h h5 w5 _
end
