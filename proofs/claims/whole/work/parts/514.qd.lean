/-! trays -/
theorem ta_0 {a : Int} (h : ¬ (0 ≤ a ∧ a < (4 : Nat))) (σ : Sg) : Tr_isTray a σ = some (0, σ) := by
  rw [Tr_isTray]
  by_cases e : a < 0
  · rw [if_pos e]
  · rw [if_neg e, if_neg (by omega)]
theorem ta_1 {t : Nat} (h : t < 4) (σ : Sg) : Tr_isTray t σ = some (1, σ) := by rw [Tr_isTray, if_neg (by omega), if_pos (by omega)]
theorem tm_0 {a : Int} (h : ¬ (0 ≤ a ∧ a < (4 : Nat))) (τ : Sg) : M_isTray a τ = some (0, τ) := by rw [M_isTray, in_0 (by omega), bd_s, zb_0]
theorem tm_1 {t : Nat} (h : t < 4) (τ : Sg) : M_isTray t τ = some (1, τ) := by rw [M_isTray, in_1 (by omega), bd_s, zb_1]
theorem mi_1 {t : Nat} (h : t < 4) {σ : Sg} (e : σ 2 t = -1) : Tr_isMissing t σ = some (1, σ) := by
  rw [Tr_isMissing, ta_1 h, bd_s, if_neg i10, rd_k (by omega) (by omega), Int.toNat_natCast, if_pos e]
theorem mi_0 {t : Nat} (h : t < 4) {σ : Sg} (e : ¬ σ 2 t = -1) : Tr_isMissing t σ = some (0, σ) := by
  rw [Tr_isMissing, ta_1 h, bd_s, if_neg i10, rd_k (by omega) (by omega), Int.toNat_natCast, if_neg e]
theorem ts_1 {a : Int} (h : ¬ (0 ≤ a ∧ a < (4 : Nat))) (σ : Sg) : H_trayStatus a σ = some (1, σ) := by rw [H_trayStatus, ta_0 h, bd_s, if_pos rfl]
theorem ts_3 {t : Nat} (h : t < 4) {σ : Sg} (e : σ 2 t = -1) : H_trayStatus t σ = some (3, σ) := by rw [H_trayStatus, ta_1 h, bd_s, if_neg i10, mi_1 h e, bd_s, if_neg i10]
theorem ts_0 {t : Nat} (h : t < 4) {σ : Sg} (e : ¬ σ 2 t = -1) : H_trayStatus t σ = some (0, σ) := by rw [H_trayStatus, ta_1 h, bd_s, if_neg i10, mi_0 h e, bd_s, if_pos rfl]
theorem tz_h {t : Nat} (h : t < 4) (σ : Sg) : Tr_sizeOf t σ = some (σ 3 t, σ) := by rw [Tr_sizeOf, ta_1 h, bd_s, if_neg i10, rd_k (by omega) (by omega), Int.toNat_natCast]
theorem hr_h {t m : Nat} (h : t < 4) {σ : Sg} (e : σ 3 t = m) (hm : m ≤ 60) {b n : Int} (hb : c32 b) (hn : c32 n) : Tr_hasRow t b n σ = some (if 0 ≤ b ∧ 0 ≤ n ∧ b + n ≤ m then 1 else 0, σ) := by
  unfold c32 at hb hn
  rw [Tr_hasRow, tz_h h, bd_s, e, w64_i (by omega) (by omega)]
  by_cases h1 : b < 0
  · rw [if_pos h1, if_neg (by omega)]
  · rw [if_neg h1]
    by_cases h2 : n < 0
    · rw [if_pos h2, if_neg (by omega)]
    · rw [if_neg h2]
      by_cases h3 : (m : Int) < b + n
      · rw [if_pos h3, if_neg (by omega)]
      · rw [if_neg h3, if_pos (by omega)]
theorem hr_1 {t m : Nat} (h : t < 4) {σ : Sg} (e : σ 3 t = m) (hm : m ≤ 60) {k : Nat} (hk : k < m) : Tr_hasRow t k 1 σ = some (1, σ) := by
  have q : (0 : Int) ≤ (k : Int) ∧ (0 : Int) ≤ 1 ∧ (k : Int) + 1 ≤ (m : Int) := by omega
  rw [hr_h h e hm (by unfold c32; omega) (by unfold c32; omega), if_pos q]
/-- the head of a tray that is there -/
def TRP (σ τ : Sg) (t s m : Nat) : Prop := (t < 4) ∧ (s < 4) ∧ (m ≤ 60) ∧ (σ 2 t = s) ∧ (τ 1 t = s) ∧ (σ 3 t = m) ∧ (τ 2 t = m)
theorem TRP.mk {σ τ : Sg} {t s m : Nat} (hht : t < 4) (hhs : s < 4) (hhm : m ≤ 60) (ha : σ 2 t = s) (hb : τ 1 t = s) (hc : σ 3 t = m) (hd : τ 2 t = m) : TRP σ τ t s m := ⟨hht, hhs, hhm, ha, hb, hc, hd⟩
theorem TRP.ht {σ τ : Sg} {t s m : Nat} (h : TRP σ τ t s m) : t < 4 := h.1
theorem TRP.hs {σ τ : Sg} {t s m : Nat} (h : TRP σ τ t s m) : s < 4 := h.2.1
theorem TRP.hm {σ τ : Sg} {t s m : Nat} (h : TRP σ τ t s m) : m ≤ 60 := h.2.2.1
theorem TRP.a {σ τ : Sg} {t s m : Nat} (h : TRP σ τ t s m) : σ 2 t = s := h.2.2.2.1
theorem TRP.b {σ τ : Sg} {t s m : Nat} (h : TRP σ τ t s m) : τ 1 t = s := h.2.2.2.2.1
theorem TRP.c {σ τ : Sg} {t s m : Nat} (h : TRP σ τ t s m) : σ 3 t = m := h.2.2.2.2.2.1
theorem TRP.d {σ τ : Sg} {t s m : Nat} (h : TRP σ τ t s m) : τ 2 t = m := h.2.2.2.2.2.2
def ctS (s : Nat) (v : Int) : Int := if s = 0 then b32 (w32 v) else if s = 1 then s32 (w32 v) else if s = 2 then w32 v else v
theorem ct_h {s : Nat} (h : s < 4) (v : Int) (σ : Sg) : Tr_cutTo s v σ = some (ctS s v, σ) := by
  have q : s = 0 ∨ s = 1 ∨ s = 2 ∨ s = 3 := by omega
  rcases q with rfl | rfl | rfl | rfl <;> rfl
theorem ct_m {s : Nat} (h : s < 4) (v : Int) (τ : Sg) : M_cut s v τ = some (ctS s v, τ) := by
  have q : s = 0 ∨ s = 1 ∨ s = 2 ∨ s = 3 := by omega
  rcases q with rfl | rfl | rfl | rfl <;> rfl
theorem tx_h {t k : Nat} (ht : t < 4) (hk : k < 60) : w32 (w32 ((t : Int) * 60) + k) = ((60 * t + k : Nat) : Int) := by
  rw [w32_i (x := (t : Int) * 60) (by omega) (by omega), w32_i (by omega) (by omega)]; omega
theorem tx_m {t k : Nat} (ht : t < 4) (hk : k < 60) : w32 (w32 (60 * (t : Int)) + k) = ((60 * t + k : Nat) : Int) := by
  rw [w32_i (x := 60 * (t : Int)) (by omega) (by omega), w32_i (by omega) (by omega)]; omega
theorem put_h {σ τ : Sg} {t s m k : Nat} (q : TRP σ τ t s m) (hk : k < m) (v : Int) : Tr_put t k v σ = some (0, up_s σ 4 (60 * t + k) (ctS s v)) := by
  have h1 := q.ht
  have h2 := q.hm
  rw [Tr_put, hr_1 q.ht q.c q.hm hk, bd_s, if_neg i10, rd_k (by omega) (by omega), Int.toNat_natCast, q.a, ct_h q.hs, bd_s, tx_h q.ht (by omega), wr_k (by omega) (by omega), Int.toNat_natCast]
theorem at_h {σ τ : Sg} {t s m k : Nat} (q : TRP σ τ t s m) (hk : k < m) : Tr_at t k σ = some (σ 4 (60 * t + k), σ) := by
  have h1 := q.ht
  have h2 := q.hm
  rw [Tr_at, hr_1 q.ht q.c q.hm hk, bd_s, if_neg i10, tx_h q.ht (by omega), rd_k (by omega) (by omega), Int.toNat_natCast]
section
variable {σ τ σ' τ' : Sg} {W N D E : Nat}
theorem TRP.fr {t s m : Nat} (q : TRP σ τ t s m) (hs : ∀ o, 2 ≤ o → o ≤ 3 → σ' o t = σ o t) (ht : ∀ o, 1 ≤ o → o ≤ 2 → τ' o t = τ o t) : TRP σ' τ' t s m :=
  TRP.mk q.ht q.hs q.hm (by rw [hs 2 (by omega) (by omega)]; exact q.a) (by rw [ht 1 (by omega) (by omega)]; exact q.b) (by rw [hs 3 (by omega) (by omega)]; exact q.c) (by rw [ht 2 (by omega) (by omega)]; exact q.d)
theorem tr_c (h : RR σ τ W N D E) {t : Nat} (ht : t < 4) : (σ 2 t = -1 ∧ τ 2 t = -1) ∨ ∃ s m : Nat, TRP σ τ t s m ∧ ∀ k, k < m → σ 4 (60 * t + k) = τ 3 (60 * t + k) := by
  rcases h.rb.tr t ht with q | ⟨s, m, h1, h2, h3, h4, h5, h6, h7⟩
  · exact .inl q
  · exact .inr ⟨s, m, TRP.mk ht h1 h2 h3 h4 h5 h6, h7⟩
/-- trays have moved, and nothing else -/
theorem RR.trs (h : RR σ τ W N D E) (hs : ∀ o k, o < 2 ∨ 4 < o → σ' o k = σ o k) (ht : ∀ o k, o < 1 ∨ 3 < o → τ' o k = τ o k) (hr : ∀ t, t < 4 → TR σ' τ' t) : RR σ' τ' W N D E := by
  have r := h.rb
  refine RR.mk (h.pr.cg (fun j k _ _ => hs _ _ (by omega)) (fun k hk => ht _ _ (by omega))) (by have q := h.dt; unfold DT at q ⊢; rw [ht 5 6 (by omega)]; exact q) ?_
  refine RB.mk ?_ ?_ ?_ ?_ hr ?_ ?_ ?_ ?_ ?_ ?_ ?_
  · rw [hs _ _ (by omega), ht _ _ (by omega)]; exact r.tp
  · rw [hs _ _ (by omega), ht _ _ (by omega)]; exact r.bt
  · rw [hs _ _ (by omega), ht _ _ (by omega)]; exact r.fk
  · rw [hs _ _ (by omega), ht _ _ (by omega)]; exact r.fp
  · exact r.tz.cg (hs _ _ (by omega)) (ht _ _ (by omega)) (fun k => hs _ _ (by omega)) (fun k => ht _ _ (by omega))
  · exact r.na.cg h.pr.bW h.pr.bN (fun k _ => hs _ _ (by omega)) (fun k _ => ht _ _ (by omega))
  · exact r.ye.cg (fun k _ _ => hs _ _ (by omega)) (fun j k _ _ _ => hs _ _ (by omega)) (fun k _ _ => ht _ _ (by omega))
  · exact r.lv.cg (fun k _ => hs _ _ (by omega)) (ht _ _ (by omega)) (fun k _ => ht _ _ (by omega))
  · exact r.ms.cg (hs _ _ (by omega)) (ht _ _ (by omega)) (fun o k _ _ => hs _ _ (by omega)) (fun k _ _ => ht _ _ (by omega)) (fun k _ _ => ht _ _ (by omega))
  · rw [hs _ _ (by omega)]; exact r.mz
  · intro kk; rw [hs _ _ (by omega)]; exact r.kc kk
theorem RR.put (h : RR σ τ W N D E) (j : Nat) (x : Int) : RR (up_s σ 4 j x) (up_s τ 3 j x) W N D E := by
  refine h.trs (fun o k q => up_o (by omega)) (fun o k q => up_o (by omega)) (fun t ht => ?_)
  rcases h.rb.tr t ht with q | ⟨s, m, h1, h2, h3, h4, h5, h6, h7⟩
  · exact .inl ⟨by rw [up_o (by omega)]; exact q.1, by rw [up_o (by omega)]; exact q.2⟩
  · refine .inr ⟨s, m, h1, h2, by rw [up_o (by omega)]; exact h3, by rw [up_o (by omega)]; exact h4, by rw [up_o (by omega)]; exact h5, by rw [up_o (by omega)]; exact h6, fun k hk => ?_⟩
    by_cases e : 60 * t + k = j
    · rw [e, up_e, up_e]
    · rw [up_k e, up_k e]; exact h7 k hk
theorem pl_c (h : RR σ τ W N D E) (a b : Int) : ∃ r : Int, H_placeStatus a b σ = some (r, σ) ∧ M_placed a b τ = some (r, τ) ∧ 0 ≤ r ∧ (r = 0 → ∃ t s m k : Nat, a = t ∧ b = k ∧ k < m ∧ TRP σ τ t s m ∧ ∀ k, k < m → σ 4 (60 * t + k) = τ 3 (60 * t + k)) := by
  rcases pc a 4 with ⟨t, rfl, ht⟩ | ha
  · rcases tr_c h ht with ⟨q1, q2⟩ | ⟨s, m, q, q7⟩
    · refine ⟨3, ?_, ?_, by omega, fun e => absurd e (by omega)⟩
      · rw [H_placeStatus, ts_3 ht q1, bd_s, if_neg (by omega)]
      · rw [M_placed, M_trayed, if_neg (by omega), if_pos (by omega), rd_k (by omega) (by omega), Int.toNat_natCast, q2, if_pos (by omega), bd_s, if_pos (by omega)]
    · have h1 := q.a
      have h2 := q.hm
      have e1 : H_placeStatus t b σ = some (if 0 ≤ b ∧ b < m then 0 else 4, σ) := by
        rw [H_placeStatus, ts_0 ht (by omega), bd_s, if_pos rfl, tz_h ht, bd_s, q.c, w32_i (by omega) (by omega)]
        by_cases e : 0 ≤ b ∧ b < m
        · rw [wi_1 (by omega), bd_s, if_pos e, if_neg i10]
        · rw [wi_0 (by omega), bd_s, if_neg e, if_pos rfl]
      have e2 : M_placed t b τ = some (if 0 ≤ b ∧ b < m then 0 else 4, τ) := by
        rw [M_placed, M_trayed, if_neg (by omega), if_pos (by omega), rd_k (by omega) (by omega), Int.toNat_natCast, q.d, if_neg (by omega), bd_s, if_neg (by omega), rd_k (by omega) (by omega), q.d]
        by_cases e : b < 0
        · rw [if_pos e, if_neg (by omega)]
        · rw [if_neg e]
          by_cases e : b < m
          · rw [if_pos e, if_pos (by omega)]
          · rw [if_neg e, if_neg (by omega)]
      refine ⟨_, e1, e2, by split <;> omega, fun e => ?_⟩
      by_cases e3 : 0 ≤ b ∧ b < m
      · exact ⟨t, s, m, b.toNat, rfl, by omega, by omega, q, q7⟩
      · rw [if_neg e3] at e; omega
  · refine ⟨1, ?_, ?_, by omega, fun e => absurd e (by omega)⟩
    · rw [H_placeStatus, ts_1 ha, bd_s, if_neg (by omega)]
    · rw [M_placed, M_trayed]
      by_cases e : a < 0
      · rw [if_pos e, bd_s, if_pos (by omega)]
      · rw [if_neg e, if_neg (by omega), bd_s, if_pos (by omega)]
theorem k_read (h : RR σ τ W N D E) (a b : Int) : Ag (H_read a b σ) (M_read a b τ) := by
  rw [M_read, nm_k]
  have h1 := h.t1 0
  obtain ⟨r, e1, -, -, -⟩ := pl_c h a b
  obtain ⟨r', e1', e2, e3, e4⟩ := pl_c h1 a b
  rw [H_read, e1', e2, bd_s, bd_s]
  simp only [nm_k, up_e]
  have h2 := h1.t0 r'
  by_cases e : r' = 0
  · subst e
    obtain ⟨t, s, m, k, rfl, rfl, hk, q, q7⟩ := e4 rfl
    have b1 := q.ht
    have b2 := q.hm
    have q' : TRP (up_s σ 0 0 0) (up_s (up_s τ 0 1 0) 0 0 0) t s m := q.fr (fun o _ _ => up_o (by omega)) (fun o _ _ => up_o (by omega))
    rw [if_pos rfl, if_neg (show ¬ (0 : Int) < 0 by omega), at_h q' hk, bd_s, up_o (by omega), tx_m q.ht (by omega), rd_k (by omega) (by omega), Int.toNat_natCast, up_o (by omega), q7 k hk]
    exact ag_h (h2.s0 0) (by rw [up_e, up_e]) _
  · rw [if_neg e, if_pos (by omega), H_fail, nm_k, bd_s]
    exact ag_h (h2.s0 r') (by rw [up_e, up_e]) _
theorem wr_m {t s m k : Nat} (q : TRP σ τ t s m) (hk : k < m) (v : Int) : M_write t k v τ = some (1, up_s (up_s (up_s τ 0 1 0) 0 0 0) 3 (60 * t + k) (ctS s v)) := by
  have b1 := q.ht
  have b2 := q.hm
  have e2 : M_placed t k (up_s τ 0 1 0) = some (0, up_s τ 0 1 0) := by
    rw [M_placed, M_trayed, if_neg (by omega), if_pos (by omega), rd_k (by omega) (by omega), Int.toNat_natCast, up_o (by omega), q.d, if_neg (by omega), bd_s, if_neg (by omega), if_neg (by omega), rd_k (by omega) (by omega), up_o (by omega), q.d, if_pos (by omega)]
  rw [M_write, nm_k, e2, bd_s, nm_k, up_e, if_neg (by omega), rd_k (by omega) (by omega), Int.toNat_natCast, up_o (by omega), up_o (by omega), q.b, ct_m q.hs, bd_s, tx_m q.ht (by omega), wr_k (by omega) (by omega), Int.toNat_natCast]
theorem k_write (h : RR σ τ W N D E) (a b v : Int) : Ag (H_write a b v σ) (M_write a b v τ) := by
  have h1 := h.t1 0
  obtain ⟨r', e1', e2, e3, e4⟩ := pl_c h1 a b
  by_cases e : r' = 0
  · subst e
    obtain ⟨t, s, m, k, rfl, rfl, hk, q, q7⟩ := e4 rfl
    have q' : TRP σ τ t s m := q.fr (fun _ _ _ => rfl) (fun o _ _ => (up_o (by omega)).symm)
    rw [wr_m q' hk, H_write, e1', bd_s, if_pos rfl, put_h q' hk, bd_s]
    refine ag_yes ((h1.t0 0).put _ _) ?_
    rw [up_o (by omega), up_e]
  · rw [M_write, nm_k, e2, bd_s, nm_k, up_e, if_pos (by omega), H_write, e1', bd_s, if_neg e, H_refuse, nm_k, bd_s, zb_0]
    exact ag_h ((h1.t0 r').s0 r') (by rw [up_e, up_e]) _
theorem copy_l {t s mm : Nat} : ∀ (m i n n' : Nat) (σ τ : Sg), i + m = N → m < n → m < n' → RR σ τ W N D E → TRP σ τ t s mm → N ≤ mm → τ 0 0 = 0 → Ag (H_copyHair_L42 t n i σ) (M_copyHair_L62 t n' i τ) := by
  intro m
  induction m with
  | zero =>
    intro i n n' σ τ hi hn hn' h q hm hz
    obtain ⟨n, rfl⟩ : ∃ x, n = x + 1 := ⟨n - 1, by omega⟩
    obtain ⟨n', rfl⟩ : ∃ x, n' = x + 1 := ⟨n' - 1, by omega⟩
    rw [H_copyHair_L42, M_copyHair_L62, rd_k (by omega) (by omega), rd_k (by omega) (by omega), show Int.toNat 1 = 1 from rfl, h.pr.n, h.pr.n', if_neg (by omega), if_neg (by omega)]
    exact ag_give h hz _
  | succ m ih =>
    intro i n n' σ τ hi hn hn' h q hm hz
    obtain ⟨n, rfl⟩ : ∃ x, n = x + 1 := ⟨n - 1, by omega⟩
    obtain ⟨n', rfl⟩ : ∃ x, n' = x + 1 := ⟨n' - 1, by omega⟩
    have b1 := q.ht
    have bN := h.pr.bN
    rw [H_copyHair_L42, M_copyHair_L62, rd_k (by omega) (by omega), show Int.toNat 1 = 1 from rfl, h.pr.n, h.pr.n', if_pos (by omega), if_pos (by omega), hair_h h.pr (by omega), hair_m h.pr (by omega), bd_s, bd_s, put_h q (by omega), wr_m q (by omega), bd_s, bd_s, nm_k, nm_k, w32_i (by omega) (by omega), suc]
    refine ih (i + 1) n n' _ _ (by omega) (by omega) (by omega) (((h.t1 0).t0 0).put _ _) ?_ hm ?_
    · exact q.fr (fun o _ _ => up_o (by omega)) (fun o _ _ => by rw [up_o (by omega), up_o (by omega), up_o (by omega)])
    · rw [up_o (by omega), up_e]
theorem k_copyHair (h : RR σ τ W N D E) (a : Int) : Ag (H_copyHair a σ) (M_copyHair a τ) := by
  rw [M_copyHair]; refine ag_go h (fun τ h hz => ?_)
  rw [H_copyHair]
  have bN := h.pr.bN
  rcases pc a 4 with ⟨t, rfl, ht⟩ | ha
  · rw [tm_1 ht, bd_s, if_neg i10, rd_k (by omega) (by omega), rd_k (by omega) (by omega), rd_k (by omega) (by omega), Int.toNat_natCast, show Int.toNat 1 = 1 from rfl]
    rcases tr_c h ht with ⟨q1, q2⟩ | ⟨s, m, q, q7⟩
    · rw [ts_3 ht q1, bd_s, if_neg (by omega), q2, if_pos (by omega)]; exact ag_fail h 3
    · have h1 := q.a
      have h2 := q.hm
      rw [ts_0 ht (by omega), bd_s, if_pos rfl, tz_h ht, bd_s, q.c, q.d, if_neg (show ¬ (m : Int) < 0 by omega), h.pr.n, h.pr.n']
      by_cases e : (m : Int) < N
      · rw [if_pos e, if_pos e]; exact ag_fail h 4
      · rw [if_neg e, if_neg e]
        exact copy_l N 0 fu fu σ τ (by omega) (by unfold fu; omega) (by unfold fu; omega) h q (by omega) hz
  · rw [tm_0 ha, ts_1 ha, bd_s, bd_s, if_neg i10, if_pos rfl]; exact ag_fail h 1
/-- a row of noughts -/
def fz (σ : Sg) (o b n : Nat) : Sg := fun a x => if a = o ∧ b ≤ x ∧ x < b + n then 0 else σ a x
theorem fz_0 (σ : Sg) (o b : Nat) : fz σ o b 0 = σ := by funext a x; unfold fz; rw [if_neg (by omega)]
theorem fz_s (σ : Sg) (o b n : Nat) : up_s (fz σ o b n) o (b + n) 0 = fz σ o b (n + 1) := by
  funext a x; rw [up_v]; unfold fz
  by_cases e : a = o ∧ x = b + n
  · rw [if_pos e, if_pos (by omega)]
  · rw [if_neg e]
    by_cases e2 : a = o ∧ b ≤ x ∧ x < b + n
    · rw [if_pos e2, if_pos (by omega)]
    · rw [if_neg e2, if_neg (by omega)]
theorem mk_h {t m : Nat} (ht : t < 4) (hm : m ≤ 60) (σ : Sg) : Tr_make_L36 t m fu 0 σ = some (0, fz σ 4 (60 * t) m) := by
  have q := loopN (X := fun n k => Tr_make_L36 t m n k (fz σ 4 (60 * t) k)) (W := m) (R := some (0, fz σ 4 (60 * t) m)) ?_ ?_ fu (by unfold fu; omega)
  · rw [fz_0] at q; exact q
  · intro k n hk
    show Tr_make_L36 t m (n + 1) k _ = _
    rw [Tr_make_L36, if_pos (by omega), tx_h ht (by omega), wr_k (by omega) (by omega), Int.toNat_natCast, nm_k, fz_s, w32_i (by omega) (by omega), suc]
  · intro n
    show Tr_make_L36 t m (n + 1) m _ = _
    rw [Tr_make_L36, if_neg (by omega)]
theorem mk_m {t m : Nat} (ht : t < 4) (hm : m ≤ 60) (σ : Sg) : M_tray_L74 t m fu 0 σ = some (1, fz σ 3 (60 * t) m) := by
  have q := loopN (X := fun n k => M_tray_L74 t m n k (fz σ 3 (60 * t) k)) (W := m) (R := some (1, fz σ 3 (60 * t) m)) ?_ ?_ fu (by unfold fu; omega)
  · rw [fz_0] at q; exact q
  · intro k n hk
    show M_tray_L74 t m (n + 1) k _ = _
    rw [M_tray_L74, if_pos (by omega), tx_m ht (by omega), wr_k (by omega) (by omega), Int.toNat_natCast, nm_k, fz_s, w32_i (by omega) (by omega), suc]
  · intro n
    show M_tray_L74 t m (n + 1) m _ = _
    rw [M_tray_L74, if_neg (by omega)]
theorem fz_o {σ : Sg} {o b n a x : Nat} (h : a ≠ o ∨ x < b ∨ b + n ≤ x) : fz σ o b n a x = σ a x := by unfold fz; rw [if_neg (by omega)]
theorem fz_i {σ : Sg} {o b n x : Nat} (h : b ≤ x ∧ x < b + n) : fz σ o b n o x = 0 := by unfold fz; rw [if_pos (by omega)]
theorem k_tray (h : RR σ τ W N D E) (a b d : Int) : Ag (H_tray a b d σ) (M_tray a b d τ) := by
  rw [M_tray]; refine ag_go h (fun τ h hz => ?_)
  rw [H_tray]
  rcases pc a 4 with ⟨t, rfl, ht⟩ | ha
  · rw [ta_1 ht, bd_s, if_neg i10, if_neg (by omega), if_pos (by omega)]
    by_cases hb : 0 ≤ b ∧ b < 4
    · obtain ⟨s, rfl⟩ := nat_of hb.1
      rw [Tr_isSort, if_neg (show ¬ (s : Int) < 0 by omega), if_pos hb.2, bd_s, if_neg i10, if_neg (show ¬ (s : Int) < 0 by omega), if_neg (show ¬ 3 < (s : Int) by omega)]
      by_cases h1 : 60 < d
      · rw [if_pos h1, if_pos h1]; exact ag_no h 5
      · rw [if_neg h1, if_neg h1]
        by_cases h2 : d < 0
        · rw [if_pos h2, if_pos h2]; exact ag_no h 6
        · rw [if_neg h2, if_neg h2]
          obtain ⟨m, rfl⟩ := nat_of (x := d) (by omega)
          rw [Tr_make, ta_1 ht, bd_s, if_neg i10, if_neg h2, if_neg h1, wr_k (by omega) (by omega), wr_k (by omega) (by omega), wr_k (by omega) (by omega), wr_k (by omega) (by omega), mk_h ht (by omega), mk_m ht (by omega), bd_s]
          simp only [Int.toNat_natCast]
          refine ag_yes (h.trs (fun o k q => by rw [fz_o (by omega), up_o (by omega), up_o (by omega)]) (fun o k q => by rw [fz_o (by omega), up_o (by omega), up_o (by omega)]) (fun t' ht' => ?_)) (by rw [fz_o (by omega), up_o (by omega), up_o (by omega)]; exact hz)
          by_cases e : t' = t
          · subst e
            refine .inr ⟨s, m, by omega, by omega, ?_, ?_, ?_, ?_, fun k hk => ?_⟩
            · rw [fz_o (by omega), up_o (by omega), up_e]
            · rw [fz_o (by omega), up_o (by omega), up_e]
            · rw [fz_o (by omega), up_e]
            · rw [fz_o (by omega), up_e]
            · rw [fz_i (by omega), fz_i (by omega)]
          · rcases h.rb.tr t' ht' with q | ⟨s', m', h1, h2, h3, h4, h5, h6, h7⟩
            · refine .inl ⟨?_, ?_⟩
              · rw [fz_o (by omega), up_o (by omega), up_k (by omega)]; exact q.1
              · rw [fz_o (by omega), up_k (by omega), up_o (by omega)]; exact q.2
            · refine .inr ⟨s', m', h1, h2, ?_, ?_, ?_, ?_, fun k hk => ?_⟩
              · rw [fz_o (by omega), up_o (by omega), up_k (by omega)]; exact h3
              · rw [fz_o (by omega), up_o (by omega), up_k (by omega)]; exact h4
              · rw [fz_o (by omega), up_k (by omega), up_o (by omega)]; exact h5
              · rw [fz_o (by omega), up_k (by omega), up_o (by omega)]; exact h6
              · rw [fz_o (by omega), up_o (by omega), up_o (by omega), fz_o (by omega), up_o (by omega), up_o (by omega)]; exact h7 k hk
    · have e1 : Tr_isSort b σ = some (0, σ) := by
        rw [Tr_isSort]
        by_cases e : b < 0
        · rw [if_pos e]
        · rw [if_neg e, if_neg (by omega)]
      rw [e1, bd_s, if_pos rfl]
      by_cases e : b < 0
      · rw [if_pos e]; exact ag_no h 1
      · rw [if_neg e, if_pos (by omega)]; exact ag_no h 1
  · rw [ta_0 ha, bd_s, if_pos rfl]
    by_cases e : a < 0
    · rw [if_pos e]; exact ag_no h 1
    · rw [if_neg e, if_neg (by omega)]; exact ag_no h 1
end
