/-! games: best play on both sides -/
section
variable {W N : Nat} {dd : Int}
/-- what holds at a level of the game -/
def GI (σ τ : Sg) (W N : Nat) (dd : Int) (l i j : Nat) : Prop := (GP τ W N) ∧ (SWH σ τ W dd) ∧ (HD σ τ W (dd + l) (2 * l) i) ∧ (HD σ τ W (dd + l) (2 * l + 1) j)
theorem GI.mk {σ τ : Sg} {W N : Nat} {dd : Int} {l i j : Nat} (hpr : GP τ W N) (hsw : SWH σ τ W dd) (hq1 : HD σ τ W (dd + l) (2 * l) i) (hq2 : HD σ τ W (dd + l) (2 * l + 1) j) : GI σ τ W N dd l i j := ⟨hpr, hsw, hq1, hq2⟩
theorem GI.pr {σ τ : Sg} {W N : Nat} {dd : Int} {l i j : Nat} (h : GI σ τ W N dd l i j) : GP τ W N := h.1
theorem GI.sw {σ τ : Sg} {W N : Nat} {dd : Int} {l i j : Nat} (h : GI σ τ W N dd l i j) : SWH σ τ W dd := h.2.1
theorem GI.q1 {σ τ : Sg} {W N : Nat} {dd : Int} {l i j : Nat} (h : GI σ τ W N dd l i j) : HD σ τ W (dd + l) (2 * l) i := h.2.2.1
theorem GI.q2 {σ τ : Sg} {W N : Nat} {dd : Int} {l i j : Nat} (h : GI σ τ W N dd l i j) : HD σ τ W (dd + l) (2 * l + 1) j := h.2.2.2
def BST (W N : Nat) (dd : Int) (i j T r : Nat) : Prop := ∀ (l n n' : Nat) (σ τ : Sg), l + r = T → r < n → r < n' → GI σ τ W N dd l i j →
  ∃ v σ' τ', Du_best n 8 l T σ = some (v, σ') ∧ M_plays n' i j l T τ = some (v, τ') ∧ GF l σ σ' ∧ TF l τ τ' ∧ (l = 0 → 0 < r → (0 ≤ τ' 0 33 ∧ τ' 0 33 ≤ W) ∧ σ' 108 4 = if τ' 0 33 = W then -1 else τ' 0 33)
theorem best_0 {i j T : Nat} (hi : i < N) (hj : j < N) (hT : T ≤ 3) : BST W N dd i j T 0 := by
  intro l n n' σ τ hl hn hn' g
  obtain ⟨n, rfl⟩ : ∃ x, n = x + 1 := ⟨n - 1, by omega⟩
  obtain ⟨n', rfl⟩ : ∃ x, n' = x + 1 := ⟨n' - 1, by omega⟩
  obtain rfl : l = T := by omega
  have bW := g.pr.bW
  refine ⟨w32 (hairS (τ 5) j W - hairS (τ 5) i W), σ, τ, ?_, ?_, GF.rfl, ⟨fun _ _ _ _ => rfl, fun _ _ => rfl⟩, fun _ h => absurd h (by omega)⟩
  · rw [Du_best, Du_best_B, nm_k, if_neg (by omega), Du_best_J15, show (1 : Int) = ((1 : Nat) : Int) from rfl, ha_h g.sw g.pr hT (by omega) g.q2, bd_s, show (0 : Int) = ((0 : Nat) : Int) from rfl, ha_h g.sw g.pr hT (by omega) g.q1, bd_s]
  · rw [M_plays, M_plays_B, if_pos rfl, hair_m0 g.pr.w' bW (by have := g.pr.bN; omega), bd_s, hair_m0 g.pr.w' bW (by have := g.pr.bN; omega), bd_s]
theorem TT.st {l : Nat} {τ0 τ τ1 τ2 : Sg} (hl : l ≤ 2) (h : TT l τ0 τ) (h1 : FM τ τ1) (h2 : TF (l + 1) τ1 τ2) : TT l τ0 (tkT τ2 l 175) := by
  obtain ⟨a, b, c⟩ := h
  obtain ⟨d, e⟩ := h2
  have key : ∀ k, k < 175 → τ2 12 (175 * l + k) = τ0 5 k := fun k hk => by rw [e _ (by omega), h1 _ _ (by omega), c k hk]
  refine ⟨fun o k z1 z2 => ?_, fun k hk => ?_, fun k hk => ?_⟩
  · unfold tkT
    by_cases w : o = 5 ∧ k < 175
    · rw [if_pos w, key k w.2, w.1]
    · rw [if_neg w, d o k z1 (by omega), h1 o k (by omega), a o k z1 z2]
  · unfold tkT; rw [if_neg (by omega), e k (by omega), h1 _ _ (by omega), b k hk]
  · unfold tkT; rw [if_neg (by omega), key k hk]
theorem best_l {i j T r l s u v : Nat} (hi : i < N) (hj : j < N) (hij : i ≠ j) (hT : T ≤ 3) (hl : l + (r + 1) = T) (ih : BST W N dd i j T r) (hs : s = l % 2) (hu : u = if s = 0 then i else j) (hv : v = if s = 0 then j else i)
    {n1 n1' : Nat} (hn1 : r < n1) (hn1' : r < n1') {σ0 τ0 : Sg} (g0 : GI σ0 τ0 W N dd l i j) {k204 : Int → Int → Sg → Rs} :
    ∀ (m k n n' : Nat) (σ τ : Sg) (b v7 v9 : Int), k + m = W + 1 → m < n → m < n' → GF l σ0 σ → TT l τ0 τ → ((v7 = 0 ∧ v9 = -1 ∧ 0 < m) ∨ (v7 = 1 ∧ (0 ≤ v9 ∧ v9 ≤ W) ∧ (l = 0 → σ 108 4 = if v9 = W then -1 else v9))) →
    ∃ (x y : Int) (σ' τ' : Sg), Du_best_L45 (Du_best n1) 8 l T (2 * l : Nat) s n b v7 k σ = some (x, σ') ∧ M_plays_L69 (M_plays n1') i j l T (if s = 0 then 1 else 0) u v k204 n' b v9 k τ = k204 x y τ' ∧ GF l σ0 σ' ∧ TT l τ0 τ' ∧ (0 ≤ y ∧ y ≤ W) ∧ (l = 0 → σ' 108 4 = if y = W then -1 else y) := by
  intro m
  have hp := g0.pr
  have bW := hp.bW
  have bN := hp.bN
  have huN : u < N := by rw [hu]; split <;> omega
  have hvN : v < N := by rw [hv]; split <;> omega
  have huv : u ≠ v := by rw [hu, hv]; split <;> omega
  induction m with
  | zero =>
    intro k n n' σ τ b v7 v9 hk hn hn' hG hT' hc
    obtain ⟨n, rfl⟩ : ∃ x, n = x + 1 := ⟨n - 1, by omega⟩
    obtain ⟨n', rfl⟩ : ∃ x, n' = x + 1 := ⟨n' - 1, by omega⟩
    rcases hc with ⟨_, _, z⟩ | ⟨-, z1, z2⟩
    · omega
    · refine ⟨b, v9, σ, τ, ?_, ?_, hG, hT', z1, z2⟩
      · rw [Du_best_L45, hG 8 10 (by omega), g0.sw.w, if_pos (by omega)]
      · rw [M_plays_L69, rd_k (by omega) (by omega), Int.toNat_zero, hT'.1 5 0 (by omega) (by omega), hp.w', if_pos (by omega)]
  | succ m ihm =>
    intro k n n' σ τ b v7 v9 hk hn hn' hG hT' hc
    obtain ⟨n, rfl⟩ : ∃ x, n = x + 1 := ⟨n - 1, by omega⟩
    obtain ⟨n', rfl⟩ : ∃ x, n' = x + 1 := ⟨n' - 1, by omega⟩
    have t5 : ∀ x, x < 175 → τ 5 x = τ0 5 x := fun x _ => hT'.1 5 x (by omega) (by omega)
    have hpT : GP τ W N := hp.cg (fun x z => t5 x (by omega))
    have q1 : HD σ τ W (dd + l) (2 * l) i := g0.q1.cg bW (fun o x z => hG o x (by unfold HO at z; omega)) (fun x z => t5 x (by omega))
    have q2 : HD σ τ W (dd + l) (2 * l + 1) j := g0.q2.cg bW (fun o x z => hG o x (by unfold HO at z; omega)) (fun x z => t5 x (by omega))
    have sw : SWH σ τ W dd := g0.sw.fs (fun o x z => hG o x (by omega)) (fun x z => t5 x (by omega)) bW
    have qf : HD σ τ W (dd + l) (2 * l + s) u := by
      rcases (show s = 0 ∨ s = 1 by omega) with z | z
      · rw [hu, if_pos z, z]; exact q1
      · rw [hu, if_neg (by omega), z]; exact q2
    have qt : HD σ τ W (dd + l) (2 * l + 1 - s) v := by
      rcases (show s = 0 ∨ s = 1 by omega) with z | z
      · rw [hv, if_pos z, z]; exact q2
      · rw [hv, if_neg (by omega), z]; exact q1
    -- a word is said, or none
    have play : (k = W ∨ (k < W ∧ (u ≠ v ∧ an32 (sr32 (τ 5 (43 + u)) k) 1 = 1 ∧ ¬ an32 (sr32 (τ 5 (37 + v)) k) 1 = 1))) →
        ∃ (x y : Int) (σ' τ' : Sg), Du_best_J87 (Du_best n1) 8 l T (2 * l : Nat) s b v7 k (fun x33 x34 x35 s36 => Du_best_L45 (Du_best n1) 8 l T (2 * l : Nat) s n x33 x34 x35 s36) σ = some (x, σ') ∧
          M_plays_J132 (M_plays n1') i j l T (if s = 0 then 1 else 0) u v b v9 k (fun x48 x49 x50 s51 => M_plays_L69 (M_plays n1') i j l T (if s = 0 then 1 else 0) u v k204 n' x48 x49 x50 s51) (if k < W then begM (sayM τ u k v) v k else τ) = k204 x y τ' ∧ GF l σ0 σ' ∧ TT l τ0 τ' ∧ (0 ≤ y ∧ y ≤ W) ∧ (l = 0 → σ' 108 4 = if y = W then -1 else y) := by
      intro hcan
      obtain ⟨σ1, c1, c2, c3, c4, c5, c6⟩ := turn_r (σ := σ) (τ := τ) (l := l) (k := k) (by omega) hs huN hvN huv hpT sw hi hj hij q1 q2 hu hv (by omega)
      have hpB : GP (if k < W then begM (sayM τ u k v) v k else τ) W N := by
        by_cases e : k < W
        · rw [if_pos e]; exact hpT.say huv huN hvN e
        · rw [if_neg e]; exact hpT
      have fB : FM τ (if k < W then begM (sayM τ u k v) v k else τ) := by
        by_cases e : k < W
        · rw [if_pos e]; exact (FM_say (by omega) (by omega)).tr (FM_beg (by omega) (by omega))
        · rw [if_neg e]; exact FM.rfl
      have f1 : FM τ (gM (gM (if k < W then begM (sayM τ u k v) v k else τ) i W) j W) := (fB.tr (fun o x z => gM_f _ (by omega) W bW o x (by omega))).tr (fun o x z => gM_f _ (by omega) W bW o x (by omega))
      obtain ⟨x, σ2, τ2, d1, d2, d3, d4, -⟩ := ih (l + 1) n1 n1' σ1 _ (by omega) hn1 hn1' (GI.mk c2 c3 c4 c5)
      have hG2 : GF l σ0 σ2 := hG.tr (fun o y z => by rw [d3 o y (by omega)]; exact c6 o y (by unfold HO; omega) (by unfold HO; omega))
      have hT2 : TT l τ0 (tkT τ2 l 175) := hT'.st (by omega) f1 d4
      have w2 : σ2 8 10 = W := by rw [hG2 8 10 (by omega)]; exact g0.sw.w
      have eM := pl_n (rc := M_plays n1') (i := i) (j := j) (l := l) (a4 := T) (v5 := if s = 0 then 1 else 0) (v6 := u) (v7 := v) (v8 := b) (v9 := v9) (k := k) (k69 := fun x48 x49 x50 s51 => M_plays_L69 (M_plays n1') i j l T (if s = 0 then 1 else 0) u v k204 n' x48 x49 x50 s51) (v := x) (by omega) ⟨_, grow_m hpB.w' bW (by omega), grow_m (hpB.grow hi).w' bW (by omega)⟩ (by rw [w32_i (by omega) (by omega), suc]; exact d2) (tk_t (by omega) τ2)
      rw [eM, Du_best_J87, c1, bd_s, w32_i (x := (l : Int) + 1) (by omega) (by omega), suc, d1, bd_s]
      simp only [nm_k]
      rw [op_h w2 (by omega), w32_i (x := (k : Int) + 1) (by omega) (by omega), suc]
      -- taken, or not
      have take := ihm (k + 1) n n' (opU l W k σ2) (tkT τ2 l 175) x 1 k (by omega) (by omega) (by omega) (hG2.tr (opU_f l W k σ2)) hT2 (.inr ⟨rfl, by omega, fun z => by subst z; exact opU_4 (by omega) σ2⟩)
      rcases hc with ⟨z1, z2, z3⟩ | ⟨z1, z2, z3⟩
      · rw [if_pos z1, if_pos (.inl (by omega))]; exact take
      · have leave := ihm (k + 1) n n' σ2 (tkT τ2 l 175) b v7 v9
        have o4 : l = 0 → σ2 108 4 = if v9 = W then -1 else v9 := fun z => by
          rw [d3 108 4 (by omega), c6 108 4 (by unfold HO; omega) (by unfold HO; omega)]; exact z3 z
        have leave := leave (by omega) (by omega) (by omega) hG2 hT2 (.inr ⟨z1, z2, o4⟩)
        rw [if_neg (show ¬ v7 = 0 by omega)]
        rcases (show s = 0 ∨ s = 1 by omega) with y | y
        · have v5 : ¬ (if s = 0 then (1 : Int) else 0) = 0 := by rw [if_pos y]; omega
          rw [if_pos (show (s : Int) = 0 by omega)]
          by_cases c : b < x
          · rw [if_pos c, if_pos (.inr (.inr ⟨v5, c⟩))]; exact take
          · rw [if_neg c, if_neg (fun z => z.elim (by omega) (fun z => z.elim (fun z => v5 z.1) (fun z => c z.2)))]; exact leave
        · have v5 : (if s = 0 then (1 : Int) else 0) = 0 := by rw [if_neg (by omega)]
          rw [if_neg (show ¬ (s : Int) = 0 by omega)]
          by_cases c : x < b
          · rw [if_pos c, if_pos (.inr (.inl ⟨v5, c⟩))]; exact take
          · rw [if_neg c, if_neg (fun z => z.elim (by omega) (fun z => z.elim (fun z => c z.2) (fun z => z.1 v5)))]; exact leave
    rw [Du_best_L45, sw.w, if_neg (show ¬ (W : Int) < (k : Int) by omega), M_plays_L69, rd_k (by omega) (by omega), rd_k (by omega) (by omega), Int.toNat_zero, hpT.w', if_neg (show ¬ (W : Int) < (k : Int) by omega)]
    by_cases e : k < W
    · rw [if_pos (show (k : Int) < (W : Int) by omega), if_neg (show ¬ (k : Int) = (W : Int) by omega), w32_i (x := ((2 * l : Nat) : Int) + s) (by omega) (by omega), w32_i (x := ((2 * l : Nat) : Int) + 1) (by omega) (by omega), w32_i (x := ((2 * l : Nat) : Int) + 1 - s) (by omega) (by omega), show ((2 * l : Nat) : Int) + s = ((2 * l + s : Nat) : Int) by omega, show ((2 * l : Nat) : Int) + 1 - s = ((2 * l + 1 - s : Nat) : Int) by omega, cs_h (by omega) (by omega) qf qt huN hvN huv hpT e, bd_s, M_plays_J96, if_pos rfl]
      by_cases c : u ≠ v ∧ an32 (sr32 (τ 5 (43 + u)) k) 1 = 1 ∧ ¬ an32 (sr32 (τ 5 (37 + v)) k) 1 = 1
      · have w := play (.inr ⟨e, c⟩)
        rw [if_pos e] at w
        rw [if_pos c, if_neg i10, says_m0 (by omega) (by omega) c.1 c.2.1 c.2.2, bd_s, if_neg i10, M_plays_J119, if_pos rfl, beg_m _ (by omega) (by omega), bd_s]
        exact w
      · rw [if_neg c, if_pos rfl, says_00 (by omega) (by omega) c, bd_s, if_pos rfl, nm_k, nm_k, w32_i (x := (k : Int) + 1) (by omega) (by omega), suc]
        refine ihm (k + 1) n n' σ τ b v7 v9 (by omega) (by omega) (by omega) hG hT' ?_
        rcases hc with ⟨z1, z2, z3⟩ | z
        · exact .inl ⟨z1, z2, by omega⟩
        · exact .inr z
    · obtain rfl : k = W := by omega
      have w := play (.inl rfl)
      rw [if_neg e] at w
      rw [if_neg (show ¬ (k : Int) < (k : Int) by omega), if_pos rfl, M_plays_J96, if_neg i10, M_plays_J119, if_neg i10]
      exact w
theorem best_s {i j T r : Nat} (hi : i < N) (hj : j < N) (hij : i ≠ j) (hT : T ≤ 3) (ih : BST W N dd i j T r) : BST W N dd i j T (r + 1) := by
  intro l n n' σ τ hl hn hn' g
  obtain ⟨n, rfl⟩ : ∃ x, n = x + 1 := ⟨n - 1, by omega⟩
  obtain ⟨n', rfl⟩ : ∃ x, n' = x + 1 := ⟨n' - 1, by omega⟩
  have bW := g.pr.bW
  have lay5 : ∀ o k, o ≠ 12 → layT τ l 175 o k = τ o k := fun o k z => by unfold layT; rw [if_neg (by omega)]
  have hT0 : TT l τ (layT τ l 175) := ⟨fun o k z1 _ => lay5 o k z1, fun k hk => by unfold layT; rw [if_neg (by omega)], fun k hk => by unfold layT; rw [if_pos (by omega)]; congr 1; omega⟩
  obtain ⟨x, y, σ', τ', a1, a2, a3, a4, a5, a6⟩ := best_l (s := l % 2) (u := if l % 2 = 0 then i else j) (v := if l % 2 = 0 then j else i) hi hj hij hT hl ih rfl rfl rfl (n1 := n) (n1' := n') (by omega) (by omega) g (k204 := fun x52 x53 s54 => M_plays_J204 (M_plays n') l x52 x53 s54) (W + 1) 0 fu fu σ (layT τ l 175) 0 0 (-1) (by omega) (by unfold fu; omega) (by unfold fu; omega) GF.rfl hT0 (.inl ⟨rfl, rfl, by omega⟩)
  have eH : Du_best (n + 1) 8 l T σ = some (x, σ') := by
    rw [Du_best, Du_best_B, nm_k, if_pos (by omega), if_pos (by omega), dv_k (by omega), rm_n (by omega) (by omega) (by omega) (by omega), w32_i (x := (l : Int) * 2) (by omega) (by omega), show (l : Int) * 2 = ((2 * l : Nat) : Int) by omega, show ((l : Int) % 2) = ((l % 2 : Nat) : Int) by omega]
    exact a1
  have eM : M_plays (n' + 1) i j l T τ = M_plays_J204 (M_plays n') l x y τ' := by
    rw [M_plays, M_plays_B, if_neg (by omega), dv_k (by omega), rm_n (by omega) (by omega) (by omega) (by omega)]
    by_cases e : l % 2 = 0
    · rw [if_pos e, if_pos e, if_pos e] at a2
      rw [if_pos (by omega), M_plays_J29, if_neg i10, M_plays_J41, if_neg i10, M_plays_J53, lay_t (by omega), bd_s]
      exact a2
    · rw [if_neg e, if_neg e, if_neg e] at a2
      rw [if_neg (by omega), M_plays_J29, if_pos rfl, M_plays_J41, if_pos rfl, M_plays_J53, lay_t (by omega), bd_s]
      exact a2
  rw [M_plays_J204] at eM
  by_cases e : l = 0
  · subst e
    rw [if_pos (by omega), nm_k] at eM
    refine ⟨x, σ', up_s τ' 0 33 y, eH, eM, a3, ⟨fun o k z1 z2 => ?_, fun k hk => absurd hk (by omega)⟩, fun _ _ => ?_⟩
    · rw [up_v, if_neg (by omega)]; exact a4.1 o k z1 z2
    · rw [up_e]; exact ⟨a5, a6 rfl⟩
  · rw [if_neg (by omega)] at eM
    exact ⟨x, σ', τ', eH, eM, a3, ⟨a4.1, a4.2.1⟩, fun z => absurd z e⟩
theorem best_all {i j T : Nat} (hi : i < N) (hj : j < N) (hij : i ≠ j) (hT : T ≤ 3) : ∀ r, BST W N dd i j T r
  | 0 => best_0 hi hj hT
  | r + 1 => best_s hi hj hij hT (best_all hi hj hij hT r)
end
section
variable {σ τ : Sg} {W N D E : Nat}
/-- one sits down -/
theorem seat_h {i h : Nat} (hi : i < 6) (hh : h < 8) : ∃ σ', Du_seat 8 i h σ = some (0, σ') ∧ (∀ o k, HO h o k → σ' o k = σ o k) ∧ ∀ (τ : Sg) (W : Nat), W ≤ 8 → (σ 14 i = τ 5 (37 + i)) → (σ 15 i = τ 5 (43 + i)) → (∀ k : Nat, k < W → an32 (sr32 (τ 5 (43 + i)) k) 1 = 1 → SA σ τ 8 i k) → HD σ' τ W (τ 5 6) h i := by
  refine ⟨cp_s (cp_s (up_s (up_s σ 109 h (σ 14 i)) 110 h (σ 15 i)) 16 111 (8 * i) (8 * h) 8) 17 112 (8 * i) (8 * h) 8, ?_, fun o k z => ?_, fun τ W bW q1 q2 q3 => ?_⟩
  · rw [Du_seat, rd_k (by omega) (by omega), wr_k (by omega) (by omega), Int.toNat_natCast, Int.toNat_natCast, rd_k (by omega) (by omega), wr_k (by omega) (by omega), up_o (by omega), h8 (h := i) (by omega), h8 hh, cpw_k (by omega), cpw_k (by omega), Int.toNat_natCast, Int.toNat_natCast, show Int.toNat 8 = 8 from rfl]
  · unfold HO at z
    rw [cp_v, if_neg (by omega), cp_v, if_neg (by omega), up_v, if_neg (by omega), up_v, if_neg (by omega)]
  · have x1 : ∀ k, k < 8 → cp_s (cp_s (up_s (up_s σ 109 h (σ 14 i)) 110 h (σ 15 i)) 16 111 (8 * i) (8 * h) 8) 17 112 (8 * i) (8 * h) 8 111 (8 * h + k) = σ (8 + 8) (i * 8 + k) := fun k hk => by
      rw [cp_v, if_neg (by omega), cp_v, if_pos (by omega), up_o (by omega), up_o (by omega), show 8 * i + (8 * h + k - 8 * h) = i * 8 + k by omega]
    have x2 : ∀ k, k < 8 → cp_s (cp_s (up_s (up_s σ 109 h (σ 14 i)) 110 h (σ 15 i)) 16 111 (8 * i) (8 * h) 8) 17 112 (8 * i) (8 * h) 8 112 (8 * h + k) = σ (8 + 9) (i * 8 + k) := fun k hk => by
      rw [cp_v, if_pos (by omega), cp_v, if_neg (by omega), up_o (by omega), up_o (by omega), show 8 * i + (8 * h + k - 8 * h) = i * 8 + k by omega]
    refine HD.mk ?_ ?_ (fun k hk e => ?_)
    · rw [cp_v, if_neg (by omega), cp_v, if_neg (by omega), up_o (by omega), up_e]; exact q1
    · rw [cp_v, if_neg (by omega), cp_v, if_neg (by omega), up_e]; exact q2
    · have z := q3 k hk e
      unfold SA at z
      unfold HA
      rw [x1 k (by omega), x2 k (by omega)]; exact z
theorem play_r (h : RR σ τ W N D E) {i j T : Nat} (hi : i < N) (hj : j < N) (hij : i ≠ j) (hT : T ≤ 3) :
    ∃ v σ' τ', Du_play 8 i j T σ = some (v, σ') ∧ M_plays 20 i j 0 T τ = some (v, τ') ∧ RR σ' τ' W N D E ∧ τ' 0 0 = τ 0 0 ∧ τ' 5 0 = W ∧ (0 < T → (0 ≤ τ' 0 33 ∧ τ' 0 33 ≤ W) ∧ σ' 108 4 = if τ' 0 33 = W then -1 else τ' 0 33) := by
  have hp := h.pr
  have bN := hp.bN
  have bW := hp.bW
  have hp0 : PR 8 (up_s σ 108 4 (-1)) τ W N D E := hp.cg (fun j k _ _ => up_o (by omega)) (fun _ _ => rfl)
  obtain ⟨σ1, a1, a2, a3⟩ := seat_h (σ := up_s σ 108 4 (-1)) (i := i) (h := 0) (by omega) (by omega)
  obtain ⟨σ2, b1, b2, b3⟩ := seat_h (σ := σ1) (i := j) (h := 1) (by omega) (by omega)
  have lo : ∀ o k, (o < 108 ∨ o = 113) → σ1 o k = σ o k := fun o k z => by rw [a2 o k (by unfold HO; omega), up_o (by omega)]
  have lo2 : ∀ o k, (o < 108 ∨ o = 113) → σ2 o k = σ o k := fun o k z => by rw [b2 o k (by unfold HO; omega), lo o k z]
  have dt := h.dt
  unfold DT at dt
  have r1 := a3 τ W bW (by rw [up_o (by omega)]; exact hp.kn i hi) (by rw [up_o (by omega)]; exact hp.kp i hi) (fun k hk e => (hp.st i k hi hk e).cg (fun a z => up_o (by omega)) (fun _ _ => rfl))
  have r2 := b3 τ W bW (by rw [lo _ _ (by omega)]; exact hp.kn j hj) (by rw [lo _ _ (by omega)]; exact hp.kp j hj) (fun k hk e => (hp.st j k hj hk e).cg (fun a z => lo _ _ (by omega)) (fun _ _ => rfl))
  have r1' : HD σ2 τ W (τ 5 6) 0 i := r1.fs bW (by omega) b2
  have sw : SWH σ2 τ W (τ 5 6) := SWH.mk (by rw [lo2 _ _ (by omega)]; exact hp.w) (fun k hk => by rw [lo2 _ _ (by omega)]; exact hp.gr k hk) (fun k hk => by rw [lo2 _ _ (by omega)]; exact hp.gy k hk) (by rw [lo2 _ _ (by omega)]; exact hp.dt) (by omega)
  obtain ⟨v, σ', τ', c1, c2, c3, c4, c5⟩ := best_all hi hj hij hT T 0 20 20 σ2 τ (by omega) (by omega) (by omega) (GI.mk hp.gp sw (by rw [show τ 5 6 + ((0 : Nat) : Int) = τ 5 6 by omega]; exact r1') (by rw [show τ 5 6 + ((0 : Nat) : Int) = τ 5 6 by omega]; exact r2))
  have t : ∀ o k, o ≠ 12 → (o ≠ 0 ∨ k ≠ 33) → τ' o k = τ o k := fun o k z1 z2 => c4.1 o k z1 (by omega)
  refine ⟨v, σ', τ', ?_, c2, ?_, t 0 0 (by omega) (by omega), by rw [t 5 0 (by omega) (by omega)]; exact hp.w', fun z => c5 rfl z⟩
  · rw [Du_play, nm_k, isP_1 hp0 hi, bd_s, if_neg i10, isP_1 hp0 hj, bd_s, if_neg i10, show (0 : Int) = ((0 : Nat) : Int) from rfl, a1, bd_s, show (1 : Int) = ((1 : Nat) : Int) from rfl, b1, bd_s, c1, bd_s]
  · exact h.fr (fun o k z => by
      have z' : o < 108 ∨ o = 113 := by unfold SbH at z; omega
      rw [c3 o k (by omega), lo2 o k z']) (fun o k z => t o k (by unfold SbM at z; omega) (by unfold SbM at z; omega))
theorem gs_c (h : RR σ τ W N D E) (a b c lo : Int) : ∃ r : Int, H_gameStatus a b c lo σ = some (r, σ) ∧ M_whyNoGame a b c lo τ = some (r, τ) ∧ 0 ≤ r ∧ (r = 0 → ∃ i j : Nat, a = i ∧ b = j ∧ i < N ∧ j < N ∧ i ≠ j ∧ lo ≤ c ∧ c ≤ 3) := by
  have hp := h.pr
  rcases pc a N with ⟨i, rfl, hi⟩ | ha
  · rcases pc b N with ⟨j, rfl, hj⟩ | hb
    · rw [H_gameStatus, isP_1 hp hi, bd_s, if_neg i10, isP_1 hp hj, bd_s, if_neg i10, M_whyNoGame, isPm_1 hp hi, bd_s, if_neg i10, isPm_1 hp hj, bd_s, if_neg i10]
      by_cases e : (i : Int) = j
      · rw [if_pos e, if_pos e]; exact ⟨5, rfl, rfl, by omega, fun z => absurd z (by omega)⟩
      · rw [if_neg e, if_neg e]
        by_cases w : lo ≤ c ∧ c ≤ 3
        · rw [wi_1 w, in_1 w, bd_s, bd_s, if_neg i10, if_neg i10]
          exact ⟨0, rfl, rfl, by omega, fun _ => ⟨i, j, rfl, rfl, hi, hj, by omega, w.1, w.2⟩⟩
        · rw [wi_0 w, in_0 w, bd_s, bd_s, if_pos rfl, if_pos rfl]; exact ⟨5, rfl, rfl, by omega, fun z => absurd z (by omega)⟩
    · rw [H_gameStatus, isP_1 hp hi, bd_s, if_neg i10, isP_0 hp hb, bd_s, if_pos rfl, M_whyNoGame, isPm_1 hp hi, bd_s, if_neg i10, isPm_0 hp hb, bd_s, if_pos rfl]
      exact ⟨2, rfl, rfl, by omega, fun z => absurd z (by omega)⟩
  · rw [H_gameStatus, isP_0 hp ha, bd_s, if_pos rfl, M_whyNoGame, isPm_0 hp ha, bd_s, if_pos rfl]
    exact ⟨2, rfl, rfl, by omega, fun z => absurd z (by omega)⟩
theorem k_game (h : RR σ τ W N D E) (a b c : Int) : Ag (H_game a b c σ) (M_game a b c τ) := by
  rw [M_game, nm_k]
  have h1 := h.t1 0
  obtain ⟨r, e1, e2, e3, e4⟩ := gs_c h1 a b c 0
  rw [H_game, e1, e2, bd_s, bd_s, nm_k, up_e]
  by_cases e : r = 0
  · subst e
    obtain ⟨i, j, rfl, rfl, hi, hj, hij, c1, c2⟩ := e4 rfl
    obtain ⟨T, rfl⟩ := nat_of c1
    obtain ⟨v, σ', τ', a1, a2, a3, a4, a5, -⟩ := play_r (h1.t0 0) hi hj hij (T := T) (by omega)
    rw [if_pos rfl, if_neg (show ¬ (0 : Int) < 0 by omega), a1, bd_s, a2, bd_s]
    exact ag_give a3 (by rw [a4, up_e]) _
  · rw [if_neg e, if_pos (by omega), H_fail, nm_k, bd_s]
    exact ag_h ((h1.t0 r).s0 r) (by rw [up_e, up_e]) _
theorem k_moveOf (h : RR σ τ W N D E) (a b c : Int) : Ag (H_moveOf a b c σ) (M_moveOf a b c τ) := by
  rw [M_moveOf, nm_k]
  have h1 := h.t1 0
  obtain ⟨r, e1, e2, e3, e4⟩ := gs_c h1 a b c 1
  rw [H_moveOf, e1, e2, bd_s, bd_s, nm_k, up_e]
  by_cases e : r = 0
  · subst e
    obtain ⟨i, j, rfl, rfl, hi, hj, hij, c1, c2⟩ := e4 rfl
    obtain ⟨T, rfl⟩ := nat_of (x := c) (by omega)
    obtain ⟨v, σ', τ', a1, a2, a3, a4, a5, a6⟩ := play_r (h1.t0 0) hi hj hij (T := T) (by omega)
    obtain ⟨a7, a8⟩ := a6 (by omega)
    rw [if_pos rfl, if_neg (show ¬ (0 : Int) < 0 by omega), a1, bd_s, a2, bd_s, rd_k (by omega) (by omega), Int.toNat_zero, a5, a8]
    by_cases z : τ' 0 33 = W
    · rw [if_pos z, if_pos rfl, if_pos z]; exact ag_fail a3 8
    · rw [if_neg z, if_neg (by omega), if_neg z]; exact ag_give a3 (by rw [a4, up_e]) _
  · rw [if_neg e, if_pos (by omega), H_fail, nm_k, bd_s]
    exact ag_h ((h1.t0 r).s0 r) (by rw [up_e, up_e]) _
end
