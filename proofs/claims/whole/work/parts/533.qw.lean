/-! twos of a tray; plaits: what must lie ahead -/
section
variable {σ τ σ' τ' : Sg} {W N D E : Nat}
theorem tw_c (h : RR σ τ W N D E) (a n : Int) (hn : c32 n) : ∃ r : Int, H_twosStatus a n σ = some (r, σ) ∧ M_whyNoTwos a n τ = some (r, τ) ∧ 0 ≤ r ∧ (r = 0 → ∃ t s m k : Nat, a = t ∧ n = k ∧ k ≤ 20 ∧ 2 * k ≤ m ∧ TRP σ τ t s m ∧ ∀ k, k < m → σ 4 (60 * t + k) = τ 3 (60 * t + k)) := by
  unfold c32 at hn
  rcases pc a 4 with ⟨t, rfl, ht⟩ | ha
  · rcases tr_c h ht with ⟨q1, q2⟩ | ⟨s, m, q, q7⟩
    · refine ⟨3, ?_, ?_, by omega, fun e => absurd e (by omega)⟩
      · rw [H_twosStatus, ts_3 ht q1, bd_s, if_neg (by omega)]
      · rw [M_whyNoTwos, tm_1 ht, bd_s, if_neg i10, rd_k (by omega) (by omega), Int.toNat_natCast, q2, if_pos (by omega)]
    · have h1 := q.a
      have h2 := q.hm
      have e1 : H_twosStatus t n σ = some (if (m : Int) < 2 * n then 4 else if 0 ≤ n ∧ n ≤ 20 then 0 else 5, σ) := by
        rw [H_twosStatus, ts_0 ht (by omega), bd_s, if_pos rfl, tz_h ht, bd_s, q.c, w64_i (by omega) (by omega)]
        by_cases c1 : (m : Int) < 2 * n
        · rw [if_pos c1, if_pos c1]
        · rw [if_neg c1, if_neg c1]
          by_cases c2 : 0 ≤ n ∧ n ≤ 20
          · rw [wi_1 c2, bd_s, if_neg i10, if_pos c2]
          · rw [wi_0 c2, bd_s, if_pos rfl, if_neg c2]
      have e2 : M_whyNoTwos t n τ = some (if (m : Int) < 2 * n then 4 else if 0 ≤ n ∧ n ≤ 20 then 0 else 5, τ) := by
        rw [M_whyNoTwos, tm_1 ht, bd_s, if_neg i10, rd_k (by omega) (by omega), Int.toNat_natCast, q.d, if_neg (by omega), rd_k (by omega) (by omega), w64_i (by omega) (by omega)]
        by_cases c1 : (m : Int) < 2 * n
        · rw [if_pos c1, if_pos c1]
        · rw [if_neg c1, if_neg c1]
          by_cases c2 : 0 ≤ n ∧ n ≤ 20
          · rw [in_1 c2, bd_s, if_neg i10, if_pos c2]
          · rw [in_0 c2, bd_s, if_pos rfl, if_neg c2]
      refine ⟨_, e1, e2, by split; omega; split <;> omega, fun e => ?_⟩
      by_cases c1 : (m : Int) < 2 * n
      · rw [if_pos c1] at e; omega
      · rw [if_neg c1] at e
        by_cases c2 : 0 ≤ n ∧ n ≤ 20
        · exact ⟨t, s, m, n.toNat, rfl, by omega, by omega, by omega, q, q7⟩
        · rw [if_neg c2] at e; omega
  · refine ⟨1, ?_, ?_, by omega, fun e => absurd e (by omega)⟩
    · rw [H_twosStatus, ts_1 ha, bd_s, if_neg (by omega)]
    · rw [M_whyNoTwos, tm_0 ha, bd_s, if_pos rfl]
theorem no_m {t m k : Nat} (ht : t < 4) (hm : m ≤ 60) (hk : k < m) : M_numberOf t k τ = some (τ 3 (60 * t + k), τ) := by
  rw [M_numberOf, tx_m ht (by omega), rd_k (by omega) (by omega), Int.toNat_natCast]
/-- twos that are words -/
def GD (u : Nat → Int) (W n : Nat) : Prop := ∀ k, k < n → 0 ≤ u k ∧ u k < W
theorem wp_l {p : Nat} (h : PR p σ τ W N D E) {t m n : Nat} (ht : t < 4) (hm : m ≤ 60) (hn : 2 * n ≤ m) (h20 : n ≤ 20) : ∀ (j k f : Nat), k + j = 2 * n → j < f →
    ((∀ x, k ≤ x → x < 2 * n → 0 ≤ τ 3 (60 * t + x) ∧ τ 3 (60 * t + x) < W) ∧ M_whyNoPlait_L27 t n f 0 k τ = some (0, τ)) ∨ ((∃ x, k ≤ x ∧ x < 2 * n ∧ ¬ (0 ≤ τ 3 (60 * t + x) ∧ τ 3 (60 * t + x) < W)) ∧ M_whyNoPlait_L27 t n f 0 k τ = some (5, τ)) := by
  intro j
  induction j with
  | zero =>
    intro k f hk hf
    obtain ⟨f, rfl⟩ : ∃ x, f = x + 1 := ⟨f - 1, by omega⟩
    refine .inl ⟨fun x a b => absurd b (by omega), ?_⟩
    rw [M_whyNoPlait_L27, w32_i (x := 2 * (n : Int)) (by omega) (by omega), if_neg (by omega)]
  | succ j ih =>
    intro k f hk hf
    obtain ⟨f, rfl⟩ : ∃ x, f = x + 1 := ⟨f - 1, by omega⟩
    rw [M_whyNoPlait_L27, w32_i (x := 2 * (n : Int)) (by omega) (by omega), if_pos (by omega), if_pos rfl, no_m ht hm (by omega), bd_s]
    by_cases e : 0 ≤ τ 3 (60 * t + k) ∧ τ 3 (60 * t + k) < W
    · rw [isWm h, if_pos e, bd_s, if_neg i10, nm_k, w32_i (by omega) (by omega), suc]
      rcases ih (k + 1) f (by omega) (by omega) with ⟨a, b⟩ | ⟨⟨x, a1, a2, a3⟩, b⟩
      · refine .inl ⟨fun x a1 a2 => ?_, b⟩
        by_cases z : x = k
        · subst z; exact e
        · exact a x (by omega) a2
      · exact .inr ⟨⟨x, by omega, a2, a3⟩, b⟩
    · obtain ⟨f, rfl⟩ : ∃ x, f = x + 1 := ⟨f - 1, by omega⟩
      refine .inr ⟨⟨k, by omega, by omega, e⟩, ?_⟩
      rw [isWm h, if_neg e, bd_s, if_pos rfl, nm_k, w32_i (by omega) (by omega), suc, M_whyNoPlait_L27]
      by_cases z : ((k + 1 : Nat) : Int) < w32 (2 * (n : Int))
      · rw [if_pos z, if_neg (by omega)]
      · rw [if_neg z]
/-- what must lie ahead of a word, by the first twos -/
def ahS (u : Nat → Int) (P : Nat) : Nat → Nat → Nat
  | 0, _ => 0
  | i + 1, w => if u (2 * i + 1) = w ∧ P.testBit (u (2 * i)).toNat = true ∧ P.testBit w = true then ahS u P i w ||| 2 ^ (u (2 * i)).toNat else ahS u P i w
theorem ahS_b (u : Nat → Int) {P n : Nat} (hP : P < 256) : ∀ i w, ahS u P i w < 256 ∧ ∀ j, (ahS u P i w).testBit j = true ↔ ∃ x, x < i ∧ u (2 * x + 1) = w ∧ (u (2 * x)).toNat = j ∧ P.testBit j = true ∧ P.testBit w = true
  | 0, w => ⟨by show (0 : Nat) < 256; omega, fun j => ⟨fun q => (by rw [ahS, Nat.zero_testBit] at q; exact absurd q ff_t), fun ⟨x, q, _⟩ => absurd q (by omega)⟩⟩
  | i + 1, w => by
    obtain ⟨h1, h2⟩ := ahS_b u (n := n) hP i w
    rw [ahS]
    by_cases e : u (2 * i + 1) = w ∧ P.testBit (u (2 * i)).toNat = true ∧ P.testBit w = true
    · have b8 : (u (2 * i)).toNat < 8 := by
        apply Classical.byContradiction; intro z
        have := e.2.1
        rw [tbz (n := 8) hP (by omega)] at this; cases this
      have e3 : 2 ^ (u (2 * i)).toNat < 2 ^ 8 := Nat.pow_lt_pow_right (by omega) b8
      rw [if_pos e]
      refine ⟨Nat.or_lt_two_pow (n := 8) h1 e3, fun j => ?_⟩
      rw [Nat.testBit_or, Bool.or_eq_true, h2, tb_2, decide_eq_true_eq]
      constructor
      · rintro (⟨x, z⟩ | z)
        · exact ⟨x, by omega, z.2⟩
        · exact ⟨i, by omega, e.1, z, by rw [← z]; exact e.2.1, e.2.2⟩
      · rintro ⟨x, z1, z2, z3, z4⟩
        by_cases y : x = i
        · subst y; exact .inr z3
        · exact .inl ⟨x, by omega, z2, z3, z4⟩
    · rw [if_neg e]
      refine ⟨h1, fun j => ?_⟩
      rw [h2]
      constructor
      · rintro ⟨x, z⟩; exact ⟨x, by omega, z.2⟩
      · rintro ⟨x, z1, z2, z3, z4, z5⟩
        by_cases y : x = i
        · subst y; exact absurd ⟨z2, by rw [z3]; exact z4, z5⟩ e
        · exact ⟨x, by omega, z2, z3, z4, z5⟩
def F105 (σ σ' : Sg) : Prop := ∀ o k, o ≠ 106 → σ' o k = σ o k
theorem pu_h {P a b : Nat} (hP : P < 256) (ha : a < 8) (hb : b < 8) : Pl_putAhead P a b σ = some (0, if P.testBit a = true ∧ P.testBit b = true then up_s σ 106 b (or32 (σ 106 b) (sl32 1 a)) else σ) := by
  rw [Pl_putAhead, wi_1 (by omega), bd_s, if_neg i10, wi_1 (by omega), bd_s, if_neg i10, hb_n (by omega) (by omega), hb_n (by omega) (by omega), Pl_putAhead_J42, Pl_putAhead_J43, Pl_putAhead_J43, if_pos rfl, if_neg i10, rd_k (by omega) (by omega), wr_k (by omega) (by omega), Int.toNat_natCast]
  cases h1 : P.testBit a
  · rw [if_neg ff_t, if_neg (show ¬ (0 : Int) = 1 by omega), if_neg (fun z => ff_t z.1)]
  · rw [if_pos rfl, if_pos rfl]
    cases h2 : P.testBit b
    · rw [if_neg ff_t, if_neg (show ¬ (0 : Int) = 1 by omega), if_neg (fun z => ff_t z.2)]
    · rw [if_pos rfl, if_pos rfl, if_pos ⟨rfl, rfl⟩]
theorem ps_l {p : Nat} {σ0 : Sg} (h : PR 8 σ0 τ W N D E) {t s m n P : Nat} (q : TRP σ0 τ t s m) (hn : 2 * n ≤ m) (h20 : n ≤ 20) (hP : P < 256) (hu : ∀ k, k < m → σ0 4 (60 * t + k) = τ 3 (60 * t + k)) :
    ∀ (j i f : Nat) (σ : Sg), i + j = n → j < f → F105 σ0 σ → (∀ w, w < 8 → σ 106 w = ahS (fun k => τ 3 (60 * t + k)) P i w) →
    ∃ σ', F105 σ0 σ' ∧ (((∀ x, 2 * i ≤ x → x < 2 * n → 0 ≤ τ 3 (60 * t + x) ∧ τ 3 (60 * t + x) < W) ∧ H_plaitStatus_L39 P t n f i σ = some (0, σ') ∧ ∀ w, w < 8 → σ' 106 w = ahS (fun k => τ 3 (60 * t + k)) P n w) ∨
      ((∃ x, 2 * i ≤ x ∧ x < 2 * n ∧ ¬ (0 ≤ τ 3 (60 * t + x) ∧ τ 3 (60 * t + x) < W)) ∧ H_plaitStatus_L39 P t n f i σ = some (5, σ'))) := by
  intro j
  have bW := h.bW
  have b1 := q.ht
  have b2 := q.hm
  induction j with
  | zero =>
    intro i f σ hi hf hF hA
    obtain ⟨f, rfl⟩ : ∃ x, f = x + 1 := ⟨f - 1, by omega⟩
    obtain rfl : i = n := by omega
    refine ⟨σ, hF, .inl ⟨fun x a b => absurd b (by omega), ?_, hA⟩⟩
    rw [H_plaitStatus_L39, if_neg (by omega)]
  | succ j ih =>
    intro i f σ hi hf hF hA
    obtain ⟨f, rfl⟩ : ∃ x, f = x + 1 := ⟨f - 1, by omega⟩
    have qs : TRP σ τ t s m := q.fr (fun o _ _ => hF o _ (by omega)) (fun _ _ _ => rfl)
    have v1 : σ 4 (60 * t + 2 * i) = τ 3 (60 * t + 2 * i) := by rw [hF _ _ (by omega)]; exact hu _ (by omega)
    have v2 : σ 4 (60 * t + (2 * i + 1)) = τ 3 (60 * t + (2 * i + 1)) := by rw [hF _ _ (by omega)]; exact hu _ (by omega)
    rw [H_plaitStatus_L39, if_pos (by omega), w32_i (x := 2 * (i : Int)) (by omega) (by omega), show 2 * (i : Int) = ((2 * i : Nat) : Int) by omega, at_h qs (by omega), bd_s, w32_i (x := ((2 * i : Nat) : Int) + 1) (by omega) (by omega), suc, at_h qs (by omega), bd_s, v1, v2, hF 8 10 (by omega), h.w]
    by_cases g1 : 0 ≤ τ 3 (60 * t + 2 * i) ∧ τ 3 (60 * t + 2 * i) < W
    · rw [if_neg (by omega), if_pos g1.2]
      by_cases g2 : 0 ≤ τ 3 (60 * t + (2 * i + 1)) ∧ τ 3 (60 * t + (2 * i + 1)) < W
      · obtain ⟨a, ea⟩ := nat_of g1.1
        obtain ⟨b, eb⟩ := nat_of g2.1
        rw [if_neg (by omega), if_pos g2.2, ea, eb, w32_i (x := (a : Int)) (by omega) (by omega), w32_i (x := (b : Int)) (by omega) (by omega), pu_h hP (by omega) (by omega), bd_s, nm_k, w32_i (by omega) (by omega), suc]
        have hA' : ∀ w, w < 8 → (if P.testBit a = true ∧ P.testBit b = true then up_s σ 106 b (or32 (σ 106 b) (sl32 1 a)) else σ) 106 w = ahS (fun k => τ 3 (60 * t + k)) P (i + 1) w := by
          intro w hw
          rw [ahS]
          show _ = ((if τ 3 (60 * t + (2 * i + 1)) = w ∧ P.testBit (τ 3 (60 * t + 2 * i)).toNat = true ∧ P.testBit w = true then _ else _ : Nat) : Int)
          rw [ea, eb, Int.toNat_natCast]
          have z := (ahS_b (fun k => τ 3 (60 * t + k)) (n := 0) hP i w).1
          have e3 : 2 ^ a < 2 ^ 8 := Nat.pow_lt_pow_right (by omega) (by omega)
          by_cases c : P.testBit a = true ∧ P.testBit b = true
          · rw [if_pos c]
            by_cases y : w = b
            · subst y
              rw [up_e, if_pos ⟨rfl, c⟩, hA w hw, sl_1 (by omega), or_n (by omega) (by omega)]
            · rw [up_k y, if_neg (fun k => y (by omega)), hA w hw]
          · rw [if_neg c]
            by_cases y : w = b
            · subst y
              rw [if_neg (fun k => c k.2), hA w hw]
            · rw [if_neg (fun k => y (by omega)), hA w hw]
        have hF' : F105 σ0 (if P.testBit a = true ∧ P.testBit b = true then up_s σ 106 b (or32 (σ 106 b) (sl32 1 a)) else σ) := fun o k z => by
          split
          · rw [up_o z]; exact hF o k z
          · exact hF o k z
        obtain ⟨σ', c1, c2⟩ := ih (i + 1) f _ (by omega) (by omega) hF' hA'
        refine ⟨σ', c1, ?_⟩
        rcases c2 with ⟨d1, d2, d3⟩ | ⟨⟨x, d1, d2, d3⟩, d4⟩
        · refine .inl ⟨fun x x1 x2 => ?_, d2, d3⟩
          by_cases y1 : x = 2 * i
          · rw [y1]; exact g1
          · by_cases y2 : x = 2 * i + 1
            · rw [y2]; exact g2
            · exact d1 x (by omega) x2
        · exact .inr ⟨⟨x, by omega, d2, d3⟩, d4⟩
      · refine ⟨σ, hF, .inr ⟨⟨2 * i + 1, by omega, by omega, g2⟩, ?_⟩⟩
        by_cases y : τ 3 (60 * t + (2 * i + 1)) < 0
        · rw [if_pos y]
        · rw [if_neg y, if_neg (by omega)]
    · refine ⟨σ, hF, .inr ⟨⟨2 * i, by omega, by omega, g1⟩, ?_⟩⟩
      by_cases y : τ 3 (60 * t + 2 * i) < 0
      · rw [if_pos y]
      · rw [if_neg y, if_neg (by omega)]
theorem cl_h (σ : Sg) : Pl_clear σ = some (0, fz σ 106 0 8) := by
  rw [Pl_clear]
  have q := loopN (X := fun n k => Pl_clear_L2 n k (fz σ 106 0 k)) (W := 8) (R := some (0, fz σ 106 0 8)) ?_ ?_ fu (by unfold fu; omega)
  · rw [fz_0] at q; exact q
  · intro k n hk
    show Pl_clear_L2 (n + 1) k _ = _
    have e := fz_s σ 106 0 k
    rw [Nat.zero_add] at e
    rw [Pl_clear_L2, if_pos (by omega), wr_k (by omega) (by omega), Int.toNat_natCast, nm_k, e, w32_i (by omega) (by omega), suc]
  · intro n
    show Pl_clear_L2 (n + 1) (8 : Nat) _ = _
    rw [Pl_clear_L2, if_neg (by omega)]
/-- the status of a plait, and what is known where it is fine -/
theorem pl_s (h : RR σ τ W N D E) (a b n : Int) (hn : c32 n) : ∃ (r : Int) (σ' : Sg), H_plaitStatus a b n σ = some (r, σ') ∧ M_whyNoPlait a b n τ = some (r, τ) ∧ 0 ≤ r ∧ F105 σ σ' ∧ (r = 0 → ∃ P t m k : Nat, a = P ∧ P < 2 ^ W ∧ b = t ∧ n = k ∧ t < 4 ∧ m ≤ 60 ∧ 2 * k ≤ m ∧ k ≤ 20 ∧ GD (fun x => τ 3 (60 * t + x)) W (2 * k) ∧ ∀ w, w < 8 → σ' 106 w = ahS (fun x => τ 3 (60 * t + x)) P k w) := by
  have hp := h.pr
  have bW := hp.bW
  obtain ⟨r, e1, e2, e3, e4⟩ := tw_c h b n hn
  rw [H_plaitStatus, e1, bd_s, M_whyNoPlait, e2, bd_s]
  have e5 : 2 ^ W ≤ 2 ^ 8 := Nat.pow_le_pow_right (by omega) bW
  obtain ⟨f, hf⟩ : ∃ f, fu = f + 1 := ⟨99999, rfl⟩
  have stop : ∀ (x : Int), ¬ x = 0 → M_whyNoPlait_L27 b n fu x 0 τ = some (x, τ) := fun x hx => by
    rw [hf, M_whyNoPlait_L27]
    by_cases z : 0 < w32 (2 * n)
    · rw [if_pos z, if_neg hx]
    · rw [if_neg z]
  by_cases c0 : r = 0
  · obtain ⟨t, s, m, k, rfl, rfl, h20, h2k, q, q7⟩ := e4 c0
    subst c0
    rw [if_pos rfl, if_pos rfl]
    by_cases ha : 0 ≤ a ∧ a < 2 ^ W
    · obtain ⟨P, rfl⟩ := nat_of ha.1
      have hP : P < 2 ^ W := by have := ha.2; rw [← cast_pow] at this; omega
      rw [ws_1 hp ha, bd_s, if_neg i10, aw_1 hp ha, bd_s, if_neg i10, cl_h, bd_s]
      have b1 := q.ht
      have b2 := q.hm
      obtain ⟨σ', c1, c2⟩ := ps_l (p := 8) hp q h2k h20 (P := P) (by omega) q7 k 0 fu (fz σ 106 0 8) (by omega) (by unfold fu; omega) (fun o x z => fz_o (by omega)) (fun w hw => by rw [fz_i (by omega)]; rfl)
      rcases wp_l hp b1 b2 h2k h20 (2 * k) 0 fu (by omega) (by unfold fu; omega) with ⟨w1, w2⟩ | ⟨⟨x, x1, x2, x3⟩, w2⟩
      · rcases c2 with ⟨d1, d2, d3⟩ | ⟨⟨x, d1, d2, d3⟩, d4⟩
        · exact ⟨0, σ', d2, w2, by omega, c1, fun _ => ⟨P, t, m, k, rfl, hP, rfl, rfl, b1, b2, h2k, h20, fun x hx => w1 x (by omega) hx, d3⟩⟩
        · exact absurd (w1 x (by omega) d2) d3
      · rcases c2 with ⟨d1, d2, d3⟩ | ⟨⟨y, d1, d2, d3⟩, d4⟩
        · exact absurd (d1 x (by omega) x2) x3
        · exact ⟨5, σ', d4, w2, by omega, c1, fun z => absurd z (by omega)⟩
    · rw [ws_0 hp ha, bd_s, if_pos rfl, aw_0 hp ha, bd_s, if_pos rfl, stop 5 (by omega)]
      exact ⟨5, σ, rfl, rfl, by omega, fun _ _ _ => rfl, fun z => absurd z (by omega)⟩
  · rw [if_neg c0, if_neg c0, stop r c0]
    exact ⟨r, σ, rfl, rfl, e3, fun _ _ _ => rfl, fun z => absurd z c0⟩
end
