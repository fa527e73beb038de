/-! years -/
section
variable {n R : Nat} {B : Nat → Int} {b : Nat → Nat} {W N : Nat}
theorem steps_all (hR : R ≤ 301) : ∀ m, m ≤ 1000 → STEPP n R B b W N m ∧ SEQP n R B b W N m
  | 0, _ => by
    constructor
    · intro w nn j f i k v p S O σ τ hw hn hm hf hi h; have := h.jR; omega
    · intro u nn j f i g k v p S O σ τ v3 v4 K hu hn hm hg hf hi h; have := h.jR; omega
  | m + 1, hm => by
    obtain ⟨h1, h2⟩ := steps_all hR m (by omega)
    have h3 := step_of (by omega) hR h2
    exact ⟨h3, seq_of h3 h2⟩
theorem l28_b {τ : Sg} (h : 0 < τ 0 12) (K : Sg → Rs) (g : Nat) : M_years_L28 K (g + 1) τ = K τ := by rw [M_years_L28, if_neg (by omega)]
theorem top_l (hR : R ≤ 301) {K : Sg → Rs} : ∀ m j f i g k v p S O σ τ, m ≤ 1000 → R ≤ j + m → m + 1 < g → f + i = 100000 → i ≤ j → CU n R B b j k v p σ τ → NB 8 0 σ τ W N → YQ 0 S O σ τ →
    (∃ (σ' τ' : Sg) (S' O' : Nat), L6 f i σ = YR_readAll_J37 36 σ' ∧ M_years_L28 K g τ = K τ' ∧ YQ 0 S' O' σ' τ' ∧ τ' 0 12 = 0 ∧ BQ W N σ' τ' (S' - S + 1) 3 S S' O O' ∧ S ≤ S' ∧ O ≤ O' ∧ FYH O σ σ' ∧ FYM S τ τ') ∨
    (∃ σ' τ', L6 f i σ = some (0, σ') ∧ M_years_L28 K g τ = K τ' ∧ FLT σ' τ' ∧ FYH 0 σ σ' ∧ FYM 0 τ τ') := by
  intro m
  induction m with
  | zero => intro j f i g k v p S O σ τ hm0 hm hg hf hi h; have := h.jR; omega
  | succ m ih =>
    intro j f i g k v p S O σ τ hm0 hm hg hf hi h hN hy
    obtain ⟨g, rfl⟩ : ∃ x, g = x + 1 + 1 := ⟨g - 2, by omega⟩
    have hj := h.jR
    by_cases c : k = 0
    · subst c
      obtain ⟨f, rfl⟩ : ∃ x, f = x + 1 := ⟨f - 1, by omega⟩
      refine .inl ⟨σ, τ, S, O, l6_end h, ?_, hy, h.ok, ?_, Nat.le_refl S, Nat.le_refl O, FYH.rf, FYM.rf⟩
      · rw [M_years_L28, if_pos h.ok, if_pos (h.td.en0.1 rfl)]
      · unfold BQ; rw [BLK]; exact .inl ⟨rfl, rfl⟩
    · have e2 : M_years_L28 K (g + 1 + 1) τ = bd (M_readStep 20 ((0 : Nat) : Int) τ) (fun r6 s7 => M_years_L28 K (g + 1) s7) := by
        rw [M_years_L28, if_pos h.ok, if_neg (fun z => c (h.td.en0.2 z))]; rfl
      rw [e2]
      rcases (steps_all (n := n) (B := B) (b := b) (W := W) (N := N) hR (m + 1) hm0).1 0 20 j f i k v p S O σ τ (by omega) (by omega) hm hf hi h hN hy (fun z => absurd z c) (by omega) with ⟨σ1, τ1, S1, O1, f1, i1, j1, k1, v1, p1, a1, a2, a3, a4, a5, a6, a7, a8, a9, a10⟩ | ⟨σ1, τ1, x, a1, a2, a3, a4, a5⟩
      · have hab := STP.ab a8
        rw [a2, bd_s]
        rcases ih j1 f1 i1 (g + 1) k1 v1 p1 S1 O1 σ1 τ1 (by omega) (by omega) (by omega) a3 a4 a6 (hN.y a9 a10) a7 with ⟨σ2, τ2, S2, O2, b1, b2, b3, b4, b5, b6, b7, b8, b9⟩ | ⟨σ2, τ2, b1, b2, b3, b4, b5⟩
        · exact .inl ⟨σ2, τ2, S2, O2, a1.trans b1, b2, b3, b4, STP.cons (a8.cg b8 b9 (Nat.le_refl _) (Nat.le_refl _)) b5 b6 b7, by omega, by omega, a9.tr b8 (by omega), a10.tr b9 (by omega)⟩
        · exact .inr ⟨σ2, τ2, a1.trans b1, b2, b3, a9.w.tr b4 (Nat.le_refl 0), a10.w.tr b5 (Nat.le_refl 0)⟩
      · rw [a2, bd_s, l28_b a3.b]
        exact .inr ⟨σ1, τ1, a1, rfl, a3, a4, a5⟩
end
/-- the steps read are the years -/
theorem yc_m {τ : Sg} {S : Nat} (hS : S ≤ 30) (h26 : τ 0 26 = (S : Nat)) : ∃ τ', M_years_L82 fu ((0 : Nat) : Int) τ = some ((S : Int), τ') ∧ (∀ k, k < 9 * S → τ' 5 (177 + k) = τ 5 (1965 + k)) ∧ (∀ o k, ¬ (o = 5 ∧ 177 ≤ k ∧ k < 177 + 9 * S) → τ' o k = τ o k) := by
  have key : ∀ d k f s, k + d = 9 * S → d < f → (∀ x, x < k → s 5 (177 + x) = τ 5 (1965 + x)) → (∀ o x, ¬ (o = 5 ∧ 177 ≤ x ∧ x < 177 + 9 * S) → s o x = τ o x) →
      ∃ s', M_years_L82 f (k : Nat) s = some ((S : Int), s') ∧ (∀ x, x < 9 * S → s' 5 (177 + x) = τ 5 (1965 + x)) ∧ (∀ o x, ¬ (o = 5 ∧ 177 ≤ x ∧ x < 177 + 9 * S) → s' o x = τ o x) := by
    intro d
    induction d with
    | zero =>
      intro k f s hk hf h1 h2
      obtain ⟨f, rfl⟩ : ∃ x, f = x + 1 := ⟨f - 1, by omega⟩
      have e26 : s 0 26 = (S : Nat) := by rw [h2 _ _ (by omega)]; exact h26
      exact ⟨s, by rw [M_years_L82, e26, w_p (x := 9 * (S : Int)) (n := 9 * S) (by omega) (by omega), if_neg (by omega)], fun x hx => h1 x (by omega), h2⟩
    | succ d ih =>
      intro k f s hk hf h1 h2
      obtain ⟨f, rfl⟩ : ∃ x, f = x + 1 := ⟨f - 1, by omega⟩
      have e26 : s 0 26 = (S : Nat) := by rw [h2 _ _ (by omega)]; exact h26
      have ek : s 5 (1965 + k) = τ 5 (1965 + k) := h2 _ _ (by omega)
      obtain ⟨s', g1, g2, g3⟩ := ih (k + 1) f (up_s s 5 (177 + k) (τ 5 (1965 + k))) (by omega) (by omega) (fun x hx => by
        rw [up_v]
        by_cases z : x = k
        · rw [if_pos (by omega), z]
        · rw [if_neg (by omega)]; exact h1 x (by omega)) (fun o x z => by rw [up_v, if_neg (by omega)]; exact h2 o x z)
      refine ⟨s', ?_, g2, g3⟩
      rw [M_years_L82, e26, w_p (x := 9 * (S : Int)) (n := 9 * S) (by omega) (by omega), if_pos (by omega), w_p (x := 1965 + (k : Int)) (n := 1965 + k) (by omega) (by omega), rd_k (by omega) (by omega), Int.toNat_natCast, ek, w_p (x := 177 + (k : Int)) (n := 177 + k) (by omega) (by omega), wr_k (by omega) (by omega), Int.toNat_natCast, nm_k, w_p (x := (k : Int) + 1) (n := k + 1) (by omega) (by omega)]; exact g1
  exact key (9 * S) 0 fu τ (by omega) (by unfold fu; omega) (fun x hx => by omega) (fun _ _ _ => rfl)
section
variable {σ τ : Sg} {W N D E : Nat}
set_option maxHeartbeats 1000000 in
theorem k_years (h : RR σ τ W N D E) (hs : σ 0 0 = τ 0 0) (n : Int) (hn : c32 n) : Ag (H_years n σ) (M_years n τ) := by
  rw [M_years]; refine ag_go h (fun τ h hz => ?_)
  have htz := h.rb.tz
  obtain ⟨m, m1, m2, m3, m4⟩ := h.rb.tz
  rw [H_years, within_h, bd_s]
  by_cases c : 0 ≤ n ∧ n ≤ min (σ 5 1) 300
  · rw [if_pos c, if_neg i10]
    obtain ⟨q, rfl⟩ : ∃ q : Nat, n = q := ⟨n.toNat, by omega⟩
    obtain ⟨σ1, τ1, R, B, b, k, v, p, s1, s2, cu, fs, ft, f8⟩ := start_2 htz h.rb.kc (q := q) (most := 300) (by omega) (by omega)
    have hR1 := cu.row.2.2.2.1
    have hR : R ≤ 301 := by omega
    rw [s1, bd_s, s2, bd_s, if_neg i10, nm_k]
    have e0 : YR_readAll 8 36 σ1 = L6 fu ((0 : Nat) : Int) (up_s (up_s (up_s σ1 36 5 0) 36 6 0) 36 7 0) := by
      rw [YR_readAll, Ye_clear, nm_k, nm_k, zb_0, nm_k, bd_s]; rfl
    rw [e0]
    have cf : ∀ o k, o ≠ 36 → up_s (up_s (up_s σ1 36 5 0) 36 6 0) 36 7 0 o k = σ1 o k := fun o k z => by rw [up_o z, up_o z, up_o z]
    have c5 : up_s (up_s (up_s σ1 36 5 0) 36 6 0) 36 7 0 36 5 = ((0 : Nat) : Int) := by rw [up_k (by omega), up_k (by omega), up_e]; rfl
    have c6 : up_s (up_s (up_s σ1 36 5 0) 36 6 0) 36 7 0 36 6 = ((0 : Nat) : Int) := by rw [up_k (by omega), up_e]; rfl
    generalize up_s (up_s (up_s σ1 36 5 0) 36 6 0) 36 7 0 = σ2 at *
    have cu2 : CU q R B b 0 k v p σ2 (up_s τ1 0 26 0) := cu.cg (fun o x z => cf o x (by omega)) (fun o x z => by rw [up_v, if_neg (by omega)])
    have hq0 : YQ 0 0 0 σ2 (up_s τ1 0 26 0) := ⟨c5, c6, by rw [up_e]; rfl, by omega, by omega, rfl⟩
    have sA : ∀ o k, o ≠ 36 → o ≠ 7 → (o ≠ 5 ∨ k < 2 ∨ k = 3 ∨ 12 < k) → σ2 o k = σ o k := fun o k z1 z2 z3 => by rw [cf o k z1]; exact fs o k z2 z3
    have tA : ∀ o k, ¬ (o = 0 ∧ (k = 8 ∨ k = 9 ∨ (12 ≤ k ∧ k ≤ 19) ∨ k = 26)) → up_s τ1 0 26 0 o k = τ o k := fun o k z => by rw [up_v, if_neg (by omega)]; exact ft o k (by omega)
    have nb : NB 8 0 σ2 (up_s τ1 0 26 0) W N := by
      refine ⟨by omega, by omega, h.pr.bW, h.pr.bN, ?_, ?_, ?_, ?_, ?_⟩
      · rw [sA _ _ (by omega) (by omega) (by omega)]; exact h.pr.w
      · rw [sA _ _ (by omega) (by omega) (by omega)]; exact h.pr.n
      · rw [tA _ _ (by omega)]; exact h.pr.w'
      · rw [tA _ _ (by omega)]; exact h.pr.n'
      · rw [blk_0]; exact h.rb.na.cg h.pr.bW h.pr.bN (fun k _ => sA _ _ (by omega) (by omega) (by omega)) (fun k _ => tA _ _ (by omega))
    have sB : ∀ {s : Sg}, FYH 0 σ2 s → ∀ o k, o ≠ 5 → o ≠ 7 → (o < 36 ∨ 41 < o) → s o k = σ o k := fun {s} g o k z1 z2 z3 => by
      rw [g o k (by omega) (by omega) (by omega)]; exact sA o k (by omega) z2 (by omega)
    have tB : ∀ {t : Sg}, FYM 0 (up_s τ1 0 26 0) t → ∀ o k, ¬ (o = 0 ∧ (k = 8 ∨ k = 9 ∨ (12 ≤ k ∧ k ≤ 19) ∨ k = 26)) → ¬ (o = 5 ∧ 1965 ≤ k) → t o k = τ o k := fun {t} g o k z1 z2 => by
      rw [g o k (by omega) (by omega)]; exact tA o k z1
    have t8 : ∀ {t : Sg}, FYM 0 (up_s τ1 0 26 0) t → t 0 8 = 0 := fun {t} g => by
      rw [g 0 8 (by omega) (by omega), up_v, if_neg (by omega)]; exact f8
    rcases top_l (W := W) (N := N) hR (K := fun s8 => M_years_J50 s8) R 0 fu 0 fu k v p 0 0 σ2 (up_s τ1 0 26 0) (by omega) (by omega) (by unfold fu; omega) rfl (by omega) cu2 nb hq0 with ⟨σ3, τ3, S, O, a1, a2, a3, a4, a5, _, _, a6, a7⟩ | ⟨σ3, τ3, a1, a2, a3, a4, a5⟩
    · obtain ⟨y1, y2, y3, y4, y5, y6⟩ := a3
      have e1 : YR_readAll_J37 36 σ3 = some (1, up_s σ3 36 7 1) := by
        rw [YR_readAll_J37, depth_h y1 (by omega), bd_s, y6, if_neg (by omega), zb_1, nm_k]
      have e4 : H_closeText 1 (up_s σ3 36 7 1) = some (0, up_s (up_s (up_s (up_s σ3 36 7 1) 5 1 0) 0 3 0) 0 4 (-1)) := by
        rw [H_closeText, nm_k, if_neg i10, H_closeText_J24, nm_k, if_neg i10, nm_k]
      rw [a1, e1, a2, bd_s, e4, bd_s, if_neg i10]
      show Ag _ (M_years_J50 τ3)
      have s4f : ∀ o k, ¬ (o = 5 ∧ k = 1) → ¬ (o = 0 ∧ (k = 3 ∨ k = 4)) → ¬ (o = 36 ∧ k = 7) → up_s (up_s (up_s (up_s σ3 36 7 1) 5 1 0) 0 3 0) 0 4 (-1) o k = σ3 o k := fun o k z1 z2 z3 => by
        rw [up_v, if_neg (by omega), up_v, if_neg (by omega), up_v, if_neg (by omega), up_v, if_neg (by omega)]
      have s41 : up_s (up_s (up_s (up_s σ3 36 7 1) 5 1 0) 0 3 0) 0 4 (-1) 5 1 = 0 := by rw [up_o (by omega), up_o (by omega), up_e]
      have s43 : up_s (up_s (up_s (up_s σ3 36 7 1) 5 1 0) 0 3 0) 0 4 (-1) 0 3 = 0 := by rw [up_k (by omega), up_e]
      have s44 : up_s (up_s (up_s (up_s σ3 36 7 1) 5 1 0) 0 3 0) 0 4 (-1) 0 4 = -1 := by rw [up_e]
      have s47 : up_s (up_s (up_s (up_s σ3 36 7 1) 5 1 0) 0 3 0) 0 4 (-1) 36 7 = 1 := by rw [up_o (by omega), up_o (by omega), up_o (by omega), up_e]
      generalize up_s (up_s (up_s (up_s σ3 36 7 1) 5 1 0) 0 3 0) 0 4 (-1) = σ4 at *
      obtain ⟨σ5, d1, d2⟩ := copyY (q := 30) (p := 36) (by omega) σ4 (.inr s47)
      rw [d1, bd_s, M_years_J50, well_m a4, bd_s, if_neg i10, wr_k (by omega) (by omega), wr_k (by omega) (by omega), show Int.toNat 175 = 175 from rfl, show Int.toNat 176 = 176 from rfl]
      have tf1 : ∀ o k, ¬ (o = 0 ∧ (k = 10 ∨ k = 11)) → ¬ (o = 5 ∧ (k = 175 ∨ k = 176)) → up_s (up_s (up_s (up_s τ3 0 10 0) 0 11 (-1)) 5 175 1) 5 176 (up_s (up_s (up_s τ3 0 10 0) 0 11 (-1)) 5 175 1 0 26) o k = τ3 o k := fun o k z1 z2 => by
        rw [up_v, if_neg (by omega), up_v, if_neg (by omega), up_v, if_neg (by omega), up_v, if_neg (by omega)]
      have t10 : up_s (up_s (up_s (up_s τ3 0 10 0) 0 11 (-1)) 5 175 1) 5 176 (up_s (up_s (up_s τ3 0 10 0) 0 11 (-1)) 5 175 1 0 26) 0 10 = 0 := by rw [up_o (by omega), up_o (by omega), up_k (by omega), up_e]
      have t11 : up_s (up_s (up_s (up_s τ3 0 10 0) 0 11 (-1)) 5 175 1) 5 176 (up_s (up_s (up_s τ3 0 10 0) 0 11 (-1)) 5 175 1 0 26) 0 11 = -1 := by rw [up_o (by omega), up_o (by omega), up_e]
      have t75 : up_s (up_s (up_s (up_s τ3 0 10 0) 0 11 (-1)) 5 175 1) 5 176 (up_s (up_s (up_s τ3 0 10 0) 0 11 (-1)) 5 175 1 0 26) 5 175 = 1 := by rw [up_k (by omega), up_e]
      have t76 : up_s (up_s (up_s (up_s τ3 0 10 0) 0 11 (-1)) 5 175 1) 5 176 (up_s (up_s (up_s τ3 0 10 0) 0 11 (-1)) 5 175 1 0 26) 5 176 = (S : Nat) := by rw [up_e, up_o (by omega), up_k (by omega), up_k (by omega)]; exact y3
      generalize up_s (up_s (up_s (up_s τ3 0 10 0) 0 11 (-1)) 5 175 1) 5 176 (up_s (up_s (up_s τ3 0 10 0) 0 11 (-1)) 5 175 1 0 26) = τ4 at *
      obtain ⟨τ5, g1, g2, g3⟩ := yc_m (τ := τ4) y4 (by rw [tf1 _ _ (by omega) (by omega)]; exact y3)
      rw [show M_years_L82 fu 0 τ4 = _ from g1]
      have v1 : σ5 30 6 = (S : Nat) := by rw [d2.h (by omega), s4f _ _ (by omega) (by omega) (by omega)]; exact y2
      rw [v1]
      have sf : ∀ o k, o ≠ 5 → o ≠ 7 → (o < 30 ∨ 41 < o) → ¬ (o = 0 ∧ (k = 3 ∨ k = 4)) → σ5 o k = σ o k := fun o k z1 z2 z3 z4 => by
        rw [d2.f (by omega), s4f o k (by omega) z4 (by omega)]; exact sB a6 o k z1 z2 (by omega)
      have tf : ∀ o k, ¬ (o = 0 ∧ (k = 8 ∨ k = 9 ∨ k = 10 ∨ k = 11 ∨ (12 ≤ k ∧ k ≤ 19) ∨ k = 26)) → ¬ (o = 5 ∧ ((175 ≤ k ∧ k < 447) ∨ 1788 ≤ k)) → τ5 o k = τ o k := fun o k z1 z2 => by
        rw [g3 o k (by omega), tf1 o k (by omega) (by omega)]; exact tB a7 o k (by omega) (by omega)
      have r := h.rb
      have bW := h.pr.bW
      have bN := h.pr.bN
      refine ag_give (W := W) (N := N) (D := D) (E := E) (RR.mk ?_ ?_ (RB.mk ?_ ?_ ?_ ?_ ?_ ⟨0, by omega, ?_, ?_, fun k hk => by omega⟩ ?_ (.inr ⟨?_, ?_, S, O, y4, by omega, v1, ?_, ?_, ?_⟩) ?_ ?_ ?_ ?_)) ?_ _
      · exact h.pr.cg (fun j k _ _ => sf _ _ (by omega) (by omega) (by omega) (by omega)) (fun k _ => tf _ _ (by omega) (by omega))
      · exact h.dt.eq (tf _ _ (by omega) (by omega))
      · rw [sf _ _ (by omega) (by omega) (by omega) (by omega), tf _ _ (by omega) (by omega)]; exact r.tp
      · rw [sf _ _ (by omega) (by omega) (by omega) (by omega), tf _ _ (by omega) (by omega)]; exact r.bt
      · rw [d2.f (by omega), s43, g3 _ _ (by omega), t10]
      · rw [d2.f (by omega), s44, g3 _ _ (by omega), t11]
      · exact fun t q => (r.tr t q).cg (fun o k _ _ => sf o k (by omega) (by omega) (by omega) (by omega)) (fun o k _ _ => tf o k (by omega) (by omega))
      · rw [d2.f (by omega)]; exact s41
      · rw [g3 _ _ (by omega), tf1 _ _ (by omega) (by omega)]; exact t8 a7
      · exact r.na.cg bW bN (fun k _ => sf _ _ (by omega) (by omega) (by omega) (by omega)) (fun k _ => tf _ _ (by omega) (by omega))
      · rw [d2.h (by omega)]; exact s47
      · rw [g3 _ _ (by omega)]; exact t75
      · rw [g3 _ _ (by omega)]; exact t76
      · rw [d2.h (by omega), s4f _ _ (by omega) (by omega) (by omega)]; exact y1
      · have a5' : BQ W N σ3 τ3 31 3 0 S 0 O := BLK.mono (by omega) a5
        have w5 : ∀ j i, 1 ≤ j → j ≤ 5 → i < O → cl 60 (σ5 (30 + j)) i = σ3 (36 + j) i := fun j i z1 z2 z3 => by
          rw [cl_v (by omega), d2.a (by omega) (by omega), s4f _ _ (by omega) (by omega) (by omega)]
        exact BLK.cg (fun i _ z => ⟨w5 1 i (by omega) (by omega) z, w5 2 i (by omega) (by omega) z, w5 3 i (by omega) (by omega) z, w5 4 i (by omega) (by omega) z, w5 5 i (by omega) (by omega) z⟩) (fun k _ z => by
          rw [cl_v (by omega), g2 k z, tf1 _ _ (by omega) (by omega)]) a5'
      · exact r.lv.cg (fun k _ => sf _ _ (by omega) (by omega) (by omega) (by omega)) (tf _ _ (by omega) (by omega)) (fun k _ => tf _ _ (by omega) (by omega))
      · exact r.ms.cg (sf _ _ (by omega) (by omega) (by omega) (by omega)) (tf _ _ (by omega) (by omega)) (fun o k _ _ => sf _ _ (by omega) (by omega) (by omega) (by omega)) (fun k _ _ => tf _ _ (by omega) (by omega)) (fun k _ _ => tf _ _ (by omega) (by omega))
      · rw [sf _ _ (by omega) (by omega) (by omega) (by omega)]; exact r.mz
      · intro kk; rw [sf _ _ (by omega) (by omega) (by omega) (by omega)]; exact r.kc kk
      · rw [tf _ _ (by omega) (by omega)]; exact hz
    · rw [a1, a2, bd_s]
      obtain ⟨s, τ'', b1, b2, b3⟩ := flt_end h a3 (fun o k z1 z2 => sB a4 o k z2 (by unfold SbH at z1; omega) (by unfold SbH at z1; omega)) (fun o k z1 z2 => tB a5 o k (by unfold SbM at z1; omega) (by unfold SbM at z1; omega)) (t8 a5)
      show Ag _ (M_years_J50 τ3)
      rw [b1, bd_s, if_pos rfl, M_years_J50, b2, bd_s, if_pos rfl]
      exact ⟨-1, _, _, rfl, rfl, b3⟩
  · rw [if_neg c, if_pos rfl]
    have e : M_starts n 300 τ = some (0, up_s τ 0 0 5) := by
      rw [M_starts]
      by_cases c1 : n < 0
      · rw [if_pos c1, M_no, nm_k, bd_s, zb_0]
      · rw [if_neg c1]
        by_cases c2 : τ 0 8 < n
        · rw [if_pos c2, M_no, nm_k, bd_s, zb_0]
        · rw [if_neg c2, if_pos (by omega), M_no, nm_k, bd_s, zb_0]
    rw [e, bd_s, if_pos rfl]
    exact ag_fail h 5
end
