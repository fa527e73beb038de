/-! plaits: the word in a place -/
section
variable {σ τ σ' τ' : Sg} {W N D E : Nat}
theorem l78 {p : Nat} (h : PR p σ τ W N D E) {A : Nat → Nat} {P t m n left x q : Nat} {a4 : Int} (ht : t < 4) (hm : m ≤ 60) (hn : 2 * n ≤ m) (h20 : n ≤ 20) (hP : P < 2 ^ W) (hg : GD (fun x => τ 3 (60 * t + x)) W (2 * n)) (hA : ∀ w, A w = ahS (fun x => τ 3 (60 * t + x)) P n w)
    (hl : left &&& P = left) (hx : x < 8) (hq : q < 8) (h1 : nxB A left x = true) (h2 : ∀ y, y < x → ¬ nxB A left y = true) (hf : fN A left ≠ 0) {k68 : Int → Int → Int → Sg → Rs} : ∀ (j w f : Nat), w + j = x → j < f →
    M_plaitAt_L78 t n a4 left q k68 f w τ = k68 (wo left (2 ^ x) : Nat) x (q + 1 : Nat) τ := by
  have bW := h.bW
  have e8 : 2 ^ W ≤ 2 ^ 8 := Nat.pow_le_pow_right (by omega) bW
  have l1 : left ≤ P := by rw [← hl]; exact Nat.and_le_right
  intro j
  induction j with
  | zero =>
    intro w f hw hf'
    obtain ⟨f, rfl⟩ : ∃ x, f = x + 1 := ⟨f - 1, by omega⟩
    obtain rfl : w = x := by omega
    have hb := nx_bit h1
    have h3 : 2 ^ w < 2 ^ 8 := Nat.pow_lt_pow_right (by omega) hx
    have f1 : fN A (wo left (2 ^ w)) ≠ 0 := fN_sub 8 left _ pc_8 (by omega) (wo_sb _ _) hf
    rw [M_plaitAt_L78, has_m, bd_s, hb_n (by omega) (by omega), if_pos hb, if_pos rfl, if_neg i10, nx_m ht hm hn h20 bW (P := P) (A := A) (by omega) hl hb hx hg hA, bd_s, if_pos h1, if_neg i10, sl_1 (by omega), wo_n (by omega) (by omega), of_m h ht hm hn h20 hP hg hA 8 _ 20 pc_8 (by omega) (sub_wo hl), bd_s, if_neg (by omega), nm_k, nm_k, w32_i (by omega) (by omega), suc]
  | succ j ih =>
    intro w f hw hf'
    obtain ⟨f, rfl⟩ : ∃ x, f = x + 1 := ⟨f - 1, by omega⟩
    have r := ih (w + 1) f (by omega) (by omega)
    have no := h2 w (by omega)
    rw [M_plaitAt_L78, has_m, bd_s, hb_n (by omega) (by omega)]
    by_cases c : left.testBit w = true
    · rw [if_pos c, if_pos rfl, if_neg i10, nx_m ht hm hn h20 bW (P := P) (A := A) (by omega) hl c (by omega) hg hA, bd_s, if_neg no, if_pos rfl, nm_k, w32_i (by omega) (by omega), suc]
      exact r
    · rw [if_neg c, if_neg (show ¬ (0 : Int) = 1 by omega), if_pos rfl, nm_k, w32_i (by omega) (by omega), suc]
      exact r
theorem at_l {p : Nat} (h : PR p σ τ W N D E) {A : Nat → Nat} {P t m n k : Nat} (ht : t < 4) (hm : m ≤ 60) (hn : 2 * n ≤ m) (h20 : n ≤ 20) (hP : P < 2 ^ W) (hg : GD (fun x => τ 3 (60 * t + x)) W (2 * n)) (hA : ∀ w, A w = ahS (fun x => τ 3 (60 * t + x)) P n w) (pk : PK σ' A P) :
    ∀ (c s q f f' : Nat) (v6 : Int), pcN (wo P s) = c → q + c ≤ 8 → c < f → c < f' → s &&& P = s → fN A (wo P s) ≠ 0 → q ≤ k → k < q + c →
    ∃ x : Nat, Pl_firstOrderAt_L8 P k f s (-1) q σ' = some ((x : Int), σ') ∧ M_plaitAt_L68 t n k f' (wo P s : Nat) v6 q τ = some ((x : Int), τ) := by
  intro c
  have h256 := pk.b
  induction c with
  | zero => intro s q f f' v6 _ _ _ _ _ _ h1 h2; omega
  | succ c ih =>
    intro s q f f' v6 hc hq hf hf' hs hfn h1 h2
    obtain ⟨f, rfl⟩ : ∃ x, f = x + 1 := ⟨f - 1, by omega⟩
    obtain ⟨f', rfl⟩ : ∃ x, f' = x + 1 := ⟨f' - 1, by omega⟩
    have s256 : s < 256 := Nat.lt_of_le_of_lt (by rw [← hs]; exact Nat.and_le_right) h256
    have ne : wo P s ≠ 0 := fun z => by
      rw [z] at hc
      have : pcN 0 = 0 := by decide
      omega
    have ns : ¬ (s : Int) = P := fun z => ne ((full hs).mp (by omega))
    rcases ff_h pk s256 8 0 fu (by omega) (by unfold fu; omega) with ⟨a, b⟩ | ⟨x, x1, x2, x3, x4, x5⟩
    · exfalso
      obtain ⟨k', k1, k2⟩ := fN_ex (wo_256 h256) ne hfn
      exact a k' (by omega) k1 k2
    · have b1 := nx_bit (A := A) (x := wo P s) (k := x) x3
      have p1 := pc_s (wo_256 h256) x2 b1
      have f1 : fN A (wo P (s ||| 2 ^ x)) ≠ 0 := by
        rw [wo_or]; exact fN_sub 8 (wo P s) _ pc_8 (wo_256 h256) (wo_sb _ _) hfn
      have sub' : (s ||| 2 ^ x) &&& P = s ||| 2 ^ x := (sub_or (cf_n A x3).2).mpr hs
      have eH : Pl_firstOrderAt_L8 P k (f + 1) s (-1) q σ' = if (q : Int) = k then Pl_firstOrderAt_L8 P k f (s ||| 2 ^ x : Nat) x (q + 1 : Nat) σ' else Pl_firstOrderAt_L8 P k f (s ||| 2 ^ x : Nat) (-1) (q + 1 : Nat) σ' := by
        rw [Pl_firstOrderAt_L8, if_pos (by omega), if_neg ns, Pl_firstFollowing, show Pl_firstFollowing_L2 (P : Int) (s : Int) fu 0 σ' = _ from x5, bd_s, if_neg (by omega), nm_k, nm_k, nm_k, nm_k, lay_n (P := P) x2 s256, w32_i (by omega) (by omega), suc]
      have eM : M_plaitAt_L68 t n k (f' + 1) (wo P s : Nat) v6 q τ = M_plaitAt_L68 t n k f' (wo P (s ||| 2 ^ x) : Nat) x (q + 1 : Nat) τ := by
        have l := l78 h (a4 := k) (left := wo P s) (x := x) (q := q) ht hm hn h20 hP hg hA (wo_sb P s) x2 (by omega) x3 (fun y hy => x4 y (by omega) hy) hfn (k68 := fun x26 x27 x28 s29 => M_plaitAt_L68 t n k f' x26 x27 x28 s29) x 0 fu (by omega) (by unfold fu; omega)
        rw [M_plaitAt_L68, if_neg (by omega)]
        rw [wo_or]; exact l
      rw [eH, eM]
      by_cases e : q = k
      · subst e
        rw [if_pos rfl]
        refine ⟨x, run_n pk c _ (q + 1) f (by rw [wo_or]; omega) (by omega) (by omega) sub' f1 (fun y y1 y2 z => by omega), ?_⟩
        obtain ⟨f', rfl⟩ : ∃ x, f' = x + 1 := ⟨f' - 1, by omega⟩
        rw [M_plaitAt_L68, if_pos (by omega)]
      · rw [if_neg (by omega)]
        exact ih (s ||| 2 ^ x) (q + 1) f f' x (by rw [wo_or]; omega) (by omega) (by omega) (by omega) sub' f1 (by omega) (by omega)
theorem k_plaitAt (h : RR σ τ W N D E) (a b c d : Int) (hc : c32 c) : Ag (H_plaitAt a b c d σ) (M_plaitAt a b c d τ) := by
  rw [M_plaitAt, nm_k]
  have h1 := h.t1 0
  have bW := h.pr.bW
  have e8 : 2 ^ W ≤ 2 ^ 8 := Nat.pow_le_pow_right (by omega) bW
  obtain ⟨r, σ1, e1, e2, e3, e4, e5⟩ := pl_s h1 a b c hc
  have h2 : RR σ1 (up_s τ 0 1 0) W N D E := h1.fr (fun o k q => e4 o k (by unfold SbH at q; omega)) (fun _ _ _ => rfl)
  rw [H_plaitAt, e1, e2, bd_s, bd_s]
  simp only [nm_k, up_e]
  by_cases e : r = 0
  · subst e
    obtain ⟨P, t, m, k, rfl, hP, rfl, rfl, ht, hm, hk, h20, hg, hA⟩ := e5 rfl
    have q := pk_of (by omega) hA
    have hg' : GD (fun x => up_s (up_s τ 0 1 0) 0 0 0 3 (60 * t + x)) W (2 * k) := fun x hx => by
      show 0 ≤ up_s (up_s τ 0 1 0) 0 0 0 3 (60 * t + x) ∧ up_s (up_s τ 0 1 0) 0 0 0 3 (60 * t + x) < W
      rw [up_o (by omega)]; exact hg x hx
    have eu : (fun x => up_s (up_s τ 0 1 0) 0 0 0 3 (60 * t + x)) = (fun x => up_s τ 0 1 0 3 (60 * t + x)) := by funext x; rw [up_o (by omega)]
    have hA' : ∀ w, (fun w => ahS (fun x => up_s τ 0 1 0 3 (60 * t + x)) P k w) w = ahS (fun x => up_s (up_s τ 0 1 0) 0 0 0 3 (60 * t + x)) P k w := fun w => by rw [eu]
    have w := of_m (h2.t0 0).pr (A := fun w => ahS (fun x => up_s τ 0 1 0 3 (60 * t + x)) P k w) ht hm hk h20 hP hg' hA' 8 P 20 pc_8 (by omega) (Nat.and_self P)
    have z1 := szS_g (P : Int) 8
    have w0 : wo P 0 = P := by apply Nat.eq_of_testBit_eq; intro j; rw [wo_b, Nat.zero_testBit]; simp
    have pP : ((pcN P : Nat) : Int) = szS (P : Int) 8 := by unfold pcN; omega
    have hF := h2.t0 0
    rw [if_pos rfl, if_neg (show ¬ (0 : Int) < 0 by omega), sz_m, bd_s, w32_i (x := szS (P : Int) 8 - 1) (by omega) (by omega), Pl_firstOrderAt]
    have stuck : fN (fun w => ahS (fun x => up_s τ 0 1 0 3 (60 * t + x)) P k w) P = 0 → Pl_firstOrderAt_L8 P d fu 0 (-1) 0 σ1 = some (-1, σ1) := fun z =>
      run_s q (pcN P) 0 0 fu (-1) (by rw [w0]) (by have := pc_8 (x := P); omega) (by unfold fu; have := pc_8 (x := P); omega) (Nat.zero_and P) (by rw [w0]; exact z)
    by_cases hd : 0 ≤ d ∧ d ≤ szS (P : Int) 8 - 1
    · obtain ⟨i, rfl⟩ := nat_of hd.1
      rw [in_1 hd, bd_s, if_neg i10, w, bd_s]
      by_cases z : fN (fun w => ahS (fun x => up_s τ 0 1 0 3 (60 * t + x)) P k w) P = 0
      · rw [stuck z, bd_s, if_pos rfl, z, if_pos (by omega)]; exact ag_fail hF 8
      · obtain ⟨x, x1, x2⟩ := at_l (k := i) (h2.t0 0).pr ht hm hk h20 hP hg' hA' q (pcN P) 0 0 fu fu (-1) (by rw [w0]) (by have := pc_8 (x := P); omega) (by unfold fu; have := pc_8 (x := P); omega) (by unfold fu; have := pc_8 (x := P); omega) (Nat.zero_and P) (by rw [w0]; exact z) (by omega) (by omega)
        rw [w0] at x2
        rw [show Pl_firstOrderAt_L8 (P : Int) (i : Int) fu 0 (-1) 0 σ1 = _ from x1, bd_s, if_neg (by omega), if_neg (by omega), show M_plaitAt_L68 (t : Int) (k : Int) (i : Int) fu (P : Int) (-1) 0 (up_s (up_s τ 0 1 0) 0 0 0) = _ from x2]
        exact ag_give hF up_e _
    · rw [in_0 hd, bd_s, if_pos rfl]
      have none : Pl_firstOrderAt_L8 P d fu 0 (-1) 0 σ1 = some (-1, σ1) := by
        by_cases z : fN (fun w => ahS (fun x => up_s τ 0 1 0 3 (60 * t + x)) P k w) P = 0
        · exact stuck z
        · exact run_n q (pcN P) 0 0 fu (by rw [w0]) (by have := pc_8 (x := P); omega) (by unfold fu; have := pc_8 (x := P); omega) (Nat.zero_and P) (by rw [w0]; exact z) (fun x x1 x2 y => hd (by omega))
      rw [none, bd_s, if_pos rfl]; exact ag_fail hF 8
  · rw [if_neg e, if_pos (by omega), H_fail, nm_k, bd_s]
    exact ag_h ((h2.t0 r).s0 r) (by rw [up_e, up_e]) _
end
