/-! plaits: the reference's count; the first order -/
section
variable {σ τ σ' τ' : Sg} {W N D E : Nat}
theorem sm_mono (g : Nat → Nat) (a : Nat) : ∀ j, sm g a ≤ sm g (a + j)
  | 0 => Nat.le_refl _
  | j + 1 => by
    have := sm_mono g a j
    rw [← Nat.add_assoc, sm]; omega
theorem sub_wo {left P k : Nat} (h : left &&& P = left) : wo left (2 ^ k) &&& P = wo left (2 ^ k) := by
  apply Nat.eq_of_testBit_eq; intro j
  have := congrArg (fun x => x.testBit j) h
  simp only [Nat.testBit_and] at this
  rw [Nat.testBit_and, wo_b]
  cases h1 : left.testBit j
  · rfl
  · rw [h1] at this; simp at this; rw [this]; simp
theorem bit_lt {x n j : Nat} (h : x < 2 ^ n) (hb : x.testBit j = true) : j < n := by
  apply Classical.byContradiction; intro z
  rw [tbz h (by omega)] at hb; cases hb
theorem of_m {p : Nat} (h : PR p σ τ W N D E) {A : Nat → Nat} {P t m n : Nat} (ht : t < 4) (hm : m ≤ 60) (hn : 2 * n ≤ m) (h20 : n ≤ 20) (hP : P < 2 ^ W) (hg : GD (fun x => τ 3 (60 * t + x)) W (2 * n)) (hA : ∀ w, A w = ahS (fun x => τ 3 (60 * t + x)) P n w) :
    ∀ (c left f : Nat), pcN left ≤ c → c < f → left &&& P = left → M_plaitsOf f left t n τ = some (((fN A left : Nat) : Int), τ) := by
  have bW := h.bW
  have e8 : 2 ^ W ≤ 2 ^ 8 := Nat.pow_le_pow_right (by omega) bW
  intro c
  induction c with
  | zero =>
    intro left f hc hf hl
    obtain ⟨f, rfl⟩ : ∃ x, f = x + 1 := ⟨f - 1, by omega⟩
    have l1 : left ≤ P := by rw [← hl]; exact Nat.and_le_right
    have := pc_0 (x := left) (by omega) (by omega)
    subst this
    rw [M_plaitsOf, M_plaitsOf_B, if_pos (by omega), fN_0]; rfl
  | succ c ih =>
    intro left f hc hf hl
    obtain ⟨f, rfl⟩ : ∃ x, f = x + 1 := ⟨f - 1, by omega⟩
    have l1 : left ≤ P := by rw [← hl]; exact Nat.and_le_right
    by_cases e : left = 0
    · subst e
      rw [M_plaitsOf, M_plaitsOf_B, if_pos (by omega), fN_0]; rfl
    · have bd : fN A left ≤ 8 ^ 8 := fN_b A 8 left pc_8 (by omega)
      rw [M_plaitsOf, M_plaitsOf_B, if_neg (by omega)]
      have eW : sm (fun k => if nxB A left k = true then fN A (wo left (2 ^ k)) else 0) W = fN A left := by
        rw [fN_s A (by omega) e]
        have : ∀ j, W + j ≤ 8 → sm (fun k => if nxB A left k = true then fN A (wo left (2 ^ k)) else 0) (W + j) = sm (fun k => if nxB A left k = true then fN A (wo left (2 ^ k)) else 0) W := by
          intro j
          induction j with
          | zero => intro _; rfl
          | succ j ihj =>
            intro hj
            rw [← Nat.add_assoc, sm, ihj (by omega), if_neg, Nat.add_zero]
            intro z
            unfold nxB at z
            rw [tbz (n := W) (by omega) (by omega)] at z; cases z
        rw [← this (8 - W) (by omega), show W + (8 - W) = 8 by omega]
      have key := loopN (X := fun f' k => M_plaitsOf_L12 (M_plaitsOf f) left t n f' (sm (fun k => if nxB A left k = true then fN A (wo left (2 ^ k)) else 0) k : Nat) k τ) (W := W) (R := some (((fN A left : Nat) : Int), τ)) ?_ ?_ fu (by unfold fu; omega)
      · exact key
      · intro k f' hk
        show M_plaitsOf_L12 (M_plaitsOf f) left t n (f' + 1) _ k τ = _
        rw [M_plaitsOf_L12, rd_k (by omega) (by omega), Int.toNat_zero, h.w', if_pos (by omega), has_m, bd_s, hb_n (by omega) (by omega), sm]
        by_cases c1 : left.testBit k = true
        · rw [if_pos c1, if_pos rfl, if_neg i10, nx_m ht hm hn h20 bW (P := P) (A := A) (by omega) hl c1 (by omega) hg hA, bd_s]
          by_cases c2 : nxB A left k = true
          · have p1 := pc_s (x := left) (k := k) (by omega) (by omega) c1
            have h3 : 2 ^ k < 2 ^ 8 := Nat.pow_lt_pow_right (by omega) (by omega)
            have b1 : sm (fun k => if nxB A left k = true then fN A (wo left (2 ^ k)) else 0) (k + 1) ≤ fN A left := by
              rw [← eW]
              have := sm_mono (fun k => if nxB A left k = true then fN A (wo left (2 ^ k)) else 0) (k + 1) (W - (k + 1))
              rwa [show k + 1 + (W - (k + 1)) = W by omega] at this
            rw [sm, if_pos c2] at b1
            rw [if_pos c2, if_neg i10, if_pos c2, sl_1 (by omega), wo_n (by omega) (by omega), ih _ f (by omega) (by omega) (sub_wo hl), bd_s, nm_k, nm_k, ← Int.natCast_add, w32_i (x := ((sm (fun k => if nxB A left k = true then fN A (wo left (2 ^ k)) else 0) k + fN A (wo left (2 ^ k)) : Nat) : Int)) (by omega) (by omega), w32_i (x := (k : Int) + 1) (by omega) (by omega), suc]
          · rw [if_neg c2, if_pos rfl, if_neg c2, nm_k, w32_i (x := (k : Int) + 1) (by omega) (by omega), suc]; rfl
        · have c2 : ¬ nxB A left k = true := fun z => by unfold nxB at z; rw [Bool.and_eq_true] at z; exact c1 z.1
          rw [if_neg c1, if_neg (show ¬ (0 : Int) = 1 by omega), if_pos rfl, if_neg c2, nm_k, w32_i (x := (k : Int) + 1) (by omega) (by omega), suc]; rfl
      · intro f'
        show M_plaitsOf_L12 (M_plaitsOf f) left t n (f' + 1) _ W τ = _
        rw [M_plaitsOf_L12, rd_k (by omega) (by omega), Int.toNat_zero, h.w', if_neg (by omega), eW]
theorem pk_of {σ' : Sg} {u : Nat → Int} {P n : Nat} (hP : P < 256) (h : ∀ w, w < 8 → σ' 106 w = ((ahS u P n w : Nat) : Int)) : PK σ' (fun w => ahS u P n w) P :=
  PK.mk hP (fun k _ => (ahS_b u (n := 0) hP n k).1) (fun k _ j q => by obtain ⟨x, _, _, _, z, _⟩ := ((ahS_b u (n := 0) hP n k).2 j).mp q; exact z) h
theorem k_plaits (h : RR σ τ W N D E) (a b c : Int) (hc : c32 c) : Ag (H_plaits a b c σ) (M_plaits a b c τ) := by
  rw [M_plaits, nm_k]
  have h1 := h.t1 0
  have bW := h.pr.bW
  have e8 : 2 ^ W ≤ 2 ^ 8 := Nat.pow_le_pow_right (by omega) bW
  obtain ⟨r, σ1, e1, e2, e3, e4, e5⟩ := pl_s h1 a b c hc
  have h2 : RR σ1 (up_s τ 0 1 0) W N D E := h1.fr (fun o k q => e4 o k (by unfold SbH at q; omega)) (fun _ _ _ => rfl)
  rw [H_plaits, e1, e2, bd_s, bd_s]
  simp only [nm_k, up_e]
  by_cases e : r = 0
  · subst e
    obtain ⟨P, t, m, k, rfl, hP, rfl, rfl, ht, hm, hk, h20, hg, hA⟩ := e5 rfl
    have q := pk_of (by omega) hA
    have hg' : GD (fun x => up_s (up_s τ 0 1 0) 0 0 0 3 (60 * t + x)) W (2 * k) := fun x hx => by
      show 0 ≤ up_s (up_s τ 0 1 0) 0 0 0 3 (60 * t + x) ∧ up_s (up_s τ 0 1 0) 0 0 0 3 (60 * t + x) < W
      rw [up_o (by omega)]; exact hg x hx
    have eu : (fun x => up_s (up_s τ 0 1 0) 0 0 0 3 (60 * t + x)) = (fun x => up_s τ 0 1 0 3 (60 * t + x)) := by funext x; rw [up_o (by omega)]
    have w := of_m (h2.t0 0).pr (A := fun w => ahS (fun x => up_s τ 0 1 0 3 (60 * t + x)) P k w) ht hm hk h20 hP hg' (fun w => by rw [eu]) 8 P 20 pc_8 (by omega) (Nat.and_self P)
    rw [if_pos rfl, if_neg (show ¬ (0 : Int) < 0 by omega), or_h q, bd_s, w, bd_s]
    refine ag_give ((h2.t0 0).fr (fun o k z => rwO_o (by unfold SbH at z; omega)) (fun _ _ _ => rfl)) up_e _
  · rw [if_neg e, if_pos (by omega), H_fail, nm_k, bd_s]
    exact ag_h ((h2.t0 r).s0 r) (by rw [up_e, up_e]) _
end
