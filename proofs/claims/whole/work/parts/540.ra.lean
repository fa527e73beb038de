/-! plaits: the first order -/
section
variable {σ τ σ' τ' : Sg} {W N D E : Nat}
theorem nx_bit {A : Nat → Nat} {x k : Nat} (h : nxB A x k = true) : x.testBit k = true := by unfold nxB at h; rw [Bool.and_eq_true] at h; exact h.1
/-- what can be ordered can be ordered in part -/
theorem fN_sub {A : Nat → Nat} : ∀ (n x y : Nat), pcN x ≤ n → x < 256 → y &&& x = y → fN A x ≠ 0 → fN A y ≠ 0 := by
  intro n
  induction n with
  | zero =>
    intro x y h1 h2 h3 h4
    have := pc_0 h2 (by omega)
    subst this
    rw [Nat.and_zero] at h3
    rw [← h3, fN_0]; omega
  | succ n ih =>
    intro x y h1 h2 h3 h4
    have y2 : y < 256 := Nat.lt_of_le_of_lt (by rw [← h3]; exact Nat.and_le_right) h2
    by_cases ex : x = 0
    · subst ex
      rw [Nat.and_zero] at h3
      rw [← h3, fN_0]; omega
    · have : ∃ k, k < 8 ∧ nxB A x k = true ∧ fN A (wo x (2 ^ k)) ≠ 0 := by
        apply Classical.byContradiction
        intro no
        apply h4
        rw [fN_s A h2 ex]
        apply sm_0
        intro k hk
        by_cases c : nxB A x k = true
        · rw [if_pos c]
          apply Classical.byContradiction; intro z
          exact no ⟨k, hk, c, z⟩
        · rw [if_neg c]
      obtain ⟨k, k1, k2, k3⟩ := this
      have hb := nx_bit k2
      have p1 := pc_s h2 k1 hb
      have bits : ∀ j, y.testBit j = true → x.testBit j = true := fun j q => by
        have := congrArg (fun z => z.testBit j) h3
        simp only [Nat.testBit_and] at this
        rw [q] at this; simpa using this
      by_cases ey : y.testBit k = true
      · have y0 : y ≠ 0 := fun z => by rw [z, Nat.zero_testBit] at ey; cases ey
        have ny : nxB A y k = true := by
          unfold nxB at k2 ⊢
          rw [Bool.and_eq_true, decide_eq_true_eq] at k2 ⊢
          refine ⟨ey, ?_⟩
          apply Nat.eq_of_testBit_eq; intro j
          have := congrArg (fun z => z.testBit j) k2.2
          simp only [Nat.testBit_and, Nat.zero_testBit] at this
          rw [Nat.testBit_and, Nat.zero_testBit]
          cases a : y.testBit j
          · rw [Bool.and_false]
          · rw [bits j a] at this; simpa using this
        have r := ih (wo x (2 ^ k)) (wo y (2 ^ k)) (by omega) (wo_256 h2) (by
          apply Nat.eq_of_testBit_eq; intro j
          rw [Nat.testBit_and, wo_b, wo_b]
          cases a : y.testBit j
          · rfl
          · rw [bits j a]; cases (2 ^ k).testBit j <;> rfl) k3
        rw [fN_s A y2 y0]
        have g := sm_ge (g := fun k => if nxB A y k = true then fN A (wo y (2 ^ k)) else 0) (n := 8) (k := k) k1
        rw [if_pos ny] at g
        omega
      · refine ih (wo x (2 ^ k)) y (by omega) (wo_256 h2) ?_ k3
        apply Nat.eq_of_testBit_eq; intro j
        rw [Nat.testBit_and, wo_b, tb_2]
        cases a : y.testBit j
        · rfl
        · rw [bits j a]
          have : ¬ k = j := fun z => by rw [z] at ey; exact ey a
          simp [this]
theorem wo_sb (x y : Nat) : wo x y &&& x = wo x y := by
  apply Nat.eq_of_testBit_eq; intro j; rw [Nat.testBit_and, wo_b]; cases x.testBit j <;> simp
theorem fN_ex {A : Nat → Nat} {x : Nat} (hx : x < 256) (h0 : x ≠ 0) (h : fN A x ≠ 0) : ∃ k, k < 8 ∧ nxB A x k = true := by
  apply Classical.byContradiction
  intro no
  apply h
  rw [fN_s A hx h0]
  apply sm_0
  intro k hk
  rw [if_neg (fun z => no ⟨k, hk, z⟩)]
theorem fN_dn {A : Nat → Nat} {x k : Nat} (hx : x < 256) (hk : k < 8) (h : nxB A x k = true) (h0 : fN A x = 0) : fN A (wo x (2 ^ k)) = 0 := by
  have x0 : x ≠ 0 := fun z => by have := nx_bit h; rw [z, Nat.zero_testBit] at this; cases this
  rw [fN_s A hx x0] at h0
  have g := sm_ge (g := fun k => if nxB A x k = true then fN A (wo x (2 ^ k)) else 0) (n := 8) (k := k) hk
  rw [if_pos h] at g
  omega
/-- the first that can follow -/
theorem ff_h {A : Nat → Nat} {P s : Nat} (q : PK σ A P) (hs : s < 256) : ∀ (m w n : Nat), w + m = 8 → m < n →
    ((∀ x, w ≤ x → x < 8 → ¬ cfK A P s x = true) ∧ Pl_firstFollowing_L2 P s n w σ = some (-1, σ)) ∨ (∃ x, w ≤ x ∧ x < 8 ∧ cfK A P s x = true ∧ (∀ y, w ≤ y → y < x → ¬ cfK A P s y = true) ∧ Pl_firstFollowing_L2 P s n w σ = some ((x : Int), σ)) := by
  intro m
  induction m with
  | zero =>
    intro w n hw hn
    obtain ⟨n, rfl⟩ : ∃ x, n = x + 1 := ⟨n - 1, by omega⟩
    refine .inl ⟨fun x a b => absurd b (by omega), ?_⟩
    rw [Pl_firstFollowing_L2, if_neg (by omega)]
  | succ m ih =>
    intro w n hw hn
    obtain ⟨n, rfl⟩ : ∃ x, n = x + 1 := ⟨n - 1, by omega⟩
    rw [Pl_firstFollowing_L2, if_pos (by omega), cf_h q.b hs (by omega) (q.a w (by omega)) (q.s w (by omega)) (q.v w (by omega)), bd_s]
    by_cases c : cfK A P s w = true
    · rw [if_pos c, if_neg i10]
      exact .inr ⟨w, by omega, by omega, c, fun y a b => absurd b (by omega), rfl⟩
    · rw [if_neg c, if_pos rfl, nm_k, w32_i (by omega) (by omega), suc]
      rcases ih (w + 1) n (by omega) (by omega) with ⟨a, b⟩ | ⟨x, x1, x2, x3, x4, x5⟩
      · refine .inl ⟨fun x a1 a2 => ?_, b⟩
        by_cases z : x = w
        · rw [z]; exact c
        · exact a x (by omega) a2
      · refine .inr ⟨x, by omega, x2, x3, fun y y1 y2 => ?_, x5⟩
        by_cases z : y = w
        · rw [z]; exact c
        · exact x4 y (by omega) y2
theorem lay_n {P s k : Nat} (hk : k < 8) (hs : s < 256) : or32 (s : Int) (sl32 1 (k : Int)) = ((s ||| 2 ^ k : Nat) : Int) := by
  have h3 : 2 ^ k < 2 ^ 8 := Nat.pow_lt_pow_right (by omega) hk
  rw [sl_1 (by omega), or_n (by omega) (by omega)]
theorem full {P s : Nat} (h : s &&& P = s) : s = P ↔ wo P s = 0 := by
  constructor
  · intro e; subst e; unfold wo; rw [Nat.and_self, Nat.xor_self]
  · intro e
    apply Nat.eq_of_testBit_eq; intro j
    have a := wo_b P s j
    rw [e, Nat.zero_testBit] at a
    have b := congrArg (fun x => x.testBit j) h
    simp only [Nat.testBit_and] at b
    cases c : s.testBit j <;> cases d : P.testBit j <;> rw [c, d] at a b <;> simp_all
/-- the class runs on: nothing more is found -/
theorem run_n {A : Nat → Nat} {P : Nat} {k v : Int} (q : PK σ A P) : ∀ (c s p n : Nat), pcN (wo P s) = c → p + c ≤ 8 → c < n → s &&& P = s → fN A (wo P s) ≠ 0 → (∀ x : Nat, p ≤ x → x < p + c → ¬ (x : Int) = k) → Pl_firstOrderAt_L8 P k n s v p σ = some (v, σ) := by
  intro c
  have hP := q.b
  induction c with
  | zero =>
    intro s p n hc hp hn hs hf hk
    obtain ⟨n, rfl⟩ : ∃ x, n = x + 1 := ⟨n - 1, by omega⟩
    have z := pc_0 (wo_256 hP) hc
    have z2 := (full hs).mpr z
    rw [Pl_firstOrderAt_L8]
    by_cases y : (p : Int) < 8
    · rw [if_pos y, if_pos (by omega)]
    · rw [if_neg y]
  | succ c ih =>
    intro s p n hc hp hn hs hf hk
    obtain ⟨n, rfl⟩ : ∃ x, n = x + 1 := ⟨n - 1, by omega⟩
    have s256 : s < 256 := Nat.lt_of_le_of_lt (by rw [← hs]; exact Nat.and_le_right) hP
    have ne : wo P s ≠ 0 := fun z => by
      rw [z] at hc
      have : pcN 0 = 0 := by decide
      omega
    have ns : ¬ (s : Int) = P := fun z => ne ((full hs).mp (by omega))
    rw [Pl_firstOrderAt_L8, if_pos (by omega), if_neg ns, Pl_firstFollowing]
    rcases ff_h q s256 8 0 fu (by omega) (by unfold fu; omega) with ⟨a, b⟩ | ⟨x, x1, x2, x3, x4, x5⟩
    · exfalso
      obtain ⟨k', k1, k2⟩ := fN_ex (wo_256 hP) ne hf
      exact a k' (by omega) k1 k2
    · have b1 := nx_bit (A := A) (x := wo P s) (k := x) x3
      have p1 := pc_s (wo_256 hP) x2 b1
      have f1 : fN A (wo P (s ||| 2 ^ x)) ≠ 0 := by
        rw [wo_or]; exact fN_sub 8 (wo P s) _ pc_8 (wo_256 hP) (wo_sb _ _) hf
      have w := ih (s ||| 2 ^ x) (p + 1) n (by rw [wo_or]; omega) (by omega) (by omega) ((sub_or (cf_n A x3).2).mpr hs) f1 (fun y y1 y2 => hk y (by omega) (by omega))
      rw [show Pl_firstFollowing_L2 (P : Int) (s : Int) fu 0 σ = _ from x5, bd_s, if_neg (by omega), if_neg (hk p (by omega) (by omega)), nm_k, nm_k, lay_n (P := P) x2 s256, w32_i (by omega) (by omega), suc]
      exact w
/-- the class gets stuck -/
theorem run_s {A : Nat → Nat} {P : Nat} {k : Int} (q : PK σ A P) : ∀ (c s p n : Nat) (v : Int), pcN (wo P s) = c → p + c ≤ 8 → c < n → s &&& P = s → fN A (wo P s) = 0 → Pl_firstOrderAt_L8 P k n s v p σ = some (-1, σ) := by
  intro c
  have hP := q.b
  induction c with
  | zero =>
    intro s p n v hc hp hn hs hf
    have z := pc_0 (wo_256 hP) hc
    rw [z, fN_0] at hf; omega
  | succ c ih =>
    intro s p n v hc hp hn hs hf
    obtain ⟨n, rfl⟩ : ∃ x, n = x + 1 := ⟨n - 1, by omega⟩
    have s256 : s < 256 := Nat.lt_of_le_of_lt (by rw [← hs]; exact Nat.and_le_right) hP
    have ne : wo P s ≠ 0 := fun z => by rw [z, fN_0] at hf; omega
    have ns : ¬ (s : Int) = P := fun z => ne ((full hs).mp (by omega))
    rw [Pl_firstOrderAt_L8, if_pos (by omega), if_neg ns, Pl_firstFollowing]
    rcases ff_h q s256 8 0 fu (by omega) (by unfold fu; omega) with ⟨a, b⟩ | ⟨x, x1, x2, x3, x4, x5⟩
    · rw [show Pl_firstFollowing_L2 (P : Int) (s : Int) fu 0 σ = _ from b, bd_s, if_pos rfl]
    · have b1 := nx_bit (A := A) (x := wo P s) (k := x) x3
      have p1 := pc_s (wo_256 hP) x2 b1
      have f1 : fN A (wo P (s ||| 2 ^ x)) = 0 := by rw [wo_or]; exact fN_dn (wo_256 hP) x2 x3 hf
      have w := fun v => ih (s ||| 2 ^ x) (p + 1) n v (by rw [wo_or]; omega) (by omega) (by omega) ((sub_or (cf_n A x3).2).mpr hs) f1
      rw [show Pl_firstFollowing_L2 (P : Int) (s : Int) fu 0 σ = _ from x5, bd_s, if_neg (by omega), nm_k, nm_k, nm_k, nm_k, lay_n (P := P) x2 s256, w32_i (by omega) (by omega), suc]
      split
      · exact w _
      · exact w _
end
