/-! rounds: who can be cut by one -/
theorem ff_t : ¬ (false = true) := fun h => by cases h
def kbS (c : Nat → Int) (S : Int) : Nat → Int
  | 0 => 0
  | q + 1 => or32 (kbS c S q) (if an32 (sr32 S q) 1 = 1 then c (43 + q) else 0)
theorem kbS_c (c : Nat → Int) (S : Int) : ∀ k, c32 (kbS c S k)
  | 0 => c32_0
  | k + 1 => or_c _ _
def cfB (c : Nat → Int) (K : Int) : Nat → Bool
  | 0 => false
  | h + 1 => cfB c K h || (decide (an32 (sr32 K (c (163 + h))) 1 = 1) && decide (an32 (sr32 K (c (169 + h))) 1 = 1))
theorem cfB_e (c : Nat → Int) (K : Int) : ∀ k, cfB c K k = true ↔ ∃ h, h < k ∧ an32 (sr32 K (c (163 + h))) 1 = 1 ∧ an32 (sr32 K (c (169 + h))) 1 = 1
  | 0 => ⟨fun h => by simp [cfB] at h, fun ⟨d, h, _⟩ => absurd h (by omega)⟩
  | k + 1 => by
    rw [cfB, Bool.or_eq_true, cfB_e c K k, Bool.and_eq_true, decide_eq_true_eq, decide_eq_true_eq]
    constructor
    · rintro (⟨d, a, b⟩ | a)
      · exact ⟨d, by omega, b⟩
      · exact ⟨k, by omega, a⟩
    · rintro ⟨d, a, b⟩
      by_cases e : d = k
      · subst e; exact .inr b
      · exact .inl ⟨d, by omega, b⟩
def sfB (c : Nat → Int) (N E : Nat) (S : Int) : Bool := !cfB c (kbS c S N) E
section
variable {p : Nat} {σ τ : Sg} {W N D E : Nat}
theorem kb_n (h : PR p σ τ W N D E) (S : Int) : ∀ k, k ≤ N → ∃ m : Nat, kbS (τ 5) S k = m ∧ m < 2 ^ W
  | 0, _ => ⟨0, rfl, Nat.pow_pos (by omega)⟩
  | k + 1, hk => by
    obtain ⟨m, h1, h2⟩ := kb_n h S k (by omega)
    have g := h.kpb k (by omega)
    have g2 := pow_le h.bW
    rw [← cast_pow] at g g2
    rw [kbS, h1]
    by_cases e : an32 (sr32 S k) 1 = 1
    · obtain ⟨z, hz⟩ := nat_of g.1
      rw [if_pos e, hz, or_n (by omega) (by omega)]
      exact ⟨m ||| z, rfl, Nat.or_lt_two_pow h2 (by omega)⟩
    · rw [if_neg e, or_0 (by unfold c32; omega)]; exact ⟨m, rfl, h2⟩
theorem kb_m (h : PR p σ τ W N D E) (S : Int) : M_keptBy S τ = some (kbS (τ 5) S N, τ) := by
  have bN := h.bN
  rw [M_keptBy]
  refine loopN (X := fun n k => M_keptBy_L4 S n (kbS (τ 5) S k) k τ) (W := N) ?_ ?_ fu (by unfold fu; omega)
  · intro k n hk
    show M_keptBy_L4 S (n + 1) _ k τ = _
    rw [M_keptBy_L4, rd_k (by omega) (by omega), show Int.toNat 1 = 1 from rfl, h.n', if_pos (by omega), has_m, bd_s, w32_i (x := 43 + (k : Int)) (by omega) (by omega), rd_k (by omega) (by omega), tn43, kbS]
    simp only [nm_k]
    rw [w32_i (x := (k : Int) + 1) (by omega) (by omega), suc]
    by_cases e : an32 (sr32 S k) 1 = 1
    · rw [if_pos e, if_pos e, if_neg i10]
    · rw [if_neg e, if_neg e, if_pos rfl]
  · intro n
    show M_keptBy_L4 S (n + 1) _ N τ = _
    rw [M_keptBy_L4, rd_k (by omega) (by omega), show Int.toNat 1 = 1 from rfl, h.n', if_neg (by omega)]
theorem on_l (h : PR p σ τ W N D E) (K : Int) : ∀ (m k n : Nat), k + m = E → m < n →
    ((∃ d, k ≤ d ∧ d < E ∧ an32 (sr32 K (τ 5 (163 + d))) 1 = 1 ∧ an32 (sr32 K (τ 5 (169 + d))) 1 = 1) ∧ M_isOne_L8 K n k τ = some (0, τ)) ∨ ((∀ d, k ≤ d → d < E → ¬ (an32 (sr32 K (τ 5 (163 + d))) 1 = 1 ∧ an32 (sr32 K (τ 5 (169 + d))) 1 = 1)) ∧ M_isOne_L8 K n k τ = some (1, τ)) := by
  intro m
  have bE := h.bE
  induction m with
  | zero =>
    intro k n hk hn
    obtain ⟨n, rfl⟩ : ∃ x, n = x + 1 := ⟨n - 1, by omega⟩
    refine .inr ⟨fun d a b => absurd b (by omega), ?_⟩
    rw [M_isOne_L8, rd_k (by omega) (by omega), show Int.toNat 3 = 3 from rfl, h.e', if_neg (by omega)]
  | succ m ih =>
    intro k n hk hn
    obtain ⟨n, rfl⟩ : ∃ x, n = x + 1 := ⟨n - 1, by omega⟩
    have w := ih (k + 1) n (by omega) (by omega)
    have no : ¬ (an32 (sr32 K (τ 5 (163 + k))) 1 = 1 ∧ an32 (sr32 K (τ 5 (169 + k))) 1 = 1) → ((∃ d, k ≤ d ∧ d < E ∧ an32 (sr32 K (τ 5 (163 + d))) 1 = 1 ∧ an32 (sr32 K (τ 5 (169 + d))) 1 = 1) ∧ M_isOne_L8 K n (k + 1 : Nat) τ = some (0, τ)) ∨ ((∀ d, k ≤ d → d < E → ¬ (an32 (sr32 K (τ 5 (163 + d))) 1 = 1 ∧ an32 (sr32 K (τ 5 (169 + d))) 1 = 1)) ∧ M_isOne_L8 K n (k + 1 : Nat) τ = some (1, τ)) := by
      intro e
      rcases w with ⟨⟨d', a1, a2, a3⟩, b⟩ | ⟨a, b⟩
      · exact .inl ⟨⟨d', by omega, a2, a3⟩, b⟩
      · refine .inr ⟨fun d' a1 a2 a3 => ?_, b⟩
        by_cases z : d' = k
        · subst z; exact e a3
        · exact a d' (by omega) a2 a3
    rw [M_isOne_L8, rd_k (by omega) (by omega), show Int.toNat 3 = 3 from rfl, h.e', if_pos (by omega), w32_i (x := 163 + (k : Int)) (by omega) (by omega), rd_k (by omega) (by omega), tn163, has_m, bd_s, w32_i (x := 169 + (k : Int)) (by omega) (by omega), rd_k (by omega) (by omega), tn169, has_m, bd_s]
    simp only [nm_k]
    rw [w32_i (x := (k : Int) + 1) (by omega) (by omega), suc]
    by_cases e1 : an32 (sr32 K (τ 5 (163 + k))) 1 = 1
    · rw [if_pos e1, if_neg i10]
      by_cases e2 : an32 (sr32 K (τ 5 (169 + k))) 1 = 1
      · rw [if_pos e2, if_neg i10]; exact .inl ⟨⟨k, by omega, by omega, e1, e2⟩, rfl⟩
      · rw [if_neg e2, if_pos rfl]; exact no (fun z => e2 z.2)
    · rw [if_neg e1, if_pos rfl]; exact no (fun z => e1 z.1)
theorem one_m (h : PR p σ τ W N D E) (S : Int) : M_isOne S τ = some (if sfB (τ 5) N E S then 1 else 0, τ) := by
  have bE := h.bE
  rw [M_isOne, kb_m h, bd_s]
  unfold sfB
  rcases on_l h (kbS (τ 5) S N) E 0 fu (by omega) (by unfold fu; omega) with ⟨⟨d, a1, a2, a3⟩, b⟩ | ⟨a, b⟩
  · have e := (cfB_e (τ 5) (kbS (τ 5) S N) E).mpr ⟨d, a2, a3⟩
    rw [e]; exact b
  · have e : cfB (τ 5) (kbS (τ 5) S N) E = false := by
      cases z : cfB (τ 5) (kbS (τ 5) S N) E
      · rfl
      · obtain ⟨d, z1, z2⟩ := (cfB_e _ _ _).mp z
        exact absurd z2 (a d (by omega) z1)
    rw [e]; exact b
/-- the halves of a word, as a number -/
theorem hs_n (h : PR p σ τ W N D E) (w : Nat) : ∀ k, k ≤ E → ∃ z : Nat, hsum (τ 5) w k = z ∧ z < 256 ∧ ∀ j : Nat, z.testBit j = true ↔ ∃ d, d < k ∧ ((τ 5 (163 + d) = w ∧ τ 5 (169 + d) = j) ∨ (τ 5 (169 + d) = w ∧ τ 5 (163 + d) = j))
  | 0, _ => ⟨0, rfl, by omega, fun j => ⟨fun q => by simp at q, fun ⟨d, q, _⟩ => absurd q (by omega)⟩⟩
  | k + 1, hk => by
    obtain ⟨z, h1, h2, h3⟩ := hs_n h w k (by omega)
    have bW := h.bW
    have g1 := h.h1b k (by omega)
    have g2 := h.h2b k (by omega)
    have g3 := h.h12 k (by omega)
    obtain ⟨a, ea⟩ := nat_of g1.1
    obtain ⟨b, eb⟩ := nat_of g2.1
    rw [hsum, h1, ea, eb]
    have key : ∀ q : Nat, q < 8 → (∀ j, q = j ↔ ((τ 5 (163 + k) = w ∧ τ 5 (169 + k) = j) ∨ (τ 5 (169 + k) = w ∧ τ 5 (163 + k) = j))) → ∃ z' : Nat, or32 (z : Int) (sl32 1 q) = z' ∧ z' < 256 ∧ ∀ j : Nat, z'.testBit j = true ↔ ∃ d, d < k + 1 ∧ ((τ 5 (163 + d) = w ∧ τ 5 (169 + d) = j) ∨ (τ 5 (169 + d) = w ∧ τ 5 (163 + d) = j)) := by
      intro q hq hw
      have e3 : 2 ^ q < 2 ^ 8 := Nat.pow_lt_pow_right (by omega) hq
      refine ⟨z ||| 2 ^ q, by rw [sl_1 (by omega), or_n (by omega) (by omega)], Nat.or_lt_two_pow (n := 8) h2 e3, fun j => ?_⟩
      rw [Nat.testBit_or, Bool.or_eq_true, h3, tb_2, decide_eq_true_eq, hw j]
      constructor
      · rintro (⟨d, x, y⟩ | x)
        · exact ⟨d, by omega, y⟩
        · exact ⟨k, by omega, x⟩
      · rintro ⟨d, x, y⟩
        by_cases e : d = k
        · subst e; exact .inr y
        · exact .inl ⟨d, by omega, y⟩
    by_cases c1 : (a : Int) = w
    · rw [if_pos c1]
      exact key b (by omega) (fun j => by omega)
    · rw [if_neg c1]
      by_cases c2 : (b : Int) = w
      · rw [if_pos c2]; exact key a (by omega) (fun j => by omega)
      · rw [if_neg c2, or_0 (by unfold c32; omega)]
        refine ⟨z, rfl, h2, fun j => ?_⟩
        rw [h3]
        constructor
        · rintro ⟨d, x, y⟩; exact ⟨d, by omega, y⟩
        · rintro ⟨d, x, y⟩
          by_cases e : d = k
          · subst e; omega
          · exact ⟨d, by omega, y⟩
theorem sf_l {K : Int} : ∀ (m w n : Nat), w + m = 8 → m < n →
    ((∃ d, w ≤ d ∧ d < 8 ∧ an32 (sr32 K d) 1 = 1 ∧ ¬ an32 K (σ (p + 4) d) = 0) ∧ Ro_isSafe_L40 p K n w σ = some (0, σ)) ∨ ((∀ d : Nat, w ≤ d → d < 8 → ¬ (an32 (sr32 K d) 1 = 1 ∧ ¬ an32 K (σ (p + 4) d) = 0)) ∧ Ro_isSafe_L40 p K n w σ = some (1, σ)) := by
  intro m
  induction m with
  | zero =>
    intro k n hk hn
    obtain ⟨n, rfl⟩ : ∃ x, n = x + 1 := ⟨n - 1, by omega⟩
    refine .inr ⟨fun d a b => absurd b (by omega), ?_⟩
    rw [Ro_isSafe_L40, if_neg (by omega)]
  | succ m ih =>
    intro k n hk hn
    obtain ⟨n, rfl⟩ : ∃ x, n = x + 1 := ⟨n - 1, by omega⟩
    have w := ih (k + 1) n (by omega) (by omega)
    have no : ¬ (an32 (sr32 K k) 1 = 1 ∧ ¬ an32 K (σ (p + 4) k) = 0) → ((∃ d, k ≤ d ∧ d < 8 ∧ an32 (sr32 K d) 1 = 1 ∧ ¬ an32 K (σ (p + 4) d) = 0) ∧ Ro_isSafe_L40 p K n (k + 1 : Nat) σ = some (0, σ)) ∨ ((∀ d : Nat, k ≤ d → d < 8 → ¬ (an32 (sr32 K d) 1 = 1 ∧ ¬ an32 K (σ (p + 4) d) = 0)) ∧ Ro_isSafe_L40 p K n (k + 1 : Nat) σ = some (1, σ)) := by
      intro e
      rcases w with ⟨⟨d', a1, a2, a3⟩, b⟩ | ⟨a, b⟩
      · exact .inl ⟨⟨d', by omega, a2, a3⟩, b⟩
      · refine .inr ⟨fun d' a1 a2 a3 => ?_, b⟩
        by_cases z : d' = k
        · subst z; exact e a3
        · exact a d' (by omega) a2 a3
    rw [Ro_isSafe_L40, if_pos (by omega), rd_k (by omega) (by omega), Int.toNat_natCast]
    simp only [nm_k]
    rw [w32_i (x := (k : Int) + 1) (by omega) (by omega), suc]
    by_cases e1 : an32 (sr32 K k) 1 = 1
    · rw [if_pos e1]
      by_cases e2 : an32 K (σ (p + 4) k) = 0
      · rw [if_pos e2]; exact no (fun z => z.2 e2)
      · rw [if_neg e2]; exact .inl ⟨⟨k, by omega, by omega, e1, e2⟩, rfl⟩
    · rw [if_neg e1]; exact no (fun z => e1 z.1)
theorem safe_h (h : PR p σ τ W N D E) {S : Nat} (hS : S < 2 ^ N) : Ro_isSafe p S σ = some (if sfB (τ 5) N E S then 1 else 0, σ) := by
  have bN := h.bN
  have bW := h.bW
  have bE := h.bE
  have e2 : 2 ^ N ≤ 2 ^ 6 := Nat.pow_le_pow_right (by omega) (by omega)
  have e3 : 2 ^ W ≤ 2 ^ 8 := Nat.pow_le_pow_right (by omega) (by omega)
  rw [Ro_isSafe]
  have q := loopN (X := fun n k => Ro_isSafe_L4 p S (fun x6 x7 s8 => Ro_isSafe_L40 p x6 fu x7 s8) n (kbS (τ 5) S (min k N)) k σ) (W := 6) (R := Ro_isSafe_L40 p (kbS (τ 5) S N) fu 0 σ) ?_ ?_ fu (by unfold fu; omega)
  · rw [Nat.zero_min] at q
    rw [show Ro_isSafe_L4 p (S : Int) (fun x6 x7 s8 => Ro_isSafe_L40 p x6 fu x7 s8) fu 0 0 σ = _ from q]
    obtain ⟨m, k1, k2⟩ := kb_n h S N (by omega)
    unfold sfB
    have bt : ∀ j : Nat, j < 8 → (an32 (sr32 (kbS (τ 5) S N) j) 1 = 1 ↔ m.testBit j = true) := fun j hj => by
      rw [k1, hb_n (by omega) (by omega)]; split <;> simp_all
    have hi : ∀ j, m.testBit j = true → j < W := fun j q => by
      apply Classical.byContradiction; intro w
      rw [tbz k2 (by omega)] at q; cases q
    rcases sf_l (p := p) (σ := σ) (K := kbS (τ 5) S N) 8 0 fu (by omega) (by unfold fu; omega) with ⟨⟨d, a1, a2, a3, a4⟩, b⟩ | ⟨a, b⟩
    · have dW : d < W := hi d ((bt d a2).mp a3)
      obtain ⟨z, z1, z2, z3⟩ := hs_n h d E (by omega)
      rw [h.oh d dW, z1, k1, an_n (by omega) (by omega)] at a4
      have a5 : ¬ m &&& z = 0 := by omega
      obtain ⟨j, hj⟩ := Nat.exists_testBit_of_ne_zero a5
      rw [Nat.testBit_and, Bool.and_eq_true] at hj
      obtain ⟨x, x1, x2⟩ := (z3 j).mp hj.2
      have e : cfB (τ 5) (kbS (τ 5) S N) E = true := by
        refine (cfB_e _ _ _).mpr ⟨x, x1, ?_⟩
        have jW := hi j hj.1
        rcases x2 with ⟨y1, y2⟩ | ⟨y1, y2⟩
        · rw [y1, y2]; exact ⟨a3, (bt j (by omega)).mpr hj.1⟩
        · rw [y1, y2]; exact ⟨(bt j (by omega)).mpr hj.1, a3⟩
      rw [e]; exact b
    · have e : cfB (τ 5) (kbS (τ 5) S N) E = false := by
        cases z : cfB (τ 5) (kbS (τ 5) S N) E
        · rfl
        · obtain ⟨x, x1, x2, x3⟩ := (cfB_e _ _ _).mp z
          exfalso
          have g1 := h.h1b x x1
          have g2 := h.h2b x x1
          obtain ⟨u, eu⟩ := nat_of g1.1
          obtain ⟨v, ev⟩ := nat_of g2.1
          rw [eu] at x2
          rw [ev] at x3
          obtain ⟨y, y1, y2, y3⟩ := hs_n h u E (by omega)
          refine a u (by omega) (by omega) ⟨x2, fun w => ?_⟩
          rw [h.oh u (by omega), y1, k1, an_n (by omega) (by omega)] at w
          have w : m &&& y = 0 := by omega
          have w2 := congrArg (fun x => x.testBit v) w
          simp only [Nat.testBit_and, Nat.zero_testBit] at w2
          rw [(bt v (by omega)).mp x3, (y3 v).mpr ⟨x, x1, .inl ⟨eu, ev⟩⟩] at w2
          cases w2
      rw [e]; exact b
  · intro k n hk
    show Ro_isSafe_L4 p S _ (n + 1) (kbS (τ 5) S (min k N)) k σ = _
    rw [Ro_isSafe_L4, if_pos (by omega), rd_k (by omega) (by omega), Int.toNat_natCast]
    simp only [nm_k]
    rw [w32_i (x := (k : Int) + 1) (by omega) (by omega), suc]
    by_cases e : k < N
    · rw [Nat.min_eq_left (show k ≤ N by omega), Nat.min_eq_left (show k + 1 ≤ N by omega), kbS, h.kp k e]
      by_cases g : an32 (sr32 (S : Int) k) 1 = 1
      · rw [if_pos g, if_pos g]
      · rw [if_neg g, if_neg g]
    · have g : ¬ an32 (sr32 (S : Int) k) 1 = 1 := by
        rw [hb_n (by omega) (by omega), tbz hS (by omega)]
        simp
      rw [Nat.min_eq_right (show N ≤ k by omega), Nat.min_eq_right (show N ≤ k + 1 by omega), if_neg g, or_0 (kbS_c _ _ _)]
  · intro n
    show Ro_isSafe_L4 p S _ (n + 1) (kbS (τ 5) S (min 6 N)) (6 : Nat) σ = _
    rw [Ro_isSafe_L4, if_neg (by omega), Nat.min_eq_right bN]
/-- more people, no safer -/
theorem kb_mono (h : PR p σ τ W N D E) {S S' : Int} (hs : ∀ q : Nat, q < N → an32 (sr32 S q) 1 = 1 → an32 (sr32 S' q) 1 = 1) : ∀ k, k ≤ N → ∃ m m' : Nat, kbS (τ 5) S k = m ∧ kbS (τ 5) S' k = m' ∧ ∀ j, m.testBit j = true → m'.testBit j = true
  | 0, _ => ⟨0, 0, rfl, rfl, fun _ q => q⟩
  | k + 1, hk => by
    obtain ⟨m, m', h1, h2, h3⟩ := kb_mono h hs k (by omega)
    obtain ⟨x, x1, x2⟩ := kb_n h S k (by omega)
    obtain ⟨y, y1, y2⟩ := kb_n h S' k (by omega)
    have e3 : 2 ^ W ≤ 2 ^ 8 := Nat.pow_le_pow_right (by omega) h.bW
    obtain rfl : x = m := by omega
    obtain rfl : y = m' := by omega
    have g := h.kpb k (by omega)
    rw [← cast_pow] at g
    obtain ⟨z, hz⟩ := nat_of g.1
    have hh := hs k (by omega)
    rw [kbS, kbS, h1, h2, hz]
    by_cases e : an32 (sr32 S k) 1 = 1
    · rw [if_pos e, if_pos (hh e), or_n (by omega) (by omega), or_n (by omega) (by omega)]
      refine ⟨_, _, rfl, rfl, fun j q => ?_⟩
      rw [Nat.testBit_or, Bool.or_eq_true] at q ⊢
      exact q.imp (h3 j) id
    · rw [if_neg e, or_0 (by unfold c32; omega)]
      by_cases e' : an32 (sr32 S' k) 1 = 1
      · rw [if_pos e', or_n (by omega) (by omega)]
        refine ⟨_, _, rfl, rfl, fun j q => ?_⟩
        rw [Nat.testBit_or, h3 j q]; rfl
      · rw [if_neg e', or_0 (by unfold c32; omega)]
        exact ⟨_, _, rfl, rfl, h3⟩
theorem sf_mono (h : PR p σ τ W N D E) {S S' : Nat} (hS : S < 64) (hS' : S' < 64) (hs : ∀ q, S.testBit q = true → S'.testBit q = true) (hf : sfB (τ 5) N E S = false) : sfB (τ 5) N E S' = false := by
  have bN := h.bN
  have bW := h.bW
  have bt : ∀ (x : Nat), x < 64 → ∀ j : Nat, j < 8 → (an32 (sr32 (x : Int) j) 1 = 1 ↔ x.testBit j = true) := fun x hx j hj => by
    rw [hb_n (by omega) (by omega)]; split <;> simp_all
  obtain ⟨m, m', h1, h2, h3⟩ := kb_mono h (S := S) (S' := S') (fun q hq w => (bt S' hS' q (by omega)).mpr (hs q ((bt S hS q (by omega)).mp w))) N (by omega)
  obtain ⟨x, x1, x2⟩ := kb_n h S N (by omega)
  obtain ⟨y, y1, y2⟩ := kb_n h S' N (by omega)
  have e3 : 2 ^ W ≤ 2 ^ 8 := Nat.pow_le_pow_right (by omega) bW
  unfold sfB at hf ⊢
  simp only [Bool.not_eq_false'] at hf ⊢
  obtain ⟨d, d1, d2, d3⟩ := (cfB_e _ _ _).mp hf
  refine (cfB_e _ _ _).mpr ⟨d, d1, ?_⟩
  have g1 := h.h1b d d1
  have g2 := h.h2b d d1
  obtain ⟨u, eu⟩ := nat_of g1.1
  obtain ⟨v, ev⟩ := nat_of g2.1
  rw [eu] at d2 ⊢
  rw [ev] at d3 ⊢
  rw [h1, hb_n (by omega) (by omega)] at d2 d3
  rw [h2, hb_n (by omega) (by omega), hb_n (by omega) (by omega)]
  have f : ∀ (z : Nat) (j : Nat), (if z.testBit j = true then (1 : Int) else 0) = 1 → z.testBit j = true := fun z j q => by
    cases w : z.testBit j
    · rw [w] at q; simp at q
    · rfl
  exact ⟨by rw [if_pos (h3 u (f m u d2))], by rw [if_pos (h3 v (f m v d3))]⟩
end
section
variable {σ τ : Sg} {W N D E : Nat}
theorem great_l (h : RR σ τ W N D E) (hz : τ 0 0 = 0) : ∀ (m s n n' b : Nat), s + m = 2 ^ N → m < n → m < n' → b < 2 ^ N →
    ∃ r : Nat, Ro_greatestRound_L4 8 n b s σ = some ((r : Int), σ) ∧ M_oneRound_L14 n' b s τ = some ((r : Int), τ) := by
  intro m
  have hp := h.pr
  have bN := hp.bN
  have e2 : 2 ^ N ≤ 2 ^ 6 := Nat.pow_le_pow_right (by omega) (by omega)
  induction m with
  | zero =>
    intro s n n' b hs hn hn' hb
    obtain ⟨n, rfl⟩ : ∃ x, n = x + 1 := ⟨n - 1, by omega⟩
    obtain ⟨n', rfl⟩ : ∃ x, n' = x + 1 := ⟨n' - 1, by omega⟩
    refine ⟨b, ?_, ?_⟩
    · rw [Ro_greatestRound_L4, hp.n, sl_1 (by omega)]
      by_cases e : (s : Int) < 64
      · rw [if_pos e, if_neg (by omega)]
      · rw [if_neg e]
    · rw [M_oneRound_L14, rd_k (by omega) (by omega), show Int.toNat 1 = 1 from rfl, hp.n', sl_1 (by omega), if_neg (by omega)]
  | succ m ih =>
    intro s n n' b hs hn hn' hb
    obtain ⟨n, rfl⟩ : ∃ x, n = x + 1 := ⟨n - 1, by omega⟩
    obtain ⟨n', rfl⟩ : ∃ x, n' = x + 1 := ⟨n' - 1, by omega⟩
    rw [Ro_greatestRound_L4, hp.n, sl_1 (by omega), if_pos (by omega), if_pos (by omega), bc_n (by omega) (by omega), bd_s, bc_n (by omega) (by omega), bd_s, M_oneRound_L14, rd_k (by omega) (by omega), show Int.toNat 1 = 1 from rfl, hp.n', sl_1 (by omega), if_pos (show (s : Int) < ((2 ^ N : Nat) : Int) by omega), sz_m, bd_s, sz_m, bd_s, safe_h hp (S := s) (by omega), bd_s, one_m hp, bd_s]
    simp only [nm_k]
    rw [w32_i (x := (s : Int) + 1) (by omega) (by omega), suc]
    by_cases e : szS b 8 < szS s 8
    · rw [if_pos e, if_pos e]
      cases g : sfB (τ 5) N E s
      · rw [if_neg ff_t, if_pos rfl, if_pos rfl]; exact ih (s + 1) n n' b (by omega) (by omega) (by omega) hb
      · rw [if_pos rfl, if_neg i10, if_neg i10]; exact ih (s + 1) n n' s (by omega) (by omega) (by omega) (by omega)
    · rw [if_neg e, if_neg e]; exact ih (s + 1) n n' b (by omega) (by omega) (by omega) hb
theorem k_oneRound (h : RR σ τ W N D E) : Ag (H_oneRound σ) (M_oneRound τ) := by
  rw [M_oneRound]; refine ag_go h (fun τ h hz => ?_)
  have bN := h.pr.bN
  have e2 : 2 ^ N ≤ 2 ^ 6 := Nat.pow_le_pow_right (by omega) (by omega)
  have e3 : 0 < 2 ^ N := Nat.pow_pos (by omega)
  obtain ⟨r, a1, a2⟩ := great_l h hz (2 ^ N - 1) 1 fu fu 0 (by omega) (by unfold fu; omega) (by unfold fu; omega) (by omega)
  rw [H_oneRound, Ro_greatestRound, show Ro_greatestRound_L4 8 fu 0 1 σ = _ from a1, bd_s, show M_oneRound_L14 fu 0 1 τ = _ from a2]
  exact ag_give h hz _
end
