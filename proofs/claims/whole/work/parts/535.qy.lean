/-! plaits: both sides count the same -/
theorem bt_0 {x k : Nat} : x &&& 2 ^ k = 0 ↔ x.testBit k = false := by
  constructor
  · intro h
    have := congrArg (fun y => y.testBit k) h
    simpa [Nat.testBit_and] using this
  · intro h
    apply Nat.eq_of_testBit_eq
    intro i
    rw [Nat.testBit_and, Nat.testBit_two_pow]
    by_cases e : k = i
    · subst e; simp [h]
    · simp [e]
section
variable {σ τ σ' τ' : Sg} {W N D E : Nat}
theorem rS_z {A : Nat → Nat} {P : Nat} : ∀ s t, ¬ t &&& P = t → rS (cfK A P) s t = 0
  | 0, t, h => by
    show (if t = 0 then 1 else 0) = 0
    rw [if_neg (fun z => h (by rw [z]; exact Nat.zero_and P))]
  | s + 1, t, h => by
    show stK (cfK A P) (rS (cfK A P) s) s 8 t = 0
    have key : ∀ k, stK (cfK A P) (rS (cfK A P) s) s k t = 0 := by
      intro k
      induction k with
      | zero => exact rS_z s t h
      | succ k ih =>
        rw [stK]
        by_cases e : cfK A P s k = true
        · rw [if_pos e]; show (if t = s ||| 2 ^ k then _ else _) = 0
          by_cases z : t = s ||| 2 ^ k
          · rw [if_pos z, ih, rS_z s s (fun w => h (by rw [z]; exact (sub_or (cf_n A e).2).mpr w))]
          · rw [if_neg z]; exact ih
        · rw [if_neg e]; exact ih
    exact key 8
theorem st_0 {c : Nat → Nat → Bool} {r : Nat → Nat} {s : Nat} (h : r s = 0) : ∀ k, stK c r s k = r
  | 0 => rfl
  | k + 1 => by
    rw [stK, st_0 h k]
    by_cases e : c s k = true
    · rw [if_pos e]; funext t
      by_cases z : t = s ||| 2 ^ k
      · rw [if_pos z, h]; omega
      · rw [if_neg z]
    · rw [if_neg e]
theorem st_m {c : Nat → Nat → Bool} {r : Nat → Nat} {s t : Nat} (k : Nat) : ∀ j, stK c r s k t ≤ stK c r s (k + j) t
  | 0 => Nat.le_refl _
  | j + 1 => by
    have ih := st_m (c := c) (r := r) (s := s) (t := t) k j
    rw [← Nat.add_assoc, stK]
    by_cases e : c s (k + j) = true
    · rw [if_pos e]; show _ ≤ (if t = s ||| 2 ^ (k + j) then _ else _)
      split <;> omega
    · rw [if_neg e]; exact ih
def rwO (σ : Sg) (r : Nat → Nat) : Sg := fun o x => if o = 107 ∧ x < 256 then ((r x : Nat) : Int) else σ o x
theorem rwO_v {r : Nat → Nat} {x : Nat} (h : x < 256) : rwO σ r 107 x = ((r x : Nat) : Int) := by unfold rwO; rw [if_pos ⟨rfl, h⟩]
theorem rwO_o {r : Nat → Nat} {o x : Nat} (h : o ≠ 107) : rwO σ r o x = σ o x := by unfold rwO; rw [if_neg (fun z => h z.1)]
theorem rwO_u {r : Nat → Nat} {t v : Nat} (ht : t < 256) : up_s (rwO σ r) 107 t ((r t + v : Nat) : Int) = rwO σ (fun x => if x = t then r x + v else r x) := by
  funext o x; rw [up_v]
  by_cases e : o = 107 ∧ x = t
  · rw [if_pos e, e.1, e.2, rwO_v ht, if_pos rfl]
  · rw [if_neg e]; unfold rwO
    by_cases z : o = 107 ∧ x < 256
    · rw [if_pos z, if_pos z]; show _ = ((if x = t then r x + v else r x : Nat) : Int); rw [if_neg (fun w => e ⟨z.1, w⟩)]
    · rw [if_neg z, if_neg z]
/-- whether a word can be laid on a set -/
theorem cf_h {A : Nat → Nat} {P s k : Nat} (hP : P < 256) (hs : s < 256) (hk : k < 8) (hA : A k < 256) (hAP : ∀ j, (A k).testBit j = true → P.testBit j = true) (e : σ 106 k = ((A k : Nat) : Int)) : Pl_canFollow P s k σ = some (if cfK A P s k then 1 else 0, σ) := by
  have w1 := wo_256 (y := s) hP
  have w2 := wo_256 (y := s) hA
  have h3 : 2 ^ k < 2 ^ 8 := Nat.pow_lt_pow_right (by omega) hk
  rw [Pl_canFollow, wo_n (by omega) (by omega), sl_1 (by omega), an_n (by omega) (by omega), rd_k (by omega) (by omega), Int.toNat_natCast, e, wo_n (by omega) (by omega)]
  unfold cfK nxB
  by_cases c1 : (wo P s).testBit k = true
  · have z1 : ¬ wo P s &&& 2 ^ k = 0 := fun z => by rw [bt_0, c1] at z; cases z
    rw [if_neg (by omega), c1, Bool.true_and]
    have key : wo (A k) s = 0 ↔ A k &&& wo P s = 0 := by
      constructor
      · intro z; apply Nat.eq_of_testBit_eq; intro j
        have := wo_b (A k) s j
        rw [z, Nat.zero_testBit] at this
        rw [Nat.testBit_and, wo_b, Nat.zero_testBit]
        cases h1 : (A k).testBit j
        · rfl
        · rw [h1] at this; simp at this; rw [this]; simp
      · intro z; apply Nat.eq_of_testBit_eq; intro j
        have := congrArg (fun x => x.testBit j) z
        simp only [Nat.testBit_and, wo_b, Nat.zero_testBit] at this
        rw [wo_b, Nat.zero_testBit]
        cases h1 : (A k).testBit j
        · rfl
        · rw [h1, hAP j h1] at this; simp at this; rw [this]; rfl
    by_cases c2 : A k &&& wo P s = 0
    · have := key.mpr c2
      rw [if_pos (by omega), if_pos (by rw [decide_eq_true_eq]; exact c2)]
    · have : ¬ wo (A k) s = 0 := fun z => c2 (key.mp z)
      rw [if_neg (by omega), if_neg (by rw [decide_eq_true_eq]; exact c2)]
  · have c1' : (wo P s).testBit k = false := by cases z : (wo P s).testBit k; rfl; exact absurd z c1
    have z1 : wo P s &&& 2 ^ k = 0 := bt_0.mpr c1'
    rw [if_pos (by omega), c1', Bool.false_and, if_neg ff_t]
/-- what the two know of a plait -/
def PK (σ : Sg) (A : Nat → Nat) (P : Nat) : Prop := (P < 256) ∧ (∀ k, k < 8 → A k < 256) ∧ (∀ k, k < 8 → ∀ j, (A k).testBit j = true → P.testBit j = true) ∧ (∀ k, k < 8 → σ 106 k = ((A k : Nat) : Int))
theorem PK.mk {σ : Sg} {A : Nat → Nat} {P : Nat} (hb : P < 256) (ha : ∀ k, k < 8 → A k < 256) (hs : ∀ k, k < 8 → ∀ j, (A k).testBit j = true → P.testBit j = true) (hv : ∀ k, k < 8 → σ 106 k = ((A k : Nat) : Int)) : PK σ A P := ⟨hb, ha, hs, hv⟩
theorem PK.b {σ : Sg} {A : Nat → Nat} {P : Nat} (h : PK σ A P) : P < 256 := h.1
theorem PK.a {σ : Sg} {A : Nat → Nat} {P : Nat} (h : PK σ A P) : ∀ k, k < 8 → A k < 256 := h.2.1
theorem PK.s {σ : Sg} {A : Nat → Nat} {P : Nat} (h : PK σ A P) : ∀ k, k < 8 → ∀ j, (A k).testBit j = true → P.testBit j = true := h.2.2.1
theorem PK.v {σ : Sg} {A : Nat → Nat} {P : Nat} (h : PK σ A P) : ∀ k, k < 8 → σ 106 k = ((A k : Nat) : Int) := h.2.2.2
theorem or_l {A : Nat → Nat} {P s : Nat} (q : PK σ A P) (hs : s < 256) {k31 : Int → Sg → Rs} (h0 : ¬ s < P → rS (cfK A P) s s = 0 ∨ s = P) : ∀ (m k n : Nat), k + m = 8 → m < n →
    Pl_orders_L40 P s k31 n k (rwO σ (stK (cfK A P) (rS (cfK A P) s) s k)) = k31 (s + 1 : Nat) (rwO σ (rS (cfK A P) (s + 1))) := by
  intro m
  have hc : ∀ k, cfK A P s k = true → s.testBit k = false := fun k z => (cf_n A z).1
  induction m with
  | zero =>
    intro k n hk hn
    obtain ⟨n, rfl⟩ : ∃ x, n = x + 1 := ⟨n - 1, by omega⟩
    obtain rfl : k = 8 := by omega
    rw [Pl_orders_L40, if_neg (by omega), nm_k, w32_i (by omega) (by omega), suc]; rfl
  | succ m ih =>
    intro k n hk hn
    obtain ⟨n, rfl⟩ : ∃ x, n = x + 1 := ⟨n - 1, by omega⟩
    have r0 : stK (cfK A P) (rS (cfK A P) s) s k s = rS (cfK A P) s s := st_s hc k s (Nat.le_refl s)
    rw [Pl_orders_L40, if_pos (by omega), rd_k (by omega) (by omega), Int.toNat_natCast, rwO_v hs, r0]
    by_cases z : rS (cfK A P) s s = 0
    · rw [z, if_neg (by omega), nm_k, w32_i (by omega) (by omega), suc, st_0 z]
      congr 1; show _ = rwO σ (stK (cfK A P) (rS (cfK A P) s) s 8)
      rw [st_0 z]
    · have w := ih (k + 1) n (by omega) (by omega)
      rw [stK] at w
      rw [if_pos (by omega), cf_h q.b hs (by omega) (q.a k (by omega)) (q.s k (by omega)) (by rw [rwO_o (by omega)]; exact q.v k (by omega)), bd_s]
      by_cases c : cfK A P s k = true
      · rw [if_pos c] at w
        have hsP : s < P := by
          apply Classical.byContradiction; intro y
          rcases h0 y with y | y
          · exact z y
          · subst y
            have c' := c
            unfold cfK nxB at c'
            rw [show wo s s = 0 by unfold wo; rw [Nat.and_self, Nat.xor_self], Nat.zero_testBit] at c'
            cases c'
        have o1 := or_256 hs (k := k) (by omega)
        have o2 := or_gt (hc k c)
        have sub : s &&& P = s := by
          apply Classical.byContradiction; intro y; exact z (rS_z s s y)
        have b1 : rS (cfK A P) (s + 1) (s ||| 2 ^ k) ≤ 16777216 := row_b q.b (by omega) (by omega) o1 ((sub_or (cf_n A c).2).mpr sub)
        have b2 : stK (cfK A P) (rS (cfK A P) s) s (k + 1) (s ||| 2 ^ k) ≤ rS (cfK A P) (s + 1) (s ||| 2 ^ k) := by
          have := st_m (c := cfK A P) (r := rS (cfK A P) s) (s := s) (t := s ||| 2 ^ k) (k + 1) (8 - (k + 1))
          rw [show k + 1 + (8 - (k + 1)) = 8 by omega] at this; exact this
        rw [stK, if_pos c] at b2
        have b3 : stK (cfK A P) (rS (cfK A P) s) s k (s ||| 2 ^ k) + rS (cfK A P) s s ≤ rS (cfK A P) (s + 1) (s ||| 2 ^ k) := by
          have : (if s ||| 2 ^ k = s ||| 2 ^ k then stK (cfK A P) (rS (cfK A P) s) s k (s ||| 2 ^ k) + rS (cfK A P) s s else stK (cfK A P) (rS (cfK A P) s) s k (s ||| 2 ^ k)) ≤ rS (cfK A P) (s + 1) (s ||| 2 ^ k) := b2
          rw [if_pos rfl] at this; exact this
        have h3 : 2 ^ k < 2 ^ 8 := Nat.pow_lt_pow_right (by omega) (by omega)
        rw [if_pos c, if_neg i10, sl_1 (by omega), or_n (by omega) (by omega), rd_k (by omega) (by omega), rd_k (by omega) (by omega), wr_k (by omega) (by omega), Int.toNat_natCast, rwO_v o1, rwO_v hs, r0, ← Int.natCast_add, w32_i (x := ((stK (cfK A P) (rS (cfK A P) s) s k (s ||| 2 ^ k) + rS (cfK A P) s s : Nat) : Int)) (by omega) (by omega), rwO_u o1, nm_k, w32_i (by omega) (by omega), suc]
        exact w
      · rw [if_neg c] at w
        rw [if_neg c, if_pos rfl, nm_k, w32_i (by omega) (by omega), suc]; exact w
theorem or_h {A : Nat → Nat} {P : Nat} (q : PK σ A P) : Pl_orders P σ = some (((fN A P : Nat) : Int), rwO σ (rS (cfK A P) 256)) := by
  have hP := q.b
  rw [Pl_orders]
  have e1 : Pl_orders_L2 P (fun x4 s5 => Pl_orders_L31 P (fun s18 => Pl_orders_J96 P s18) fu x4 s5) fu 0 σ = Pl_orders_L31 P (fun s18 => Pl_orders_J96 P s18) fu 0 (rwO σ (rS (cfK A P) 0)) := by
    have w := loopN (X := fun n k => Pl_orders_L2 P (fun x4 s5 => Pl_orders_L31 P (fun s18 => Pl_orders_J96 P s18) fu x4 s5) n k (fz σ 107 0 k)) (W := 256) (R := Pl_orders_L31 P (fun s18 => Pl_orders_J96 P s18) fu 0 (rwO σ (rS (cfK A P) 0))) ?_ ?_ fu (by unfold fu; omega)
    · rw [fz_0] at w; exact w
    · intro k n hk
      show Pl_orders_L2 P _ (n + 1) k _ = _
      have e := fz_s σ 107 0 k
      rw [Nat.zero_add] at e
      rw [Pl_orders_L2, if_pos (by omega), wr_k (by omega) (by omega), Int.toNat_natCast, nm_k, e, w32_i (by omega) (by omega), suc]
    · intro n
      show Pl_orders_L2 P _ (n + 1) (256 : Nat) _ = _
      rw [Pl_orders_L2, if_neg (by omega), wr_k (by omega) (by omega), show Int.toNat 0 = 0 from rfl]
      congr 1
      funext o x; rw [up_v]; unfold rwO fz
      by_cases z : o = 107 ∧ x = 0
      · rw [if_pos z, if_pos ⟨z.1, by omega⟩]
        show (1 : Int) = ((if x = 0 then 1 else 0 : Nat) : Int)
        rw [if_pos z.2]; rfl
      · rw [if_neg z]
        by_cases y : o = 107 ∧ x < 256
        · rw [if_pos ⟨y.1, by omega, by omega⟩, if_pos y]
          show (0 : Int) = ((if x = 0 then 1 else 0 : Nat) : Int)
          rw [if_neg (fun v => z ⟨y.1, v⟩)]; rfl
        · rw [if_neg (fun v => y ⟨v.1, by omega⟩), if_neg y]
  rw [e1]
  have e2 : ∀ (m s n : Nat), s + m = 256 → m < n → Pl_orders_L31 P (fun s18 => Pl_orders_J96 P s18) n s (rwO σ (rS (cfK A P) s)) = Pl_orders_J96 P (rwO σ (rS (cfK A P) 256)) := by
    intro m
    induction m with
    | zero =>
      intro s n hs hn
      obtain ⟨n, rfl⟩ : ∃ x, n = x + 1 := ⟨n - 1, by omega⟩
      obtain rfl : s = 256 := by omega
      rw [Pl_orders_L31, if_neg (by omega)]
    | succ m ih =>
      intro s n hs hn
      obtain ⟨n, rfl⟩ : ∃ x, n = x + 1 := ⟨n - 1, by omega⟩
      have w := or_l q (s := s) (by omega) (k31 := fun x16 s17 => Pl_orders_L31 P (fun s18 => Pl_orders_J96 P s18) n x16 s17) (fun z => by
        by_cases y : s = P
        · exact .inr y
        · exact .inl (rS_z s s (fun v => by have := Nat.and_le_right (n := s) (m := P); omega))) 8 0 fu (by omega) (by unfold fu; omega)
      rw [Pl_orders_L31, if_pos (by omega)]
      exact Eq.trans w (ih (s + 1) n (by omega) (by omega))
  have e3 : ∀ j, j ≤ 256 - P → rS (cfK A P) (P + j) P = fN A P := by
    intro j
    induction j with
    | zero => intro _; exact ord_e hP
    | succ j ih =>
      intro hj
      have := st_s (c := cfK A P) (r := rS (cfK A P) (P + j)) (s := P + j) (fun k z => (cf_n A z).1) 8 P (by omega)
      rw [← ih (by omega)]; exact this
  rw [show Pl_orders_L31 (P : Int) (fun s18 => Pl_orders_J96 P s18) fu 0 (rwO σ (rS (cfK A P) 0)) = _ from e2 256 0 fu (by omega) (by unfold fu; omega), Pl_orders_J96, if_neg (by omega), if_pos (by omega), rd_k (by omega) (by omega), Int.toNat_natCast, rwO_v hP]
  have := e3 (256 - P) (by omega)
  rw [show P + (256 - P) = 256 by omega] at this
  rw [this]
/-- the reference: whether a word may come next -/
theorem nx_m {A : Nat → Nat} {P left k t m n : Nat} (ht : t < 4) (hm : m ≤ 60) (hn : 2 * n ≤ m) (h20 : n ≤ 20) (bW : W ≤ 8) (hP : P < 256) (hl : left &&& P = left) (hk : left.testBit k = true) (hk8 : k < 8) (hg : GD (fun x => τ 3 (60 * t + x)) W (2 * n)) (hA : ∀ w, A w = ahS (fun x => τ 3 (60 * t + x)) P n w) :
    M_isNext k left t n τ = some (if nxB A left k then 1 else 0, τ) := by
  have sub : ∀ j, left.testBit j = true → P.testBit j = true := fun j q => by
    have := congrArg (fun x => x.testBit j) hl
    simp only [Nat.testBit_and] at this
    rw [q] at this; simpa using this
  have l256 : left < 256 := Nat.lt_of_le_of_lt (by rw [← hl]; exact Nat.and_le_right) hP
  have key : ∀ (j i f : Nat), i + j = n → j < f → ((∀ x, i ≤ x → x < n → ¬ (τ 3 (60 * t + (2 * x + 1)) = k ∧ left.testBit (τ 3 (60 * t + 2 * x)).toNat = true)) ∧ M_isNext_L3 k left t n f i τ = some (1, τ)) ∨ ((∃ x, i ≤ x ∧ x < n ∧ τ 3 (60 * t + (2 * x + 1)) = k ∧ left.testBit (τ 3 (60 * t + 2 * x)).toNat = true) ∧ M_isNext_L3 k left t n f i τ = some (0, τ)) := by
    intro j
    induction j with
    | zero =>
      intro i f hi hf
      obtain ⟨f, rfl⟩ : ∃ x, f = x + 1 := ⟨f - 1, by omega⟩
      refine .inl ⟨fun x a b => absurd b (by omega), ?_⟩
      rw [M_isNext_L3, if_neg (by omega)]
    | succ j ih =>
      intro i f hi hf
      obtain ⟨f, rfl⟩ : ∃ x, f = x + 1 := ⟨f - 1, by omega⟩
      have w := ih (i + 1) f (by omega) (by omega)
      have g := hg (2 * i) (by omega)
      have no : ¬ (τ 3 (60 * t + (2 * i + 1)) = k ∧ left.testBit (τ 3 (60 * t + 2 * i)).toNat = true) → ((∀ x, i ≤ x → x < n → ¬ (τ 3 (60 * t + (2 * x + 1)) = k ∧ left.testBit (τ 3 (60 * t + 2 * x)).toNat = true)) ∧ M_isNext_L3 k left t n f (i + 1 : Nat) τ = some (1, τ)) ∨ ((∃ x, i ≤ x ∧ x < n ∧ τ 3 (60 * t + (2 * x + 1)) = k ∧ left.testBit (τ 3 (60 * t + 2 * x)).toNat = true) ∧ M_isNext_L3 k left t n f (i + 1 : Nat) τ = some (0, τ)) := by
        intro e
        rcases w with ⟨a, b⟩ | ⟨⟨x, a1, a2, a3⟩, b⟩
        · refine .inl ⟨fun x x1 x2 => ?_, b⟩
          by_cases z : x = i
          · subst z; exact e
          · exact a x (by omega) x2
        · exact .inr ⟨⟨x, by omega, a2, a3⟩, b⟩
      obtain ⟨a, ea⟩ := nat_of (x := τ 3 (60 * t + 2 * i)) g.1
      have g2 : τ 3 (60 * t + 2 * i) < W := g.2
      rw [M_isNext_L3, if_pos (by omega), w32_i (x := 2 * (i : Int)) (by omega) (by omega), show 2 * (i : Int) = ((2 * i : Nat) : Int) by omega, w32_i (x := ((2 * i : Nat) : Int) + 1) (by omega) (by omega), suc, no_m ht hm (by omega), bd_s, no_m ht hm (by omega), bd_s, ea, w32_i (x := (a : Int)) (by omega) (by omega), has_m, bd_s, hb_n (by omega) (by omega)]
      simp only [nm_k]
      rw [w32_i (x := (i : Int) + 1) (by omega) (by omega), suc]
      rw [ea, Int.toNat_natCast] at no
      by_cases c1 : τ 3 (60 * t + (2 * i + 1)) = k
      · rw [if_pos c1]
        cases c2 : left.testBit a
        · rw [if_neg ff_t, if_neg (show ¬ (0 : Int) = 1 by omega), if_pos rfl]; exact no (fun z => by rw [c2] at z; exact ff_t z.2)
        · rw [if_pos rfl, if_pos rfl, if_neg i10]; exact .inr ⟨⟨i, by omega, by omega, c1, by rw [ea, Int.toNat_natCast]; exact c2⟩, rfl⟩
      · rw [if_neg c1]; exact no (fun z => c1 z.1)
  rw [M_isNext]
  have hB := (ahS_b (fun x => τ 3 (60 * t + x)) (n := 0) hP n k).2
  unfold nxB
  rw [hk, Bool.true_and]
  rcases key n 0 fu (by omega) (by unfold fu; omega) with ⟨a, b⟩ | ⟨⟨x, a1, a2, a3, a4⟩, b⟩
  · have z : A k &&& left = 0 := by
      apply Nat.eq_of_testBit_eq; intro j
      rw [Nat.testBit_and, Nat.zero_testBit]
      cases h1 : left.testBit j
      · rw [Bool.and_false]
      · cases h2 : (A k).testBit j
        · rfl
        · rw [hA] at h2
          obtain ⟨x, x1, x2, x3, x4⟩ := (hB j).mp h2
          exact absurd ⟨x2, by rw [x3]; exact h1⟩ (a x (by omega) x1)
    rw [if_pos (by rw [decide_eq_true_eq]; exact z)]; exact b
  · have z : ¬ A k &&& left = 0 := by
      intro z
      have := congrArg (fun y => y.testBit (τ 3 (60 * t + 2 * x)).toNat) z
      simp only [Nat.testBit_and, Nat.zero_testBit] at this
      rw [a4, hA, (hB _).mpr ⟨x, a2, a3, rfl, sub _ a4, sub k hk⟩] at this
      cases this
    rw [if_neg (by rw [decide_eq_true_eq]; exact z)]; exact b
end
