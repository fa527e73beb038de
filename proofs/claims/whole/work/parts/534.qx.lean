/-! plaits: in how many orders -/
/-- word k may come next when left are left -/
def nxB (A : Nat → Nat) (left k : Nat) : Bool := left.testBit k && decide (A k &&& left = 0)
def sm (g : Nat → Nat) : Nat → Nat
  | 0 => 0
  | k + 1 => sm g k + g k
theorem sm_c {g g' : Nat → Nat} : ∀ {n : Nat}, (∀ k, k < n → g k = g' k) → sm g n = sm g' n
  | 0, _ => rfl
  | n + 1, h => by rw [sm, sm, sm_c (fun k hk => h k (by omega)), h n (by omega)]
theorem sm_le {g : Nat → Nat} {b : Nat} : ∀ {n : Nat}, (∀ k, k < n → g k ≤ b) → sm g n ≤ n * b
  | 0, _ => by rw [sm]; omega
  | n + 1, h => by
    have h1 := sm_le (g := g) (b := b) (n := n) (fun k hk => h k (by omega))
    have h2 := h n (by omega)
    rw [sm, Nat.succ_mul]; omega
theorem sm_0 {g : Nat → Nat} : ∀ {n : Nat}, (∀ k, k < n → g k = 0) → sm g n = 0
  | 0, _ => rfl
  | n + 1, h => by rw [sm, sm_0 (fun k hk => h k (by omega)), h n (by omega)]
theorem sm_ge {g : Nat → Nat} : ∀ {n k : Nat}, k < n → g k ≤ sm g n
  | 0, k, h => absurd h (by omega)
  | n + 1, k, h => by
    rw [sm]
    by_cases e : k = n
    · subst e; omega
    · have := sm_ge (g := g) (n := n) (k := k) (by omega); omega
/-- f words are left at most -/
def fS (A : Nat → Nat) : Nat → Nat → Nat
  | 0, left => if left = 0 then 1 else 0
  | f + 1, left => if left = 0 then 1 else sm (fun k => if nxB A left k = true then fS A f (wo left (2 ^ k)) else 0) 8
def pcN (x : Nat) : Nat := (szS (x : Int) 8).toNat
theorem pc_all : ∀ (x : Fin 256) (k : Fin 8), x.1.testBit k.1 = true → szS ((wo x.1 (2 ^ k.1) : Nat) : Int) 8 + 1 = szS ((x.1 : Nat) : Int) 8 := by decide +kernel
theorem pc_s {x k : Nat} (hx : x < 256) (hk : k < 8) (h : x.testBit k = true) : pcN (wo x (2 ^ k)) + 1 = pcN x := by
  have := pc_all ⟨x, hx⟩ ⟨k, hk⟩ h
  simp only at this
  have h1 := szS_g ((wo x (2 ^ k) : Nat) : Int) 8
  unfold pcN; omega
theorem pc_0 {x : Nat} (hx : x < 256) (h : pcN x = 0) : x = 0 := by
  apply Classical.byContradiction
  intro e
  obtain ⟨k, hk⟩ := Nat.exists_testBit_of_ne_zero e
  have h8 : k < 8 := by
    apply Classical.byContradiction; intro z
    rw [tbz (n := 8) hx (by omega)] at hk; cases hk
  have := pc_s hx h8 hk
  omega
theorem pc_8 {x : Nat} : pcN x ≤ 8 := by unfold pcN; have := szS_g (x : Int) 8; omega
theorem wo_256 {x y : Nat} (h : x < 256) : wo x y < 256 := Nat.lt_of_le_of_lt (wo_le x y) h
/-- more room is no matter -/
theorem fS_f (A : Nat → Nat) : ∀ (n x f f' : Nat), pcN x ≤ n → x < 256 → n ≤ f → n ≤ f' → fS A f x = fS A f' x := by
  intro n
  induction n with
  | zero =>
    intro x f f' h1 h2 h3 h4
    have := pc_0 h2 (by omega)
    subst this
    cases f <;> cases f' <;> simp [fS]
  | succ n ih =>
    intro x f f' h1 h2 h3 h4
    obtain ⟨f, rfl⟩ : ∃ y, f = y + 1 := ⟨f - 1, by omega⟩
    obtain ⟨f', rfl⟩ : ∃ y, f' = y + 1 := ⟨f' - 1, by omega⟩
    rw [fS, fS]
    by_cases e : x = 0
    · rw [if_pos e, if_pos e]
    · rw [if_neg e, if_neg e]
      apply sm_c
      intro k hk
      by_cases c : nxB A x k = true
      · rw [if_pos c, if_pos c]
        have hb : x.testBit k = true := by unfold nxB at c; rw [Bool.and_eq_true] at c; exact c.1
        have := pc_s h2 hk hb
        exact ih _ f f' (by omega) (wo_256 h2) (by omega) (by omega)
      · rw [if_neg c, if_neg c]
def fN (A : Nat → Nat) (x : Nat) : Nat := fS A 8 x
theorem fN_0 (A : Nat → Nat) : fN A 0 = 1 := by unfold fN; rw [fS, if_pos rfl]
theorem fN_s (A : Nat → Nat) {x : Nat} (hx : x < 256) (h0 : x ≠ 0) : fN A x = sm (fun k => if nxB A x k = true then fN A (wo x (2 ^ k)) else 0) 8 := by
  unfold fN
  rw [fS_f A 8 x 8 9 pc_8 hx (by omega) (by omega), fS, if_neg h0]
theorem fN_b (A : Nat → Nat) : ∀ (n x : Nat), pcN x ≤ n → x < 256 → fN A x ≤ 8 ^ n := by
  intro n
  induction n with
  | zero =>
    intro x h1 h2
    have := pc_0 h2 (by omega)
    subst this
    rw [fN_0]; exact Nat.le_refl _
  | succ n ih =>
    intro x h1 h2
    by_cases e : x = 0
    · subst e; rw [fN_0]; exact Nat.pow_pos (by omega)
    · rw [fN_s A h2 e, Nat.pow_succ, Nat.mul_comm]
      apply sm_le
      intro k hk
      by_cases c : nxB A x k = true
      · have hb : x.testBit k = true := by unfold nxB at c; rw [Bool.and_eq_true] at c; exact c.1
        have := pc_s h2 hk hb
        rw [if_pos c]
        exact ih _ (by omega) (wo_256 h2)
      · rw [if_neg c]; exact Nat.zero_le _
/-- the class's row: one set handed on -/
def stK (c : Nat → Nat → Bool) (r : Nat → Nat) (s : Nat) : Nat → Nat → Nat
  | 0 => r
  | k + 1 => if c s k = true then fun t => if t = s ||| 2 ^ k then stK c r s k t + r s else stK c r s k t else stK c r s k
def wsum (G r : Nat → Nat) (a n : Nat) : Nat := sm (fun x => G (a + x) * r (a + x)) n
theorem ws_s (G r : Nat → Nat) (a n : Nat) : wsum G r a (n + 1) = G a * r a + wsum G r (a + 1) n := by
  unfold wsum
  induction n with
  | zero => simp [sm]
  | succ n ih =>
    rw [sm, ih, sm, Nat.add_assoc, show a + (n + 1) = a + 1 + n by omega]
theorem ws_up {G r : Nat → Nat} {a n t v : Nat} (h1 : a ≤ t) (h2 : t < a + n) : wsum G (fun x => if x = t then r x + v else r x) a n = wsum G r a n + G t * v := by
  unfold wsum
  have key : ∀ m, sm (fun x => G (a + x) * (if a + x = t then r (a + x) + v else r (a + x))) m = sm (fun x => G (a + x) * r (a + x)) m + if t < a + m then G t * v else 0 := by
    intro m
    induction m with
    | zero => rw [sm, sm, if_neg (by omega)]
    | succ m ih =>
      rw [sm, sm, ih]
      by_cases e : a + m = t
      · rw [if_pos e, if_neg (by omega), if_pos (by omega), Nat.mul_add, e]; omega
      · rw [if_neg e]
        by_cases g : t < a + m
        · rw [if_pos g, if_pos (by omega)]; omega
        · rw [if_neg g, if_neg (by omega)]; omega
  rw [key n, if_pos h2]
theorem or_gt {s k : Nat} (h : s.testBit k = false) : s < s ||| 2 ^ k := by
  apply Nat.lt_of_le_of_ne Nat.left_le_or
  intro e
  have := congrArg (fun x => x.testBit k) e
  simp only [Nat.testBit_or, tb_2] at this
  rw [h] at this
  simp at this
theorem or_256 {s k : Nat} (h : s < 256) (hk : k < 8) : s ||| 2 ^ k < 256 := Nat.or_lt_two_pow (n := 8) h (Nat.pow_lt_pow_right (by omega) hk)
/-- what one set hands on, weighed -/
theorem ws_st {c : Nat → Nat → Bool} {G r : Nat → Nat} {s : Nat} (hs : s < 256) (hc : ∀ k, c s k = true → s.testBit k = false) : ∀ k, k ≤ 8 → wsum G (stK c r s k) (s + 1) (255 - s) = wsum G r (s + 1) (255 - s) + sm (fun j => if c s j = true then G (s ||| 2 ^ j) * r s else 0) k
  | 0, _ => by rw [stK, sm]; omega
  | k + 1, hk => by
    have ih := ws_st (G := G) (r := r) hs hc k (by omega)
    rw [stK, sm]
    by_cases e : c s k = true
    · have h1 := or_gt (hc k e)
      have h2 := or_256 hs (k := k) (by omega)
      rw [if_pos e, if_pos e, ws_up (by omega) (by omega), ih]; omega
    · rw [if_neg e, if_neg e, ih]; omega
theorem st_s {c : Nat → Nat → Bool} {r : Nat → Nat} {s : Nat} (hc : ∀ k, c s k = true → s.testBit k = false) : ∀ k t, t ≤ s → stK c r s k t = r t
  | 0, _, _ => rfl
  | k + 1, t, h => by
    rw [stK]
    by_cases e : c s k = true
    · have h1 := or_gt (hc k e)
      rw [if_pos e]; show (if t = s ||| 2 ^ k then _ else _) = _
      rw [if_neg (by omega)]; exact st_s hc k t h
    · rw [if_neg e]; exact st_s hc k t h
def rS (c : Nat → Nat → Bool) : Nat → Nat → Nat
  | 0 => fun t => if t = 0 then 1 else 0
  | s + 1 => stK c (rS c s) s 8
/-- which set can be laid on which -/
def cfK (A : Nat → Nat) (P s k : Nat) : Bool := nxB A (wo P s) k
theorem cf_n (A : Nat → Nat) {P s k : Nat} (h : cfK A P s k = true) : s.testBit k = false ∧ P.testBit k = true := by
  unfold cfK nxB at h
  rw [Bool.and_eq_true, wo_b, Bool.and_eq_true] at h
  have := h.1.2
  cases e : s.testBit k
  · exact ⟨rfl, h.1.1⟩
  · rw [e] at this; simp at this
/-- the weight of a set: orders of the rest -/
def Gf (F : Nat → Nat) (P t : Nat) : Nat := if t &&& P = t then F (wo P t) else 0
theorem wo_or {P s k : Nat} : wo P (s ||| 2 ^ k) = wo (wo P s) (2 ^ k) := by
  apply Nat.eq_of_testBit_eq; intro j
  rw [wo_b, wo_b, wo_b, Nat.testBit_or]
  cases P.testBit j <;> cases s.testBit j <;> cases (2 ^ k).testBit j <;> rfl
theorem sub_or {P s k : Nat} (hk : P.testBit k = true) : (s ||| 2 ^ k) &&& P = s ||| 2 ^ k ↔ s &&& P = s := by
  constructor
  · intro e
    apply Nat.eq_of_testBit_eq; intro j
    have := congrArg (fun x => x.testBit j) e
    simp only [Nat.testBit_and, Nat.testBit_or, tb_2] at this
    rw [Nat.testBit_and]
    cases h1 : s.testBit j
    · rfl
    · rw [h1] at this; simp at this; rw [this]; rfl
  · intro e
    apply Nat.eq_of_testBit_eq; intro j
    have := congrArg (fun x => x.testBit j) e
    simp only [Nat.testBit_and] at this
    rw [Nat.testBit_and, Nat.testBit_or, tb_2]
    by_cases z : k = j
    · subst z; rw [hk]; simp
    · simp only [z, decide_false, Bool.or_false]; exact this
/-- a set hands on its weight (or less) -/
theorem Gf_s {A F : Nat → Nat} {P s : Nat} (hP : P < 256) (R : Nat → Nat → Prop) (h0 : ∀ r, R (0 * r) 0) (hF : ∀ x, x < 256 → x ≠ 0 → ∀ r, R (F x * r) (sm (fun k => if nxB A x k = true then F (wo x (2 ^ k)) * r else 0) 8)) (hs : s < P) (r : Nat) :
    R (Gf F P s * r) (sm (fun k => if cfK A P s k = true then Gf F P (s ||| 2 ^ k) * r else 0) 8) := by
  by_cases e : s &&& P = s
  · have ne : wo P s ≠ 0 := by
      intro z
      have hz : ∀ j, P.testBit j = true → s.testBit j = true := fun j q => by
        have := wo_b P s j
        rw [z, Nat.zero_testBit, q] at this
        simp at this; exact this
      have : P ≤ s := by
        have e2 : P &&& s = P := by
          apply Nat.eq_of_testBit_eq; intro j
          rw [Nat.testBit_and]
          cases q : P.testBit j
          · rfl
          · rw [hz j q]; rfl
        rw [← e2]; exact Nat.and_le_right
      omega
    have q := hF (wo P s) (wo_256 hP) ne r
    have e1 : Gf F P s = F (wo P s) := by unfold Gf; rw [if_pos e]
    rw [e1]
    have e2 : sm (fun k => if cfK A P s k = true then Gf F P (s ||| 2 ^ k) * r else 0) 8 = sm (fun k => if nxB A (wo P s) k = true then F (wo (wo P s) (2 ^ k)) * r else 0) 8 := by
      apply sm_c
      intro k hk
      by_cases c : cfK A P s k = true
      · have c' : nxB A (wo P s) k = true := c
        rw [if_pos c, if_pos c']
        unfold Gf
        rw [if_pos ((sub_or (cf_n A c).2).mpr e), wo_or]
      · have c' : ¬ nxB A (wo P s) k = true := c
        rw [if_neg c, if_neg c']
    rw [e2]; exact q
  · have e1 : Gf F P s = 0 := by unfold Gf; rw [if_neg e]
    have e2 : sm (fun k => if cfK A P s k = true then Gf F P (s ||| 2 ^ k) * r else 0) 8 = 0 := by
      apply sm_0
      intro k hk
      by_cases c : cfK A P s k = true
      · rw [if_pos c]; unfold Gf
        rw [if_neg (fun z => e ((sub_or (cf_n A c).2).mp z)), Nat.zero_mul]
      · rw [if_neg c]
    rw [e1, e2]; exact h0 r
theorem sm_mul (g : Nat → Nat) (r : Nat) : ∀ n, sm (fun k => g k * r) n = sm g n * r
  | 0 => by rw [sm, sm, Nat.zero_mul]
  | n + 1 => by rw [sm, sm, sm_mul g r n, Nat.add_mul]
theorem inv_f {A : Nat → Nat} {P : Nat} (hP : P < 256) : ∀ s, s ≤ P → wsum (Gf (fN A) P) (rS (cfK A P) s) s (256 - s) = fN A P
  | 0, _ => by
    rw [show 256 - 0 = 255 + 1 from rfl, ws_s]
    have e1 : wsum (Gf (fN A) P) (rS (cfK A P) 0) (0 + 1) 255 = 0 := by
      apply sm_0
      intro k hk
      show _ * (if 0 + 1 + k = 0 then 1 else 0) = 0
      rw [if_neg (by omega), Nat.mul_zero]
    have e2 : Gf (fN A) P 0 = fN A P := by
      have w0 : wo P 0 = P := by apply Nat.eq_of_testBit_eq; intro j; rw [wo_b, Nat.zero_testBit]; simp
      unfold Gf
      rw [if_pos (Nat.zero_and P), w0]
    rw [e1, e2]
    show fN A P * (if 0 = 0 then 1 else 0) + 0 = fN A P
    rw [if_pos rfl]; omega
  | s + 1, hs => by
    have ih := inv_f (A := A) hP s (by omega)
    rw [show 256 - s = (255 - s) + 1 by omega, ws_s] at ih
    have h1 := ws_st (c := cfK A P) (G := Gf (fN A) P) (r := rS (cfK A P) s) (s := s) (by omega) (fun k q => (cf_n A q).1) 8 (by omega)
    have h2 := Gf_s (A := A) (F := fN A) hP (fun a b => a = b) (fun r => Nat.zero_mul r) (fun x hx hn r => by
      rw [fN_s A hx hn, ← sm_mul]
      apply sm_c; intro k hk
      split
      · rfl
      · exact Nat.zero_mul r) (s := s) (by omega) (rS (cfK A P) s s)
    rw [show 256 - (s + 1) = 255 - s by omega]
    show wsum _ (stK (cfK A P) (rS (cfK A P) s) s 8) (s + 1) (255 - s) = _
    rw [h1, ← h2]; omega
def G8 (x : Nat) : Nat := 8 ^ pcN x
theorem inv_b {A : Nat → Nat} {P : Nat} (hP : P < 256) : ∀ s, s ≤ P → wsum (Gf G8 P) (rS (cfK A P) s) s (256 - s) ≤ 16777216
  | 0, _ => by
    rw [show 256 - 0 = 255 + 1 from rfl, ws_s]
    have e1 : wsum (Gf G8 P) (rS (cfK A P) 0) (0 + 1) 255 = 0 := by
      apply sm_0
      intro k hk
      show _ * (if 0 + 1 + k = 0 then 1 else 0) = 0
      rw [if_neg (by omega), Nat.mul_zero]
    have e2 : Gf G8 P 0 ≤ 16777216 := by
      unfold Gf G8
      rw [if_pos (Nat.zero_and P)]
      exact Nat.le_trans (Nat.pow_le_pow_right (by omega) pc_8) (by decide)
    rw [e1]
    show Gf G8 P 0 * (if 0 = 0 then 1 else 0) + 0 ≤ _
    rw [if_pos rfl]; omega
  | s + 1, hs => by
    have ih := inv_b (A := A) hP s (by omega)
    rw [show 256 - s = (255 - s) + 1 by omega, ws_s] at ih
    have h1 := ws_st (c := cfK A P) (G := Gf G8 P) (r := rS (cfK A P) s) (s := s) (by omega) (fun k q => (cf_n A q).1) 8 (by omega)
    have h2 := Gf_s (A := A) (F := G8) hP (fun a b => b ≤ a) (fun r => by omega) (fun x hx hn r => by
      obtain ⟨k, hk⟩ := Nat.exists_testBit_of_ne_zero hn
      have h8 : k < 8 := by
        apply Classical.byContradiction; intro z
        rw [tbz (n := 8) hx (by omega)] at hk; cases hk
      have p1 := pc_s hx h8 hk
      have e3 : G8 x * r = 8 * (8 ^ (pcN x - 1) * r) := by
        unfold G8
        rw [← Nat.mul_assoc]; congr 1
        rw [Nat.mul_comm, ← Nat.pow_succ]; congr 1; omega
      rw [e3]
      apply sm_le
      intro j hj
      by_cases c : nxB A x j = true
      · have hb : x.testBit j = true := by unfold nxB at c; rw [Bool.and_eq_true] at c; exact c.1
        have p2 := pc_s hx hj hb
        rw [if_pos c]
        unfold G8
        rw [show pcN (wo x (2 ^ j)) = pcN x - 1 by omega]
        exact Nat.le_refl _
      · rw [if_neg c]; exact Nat.zero_le _) (s := s) (by omega) (rS (cfK A P) s s)
    rw [show 256 - (s + 1) = 255 - s by omega]
    show wsum _ (stK (cfK A P) (rS (cfK A P) s) s 8) (s + 1) (255 - s) ≤ _
    rw [h1]
    have h3 : sm (fun k => if cfK A P s k = true then Gf G8 P (s ||| 2 ^ k) * rS (cfK A P) s s else 0) 8 ≤ Gf G8 P s * rS (cfK A P) s s := h2
    omega
/-- the answer: the row at the whole set -/
theorem ord_e {A : Nat → Nat} {P : Nat} (hP : P < 256) : rS (cfK A P) P P = fN A P := by
  have h := inv_f (A := A) hP P (Nat.le_refl P)
  rw [show 256 - P = (255 - P) + 1 by omega, ws_s] at h
  have e1 : wsum (Gf (fN A) P) (rS (cfK A P) P) (P + 1) (255 - P) = 0 := by
    apply sm_0
    intro k hk
    have : ¬ (P + 1 + k) &&& P = P + 1 + k := fun z => by
      have := Nat.and_le_right (n := P + 1 + k) (m := P)
      omega
    show Gf (fN A) P (P + 1 + k) * _ = 0
    unfold Gf; rw [if_neg this, Nat.zero_mul]
  have e2 : Gf (fN A) P P = 1 := by
    unfold Gf
    rw [if_pos (Nat.and_self P)]
    have : wo P P = 0 := by unfold wo; rw [Nat.and_self, Nat.xor_self]
    rw [this, fN_0]
  rw [e1, e2] at h
  omega
/-- no number of the row is large -/
theorem row_b {A : Nat → Nat} {P s t : Nat} (hP : P < 256) (hs : s ≤ P) (h1 : s ≤ t) (h2 : t < 256) (h3 : t &&& P = t) : rS (cfK A P) s t ≤ 16777216 := by
  have h := inv_b (A := A) hP s hs
  unfold wsum at h
  have g := sm_ge (g := fun x => Gf G8 P (s + x) * rS (cfK A P) s (s + x)) (n := 256 - s) (k := t - s) (by omega)
  rw [show s + (t - s) = t by omega] at g
  have e1 : 1 ≤ Gf G8 P t := by unfold Gf G8; rw [if_pos h3]; exact Nat.pow_pos (by omega)
  have e2 : rS (cfK A P) s t ≤ Gf G8 P t * rS (cfK A P) s t := Nat.le_mul_of_pos_left _ (by omega)
  omega
