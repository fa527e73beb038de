/-! rounds: how few barbers -/
def foS (f : Nat → Int) (sB : Nat → Bool) (s : Nat) : Nat → Int
  | 0 => 6
  | k + 1 => if (k + 1) &&& s = k + 1 ∧ sB (k + 1) = true then min (foS f sB s k) (w32 (1 + f (wo s (k + 1)))) else foS f sB s k
def riS (g : Nat → Int) (sB : Nat → Bool) (s : Nat) : Nat → Int
  | 0 => -1
  | k + 1 => if ((k + 1) &&& s = k + 1 ∧ sB (k + 1) = true) ∧ 0 ≤ g (wo s (k + 1)) ∧ (riS g sB s k < 0 ∨ w32 (g (wo s (k + 1)) + 1) < riS g sB s k) then w32 (g (wo s (k + 1)) + 1) else riS g sB s k
theorem foS_c {f f' : Nat → Int} {sB : Nat → Bool} {s : Nat} : ∀ k, (∀ j, j < k → (j + 1) &&& s = j + 1 → f (wo s (j + 1)) = f' (wo s (j + 1))) → foS f sB s k = foS f' sB s k
  | 0, _ => rfl
  | k + 1, h => by
    rw [foS, foS, foS_c k (fun j hj => h j (by omega))]
    by_cases e : (k + 1) &&& s = k + 1
    · rw [h k (by omega) e]
    · rw [if_neg (fun q => e q.1), if_neg (fun q => e q.1)]
theorem riS_c {f f' : Nat → Int} {sB : Nat → Bool} {s : Nat} : ∀ k, (∀ j, j < k → (j + 1) &&& s = j + 1 → f (wo s (j + 1)) = f' (wo s (j + 1))) → riS f sB s k = riS f' sB s k
  | 0, _ => rfl
  | k + 1, h => by
    rw [riS, riS, riS_c k (fun j hj => h j (by omega))]
    by_cases e : (k + 1) &&& s = k + 1
    · rw [h k (by omega) e]
    · rw [if_neg (fun q => e q.1.1), if_neg (fun q => e q.1.1)]
theorem wo_lt {s q : Nat} (hq : q ≠ 0) (h : q &&& s = q) : wo s q < s := by
  have h1 := wo_le s q
  apply Nat.lt_of_le_of_ne h1
  intro e
  obtain ⟨j, hj⟩ := Nat.exists_testBit_of_ne_zero hq
  have h2 := congrArg (fun x => x.testBit j) h
  simp only [Nat.testBit_and] at h2
  have h3 := wo_b s q j
  rw [e, hj] at h3
  rw [hj] at h2
  simp at h2 h3
  rw [h2] at h3
  simp at h3
/-- the two agree where all is safe one by one -/
theorem ri_fo {f g : Nat → Int} {sB : Nat → Bool} {s : Nat} (hs : s < 64) (h : ∀ x, x < s → x &&& s = x → f x = g x ∧ 0 ≤ g x ∧ g x ≤ 5) :
    ∀ k, k ≤ s → (-1 ≤ riS g sB s k ∧ riS g sB s k ≤ 6) ∧ foS f sB s k = if riS g sB s k < 0 then 6 else riS g sB s k
  | 0, _ => ⟨by simp [riS], by simp [riS, foS]⟩
  | k + 1, hk => by
    obtain ⟨⟨a1, a2⟩, b⟩ := ri_fo hs h k (by omega)
    rw [riS, foS, b]
    by_cases e : (k + 1) &&& s = k + 1 ∧ sB (k + 1) = true
    · have w1 := wo_lt (s := s) (q := k + 1) (by omega) e.1
      have w2 : wo s (k + 1) &&& s = wo s (k + 1) := by
        apply Nat.eq_of_testBit_eq; intro j; rw [Nat.testBit_and, wo_b]; cases s.testBit j <;> simp
      obtain ⟨c1, c2, c3⟩ := h _ w1 w2
      rw [c1, w32_i (x := g (wo s (k + 1)) + 1) (by omega) (by omega), w32_i (x := 1 + g (wo s (k + 1))) (by omega) (by omega), if_pos e]
      by_cases q : riS g sB s k < 0 ∨ g (wo s (k + 1)) + 1 < riS g sB s k
      · rw [if_pos ⟨e, c2, q⟩]
        refine ⟨by omega, ?_⟩
        rw [if_neg (show ¬ g (wo s (k + 1)) + 1 < 0 by omega)]
        split <;> omega
      · rw [if_neg (fun z => q z.2.2)]
        refine ⟨⟨a1, a2⟩, ?_⟩
        rw [if_neg (show ¬ riS g sB s k < 0 by omega)]; omega
    · rw [if_neg e, if_neg (fun z => e z.1)]
      exact ⟨⟨a1, a2⟩, rfl⟩
/-- a safe part makes the number at most that of the rest and one -/
theorem ri_le {g : Nat → Int} {sB : Nat → Bool} {s q : Nat} (hq : q ≠ 0) (h1 : q &&& s = q) (h2 : sB q = true) (h3 : 0 ≤ g (wo s q) ∧ g (wo s q) ≤ 5) : ∀ k, q ≤ k → (∀ j, j < k → (j + 1) &&& s = j + 1 → -1 ≤ g (wo s (j + 1)) ∧ g (wo s (j + 1)) ≤ 5) → 0 ≤ riS g sB s k ∧ riS g sB s k ≤ g (wo s q) + 1
  | 0, h, _ => absurd h (by omega)
  | k + 1, h, hb => by
    rw [riS]
    by_cases e : q = k + 1
    · subst e
      rw [w32_i (x := g (wo s (k + 1)) + 1) (by omega) (by omega)]
      by_cases z : riS g sB s k < 0 ∨ g (wo s (k + 1)) + 1 < riS g sB s k
      · rw [if_pos ⟨⟨h1, h2⟩, h3.1, z⟩]; omega
      · rw [if_neg (fun w => z w.2.2)]; omega
    · have w := ri_le hq h1 h2 h3 k (by omega) (fun j hj => hb j (by omega))
      by_cases z : ((k + 1) &&& s = k + 1 ∧ sB (k + 1) = true) ∧ 0 ≤ g (wo s (k + 1)) ∧ (riS g sB s k < 0 ∨ w32 (g (wo s (k + 1)) + 1) < riS g sB s k)
      · have y := hb k (by omega) z.1.1
        have x := z.2.2
        rw [w32_i (x := g (wo s (k + 1)) + 1) (by omega) (by omega)] at x
        rw [if_pos z, w32_i (x := g (wo s (k + 1)) + 1) (by omega) (by omega)]; omega
      · rw [if_neg z]; exact w
/-- no safe part leaves what can be done -/
theorem ri_no {g : Nat → Int} {sB : Nat → Bool} {s : Nat} : ∀ k, (∀ j, j < k → (j + 1) &&& s = j + 1 → sB (j + 1) = true → g (wo s (j + 1)) < 0) → riS g sB s k = -1
  | 0, _ => rfl
  | k + 1, h => by
    rw [riS, if_neg (fun z => by have := h k (by omega) z.1.1 z.1.2; omega)]
    exact ri_no k (fun j hj => h j (by omega))
/-- the reference's row, and the class's -/
def gR (sB : Nat → Bool) (g0 : Nat → Int) : Nat → Nat → Int
  | 0 => fun x => if x = 0 then 0 else g0 x
  | k + 1 => fun x => if x = k + 1 then riS (gR sB g0 k) sB (k + 1) (k + 1) else gR sB g0 k x
def fR (sB : Nat → Bool) (P : Nat) (f0 : Nat → Int) : Nat → Nat → Int
  | 0 => fun x => if x = 0 then 0 else f0 x
  | k + 1 => fun x => if x = k + 1 ∧ (k + 1) &&& P = k + 1 then foS (fR sB P f0 k) sB (k + 1) (k + 1) else fR sB P f0 k x
theorem sub_tr {a b c : Nat} (h1 : a &&& b = a) (h2 : b &&& c = b) : a &&& c = a := by
  rw [← h1, Nat.and_assoc, h2]
theorem sz_sub {a b : Nat} (ha : a < 64) (hb : b < 64) (h : a &&& b = a) (hn : a ≠ b) : szS a 8 < szS b 8 :=
  sz_lt ha hb (fun j q => by
    have := congrArg (fun x => x.testBit j) h
    simp only [Nat.testBit_and] at this
    rw [q] at this
    simpa using this) hn
theorem sg_n {s : Nat} (hs : s < 64) (h0 : s ≠ 0) : ∃ i, i < 6 ∧ 2 ^ i &&& s = 2 ^ i ∧ s.testBit i = true := by
  obtain ⟨i, hi⟩ := Nat.exists_testBit_of_ne_zero h0
  have h6 : i < 6 := by
    apply Classical.byContradiction; intro w
    rw [tbz (n := 6) hs (by omega)] at hi; cases hi
  refine ⟨i, h6, ?_, hi⟩
  apply Nat.eq_of_testBit_eq
  intro j
  rw [Nat.testBit_and, tb_2]
  by_cases e : i = j
  · subst e; simp [hi]
  · simp [e]
theorem gR_o {sB : Nat → Bool} {g0 : Nat → Int} : ∀ (k x : Nat), x ≤ k → gR sB g0 k x = gR sB g0 x x
  | 0, x, h => by
    obtain rfl : x = 0 := by omega
    rfl
  | k + 1, x, h => by
    by_cases e : x = k + 1
    · rw [e]
    · rw [gR]; show (if x = k + 1 then _ else gR sB g0 k x) = _
      rw [if_neg e]; exact gR_o k x (by omega)
theorem fR_o {sB : Nat → Bool} {P : Nat} {f0 : Nat → Int} : ∀ (k x : Nat), x ≤ k → fR sB P f0 k x = fR sB P f0 x x
  | 0, x, h => by
    obtain rfl : x = 0 := by omega
    rfl
  | k + 1, x, h => by
    by_cases e : x = k + 1
    · rw [e]
    · rw [fR]; show (if x = k + 1 ∧ _ then _ else fR sB P f0 k x) = _
      rw [if_neg (fun q => e q.1)]; exact fR_o k x (by omega)
theorem row_ok {sB : Nat → Bool} {P : Nat} {f0 g0 : Nat → Int} (hP : P < 64) (h1 : ∀ i, i < 6 → P.testBit i = true → sB (2 ^ i) = true) :
    ∀ s, s ≤ P → s &&& P = s → fR sB P f0 s s = gR sB g0 s s ∧ 0 ≤ gR sB g0 s s ∧ gR sB g0 s s ≤ szS s 8 := by
  intro s
  induction s using Nat.strongRecOn with
  | _ s ih =>
    intro hs hsub
    cases s with
    | zero => exact ⟨rfl, by show (0 : Int) ≤ 0; omega, by show (0 : Int) ≤ _; exact (szS_g _ _).1⟩
    | succ s =>
      have z6 : szS ((s + 1 : Nat) : Int) 8 ≤ 6 := szS_6 ⟨s + 1, by omega⟩
      have hx : ∀ x, x < s + 1 → x &&& (s + 1) = x → fR sB P f0 s x = gR sB g0 s x ∧ 0 ≤ gR sB g0 s x ∧ gR sB g0 s x ≤ 5 := by
        intro x hx1 hx2
        obtain ⟨a, b, c⟩ := ih x hx1 (by omega) (sub_tr hx2 hsub)
        have d := sz_sub (a := x) (b := s + 1) (by omega) (by omega) hx2 (by omega)
        rw [gR_o s x (by omega), fR_o s x (by omega)]
        exact ⟨a, b, by omega⟩
      obtain ⟨⟨r1, r2⟩, r3⟩ := ri_fo (f := fR sB P f0 s) (g := gR sB g0 s) (sB := sB) (s := s + 1) (by omega) hx (s + 1) (by omega)
      obtain ⟨i, i1, i2, i3⟩ := sg_n (s := s + 1) (by omega) (by omega)
      have iP : P.testBit i = true := by
        have := congrArg (fun x => x.testBit i) hsub
        simp only [Nat.testBit_and] at this
        rw [i3] at this; simpa using this
      have ne : 2 ^ i ≠ 0 := Nat.ne_of_gt (Nat.pow_pos (by omega))
      have wl := wo_lt ne i2
      have w2 : wo (s + 1) (2 ^ i) &&& (s + 1) = wo (s + 1) (2 ^ i) := by
        apply Nat.eq_of_testBit_eq; intro j; rw [Nat.testBit_and, wo_b]; cases (s + 1).testBit j <;> simp
      obtain ⟨u1, u2, u3⟩ := ih _ wl (by omega) (sub_tr w2 hsub)
      have u4 := sz_sub (a := wo (s + 1) (2 ^ i)) (b := s + 1) (by omega) (by omega) w2 (by omega)
      have le : 2 ^ i ≤ s + 1 := by
        have := Nat.and_le_right (n := 2 ^ i) (m := s + 1)
        omega
      have v := ri_le (g := gR sB g0 s) (sB := sB) (s := s + 1) ne i2 (h1 i i1 iP) (by rw [gR_o s _ (by omega)]; omega) (s + 1) le (fun j hj q => by
        have wl := wo_lt (s := s + 1) (q := j + 1) (by omega) q
        have w2 : wo (s + 1) (j + 1) &&& (s + 1) = wo (s + 1) (j + 1) := by
          apply Nat.eq_of_testBit_eq; intro j'; rw [Nat.testBit_and, wo_b]; cases (s + 1).testBit j' <;> simp
        have := hx _ wl w2
        omega)
      rw [gR_o s _ (by omega)] at v
      have eg : gR sB g0 (s + 1) (s + 1) = riS (gR sB g0 s) sB (s + 1) (s + 1) := by rw [gR]; exact if_pos rfl
      have ef : fR sB P f0 (s + 1) (s + 1) = foS (fR sB P f0 s) sB (s + 1) (s + 1) := by rw [fR]; exact if_pos ⟨rfl, hsub⟩
      rw [eg, ef, r3, if_neg (by omega)]
      exact ⟨rfl, by omega, by omega⟩
theorem row_no {sB : Nat → Bool} {P i : Nat} {g0 : Nat → Int} (hP : P < 64) (hi : i < 6) (h1 : ∀ s, s < 64 → s.testBit i = true → sB s = false) :
    ∀ s, s ≤ P → s.testBit i = true → gR sB g0 s s = -1 := by
  intro s
  induction s using Nat.strongRecOn with
  | _ s ih =>
    intro hs hb
    cases s with
    | zero => rw [Nat.zero_testBit] at hb; cases hb
    | succ s =>
      have eg : gR sB g0 (s + 1) (s + 1) = riS (gR sB g0 s) sB (s + 1) (s + 1) := by rw [gR]; exact if_pos rfl
      rw [eg]
      refine ri_no (s + 1) (fun j hj q1 q2 => ?_)
      have wl := wo_lt (s := s + 1) (q := j + 1) (by omega) q1
      have nb : (j + 1).testBit i = false := by
        cases w : (j + 1).testBit i
        · rfl
        · rw [h1 (j + 1) (by omega) w] at q2; cases q2
      have := ih _ wl (by omega) (by rw [wo_b, hb, nb]; rfl)
      rw [gR_o s _ (by omega), this]; omega
section
variable {σ τ : Sg} {W N D E : Nat}
/-- a row of the class, of the reference -/
def rwH (σ : Sg) (f : Nat → Int) (k : Nat) : Sg := fun o x => if o = 104 ∧ x ≤ k then f x else σ o x
def rwM (τ : Sg) (g : Nat → Int) (k : Nat) : Sg := fun o x => if o = 11 ∧ x ≤ k then g x else τ o x
theorem wo_i {s q : Nat} (hs : s < 64) (hq : q < 64) : an32 s (xo32 q (-1)) = ((wo s q : Nat) : Int) := wo_n (by omega) (by omega)
theorem fo_h {s : Nat} (hs : s < 2 ^ N) (h : PR 8 σ τ W N D E) : Ro_fewestOf 8 s σ = some (foS (σ 104) (fun q => sfB (τ 5) N E q) s s, σ) := by
  have bN := h.bN
  have e2 : 2 ^ N ≤ 2 ^ 6 := Nat.pow_le_pow_right (by omega) (by omega)
  have key : ∀ (m k n : Nat), k + m = s → m < n → Ro_fewestOf_L6 8 s n (foS (σ 104) (fun q => sfB (τ 5) N E q) s k) (k + 1 : Nat) σ = some (foS (σ 104) (fun q => sfB (τ 5) N E q) s s, σ) := by
    intro m
    induction m with
    | zero =>
      intro k n hk hn
      obtain ⟨n, rfl⟩ : ∃ x, n = x + 1 := ⟨n - 1, by omega⟩
      obtain rfl : k = s := by omega
      rw [Ro_fewestOf_L6, if_pos (by omega)]
    | succ m ih =>
      intro k n hk hn
      obtain ⟨n, rfl⟩ : ∃ x, n = x + 1 := ⟨n - 1, by omega⟩
      have w := ih (k + 1) n (by omega) (by omega)
      have wl := wo_le s (k + 1)
      rw [foS] at w
      rw [Ro_fewestOf_L6, if_neg (by omega), if_pos (by omega), an_n (by omega) (by omega), safe_h h (S := k + 1) (by omega), bd_s, wo_i (by omega) (by omega), rd_k (by omega) (by omega), Int.toNat_natCast]
      simp only [nm_k]
      rw [w32_i (x := ((k + 1 : Nat) : Int) + 1) (by omega) (by omega), suc]
      by_cases c1 : (k + 1) &&& s = k + 1
      · rw [if_pos (by omega)]
        cases c2 : sfB (τ 5) N E ((k + 1 : Nat) : Int)
        · rw [if_neg (fun z => by rw [c2] at z; exact absurd z.2 (by simp))] at w
          rw [if_neg ff_t, if_pos rfl]; exact w
        · rw [if_pos ⟨c1, c2⟩] at w
          rw [if_pos rfl, if_neg i10]; exact w
      · rw [if_neg (fun z => c1 z.1)] at w
        rw [if_neg (by omega)]; exact w
  exact key s 0 fu (by omega) (by unfold fu; omega)
theorem ri_m {s : Nat} (hs : s < 64) (hs0 : s ≠ 0) (h : PR 8 σ τ W N D E) {P : Int} {k9 : Int → Sg → Rs} : ∀ (m k n : Nat), k + m = s → m < n → M_roundOf_L23 P s k9 n (k + 1 : Nat) (up_s τ 11 s (riS (τ 11) (fun q => sfB (τ 5) N E q) s k)) = k9 (s + 1 : Nat) (up_s τ 11 s (riS (τ 11) (fun q => sfB (τ 5) N E q) s s)) := by
  intro m
  induction m with
  | zero =>
    intro k n hk hn
    obtain ⟨n, rfl⟩ : ∃ x, n = x + 1 := ⟨n - 1, by omega⟩
    obtain rfl : k = s := by omega
    rw [M_roundOf_L23, if_pos (by omega), nm_k, w32_i (by omega) (by omega), suc]
  | succ m ih =>
    intro k n hk hn
    obtain ⟨n, rfl⟩ : ∃ x, n = x + 1 := ⟨n - 1, by omega⟩
    have w := ih (k + 1) n (by omega) (by omega)
    have wl := wo_le s (k + 1)
    have h' : PR 8 σ (up_s τ 11 s (riS (τ 11) (fun q => sfB (τ 5) N E q) s k)) W N D E := h.cg (fun _ _ _ _ => rfl) (fun k _ => up_o (by omega))
    have c5 : (up_s τ 11 s (riS (τ 11) (fun q => sfB (τ 5) N E q) s k)) 5 = τ 5 := by funext x; exact up_o (by omega)
    rw [riS] at w
    rw [M_roundOf_L23, if_neg (by omega), wo_i (by omega) (by omega), one_m h', c5, bd_s, wo_i (by omega) (by omega), rd_k (by omega) (by omega), rd_k (by omega) (by omega), rd_k (by omega) (by omega), rd_k (by omega) (by omega), M_roundOf_J90, wo_i (by omega) (by omega), rd_k (by omega) (by omega), wr_k (by omega) (by omega), Int.toNat_natCast, Int.toNat_natCast, up_2]
    simp only [nm_k]
    rw [w32_i (x := ((k + 1 : Nat) : Int) + 1) (by omega) (by omega), suc, up_e]
    by_cases c1 : (k + 1) &&& s = k + 1
    · have c0 : wo (k + 1) s = 0 := by unfold wo; rw [c1, Nat.xor_self]
      have ne : wo s (k + 1) ≠ s := Nat.ne_of_lt (wo_lt (by omega) c1)
      rw [if_pos (by omega), up_k ne]
      cases c2 : sfB (τ 5) N E ((k + 1 : Nat) : Int)
      · rw [if_neg (fun z => by have := z.1.2; rw [c2] at this; exact absurd this (by simp))] at w
        rw [if_neg ff_t, if_pos rfl]; exact w
      · rw [if_pos rfl, if_neg i10]
        by_cases c3 : τ 11 (wo s (k + 1)) < 0
        · rw [if_neg (fun z => by have := z.2.1; omega)] at w
          rw [if_pos c3]; exact w
        · rw [if_neg c3]
          by_cases c4 : riS (τ 11) (fun q => sfB (τ 5) N E q) s k < 0
          · rw [if_pos ⟨⟨c1, c2⟩, by omega, .inl c4⟩] at w
            rw [if_pos c4]; exact w
          · rw [if_neg c4]
            by_cases c6 : w32 (τ 11 (wo s (k + 1)) + 1) < riS (τ 11) (fun q => sfB (τ 5) N E q) s k
            · rw [if_pos ⟨⟨c1, c2⟩, by omega, .inr c6⟩] at w
              rw [if_pos c6]; exact w
            · rw [if_neg (fun z => z.2.2.elim c4 c6)] at w
              rw [if_neg c6]; exact w
    · have c0 : ¬ ((wo (k + 1) s : Nat) : Int) = 0 := by
        intro z
        have z : wo (k + 1) s = 0 := by omega
        apply c1
        apply Nat.eq_of_testBit_eq; intro j
        have y := wo_b (k + 1) s j
        rw [z, Nat.zero_testBit] at y
        rw [Nat.testBit_and]
        cases e : (k + 1).testBit j
        · rfl
        · rw [e] at y; simp at y; rw [y]; rfl
      rw [if_neg (fun z => c1 z.1.1)] at w
      rw [if_neg c0]; exact w
theorem rwM_s {g0 : Nat → Int} {sB : Nat → Bool} {k : Nat} (hg : g0 = τ 11) : up_s (rwM τ (gR sB g0 k) k) 11 (k + 1) (riS (rwM τ (gR sB g0 k) k 11) sB (k + 1) (k + 1)) = rwM τ (gR sB g0 (k + 1)) (k + 1) := by
  have e1 : riS (rwM τ (gR sB g0 k) k 11) sB (k + 1) (k + 1) = riS (gR sB g0 k) sB (k + 1) (k + 1) := by
    refine riS_c _ (fun j hj q => ?_)
    have := wo_lt (s := k + 1) (q := j + 1) (by omega) q
    unfold rwM; rw [if_pos ⟨rfl, by omega⟩]
  rw [e1]
  funext o x; rw [up_v]; unfold rwM
  by_cases e : o = 11 ∧ x = k + 1
  · rw [if_pos e, if_pos (by omega), gR]; show _ = if x = k + 1 then _ else _
    rw [if_pos e.2]
  · rw [if_neg e]
    by_cases z : o = 11 ∧ x ≤ k
    · rw [if_pos z, if_pos (by omega), gR]; show _ = if x = k + 1 then _ else _
      rw [if_neg (by omega)]
    · rw [if_neg z, if_neg (by omega)]
theorem round_m {P : Nat} (hP : P < 64) (h : PR 8 σ τ W N D E) : M_roundOf P τ = some (gR (fun q => sfB (τ 5) N E q) (τ 11) P P, rwM τ (gR (fun q => sfB (τ 5) N E q) (τ 11) P) P) := by
  rw [M_roundOf, wr_k (by omega) (by omega)]
  have e0 : up_s τ 11 (Int.toNat 0) 0 = rwM τ (gR (fun q => sfB (τ 5) N E q) (τ 11) 0) 0 := by
    funext o x; rw [Int.toNat_zero, up_v]; unfold rwM
    by_cases e : o = 11 ∧ x = 0
    · rw [if_pos e, if_pos (by omega), gR, e.2]; rfl
    · rw [if_neg e, if_neg (by omega)]
  rw [e0]
  have key : ∀ (m k n : Nat), k + m = P → m < n → M_roundOf_L9 P n (k + 1 : Nat) (rwM τ (gR (fun q => sfB (τ 5) N E q) (τ 11) k) k) = some (gR (fun q => sfB (τ 5) N E q) (τ 11) P P, rwM τ (gR (fun q => sfB (τ 5) N E q) (τ 11) P) P) := by
    intro m
    induction m with
    | zero =>
      intro k n hk hn
      obtain ⟨n, rfl⟩ : ∃ x, n = x + 1 := ⟨n - 1, by omega⟩
      obtain rfl : k = P := by omega
      rw [M_roundOf_L9, if_pos (by omega), rd_k (by omega) (by omega), Int.toNat_natCast]
      congr 2
      unfold rwM; rw [if_pos (by omega)]
    | succ m ih =>
      intro k n hk hn
      obtain ⟨n, rfl⟩ : ∃ x, n = x + 1 := ⟨n - 1, by omega⟩
      have h' : PR 8 σ (rwM τ (gR (fun q => sfB (τ 5) N E q) (τ 11) k) k) W N D E := h.cg (fun _ _ _ _ => rfl) (fun k _ => by unfold rwM; rw [if_neg (by omega)])
      have c5 : rwM τ (gR (fun q => sfB (τ 5) N E q) (τ 11) k) k 5 = τ 5 := by funext x; unfold rwM; rw [if_neg (by omega)]
      rw [M_roundOf_L9, if_neg (by omega), wr_k (by omega) (by omega), Int.toNat_natCast]
      have q := ri_m (s := k + 1) (by omega) (by omega) h' (P := P) (k9 := fun x22 s23 => M_roundOf_L9 P n x22 s23) (k + 1) 0 fu (by omega) (by unfold fu; omega)
      rw [c5] at q
      rw [show M_roundOf_L23 (P : Int) ((k + 1 : Nat) : Int) (fun x22 s23 => M_roundOf_L9 P n x22 s23) fu 1 (up_s (rwM τ (gR (fun q => sfB (τ 5) N E q) (τ 11) k) k) 11 (k + 1) (-1)) = _ from q, rwM_s rfl]
      exact ih (k + 1) n (by omega) (by omega)
  exact key P 0 fu (by omega) (by unfold fu; omega)
theorem rwH_s {f0 : Nat → Int} {sB : Nat → Bool} {P k : Nat} (e0 : (k + 1) &&& P = k + 1) : up_s (rwH σ (fR sB P f0 k) k) 104 (k + 1) (foS (rwH σ (fR sB P f0 k) k 104) sB (k + 1) (k + 1)) = rwH σ (fR sB P f0 (k + 1)) (k + 1) := by
  have e1 : foS (rwH σ (fR sB P f0 k) k 104) sB (k + 1) (k + 1) = foS (fR sB P f0 k) sB (k + 1) (k + 1) := by
    refine foS_c _ (fun j hj q => ?_)
    have := wo_lt (s := k + 1) (q := j + 1) (by omega) q
    unfold rwH; rw [if_pos ⟨rfl, by omega⟩]
  rw [e1]
  funext o x; rw [up_v]; unfold rwH
  by_cases e : o = 104 ∧ x = k + 1
  · rw [if_pos e, if_pos (by omega), fR]; show _ = if x = k + 1 ∧ _ then _ else _
    rw [if_pos ⟨e.2, e0⟩]
  · rw [if_neg e]
    by_cases z : o = 104 ∧ x ≤ k
    · rw [if_pos z, if_pos (by omega), fR]; show _ = if x = k + 1 ∧ _ then _ else _
      rw [if_neg (by omega)]
    · rw [if_neg z, if_neg (by omega)]
theorem rwH_n {sB : Nat → Bool} {P k : Nat} (e0 : ¬ (k + 1) &&& P = k + 1) (hf : ∀ x, k < x → fR sB P (σ 104) k x = σ 104 x) : rwH σ (fR sB P (σ 104) k) k = rwH σ (fR sB P (σ 104) (k + 1)) (k + 1) := by
  funext o x; unfold rwH
  by_cases z : o = 104 ∧ x ≤ k
  · rw [if_pos z, if_pos (by omega), fR]; show _ = if x = k + 1 ∧ _ then _ else _
    rw [if_neg (by omega)]
  · rw [if_neg z]
    by_cases z2 : o = 104 ∧ x ≤ k + 1
    · rw [if_pos z2, fR]; show _ = if x = k + 1 ∧ _ then _ else _
      rw [if_neg (fun q => e0 q.2), hf x (by omega), z2.1]
    · rw [if_neg z2]
theorem fR_hi {sB : Nat → Bool} {P : Nat} {f0 : Nat → Int} : ∀ (k x : Nat), k < x → fR sB P f0 k x = f0 x
  | 0, x, h => by rw [fR]; exact if_neg (by omega)
  | k + 1, x, h => by rw [fR]; show (if x = k + 1 ∧ _ then _ else fR sB P f0 k x) = _; rw [if_neg (by omega)]; exact fR_hi k x (by omega)
theorem few_h {P : Nat} (hP : P < 2 ^ N) (h : PR 8 σ τ W N D E) {k73 : Sg → Rs} : ∀ (m k n : Nat), k + m = P → m < n → Ro_fewestBarbers_L37 8 P k73 n (k + 1 : Nat) (rwH σ (fR (fun q => sfB (τ 5) N E q) P (σ 104) k) k) = k73 (rwH σ (fR (fun q => sfB (τ 5) N E q) P (σ 104) P) P) := by
  intro m
  have bN := h.bN
  have e2 : 2 ^ N ≤ 2 ^ 6 := Nat.pow_le_pow_right (by omega) (by omega)
  induction m with
  | zero =>
    intro k n hk hn
    obtain ⟨n, rfl⟩ : ∃ x, n = x + 1 := ⟨n - 1, by omega⟩
    obtain rfl : k = P := by omega
    rw [Ro_fewestBarbers_L37]
    by_cases e : ((k + 1 : Nat) : Int) < 64
    · rw [if_pos e, if_pos (by omega)]
    · rw [if_neg e]
  | succ m ih =>
    intro k n hk hn
    obtain ⟨n, rfl⟩ : ∃ x, n = x + 1 := ⟨n - 1, by omega⟩
    have h' : PR 8 (rwH σ (fR (fun q => sfB (τ 5) N E q) P (σ 104) k) k) τ W N D E := h.cg (fun j k _ _ => by unfold rwH; rw [if_neg (by omega)]) (fun _ _ => rfl)
    have w := ih (k + 1) n (by omega) (by omega)
    rw [Ro_fewestBarbers_L37, if_pos (by omega), if_neg (by omega), an_n (by omega) (by omega), fo_h (by omega) h', bd_s, wr_k (by omega) (by omega), Int.toNat_natCast]
    simp only [nm_k]
    rw [w32_i (x := ((k + 1 : Nat) : Int) + 1) (by omega) (by omega), suc]
    by_cases c1 : (k + 1) &&& P = k + 1
    · rw [if_pos (by omega), rwH_s c1]; exact w
    · rw [if_neg (by omega), rwH_n c1 (fun x hx => fR_hi k x hx)]; exact w
theorem single {P i : Nat} (hP : P < 64) (hi : i < 6) : an32 P (sl32 1 i) = ((P &&& 2 ^ i : Nat) : Int) := by
  have h3 : 2 ^ i < 2 ^ 6 := Nat.pow_lt_pow_right (by omega) hi
  rw [sl_1 (by omega), an_n (by omega) (by omega)]
theorem few_1 {P : Nat} (hP : P < 2 ^ N) (h : PR 8 σ τ W N D E) {k37 : Int → Sg → Rs} : ∀ (m i n : Nat), i + m = 6 → m < n →
    ((∃ d, i ≤ d ∧ d < 6 ∧ sfB (τ 5) N E ((P &&& 2 ^ d : Nat) : Int) = false) ∧ Ro_fewestBarbers_L2 8 P k37 n i σ = some (-1, σ)) ∨ ((∀ d, i ≤ d → d < 6 → sfB (τ 5) N E ((P &&& 2 ^ d : Nat) : Int) = true) ∧ Ro_fewestBarbers_L2 8 P k37 n i σ = k37 1 (up_s σ 104 0 0)) := by
  intro m
  have bN := h.bN
  have e2 : 2 ^ N ≤ 2 ^ 6 := Nat.pow_le_pow_right (by omega) (by omega)
  induction m with
  | zero =>
    intro k n hk hn
    obtain ⟨n, rfl⟩ : ∃ x, n = x + 1 := ⟨n - 1, by omega⟩
    refine .inr ⟨fun d a b => absurd b (by omega), ?_⟩
    rw [Ro_fewestBarbers_L2, if_neg (by omega), wr_k (by omega) (by omega), show Int.toNat 0 = 0 from rfl]
  | succ m ih =>
    intro k n hk hn
    obtain ⟨n, rfl⟩ : ∃ x, n = x + 1 := ⟨n - 1, by omega⟩
    have w := ih (k + 1) n (by omega) (by omega)
    have le : P &&& 2 ^ k ≤ P := Nat.and_le_left
    rw [Ro_fewestBarbers_L2, if_pos (by omega), single (by omega) (by omega), safe_h h (S := P &&& 2 ^ k) (by omega), bd_s]
    cases c : sfB (τ 5) N E ((P &&& 2 ^ k : Nat) : Int)
    · rw [if_neg ff_t, if_pos rfl]; exact .inl ⟨⟨k, by omega, by omega, c⟩, rfl⟩
    · rw [if_pos rfl, if_neg i10, nm_k, w32_i (by omega) (by omega), suc]
      rcases w with ⟨⟨d, a1, a2, a3⟩, b⟩ | ⟨a, b⟩
      · exact .inl ⟨⟨d, by omega, a2, a3⟩, b⟩
      · refine .inr ⟨fun d a1 a2 => ?_, b⟩
        by_cases z : d = k
        · subst z; exact c
        · exact a d (by omega) a2
theorem and_p {P i : Nat} : P &&& 2 ^ i = if P.testBit i then 2 ^ i else 0 := by
  apply Nat.eq_of_testBit_eq; intro j
  rw [Nat.testBit_and, tb_2]
  by_cases e : i = j
  · subst e; cases P.testBit i <;> simp [tb_2]
  · cases P.testBit i <;> simp [e, tb_2]
theorem k_round (h : RR σ τ W N D E) (a : Int) : Ag (H_round a σ) (M_round a τ) := by
  rw [M_round]; refine ag_go h (fun τ h hz => ?_)
  rw [H_round]
  have hp := h.pr
  have bN := hp.bN
  have e2 : 2 ^ N ≤ 2 ^ 6 := Nat.pow_le_pow_right (by omega) (by omega)
  have e3 : 0 < 2 ^ N := Nat.pow_pos (by omega)
  rw [Pr_isPeopleSet, hp.n, M_arePeople, rd_k (by omega) (by omega), show Int.toNat 1 = 1 from rfl, hp.n', sl_1 (by omega), w32_i (by omega) (by omega)]
  by_cases ha : 0 ≤ a ∧ a < (2 ^ N : Nat)
  · obtain ⟨P, rfl⟩ := nat_of ha.1
    have hP : P < 2 ^ N := by omega
    have fm : RR σ (rwM τ (gR (fun q => sfB (τ 5) N E q) (τ 11) P) P) W N D E := h.fr (fun _ _ _ => rfl) (fun o k q => by unfold rwM; rw [if_neg (by unfold SbM at q; omega)])
    have fz : rwM τ (gR (fun q => sfB (τ 5) N E q) (τ 11) P) P 0 0 = 0 := by unfold rwM; rw [if_neg (by omega)]; exact hz
    rw [if_neg (by omega), if_pos ha.2, bd_s, if_neg i10, in_1 (by omega), bd_s, zb_1, bd_s, if_neg i10, round_m (by omega) hp, bd_s, Ro_fewestBarbers]
    rcases few_1 hP hp (k37 := fun x5 s6 => Ro_fewestBarbers_L37 8 P (fun s12 => Ro_fewestBarbers_J73 P s12) fu x5 s6) 6 0 fu (by omega) (by unfold fu; omega) with ⟨⟨d, a1, a2, a3⟩, b⟩ | ⟨a1, b⟩
    · rw [show Ro_fewestBarbers_L2 8 (P : Int) (fun x5 s6 => Ro_fewestBarbers_L37 8 P (fun s12 => Ro_fewestBarbers_J73 P s12) fu x5 s6) fu 0 σ = _ from b, bd_s, if_pos rfl]
      have le : P &&& 2 ^ d ≤ P := Nat.and_le_left
      by_cases bd0 : P.testBit d = true
      · have q := row_no (sB := fun q => sfB (τ 5) N E q) (g0 := τ 11) (P := P) (i := d) (by omega) a2 (fun s hs w => sf_mono hp (S := P &&& 2 ^ d) (S' := s) (by omega) hs (fun j z => by
          rw [Nat.testBit_and, Bool.and_eq_true, tb_2, decide_eq_true_eq] at z
          rw [← z.2]; exact w) a3) P (by omega) bd0
        rw [q, if_pos (by omega)]
        exact ag_fail fm 8
      · exfalso
        have z : P &&& 2 ^ d = 0 := by rw [and_p, if_neg bd0]
        rw [z] at a3
        have y : sfB (τ 5) N E ((0 : Nat) : Int) = true := by
          unfold sfB
          have k0 : ∀ k, k ≤ 6 → kbS (τ 5) ((0 : Nat) : Int) k = 0 := by
            intro k
            induction k with
            | zero => intro _; rfl
            | succ k ih =>
              intro hk
              rw [kbS, ih (by omega), hb_n (by omega) (by omega), Nat.zero_testBit, if_neg ff_t, if_neg (show ¬ (0 : Int) = 1 by omega)]
              exact or_0 c32_0
          rw [k0 N bN]
          have c0 : ∀ k, k ≤ E → cfB (τ 5) 0 k = false := by
            intro k
            induction k with
            | zero => intro _; rfl
            | succ k ih =>
              intro hk
              have g1 := hp.h1b k (by omega)
              have bW := hp.bW
              obtain ⟨u, eu⟩ := nat_of g1.1
              rw [cfB, ih (by omega), eu, show (0 : Int) = ((0 : Nat) : Int) from rfl, hb_n (by omega) (by omega), Nat.zero_testBit, if_neg ff_t]
              rfl
          rw [c0 E (by omega)]; rfl
        rw [y] at a3; cases a3
    · have e0 : up_s σ 104 0 0 = rwH σ (fR (fun q => sfB (τ 5) N E q) P (σ 104) 0) 0 := by
        funext o x; rw [up_v]; unfold rwH
        by_cases e : o = 104 ∧ x = 0
        · rw [if_pos e, if_pos (by omega), fR, e.2]; rfl
        · rw [if_neg e, if_neg (by omega)]
      have q := few_h hP hp (k73 := fun s12 => Ro_fewestBarbers_J73 P s12) P 0 fu (by omega) (by unfold fu; omega)
      rw [show Ro_fewestBarbers_L2 8 (P : Int) (fun x5 s6 => Ro_fewestBarbers_L37 8 P (fun s12 => Ro_fewestBarbers_J73 P s12) fu x5 s6) fu 0 σ = _ from b, e0, show Ro_fewestBarbers_L37 8 (P : Int) (fun s12 => Ro_fewestBarbers_J73 P s12) fu 1 (rwH σ (fR (fun q => sfB (τ 5) N E q) P (σ 104) 0) 0) = _ from q, Ro_fewestBarbers_J73, if_neg (by omega), if_pos (by omega), rd_k (by omega) (by omega), Int.toNat_natCast, bd_s]
      obtain ⟨r1, r2, r3⟩ := row_ok (sB := fun q => sfB (τ 5) N E q) (f0 := σ 104) (g0 := τ 11) (P := P) (by omega) (fun i hi w => by
        have := a1 i (by omega) hi
        rw [and_p, if_pos w] at this; exact this) P (by omega) (Nat.and_self P)
      have e4 : rwH σ (fR (fun q => sfB (τ 5) N E q) P (σ 104) P) P 104 P = gR (fun q => sfB (τ 5) N E q) (τ 11) P P := by unfold rwH; rw [if_pos (by omega)]; exact r1
      rw [e4, if_neg (by omega), if_neg (by omega)]
      refine ag_give (h.fr (fun o k q => by unfold rwH; rw [if_neg (by unfold SbH at q; omega)]) (fun o k q => by unfold rwM; rw [if_neg (by unfold SbM at q; omega)])) fz _
  · have e4 : (if a < 0 then some (0, σ) else if a < (2 ^ N : Nat) then some (1, σ) else some (0, σ)) = (some (0, σ) : Rs) := by
      by_cases e : a < 0
      · rw [if_pos e]
      · rw [if_neg e, if_neg (by omega)]
    rw [e4, bd_s, if_pos rfl, in_0 (by omega), bd_s, zb_0, bd_s, if_pos rfl]; exact ag_fail h 5
end
