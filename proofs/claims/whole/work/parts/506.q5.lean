/-! the longest strand; saying; a strand begun -/
theorem cast_pow (W : Nat) : ((2 ^ W : Nat) : Int) = (2 : Int) ^ W := by simp
theorem orB {x : Int} {W k : Nat} (hW : W ≤ 8) (h0 : 0 ≤ x) (h1 : x < 2 ^ W) (hk : k < W) : 0 ≤ or32 x (sl32 1 k) ∧ or32 x (sl32 1 k) < 2 ^ W := by
  obtain ⟨n, rfl⟩ := nat_of h0
  have hp := pow_le hW
  rw [← cast_pow] at h1 ⊢
  have h2 : n < 2 ^ W := by omega
  have h3 : 2 ^ k < 2 ^ W := Nat.pow_lt_pow_right (by omega) hk
  rw [← cast_pow] at hp
  rw [sl_1 (by omega), or_n (by omega) (by omega)]
  have := Nat.or_lt_two_pow h2 h3
  omega
theorem woB {x : Int} {W k : Nat} (hW : W ≤ 8) (h0 : 0 ≤ x) (h1 : x < 2 ^ W) (hk : k < W) : 0 ≤ an32 x (xo32 (sl32 1 k) (-1)) ∧ an32 x (xo32 (sl32 1 k) (-1)) < 2 ^ W := by
  obtain ⟨n, rfl⟩ := nat_of h0
  have hp := pow_le hW
  have h3 : 2 ^ k < 2 ^ W := Nat.pow_lt_pow_right (by omega) hk
  rw [← cast_pow] at h1 hp ⊢
  rw [sl_1 (by omega), wo_n (by omega) (by omega)]
  have := wo_le n (2 ^ k)
  omega
theorem nb_all : ∀ (m : Fin 256) (k : Fin 8), an32 (sr32 (xo32 (m.1 : Nat) (-1)) (k.1 : Nat)) 1 = if m.1.testBit k.1 then 0 else 1 := by decide +kernel
theorem nb {m k : Nat} (hm : m < 256) (hk : k < 8) : an32 (sr32 (xo32 m (-1)) k) 1 = if m.testBit k then 0 else 1 := nb_all ⟨m, hm⟩ ⟨k, hk⟩
theorem wo_sub {x : Int} {W k q : Nat} (hW : W ≤ 8) (h0 : 0 ≤ x) (h1 : x < 2 ^ W) (hk : k < W) (hq : q < W) (h : an32 (sr32 (an32 x (xo32 (sl32 1 k) (-1))) q) 1 = 1) : an32 (sr32 x q) 1 = 1 := by
  obtain ⟨n, rfl⟩ := nat_of h0
  have hp := pow_le hW
  have h3 : 2 ^ k < 2 ^ W := Nat.pow_lt_pow_right (by omega) hk
  rw [← cast_pow] at h1 hp
  have h4 := wo_le n (2 ^ k)
  rw [sl_1 (by omega), wo_n (by omega) (by omega), hb_n (by omega) (by omega), wo_b] at h
  rw [hb_n (by omega) (by omega)]
  cases hh : n.testBit q
  · rw [hh] at h; simp at h
  · simp
theorem or_sub {x : Int} {W k q : Nat} (hW : W ≤ 8) (h0 : 0 ≤ x) (h1 : x < 2 ^ W) (hk : k < W) (hq : q < W) (hne : q ≠ k) (h : an32 (sr32 (or32 x (sl32 1 k)) q) 1 = 1) : an32 (sr32 x q) 1 = 1 := by
  obtain ⟨n, rfl⟩ := nat_of h0
  have hp := pow_le hW
  have h3 : 2 ^ k < 2 ^ W := Nat.pow_lt_pow_right (by omega) hk
  rw [← cast_pow] at h1 hp
  have h4 := Nat.or_lt_two_pow (show n < 2 ^ W by omega) h3
  rw [sl_1 (by omega), or_n (by omega) (by omega), hb_n (by omega) (by omega), Nat.testBit_or, Nat.testBit_two_pow] at h
  rw [hb_n (by omega) (by omega)]
  cases hh : n.testBit q
  · rw [hh] at h; simp [Ne.symm hne] at h
  · simp
/-- the words of one set that are not in another one -/
theorem df_b {K A k : Nat} (hK : K < 256) (hA : A < 256) (hk : k < 8) : an32 (sr32 (an32 K (xo32 A (-1))) k) 1 = 1 ↔ an32 (sr32 K k) 1 = 1 ∧ an32 (sr32 (xo32 A (-1)) k) 1 = 1 := by
  have h4 := wo_le K A
  rw [wo_n (by omega) (by omega), hb_n (by omega) (by omega), hb_n (by omega) (by omega), nb hA hk, wo_b]
  cases K.testBit k <;> cases A.testBit k <;> simp
theorem df_0 {K A W : Nat} (hK : K < 2 ^ W) (hW : W ≤ 8) (hA : A < 256) (h : ∀ k, k < W → ¬ (an32 (sr32 K k) 1 = 1 ∧ an32 (sr32 (xo32 A (-1)) k) 1 = 1)) : an32 K (xo32 A (-1)) = 0 := by
  have h4 := wo_le K A
  have h5 : 2 ^ W ≤ 2 ^ 8 := Nat.pow_le_pow_right (by omega) hW
  rw [wo_n (by omega) (by omega)]
  have e : wo K A = 0 := by
    apply Nat.eq_of_testBit_eq
    intro i
    rw [Nat.zero_testBit]
    by_cases q : i < W
    · have g := fun z => h i q ((df_b (by omega) hA (by omega)).mp z)
      rw [wo_n (by omega) (by omega), hb_n (by omega) (by omega)] at g
      cases hh : (wo K A).testBit i
      · rfl
      · rw [hh] at g; simp at g
    · exact Nat.testBit_lt_two_pow (Nat.lt_of_lt_of_le (by omega : wo K A < 2 ^ W) (Nat.pow_le_pow_right (by omega) (by omega)))
  rw [e]; rfl
theorem longS_g {c : Nat → Int} {i : Nat} {a b : Int} : ∀ {k : Nat}, (∀ j : Nat, j < k → ((an32 (sr32 (c (43 + i)) j) 1 = 1 ∧ an32 (sr32 a j) 1 = 1) ↔ (an32 (sr32 (c (43 + i)) j) 1 = 1 ∧ an32 (sr32 b j) 1 = 1))) → longS c i a k = longS c i b k
  | 0, _ => rfl
  | k + 1, h => by
    rw [longS, longS, longS_g (fun j hj => h j (by omega))]
    have e := h k (by omega)
    by_cases q : an32 (sr32 (c (43 + i)) k) 1 = 1 ∧ an32 (sr32 b k) 1 = 1
    · have q' := e.mpr q
      simp only [q, q', true_and]
    · have q' := fun z => q (e.mp z)
      rw [if_neg (fun z => q' z.1), if_neg (fun z => q z.1)]
theorem longS_n {c : Nat → Int} {i : Nat} {a : Int} : ∀ {k : Nat}, longS c i a k = -1 → ∀ j : Nat, j < k → ¬ (an32 (sr32 (c (43 + i)) j) 1 = 1 ∧ an32 (sr32 a j) 1 = 1)
  | 0, _, j, hj => absurd hj (by omega)
  | k + 1, h, j, hj => by
    rw [longS] at h
    split at h
    · omega
    · next q =>
      by_cases e : j = k
      · subst e; exact fun z => q ⟨z, .inl (by omega)⟩
      · exact longS_n h j (by omega)
def mostS (c : Nat → Int) (i : Nat) (a : Int) (k : Nat) : Int := if longS c i a k < 0 then -1 else c (49 + (8 * i + (longS c i a k).toNat))
section
variable {p : Nat} {σ τ : Sg} {W N D E : Nat}
theorem long_h (h : PR p σ τ W N D E) {i : Nat} (hi : i < N) (a : Int) : Pr_longestOf p i a σ = some (longS (τ 5) i a W, σ) := by
  have bN := h.bN
  have bW := h.bW
  rw [Pr_longestOf]
  refine loopN (X := fun n k => Pr_longestOf_L8 p i a n (longS (τ 5) i a k) (mostS (τ 5) i a k) k σ) (W := W) ?_ ?_ fu (by unfold fu; omega)
  · intro k n hk
    have h3 := (h.lnb i k hi (by omega)).1
    show Pr_longestOf_L8 p i a (n + 1) _ _ k σ = Pr_longestOf_L8 p i a n (longS (τ 5) i a (k + 1)) (mostS (τ 5) i a (k + 1)) (k + 1 : Nat) σ
    rw [Pr_longestOf_L8, h.w, if_pos (by omega), if_pos (by omega)]
    by_cases eb : an32 (sr32 a k) 1 = 1
    · by_cases ea : an32 (sr32 (τ 5 (43 + i)) k) 1 = 1
      · rw [if_pos eb, kept_h h hi hk, bd_s, if_pos ea, if_neg (by omega), ix8 (by omega) (by omega), nm_k, rd_k (by omega) (by omega), rd_k (by omega) (by omega), tn8, len_k h hi hk ea, bd_s]
        by_cases e2 : longS (τ 5) i a k < 0 ∨ τ 5 (49 + (8 * i + (longS (τ 5) i a k).toNat)) < τ 5 (49 + (8 * i + k))
        · have e3 : longS (τ 5) i a (k + 1) = k := by rw [longS, if_pos ⟨⟨ea, eb⟩, e2⟩]
          have e4 : mostS (τ 5) i a k < τ 5 (49 + (8 * i + k)) := by unfold mostS; split <;> omega
          have e5 : mostS (τ 5) i a (k + 1) = max (τ 5 (49 + (8 * i + k))) (mostS (τ 5) i a k) := by
            rw [Int.max_eq_left (by omega)]; unfold mostS; rw [e3, if_neg (by omega), Int.toNat_natCast]
          rw [if_pos e4, nm_k, nm_k, w32_i (x := (k : Int) + 1) (by omega) (by omega), suc, e5, e3]
        · have e3 : longS (τ 5) i a (k + 1) = longS (τ 5) i a k := by rw [longS, if_neg (fun q => e2 q.2)]
          have e4 : ¬ mostS (τ 5) i a k < τ 5 (49 + (8 * i + k)) := by unfold mostS; split <;> omega
          have e5 : mostS (τ 5) i a (k + 1) = max (τ 5 (49 + (8 * i + k))) (mostS (τ 5) i a k) := by
            rw [Int.max_eq_right (by omega)]; unfold mostS; rw [e3]
          rw [if_neg e4, nm_k, nm_k, w32_i (x := (k : Int) + 1) (by omega) (by omega), suc, e5, e3]
      · have e3 : longS (τ 5) i a (k + 1) = longS (τ 5) i a k := by rw [longS, if_neg (fun q => ea q.1.1)]
        have e5 : mostS (τ 5) i a (k + 1) = mostS (τ 5) i a k := by unfold mostS; rw [e3]
        rw [if_pos eb, kept_h h hi hk, bd_s, if_neg ea, if_pos rfl, nm_k, w32_i (x := (k : Int) + 1) (by omega) (by omega), suc, e5, e3]
    · have e3 : longS (τ 5) i a (k + 1) = longS (τ 5) i a k := by rw [longS, if_neg (fun q => eb q.1.2)]
      have e5 : mostS (τ 5) i a (k + 1) = mostS (τ 5) i a k := by unfold mostS; rw [e3]
      rw [if_neg eb, nm_k, w32_i (x := (k : Int) + 1) (by omega) (by omega), suc, e5, e3]
  · intro n
    show Pr_longestOf_L8 p i a (n + 1) _ _ W σ = _
    rw [Pr_longestOf_L8, h.w, if_neg (by omega)]
theorem long_m (h : PR p σ τ W N D E) {i : Nat} (hi : i < N) (a : Int) : M_longestOf i a τ = some (longS (τ 5) i a W, τ) := by
  have bN := h.bN
  have bW := h.bW
  rw [M_longestOf]
  refine loopN (X := fun n k => M_longestOf_L5 i a n (longS (τ 5) i a k) k τ) (W := W) ?_ ?_ fu (by unfold fu; omega)
  · intro k n hk
    have h1 : (k : Int) < W := by omega
    by_cases ea : an32 (sr32 (τ 5 (43 + i)) k) 1 = 1
    · by_cases eb : an32 (sr32 a k) 1 = 1
      · rcases longS_r (τ 5) i a k with e | ⟨j, hj, e, -⟩
        · have e3 : longS (τ 5) i a (k + 1) = k := by rw [longS, if_pos ⟨⟨ea, eb⟩, .inl (by omega)⟩]
          have h4 : (-1 : Int) < 0 := by omega
          simp (disch := omega) only [M_longestOf_L5, rd_k, Int.toNat_zero, h.w', h1, ↓reduceIte, keeps_m, ea, eb, has_m, bd_s, e, e3, h4, nm_k, w32_i, suc, show ¬ (1 : Int) = 0 by omega]
        · have h4 : ¬ (j : Int) < 0 := by omega
          by_cases e2 : τ 5 (49 + (8 * i + j)) < τ 5 (49 + (8 * i + k))
          · have e3 : longS (τ 5) i a (k + 1) = k := by rw [longS, e, Int.toNat_natCast, if_pos ⟨⟨ea, eb⟩, .inr e2⟩]
            simp (disch := omega) only [M_longestOf_L5, rd_k, Int.toNat_zero, h.w', h1, ↓reduceIte, keeps_m, ea, eb, has_m, bd_s, e, e3, h4, nm_k, w32_i, suc, tn49, e2, show ¬ (1 : Int) = 0 by omega]
          · have e3 : longS (τ 5) i a (k + 1) = j := by rw [longS, e, Int.toNat_natCast, if_neg (fun q => by have := q.2; omega)]
            simp (disch := omega) only [M_longestOf_L5, rd_k, Int.toNat_zero, h.w', h1, ↓reduceIte, keeps_m, ea, eb, has_m, bd_s, e, e3, h4, nm_k, w32_i, suc, tn49, e2, show ¬ (1 : Int) = 0 by omega]
      · have e3 : longS (τ 5) i a (k + 1) = longS (τ 5) i a k := by rw [longS, if_neg (fun q => eb q.1.2)]
        simp (disch := omega) only [M_longestOf_L5, rd_k, Int.toNat_zero, h.w', h1, ↓reduceIte, keeps_m, ea, eb, has_m, bd_s, e3, nm_k, w32_i, suc, show ¬ (1 : Int) = 0 by omega]
    · have e3 : longS (τ 5) i a (k + 1) = longS (τ 5) i a k := by rw [longS, if_neg (fun q => ea q.1.1)]
      simp (disch := omega) only [M_longestOf_L5, rd_k, Int.toNat_zero, h.w', h1, ↓reduceIte, keeps_m, ea, bd_s, e3, nm_k, w32_i, suc]
  · intro n
    simp (disch := omega) only [M_longestOf_L5, rd_k, Int.toNat_zero, h.w', Int.lt_irrefl, ↓reduceIte]
/-- what saying leaves -/
def sayH (σ : Sg) (p i k j : Nat) : Sg := up_s (up_s σ (p + 6) j (or32 (σ (p + 6) j) (sl32 1 k))) (p + 7) i (an32 (σ (p + 7) i) (xo32 (sl32 1 k) (-1)))
def sayM (τ : Sg) (i k j : Nat) : Sg := up_s (up_s τ 5 (37 + j) (or32 (τ 5 (37 + j)) (sl32 1 k))) 5 (43 + i) (an32 (τ 5 (43 + i)) (xo32 (sl32 1 k) (-1)))
theorem say_r (h : PR p σ τ W N D E) {i k j : Nat} (hi : i < N) (hk : k < W) (hj : j < N) : PR p (sayH σ p i k j) (sayM τ i k j) W N D E := by
  have bN := h.bN
  have q1 := orB h.bW (h.knb j hj).1 (h.knb j hj).2 hk
  have q2 := woB h.bW (h.kpb i hi).1 (h.kpb i hi).2 hk
  unfold sayH sayM
  rw [h.kn j hj, h.kp i hi]
  refine (h.sKn hj q1.1 q1.2).sKp hi q2.1 q2.2 (fun q hq e => ?_)
  rw [up_k (by omega)]
  exact wo_sub h.bW (h.kpb i hi).1 (h.kpb i hi).2 hk hq e
theorem speak_h (h : PR p σ τ W N D E) {i k j : Nat} (hi : i < N) (hk : k < W) (hj : j < N) : Pr_speak p i k j σ = some (0, sayH σ p i k j) := by
  have bN := h.bN
  simp (disch := omega) only [Pr_speak, isP_1 h hi, isW_1 h hk, isP_1 h hj, bd_s, show ¬ (1 : Int) = 0 by omega, ↓reduceIte, rd_k, wr_k, Int.toNat_natCast, up_o]
  rfl
theorem says_m0 {i k j : Nat} (hi : i < 6) (hj : j < 6) (hij : i ≠ j) (e1 : an32 (sr32 (τ 5 (43 + i)) k) 1 = 1) (e2 : ¬ an32 (sr32 (τ 5 (37 + j)) k) 1 = 1) : M_says i k j τ = some (1, sayM τ i k j) := by
  have e0 : ¬ (i : Int) = j := by omega
  simp (disch := omega) only [M_says, e0, keeps_m, knows_m, e1, e2, bd_s, show ¬ (1 : Int) = 0 by omega, ↓reduceIte, rd_k, wr_k, w32_i, tn37, tn43, up_k]
  rfl
theorem says_00 {i k j : Nat} (hi : i < 6) (hj : j < 6) (hn : ¬ (i ≠ j ∧ an32 (sr32 (τ 5 (43 + i)) k) 1 = 1 ∧ ¬ an32 (sr32 (τ 5 (37 + j)) k) 1 = 1)) : M_says i k j τ = some (0, τ) := by
  rw [M_says]
  by_cases e0 : (i : Int) = j
  · rw [if_pos e0]
  · rw [if_neg e0, keeps_m τ k (by omega), bd_s]
    by_cases e1 : an32 (sr32 (τ 5 (43 + i)) k) 1 = 1
    · have e2 : an32 (sr32 (τ 5 (37 + j)) k) 1 = 1 := by
        by_cases e2 : an32 (sr32 (τ 5 (37 + j)) k) 1 = 1
        · exact e2
        · exact absurd ⟨by omega, e1, e2⟩ hn
      rw [if_pos e1, if_neg (by omega), knows_m τ k (by omega), bd_s, if_pos e2, if_neg (by omega)]
    · rw [if_neg e1, if_pos rfl]
theorem says_m (h : PR p σ τ W N D E) {i k j : Nat} (hi : i < N) (hj : j < N) (hij : i ≠ j) (e1 : an32 (sr32 (τ 5 (43 + i)) k) 1 = 1) (e2 : ¬ an32 (sr32 (τ 5 (37 + j)) k) 1 = 1) : M_says i k j τ = some (1, sayM τ i k j) :=
  says_m0 (by have := h.bN; omega) (by have := h.bN; omega) hij e1 e2
theorem says_0 (h : PR p σ τ W N D E) {i k j : Nat} (hi : i < N) (hj : j < N) (hn : ¬ (i ≠ j ∧ an32 (sr32 (τ 5 (43 + i)) k) 1 = 1 ∧ ¬ an32 (sr32 (τ 5 (37 + j)) k) 1 = 1)) : M_says i k j τ = some (0, τ) :=
  says_00 (by have := h.bN; omega) (by have := h.bN; omega) hn
def begH (σ : Sg) (p i k : Nat) : Sg := up_s (up_s (up_s σ (p + 7) i (or32 (σ (p + 7) i) (sl32 1 k))) (p + 8) (i * 8 + k) (σ p 16)) (p + 9) (i * 8 + k) (σ p 16)
def begM (τ : Sg) (i k : Nat) : Sg := up_s (up_s (up_s τ 5 (43 + i) (or32 (τ 5 (43 + i)) (sl32 1 k))) 5 (49 + (8 * i + k)) 0) 5 (97 + (8 * i + k)) 0
theorem beg_r (h : PR p σ τ W N D E) {i k : Nat} (hi : i < N) (hk : k < W) : PR p (begH σ p i k) (begM τ i k) W N D E := by
  have bW := h.bW
  have q1 := orB h.bW (h.kpb i hi).1 (h.kpb i hi).2 hk
  unfold begH begM
  rw [h.kp i hi, h.dt]
  exact h.sBg hi hk q1.1 q1.2 (fun q hq hne e => or_sub h.bW (h.kpb i hi).1 (h.kpb i hi).2 hk hq hne e)
theorem beg_h (h : PR p σ τ W N D E) {i k : Nat} (hi : i < N) (hk : k < W) : Pr_startStrand p i k σ = some (0, begH σ p i k) := by
  have bN := h.bN
  have bW := h.bW
  rw [Pr_startStrand, isP_1 h hi, bd_s, if_neg (by omega), isW_1 h hk, bd_s, if_neg (by omega), rd_k (by omega) (by omega), wr_k (by omega) (by omega), Int.toNat_natCast, ix8 (by omega) (by omega), wr_k (by omega) (by omega), wr_k (by omega) (by omega), tn8, up_o (a := p) (o := p + 7) (by omega), up_o (a := p) (o := p + 8) (by omega), up_o (a := p) (o := p + 7) (by omega)]
  rfl
theorem beg_m (τ : Sg) {i k : Nat} (hi : i < 6) (hk : k < 8) : M_strandIs i k τ = some (0, begM τ i k) := by
  simp (disch := omega) only [M_strandIs, rd_k, wr_k, w32_i, tn43, tn49, tn97]
  rfl
end
