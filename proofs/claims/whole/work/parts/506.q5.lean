/-! the longest strand; saying; a strand begun -/
theorem cast_pow (W : Nat) : ((2 ^ W : Nat) : Int) = (2 : Int) ^ W := by simp
theorem orB {x : Int} {W k : Nat} (hW : W ≤ 8) (h0 : 0 ≤ x) (h1 : x < 2 ^ W) (hk : k < W) : 0 ≤ or32 x (sl32 1 k) ∧ or32 x (sl32 1 k) < 2 ^ W := by
  obtain ⟨n, rfl⟩ := nat_of h0
  have hp := pow_le hW
  rw [← cast_pow] at h1 ⊢
  have h2 : n < 2 ^ W := by omega
  have h3 : 2 ^ k < 2 ^ W := Nat.pow_lt_pow_right (by omega) hk
  rw [← cast_pow] at hp
  rw [sl_1 (by omega), or_n (by omega) (by omega)]
  have := Nat.or_lt_two_pow h2 h3
  omega
theorem woB {x : Int} {W k : Nat} (hW : W ≤ 8) (h0 : 0 ≤ x) (h1 : x < 2 ^ W) (hk : k < W) : 0 ≤ an32 x (xo32 (sl32 1 k) (-1)) ∧ an32 x (xo32 (sl32 1 k) (-1)) < 2 ^ W := by
  obtain ⟨n, rfl⟩ := nat_of h0
  have hp := pow_le hW
  have h3 : 2 ^ k < 2 ^ W := Nat.pow_lt_pow_right (by omega) hk
  rw [← cast_pow] at h1 hp ⊢
  rw [sl_1 (by omega), wo_n (by omega) (by omega)]
  have := wo_le n (2 ^ k)
  omega
theorem nb_all : ∀ (m : Fin 256) (k : Fin 8), an32 (sr32 (xo32 (m.1 : Nat) (-1)) (k.1 : Nat)) 1 = if m.1.testBit k.1 then 0 else 1 := by decide +kernel
theorem nb {m k : Nat} (hm : m < 256) (hk : k < 8) : an32 (sr32 (xo32 m (-1)) k) 1 = if m.testBit k then 0 else 1 := nb_all ⟨m, hm⟩ ⟨k, hk⟩
theorem bt_0 {x k : Nat} : x &&& 2 ^ k = 0 ↔ x.testBit k = false := by
  constructor
  · intro h
    have := congrArg (fun y => y.testBit k) h
    simpa [Nat.testBit_and] using this
  · intro h
    apply Nat.eq_of_testBit_eq
    intro i
    rw [Nat.testBit_and, Nat.testBit_two_pow]
    by_cases e : k = i
    · subst e; simp [h]
    · simp [e]
theorem la_n {K a k : Nat} (hK : K < 256) (ha : a < 256) (hk : k < 8) : an32 (an32 K a) (sl32 1 k) = 0 ↔ ¬ (an32 (sr32 K k) 1 = 1 ∧ an32 (sr32 a k) 1 = 1) := by
  have h3 : 2 ^ k < 2 ^ 8 := Nat.pow_lt_pow_right (by omega) hk
  have h4 : K &&& a < 2 ^ 8 := Nat.and_lt_two_pow K (n := 8) ha
  rw [sl_1 (by omega), an_n (by omega) (by omega), an_n (by omega) (by omega), hb_n (by omega) (by omega), hb_n (by omega) (by omega)]
  rw [show (((K &&& a) &&& 2 ^ k : Nat) : Int) = 0 ↔ (K &&& a) &&& 2 ^ k = 0 by omega, bt_0, Nat.testBit_and]
  cases K.testBit k <;> cases a.testBit k <;> simp
theorem la_w {K a k : Nat} (hK : K < 256) (ha : a < 256) (hk : k < 8) : an32 (an32 K (xo32 a (-1))) (sl32 1 k) = 0 ↔ ¬ (an32 (sr32 K k) 1 = 1 ∧ an32 (sr32 (xo32 a (-1)) k) 1 = 1) := by
  have h3 : 2 ^ k < 2 ^ 8 := Nat.pow_lt_pow_right (by omega) hk
  have h4 := wo_le K a
  rw [sl_1 (by omega), wo_n (by omega) (by omega), an_n (by omega) (by omega), hb_n (by omega) (by omega), nb ha hk]
  rw [show (((wo K a) &&& 2 ^ k : Nat) : Int) = 0 ↔ (wo K a) &&& 2 ^ k = 0 by omega, bt_0, wo_b]
  cases K.testBit k <;> cases a.testBit k <;> simp
def LA (c : Nat → Int) (i : Nat) (a : Int) (W : Nat) : Prop := ∀ k, k < W → (an32 (an32 (c (43 + i)) a) (sl32 1 k) = 0 ↔ ¬ (an32 (sr32 (c (43 + i)) k) 1 = 1 ∧ an32 (sr32 a k) 1 = 1))
def mostS (c : Nat → Int) (i : Nat) (a : Int) (k : Nat) : Int := if longS c i a k < 0 then -1 else c (49 + (8 * i + (longS c i a k).toNat))
section
variable {p : Nat} {σ τ : Sg} {W N D E : Nat}
theorem la_keeps (h : PR p σ τ W N D E) {i : Nat} (hi : i < N) : LA (τ 5) i (τ 5 (43 + i)) W := by
  intro k hk
  have hp := pow_le h.bW
  have h1 := h.kpb i hi
  obtain ⟨K, hK⟩ := nat_of h1.1
  rw [hK] at h1 ⊢
  exact la_n (by omega) (by omega) (by have := h.bW; omega)
theorem la_knows (h : PR p σ τ W N D E) {i j : Nat} (hi : i < N) (hj : j < N) : LA (τ 5) i (xo32 (τ 5 (37 + j)) (-1)) W := by
  intro k hk
  have hp := pow_le h.bW
  have h1 := h.kpb i hi
  have h2 := h.knb j hj
  obtain ⟨K, hK⟩ := nat_of h1.1
  obtain ⟨A, hA⟩ := nat_of h2.1
  rw [hK] at h1 ⊢
  rw [hA] at h2 ⊢
  exact la_w (by omega) (by omega) (by have := h.bW; omega)
theorem long_h (h : PR p σ τ W N D E) {i : Nat} (hi : i < N) {a : Int} (hA : LA (τ 5) i a W) : Pr_longestOf p i a σ = some (longS (τ 5) i a W, σ) := by
  have bN := h.bN
  have bW := h.bW
  rw [Pr_longestOf, if_neg (by omega), if_pos (by omega)]
  refine loopN (X := fun n k => Pr_longestOf_L20 p i a n (longS (τ 5) i a k) (mostS (τ 5) i a k) k σ) (W := W) ?_ ?_ fu (by unfold fu; omega)
  · intro k n hk
    have h1 : (k : Int) < W := by omega
    have h2 : (k : Int) < 8 := by omega
    have h3 := (h.lnb i k hi (by omega)).1
    by_cases e1 : an32 (sr32 (τ 5 (43 + i)) k) 1 = 1 ∧ an32 (sr32 a k) 1 = 1
    · have e0 : ¬ an32 (an32 (τ 5 (43 + i)) a) (sl32 1 k) = 0 := fun q => (hA k hk).mp q e1
      by_cases e2 : longS (τ 5) i a k < 0 ∨ τ 5 (49 + (8 * i + (longS (τ 5) i a k).toNat)) < τ 5 (49 + (8 * i + k))
      · have e3 : longS (τ 5) i a (k + 1) = k := by rw [longS, if_pos ⟨e1, e2⟩]
        have e4 : mostS (τ 5) i a k < τ 5 (49 + (8 * i + k)) := by unfold mostS; split <;> omega
        have e5 : mostS (τ 5) i a (k + 1) = τ 5 (49 + (8 * i + k)) := by unfold mostS; rw [e3, if_neg (by omega), Int.toNat_natCast]
        simp (disch := omega) only [Pr_longestOf_L20, h.w, h1, h2, ↓reduceIte, rd_k, Int.toNat_natCast, h.kp, w32_i, nm_k, tn8, h.ln, e0, e4, e3, e5, suc]
      · have e3 : longS (τ 5) i a (k + 1) = longS (τ 5) i a k := by rw [longS, if_neg (fun q => e2 q.2)]
        have e4 : ¬ mostS (τ 5) i a k < τ 5 (49 + (8 * i + k)) := by unfold mostS; split <;> omega
        have e5 : mostS (τ 5) i a (k + 1) = mostS (τ 5) i a k := by unfold mostS; rw [e3]
        simp (disch := omega) only [Pr_longestOf_L20, h.w, h1, h2, ↓reduceIte, rd_k, Int.toNat_natCast, h.kp, w32_i, nm_k, tn8, h.ln, e0, e4, e3, e5, suc]
    · have e0 : an32 (an32 (τ 5 (43 + i)) a) (sl32 1 k) = 0 := (hA k hk).mpr e1
      have e3 : longS (τ 5) i a (k + 1) = longS (τ 5) i a k := by rw [longS, if_neg (fun q => e1 q.1)]
      have e5 : mostS (τ 5) i a (k + 1) = mostS (τ 5) i a k := by unfold mostS; rw [e3]
      simp (disch := omega) only [Pr_longestOf_L20, h.w, h1, h2, ↓reduceIte, rd_k, Int.toNat_natCast, h.kp, w32_i, nm_k, e0, e3, e5, suc]
  · intro n
    simp (disch := omega) only [Pr_longestOf_L20, h.w, Int.lt_irrefl, ↓reduceIte]
theorem long_m (h : PR p σ τ W N D E) {i : Nat} (hi : i < N) (a : Int) : M_longestOf i a τ = some (longS (τ 5) i a W, τ) := by
  have bN := h.bN
  have bW := h.bW
  rw [M_longestOf]
  refine loopN (X := fun n k => M_longestOf_L5 i a n (longS (τ 5) i a k) k τ) (W := W) ?_ ?_ fu (by unfold fu; omega)
  · intro k n hk
    have h1 : (k : Int) < W := by omega
    by_cases ea : an32 (sr32 (τ 5 (43 + i)) k) 1 = 1
    · by_cases eb : an32 (sr32 a k) 1 = 1
      · rcases longS_r (τ 5) i a k with e | ⟨j, hj, e, -⟩
        · have e3 : longS (τ 5) i a (k + 1) = k := by rw [longS, if_pos ⟨⟨ea, eb⟩, .inl (by omega)⟩]
          have h4 : (-1 : Int) < 0 := by omega
          simp (disch := omega) only [M_longestOf_L5, rd_k, Int.toNat_zero, h.w', h1, ↓reduceIte, keeps_m, ea, eb, has_m, bd_s, e, e3, h4, nm_k, w32_i, suc, show ¬ (1 : Int) = 0 by omega]
        · have h4 : ¬ (j : Int) < 0 := by omega
          by_cases e2 : τ 5 (49 + (8 * i + j)) < τ 5 (49 + (8 * i + k))
          · have e3 : longS (τ 5) i a (k + 1) = k := by rw [longS, e, Int.toNat_natCast, if_pos ⟨⟨ea, eb⟩, .inr e2⟩]
            simp (disch := omega) only [M_longestOf_L5, rd_k, Int.toNat_zero, h.w', h1, ↓reduceIte, keeps_m, ea, eb, has_m, bd_s, e, e3, h4, nm_k, w32_i, suc, tn49, e2, show ¬ (1 : Int) = 0 by omega]
          · have e3 : longS (τ 5) i a (k + 1) = j := by rw [longS, e, Int.toNat_natCast, if_neg (fun q => by have := q.2; omega)]
            simp (disch := omega) only [M_longestOf_L5, rd_k, Int.toNat_zero, h.w', h1, ↓reduceIte, keeps_m, ea, eb, has_m, bd_s, e, e3, h4, nm_k, w32_i, suc, tn49, e2, show ¬ (1 : Int) = 0 by omega]
      · have e3 : longS (τ 5) i a (k + 1) = longS (τ 5) i a k := by rw [longS, if_neg (fun q => eb q.1.2)]
        simp (disch := omega) only [M_longestOf_L5, rd_k, Int.toNat_zero, h.w', h1, ↓reduceIte, keeps_m, ea, eb, has_m, bd_s, e3, nm_k, w32_i, suc, show ¬ (1 : Int) = 0 by omega]
    · have e3 : longS (τ 5) i a (k + 1) = longS (τ 5) i a k := by rw [longS, if_neg (fun q => ea q.1.1)]
      simp (disch := omega) only [M_longestOf_L5, rd_k, Int.toNat_zero, h.w', h1, ↓reduceIte, keeps_m, ea, bd_s, e3, nm_k, w32_i, suc]
  · intro n
    simp (disch := omega) only [M_longestOf_L5, rd_k, Int.toNat_zero, h.w', Int.lt_irrefl, ↓reduceIte]
/-- what saying leaves -/
def sayH (σ : Sg) (p i k j : Nat) : Sg := up_s (up_s σ (p + 6) j (or32 (σ (p + 6) j) (sl32 1 k))) (p + 7) i (an32 (σ (p + 7) i) (xo32 (sl32 1 k) (-1)))
def sayM (τ : Sg) (i k j : Nat) : Sg := up_s (up_s τ 5 (37 + j) (or32 (τ 5 (37 + j)) (sl32 1 k))) 5 (43 + i) (an32 (τ 5 (43 + i)) (xo32 (sl32 1 k) (-1)))
theorem say_r (h : PR p σ τ W N D E) {i k j : Nat} (hi : i < N) (hk : k < W) (hj : j < N) : PR p (sayH σ p i k j) (sayM τ i k j) W N D E := by
  have bN := h.bN
  have q1 := orB h.bW (h.knb j hj).1 (h.knb j hj).2 hk
  have q2 := woB h.bW (h.kpb i hi).1 (h.kpb i hi).2 hk
  unfold sayH sayM
  rw [h.kn j hj, h.kp i hi]
  exact (h.sKn hj q1.1 q1.2).sKp hi q2.1 q2.2
theorem speak_h (h : PR p σ τ W N D E) {i k j : Nat} (hi : i < N) (hk : k < W) (hj : j < N) : Pr_speak p i k j σ = some (0, sayH σ p i k j) := by
  have bN := h.bN
  simp (disch := omega) only [Pr_speak, isP_1 h hi, isW_1 h hk, isP_1 h hj, bd_s, show ¬ (1 : Int) = 0 by omega, ↓reduceIte, rd_k, wr_k, Int.toNat_natCast, up_o]
  rfl
theorem says_m (h : PR p σ τ W N D E) {i k j : Nat} (hi : i < N) (hj : j < N) (hij : i ≠ j) (e1 : an32 (sr32 (τ 5 (43 + i)) k) 1 = 1) (e2 : ¬ an32 (sr32 (τ 5 (37 + j)) k) 1 = 1) : M_says i k j τ = some (1, sayM τ i k j) := by
  have bN := h.bN
  have e0 : ¬ (i : Int) = j := by omega
  simp (disch := omega) only [M_says, e0, keeps_m, knows_m, e1, e2, bd_s, show ¬ (1 : Int) = 0 by omega, ↓reduceIte, rd_k, wr_k, w32_i, tn37, tn43, up_k]
  rfl
theorem says_0 (h : PR p σ τ W N D E) {i k j : Nat} (hi : i < N) (hj : j < N) (hn : ¬ (i ≠ j ∧ an32 (sr32 (τ 5 (43 + i)) k) 1 = 1 ∧ ¬ an32 (sr32 (τ 5 (37 + j)) k) 1 = 1)) : M_says i k j τ = some (0, τ) := by
  have bN := h.bN
  rw [M_says]
  by_cases e0 : (i : Int) = j
  · rw [if_pos e0]
  · rw [if_neg e0, keeps_m τ k (by omega), bd_s]
    by_cases e1 : an32 (sr32 (τ 5 (43 + i)) k) 1 = 1
    · have e2 : an32 (sr32 (τ 5 (37 + j)) k) 1 = 1 := by
        by_cases e2 : an32 (sr32 (τ 5 (37 + j)) k) 1 = 1
        · exact e2
        · exact absurd ⟨by omega, e1, e2⟩ hn
      rw [if_pos e1, if_neg (by omega), knows_m τ k (by omega), bd_s, if_pos e2, if_neg (by omega)]
    · rw [if_neg e1, if_pos rfl]
def begH (σ : Sg) (p i k : Nat) : Sg := up_s (up_s (up_s σ (p + 7) i (or32 (σ (p + 7) i) (sl32 1 k))) (p + 8) (i * 8 + k) 0) (p + 9) (i * 8 + k) 0
def begM (τ : Sg) (i k : Nat) : Sg := up_s (up_s (up_s τ 5 (43 + i) (or32 (τ 5 (43 + i)) (sl32 1 k))) 5 (49 + (8 * i + k)) 0) 5 (97 + (8 * i + k)) 0
theorem beg_r (h : PR p σ τ W N D E) {i k : Nat} (hi : i < N) (hk : k < W) : PR p (begH σ p i k) (begM τ i k) W N D E := by
  have bW := h.bW
  have q1 := orB h.bW (h.kpb i hi).1 (h.kpb i hi).2 hk
  unfold begH begM
  rw [h.kp i hi]
  exact (h.sKp hi q1.1 q1.2).sLA hi (by omega) (by omega) (by omega) (by omega) (by omega) (by omega)
theorem beg_h (h : PR p σ τ W N D E) {i k : Nat} (hi : i < N) (hk : k < W) : Pr_startStrand p i k σ = some (0, begH σ p i k) := by
  have bN := h.bN
  have bW := h.bW
  simp (disch := omega) only [Pr_startStrand, isP_1 h hi, isW_1 h hk, bd_s, show ¬ (1 : Int) = 0 by omega, ↓reduceIte, rd_k, wr_k, Int.toNat_natCast, w32_i, tn8]
  rfl
theorem beg_m (τ : Sg) {i k : Nat} (hi : i < 6) (hk : k < 8) : M_strandIs i k τ = some (0, begM τ i k) := by
  simp (disch := omega) only [M_strandIs, rd_k, wr_k, w32_i, tn43, tn49, tn97]
  rfl
end
