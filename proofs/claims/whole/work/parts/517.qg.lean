/-! what is done: words learnt, kept, said; hair cut; days -/
theorem up_c {s : Sg} {a i b j : Nat} {x y : Int} (h : a ≠ b ∨ i ≠ j) : up_s (up_s s a i x) b j y = up_s (up_s s b j y) a i x := by
  funext o k; rw [up_v, up_v, up_v, up_v]
  by_cases e1 : o = a ∧ k = i
  · by_cases e2 : o = b ∧ k = j
    · omega
    · simp only [e1, e2, and_self, ↓reduceIte, if_true, if_false]
      rw [if_neg (by omega)]
  · by_cases e2 : o = b ∧ k = j
    · rw [if_neg e1, if_pos e2, if_neg e1]
    · rw [if_neg e1, if_neg e2, if_neg e1]
theorem up_2 {s : Sg} {a i : Nat} {x y : Int} : up_s (up_s s a i x) a i y = up_s s a i y := by
  funext o k; rw [up_v, up_v, up_v]
  by_cases e1 : o = a ∧ k = i
  · rw [if_pos e1, if_pos e1]
  · rw [if_neg e1, if_neg e1, if_neg e1]
theorem or_a (x y z : Int) : or32 (or32 x y) z = or32 x (or32 y z) := by
  unfold or32; rw [Int32.ofInt_toInt, Int32.ofInt_toInt, Int32.or_assoc]
theorem begM_up {τ : Sg} {b k c : Nat} {x : Int} (h : c ≠ 43 + b ∧ c ≠ 49 + (8 * b + k) ∧ c ≠ 97 + (8 * b + k)) : begM (up_s τ 5 c x) b k = up_s (begM τ b k) 5 c x := by
  unfold begM
  rw [up_k (k := c) (b := 43 + b) (by omega), up_c (i := c) (j := 43 + b) (by omega), up_c (i := c) (j := 49 + (8 * b + k)) (by omega), up_c (i := c) (j := 97 + (8 * b + k)) (by omega)]
/-- strands begun of the words that A tells -/
def bst (A : Nat → Prop) [DecidablePred A] (b : Nat) (s : Sg) : Nat → Sg
  | 0 => s
  | k + 1 => if A k then begM (bst A b s k) b k else bst A b s k
theorem bst_up (A : Nat → Prop) [DecidablePred A] {b c : Nat} {s : Sg} {x : Int} (hc : c < 43 ∨ (c < 49 ∧ c ≠ 43 + b) ∨ (49 ≤ c ∧ c < 97 ∧ (c < 49 + 8 * b ∨ 49 + 8 * b + 8 ≤ c))) (hb : b < 6) : ∀ k, k ≤ 8 → bst A b (up_s s 5 c x) k = up_s (bst A b s k) 5 c x
  | 0, _ => rfl
  | k + 1, hk => by
    rw [bst, bst, bst_up A hc hb k (by omega)]
    split
    · exact begM_up (by omega)
    · rfl
theorem bst_f (A : Nat → Prop) [DecidablePred A] {b : Nat} {s : Sg} (hb : b < 6) : ∀ k, k ≤ 8 → ∀ o c, (o ≠ 5 ∨ c < 43 ∨ (c < 49 ∧ c ≠ 43 + b) ∨ (49 ≤ c ∧ c < 97 ∧ (c < 49 + 8 * b ∨ 49 + 8 * b + 8 ≤ c)) ∨ 145 ≤ c) → bst A b s k o c = s o c
  | 0, _, _, _, _ => rfl
  | k + 1, hk, o, c, h => by
    rw [bst]
    split
    · unfold begM; rw [up_v, if_neg (by omega), up_v, if_neg (by omega), up_v, if_neg (by omega)]; exact bst_f A hb k (by omega) o c h
    · exact bst_f A hb k (by omega) o c h
def cuA (τ : Sg) (i b k : Nat) : Prop := an32 (sr32 (τ 5 (43 + i)) k) 1 = 1 ∧ ¬ τ 5 (49 + (8 * i + k)) < τ 5 4 ∧ ¬ an32 (sr32 (τ 5 (37 + b)) k) 1 = 1
def cuB (τ : Sg) (i b k : Nat) : Bool := decide (an32 (sr32 (τ 5 (43 + i)) k) 1 = 1) && (!decide (τ 5 (49 + (8 * i + k)) < τ 5 4) && !decide (an32 (sr32 (τ 5 (37 + b)) k) 1 = 1))
theorem cuB_A (τ : Sg) (i b k : Nat) : cuB τ i b k = true ↔ cuA τ i b k := by unfold cuB cuA; simp
def cuS (τ : Sg) (i b : Nat) : Nat → Int
  | 0 => 0
  | k + 1 => if cuB τ i b k = true then or32 (cuS τ i b k) (sl32 1 k) else cuS τ i b k
theorem cuS_n (τ : Sg) (i b : Nat) : ∀ n, n ≤ 8 → ∃ m : Nat, cuS τ i b n = m ∧ m < 2 ^ n ∧ ∀ k, m.testBit k = (decide (k < n) && cuB τ i b k)
  | 0, _ => ⟨0, rfl, by omega, fun i => by simp⟩
  | n + 1, h => by
    obtain ⟨m, h1, h2, h3⟩ := cuS_n τ i b n (by omega)
    have e1 : 2 ^ n < 2 ^ (n + 1) := Nat.pow_lt_pow_right (by omega) (by omega)
    have e2 : 2 ^ (n + 1) ≤ 2 ^ 8 := Nat.pow_le_pow_right (by omega) (by omega)
    by_cases hf : cuB τ i b n = true
    · refine ⟨m ||| 2 ^ n, ?_, Nat.or_lt_two_pow (by omega) e1, fun i => ?_⟩
      · rw [cuS, h1, if_pos hf, sl_1 (by omega), or_n (by omega) (by omega)]
      · rw [Nat.testBit_or, h3, Nat.testBit_two_pow]
        by_cases e : n = i
        · subst e; simp [hf]
        · have : (i < n + 1) ↔ (i < n) := by omega
          simp [e, this]
    · refine ⟨m, ?_, by omega, fun i => ?_⟩
      · rw [cuS, h1, if_neg hf]
      · rw [h3]
        by_cases e : n = i
        · subst e; simp at hf; simp [hf]
        · have : (i < n + 1) ↔ (i < n) := by omega
          simp [this]
/-- lengths of the first words cut -/
def cuL (τ : Sg) (i : Nat) : Nat → Sg
  | 0 => τ
  | k + 1 => if an32 (sr32 (τ 5 (43 + i)) k) 1 = 1 then up_s (cuL τ i k) 5 (49 + (8 * i + k)) 0 else cuL τ i k
theorem cuL_f (τ : Sg) (i : Nat) : ∀ k o c, (o ≠ 5 ∨ c < 49 + 8 * i ∨ 49 + (8 * i + k) ≤ c) → cuL τ i k o c = τ o c
  | 0, _, _, _ => rfl
  | k + 1, o, c, h => by
    rw [cuL]
    split
    · rw [up_v, if_neg (by omega)]; exact cuL_f τ i k o c (by omega)
    · exact cuL_f τ i k o c (by omega)
/-- as the class goes: word by word -/
def cuM (τ : Sg) (i b k : Nat) : Sg := bst (fun k => cuB τ i b k = true) b (up_s (cuL τ i k) 5 (37 + b) (or32 (τ 5 (37 + b)) (cuS τ i b k))) k
theorem sl_g {k : Nat} (hk : k < 8) : ∃ m : Nat, sl32 1 k = m ∧ m = 2 ^ k ∧ m < 256 := by
  have h3 : 2 ^ k < 2 ^ 8 := Nat.pow_lt_pow_right (by omega) hk
  exact ⟨2 ^ k, sl_1 (by omega), rfl, by omega⟩
section
variable {p : Nat} {σ τ : Sg} {W N D E : Nat}
theorem cuM_0 (τ : Sg) (i b : Nat) (hc : c32 (τ 5 (37 + b))) : cuM τ i b 0 = τ := by
  unfold cuM; rw [bst, cuL, cuS, or_0 hc, up_same rfl]
theorem cuM_s1 {i b k : Nat} (hib : i ≠ b) (hi : i < 6) (hb : b < 6) (hk : k < 8) (hA : cuB τ i b k = true) :
    cuM τ i b (k + 1) = up_s (begM (up_s (cuM τ i b k) 5 (37 + b) (or32 (cuM τ i b k 5 (37 + b)) (sl32 1 k))) b k) 5 (49 + (8 * i + k)) 0 := by
  have hA' := (cuB_A τ i b k).mp hA
  unfold cuM
  rw [bst, if_pos hA, cuL, if_pos hA'.1, cuS, if_pos hA, bst_up _ (by omega) hb k (by omega), bst_up _ (by omega) hb k (by omega), bst_up _ (by omega) hb k (by omega), up_2, up_e, or_a, up_c (i := 49 + (8 * i + k)) (j := 37 + b) (by omega), begM_up (by omega)]
theorem cuM_s2 {i b k : Nat} (hib : i ≠ b) (hi : i < 6) (hb : b < 6) (hk : k < 8) (hA : ¬ cuB τ i b k = true) (hK : an32 (sr32 (τ 5 (43 + i)) k) 1 = 1) :
    cuM τ i b (k + 1) = up_s (cuM τ i b k) 5 (49 + (8 * i + k)) 0 := by
  unfold cuM
  rw [bst, if_neg hA, cuL, if_pos hK, cuS, if_neg hA, up_c (i := 49 + (8 * i + k)) (j := 37 + b) (by omega), bst_up _ (by omega) hb k (by omega), bst_up _ (by omega) hb k (by omega)]
theorem cuM_s3 {i b k : Nat} (hK : ¬ an32 (sr32 (τ 5 (43 + i)) k) 1 = 1) : cuM τ i b (k + 1) = cuM τ i b k := by
  have hA : ¬ cuB τ i b k = true := fun q => hK ((cuB_A τ i b k).mp q).1
  unfold cuM
  rw [bst, if_neg hA, cuL, if_neg hK, cuS, if_neg hA]
theorem cuM_f {i b k : Nat} (hi : i < 6) (hb : b < 6) (hk : k ≤ 8) {o c : Nat} (h : o ≠ 5 ∨ (c < 43 ∧ c ≠ 37 + b) ∨ (43 ≤ c ∧ c < 49 ∧ c ≠ 43 + b) ∨ 145 ≤ c) : cuM τ i b k o c = τ o c := by
  unfold cuM
  rw [bst_f _ hb k hk o c (by omega), up_v, if_neg (by omega), cuL_f τ i k o c (by omega)]
theorem cuM_l {i b k : Nat} (hib : i ≠ b) (hi : i < 6) (hb : b < 6) (hk : k < 8) : cuM τ i b k 5 (49 + (8 * i + k)) = τ 5 (49 + (8 * i + k)) := by
  unfold cuM
  rw [bst_f _ hb k (by omega) _ _ (by omega), up_k (by omega), cuL_f τ i k _ _ (by omega)]
theorem cuM_k {i b k : Nat} (hb : b < 6) (hk : k ≤ 8) : cuM τ i b k 5 (37 + b) = or32 (τ 5 (37 + b)) (cuS τ i b k) := by
  unfold cuM
  rw [bst_f _ hb k hk _ _ (by omega), up_e]
/-- one bit of what the barber knows, as far as cut -/
theorem cuM_b (h : PR p σ τ W N D E) {i b k : Nat} (hb : b < N) (hk : k < 8) : an32 (sr32 (or32 (τ 5 (37 + b)) (cuS τ i b k)) k) 1 = an32 (sr32 (τ 5 (37 + b)) k) 1 := by
  have q := h.knb b hb
  have hp := pow_le h.bW
  obtain ⟨n, hn⟩ := nat_of q.1
  obtain ⟨m, h1, h2, h3⟩ := cuS_n τ i b k (by omega)
  have e2 : 2 ^ k ≤ 2 ^ 8 := Nat.pow_le_pow_right (by omega) (by omega)
  rw [hn] at q ⊢
  have h4 : n ||| m < 2 ^ 8 := Nat.or_lt_two_pow (by omega) (by omega)
  rw [h1, or_n (by omega) (by omega), hb_n (by omega) (by omega), hb_n (by omega) (by omega), Nat.testBit_or, h3]
  simp
theorem ix49 {i k : Nat} (hi : i < 6) (hk : k < 8) : w32 (w32 (49 + w32 (8 * (i : Int))) + k) = 49 + 8 * (i : Int) + k := by rw [w32_i (x := 8 * (i : Int)) (by omega) (by omega), w32_i (x := 49 + 8 * (i : Int)) (by omega) (by omega), w32_i (by omega) (by omega)]
end
