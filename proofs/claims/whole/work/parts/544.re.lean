/-! which lock to ask for: how many unlike lengths -/
def b64 (x : Int) (k : Nat) : Bool := (Int64.ofInt x).toBitVec.getLsbD k
theorem k64_all : ∀ k : Fin 64, ((Int32.ofInt (k.1 : Int)).toInt64 &&& 63) = Int64.ofInt (k.1 : Int) ∧ (Int64.ofInt (k.1 : Int)).toBitVec.smod 64 = BitVec.ofNat 64 k.1 := by decide +kernel
theorem a64 (B : Int64) : (B &&& 1).toInt = if B.toBitVec.getLsbD 0 = true then 1 else 0 := by
  have e : B &&& 1 = if B.toBitVec.getLsbD 0 = true then 1 else 0 := by
    apply Int64.toBitVec_inj.1
    apply BitVec.eq_of_getLsbD_eq
    intro i hi
    rw [Int64.toBitVec_and, Int64.toBitVec_one, BitVec.getLsbD_and, BitVec.getLsbD_one]
    cases h : B.toBitVec.getLsbD 0
    · rw [if_neg ff_t]
      show _ = (0 : BitVec 64).getLsbD i
      by_cases z : i = 0
      · subst z; rw [h]; simp
      · simp [z]
    · rw [if_pos rfl, Int64.toBitVec_one, BitVec.getLsbD_one]
      by_cases z : i = 0
      · subst z; rw [h]; simp
      · simp [z]
  rw [e]
  split <;> rfl
theorem bt64 {x : Int} {k : Nat} (hk : k < 64) : an64 (sr64 x k) 1 = if b64 x k = true then 1 else 0 := by
  unfold an64 sr64 b64
  obtain ⟨e1, e2⟩ := k64_all ⟨k, hk⟩
  rw [Int64.ofInt_toInt, show Int64.ofInt 1 = 1 from rfl, a64]
  simp only at e1 e2
  rw [e1, Int64.toBitVec_shiftRight, e2, BitVec.sshiftRight_eq', BitVec.getLsbD_sshiftRight]
  have : (BitVec.ofNat 64 k).toNat = k := by rw [BitVec.toNat_ofNat]; exact Nat.mod_eq_of_lt (by omega)
  rw [this]
  simp [hk]
theorem or64_b {x : Int} {k j : Nat} (hk : k < 64) (hj : j < 64) : b64 (or64 x (sl64 1 k)) j = (b64 x j || decide (j = k)) := by
  unfold or64 sl64 b64
  obtain ⟨e1, e2⟩ := k64_all ⟨k, hk⟩
  simp only at e1 e2
  rw [Int64.ofInt_toInt, Int64.ofInt_toInt, e1, Int64.toBitVec_or, BitVec.getLsbD_or, Int64.toBitVec_shiftLeft, e2, show Int64.ofInt 1 = 1 from rfl, Int64.toBitVec_one, BitVec.shiftLeft_eq', BitVec.getLsbD_shiftLeft, BitVec.getLsbD_one]
  have : (BitVec.ofNat 64 k).toNat = k := by rw [BitVec.toNat_ofNat]; exact Nat.mod_eq_of_lt (by omega)
  rw [this]
  congr 1
  by_cases z : j = k
  · subst z; simp [hj]
  · by_cases y : j < k
    · simp [y, z]
    · have : ¬ j - k = 0 := by omega
      simp [y, z, this]
theorem b64_0 (j : Nat) : b64 0 j = false := by unfold b64; simp
/-- unlike lengths along a list -/
def dc (len : Nat → Int) : List Int → List Nat → Nat
  | _, [] => 0
  | pre, x :: l => if len x ∈ pre then dc len pre l else dc len (pre ++ [len x]) l + 1
theorem dc_a (len : Nat → Int) : ∀ (l : List Nat) (pre : List Int) (x : Nat), dc len pre (l ++ [x]) = dc len pre l + if len x ∈ pre ++ l.map len then 0 else 1
  | [], pre, x => by
    rw [List.nil_append, dc, dc, List.map_nil, List.append_nil]
    by_cases e : len x ∈ pre
    · rw [if_pos e, if_pos e]; rfl
    · rw [if_neg e, if_neg e]; rfl
  | y :: l, pre, x => by
    rw [List.cons_append, dc, dc, List.map_cons]
    by_cases e : len y ∈ pre
    · rw [if_pos e, if_pos e, dc_a len l pre x]
      congr 1
      by_cases z : len x ∈ pre ++ l.map len
      · rw [if_pos z, if_pos (by rw [List.mem_append, List.mem_cons]; rw [List.mem_append] at z; exact z.elim .inl (fun w => .inr (.inr w)))]
      · rw [if_neg z, if_neg (fun w => z (by
          rw [List.mem_append, List.mem_cons] at w; rw [List.mem_append]
          rcases w with w | w | w
          · exact .inl w
          · rw [w]; exact .inl e
          · exact .inr w))]
    · rw [if_neg e, if_neg e, dc_a len l (pre ++ [len y]) x]
      have : pre ++ [len y] ++ l.map len = pre ++ len y :: l.map len := by rw [List.append_assoc]; rfl
      rw [this]; omega
theorem dc_le (len : Nat → Int) : ∀ (l : List Nat) (pre : List Int), dc len pre l ≤ l.length
  | [], _ => Nat.le_refl _
  | x :: l, pre => by
    rw [dc, List.length_cons]
    split
    · have := dc_le len l pre; omega
    · have := dc_le len l (pre ++ [len x]); omega
def SEN (σ : Sg) (pre : List Int) : Prop := ∀ v : Nat, v < 7168 → b64 (σ 102 (v / 64)) (v % 64) = decide ((v : Int) ∈ pre)
def F102 (σ σ' : Sg) : Prop := ∀ o k, o ≠ 102 → σ' o k = σ o k
/-- what asking moves -/
def F101 (σ σ' : Sg) : Prop := ∀ o k, o ≠ 102 → (o ≠ 101 ∨ k = 0) → σ' o k = σ o k
section
variable {σ τ σ' τ' : Sg} {W N D E : Nat}
theorem gt_b {p : Nat} (h : PR p σ τ W N D E) (s d : Int) (hd : 0 ≤ d) : ∀ k, k ≤ W → 0 ≤ gtS (τ 5) s d k ∧ gtS (τ 5) s d k ≤ 891 * (k : Int)
  | 0, _ => by rw [gtS]; omega
  | k + 1, hk => by
    have ih := gt_b h s d hd k (by omega)
    have bW := h.bW
    have g := h.grb k (by omega)
    have y := h.gyb k (by omega)
    rw [gtS]
    split
    · have m1 : 0 ≤ min d (τ 5 (17 + k)) ∧ min d (τ 5 (17 + k)) ≤ 99 := by omega
      have m2 : 0 ≤ τ 5 (9 + k) * min d (τ 5 (17 + k)) := Int.mul_nonneg (by omega) m1.1
      have m3 : τ 5 (9 + k) * min d (τ 5 (17 + k)) ≤ 9 * 99 := Int.mul_le_mul g.2 m1.2 m1.1 (by omega)
      rw [w32_i (x := τ 5 (9 + k) * min d (τ 5 (17 + k))) (by omega) (by omega), w32_i (by omega) (by omega)]
      omega
    · omega
theorem ul_h {σ0 : Sg} (h : PR 8 σ0 τ W N D E) {d : Int} (hd : 0 ≤ d) (hM : ∀ x : Nat, x < 2 ^ W → σ0 101 x = gtS (τ 5) (x : Int) d W) : ∀ (l : List Nat) (pre : List Int) (c i n : Nat) (s : Sg), l.length < n → i + l.length ≤ 256 → c ≤ i → s 99 1 = ((i + l.length : Nat) : Int) → CL s i l → F102 σ0 s → SEN s pre → (∀ x, x ∈ l → x < 2 ^ W) →
    ∃ σ', Fi_unlikeLengths_L28 n c i s = some (((c + dc (fun x => gtS (τ 5) x d W) pre l : Nat) : Int), σ') ∧ F102 σ0 σ' := by
  intro l
  have bW := h.bW
  have e8 : 2 ^ W ≤ 2 ^ 8 := Nat.pow_le_pow_right (by omega) bW
  induction l with
  | nil =>
    intro pre c i n s hn hi hc h1 h2 h3 h4 hL
    rw [List.length_nil] at hn h1
    obtain ⟨n, rfl⟩ : ∃ x, n = x + 1 := ⟨n - 1, by omega⟩
    refine ⟨s, ?_, h3⟩
    rw [Fi_unlikeLengths_L28, h1, if_neg (by omega)]; rfl
  | cons x l ih =>
    intro pre c i n s hn hi hc h1 h2 h3 h4 hL
    rw [List.length_cons] at hn hi h1
    obtain ⟨n, rfl⟩ : ∃ x, n = x + 1 := ⟨n - 1, by omega⟩
    have hx : x < 2 ^ W := hL x (List.mem_cons_self ..)
    have hL' : ∀ y, y ∈ l → y < 2 ^ W := fun y hy => hL y (List.mem_cons_of_mem _ hy)
    have g := gt_b h x d hd W (by omega)
    obtain ⟨v, hv⟩ := nat_of g.1
    have v7 : v < 7168 := by omega
    have q4 := h4 v v7
    rw [Fi_unlikeLengths_L28, h1, if_pos (by omega), if_pos (by omega), rd_k (by omega) (by omega), Int.toNat_natCast, h2.1, rd_k (by omega) (by omega), Int.toNat_natCast, h3 _ _ (show (101 : Nat) ≠ 102 by omega), hM x hx, hv, dv_k (by omega), dv_n (by omega) (by omega) (by omega) (by omega), show (v : Int) / 64 = ((v / 64 : Nat) : Int) by omega, if_neg (by omega), if_pos (by omega), rd_k (by omega) (by omega), dv_k (by omega), rm_n (by omega) (by omega) (by omega) (by omega), show (v : Int) % 64 = ((v % 64 : Nat) : Int) by omega, Int.toNat_natCast, bt64 (by omega), dc]
    simp only [hv, nm_k]
    rw [w32_i (x := (i : Int) + 1) (by omega) (by omega), show (i : Int) + 1 = ((i + 1 : Nat) : Int) by omega]
    by_cases e : (v : Int) ∈ pre
    · have q5 : b64 (s 102 (v / 64)) (v % 64) = true := q4.trans (decide_eq_true e)
      have w := ih pre c (i + 1) n s (by omega) (by omega) (by omega) (by rw [h1]; congr 1; omega) h2.2 h3 h4 hL'
      rw [q5, if_pos rfl, if_neg i10, if_pos e]
      exact w
    · have q5 : b64 (s 102 (v / 64)) (v % 64) = false := q4.trans (decide_eq_false e)
      have w := ih (pre ++ [(v : Int)]) (c + 1) (i + 1) n (up_s s 102 (v / 64) (or64 (s 102 (v / 64)) (sl64 1 ((v % 64 : Nat) : Int)))) (by omega) (by omega) (by omega) (by rw [up_o (by omega), h1]; congr 1; omega) (h2.2.cg (fun k _ _ => up_o (by omega))) (fun o k z => by rw [up_o z]; exact h3 o k z) (by
        intro y hy
        have q6 := h4 y hy
        by_cases z : y / 64 = v / 64
        · rw [z, up_e, or64_b (by omega) (by omega), ← z, q6]
          by_cases k : y = v
          · subst k; simp
          · have k2 : ¬ y % 64 = v % 64 := by omega
            have k3 : ¬ (y : Int) = v := by omega
            simp [k2]; omega
        · rw [up_k z, q6]
          have k : ¬ y = v := fun k => z (by rw [k])
          simp; omega) hL'
      rw [q5, if_neg ff_t, if_pos rfl, if_neg e, rd_k (by omega) (by omega), dv_k (by omega), wr_k (by omega) (by omega), w32_i (x := (c : Int) + 1) (by omega) (by omega), show (c : Int) + 1 = ((c + 1 : Nat) : Int) by omega, show c + (dc (fun x => gtS (τ 5) x d W) (pre ++ [(v : Int)]) l + 1) = c + 1 + dc (fun x => gtS (τ 5) x d W) (pre ++ [(v : Int)]) l by omega]
      exact w
theorem un_h {l : List Nat} (h : PR 8 σ τ W N D E) {d : Int} (hd : 0 ≤ d) (hM : ∀ x : Nat, x < 2 ^ W → σ 101 x = gtS (τ 5) (x : Int) d W) (hl : l.length ≤ 256) (hL : ∀ x, x ∈ l → x < 2 ^ W) (hf : FTS σ l) : ∃ σ', Fi_unlikeLengths σ = some (((dc (fun x => gtS (τ 5) x d W) [] l : Nat) : Int), σ') ∧ F102 σ σ' := by
  have z : Fi_unlikeLengths_L2 (fun x3 x4 s5 => Fi_unlikeLengths_L28 fu x3 x4 s5) fu 0 σ = Fi_unlikeLengths_L28 fu 0 0 (fz σ 102 0 112) := by
    have w := loopN (X := fun n k => Fi_unlikeLengths_L2 (fun x3 x4 s5 => Fi_unlikeLengths_L28 fu x3 x4 s5) n k (fz σ 102 0 k)) (W := 112) (R := Fi_unlikeLengths_L28 fu 0 0 (fz σ 102 0 112)) ?_ ?_ fu (by unfold fu; omega)
    · rw [fz_0] at w; exact w
    · intro k n hk
      show Fi_unlikeLengths_L2 _ (n + 1) k _ = _
      have e := fz_s σ 102 0 k
      rw [Nat.zero_add] at e
      rw [Fi_unlikeLengths_L2, if_pos (by omega), wr_k (by omega) (by omega), Int.toNat_natCast, nm_k, e, w32_i (by omega) (by omega), suc]
    · intro n
      show Fi_unlikeLengths_L2 _ (n + 1) (112 : Nat) _ = _
      rw [Fi_unlikeLengths_L2, if_neg (by omega)]
  obtain ⟨σ', a, b⟩ := ul_h h hd hM l [] 0 0 fu (fz σ 102 0 112) (by unfold fu; omega) (by omega) (by omega) (by rw [fz_o (by omega), Nat.zero_add]; exact hf.1) (hf.2.cg (fun k _ _ => fz_o (by omega))) (fun o k y => fz_o (by omega)) (fun v hv => by rw [fz_i (by omega), b64_0]; simp) hL
  refine ⟨σ', ?_, b⟩
  rw [Fi_unlikeLengths, z]
  rw [Nat.zero_add] at a
  exact a
end
