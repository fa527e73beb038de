/-! sets as sums of bits; the calls that only read -/
def orS (f : Nat → Bool) : Nat → Int
  | 0 => 0
  | q + 1 => or32 (orS f q) (if f q then sl32 1 q else 0)
theorem orS_n (f : Nat → Bool) : ∀ n, n ≤ 30 → ∃ m : Nat, orS f n = m ∧ m < 2 ^ n ∧ ∀ i, m.testBit i = (decide (i < n) && f i)
  | 0, _ => ⟨0, rfl, by omega, fun i => by simp⟩
  | n + 1, h => by
    obtain ⟨m, h1, h2, h3⟩ := orS_n f n (by omega)
    have e1 : 2 ^ n < 2 ^ (n + 1) := Nat.pow_lt_pow_right (by omega) (by omega)
    have e2 : 2 ^ (n + 1) ≤ 2 ^ 30 := Nat.pow_le_pow_right (by omega) (by omega)
    by_cases hf : f n = true
    · refine ⟨m ||| 2 ^ n, ?_, Nat.or_lt_two_pow (by omega) e1, fun i => ?_⟩
      · rw [orS, h1, if_pos hf, sl_1 (by omega), or_n (by omega) (by omega)]
      · rw [Nat.testBit_or, h3, Nat.testBit_two_pow]
        by_cases e : n = i
        · subst e; simp [hf]
        · have : (i < n + 1) ↔ (i < n) := by omega
          simp [e, this]
    · refine ⟨m, ?_, by omega, fun i => ?_⟩
      · rw [orS, h1, if_neg hf]; exact or_0 (by unfold c32; omega)
      · rw [h3]
        by_cases e : n = i
        · subst e; simp at hf; simp [hf]
        · have : (i < n + 1) ↔ (i < n) := by omega
          simp [this]
theorem bsum_o (c : Nat → Int) : ∀ n, bsum c n = orS (fun i => decide (c (31 + i) = 1)) n
  | 0 => rfl
  | n + 1 => by rw [bsum, orS, bsum_o c n]; simp
theorem pwS_o (c : Nat → Int) (row : Nat) (k : Int) : ∀ n, pwS c row k n = orS (fun q => decide (an32 (sr32 (c (row + q)) k) 1 = 1)) n
  | 0 => rfl
  | n + 1 => by rw [pwS, orS, pwS_o c row k n]; simp
theorem orS_b (f : Nat → Bool) {n i : Nat} (hn : n ≤ 30) (hi : i < n) : an32 (sr32 (orS f n) i) 1 = if f i then 1 else 0 := by
  obtain ⟨m, h1, h2, h3⟩ := orS_n f n hn
  have e2 : 2 ^ n ≤ 2 ^ 30 := Nat.pow_le_pow_right (by omega) (by omega)
  rw [h1, hb_n (by omega) (by omega), h3]; simp [hi]
theorem orS_g (f : Nat → Bool) {n : Nat} (hn : n ≤ 6) : 0 ≤ orS f n ∧ orS f n < 64 := by
  obtain ⟨m, h1, h2, h3⟩ := orS_n f n (by omega)
  have e2 : 2 ^ n ≤ 2 ^ 6 := Nat.pow_le_pow_right (by omega) (by omega)
  omega
/-- how many bits -/
def szS (a : Int) : Nat → Int
  | 0 => 0
  | k + 1 => if an32 (sr32 a k) 1 = 1 then szS a k + 1 else szS a k
theorem szS_g (a : Int) : ∀ k, 0 ≤ szS a k ∧ szS a k ≤ k
  | 0 => by simp [szS]
  | k + 1 => by have := szS_g a k; rw [szS]; split <;> omega
theorem sz_m (a : Int) (τ : Sg) : M_sizeOf a τ = some (szS a 8, τ) := by
  rw [M_sizeOf]
  refine loopN (X := fun n k => M_sizeOf_L4 a n (szS a k) k τ) (W := 8) ?_ ?_ fu (by unfold fu; omega)
  · intro k n hk
    have h1 : (k : Int) < 8 := by omega
    have h2 := szS_g a k
    simp (disch := omega) only [M_sizeOf_L4, h1, ↓reduceIte, has_m, bd_s, nm_k, w32_i, Int.add_zero, suc, szS]
    by_cases e : an32 (sr32 a k) 1 = 1
    · simp only [e, ↓reduceIte, i10]
    · simp only [e, ↓reduceIte]
  · intro n
    rw [M_sizeOf_L4, if_neg (by omega)]
def bcf (a : Int) : Int :=
  let x1 := w32 (a - (an32 (su32 a 1) 1431655765))
  let x2 := w32 ((an32 x1 858993459) + (an32 (su32 x1 2) 858993459))
  let x3 := an32 (w32 (x2 + (su32 x2 4))) 252645135
  let x4 := w32 (x3 + (su32 x3 8))
  let x5 := w32 (x4 + (su32 x4 16))
  an32 x5 63
theorem bcf_all : ∀ m : Fin 256, bcf (m.1 : Nat) = szS (m.1 : Nat) 8 := by decide +kernel
theorem bc_n {a : Int} (h0 : 0 ≤ a) (h1 : a < 256) (σ : Sg) : JI_bitCount a σ = some (szS a 8, σ) := by
  obtain ⟨m, rfl⟩ := nat_of h0
  rw [← bcf_all ⟨m, by omega⟩]
  rfl
section
variable {σ τ : Sg} {W N D E : Nat}
theorem barb_h {p : Nat} (h : PR p σ τ W N D E) {i : Nat} (hi : i < N) : Pr_isBarber p i σ = some (τ 5 (31 + i), σ) := by
  have bN := h.bN
  rw [Pr_isBarber, isP_1 h hi, bd_s, if_neg i10, h.ba, bsum_o, orS_b _ (by omega) hi]
  rcases h.bab i hi with e | e
  · simp [e]
  · simp [e]
theorem ag_m1 {x : Rs} {f : Sg → Rs} (h : RR σ τ W N D E) (hs : σ 0 0 = τ 0 0) (k : ∀ τ', RR σ τ' W N D E → σ 0 0 = τ' 0 0 → Ag x (f τ')) : Ag x (nm (up_s τ 0 1 0) f) :=
  k _ (h.t1 0) (by rw [up_k (by omega)]; exact hs)
theorem k_status (h : RR σ τ W N D E) (hs : σ 0 0 = τ 0 0) : Ag (H_status σ) (M_status τ) := by
  rw [M_status]; refine ag_m1 h hs (fun τ h hs => ?_)
  rw [H_status, hs]; exact ag_h h hs _
theorem k_top (h : RR σ τ W N D E) (hs : σ 0 0 = τ 0 0) : Ag (H_top σ) (M_top τ) := by
  rw [M_top]; refine ag_m1 h hs (fun τ h hs => ?_)
  rw [H_top, h.rb.tp]; exact ag_h h hs _
theorem k_bottom (h : RR σ τ W N D E) (hs : σ 0 0 = τ 0 0) : Ag (H_bottom σ) (M_bottom τ) := by
  rw [M_bottom]; refine ag_m1 h hs (fun τ h hs => ?_)
  rw [H_bottom, h.rb.bt]; exact ag_h h hs _
theorem k_fault (h : RR σ τ W N D E) (hs : σ 0 0 = τ 0 0) (a : Int) : Ag (H_fault a σ) (M_fault a τ) := by
  rw [M_fault]; refine ag_m1 h hs (fun τ h hs => ?_)
  rw [H_fault]
  by_cases e : a = 0
  · rw [if_pos e, if_pos e, h.rb.fk]; exact ag_h h hs _
  · rw [if_neg e, if_neg e]
    by_cases e : a = 1
    · rw [if_pos e, if_pos e, h.rb.fp]; exact ag_h h hs _
    · rw [if_neg e, if_neg e]; exact ag_h h hs _
theorem k_lived (h : RR σ τ W N D E) (a : Int) : Ag (H_lived a σ) (M_lived a τ) := by
  rw [M_lived]; refine ag_go h (fun τ h hz => ?_)
  rw [H_lived]
  by_cases ha : 0 ≤ a ∧ a ≤ 4
  · obtain ⟨i, rfl⟩ := nat_of ha.1
    rw [wi_1 ha, in_1 ha, bd_s, bd_s, if_neg i10, if_neg i10, rd_k (by omega) (by omega), rd_k (by omega) (by omega), Int.toNat_natCast]
    rcases h.rb.lv with ⟨q1, q2⟩ | ⟨q1, q2⟩
    · rw [q1, q2 i (by omega), if_pos rfl, if_pos rfl]; exact ag_fail h 8
    · have q3 := q2 i (by omega)
      rw [q1, q3.1, if_neg i10, if_neg (by omega), rd_k (by omega) (by omega)]; exact ag_give h hz _
  · rw [wi_0 ha, in_0 ha, bd_s, bd_s, if_pos rfl, if_pos rfl]; exact ag_fail h 5
theorem k_many (h : RR σ τ W N D E) (a : Int) : Ag (H_many a σ) (M_many a τ) := by
  rw [M_many]; refine ag_go h (fun τ h hz => ?_)
  rw [H_many]
  have hp := h.pr
  by_cases ha : 0 ≤ a ∧ a ≤ 10
  · rw [in_1 ha, bd_s, if_neg i10]
    have q : a = 0 ∨ a = 1 ∨ a = 2 ∨ a = 3 ∨ a = 4 ∨ a = 5 ∨ a = 6 ∨ a = 7 ∨ a = 8 ∨ a = 9 ∨ a = 10 := by omega
    rcases q with rfl | rfl | rfl | rfl | rfl | rfl | rfl | rfl | rfl | rfl | rfl <;> simp (disch := omega) only [sw, Int.reduceEq, Int.reduceLT, Int.reduceLE, Int.reduceAdd, Int.reduceSub, Int.reduceMul, Int.reduceNeg, Int.reduceToNat, ↓reduceIte, rd_k, w32_i]
    · rw [hp.w, hp.w']; exact ag_give h hz _
    · rw [hp.n, hp.n']; exact ag_give h hz _
    · rw [hp.d, hp.d']; exact ag_give h hz _
    · rw [hp.e, hp.e']; exact ag_give h hz _
    · rw [hp.hd]; exact ag_give h hz _
    · rw [hp.od]; exact ag_give h hz _
    · rw [hp.dt]; exact ag_give h hz _
    · rw [hp.ba, barbers_m hp, bd_s]; exact ag_give h hz _
    · rw [hp.sd]; exact ag_give h hz _
    · rw [hp.ct]; exact ag_give h hz _
    · rw [all_h hp, all_m hp, bd_s, bd_s]; exact ag_give h hz _
  · rw [in_0 ha, bd_s, if_pos rfl, sw_n (by simp; omega)]; exact ag_fail h 5
theorem k_word (h : RR σ τ W N D E) (a b : Int) : Ag (H_word a b σ) (M_word a b τ) := by
  rw [M_word]; refine ag_go h (fun τ h hz => ?_)
  rw [H_word]
  have hp := h.pr
  have bW := hp.bW
  rcases pc a W with ⟨i, rfl, hi⟩ | ha
  · rw [isW_1 hp hi, isWm_1 hp hi, bd_s, bd_s, if_neg i10, if_neg i10]
    by_cases hb : 0 ≤ b ∧ b ≤ 4
    · rw [in_1 hb, bd_s, if_neg i10]
      have q : b = 0 ∨ b = 1 ∨ b = 2 ∨ b = 3 ∨ b = 4 := by omega
      rcases q with rfl | rfl | rfl | rfl | rfl <;> simp (disch := omega) only [sw, Int.reduceEq, Int.reduceLT, Int.reduceLE, Int.reduceAdd, Int.reduceSub, Int.reduceMul, Int.reduceNeg, Int.reduceToNat, ↓reduceIte, rd_k, w32_i, Int.toNat_natCast, tn9, tn17]
      · rw [hp.gr i hi]; exact ag_give h hz _
      · rw [hp.gy i hi]; exact ag_give h hz _
      · rw [knowers_h hp (by omega), pw37_m hp, bd_s, bd_s]; exact ag_give h hz _
      · rw [keepers_h hp (by omega), pw43_m hp, bd_s, bd_s]; exact ag_give h hz _
      · rw [hp.oh i hi, halves_m hp, bd_s]; exact ag_give h hz _
    · rw [in_0 hb, bd_s, if_pos rfl, sw_n (by simp; omega)]; exact ag_fail h 5
  · rw [isW_0 hp ha, isWm_0 hp ha, bd_s, bd_s, if_pos rfl, if_pos rfl]; exact ag_fail h 2
theorem k_person (h : RR σ τ W N D E) (a b : Int) : Ag (H_person a b σ) (M_person a b τ) := by
  rw [M_person]; refine ag_go h (fun τ h hz => ?_)
  rw [H_person]
  have hp := h.pr
  have bN := hp.bN
  rcases pc a N with ⟨i, rfl, hi⟩ | ha
  · rw [isP_1 hp hi, isPm_1 hp hi, bd_s, bd_s, if_neg i10, if_neg i10]
    by_cases hb : 0 ≤ b ∧ b ≤ 4
    · rw [in_1 hb, bd_s, if_neg i10]
      have q : b = 0 ∨ b = 1 ∨ b = 2 ∨ b = 3 ∨ b = 4 := by omega
      rcases q with rfl | rfl | rfl | rfl | rfl <;> simp (disch := omega) only [sw, Int.reduceEq, Int.reduceLT, Int.reduceLE, Int.reduceAdd, Int.reduceSub, Int.reduceMul, Int.reduceNeg, Int.reduceToNat, ↓reduceIte, rd_k, w32_i, Int.toNat_natCast, tn25, tn31, tn37, tn43]
      · rw [hp.tp i hi]; exact ag_give h hz _
      · rw [barb_h hp hi, bd_s]
        rcases hp.bab i hi with e | e
        · rw [e, if_pos rfl]; exact ag_give h hz _
        · rw [e, if_neg i10]; exact ag_give h hz _
      · rw [hp.kn i hi]; exact ag_give h hz _
      · rw [hp.kp i hi]; exact ag_give h hz _
      · rw [hair_h hp hi, hair_m hp hi, bd_s, bd_s]; exact ag_give h hz _
    · rw [in_0 hb, bd_s, if_pos rfl, sw_n (by simp; omega)]; exact ag_fail h 5
  · rw [isP_0 hp ha, isPm_0 hp ha, bd_s, bd_s, if_pos rfl, if_pos rfl]; exact ag_fail h 2
theorem k_strand (h : RR σ τ W N D E) (a b d : Int) : Ag (H_strand a b d σ) (M_strand a b d τ) := by
  rw [M_strand]; refine ag_go h (fun τ h hz => ?_)
  rw [H_strand]
  have hp := h.pr
  have bN := hp.bN
  have bW := hp.bW
  rcases pc a N with ⟨i, rfl, hi⟩ | ha
  · rw [isP_1 hp hi, isPm_1 hp hi, bd_s, bd_s, if_neg i10, if_neg i10]
    rcases pc b W with ⟨w, rfl, hw⟩ | hb
    · rw [isW_1 hp hw, isWm_1 hp hw, bd_s, bd_s, if_neg i10, if_neg i10]
      by_cases hd : 0 ≤ d ∧ d ≤ 1
      · rw [wi_1 hd, in_1 hd, bd_s, bd_s, if_neg i10, if_neg i10, kept_h hp hi hw, keeps_m τ w (by omega), bd_s, bd_s]
        by_cases e : an32 (sr32 (τ 5 (43 + i)) w) 1 = 1
        · have e' := e
          simp (disch := omega) only [e, ↓reduceIte, i10, nm_k, w32_i, rd_k, tn8, tn49, tn97]
          by_cases e : d = 0
          · rw [if_pos e, if_pos e, slen_h hp hi hw e', bd_s]; exact ag_give h hz _
          · rw [if_neg e, if_neg e, sage_h hp hi hw e', bd_s]; exact ag_give h hz _
        · simp only [e, ↓reduceIte]; exact ag_fail h 8
      · rw [wi_0 hd, in_0 hd, bd_s, bd_s, if_pos rfl, if_pos rfl]; exact ag_fail h 5
    · rw [isW_0 hp hb, isWm_0 hp hb, bd_s, bd_s, if_pos rfl, if_pos rfl]; exact ag_fail h 2
  · rw [isP_0 hp ha, isPm_0 hp ha, bd_s, bd_s, if_pos rfl, if_pos rfl]; exact ag_fail h 2
theorem k_dinner (h : RR σ τ W N D E) (a b : Int) : Ag (H_dinner a b σ) (M_dinner a b τ) := by
  rw [M_dinner]; refine ag_go h (fun τ h hz => ?_)
  rw [H_dinner]
  have hp := h.pr
  have bD := hp.bD
  rw [hp.d, w32_i (by omega) (by omega)]
  rcases pc a D with ⟨i, rfl, hi⟩ | ha
  · rw [wi_1 (by omega), isDm_1 hp hi, bd_s, bd_s, if_neg i10, if_neg i10]
    by_cases hb : 0 ≤ b ∧ b ≤ 2
    · rw [wi_1 hb, in_1 hb, bd_s, bd_s, if_neg i10, if_neg i10]
      have q : b = 0 ∨ b = 1 ∨ b = 2 := by omega
      rcases q with rfl | rfl | rfl <;> simp (disch := omega) only [Int.reduceEq, Int.reduceLT, Int.reduceLE, Int.reduceAdd, Int.reduceSub, Int.reduceMul, Int.reduceNeg, Int.reduceToNat, ↓reduceIte, rd_k, w32_i, tn145, tn151, tn157]
      · rw [df0 hp hi, bd_s]; exact ag_give h hz _
      · rw [df1 hp hi, bd_s]; exact ag_give h hz _
      · rw [df2 hp hi, bd_s]; exact ag_give h hz _
    · rw [wi_0 hb, in_0 hb, bd_s, bd_s, if_pos rfl, if_pos rfl]; exact ag_fail h 5
  · rw [wi_0 (by omega), isDm_0 hp ha, bd_s, bd_s, if_pos rfl, if_pos rfl]; exact ag_fail h 2
theorem k_longest (h : RR σ τ W N D E) (a : Int) : Ag (H_longest a σ) (M_longest a τ) := by
  rw [M_longest]; refine ag_go h (fun τ h hz => ?_)
  rw [H_longest]
  have hp := h.pr
  have bN := hp.bN
  rcases pc a N with ⟨i, rfl, hi⟩ | ha
  · rw [isP_1 hp hi, isPm_1 hp hi, bd_s, bd_s, if_neg i10, if_neg i10, rd_k (by omega) (by omega), Int.toNat_natCast, hp.kp i hi, w32_i (by omega) (by omega), rd_k (by omega) (by omega), tn43, long_h hp hi, long_m hp hi, bd_s, bd_s]
    rcases longS_r (τ 5) i (τ 5 (43 + i)) W with e | ⟨j, hj, e, -⟩
    · rw [e, if_pos rfl, if_pos (by omega)]; exact ag_fail h 8
    · rw [e, if_neg (by omega), if_neg (by omega)]; exact ag_give h hz _
  · rw [isP_0 hp ha, isPm_0 hp ha, bd_s, bd_s, if_pos rfl, if_pos rfl]; exact ag_fail h 2
end
