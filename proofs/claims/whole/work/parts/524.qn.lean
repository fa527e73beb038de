/-! sets of words; how long together; quiet; the next dinner -/
theorem tbz {x n j : Nat} (h : x < 2 ^ n) (hn : n ≤ j) : x.testBit j = false := Nat.testBit_lt_two_pow (Nat.lt_of_lt_of_le h (Nat.pow_le_pow_right (by omega) hn))
section
variable {p : Nat} {σ τ : Sg} {W N D E : Nat}
theorem sl_w (h : W ≤ 8) : sl32 1 W = (2 : Int) ^ W := by rw [sl_1 (by omega), cast_pow]
theorem pow_pos' (W : Nat) : (1 : Int) ≤ 2 ^ W := by
  have : 0 < 2 ^ W := Nat.pow_pos (by omega)
  rw [← cast_pow]; omega
theorem ws_1 (h : PR p σ τ W N D E) {a : Int} (ha : 0 ≤ a ∧ a < 2 ^ W) : Pr_isWordSet p a σ = some (1, σ) := by
  rw [Pr_isWordSet, h.w, sl_w h.bW, if_neg (by omega), if_pos ha.2]
theorem ws_0 (h : PR p σ τ W N D E) {a : Int} (ha : ¬ (0 ≤ a ∧ a < 2 ^ W)) : Pr_isWordSet p a σ = some (0, σ) := by
  rw [Pr_isWordSet, h.w, sl_w h.bW]
  by_cases e : a < 0
  · rw [if_pos e]
  · rw [if_neg e, if_neg (fun q => ha ⟨by omega, q⟩)]
theorem al_m (h : PR p σ τ W N D E) : M_allWords τ = some ((2 : Int) ^ W - 1, τ) := by
  have q := pow_le h.bW
  have q2 := pow_pos' W
  rw [M_allWords, rd_k (by omega) (by omega), Int.toNat_zero, h.w', sl_w h.bW, w32_i (by omega) (by omega)]
theorem aw_1 (h : PR p σ τ W N D E) {a : Int} (ha : 0 ≤ a ∧ a < 2 ^ W) : M_areWords a τ = some (1, τ) := by
  rw [M_areWords, al_m h, bd_s, in_1 ⟨ha.1, by omega⟩, bd_s, zb_1]
theorem aw_0 (h : PR p σ τ W N D E) {a : Int} (ha : ¬ (0 ≤ a ∧ a < 2 ^ W)) : M_areWords a τ = some (0, τ) := by
  rw [M_areWords, al_m h, bd_s, in_0 (fun q => ha ⟨q.1, by omega⟩), bd_s, zb_0]
end
section
variable {σ τ : Sg} {W N D E : Nat}
theorem k_lengthOf (h : RR σ τ W N D E) (a b : Int) : Ag (H_lengthOf a b σ) (M_lengthOf a b τ) := by
  rw [M_lengthOf]; refine ag_go h (fun τ h hz => ?_)
  rw [H_lengthOf]
  have hp := h.pr
  by_cases ha : 0 ≤ a ∧ a < 2 ^ W
  · rw [ws_1 hp ha, aw_1 hp ha, bd_s, bd_s, if_neg i10, if_neg i10]
    by_cases hb : 0 ≤ b ∧ b ≤ 999
    · rw [wi_1 hb, in_1 hb, bd_s, bd_s, if_neg i10, if_neg i10, gt_h hp a (by omega), gt_m hp, bd_s, bd_s]; exact ag_give h hz _
    · rw [wi_0 hb, in_0 hb, bd_s, bd_s, if_pos rfl, if_pos rfl]; exact ag_fail h 5
  · rw [ws_0 hp ha, aw_0 hp ha, bd_s, bd_s, if_pos rfl, if_pos rfl]; exact ag_fail h 5
theorem for_l (h : RR σ τ W N D E) (hz : τ 0 0 = 0) (a b : Int) : ∀ (m d n n' : Nat), d + m = 100 → m < n → m < n' → Ag (H_daysFor_L30 a b n d σ) (M_daysFor_L38 a b n' d τ) := by
  intro m
  induction m with
  | zero =>
    intro d n n' hd hn hn'
    obtain ⟨n, rfl⟩ : ∃ x, n = x + 1 := ⟨n - 1, by omega⟩
    obtain ⟨n', rfl⟩ : ∃ x, n' = x + 1 := ⟨n' - 1, by omega⟩
    rw [H_daysFor_L30, if_pos (by omega), M_daysFor_L38, if_pos (by omega)]; exact ag_fail h 8
  | succ m ih =>
    intro d n n' hd hn hn'
    obtain ⟨n, rfl⟩ : ∃ x, n = x + 1 := ⟨n - 1, by omega⟩
    obtain ⟨n', rfl⟩ : ∃ x, n' = x + 1 := ⟨n' - 1, by omega⟩
    rw [H_daysFor_L30, if_neg (by omega), M_daysFor_L38, if_neg (by omega), gt_h h.pr a (by omega), gt_m h.pr, bd_s, bd_s]
    by_cases e : gtS (τ 5) a d W < b
    · rw [if_pos e, if_pos e, nm_k, nm_k, w32_i (by omega) (by omega), suc]; exact ih (d + 1) n n' (by omega) (by omega) (by omega)
    · rw [if_neg e, if_neg e]; exact ag_give h hz _
theorem k_daysFor (h : RR σ τ W N D E) (a b : Int) : Ag (H_daysFor a b σ) (M_daysFor a b τ) := by
  rw [M_daysFor]; refine ag_go h (fun τ h hz => ?_)
  rw [H_daysFor]
  have hp := h.pr
  by_cases ha : 0 ≤ a ∧ a < 2 ^ W
  · rw [ws_1 hp ha, aw_1 hp ha, bd_s, bd_s, if_neg i10, if_neg i10]
    by_cases hb : 0 ≤ b ∧ b ≤ 9999
    · rw [wi_1 hb, in_1 hb, bd_s, bd_s, if_neg i10, if_neg i10]
      exact for_l h hz a b 100 0 fu fu (by omega) (by unfold fu; omega) (by unfold fu; omega)
    · rw [wi_0 hb, in_0 hb, bd_s, bd_s, if_pos rfl, if_pos rfl]; exact ag_fail h 5
  · rw [ws_0 hp ha, aw_0 hp ha, bd_s, bd_s, if_pos rfl, if_pos rfl]; exact ag_fail h 5
end
/-- hair of some words in so many days -/
def lnS (c : Nat → Int) (i k : Nat) (d : Int) : Int := w32 (c (49 + (8 * i + k)) + w32 (c (9 + k) * min d (max 0 (w32 (c (17 + k) - c (97 + (8 * i + k)))))))
def hbS (c : Nat → Int) (i : Nat) (s d : Int) : Nat → Int
  | 0 => 0
  | k + 1 => if an32 (sr32 s k) 1 = 1 then w32 (hbS c i s d k + lnS c i k d) else hbS c i s d k
theorem hbS_c (c : Nat → Int) (i : Nat) (s d : Int) : ∀ k, c32 (hbS c i s d k)
  | 0 => c32_0
  | k + 1 => by rw [hbS]; split; exact w32_c _; exact hbS_c c i s d k
theorem hbS_0 (c : Nat → Int) (i : Nat) (d : Int) : ∀ k, k ≤ 8 → hbS c i 0 d k = 0
  | 0, _ => rfl
  | k + 1, h => by
    have := hb_n (a := 0) (k := k) (by omega) (by omega)
    rw [hbS, show (0 : Int) = ((0 : Nat) : Int) from rfl, this]
    simp only [Nat.zero_testBit]
    exact hbS_0 c i d k (by omega)
def SUB (s K : Int) (W : Nat) : Prop := ∀ k : Nat, k < W → an32 (sr32 s k) 1 = 1 → an32 (sr32 K k) 1 = 1
theorem ix97 {i k : Nat} (hi : i < 6) (hk : k < 8) : w32 (w32 (97 + w32 (8 * (i : Int))) + k) = 97 + 8 * (i : Int) + k := by rw [w32_i (x := 8 * (i : Int)) (by omega) (by omega), w32_i (x := 97 + 8 * (i : Int)) (by omega) (by omega), w32_i (by omega) (by omega)]
theorem lnF_d {g y D b s d : Int} (h1 : b ≤ s) (h2 : s ≤ D) (h3 : 1 ≤ y ∧ y ≤ 99) (hd : 0 ≤ d) : lnF g y (D + d) b s = lnF g y D b s + g * min d (max 0 (y - min (D - b) 999)) := by
  unfold lnF
  by_cases e : D < b + y
  · have e1 : (if D + d < b + y then D + d else b + y) = D + min d (max 0 (y - min (D - b) 999)) := by split <;> omega
    rw [e1]
    simp only [if_pos e]
    by_cases q : s < D
    · rw [if_pos q, if_pos (by omega), ← Int.mul_add]
      congr 1; omega
    · rw [if_neg q, Int.zero_add]
      by_cases z : s < D + min d (max 0 (y - min (D - b) 999))
      · rw [if_pos z]; congr 1; omega
      · rw [if_neg z, show min d (max 0 (y - min (D - b) 999)) = 0 by omega, Int.mul_zero]
  · have e1 : min d (max 0 (y - min (D - b) 999)) = 0 := by omega
    rw [e1, Int.mul_zero, Int.add_zero]
    simp only [if_neg e, if_neg (show ¬ D + d < b + y by omega)]
section
variable {p : Nat} {σ τ : Sg} {W N D E : Nat}
/-- the class's length in so many days is the reference's length and what grows -/
theorem ahead_h (h : PR p σ τ W N D E) {i k : Nat} (hi : i < N) (hk : k < W) (hb : an32 (sr32 (τ 5 (43 + i)) k) 1 = 1) {d : Int} (hd : 0 ≤ d ∧ d ≤ 200) : Pr_lengthOn p (w32 (σ p 16 + d)) k (σ (p + 8) (i * 8 + k)) (σ (p + 9) (i * 8 + k)) σ = some (lnS (τ 5) i k d, σ) := by
  have bW := h.bW
  have g1 := h.grb k hk
  have g2 := h.gyb k hk
  have dt := h.dtb
  obtain ⟨b1, b2⟩ := st_b h hi hk hb
  obtain ⟨q1, q2, q3⟩ := h.st i k hi hk hb
  have l1 := h.lnb i k hi (by omega)
  rw [h.dt, w32_i (x := τ 5 6 + d) (by omega) (by omega), len_h h hk (by omega) b1 b2]
  unfold lnS
  have m := mul_b (g := τ 5 (9 + k)) (x := min d (max 0 (τ 5 (17 + k) - τ 5 (97 + (8 * i + k))))) (by omega) (by omega) (by omega) (by omega)
  rw [w32_i (x := τ 5 (17 + k) - τ 5 (97 + (8 * i + k))) (by rw [q2]; omega) (by rw [q2]; omega), w32_i (x := τ 5 (9 + k) * min d (max 0 (τ 5 (17 + k) - τ 5 (97 + (8 * i + k))))) (by omega) (by omega), w32_i (by omega) (by omega)]
  rw [q3, q2, lnF_d q1.2.1 q1.2.2 g2 hd.1]
theorem hk_h (h : PR p σ τ W N D E) {i : Nat} (hi : i < N) {s : Int} {d : Int} (hd : 0 ≤ d ∧ d ≤ 200) (hs : SUB s (τ 5 (43 + i)) W) : Pr_hairKept p i s d σ = some (hbS (τ 5) i s d W, σ) := by
  have bN := h.bN
  have bW := h.bW
  rw [Pr_hairKept]
  refine loopN (X := fun n k => Pr_hairKept_L6 p i s d n (hbS (τ 5) i s d k) k σ) (W := W) ?_ ?_ fu (by unfold fu; omega)
  · intro k n hk
    show Pr_hairKept_L6 p i s d (n + 1) _ k σ = _
    rw [Pr_hairKept_L6, h.w, if_pos (by omega), if_pos (by omega), hbS]
    by_cases e : an32 (sr32 s k) 1 = 1
    · rw [if_pos e, if_pos e, kept_h h hi hk, bd_s, if_pos (hs k hk e), if_neg i10, nm_k, ix8 (by omega) (by omega), rd_k (by omega) (by omega), rd_k (by omega) (by omega), tn8, ahead_h h hi hk (hs k hk e) hd, bd_s, nm_k, nm_k, w32_i (x := (k : Int) + 1) (by omega) (by omega), suc]
    · rw [if_neg e, if_neg e, nm_k, w32_i (x := (k : Int) + 1) (by omega) (by omega), suc]
  · intro n
    show Pr_hairKept_L6 p i s d (n + 1) _ W σ = _
    rw [Pr_hairKept_L6, h.w, if_neg (by omega)]
theorem hb_m (h : PR p σ τ W N D E) {i : Nat} (hi : i < N) (s d : Int) : M_hairBy i s d τ = some (hbS (τ 5) i s d W, τ) := by
  have bN := h.bN
  have bW := h.bW
  rw [M_hairBy]
  refine loopN (X := fun n k => M_hairBy_L6 i s d n (hbS (τ 5) i s d k) k τ) (W := W) ?_ ?_ fu (by unfold fu; omega)
  · intro k n hk
    show M_hairBy_L6 i s d (n + 1) _ k τ = _
    rw [M_hairBy_L6, rd_k (by omega) (by omega), Int.toNat_zero, h.w', if_pos (by omega), has_m, bd_s, hbS]
    by_cases e : an32 (sr32 s k) 1 = 1
    · rw [if_pos e, if_pos e, if_neg i10, M_lengthIn, w32_i (x := 17 + (k : Int)) (by omega) (by omega), rd_k (by omega) (by omega), ix97 (by omega) (by omega), rd_k (by omega) (by omega), nm_k, ix49 (by omega) (by omega), rd_k (by omega) (by omega), w32_i (x := 9 + (k : Int)) (by omega) (by omega), rd_k (by omega) (by omega), bd_s, nm_k, nm_k, tn17, tn97, tn49, tn9, w32_i (x := (k : Int) + 1) (by omega) (by omega), suc]
      rfl
    · rw [if_neg e, if_neg e, if_pos rfl, nm_k, nm_k, Int.add_zero, w32_id (hbS_c _ _ _ _ _), w32_i (x := (k : Int) + 1) (by omega) (by omega), suc]
  · intro n
    show M_hairBy_L6 i s d (n + 1) _ W τ = _
    rw [M_hairBy_L6, rd_k (by omega) (by omega), Int.toNat_zero, h.w', if_neg (by omega)]
theorem sub_h {s K : Nat} (hs : s < 256) (hK : K < 256) : an32 s K = s ↔ SUB s K 8 := by
  rw [an_n (by omega) (by omega)]
  unfold SUB
  constructor
  · intro e k hk
    have e : s &&& K = s := by omega
    rw [hb_n (by omega) (by omega), hb_n (by omega) (by omega)]
    have := congrArg (fun x => x.testBit k) e
    simp only [Nat.testBit_and] at this
    intro q
    cases h1 : s.testBit k
    · rw [h1] at q; simp at q
    · rw [h1] at this; simp at this; simp [this]
  · intro e
    congr 1
    apply Nat.eq_of_testBit_eq
    intro k
    rw [Nat.testBit_and]
    by_cases hk : k < 8
    · have q := e k hk
      rw [hb_n (by omega) (by omega), hb_n (by omega) (by omega)] at q
      cases h1 : s.testBit k
      · rfl
      · rw [h1] at q
        cases h2 : K.testBit k
        · rw [h2] at q; simp at q
        · rfl
    · have : s.testBit k = false := tbz (n := 8) hs (by omega)
      rw [this]; rfl
theorem sub_m {s K : Nat} (hs : s < 256) (hK : K < 256) : an32 s (xo32 K (-1)) = 0 ↔ SUB s K 8 := by
  rw [wo_n (by omega) (by omega), ← sub_h hs hK, an_n (by omega) (by omega)]
  constructor
  · intro e
    have e : wo s K = 0 := by omega
    congr 1
    apply Nat.eq_of_testBit_eq
    intro k
    have := wo_b s K k
    rw [e, Nat.zero_testBit] at this
    rw [Nat.testBit_and]
    cases h1 : s.testBit k
    · rfl
    · rw [h1] at this; simp at this; rw [this]; rfl
  · intro e
    have e : s &&& K = s := by omega
    have : wo s K = 0 := by unfold wo; rw [e, Nat.xor_self]
    rw [this]; rfl
/-- the set is better than the best so far -/
def qT (c : Nat → Int) (i : Nat) (d : Int) (W K b s : Nat) : Prop := SUB s K 8 ∧ ¬ c (25 + i) < hbS c i s d W ∧ (0 < szS s 8 - szS b 8 ∨ (szS s 8 - szS b 8 = 0 ∧ hbS c i b d W < hbS c i s d W))
theorem qs_h (h : PR p σ τ W N D E) {i : Nat} (hi : i < N) {d : Int} (hd : 0 ≤ d ∧ d ≤ 200) {K : Nat} (hK : τ 5 (43 + i) = K) {s b : Nat} (hs : s ≤ K) (hb : b < 256) (n : Nat) :
    (qT (τ 5) i d W K b s ∧ Pr_quietest_L18 p i d (n + 1) b (hbS (τ 5) i b d W) s σ = Pr_quietest_L18 p i d n s (hbS (τ 5) i s d W) (s + 1 : Nat) σ) ∨ (¬ qT (τ 5) i d W K b s ∧ Pr_quietest_L18 p i d (n + 1) b (hbS (τ 5) i b d W) s σ = Pr_quietest_L18 p i d n b (hbS (τ 5) i b d W) (s + 1 : Nat) σ) := by
  have bN := h.bN
  have bW := h.bW
  have g := h.kpb i hi
  have g2 := pow_le bW
  have hs' : s < 256 := by omega
  have hK' : K < 256 := by omega
  have z1 := szS_g s 8
  have z2 := szS_g b 8
  rw [Pr_quietest_L18, rd_k (by omega) (by omega), Int.toNat_natCast, h.kp i hi, hK, if_neg (by omega), rd_k (by omega) (by omega)]
  by_cases e : SUB s K 8
  · have e1 := (sub_h hs' hK').mpr e
    have eS : SUB s (τ 5 (43 + i)) W := fun k hk q => by rw [hK]; exact e k (by omega) q
    rw [if_pos e1, hk_h h hi hd eS, bd_s, bc_n (by omega) (by omega), bd_s, bc_n (by omega) (by omega), bd_s, nm_k, rd_k (by omega) (by omega), h.tp i hi, w32_i (x := szS s 8 - szS b 8) (by omega) (by omega)]
    simp only [nm_k]
    rw [w32_i (x := (s : Int) + 1) (by omega) (by omega), suc]
    by_cases c1 : τ 5 (25 + i) < hbS (τ 5) i s d W
    · rw [if_pos c1]; exact .inr ⟨fun q => q.2.1 c1, rfl⟩
    · rw [if_neg c1]
      by_cases c2 : 0 < szS s 8 - szS b 8
      · rw [if_pos c2]; exact .inl ⟨⟨e, c1, .inl c2⟩, rfl⟩
      · rw [if_neg c2]
        by_cases c3 : szS s 8 - szS b 8 = 0
        · rw [if_pos c3]
          by_cases c4 : hbS (τ 5) i b d W < hbS (τ 5) i s d W
          · rw [if_pos c4]; exact .inl ⟨⟨e, c1, .inr ⟨c3, c4⟩⟩, rfl⟩
          · rw [if_neg c4]; exact .inr ⟨fun q => q.2.2.elim c2 (fun z => c4 z.2), rfl⟩
        · rw [if_neg c3]; exact .inr ⟨fun q => q.2.2.elim c2 (fun z => c3 z.1), rfl⟩
  · rw [if_neg (fun q => e ((sub_h hs' hK').mp q)), nm_k, w32_i (x := (s : Int) + 1) (by omega) (by omega), suc]
    exact .inr ⟨fun q => e q.1, rfl⟩
theorem qs_m (h : PR p σ τ W N D E) {i : Nat} (hi : i < N) (d : Int) {K : Nat} (hK : τ 5 (43 + i) = K) {s b : Nat} (hs : s ≤ K) (n : Nat) :
    (qT (τ 5) i d W K b s → M_quietest_L5 i d (n + 1) b s τ = M_quietest_L5 i d n s (s + 1 : Nat) τ) ∧ (¬ qT (τ 5) i d W K b s → M_quietest_L5 i d (n + 1) b s τ = M_quietest_L5 i d n b (s + 1 : Nat) τ) := by
  have bN := h.bN
  have bW := h.bW
  have g := h.kpb i hi
  have g2 := pow_le bW
  have hs' : s < 256 := by omega
  have hK' : K < 256 := by omega
  have z1 := szS_g s 8
  have z2 := szS_g b 8
  rw [M_quietest_L5, w32_i (x := 43 + (i : Int)) (by omega) (by omega), rd_k (by omega) (by omega), tn43, hK, if_neg (by omega), rd_k (by omega) (by omega)]
  by_cases e : SUB s K 8
  · have e2 := (sub_m hs' hK').mpr e
    rw [if_pos e2, hb_m h hi, bd_s, w32_i (x := 25 + (i : Int)) (by omega) (by omega), rd_k (by omega) (by omega), tn25, sz_m, bd_s, sz_m, bd_s, nm_k, hb_m h hi, bd_s, hb_m h hi, bd_s, w32_i (x := szS s 8 - szS b 8) (by omega) (by omega)]
    simp only [nm_k]
    rw [w32_i (x := (s : Int) + 1) (by omega) (by omega), suc]
    by_cases c1 : τ 5 (25 + i) < hbS (τ 5) i s d W
    · rw [if_pos c1]; exact ⟨fun q => absurd c1 q.2.1, fun _ => rfl⟩
    · rw [if_neg c1]
      by_cases c2 : 0 < szS s 8 - szS b 8
      · rw [if_pos c2]; exact ⟨fun _ => rfl, fun q => absurd ⟨e, c1, .inl c2⟩ q⟩
      · rw [if_neg c2]
        by_cases c3 : szS s 8 - szS b 8 = 0
        · rw [if_pos c3]
          by_cases c4 : hbS (τ 5) i b d W < hbS (τ 5) i s d W
          · rw [if_pos c4]; exact ⟨fun _ => rfl, fun q => absurd ⟨e, c1, .inr ⟨c3, c4⟩⟩ q⟩
          · rw [if_neg c4]; exact ⟨fun q => q.2.2.elim (fun z => absurd z c2) (fun z => absurd z.2 c4), fun _ => rfl⟩
        · rw [if_neg c3]; exact ⟨fun q => q.2.2.elim (fun z => absurd z c2) (fun z => absurd z.1 c3), fun _ => rfl⟩
  · rw [if_neg (fun q => e ((sub_m hs' hK').mp q)), nm_k, w32_i (x := (s : Int) + 1) (by omega) (by omega), suc]
    exact ⟨fun q => absurd q.1 e, fun _ => rfl⟩
theorem quiet_l (h : PR p σ τ W N D E) {i : Nat} (hi : i < N) {d : Int} (hd : 0 ≤ d ∧ d ≤ 200) {K : Nat} (hK : τ 5 (43 + i) = K) : ∀ (m s n n' b : Nat), s + m = K + 1 → m < n → m < n' → b < 256 → SUB b K 8 →
    ∃ r : Nat, Pr_quietest_L18 p i d n b (hbS (τ 5) i b d W) s σ = some ((r : Int), σ) ∧ M_quietest_L5 i d n' b s τ = some ((r : Int), τ) ∧ SUB r K 8 := by
  intro m
  have bN := h.bN
  have bW := h.bW
  have g := h.kpb i hi
  have g2 := pow_le bW
  induction m with
  | zero =>
    intro s n n' b hs hn hn' hb hB
    obtain ⟨n, rfl⟩ : ∃ x, n = x + 1 := ⟨n - 1, by omega⟩
    obtain ⟨n', rfl⟩ : ∃ x, n' = x + 1 := ⟨n' - 1, by omega⟩
    refine ⟨b, ?_, ?_, hB⟩
    · rw [Pr_quietest_L18, rd_k (by omega) (by omega), Int.toNat_natCast, h.kp i hi, hK, if_pos (by omega)]
    · rw [M_quietest_L5, w32_i (by omega) (by omega), rd_k (by omega) (by omega), tn43, hK, if_pos (by omega)]
  | succ m ih =>
    intro s n n' b hs hn hn' hb hB
    obtain ⟨n, rfl⟩ : ∃ x, n = x + 1 := ⟨n - 1, by omega⟩
    obtain ⟨n', rfl⟩ : ∃ x, n' = x + 1 := ⟨n' - 1, by omega⟩
    obtain ⟨m1, m2⟩ := qs_m h hi d hK (s := s) (b := b) (by omega) n'
    rcases qs_h h hi hd hK (s := s) (b := b) (by omega) hb n with ⟨q, e⟩ | ⟨q, e⟩
    · rw [e, m1 q]; exact ih (s + 1) n n' s (by omega) (by omega) (by omega) (by omega) q.1
    · rw [e, m2 q]; exact ih (s + 1) n n' b (by omega) (by omega) (by omega) hb hB
theorem quiet_r (h : PR p σ τ W N D E) {i : Nat} (hi : i < N) {d : Int} (hd : 0 ≤ d ∧ d ≤ 200) : ∃ r : Nat, Pr_quietest p i d σ = some ((r : Int), σ) ∧ M_quietest i d τ = some ((r : Int), τ) ∧ SUB r (τ 5 (43 + i)) W := by
  have g := h.kpb i hi
  have g2 := pow_le h.bW
  have bW := h.bW
  obtain ⟨K, hK⟩ := nat_of g.1
  have q0 : SUB (0 : Nat) K 8 := fun k hk q => by
    have := hb_n (a := 0) (k := k) (by omega) (by omega)
    rw [this] at q; simp at q
  obtain ⟨r, a, b, c⟩ := quiet_l h hi hd hK K 1 fu fu 0 (by omega) (by unfold fu; omega) (by unfold fu; omega) (by omega) q0
  refine ⟨r, ?_, b, fun k hk q => by rw [hK]; exact c k (by omega) q⟩
  rw [Pr_quietest, isP_1 h hi, bd_s, if_neg i10]
  rw [show hbS (τ 5) i ((0 : Nat) : Int) d W = 0 from hbS_0 _ _ _ _ bW] at a
  exact a
end
section
variable {σ τ : Sg} {W N D E : Nat}
theorem k_quiet (h : RR σ τ W N D E) (a b : Int) : Ag (H_quiet a b σ) (M_quiet a b τ) := by
  rw [M_quiet]; refine ag_go h (fun τ h hz => ?_)
  rw [H_quiet]
  rcases as_c h a b with ⟨e1, e2⟩ | ⟨e1, e2, e3⟩ | ⟨e1, e2, e3, i, n, rfl, hi, rfl, hn⟩
  · rw [e1, e2, bd_s, bd_s, if_neg (by omega), if_pos rfl]; exact ag_fail h 2
  · rw [e1, e2, bd_s, bd_s, if_neg (by omega), if_neg i10, e3, bd_s, if_pos rfl]; exact ag_fail h 5
  · obtain ⟨r, a1, a2, a3⟩ := quiet_r h.pr hi (d := (n : Int)) (by omega)
    rw [e1, e2, bd_s, bd_s, if_pos rfl, if_neg i10, e3, bd_s, if_neg i10, a1, a2, bd_s, bd_s]
    exact ag_give h hz _
theorem k_quietHair (h : RR σ τ W N D E) (a b : Int) : Ag (H_quietHair a b σ) (M_quietHair a b τ) := by
  rw [M_quietHair]; refine ag_go h (fun τ h hz => ?_)
  rw [H_quietHair]
  rcases as_c h a b with ⟨e1, e2⟩ | ⟨e1, e2, e3⟩ | ⟨e1, e2, e3, i, n, rfl, hi, rfl, hn⟩
  · rw [e1, e2, bd_s, bd_s, if_neg (by omega), if_pos rfl]; exact ag_fail h 2
  · rw [e1, e2, bd_s, bd_s, if_neg (by omega), if_neg i10, e3, bd_s, if_pos rfl]; exact ag_fail h 5
  · obtain ⟨r, a1, a2, a3⟩ := quiet_r h.pr hi (d := (n : Int)) (by omega)
    rw [e1, e2, bd_s, bd_s, if_pos rfl, if_neg i10, e3, bd_s, if_neg i10, a1, a2, bd_s, bd_s, hk_h h.pr hi (by omega) a3, hb_m h.pr hi, bd_s, bd_s]
    exact ag_give h hz _
/-- when the next dinner is -/
def dsS (c : Nat → Int) (i : Nat) : Nat → Int
  | 0 => 31
  | d + 1 => if c (145 + d) = i ∨ c (151 + d) = i then min (dsS c i d) (c (157 + d) - c 6 % c (157 + d)) else dsS c i d
theorem dsS_p (c : Nat → Int) (i : Nat) : ∀ k, (∀ d, d < k → 1 ≤ c (157 + d) ∧ c (157 + d) ≤ 30) → (1 ≤ dsS c i k ∧ dsS c i k ≤ 31) ∧ (∀ d, d < k → (c (145 + d) = i ∨ c (151 + d) = i) → dsS c i k ≤ c (157 + d) - c 6 % c (157 + d)) ∧
    (dsS c i k = 31 ∨ ∃ d, d < k ∧ (c (145 + d) = i ∨ c (151 + d) = i) ∧ dsS c i k = c (157 + d) - c 6 % c (157 + d))
  | 0, _ => ⟨by simp [dsS], fun d hd => absurd hd (by omega), .inl rfl⟩
  | k + 1, h => by
    obtain ⟨⟨a1, a2⟩, b, e⟩ := dsS_p c i k (fun d hd => h d (by omega))
    have hk := h k (by omega)
    have m1 := Int.emod_nonneg (c 6) (show c (157 + k) ≠ 0 by omega)
    have m2 := Int.emod_lt_of_pos (c 6) (show 0 < c (157 + k) by omega)
    rw [dsS]
    split
    · next g =>
      refine ⟨by omega, fun d hd q => ?_, ?_⟩
      · by_cases z : d = k
        · subst z; omega
        · have := b d (by omega) q; omega
      · by_cases z : dsS c i k ≤ c (157 + k) - c 6 % c (157 + k)
        · rw [Int.min_eq_left z]
          rcases e with e | ⟨d, d1, d2, d3⟩
          · exact .inl e
          · exact .inr ⟨d, by omega, d2, d3⟩
        · exact .inr ⟨k, by omega, g, by omega⟩
    · next g =>
      refine ⟨⟨a1, a2⟩, fun d hd q => ?_, ?_⟩
      · by_cases z : d = k
        · subst z; exact absurd q g
        · exact b d (by omega) q
      · rcases e with e | ⟨d, d1, d2, d3⟩
        · exact .inl e
        · exact .inr ⟨d, by omega, d2, d3⟩
theorem at_c {p : Nat} (h : PR p σ τ W N D E) {d i : Nat} (hd : d < D) : Pr_isAt p d i σ = some (if τ 5 (145 + d) = i ∨ τ 5 (151 + d) = i then 1 else 0, σ) := by
  rw [Pr_isAt, df0 h hd, bd_s]
  by_cases e : τ 5 (145 + d) = i
  · rw [if_pos e, if_pos (.inl e)]
  · rw [if_neg e, df1 h hd, bd_s]
    by_cases e2 : τ 5 (151 + d) = i
    · rw [if_pos e2, if_pos (.inr e2)]
    · rw [if_neg e2, if_neg (fun q => q.elim e e2)]
theorem dw_m {p : Nat} (h : PR p σ τ W N D E) {d : Nat} (i : Int) (hd : d < D) : M_dinesWith d i τ = some (if τ 5 (145 + d) = i ∨ τ 5 (151 + d) = i then 1 else 0, τ) := by
  have bD := h.bD
  rw [M_dinesWith, w32_i (x := 145 + (d : Int)) (by omega) (by omega), rd_k (by omega) (by omega), tn145, w32_i (x := 151 + (d : Int)) (by omega) (by omega), rd_k (by omega) (by omega), tn151]
  by_cases e : τ 5 (145 + d) = i
  · rw [if_pos e, if_pos (.inl e)]
  · rw [if_neg e]
    by_cases e2 : τ 5 (151 + d) = i
    · rw [if_pos e2, if_pos (.inr e2)]
    · rw [if_neg e2, if_neg (fun q => q.elim e e2)]
theorem dines_h (h : RR σ τ W N D E) {i : Nat} {k74 : Int → Sg → Rs} : ∀ (m d n : Nat), d + m = D → m < n → H_dinesIn_L22 i k74 n (dsS (τ 5) i d) d σ = k74 (dsS (τ 5) i D) σ := by
  intro m
  have hp := h.pr
  have bD := hp.bD
  have dt := h.dt
  unfold DT at dt
  induction m with
  | zero =>
    intro d n hd hn
    obtain ⟨n, rfl⟩ : ∃ x, n = x + 1 := ⟨n - 1, by omega⟩
    obtain rfl : d = D := by omega
    rw [H_dinesIn_L22, hp.d, if_neg (by omega)]
  | succ m ih =>
    intro d n hd hn
    obtain ⟨n, rfl⟩ : ∃ x, n = x + 1 := ⟨n - 1, by omega⟩
    have q := hp.d3b d (by omega)
    have w := ih (d + 1) n (by omega) (by omega)
    rw [dsS] at w
    rw [H_dinesIn_L22, hp.d, if_pos (by omega), at_c hp (by omega), bd_s]
    by_cases e : τ 5 (145 + d) = i ∨ τ 5 (151 + d) = i
    · have m1 := Int.emod_nonneg (τ 5 6) (show τ 5 (157 + d) ≠ 0 by omega)
      have m2 := Int.emod_lt_of_pos (τ 5 6) (show 0 < τ 5 (157 + d) by omega)
      rw [if_pos e] at w
      rw [if_pos e, if_neg i10, till_h hp (by omega), bd_s, rm_n (by omega) (by omega) (by omega) (by omega), nm_k, nm_k, w32_i (x := τ 5 (157 + d) - τ 5 6 % τ 5 (157 + d)) (by omega) (by omega), w32_i (by omega) (by omega), suc]
      exact w
    · rw [if_neg e] at w
      rw [if_neg e, if_pos rfl, nm_k, w32_i (by omega) (by omega), suc]
      exact w
/-- on day t somebody dines with him at dinner d -/
def DI (c : Nat → Int) (i : Nat) (t : Int) (d : Nat) : Prop := (c (145 + d) = i ∨ c (151 + d) = i) ∧ (c 6 + t) % c (157 + d) = 0
theorem dines_i (h : RR σ τ W N D E) {i t : Nat} (ht : 1 ≤ t ∧ t ≤ 30) {k26 : Int → Sg → Rs} : ∀ (m d n : Nat), d + m = D → m < n →
    ((∃ d', d ≤ d' ∧ d' < D ∧ DI (τ 5) i t d') ∧ M_dinesIn_L34 i t k26 n d τ = some ((t : Int), τ)) ∨ ((∀ d', d ≤ d' → d' < D → ¬ DI (τ 5) i t d') ∧ M_dinesIn_L34 i t k26 n d τ = k26 (t + 1 : Nat) τ) := by
  intro m
  have hp := h.pr
  have bD := hp.bD
  have dt := h.dt
  unfold DT at dt
  induction m with
  | zero =>
    intro d n hd hn
    obtain ⟨n, rfl⟩ : ∃ x, n = x + 1 := ⟨n - 1, by omega⟩
    refine .inr ⟨fun d' a b => absurd b (by omega), ?_⟩
    rw [M_dinesIn_L34, rd_k (by omega) (by omega), show Int.toNat 2 = 2 from rfl, hp.d', if_neg (by omega), nm_k, w32_i (by omega) (by omega), suc]
  | succ m ih =>
    intro d n hd hn
    obtain ⟨n, rfl⟩ : ∃ x, n = x + 1 := ⟨n - 1, by omega⟩
    have q := hp.d3b d (by omega)
    have w := ih (d + 1) n (by omega) (by omega)
    rw [M_dinesIn_L34, rd_k (by omega) (by omega), show Int.toNat 2 = 2 from rfl, hp.d', if_pos (by omega), dw_m hp _ (by omega), bd_s, nm_k, w32_i (x := (d : Int) + 1) (by omega) (by omega), suc, rd_k (by omega) (by omega), w32_i (x := 157 + (d : Int)) (by omega) (by omega), rd_k (by omega) (by omega), dv_k (by rw [tn157]; omega), tn157, show Int.toNat 6 = 6 from rfl, w32_i (x := τ 5 6 + t) (by omega) (by omega), rm_n (by omega) (by omega) (by omega) (by omega)]
    by_cases e : τ 5 (145 + d) = i ∨ τ 5 (151 + d) = i
    · rw [if_pos e, if_neg i10]
      by_cases e2 : (τ 5 6 + t) % τ 5 (157 + d) = 0
      · rw [if_pos e2]
        exact .inl ⟨⟨d, by omega, by omega, e, e2⟩, rfl⟩
      · rw [if_neg e2]
        rcases w with ⟨⟨d', a1, a2, a3⟩, b⟩ | ⟨a, b⟩
        · exact .inl ⟨⟨d', by omega, a2, a3⟩, b⟩
        · refine .inr ⟨fun d' a1 a2 a3 => ?_, b⟩
          by_cases z : d' = d
          · subst z; exact e2 a3.2
          · exact a d' (by omega) a2 a3
    · rw [if_neg e, if_pos rfl]
      rcases w with ⟨⟨d', a1, a2, a3⟩, b⟩ | ⟨a, b⟩
      · exact .inl ⟨⟨d', by omega, a2, a3⟩, b⟩
      · refine .inr ⟨fun d' a1 a2 a3 => ?_, b⟩
        by_cases z : d' = d
        · subst z; exact e a3.1
        · exact a d' (by omega) a2 a3
theorem md_1 {x e : Int} (he : 0 < e) {t : Int} (h1 : 1 ≤ t) (h2 : t < e - x % e) : ¬ (x + t) % e = 0 := by
  intro q
  have m1 := Int.emod_nonneg x (show e ≠ 0 by omega)
  have e1 : (x + t) % e = (x % e + t) % e := by rw [Int.emod_add_emod]
  rw [e1, Int.emod_eq_of_lt (by omega) (by omega)] at q
  omega
theorem md_2 {x e : Int} (he : 0 < e) : (x + (e - x % e)) % e = 0 := by
  have e1 : x + (e - x % e) = e * (x / e) + e := by have := Int.emod_add_mul_ediv x e; omega
  rw [e1, show e * (x / e) + e = e * (x / e + 1) by rw [Int.mul_add, Int.mul_one]]
  exact Int.mul_emod_right _ _
theorem dines_o (h : RR σ τ W N D E) {i b : Nat} (hb : (b : Int) = dsS (τ 5) i D) : ∀ (m t n : Nat), t + m = b → 1 ≤ t → m < n →
    M_dinesIn_L26 i n t τ = if 30 < b then bd (M_refuse 8 τ) (fun r s => some (r, s)) else some ((b : Int), τ) := by
  intro m
  have hp := h.pr
  have bD := hp.bD
  obtain ⟨p1, p2, p3⟩ := dsS_p (τ 5) i D hp.d3b
  induction m with
  | zero =>
    intro t n ht h1 hn
    obtain ⟨n, rfl⟩ : ∃ x, n = x + 1 := ⟨n - 1, by omega⟩
    obtain rfl : t = b := by omega
    rw [M_dinesIn_L26]
    by_cases e : 30 < t
    · rw [if_pos (by omega), if_pos e]
    · rw [if_neg (by omega), if_neg e]
      rcases dines_i h (i := i) (t := t) (by omega) (k26 := fun x18 s19 => M_dinesIn_L26 i n x18 s19) D 0 fu (by omega) (by unfold fu; omega) with ⟨-, g⟩ | ⟨g, -⟩
      · exact g
      · exfalso
        rcases p3 with q | ⟨d, d1, d2, d3⟩
        · omega
        · refine g d (by omega) d1 ⟨d2, ?_⟩
          rw [hb, d3]; exact md_2 (by have := hp.d3b d d1; omega)
  | succ m ih =>
    intro t n ht h1 hn
    obtain ⟨n, rfl⟩ : ∃ x, n = x + 1 := ⟨n - 1, by omega⟩
    rw [M_dinesIn_L26, if_neg (by omega)]
    rcases dines_i h (i := i) (t := t) (by omega) (k26 := fun x18 s19 => M_dinesIn_L26 i n x18 s19) D 0 fu (by omega) (by unfold fu; omega) with ⟨⟨d, -, d1, d2, d3⟩, -⟩ | ⟨-, g⟩
    · exfalso
      exact md_1 (by have := hp.d3b d d1; omega) (by omega) (by have := p2 d d1 d2; omega) d3
    · exact g.trans (ih (t + 1) n (by omega) (by omega) (by omega))
theorem k_dinesIn (h : RR σ τ W N D E) (a : Int) : Ag (H_dinesIn a σ) (M_dinesIn a τ) := by
  rw [M_dinesIn]; refine ag_go h (fun τ h hz => ?_)
  rw [H_dinesIn]
  have hp := h.pr
  rcases pc a N with ⟨i, rfl, hi⟩ | ha
  · obtain ⟨p1, p2, p3⟩ := dsS_p (τ 5) i D hp.d3b
    obtain ⟨b, hb⟩ := nat_of (x := dsS (τ 5) i D) (by omega)
    rw [isP_1 hp hi, isPm_1 hp hi, bd_s, bd_s, if_neg i10, if_neg i10]
    have e1 := dines_h h (i := i) (k74 := fun x14 s15 => H_dinesIn_J64 x14 s15) D 0 fu (by omega) (by unfold fu; have := hp.bD; omega)
    have e2 := dines_o h (i := i) hb.symm (b - 1) 1 fu (by omega) (by omega) (by unfold fu; omega)
    rw [show H_dinesIn_L22 i (fun x14 s15 => H_dinesIn_J64 x14 s15) fu 31 0 σ = _ from e1, show M_dinesIn_L26 i fu 1 τ = _ from e2, H_dinesIn_J64, hb]
    by_cases e : 30 < b
    · rw [if_pos e, if_pos (by omega)]; exact ag_fail h 8
    · rw [if_neg e, if_neg (by omega)]; exact ag_give h hz _
  · rw [isP_0 hp ha, isPm_0 hp ha, bd_s, bd_s, if_pos rfl, if_pos rfl]; exact ag_fail h 2
end
