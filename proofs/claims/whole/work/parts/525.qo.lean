/-! who can have told; rumours -/
/-- dinner d is of q and r -/
def dwB (c : Nat → Int) (d q r : Nat) : Bool := (decide (c (145 + d) = q) && decide (c (151 + d) = r)) || (decide (c (145 + d) = r) && decide (c (151 + d) = q))
def adB (c : Nat → Int) (q r : Nat) : Nat → Bool
  | 0 => false
  | d + 1 => adB c q r d || dwB c d q r
theorem adB_e (c : Nat → Int) (q r : Nat) : ∀ k, adB c q r k = true ↔ ∃ d, d < k ∧ dwB c d q r = true
  | 0 => ⟨fun h => by simp [adB] at h, fun ⟨d, h, _⟩ => absurd h (by omega)⟩
  | k + 1 => by
    rw [adB, Bool.or_eq_true, adB_e c q r k]
    constructor
    · rintro (⟨d, a, b⟩ | a)
      · exact ⟨d, by omega, b⟩
      · exact ⟨k, by omega, a⟩
    · rintro ⟨d, a, b⟩
      by_cases e : d = k
      · subst e; exact .inr b
      · exact .inl ⟨d, by omega, b⟩
section
variable {p : Nat} {σ τ : Sg} {W N D E : Nat}
/-- those who dine with both -/
theorem dw_2 (h : PR p σ τ W N D E) {d q r : Nat} (hd : d < D) : ((τ 5 (145 + d) = q ∨ τ 5 (151 + d) = q) ∧ (τ 5 (145 + d) = r ∨ τ 5 (151 + d) = r) ∧ ¬ (q : Int) = r) ↔ dwB (τ 5) d q r = true := by
  have g := h.d12 d hd
  unfold dwB
  simp only [Bool.or_eq_true, Bool.and_eq_true, decide_eq_true_eq]
  omega
theorem din_m (h : PR p σ τ W N D E) (q r : Nat) : ∀ (m d n : Nat), d + m = D → m < n →
    ((∃ d', d ≤ d' ∧ d' < D ∧ dwB (τ 5) d' q r = true) ∧ M_areDining_L2 q r n d τ = some (1, τ)) ∨ ((∀ d', d ≤ d' → d' < D → ¬ dwB (τ 5) d' q r = true) ∧ M_areDining_L2 q r n d τ = some (0, τ)) := by
  intro m
  have bD := h.bD
  induction m with
  | zero =>
    intro d n hd hn
    obtain ⟨n, rfl⟩ : ∃ x, n = x + 1 := ⟨n - 1, by omega⟩
    refine .inr ⟨fun d' a b => absurd b (by omega), ?_⟩
    rw [M_areDining_L2, rd_k (by omega) (by omega), show Int.toNat 2 = 2 from rfl, h.d', if_neg (by omega)]
  | succ m ih =>
    intro d n hd hn
    obtain ⟨n, rfl⟩ : ∃ x, n = x + 1 := ⟨n - 1, by omega⟩
    have w := ih (d + 1) n (by omega) (by omega)
    have key := dw_2 h (d := d) (q := q) (r := r) (by omega)
    have no : ¬ dwB (τ 5) d q r = true → ((∃ d', d ≤ d' ∧ d' < D ∧ dwB (τ 5) d' q r = true) ∧ M_areDining_L2 q r n (d + 1 : Nat) τ = some (1, τ)) ∨ ((∀ d', d ≤ d' → d' < D → ¬ dwB (τ 5) d' q r = true) ∧ M_areDining_L2 q r n (d + 1 : Nat) τ = some (0, τ)) := by
      intro e
      rcases w with ⟨⟨d', a1, a2, a3⟩, b⟩ | ⟨a, b⟩
      · exact .inl ⟨⟨d', by omega, a2, a3⟩, b⟩
      · refine .inr ⟨fun d' a1 a2 a3 => ?_, b⟩
        by_cases z : d' = d
        · subst z; exact e a3
        · exact a d' (by omega) a2 a3
    rw [M_areDining_L2, rd_k (by omega) (by omega), show Int.toNat 2 = 2 from rfl, h.d', if_pos (by omega), dw_m h _ (by omega), bd_s, dw_m h _ (by omega), bd_s, nm_k, w32_i (x := (d : Int) + 1) (by omega) (by omega), suc]
    by_cases e1 : τ 5 (145 + d) = q ∨ τ 5 (151 + d) = q
    · rw [if_pos e1, if_neg i10]
      by_cases e2 : τ 5 (145 + d) = r ∨ τ 5 (151 + d) = r
      · rw [if_pos e2, if_neg i10]
        by_cases e3 : (q : Int) = r
        · rw [if_pos e3]; exact no (fun z => (key.mpr z).2.2 e3)
        · rw [if_neg e3]; exact .inl ⟨⟨d, by omega, by omega, key.mp ⟨e1, e2, e3⟩⟩, rfl⟩
      · rw [if_neg e2, if_pos rfl]; exact no (fun z => e2 (key.mpr z).2.1)
    · rw [if_neg e1, if_pos rfl]; exact no (fun z => e1 (key.mpr z).1)
theorem ad_m (h : PR p σ τ W N D E) (q r : Nat) : M_areDining q r τ = some (if adB (τ 5) q r D then 1 else 0, τ) := by
  have bD := h.bD
  rw [M_areDining]
  rcases din_m h q r D 0 fu (by omega) (by unfold fu; omega) with ⟨⟨d, a1, a2, a3⟩, b⟩ | ⟨a, b⟩
  · rw [if_pos ((adB_e _ _ _ _).mpr ⟨d, a2, a3⟩)]; exact b
  · rw [if_neg (fun z => by obtain ⟨d, z1, z2⟩ := (adB_e _ _ _ _).mp z; exact a d (by omega) z1 z2)]; exact b
/-- all who share a dinner with somebody of a set -/
def cmS (c : Nat → Int) (S : Int) : Nat → Int
  | 0 => 0
  | d + 1 => or32 (or32 (cmS c S d) (sl32 (an32 (sr32 S (c (145 + d))) 1) (c (151 + d)))) (sl32 (an32 (sr32 S (c (151 + d))) 1) (c (145 + d)))
theorem cm_h (h : PR p σ τ W N D E) (S : Int) : Pr_companions p S σ = some (cmS (τ 5) S D, σ) := by
  have bD := h.bD
  rw [Pr_companions]
  refine loopN (X := fun n k => Pr_companions_L4 p S n (cmS (τ 5) S k) k σ) (W := D) ?_ ?_ fu (by unfold fu; omega)
  · intro k n hk
    show Pr_companions_L4 p S (n + 1) _ k σ = _
    rw [Pr_companions_L4, h.d, if_pos (by omega), if_pos (by omega), df0 h hk, bd_s, df1 h hk, bd_s, nm_k, nm_k, nm_k, w32_i (by omega) (by omega), suc, cmS]
  · intro n
    show Pr_companions_L4 p S (n + 1) _ D σ = _
    rw [Pr_companions_L4, h.d, if_neg (by omega)]
theorem sl_hn {S a b : Nat} (hS : S < 64) (ha : a < 6) (hb : b < 6) : ∃ m : Nat, sl32 (an32 (sr32 (S : Int) a) 1) b = m ∧ m < 64 ∧ ∀ j, m.testBit j = (S.testBit a && decide (j = b)) := by
  rw [hb_n (by omega) (by omega)]
  cases e : S.testBit a
  · refine ⟨0, ?_, by omega, fun j => by simp⟩
    rw [if_neg (by simp)]; exact sl_0 (by omega)
  · have h3 : 2 ^ b < 2 ^ 6 := Nat.pow_lt_pow_right (by omega) hb
    refine ⟨2 ^ b, ?_, by omega, fun j => ?_⟩
    · rw [if_pos rfl]; exact sl_1 (by omega)
    · rw [Nat.testBit_two_pow]; simp [eq_comm]
theorem cm_n (h : PR p σ τ W N D E) {S : Nat} (hS : S < 64) : ∀ k, k ≤ D → ∃ m : Nat, cmS (τ 5) S k = m ∧ m < 64 ∧ ∀ j, j < 6 → (m.testBit j = true ↔ ∃ q, q < N ∧ S.testBit q = true ∧ adB (τ 5) q j k = true)
  | 0, _ => ⟨0, rfl, by omega, fun j _ => ⟨fun q => by simp at q, fun ⟨q, _, _, z⟩ => by simp [adB] at z⟩⟩
  | k + 1, hk => by
    obtain ⟨m, h1, h2, h3⟩ := cm_n h hS k (by omega)
    have g1 := h.d1b k (by omega)
    have g2 := h.d2b k (by omega)
    have bN := h.bN
    obtain ⟨a, ea⟩ := nat_of g1.1
    obtain ⟨b, eb⟩ := nat_of g2.1
    rw [cmS, h1, ea, eb]
    obtain ⟨m1, x1, x2, x3⟩ := sl_hn hS (a := a) (b := b) (by omega) (by omega)
    obtain ⟨m2, y1, y2, y3⟩ := sl_hn hS (a := b) (b := a) (by omega) (by omega)
    have b1 : m ||| m1 < 2 ^ 6 := Nat.or_lt_two_pow h2 x2
    have b2 : m ||| m1 ||| m2 < 2 ^ 6 := Nat.or_lt_two_pow b1 y2
    refine ⟨m ||| m1 ||| m2, ?_, b2, fun j hj => ?_⟩
    · rw [x1, y1, or_n (by omega) (by omega), or_n (by omega) (by omega)]
    · rw [Nat.testBit_or, Nat.testBit_or, x3, y3, Bool.or_eq_true, Bool.or_eq_true, h3 j hj, Bool.and_eq_true, Bool.and_eq_true, decide_eq_true_eq, decide_eq_true_eq]
      have dw : ∀ q, dwB (τ 5) k q j = true ↔ (q = a ∧ j = b) ∨ (j = a ∧ q = b) := fun q => by
        unfold dwB; rw [ea, eb]
        simp only [Bool.or_eq_true, Bool.and_eq_true, decide_eq_true_eq]
        omega
      constructor
      · rintro ((⟨q, z1, z2, z3⟩ | ⟨z1, z2⟩) | ⟨z1, z2⟩)
        · exact ⟨q, z1, z2, by rw [adB, z3]; rfl⟩
        · exact ⟨a, by omega, z1, by rw [adB, (dw a).mpr (.inl ⟨rfl, z2⟩), Bool.or_true]⟩
        · exact ⟨b, by omega, z1, by rw [adB, (dw b).mpr (.inr ⟨z2, rfl⟩), Bool.or_true]⟩
      · rintro ⟨q, z1, z2, z3⟩
        rw [adB, Bool.or_eq_true] at z3
        rcases z3 with z3 | z3
        · exact .inl (.inl ⟨q, z1, z2, z3⟩)
        · rcases (dw q).mp z3 with ⟨w1, w2⟩ | ⟨w1, w2⟩
          · subst w1; exact .inl (.inr ⟨z2, w2⟩)
          · subst w2; exact .inr ⟨z2, w1⟩
theorem tell_m (h : PR p σ τ W N D E) {k q : Nat} : M_tellers_L38 k q fu 0 0 τ = some (orS (fun r => decide (an32 (sr32 (τ 5 (37 + r)) k) 1 = 1) && adB (τ 5) q r D) N, τ) := by
  have bN := h.bN
  refine loopN (X := fun n r => M_tellers_L38 k q n (orS (fun r => decide (an32 (sr32 (τ 5 (37 + r)) k) 1 = 1) && adB (τ 5) q r D) r) r τ) (W := N) ?_ ?_ fu (by unfold fu; omega)
  · intro r n hr
    show M_tellers_L38 k q (n + 1) _ r τ = _
    rw [M_tellers_L38, rd_k (by omega) (by omega), show Int.toNat 1 = 1 from rfl, h.n', if_pos (by omega), knows_m _ _ (by omega), bd_s, ad_m h, bd_s, orS]
    simp only [nm_k]
    rw [w32_i (x := (r : Int) + 1) (by omega) (by omega), suc]
    by_cases e1 : an32 (sr32 (τ 5 (37 + r)) k) 1 = 1
    · rw [if_pos e1, if_neg i10]
      by_cases e2 : adB (τ 5) q r D = true
      · rw [if_pos e2, if_neg i10, if_pos (by simp [e1, e2])]
      · rw [if_neg e2, if_pos rfl, if_neg (by simp [e2])]
    · rw [if_neg e1, if_pos rfl, if_neg (by simp [e1])]
  · intro n
    show M_tellers_L38 k q (n + 1) _ N τ = _
    rw [M_tellers_L38, rd_k (by omega) (by omega), show Int.toNat 1 = 1 from rfl, h.n', if_neg (by omega)]
theorem tb_2 {q j : Nat} : (2 ^ q).testBit j = decide (q = j) := Nat.testBit_two_pow
theorem tell_e (h : PR p σ τ W N D E) {k q : Nat} (hq : q < N) : an32 (pwS (τ 5) 37 k N) (cmS (τ 5) (sl32 1 q) D) = orS (fun r => decide (an32 (sr32 (τ 5 (37 + r)) k) 1 = 1) && adB (τ 5) q r D) N := by
  have bN := h.bN
  have h3 : 2 ^ q < 2 ^ 6 := Nat.pow_lt_pow_right (by omega) (by omega)
  rw [pwS_o, sl_1 (by omega)]
  obtain ⟨m, a1, a2, a3⟩ := orS_n (fun r => decide (an32 (sr32 (τ 5 (37 + r)) k) 1 = 1)) N (by omega)
  obtain ⟨m', b1, b2, b3⟩ := orS_n (fun r => decide (an32 (sr32 (τ 5 (37 + r)) k) 1 = 1) && adB (τ 5) q r D) N (by omega)
  obtain ⟨z, c1, c2, c3⟩ := cm_n h (S := 2 ^ q) h3 D (by omega)
  have e2 : 2 ^ N ≤ 2 ^ 6 := Nat.pow_le_pow_right (by omega) (by omega)
  rw [a1, b1, c1, an_n (by omega) (by omega)]
  congr 1
  apply Nat.eq_of_testBit_eq
  intro j
  rw [Nat.testBit_and, a3, b3]
  by_cases hj : j < N
  · have c4 := c3 j (by omega)
    have c5 : z.testBit j = adB (τ 5) q j D := by
      cases e : adB (τ 5) q j D
      · cases e' : z.testBit j
        · rfl
        · obtain ⟨x, x1, x2, x3⟩ := c4.mp e'
          rw [tb_2] at x2; simp at x2; subst x2; rw [e] at x3; cases x3
      · exact c4.mpr ⟨q, hq, by rw [tb_2]; simp, e⟩
    rw [c5]; simp [hj]
  · simp [hj]
end
section
variable {σ τ : Sg} {W N D E : Nat}
theorem k_tellers (h : RR σ τ W N D E) (a b : Int) : Ag (H_tellers a b σ) (M_tellers a b τ) := by
  rw [M_tellers]; refine ag_go h (fun τ h hz => ?_)
  rw [H_tellers]
  have hp := h.pr
  have bW := hp.bW
  rcases pc a W with ⟨k, rfl, hk⟩ | ha
  · rw [isW_1 hp hk, isWm_1 hp hk, bd_s, bd_s, if_neg i10, if_neg i10]
    rcases pc b N with ⟨q, rfl, hq⟩ | hb
    · rw [isP_1 hp hq, isPm_1 hp hq, bd_s, bd_s, if_neg i10, if_neg i10, knowers_h hp (by omega), bd_s, cm_h hp, bd_s, tell_m hp, tell_e hp hq]
      exact ag_give h hz _
    · rw [isP_0 hp hb, isPm_0 hp hb, bd_s, bd_s, if_pos rfl, if_pos rfl]; exact ag_fail h 2
  · rw [isW_0 hp ha, isWm_0 hp ha, bd_s, bd_s, if_pos rfl, if_pos rfl]; exact ag_fail h 2
/-- one saying further, as the reference goes -/
def muI (c : Nat → Int) (S : Int) (D q : Nat) (acc : Int) : Nat → Int
  | 0 => acc
  | r + 1 => if an32 (sr32 S q) 1 = 1 ∧ adB c q r D = true then or32 (muI c S D q acc r) (sl32 1 r) else muI c S D q acc r
def muO (c : Nat → Int) (S : Int) (D N : Nat) : Nat → Int
  | 0 => S
  | q + 1 => muI c S D q (muO c S D N q) N
theorem mu_i {p : Nat} (h : PR p σ τ W N D E) {a2 S v4 : Int} {q : Nat} (hq : q < N) {k68 : Int → Int → Sg → Rs} {acc : Int} : ∀ (m r n : Nat), r + m = N → m < n → M_rumour_L82 a2 S v4 q k68 n (muI (τ 5) S D q acc r) r τ = k68 (muI (τ 5) S D q acc N) (q + 1 : Nat) τ := by
  intro m
  have bN := h.bN
  induction m with
  | zero =>
    intro r n hr hn
    obtain ⟨n, rfl⟩ : ∃ x, n = x + 1 := ⟨n - 1, by omega⟩
    obtain rfl : r = N := by omega
    rw [M_rumour_L82, rd_k (by omega) (by omega), show Int.toNat 1 = 1 from rfl, h.n', if_neg (by omega), nm_k, w32_i (by omega) (by omega), suc]
  | succ m ih =>
    intro r n hr hn
    obtain ⟨n, rfl⟩ : ∃ x, n = x + 1 := ⟨n - 1, by omega⟩
    have w := ih (r + 1) n (by omega) (by omega)
    rw [muI] at w
    rw [M_rumour_L82, rd_k (by omega) (by omega), show Int.toNat 1 = 1 from rfl, h.n', if_pos (by omega), has_m, bd_s, ad_m h, bd_s]
    simp only [nm_k]
    rw [w32_i (x := (r : Int) + 1) (by omega) (by omega), suc]
    by_cases e1 : an32 (sr32 S q) 1 = 1
    · rw [if_pos e1, if_neg i10]
      by_cases e2 : adB (τ 5) q r D = true
      · rw [if_pos ⟨e1, e2⟩] at w
        rw [if_pos e2, if_neg i10]; exact w
      · rw [if_neg (fun z => e2 z.2)] at w
        rw [if_neg e2, if_pos rfl]; exact w
    · rw [if_neg (fun z => e1 z.1)] at w
      rw [if_neg e1, if_pos rfl]; exact w
theorem mu_o {p : Nat} (h : PR p σ τ W N D E) {a2 S : Int} {t : Nat} (ht : t ≤ 6) {k44 : Int → Int → Sg → Rs} : ∀ (m q n : Nat), q + m = N → m < n → M_rumour_L68 a2 S t k44 n (muO (τ 5) S D N q) q τ = k44 (muO (τ 5) S D N N) (t + 1 : Nat) τ := by
  intro m
  have bN := h.bN
  induction m with
  | zero =>
    intro r n hr hn
    obtain ⟨n, rfl⟩ : ∃ x, n = x + 1 := ⟨n - 1, by omega⟩
    obtain rfl : r = N := by omega
    rw [M_rumour_L68, rd_k (by omega) (by omega), show Int.toNat 1 = 1 from rfl, h.n', if_neg (by omega), nm_k, w32_i (by omega) (by omega), suc]
  | succ m ih =>
    intro r n hr hn
    obtain ⟨n, rfl⟩ : ∃ x, n = x + 1 := ⟨n - 1, by omega⟩
    have w := ih (r + 1) n (by omega) (by omega)
    rw [M_rumour_L68, rd_k (by omega) (by omega), show Int.toNat 1 = 1 from rfl, h.n', if_pos (by omega)]
    have q := mu_i h (a2 := a2) (S := S) (v4 := t) (q := r) (by omega) (k68 := fun x28 x29 s30 => M_rumour_L68 a2 S t k44 n x28 x29 s30) (acc := muO (τ 5) S D N r) N 0 fu (by omega) (by unfold fu; omega)
    rw [show M_rumour_L82 a2 S t r (fun x28 x29 s30 => M_rumour_L68 a2 S t k44 n x28 x29 s30) fu (muO (τ 5) S D N r) 0 τ = _ from q]
    exact w
theorem muI_n (c : Nat → Int) {S : Nat} (hS : S < 64) (D : Nat) {q : Nat} (hq : q < 6) {acc : Nat} (ha : acc < 64) : ∀ k, k ≤ 6 → ∃ m : Nat, muI c S D q acc k = m ∧ m < 64 ∧ ∀ j, m.testBit j = true ↔ (acc.testBit j = true ∨ (j < k ∧ S.testBit q = true ∧ adB c q j D = true))
  | 0, _ => ⟨acc, rfl, ha, fun j => ⟨fun z => .inl z, fun z => z.elim id (fun w => absurd w.1 (by omega))⟩⟩
  | k + 1, hk => by
    obtain ⟨m, h1, h2, h3⟩ := muI_n c hS D hq ha k (by omega)
    have e3 : 2 ^ k < 2 ^ 6 := Nat.pow_lt_pow_right (by omega) (by omega)
    have eb : an32 (sr32 (S : Int) q) 1 = 1 ↔ S.testBit q = true := by
      rw [hb_n (by omega) (by omega)]; split <;> simp_all
    rw [muI]
    by_cases e : an32 (sr32 (S : Int) q) 1 = 1 ∧ adB c q k D = true
    · refine ⟨m ||| 2 ^ k, ?_, Nat.or_lt_two_pow (n := 6) h2 e3, fun j => ?_⟩
      · rw [if_pos e, h1, sl_1 (by omega), or_n (by omega) (by omega)]
      · rw [Nat.testBit_or, Bool.or_eq_true, h3, tb_2, decide_eq_true_eq]
        constructor
        · rintro ((z | z) | z)
          · exact .inl z
          · exact .inr ⟨by omega, z.2⟩
          · subst z; exact .inr ⟨by omega, eb.mp e.1, e.2⟩
        · rintro (z | z)
          · exact .inl (.inl z)
          · by_cases w : k = j
            · exact .inr w
            · exact .inl (.inr ⟨by omega, z.2⟩)
    · refine ⟨m, by rw [if_neg e, h1], h2, fun j => ?_⟩
      rw [h3]
      constructor
      · rintro (z | z)
        · exact .inl z
        · exact .inr ⟨by omega, z.2⟩
      · rintro (z | z)
        · exact .inl z
        · by_cases w : k = j
          · subst w; exact absurd ⟨eb.mpr z.2.1, z.2.2⟩ e
          · exact .inr ⟨by omega, z.2⟩
theorem muO_n (c : Nat → Int) {S : Nat} (hS : S < 64) (D : Nat) {N : Nat} (hN : N ≤ 6) : ∀ k, k ≤ N → ∃ m : Nat, muO c S D N k = m ∧ m < 64 ∧ ∀ j, m.testBit j = true ↔ (S.testBit j = true ∨ (j < N ∧ ∃ q, q < k ∧ S.testBit q = true ∧ adB c q j D = true))
  | 0, _ => ⟨S, rfl, hS, fun j => ⟨fun z => .inl z, fun z => z.elim id (fun ⟨_, q, w, _⟩ => absurd w (by omega))⟩⟩
  | k + 1, hk => by
    obtain ⟨m, h1, h2, h3⟩ := muO_n c hS D hN k (by omega)
    obtain ⟨m', g1, g2, g3⟩ := muI_n c hS D (q := k) (by omega) h2 N hN
    refine ⟨m', by rw [muO, h1, g1], g2, fun j => ?_⟩
    rw [g3, h3]
    constructor
    · rintro ((z | ⟨z1, q, z2, z3⟩) | ⟨z1, z2⟩)
      · exact .inl z
      · exact .inr ⟨z1, q, by omega, z3⟩
      · exact .inr ⟨z1, k, by omega, z2⟩
    · rintro (z | ⟨z1, q, z2, z3⟩)
      · exact .inl (.inl z)
      · by_cases w : q = k
        · subst w; exact .inr ⟨z1, z3⟩
        · exact .inl (.inr ⟨z1, q, by omega, z3⟩)
/-- one saying further is the same on both sides -/
theorem step_e {p : Nat} (h : PR p σ τ W N D E) {S : Nat} (hS : S < 2 ^ N) : ∃ m : Nat, m < 2 ^ N ∧ or32 S (cmS (τ 5) S D) = m ∧ muO (τ 5) S D N N = m ∧ (∀ j, S.testBit j = true → m.testBit j = true) ∧ (S = 0 → m = 0) := by
  have bN := h.bN
  have e2 : 2 ^ N ≤ 2 ^ 6 := Nat.pow_le_pow_right (by omega) (by omega)
  obtain ⟨z, c1, c2, c3⟩ := cm_n h (S := S) (by omega) D (by omega)
  obtain ⟨m, g1, g2, g3⟩ := muO_n (τ 5) (S := S) (by omega) D bN N (by omega)
  have hi : ∀ j, S.testBit j = true → j < N := fun j q => by
    apply Classical.byContradiction; intro w
    rw [tbz hS (by omega)] at q; cases q
  have ad_r : ∀ q j k, k ≤ D → adB (τ 5) q j k = true → j < N := fun q j k hk w => by
    obtain ⟨d, w1, w2⟩ := (adB_e _ _ _ _).mp w
    have x1 := h.d1b d (by omega)
    have x2 := h.d2b d (by omega)
    unfold dwB at w2
    simp only [Bool.or_eq_true, Bool.and_eq_true, decide_eq_true_eq] at w2
    omega
  have e : S ||| z = m := by
    apply Nat.eq_of_testBit_eq
    intro j
    rw [Bool.eq_iff_iff, Nat.testBit_or, Bool.or_eq_true, g3]
    by_cases hj : j < 6
    · rw [c3 j hj]
      constructor
      · rintro (w | ⟨q, w1, w2, w3⟩)
        · exact .inl w
        · exact .inr ⟨ad_r q j D (by omega) w3, q, w1, w2, w3⟩
      · rintro (w | ⟨_, q, w⟩)
        · exact .inl w
        · exact .inr ⟨q, w⟩
    · have e1 : S.testBit j = false := by
        cases w : S.testBit j
        · rfl
        · exact absurd (hi j w) (by omega)
      have e3 : z.testBit j = false := tbz (n := 6) c2 (by omega)
      rw [e1, e3]
      constructor
      · rintro (w | w) <;> cases w
      · rintro (w | ⟨w, _⟩)
        · cases w
        · omega
  have mb : m < 2 ^ N := by
    apply Nat.lt_pow_two_of_testBit
    intro j hj
    cases w : m.testBit j
    · rfl
    · rcases (g3 j).mp w with w | ⟨w, _⟩
      · exact absurd (hi j w) (by omega)
      · omega
  refine ⟨m, mb, by rw [c1, or_n (by omega) (by omega), e], g1, fun j q => (g3 j).mpr (.inl q), fun q => ?_⟩
  subst q
  apply Nat.eq_of_testBit_eq
  intro j
  rw [Nat.zero_testBit]
  cases w : m.testBit j
  · rfl
  · rcases (g3 j).mp w with w | ⟨_, q, _, w, _⟩
    · rw [Nat.zero_testBit] at w; cases w
    · rw [Nat.zero_testBit] at w; cases w
/-- how many of a set -/
theorem sz_lt {S m : Nat} (hS : S < 64) (hm : m < 64) (h : ∀ j, S.testBit j = true → m.testBit j = true) (hn : S ≠ m) : szS S 8 < szS m 8 := by
  have bt : ∀ (x : Nat), x < 64 → ∀ j : Nat, j < 8 → (an32 (sr32 (x : Int) j) 1 = 1 ↔ x.testBit j = true) := fun x hx j hj => by
    rw [hb_n (by omega) (by omega)]; split <;> simp_all
  have key := szS_m (x := (S : Int)) (y := (m : Int)) 8 (fun j hj q => (bt m hm j hj).mpr (h j ((bt S hS j hj).mp q)))
  apply Classical.byContradiction
  intro w
  apply hn
  have k2 := key.2 (by omega)
  apply Nat.eq_of_testBit_eq
  intro j
  by_cases hj : j < 8
  · rw [Bool.eq_iff_iff]
    exact ⟨h j, fun q => (bt S hS j hj).mp (k2 j hj ((bt m hm j hj).mpr q))⟩
  · rw [tbz (n := 6) hS (by omega), tbz (n := 6) hm (by omega)]
theorem szS_6 : ∀ m : Fin 64, szS (m.1 : Nat) 8 ≤ 6 := by decide +kernel
theorem szS_1 : ∀ m : Fin 64, m.1 ≠ 0 → 1 ≤ szS (m.1 : Nat) 8 := by decide +kernel
/-- from n sayings on: either the set holds still, or it is larger than n -/
theorem rum_l (h : RR σ τ W N D E) (hz : τ 0 0 = 0) {i : Nat} (hi : i < N) : ∀ (m t n n' S : Nat), t + m = 6 → m < n → m + 1 < n' → S < 2 ^ N → (S = 0 ∨ (t : Int) < szS S 8 ∨ or32 S (cmS (τ 5) S D) = S) →
    (t = 6 → ¬ S.testBit i = true) → Ag (H_rumour_L40 i n S t σ) (M_rumour_L44 i n' S t τ) := by
  intro m
  have hp := h.pr
  have bN := hp.bN
  have e2 : 2 ^ N ≤ 2 ^ 6 := Nat.pow_le_pow_right (by omega) (by omega)
  induction m with
  | zero =>
    intro t n n' S ht hn hn' hS _ h6
    obtain ⟨n, rfl⟩ : ∃ x, n = x + 1 := ⟨n - 1, by omega⟩
    obtain ⟨n', rfl⟩ : ∃ x, n' = x + 2 := ⟨n' - 2, by omega⟩
    obtain rfl : t = 6 := by omega
    have q := mu_o hp (a2 := i) (S := S) (t := 6) (by omega) (k44 := fun x32 x33 s34 => M_rumour_L44 i (n' + 1) x32 x33 s34) N 0 fu (by omega) (by unfold fu; omega)
    rw [H_rumour_L40, if_neg (by omega), M_rumour_L44, if_neg (by omega), has_m, bd_s, hb_n (by omega) (by omega), if_neg (h6 rfl), if_neg (show ¬ (0 : Int) = 1 by omega), if_pos rfl]
    rw [show M_rumour_L68 i S (6 : Nat) (fun x32 x33 s34 => M_rumour_L44 i (n' + 1) x32 x33 s34) fu S 0 τ = _ from q, M_rumour_L44, if_pos (by omega)]
    exact ag_fail h 8
  | succ m ih =>
    intro t n n' S ht hn hn' hS hb h6
    obtain ⟨n, rfl⟩ : ∃ x, n = x + 1 := ⟨n - 1, by omega⟩
    obtain ⟨n', rfl⟩ : ∃ x, n' = x + 1 := ⟨n' - 1, by omega⟩
    obtain ⟨S', s1, s2, s3, s4, s5⟩ := step_e hp hS
    have q := mu_o hp (a2 := i) (S := S) (t := t) (by omega) (k44 := fun x32 x33 s34 => M_rumour_L44 i n' x32 x33 s34) N 0 fu (by omega) (by unfold fu; omega)
    rw [H_rumour_L40, if_pos (by omega), M_rumour_L44, if_neg (show ¬ (6 : Int) < (t : Int) by omega), has_m, bd_s, hb_n (by omega) (by omega)]
    by_cases e : S.testBit i = true
    · rw [if_pos e, if_pos rfl, if_pos rfl, if_neg i10]; exact ag_give h hz _
    · rw [if_neg e, if_neg (show ¬ (0 : Int) = 1 by omega), if_neg (show ¬ (0 : Int) = 1 by omega), if_pos rfl, cm_h hp, bd_s, nm_k, nm_k, s2, w32_i (by omega) (by omega), suc]
      rw [show M_rumour_L68 i S t (fun x32 x33 s34 => M_rumour_L44 i n' x32 x33 s34) fu S 0 τ = _ from q, s3]
      have big : S ≠ S' → szS S 8 < szS S' 8 := fun w => sz_lt (by omega) (by omega) s4 w
      refine ih (t + 1) n n' S' (by omega) (by omega) (by omega) s1 ?_ ?_
      · by_cases w : S = S'
        · exact .inr (.inr (by rw [← w]; rw [← w] at s2; exact s2))
        · have g := big w
          rcases hb with hb | hb | hb
          · exact absurd (hb.trans (s5 hb).symm) w
          · exact .inr (.inl (by omega))
          · rw [s2] at hb; exact absurd (by omega) w
      · intro h6'
        by_cases w : S = S'
        · rw [← w]; exact e
        · exfalso
          have g := big w
          have g6 := szS_6 ⟨S', by omega⟩
          rcases hb with hb | hb | hb
          · exact w (hb.trans (s5 hb).symm)
          · simp only at g6; omega
          · rw [s2] at hb; exact w (by omega)
theorem k_rumour (h : RR σ τ W N D E) (a b : Int) : Ag (H_rumour a b σ) (M_rumour a b τ) := by
  rw [M_rumour]; refine ag_go h (fun τ h hz => ?_)
  rw [H_rumour]
  have hp := h.pr
  have bW := hp.bW
  have bN := hp.bN
  rcases pc a W with ⟨k, rfl, hk⟩ | ha
  · rw [isW_1 hp hk, isWm_1 hp hk, bd_s, bd_s, if_neg i10, if_neg i10]
    rcases pc b N with ⟨q, rfl, hq⟩ | hb
    · obtain ⟨m, a1, a2, -⟩ := orS_n (fun r => decide (an32 (sr32 (τ 5 (37 + r)) k) 1 = 1)) N (by omega)
      have e2 : 2 ^ N ≤ 2 ^ 6 := Nat.pow_le_pow_right (by omega) (by omega)
      rw [← pwS_o] at a1
      rw [isP_1 hp hq, isPm_1 hp hq, bd_s, bd_s, if_neg i10, if_neg i10, knowers_h hp (by omega), bd_s, pw37_m hp, bd_s, a1]
      refine rum_l h hz hq 6 0 fu fu m (by omega) (by unfold fu; omega) (by unfold fu; omega) a2 ?_ (fun w => absurd w (by omega))
      by_cases e : m = 0
      · exact .inl e
      · have := szS_1 ⟨m, by omega⟩ e
        simp only at this
        exact .inr (.inl (by omega))
    · rw [isP_0 hp hb, isPm_0 hp hb, bd_s, bd_s, if_pos rfl, if_pos rfl]; exact ag_fail h 2
  · rw [isW_0 hp ha, isWm_0 hp ha, bd_s, bd_s, if_pos rfl, if_pos rfl]; exact ag_fail h 2
end
