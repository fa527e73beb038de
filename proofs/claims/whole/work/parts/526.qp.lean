/-! fractions; how surely nothing is said -/
def eg : Nat → Nat → Nat → Nat
  | 0, a, _ => a
  | k + 1, a, b => if b = 0 then a else eg k b (a % b)
def est : Nat → Nat → Nat → Bool
  | 0, _, b => decide (b = 0)
  | k + 1, a, b => if b = 0 then true else est k b (a % b)
theorem est_s : ∀ (k a b : Nat), b ≤ k → est k a b = true
  | 0, a, b, h => by rw [est]; simp; omega
  | k + 1, a, b, h => by
    rw [est]
    by_cases e : b = 0
    · rw [if_pos e]
    · rw [if_neg e]
      have := Nat.mod_lt a (show 0 < b by omega)
      exact est_s k b (a % b) (by omega)
theorem eg_pos : ∀ (k a b : Nat), est k a b = true → 0 < a + b → 0 < eg k a b
  | 0, a, b, h, h2 => by rw [est] at h; simp at h; rw [eg]; omega
  | k + 1, a, b, h, h2 => by
    rw [est] at h; rw [eg]
    by_cases e : b = 0
    · rw [if_pos e]; omega
    · rw [if_neg e] at h ⊢
      exact eg_pos k b (a % b) h (by omega)
theorem wb64 (z : Int) (h1 : -9223372036854775808 ≤ z) (h2 : z < 9223372036854775808) : z.bmod (2 ^ 64) = z := Int.bmod_eq_of_le (by omega) (by omega)
theorem rm64_n {x y : Nat} (h1 : x < 4611686018427387904) (h2 : 0 < y) (h3 : y < 4611686018427387904) : rm64 x y = ((x % y : Nat) : Int) := by
  have q4 : x % y ≤ x := Nat.mod_le x y
  have q5 : x / y ≤ x := Nat.div_le_self x y
  have e1 : (Int64.ofInt (x : Int) / Int64.ofInt (y : Int)).toInt = ((x / y : Nat) : Int) := by
    rw [Int64.toInt_div, i64_of (by unfold c64; omega), i64_of (by unfold c64; omega), Int.tdiv_eq_ediv_of_nonneg (by omega), ← Int.natCast_ediv]
    exact wb64 _ (Int.le_trans (by decide) (Int.natCast_nonneg _)) (Int.lt_of_le_of_lt (Int.ofNat_le.mpr q5) (by omega))
  have e2 : Int64.ofInt (x : Int) / Int64.ofInt (y : Int) = Int64.ofInt ((x / y : Nat) : Int) := by rw [← e1, Int64.ofInt_toInt]
  unfold rm64
  rw [e2, ← Int64.ofInt_mul, ← Int64.ofInt_sub]
  have e3 : (x : Int) - ((x / y : Nat) : Int) * (y : Int) = ((x % y : Nat) : Int) := by
    have := Nat.mod_add_div x y
    have e4 : (((x % y + y * (x / y) : Nat)) : Int) = (x : Int) := by rw [this]
    rw [Int.natCast_add, Int.natCast_mul] at e4
    rw [Int.mul_comm ((x / y : Nat) : Int)]
    omega
  rw [e3]
  exact i64_of (by unfold c64; omega)
theorem tell_l {A B : Int} {k44 : Int → Sg → Rs} {σ : Sg} : ∀ (k n a b : Nat), k ≤ 100 → k < n → a < 4611686018427387904 → b < 4611686018427387904 → H_tell_L9 A B k44 n a b ((100 - k : Nat) : Int) σ = k44 (eg k a b) σ := by
  intro k
  induction k with
  | zero =>
    intro n a b hk hn ha hb
    obtain ⟨n, rfl⟩ : ∃ x, n = x + 1 := ⟨n - 1, by omega⟩
    rw [H_tell_L9, if_neg (by omega), eg]
  | succ k ih =>
    intro n a b hk hn ha hb
    obtain ⟨n, rfl⟩ : ∃ x, n = x + 1 := ⟨n - 1, by omega⟩
    rw [H_tell_L9, if_pos (by omega), eg]
    by_cases e : b = 0
    · rw [if_pos (by omega), if_pos e]
    · have q := Nat.mod_lt a (show 0 < b by omega)
      rw [if_neg (by omega), if_neg e, dv_k (by omega), nm_k, rm64_n ha (by omega) hb, w32_i (by omega) (by omega), show ((100 - (k + 1) : Nat) : Int) + 1 = ((100 - k : Nat) : Int) by omega]
      exact ih n b (a % b) (by omega) (by omega) hb (by omega)
theorem frac_l {A B : Int} {τ : Sg} : ∀ (k n a b : Nat), est k a b = true → k < n → 0 < a + b → a < 4611686018427387904 → b < 4611686018427387904 → M_fraction_L9 A B n a b τ = some (1, up_s (up_s τ 0 2 (dv64 A (eg k a b))) 0 3 (dv64 B (eg k a b))) := by
  intro k
  induction k with
  | zero =>
    intro n a b hs hn hp ha hb
    obtain ⟨n, rfl⟩ : ∃ x, n = x + 1 := ⟨n - 1, by omega⟩
    rw [est] at hs; simp at hs
    rw [M_fraction_L9, if_pos (by omega), dv_k (by omega), nm_k, dv_k (by omega), nm_k, eg]
  | succ k ih =>
    intro n a b hs hn hp ha hb
    obtain ⟨n, rfl⟩ : ∃ x, n = x + 1 := ⟨n - 1, by omega⟩
    rw [est] at hs
    rw [M_fraction_L9, eg]
    by_cases e : b = 0
    · rw [if_pos (by omega), dv_k (by omega), nm_k, dv_k (by omega), nm_k, if_pos e]
    · rw [if_neg e] at hs
      have q := Nat.mod_lt a (show 0 < b by omega)
      rw [if_neg (by omega), if_neg e, dv_k (by omega), rm64_n ha (by omega) hb]
      exact ih n b (a % b) hs (by omega) (by omega) hb (by omega)
section
variable {σ τ : Sg} {W N D E : Nat}
/-- a fraction told -/
theorem RR.frac (h : RR σ τ W N D E) (x y : Int) : RR (up_s (up_s σ 0 1 x) 0 2 y) (up_s (up_s τ 0 2 x) 0 3 y) W N D E := by
  have r := h.rb
  have hs : ∀ o k, (o ≠ 0 ∨ (k ≠ 1 ∧ k ≠ 2)) → up_s (up_s σ 0 1 x) 0 2 y o k = σ o k := fun o k q => by rw [up_v, if_neg (by omega), up_v, if_neg (by omega)]
  have ht : ∀ o k, (o ≠ 0 ∨ (k ≠ 2 ∧ k ≠ 3)) → up_s (up_s τ 0 2 x) 0 3 y o k = τ o k := fun o k q => by rw [up_v, if_neg (by omega), up_v, if_neg (by omega)]
  refine RR.mk (h.pr.cg (fun j k _ _ => hs _ _ (by omega)) (fun k hk => ht _ _ (by omega))) (by have q := h.dt; unfold DT at q ⊢; rw [ht 5 6 (by omega)]; exact q) ?_
  refine RB.mk ?_ ?_ ?_ ?_ ?_ ?_ ?_ ?_ ?_ ?_ ?_ ?_
  · rw [up_k (by omega), up_e, up_k (by omega), up_e]
  · rw [up_e, up_e]
  · rw [hs _ _ (by omega), ht _ _ (by omega)]; exact r.fk
  · rw [hs _ _ (by omega), ht _ _ (by omega)]; exact r.fp
  · exact fun t q => (r.tr t q).cg (fun o k _ _ => hs o k (by omega)) (fun o k _ _ => ht o k (by omega))
  · exact r.tz.cg (hs _ _ (by omega)) (ht _ _ (by omega)) (fun k => hs _ _ (by omega)) (fun k => ht _ _ (by omega))
  · exact r.na.cg h.pr.bW h.pr.bN (fun k _ => hs _ _ (by omega)) (fun k _ => ht _ _ (by omega))
  · exact r.ye.cg (fun k _ _ => hs _ _ (by omega)) (fun j k _ _ _ => hs _ _ (by omega)) (fun k _ _ => ht _ _ (by omega))
  · exact r.lv.cg (fun k _ => hs _ _ (by omega)) (ht _ _ (by omega)) (fun k _ => ht _ _ (by omega))
  · exact r.ms.cg (hs _ _ (by omega)) (ht _ _ (by omega)) (fun o k _ _ => hs _ _ (by omega)) (fun k _ _ => ht _ _ (by omega)) (fun k _ _ => ht _ _ (by omega))
  · rw [hs _ _ (by omega)]; exact r.mz
  · intro kk; rw [hs _ _ (by omega)]; exact r.kc kk
/-- both tell the same fraction -/
theorem frac_r (h : RR σ τ W N D E) {a b : Nat} (he : est 100 a b = true) (hp : 0 < b) (ha : a < 4611686018427387904) (hb : b < 4611686018427387904) :
    ∃ σ' τ', H_tell a b σ = some (0, σ') ∧ M_fraction a b τ = some (1, τ') ∧ RR σ' τ' W N D E ∧ τ' 0 0 = τ 0 0 := by
  have g := eg_pos 100 a b he (by omega)
  refine ⟨_, _, ?_, ?_, h.frac (dv64 a (eg 100 a b)) (dv64 b (eg 100 a b)), by rw [up_k (by omega), up_k (by omega)]⟩
  · rw [H_tell]
    rw [show H_tell_L9 (a : Int) (b : Int) (fun x3 s4 => H_tell_J44 a b x3 s4) fu a b 0 σ = _ from tell_l 100 fu a b (by omega) (by unfold fu; omega) ha hb]
    rw [H_tell_J44, if_pos (by omega), dv_k (by omega), nm_k, dv_k (by omega), nm_k]
  · have e1 : ab64 (a : Int) = a := by
      unfold ab64
      by_cases z : (0 : Int) < a
      · rw [if_pos z]
      · rw [if_neg z, w64_i (by omega) (by omega)]; omega
    rw [M_fraction, nm_k, e1]
    exact frac_l 100 fu a b he (by unfold fu; omega) (by omega) ha hb
/-- a product of odds -/
def sbS (b r : Nat) : Nat → Nat
  | 0 => 1
  | k + 1 => sbS b r k * (if k < r then b else 16)
theorem sbS_b {b r : Nat} (hb : b ≤ 16) : ∀ k, sbS b r k ≤ 16 ^ k
  | 0 => by simp [sbS]
  | k + 1 => by
    rw [sbS, Nat.pow_succ]
    exact Nat.mul_le_mul (sbS_b hb k) (by split <;> omega)
theorem p16 {k : Nat} (hk : k ≤ 12) : 16 ^ k ≤ 281474976710656 := Nat.le_trans (Nat.pow_le_pow_right (by omega) hk) (by decide)
theorem sb_m {p : Nat} (h : PR p σ τ W N D E) {b r t : Nat} (hb : τ 5 5 = 16 - (b : Int)) (hb2 : b ≤ 16) (ht : t ≤ 12) : M_safeBy r t τ = some (((sbS b r t : Nat) : Int), τ) := by
  rw [M_safeBy]
  refine loopN (X := fun n k => M_safeBy_L5 r t n (sbS b r k : Nat) k τ) (W := t) ?_ ?_ fu (by unfold fu; omega)
  · intro k n hk
    show M_safeBy_L5 r t (n + 1) (sbS b r k : Nat) k τ = _
    have g := sbS_b (r := r) hb2 (k + 1)
    have g2 := p16 (k := k + 1) (by omega)
    have g3 : (sbS b r (k + 1) : Nat) ≤ 281474976710656 := Nat.le_trans g g2
    rw [M_safeBy_L5, if_pos (by omega)]
    rw [sbS] at g3 ⊢
    by_cases e : k < r
    · rw [if_pos e] at g3
      rw [if_pos (by omega), if_pos e, rd_k (by omega) (by omega), show Int.toNat 5 = 5 from rfl, hb, w32_i (x := 16 - (16 - (b : Int))) (by omega) (by omega), show 16 - (16 - (b : Int)) = b by omega, nm_k, nm_k, ← Int.natCast_mul, w64_i (by omega) (by omega), w32_i (by omega) (by omega), suc]
    · rw [if_neg e] at g3
      rw [if_neg (by omega), if_neg e, nm_k, nm_k, show ((sbS b r k : Nat) : Int) * 16 = ((sbS b r k * 16 : Nat) : Int) by rw [Int.natCast_mul]; rfl, w64_i (by omega) (by omega), w32_i (by omega) (by omega), suc]
  · intro n
    show M_safeBy_L5 r t (n + 1) (sbS b r t : Nat) t τ = _
    rw [M_safeBy_L5, if_neg (by omega)]
theorem pw_h {b t : Nat} (hb2 : b ≤ 16) (ht : t ≤ 12) : H_power b t σ = some (((b ^ t : Nat) : Int), σ) := by
  rw [H_power]
  refine loopN (X := fun n k => H_power_L5 b t n (b ^ k : Nat) k σ) (W := t) ?_ ?_ fu (by unfold fu; omega)
  · intro k n hk
    show H_power_L5 b t (n + 1) (b ^ k : Nat) k σ = _
    have g : b ^ (k + 1) ≤ 16 ^ (k + 1) := Nat.pow_le_pow_left hb2 _
    have g2 := p16 (k := k + 1) (by omega)
    have g3 : b ^ (k + 1) ≤ 281474976710656 := Nat.le_trans g g2
    rw [Nat.pow_succ] at g3
    rw [H_power_L5, if_pos (by omega), nm_k, nm_k, ← Int.natCast_mul, w64_i (by omega) (by omega), w32_i (by omega) (by omega), suc, Nat.pow_succ]
  · intro n
    show H_power_L5 b t (n + 1) (b ^ t : Nat) t σ = _
    rw [H_power_L5, if_neg (by omega)]
theorem sbS_t (b : Nat) {r : Nat} : ∀ k, k ≤ r → sbS b r k = b ^ k
  | 0, _ => rfl
  | k + 1, h => by rw [sbS, sbS_t b k (by omega), if_pos (by omega), Nat.pow_succ]
theorem sbS_0 (b : Nat) : ∀ k, sbS b 0 k = 16 ^ k
  | 0 => rfl
  | k + 1 => by rw [sbS, sbS_0 b k, if_neg (by omega), Nat.pow_succ]
theorem sbS_r (b r : Nat) : ∀ k, sbS b r (r + k) = b ^ r * 16 ^ k
  | 0 => by rw [Nat.add_zero, sbS_t b r (by omega), Nat.pow_zero, Nat.mul_one]
  | k + 1 => by rw [← Nat.add_assoc, sbS, sbS_r b r k, if_neg (by omega), Nat.pow_succ, Nat.mul_assoc]
theorem est_all : ∀ (o : Fin 17) (t : Fin 13), est 100 (o.1 ^ t.1) (16 ^ t.1) = true := by decide +kernel
/-- how many keep a word -/
theorem kp_n {p : Nat} (h : PR p σ τ W N D E) (k : Nat) : ∃ m : Nat, szS (pwS (τ 5) 43 k N) 8 = m ∧ m ≤ 6 ∧ 0 ≤ pwS (τ 5) 43 k N ∧ pwS (τ 5) 43 k N < 64 := by
  have g := orS_g (fun q => decide (an32 (sr32 (τ 5 (43 + q)) k) 1 = 1)) h.bN
  rw [← pwS_o] at g
  obtain ⟨z, hz⟩ := nat_of g.1
  have q := szS_6 ⟨z, by omega⟩
  have q2 := szS_g (pwS (τ 5) 43 k N) 8
  simp only at q
  rw [hz] at q2 ⊢
  obtain ⟨m, hm⟩ := nat_of q2.1
  exact ⟨m, hm, by omega, by omega, by omega⟩
theorem k_safe (h : RR σ τ W N D E) (a c : Int) : Ag (H_safe a c σ) (M_safe a c τ) := by
  rw [M_safe]; refine ag_go h (fun τ h hz => ?_)
  rw [H_safe]
  have hp := h.pr
  have bW := hp.bW
  rcases pc a W with ⟨k, rfl, hk⟩ | ha
  · rw [isW_1 hp hk, isWm_1 hp hk, bd_s, bd_s, if_neg i10, if_neg i10]
    by_cases hc : 0 ≤ c ∧ c ≤ 2
    · obtain ⟨n, rfl⟩ := nat_of hc.1
      obtain ⟨m, m1, m2, m3, m4⟩ := kp_n hp k
      have ob := hp.odb
      obtain ⟨b, hb⟩ := nat_of (x := 16 - τ 5 5) (by omega)
      obtain ⟨T, hT⟩ : ∃ T, T = n * m := ⟨_, rfl⟩
      have ht : T ≤ 12 := by rw [hT]; exact Nat.le_trans (Nat.mul_le_mul (show n ≤ 2 by omega) m2) (by decide)
      have g1 : b ^ T ≤ 281474976710656 := Nat.le_trans (Nat.pow_le_pow_left (show b ≤ 16 by omega) _) (p16 ht)
      have g2 := p16 ht
      have g3 : 0 < 16 ^ T := Nat.pow_pos (by omega)
      obtain ⟨σ', τ', f1, f2, f3, f4⟩ := frac_r h (a := b ^ T) (b := 16 ^ T) (est_all ⟨b, by omega⟩ ⟨T, by omega⟩) g3 (by omega) (by omega)
      rw [wi_1 hc, in_1 hc, bd_s, bd_s, if_neg i10, if_neg i10, keepers_h hp (by omega), bd_s, bc_n m3 (by omega), bd_s, pw43_m hp, bd_s, sz_m, bd_s, m1, nm_k, nm_k, ← Int.natCast_mul, ← hT, w32_i (x := (T : Int)) (by omega) (by omega), hp.od, w32_i (x := 16 - τ 5 5) (by omega) (by omega), hb, pw_h (by omega) ht, bd_s]
      rw [show H_power 16 (T : Int) σ = some (((16 ^ T : Nat) : Int), σ) from pw_h (b := 16) (by omega) ht, bd_s, f1, bd_s]
      rw [sb_m hp (b := b) (by omega) (by omega) ht, bd_s, show M_safeBy 0 (T : Int) τ = some (((sbS b 0 T : Nat) : Int), τ) from sb_m hp (b := b) (r := 0) (by omega) (by omega) ht, bd_s, sbS_t b _ (by omega), sbS_0, f2, bd_s, zb_1]
      exact ag_yes f3 (f4.trans hz)
    · rw [wi_0 hc, in_0 hc, bd_s, bd_s, if_pos rfl, if_pos rfl]; exact ag_no h 5
  · rw [isW_0 hp ha, isWm_0 hp ha, bd_s, bd_s, if_pos rfl, if_pos rfl]; exact ag_no h 2
/-- how surely word k is kept a day -/
def rkS (c : Nat → Int) (N b k : Nat) : Nat := sbS b (szS (pwS c 43 k N) 8).toNat 6
theorem kq_h (h : RR σ τ W N D E) {b k : Nat} (hb : τ 5 5 = 16 - (b : Int)) (hb2 : b ≤ 16) (hk : k < 8) : H_keptQuiet k σ = some (((rkS (τ 5) N b k : Nat) : Int), σ) := by
  have hp := h.pr
  obtain ⟨m, m1, m2, m3, m4⟩ := kp_n hp k
  have e1 : rkS (τ 5) N b k = b ^ m * 16 ^ (6 - m) := by
    unfold rkS; rw [m1, Int.toNat_natCast, ← sbS_r]; congr 1; omega
  have g := sbS_b (b := b) (r := m) hb2 6
  have g2 := p16 (k := 6) (by omega)
  have e2 : sbS b m 6 = b ^ m * 16 ^ (6 - m) := by rw [← sbS_r]; congr 1; omega
  rw [e2] at g
  rw [H_keptQuiet, keepers_h hp hk, bd_s, bc_n m3 (by omega), bd_s, m1, hp.od, hb, w32_i (x := 16 - (16 - (b : Int))) (by omega) (by omega), show 16 - (16 - (b : Int)) = (b : Int) by omega, pw_h hb2 (by omega), bd_s, w32_i (by omega) (by omega), show (6 : Int) - m = ((6 - m : Nat) : Int) by omega, show (16 : Int) = ((16 : Nat) : Int) from rfl, pw_h (by omega) (by omega), bd_s, ← Int.natCast_mul, w64_i (by omega) (by omega), e1]
theorem rk_m (h : RR σ τ W N D E) {b k : Nat} (hb : τ 5 5 = 16 - (b : Int)) (hb2 : b ≤ 16) : M_safeBy (szS (pwS (τ 5) 43 k N) 8) 6 τ = some (((rkS (τ 5) N b k : Nat) : Int), τ) := by
  obtain ⟨m, m1, m2, m3, m4⟩ := kp_n h.pr k
  unfold rkS
  rw [m1, Int.toNat_natCast, show (6 : Int) = ((6 : Nat) : Int) from rfl]
  exact sb_m h.pr hb hb2 (by omega)
theorem risk_l (h : RR σ τ W N D E) (hz : τ 0 0 = 0) {b : Nat} (hb : τ 5 5 = 16 - (b : Int)) (hb2 : b ≤ 16) : ∀ (m k n n' j : Nat), k + m = W → m < n → m < n' → j < 8 →
    Ag (H_riskiest_L28 n j (rkS (τ 5) N b j : Nat) k σ) (M_riskiest_L14 (fun x s => M_riskiest_J72 x s) n' j k τ) := by
  intro m
  have hp := h.pr
  have bW := hp.bW
  induction m with
  | zero =>
    intro k n n' j hk hn hn' hj
    obtain ⟨n, rfl⟩ : ∃ x, n = x + 1 := ⟨n - 1, by omega⟩
    obtain ⟨n', rfl⟩ : ∃ x, n' = x + 1 := ⟨n' - 1, by omega⟩
    rw [H_riskiest_L28, hp.w, if_neg (by omega), M_riskiest_L14, rd_k (by omega) (by omega), Int.toNat_zero, hp.w', if_neg (by omega), M_riskiest_J72, if_neg (by omega)]
    exact ag_give h hz _
  | succ m ih =>
    intro k n n' j hk hn hn' hj
    obtain ⟨n, rfl⟩ : ∃ x, n = x + 1 := ⟨n - 1, by omega⟩
    obtain ⟨n', rfl⟩ : ∃ x, n' = x + 1 := ⟨n' - 1, by omega⟩
    rw [H_riskiest_L28, hp.w, if_pos (by omega), kq_h h hb hb2 (by omega), bd_s, M_riskiest_L14, rd_k (by omega) (by omega), Int.toNat_zero, hp.w', if_pos (show (k : Int) < (W : Int) by omega), if_neg (show ¬ (j : Int) < 0 by omega), pw43_m hp, bd_s, sz_m, bd_s, rk_m h hb hb2, bd_s, pw43_m hp, bd_s, sz_m, bd_s, rk_m h hb hb2, bd_s]
    simp only [nm_k]
    rw [w32_i (x := (k : Int) + 1) (by omega) (by omega), suc]
    by_cases e : ((rkS (τ 5) N b k : Nat) : Int) < (rkS (τ 5) N b j : Nat)
    · rw [if_pos e, if_pos e]; exact ih (k + 1) n n' k (by omega) (by omega) (by omega) (by omega)
    · rw [if_neg e, if_neg e]; exact ih (k + 1) n n' j (by omega) (by omega) (by omega) hj
theorem k_riskiest (h : RR σ τ W N D E) : Ag (H_riskiest σ) (M_riskiest τ) := by
  rw [M_riskiest]; refine ag_go h (fun τ h hz => ?_)
  have hp := h.pr
  have bW := hp.bW
  have ob := hp.odb
  obtain ⟨b, hb⟩ := nat_of (x := 16 - τ 5 5) (by omega)
  obtain ⟨f, hf⟩ : ∃ f, fu = f + 1 := ⟨99999, rfl⟩
  have hf2 : 90000 < f := by unfold fu at hf; omega
  rw [H_riskiest, hp.w]
  by_cases e : W = 0
  · rw [if_pos (by omega), hf, M_riskiest_L14, rd_k (by omega) (by omega), Int.toNat_zero, hp.w', if_neg (by omega), M_riskiest_J72, if_pos (by omega)]
    exact ag_fail h 8
  · have q := risk_l h hz (b := b) (by omega) (by omega) (W - 1) 1 fu f 0 (by omega) (by unfold fu; omega) (by omega) (by omega)
    rw [if_neg (by omega), show H_keptQuiet 0 σ = _ from kq_h h (b := b) (k := 0) (by omega) (by omega) (by omega), bd_s]
    have e2 : M_riskiest_L14 (fun x19 s20 => M_riskiest_J72 x19 s20) fu (-1) 0 τ = M_riskiest_L14 (fun x19 s20 => M_riskiest_J72 x19 s20) f 0 1 τ := by
      rw [hf, M_riskiest_L14, rd_k (by omega) (by omega), Int.toNat_zero, hp.w', if_pos (by omega), if_pos (by omega), nm_k, w32_i (by omega) (by omega)]; rfl
    rw [e2]
    exact q
end
