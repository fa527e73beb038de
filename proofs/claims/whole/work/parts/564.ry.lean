/-! the tokens of a text; how the reference comes to the next one -/
def klA : List Nat := [5, 4, 4, 5, 4, 6, 6, 6, 5, 6, 5, 6, 3, 4, 3, 2, 3, 2, 3, 4, 5, 4, 4, 3, 4]
def ksA : List Nat := [0, 6, 11, 16, 22, 27, 34, 41, 48, 54, 61, 67, 74, 78, 83, 87, 90, 94, 97, 101, 106, 112, 117, 122, 126, 131]
def kcA : List Int := [8554052, 495763, 769604, 7945971, 247993, 542723566, 676774066, 68749490, 11703827, 144128178, 5969497, 269899955, 4153, 365744, 19513, 655, 3764, 89, 1497, 762030, 12009203, 263474, 409072, 5572, 643568]
def kyl (q : Nat) : Nat := klA.getD q 0
def kst (q : Nat) : Nat := ksA.getD q 0
def kc (q : Nat) : Int := kcA.getD q 0
theorem key_f : ∀ q : Fin 25, kst q.1 + kyl q.1 + 1 = kst (q.1 + 1) ∧ kst (q.1 + 1) ≤ 131 ∧ ks_c (kst q.1 + kyl q.1) = 32 ∧ 2 ≤ kyl q.1 ∧ kyl q.1 ≤ 6 ∧ (∀ i : Fin 7, i.1 < kyl q.1 → 97 ≤ ks_c (kst q.1 + i.1) ∧ ks_c (kst q.1 + i.1) ≤ 122) ∧ cd 32 ks_c (kst q.1) (kyl q.1) = kc q.1 := by decide +kernel
theorem kc_j : ∀ q r : Fin 25, kc q.1 = kc r.1 → q.1 = r.1 := by decide +kernel
theorem kc_b : ∀ q : Fin 25, 0 < kc q.1 := by decide +kernel
theorem key_1 {q : Nat} (h : q < 25) : kst q + kyl q + 1 = kst (q + 1) := (key_f ⟨q, h⟩).1
theorem key_2 {q : Nat} (h : q < 25) : kst (q + 1) ≤ 131 := (key_f ⟨q, h⟩).2.1
theorem key_3 {q : Nat} (h : q < 25) : ks_c (kst q + kyl q) = 32 := (key_f ⟨q, h⟩).2.2.1
theorem key_4 {q : Nat} (h : q < 25) : 2 ≤ kyl q ∧ kyl q ≤ 6 := ⟨(key_f ⟨q, h⟩).2.2.2.1, (key_f ⟨q, h⟩).2.2.2.2.1⟩
theorem key_5 {q i : Nat} (h : q < 25) (hi : i < kyl q) : isL (ks_c (kst q + i)) := (key_f ⟨q, h⟩).2.2.2.2.2.1 ⟨i, by have := key_4 h; omega⟩ hi
theorem key_6 {q : Nat} (h : q < 25) : cd 32 ks_c (kst q) (kyl q) = kc q := (key_f ⟨q, h⟩).2.2.2.2.2.2
def KYM (B : Nat → Int) (p e q : Nat) : Prop := e = p + kyl q ∧ ∀ i, i < kyl q → B (p + i) = ks_c (kst q + i)
def LTK (B : Nat → Int) (p e k v : Nat) : Prop := (∃ q, q < 25 ∧ KYM B p e q ∧ k = 2 ∧ v = q) ∨ ((∀ q, q < 25 → ¬ KYM B p e q) ∧ ((e ≤ p + 8 ∧ k = 3 ∧ (v : Int) = cd 27 B p (e - p)) ∨ (p + 8 < e ∧ k = 4 ∧ v = 0)))
def DTK (B : Nat → Int) (p e k v : Nat) : Prop := (e ≤ p + 4 ∧ k = 5 ∧ (v : Int) = dg B p (e - p)) ∨ (p + 4 < e ∧ k = 1 ∧ v = 0)
def sgn (x : Int) : Prop := x = 59 ∨ x = 60 ∨ x = 61 ∨ x = 62
def STK (B : Nat → Int) (p k v : Nat) : Prop := (sgn (B p) ∧ k = 6 ∧ (v : Int) = B p) ∨ (¬ sgn (B p) ∧ k = 1 ∧ v = 0)
def TOK (n : Nat) (B : Nat → Int) (b k v p e : Nat) : Prop := b ≤ p ∧ p ≤ n ∧ (∀ i, b ≤ i → i < p → B i = 10 ∨ B i = 32) ∧
  ((p = n ∧ k = 0 ∧ v = 0 ∧ e = n) ∨ (p < e ∧ e ≤ n ∧ (∀ i, i < e - p → isL (B (p + i))) ∧ ¬ isL (B e) ∧ LTK B p e k v) ∨
   (p < e ∧ e ≤ n ∧ (∀ i, i < e - p → isD (B (p + i))) ∧ ¬ isD (B e) ∧ DTK B p e k v) ∨
   (p < n ∧ e = p + 1 ∧ ¬ isL (B p) ∧ ¬ isD (B p) ∧ B p ≠ 10 ∧ B p ≠ 32 ∧ STK B p k v))
/-- what the reference tells of a token -/
def TD (k v : Nat) (τ : Sg) : Prop := (k = 0 ∧ τ 0 14 = 0) ∨ (k = 1 ∧ τ 0 14 = 4) ∨ (k = 2 ∧ v < 25 ∧ τ 0 14 = 1 ∧ τ 0 19 = kc v) ∨
  (k = 3 ∧ τ 0 14 = 1 ∧ τ 0 18 ≤ 8 ∧ NC v (τ 0 19) ∧ ∀ q, q < 25 → τ 0 19 ≠ kc q) ∨ (k = 4 ∧ τ 0 14 = 1 ∧ 8 < τ 0 18 ∧ τ 0 19 = -1) ∨
  (k = 5 ∧ τ 0 14 = 2 ∧ τ 0 17 = v ∧ v ≤ 9999) ∨ (k = 6 ∧ τ 0 14 = 3 ∧ τ 0 17 = v ∧ 59 ≤ v ∧ v ≤ 62)
def TXM (n : Nat) (B : Nat → Int) (τ : Sg) : Prop := n ≤ 900 ∧ τ 0 9 = n ∧ (∀ k, k < n → an32 (τ 4 k) 255 = B k) ∧ ∀ k, n ≤ k → B k = 0
theorem TXM.cg {n : Nat} {B : Nat → Int} {τ τ' : Sg} (h : TXM n B τ) (h1 : τ' 0 9 = τ 0 9) (h2 : ∀ k, τ' 4 k = τ 4 k) : TXM n B τ' :=
  ⟨h.1, by rw [h1]; exact h.2.1, fun k hk => by rw [h2]; exact h.2.2.1 k hk, h.2.2.2⟩
theorem look_m {n : Nat} {B : Nat → Int} {τ : Sg} (h : TXM n B τ) (k : Nat) : M_look2 k τ = some (B k, τ) := by
  have h0 := h.1
  rw [M_look2, h.2.1]
  by_cases e : k < n
  · rw [if_pos (by omega), rd_k (by omega) (by omega), Int.toNat_natCast, h.2.2.1 k e]
  · rw [if_neg (by omega), h.2.2.2 k (by omega)]
theorem let_m (x : Int) (τ : Sg) : M_isLetter x τ = some (if 97 ≤ x ∧ x ≤ 122 then 1 else 0, τ) := by
  rw [M_isLetter]
  by_cases h1 : x < 97
  · rw [if_pos h1, if_neg (by omega)]
  · rw [if_neg h1]
    by_cases h2 : 122 < x
    · rw [if_pos h2, if_neg (by omega)]
    · rw [if_neg h2, if_pos (by omega)]
theorem dig_m (x : Int) (τ : Sg) : M_isDigit x τ = some (if 48 ≤ x ∧ x ≤ 57 then 1 else 0, τ) := by
  rw [M_isDigit]
  by_cases h1 : x < 48
  · rw [if_pos h1, if_neg (by omega)]
  · rw [if_neg h1]
    by_cases h2 : 57 < x
    · rw [if_pos h2, if_neg (by omega)]
    · rw [if_neg h2, if_pos (by omega)]
theorem let_1 {x : Int} (h : isL x) (τ : Sg) : M_isLetter x τ = some (1, τ) := by rw [let_m, if_pos (show 97 ≤ x ∧ x ≤ 122 from h)]
theorem let_0 {x : Int} (h : ¬ isL x) (τ : Sg) : M_isLetter x τ = some (0, τ) := by rw [let_m, if_neg (show ¬ (97 ≤ x ∧ x ≤ 122) from h)]
theorem dig_1 {x : Int} (h : isD x) (τ : Sg) : M_isDigit x τ = some (1, τ) := by rw [dig_m, if_pos (show 48 ≤ x ∧ x ≤ 57 from h)]
theorem dig_0 {x : Int} (h : ¬ isD x) (τ : Sg) : M_isDigit x τ = some (0, τ) := by rw [dig_m, if_neg (show ¬ (48 ≤ x ∧ x ≤ 57) from h)]
theorem up_t {σ : Sg} {o k : Nat} {x y : Int} : up_s (up_s σ o k x) o k y = up_s σ o k y := by
  funext a b; rw [up_v, up_v, up_v]; split <;> rfl
theorem skip_m {n p : Nat} {B : Nat → Int} {τ : Sg} {K : Sg → Rs} (h : TXM n B τ) (hp : p ≤ n) (he : p = n ∨ (B p ≠ 10 ∧ B p ≠ 32)) : ∀ d b f, b + d = p → d < f → (∀ i, b ≤ i → i < p → B i = 10 ∨ B i = 32) → M_advance_L8 K f (up_s τ 0 15 b) = K (up_s τ 0 15 p) := by
  have h0 := h.1
  have hx : ∀ b : Nat, TXM n B (up_s τ 0 15 b) := fun b => h.cg (up_k (by omega)) (fun k => up_o (by omega))
  intro d
  induction d with
  | zero =>
    intro b f hb hf hi
    obtain ⟨f, rfl⟩ : ∃ x, f = x + 1 := ⟨f - 1, by omega⟩
    obtain rfl : b = p := by omega
    rw [M_advance_L8, up_e, (hx b).2.1]
    by_cases e : b = n
    · rw [if_neg (by omega)]
    · rw [if_pos (by omega), look_m (hx b), bd_s, if_neg (by omega), up_e, look_m (hx b), bd_s, if_neg (by omega)]
  | succ d ih =>
    intro b f hb hf hi
    obtain ⟨f, rfl⟩ : ∃ x, f = x + 1 := ⟨f - 1, by omega⟩
    have q := hi b (by omega) (by omega)
    have g := ih (b + 1) f (by omega) (by omega) (fun i h1 h2 => hi i (by omega) h2)
    rw [M_advance_L8, up_e, (hx b).2.1, if_pos (by omega), look_m (hx b), bd_s]
    by_cases e : B b = 10
    · rw [if_pos e, nm_k, up_e, up_t, w32_i (by omega) (by omega), suc]; exact g
    · rw [if_neg e, up_e, look_m (hx b), bd_s, if_pos (by omega), nm_k, up_e, up_t, w32_i (by omega) (by omega), suc]; exact g
theorem lets_m {n p e : Nat} {B : Nat → Int} (hL : ∀ i, i < e - p → isL (B (p + i))) (hE : ¬ isL (B e)) (hn : e ≤ n) : ∀ d i f s, i + d = e → d < f → p ≤ i → TXM n B s → s 0 15 = p → s 0 16 = i → s 0 19 = (if i - p ≤ 8 then cd 32 B p (i - p) else -1) →
    ∃ s', M_advance_L109 f s = some (0, s') ∧ (∀ o k, (o ≠ 0 ∨ (k ≠ 16 ∧ k ≠ 18 ∧ k ≠ 19)) → s' o k = s o k) ∧ s' 0 16 = e ∧ s' 0 18 = (e - p : Nat) ∧ s' 0 19 = (if e - p ≤ 8 then cd 32 B p (e - p) else -1) := by
  intro d
  induction d with
  | zero =>
    intro i f s hi hf hpi hx h15 h16 h19
    have h0 := hx.1
    obtain ⟨f, rfl⟩ : ∃ x, f = x + 1 := ⟨f - 1, by omega⟩
    obtain rfl : i = e := by omega
    refine ⟨up_s s 0 18 (i - p : Nat), ?_, fun o k q => by rw [up_v, if_neg (by omega)], by rw [up_k (by omega)]; exact h16, up_e, by rw [up_k (by omega)]; exact h19⟩
    rw [M_advance_L109, h16, look_m hx, bd_s, let_0 hE, bd_s, if_pos rfl, nm_k, h15, h16, w32_i (by omega) (by omega)]
    congr 4; omega
  | succ d ih =>
    intro i f s hi hf hpi hx h15 h16 h19
    have h0 := hx.1
    obtain ⟨f, rfl⟩ : ∃ x, f = x + 1 := ⟨f - 1, by omega⟩
    have q := hL (i - p) (by omega)
    rw [show p + (i - p) = i by omega] at q
    have q' : 97 ≤ B i ∧ B i ≤ 122 := q
    by_cases g : i - p < 8
    · have c8 := cd_8 (b := 32) (.inr rfl) (B := B) (p := p) (L := i - p) (fun j hj => hL j (by omega)) (by omega)
      rw [if_pos (by omega)] at h19
      have key := ih (i + 1) f (up_s (up_s s 0 19 (cd 32 B p (i + 1 - p))) 0 16 (i + 1 : Nat)) (by omega) (by omega) (by omega) (hx.cg (by rw [up_k (by omega), up_k (by omega)]) (fun k => by rw [up_o (by omega), up_o (by omega)])) (by rw [up_k (by omega), up_k (by omega)]; exact h15) up_e (by rw [up_k (by omega), up_e, if_pos (by omega)])
      obtain ⟨s', k1, k2, k3, k4, k5⟩ := key
      refine ⟨s', ?_, fun o k z => by rw [k2 o k z, up_v, if_neg (by omega), up_v, if_neg (by omega)], k3, k4, k5⟩
      rw [M_advance_L109, h16, look_m hx, bd_s, let_1 q, bd_s, if_neg i10, h15, h16, w32_i (by omega) (by omega), if_pos (by omega), look_m hx, bd_s, nm_k, nm_k, h19, up_k (by omega), h16, w32_i (by omega) (by omega), suc]
      rw [w64_i (x := cd 32 B p (i - p) * 32) (by omega) (by omega), w64_i (x := cd 32 B p (i - p) * 32 + B i) (by omega) (by omega), w64_i (by omega) (by omega)]
      have e1 : cd 32 B p (i + 1 - p) = cd 32 B p (i - p) * 32 + B i - 96 := by
        rw [show i + 1 - p = i - p + 1 by omega, cd, show p + (i - p) = i by omega]; omega
      rw [← e1]; exact k1
    · have key := ih (i + 1) f (up_s (up_s s 0 19 (-1)) 0 16 (i + 1 : Nat)) (by omega) (by omega) (by omega) (hx.cg (by rw [up_k (by omega), up_k (by omega)]) (fun k => by rw [up_o (by omega), up_o (by omega)])) (by rw [up_k (by omega), up_k (by omega)]; exact h15) up_e (by rw [up_k (by omega), up_e, if_neg (by omega)])
      obtain ⟨s', k1, k2, k3, k4, k5⟩ := key
      refine ⟨s', ?_, fun o k z => by rw [k2 o k z, up_v, if_neg (by omega), up_v, if_neg (by omega)], k3, k4, k5⟩
      rw [M_advance_L109, h16, look_m hx, bd_s, let_1 q, bd_s, if_neg i10, h15, h16, w32_i (by omega) (by omega), if_neg (by omega), nm_k, nm_k, up_k (by omega), h16, w32_i (by omega) (by omega), suc]
      exact k1
theorem digs_m {n p e : Nat} {B : Nat → Int} {K : Sg → Rs} (hL : ∀ i, i < e - p → isD (B (p + i))) (hE : ¬ isD (B e)) (hn : e ≤ n) : ∀ d i f s, i + d = e → d < f → p ≤ i → TXM n B s → s 0 15 = p → s 0 16 = i → s 0 17 = dg B p (min (i - p) 4) →
    ∃ s', M_advance_L210 K f s = K s' ∧ (∀ o k, (o ≠ 0 ∨ (k ≠ 16 ∧ k ≠ 17)) → s' o k = s o k) ∧ s' 0 16 = e ∧ s' 0 17 = dg B p (min (e - p) 4) := by
  intro d
  induction d with
  | zero =>
    intro i f s hi hf hpi hx h15 h16 h17
    have h0 := hx.1
    obtain ⟨f, rfl⟩ : ∃ x, f = x + 1 := ⟨f - 1, by omega⟩
    obtain rfl : i = e := by omega
    exact ⟨s, by rw [M_advance_L210, h16, look_m hx, bd_s, dig_0 hE, bd_s, if_pos rfl], fun o k q => rfl, h16, h17⟩
  | succ d ih =>
    intro i f s hi hf hpi hx h15 h16 h17
    have h0 := hx.1
    obtain ⟨f, rfl⟩ : ∃ x, f = x + 1 := ⟨f - 1, by omega⟩
    have q := hL (i - p) (by omega)
    rw [show p + (i - p) = i by omega] at q
    have q' : 48 ≤ B i ∧ B i ≤ 57 := q
    by_cases g : i - p < 4
    · have c8 := dg_b (B := B) (p := p) (L := i - p) (fun j hj => hL j (by omega)) (by omega)
      rw [Nat.min_eq_left (by omega)] at h17
      have key := ih (i + 1) f (up_s (up_s s 0 17 (dg B p (i + 1 - p))) 0 16 (i + 1 : Nat)) (by omega) (by omega) (by omega) (hx.cg (by rw [up_k (by omega), up_k (by omega)]) (fun k => by rw [up_o (by omega), up_o (by omega)])) (by rw [up_k (by omega), up_k (by omega)]; exact h15) up_e (by rw [up_k (by omega), up_e, Nat.min_eq_left (by omega)])
      obtain ⟨s', k1, k2, k3, k4⟩ := key
      refine ⟨s', ?_, fun o k z => by rw [k2 o k z, up_v, if_neg (by omega), up_v, if_neg (by omega)], k3, k4⟩
      rw [M_advance_L210, h16, look_m hx, bd_s, dig_1 q, bd_s, if_neg i10, h15, h16, w32_i (by omega) (by omega), if_pos (by omega), look_m hx, bd_s, nm_k, nm_k, h17, up_k (by omega), h16, w32_i (x := (i : Int) + 1) (by omega) (by omega), suc]
      rw [w32_i (x := 10 * dg B p (i - p)) (by omega) (by omega), w32_i (x := 10 * dg B p (i - p) + B i) (by omega) (by omega), w32_i (by omega) (by omega)]
      have e1 : dg B p (i + 1 - p) = 10 * dg B p (i - p) + B i - 48 := by
        rw [show i + 1 - p = i - p + 1 by omega, dg, show p + (i - p) = i by omega]; omega
      rw [← e1]; exact k1
    · have key := ih (i + 1) f (up_s s 0 16 (i + 1 : Nat)) (by omega) (by omega) (by omega) (hx.cg (by rw [up_k (by omega)]) (fun k => by rw [up_o (by omega)])) (by rw [up_k (by omega)]; exact h15) up_e (by rw [up_k (by omega), h17, Nat.min_eq_right (by omega), Nat.min_eq_right (by omega)])
      obtain ⟨s', k1, k2, k3, k4⟩ := key
      refine ⟨s', ?_, fun o k z => by rw [k2 o k z, up_v, if_neg (by omega)], k3, k4⟩
      rw [M_advance_L210, h16, look_m hx, bd_s, dig_1 q, bd_s, if_neg i10, h15, h16, w32_i (by omega) (by omega), if_neg (by omega), nm_k, w32_i (by omega) (by omega), suc]
      exact k1
