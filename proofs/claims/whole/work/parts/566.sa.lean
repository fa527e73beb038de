/-! the class splits a text into tokens -/
def TXH (n : Nat) (B : Nat → Int) (σ : Sg) : Prop := n ≤ 900 ∧ σ 5 2 = n ∧ (∀ k, k < n → an32 (σ 6 k) 255 = B k) ∧ (∀ k, n ≤ k → B k = 0) ∧ ∀ k : Nat, σ 113 k = kcl.getD k 0
theorem TXH.cg {n : Nat} {B : Nat → Int} {σ σ' : Sg} (h : TXH n B σ) (h1 : σ' 5 2 = σ 5 2) (h2 : ∀ k, σ' 6 k = σ 6 k) (h3 : ∀ k, σ' 113 k = σ 113 k) : TXH n B σ' :=
  ⟨h.1, by rw [h1]; exact h.2.1, fun k hk => by rw [h2]; exact h.2.2.1 k hk, h.2.2.2.1, fun k => by rw [h3]; exact h.2.2.2.2 k⟩
section
variable {n : Nat} {B : Nat → Int} {σ : Sg}
theorem byte_h (h : TXH n B σ) (k : Nat) : To_byteAt k σ = some (B k, σ) := by
  have h0 := h.1
  rw [To_byteAt, h.2.1, if_neg (by omega)]
  by_cases e : k < n
  · rw [if_pos (by omega), if_pos (by omega), rd_k (by omega) (by omega), Int.toNat_natCast, h.2.2.1 k e]
  · rw [if_neg (by omega), h.2.2.2.1 k (by omega)]
theorem leth_1 {x : Int} (h : isL x) (σ : Sg) : To_isLetter x σ = some (1, σ) := by
  unfold isL at h; rw [To_isLetter, if_neg (by omega), if_neg (by omega)]
theorem leth_0 {x : Int} (h : ¬ isL x) (σ : Sg) : To_isLetter x σ = some (0, σ) := by
  unfold isL at h; rw [To_isLetter]
  by_cases h1 : x < 97
  · rw [if_pos h1]
  · rw [if_neg h1, if_pos (by omega)]
theorem digh_1 {x : Int} (h : isD x) (σ : Sg) : To_isDigit x σ = some (1, σ) := by
  unfold isD at h; rw [To_isDigit, if_neg (by omega), if_neg (by omega)]
theorem digh_0 {x : Int} (h : ¬ isD x) (σ : Sg) : To_isDigit x σ = some (0, σ) := by
  unfold isD at h; rw [To_isDigit]
  by_cases h1 : x < 48
  · rw [if_pos h1]
  · rw [if_neg h1, if_pos (by omega)]
theorem key_c : ∀ q : Fin 25, kcl.getD q.1 0 = cd 27 ks_c (kst q.1) (kyl q.1) := by decide +kernel
/-- a key by its letters' number -/
theorem key_q {p L q : Nat} (hL : ∀ i, i < L → isL (B (p + i))) (hq : q < 25) : kcl.getD q 0 = cd 27 B p L ↔ KYM B p (p + L) q := by
  rw [key_c ⟨q, hq⟩]
  constructor
  · intro e
    obtain ⟨e1, e2⟩ := cd_j (b := 27) (.inl rfl) hL (C := ks_c) (s := kst q) (K := kyl q) (fun i hi => key_5 hq hi) e.symm
    exact ⟨by omega, fun i hi => e2 i (by omega)⟩
  · rintro ⟨e1, e2⟩
    obtain rfl : L = kyl q := by omega
    exact (cd_e e2).symm
theorem key_k (h : TXH n B σ) {p L : Nat} (hL : ∀ i, i < L → isL (B (p + i))) : ∃ r : Int, To_findKey (cd 27 B p L) σ = some (r, σ) ∧ ((∃ q, q < 25 ∧ KYM B p (p + L) q ∧ r = q) ∨ ((∀ q, q < 25 → ¬ KYM B p (p + L) q) ∧ r = -1)) := by
  have key : ∀ d q f, q + d = 25 → d < f → ∃ r : Int, To_findKey_L2 (cd 27 B p L) f (q : Nat) σ = some (r, σ) ∧ ((∃ q', q' < 25 ∧ KYM B p (p + L) q' ∧ r = q') ∨ ((∀ q', q ≤ q' → q' < 25 → ¬ KYM B p (p + L) q') ∧ r = -1)) := by
    intro d
    induction d with
    | zero =>
      intro q f hq hf
      obtain ⟨f, rfl⟩ : ∃ x, f = x + 1 := ⟨f - 1, by omega⟩
      refine ⟨-1, ?_, .inr ⟨fun q' h1 h2 => by omega, rfl⟩⟩
      rw [To_findKey_L2, if_neg (by omega)]
    | succ d ih =>
      intro q f hq hf
      obtain ⟨f, rfl⟩ : ∃ x, f = x + 1 := ⟨f - 1, by omega⟩
      have k1 := key_q (q := q) hL (by omega)
      rw [To_findKey_L2, if_pos (by omega), rd_k (by omega) (by omega), Int.toNat_natCast, h.2.2.2.2 q]
      by_cases c : kcl.getD q 0 = cd 27 B p L
      · rw [if_pos c]; exact ⟨q, rfl, .inl ⟨q, by omega, k1.mp c, rfl⟩⟩
      · rw [if_neg c, nm_k, w32_i (by omega) (by omega), suc]
        obtain ⟨r, r1, r2⟩ := ih (q + 1) f (by omega) (by omega)
        refine ⟨r, r1, ?_⟩
        rcases r2 with r2 | ⟨r2, r3⟩
        · exact .inl r2
        · refine .inr ⟨fun q' h1 h2 z => ?_, r3⟩
          by_cases y : q' = q
          · rw [y] at z; exact c (k1.mpr z)
          · exact r2 q' (by omega) h2 z
  rw [To_findKey]
  obtain ⟨r, r1, r2⟩ := key 25 0 fu (by omega) (by unfold fu; omega)
  refine ⟨r, r1, ?_⟩
  rcases r2 with r2 | ⟨r2, r3⟩
  · exact .inl r2
  · exact .inr ⟨fun q hq => r2 q (by omega) hq, r3⟩
/-- a run of bytes that goes as far as it can -/
theorem run_e {P : Int → Prop} (h : TXH n B σ) (h0 : ¬ P 0) : ∀ d p, p + d = n → ∃ e, p ≤ e ∧ e ≤ n ∧ (∀ i, i < e - p → P (B (p + i))) ∧ ¬ P (B e) := by
  intro d
  induction d with
  | zero => intro p hp; exact ⟨p, by omega, by omega, fun i hi => by omega, by rw [h.2.2.2.1 p (by omega)]; exact h0⟩
  | succ d ih =>
    intro p hp
    by_cases c : P (B p)
    · obtain ⟨e, e1, e2, e3, e4⟩ := ih (p + 1) (by omega)
      refine ⟨e, by omega, e2, fun i hi => ?_, e4⟩
      by_cases z : i = 0
      · rw [z]; exact c
      · have := e3 (i - 1) (by omega)
        rw [show p + 1 + (i - 1) = p + i by omega] at this
        exact this
    · exact ⟨p, by omega, by omega, fun i hi => by omega, c⟩
def cw (B : Nat → Int) (p : Nat) : Nat → Int
  | 0 => 0
  | L + 1 => w64 (w64 (w64 (w64 (cw B p L * 27) + B (p + L)) - 97) + 1)
theorem cw_e {p : Nat} : ∀ {L : Nat}, (∀ i, i < L → isL (B (p + i))) → L ≤ 8 → cw B p L = cd 27 B p L
  | 0, _, _ => rfl
  | L + 1, h, hL => by
    have c := cd_8 (b := 27) (.inl rfl) (B := B) (p := p) (L := L) (fun i hi => h i (by omega)) (by omega)
    have q : 97 ≤ B (p + L) ∧ B (p + L) ≤ 122 := h L (by omega)
    rw [cw, cd, cw_e (fun i hi => h i (by omega)) (by omega), w64_i (x := cd 27 B p L * 27) (by omega) (by omega), w64_i (x := cd 27 B p L * 27 + B (p + L)) (by omega) (by omega), w64_i (x := cd 27 B p L * 27 + B (p + L) - 97) (by omega) (by omega), w64_i (by omega) (by omega)]
    omega
def dw (B : Nat → Int) (p : Nat) : Nat → Int
  | 0 => 0
  | L + 1 => w64 (w64 (w64 (dw B p L * 10) + B (p + L)) - 48)
theorem dw_e {p : Nat} : ∀ {L : Nat}, (∀ i, i < L → isD (B (p + i))) → L ≤ 4 → dw B p L = dg B p L
  | 0, _, _ => rfl
  | L + 1, h, hL => by
    have c := dg_b (B := B) (p := p) (L := L) (fun i hi => h i (by omega)) (by omega)
    have q : 48 ≤ B (p + L) ∧ B (p + L) ≤ 57 := h L (by omega)
    rw [dw, dg, dw_e (fun i hi => h i (by omega)) (by omega), w64_i (x := dg B p L * 10) (by omega) (by omega), w64_i (x := dg B p L * 10 + B (p + L)) (by omega) (by omega), w64_i (by omega) (by omega)]
    omega
theorem lets_h (h : TXH n B σ) {p e : Nat} {a1 : Int} {K : Int → Int → Sg → Rs} (hL : ∀ i, i < e - p → isL (B (p + i))) (hE : ¬ isL (B e)) (hn : e ≤ n) : ∀ d i f, i + d = e → d < f → p ≤ i → To_splitLetters_L4 a1 K f i (cw B p (i - p)) σ = K e (cw B p (e - p)) σ := by
  have h0 := h.1
  intro d
  induction d with
  | zero =>
    intro i f hi hf hp
    obtain ⟨f, rfl⟩ : ∃ x, f = x + 1 := ⟨f - 1, by omega⟩
    obtain rfl : i = e := by omega
    rw [To_splitLetters_L4, h.2.1]
    by_cases c : i < n
    · rw [if_pos (by omega), byte_h h, bd_s, leth_0 hE, bd_s, if_pos rfl]
    · rw [if_neg (by omega)]
  | succ d ih =>
    intro i f hi hf hp
    obtain ⟨f, rfl⟩ : ∃ x, f = x + 1 := ⟨f - 1, by omega⟩
    have q := hL (i - p) (by omega)
    rw [show p + (i - p) = i by omega] at q
    rw [To_splitLetters_L4, h.2.1, if_pos (by omega), byte_h h, bd_s, leth_1 q, bd_s, if_neg i10, byte_h h, bd_s, To_codeWith, bd_s, nm_k, w32_i (by omega) (by omega), suc, ← ih (i + 1) f (by omega) (by omega) (by omega), show i + 1 - p = i - p + 1 by omega, cw, show p + (i - p) = i by omega]
theorem digs_h (h : TXH n B σ) {p e : Nat} {a1 : Int} {K : Int → Int → Sg → Rs} (hL : ∀ i, i < e - p → isD (B (p + i))) (hE : ¬ isD (B e)) (hn : e ≤ n) : ∀ d i f, i + d = e → d < f → p ≤ i → To_splitNumber_L4 a1 K f i (dw B p (i - p)) σ = K e (dw B p (e - p)) σ := by
  have h0 := h.1
  intro d
  induction d with
  | zero =>
    intro i f hi hf hp
    obtain ⟨f, rfl⟩ : ∃ x, f = x + 1 := ⟨f - 1, by omega⟩
    obtain rfl : i = e := by omega
    rw [To_splitNumber_L4, h.2.1]
    by_cases c : i < n
    · rw [if_pos (by omega), byte_h h, bd_s, digh_0 hE, bd_s, if_pos rfl]
    · rw [if_neg (by omega)]
  | succ d ih =>
    intro i f hi hf hp
    obtain ⟨f, rfl⟩ : ∃ x, f = x + 1 := ⟨f - 1, by omega⟩
    have q := hL (i - p) (by omega)
    rw [show p + (i - p) = i by omega] at q
    rw [To_splitNumber_L4, h.2.1, if_pos (by omega), byte_h h, bd_s, digh_1 q, bd_s, if_neg i10, byte_h h, bd_s, nm_k, nm_k, w32_i (by omega) (by omega), suc, ← ih (i + 1) f (by omega) (by omega) (by omega), show i + 1 - p = i - p + 1 by omega, dw, show p + (i - p) = i by omega]
/-- one more token in the row -/
def rwU (σ : Sg) (r k p v : Nat) : Sg := up_s (up_s σ 7 r (ec k p v : Nat)) 5 4 (r + 1 : Nat)
theorem add_h {r k p v : Nat} (hr : σ 5 4 = r) (h1 : r < 901) (hk : k < 16) (hp : p < 4096) (hv : v < 1099511627776) : To_add k p v σ = some (0, rwU σ r k p v) := by
  rw [To_add, hr, if_pos (by omega), wr_k (by omega) (by omega), nm_k, Int.toNat_natCast, ec_n hk hp hv, up_o (by omega), hr, w32_i (by omega) (by omega), suc]; rfl
theorem spl_l (h : TXH n B σ) {p r : Nat} (hr : σ 5 4 = r) (h1 : r < 901) (hp : p < n) (hL : isL (B p)) : ∃ e k v, p < e ∧ e ≤ n ∧ (∀ i, i < e - p → isL (B (p + i))) ∧ ¬ isL (B e) ∧ LTK B p e k v ∧ k ≠ 0 ∧ k < 16 ∧ v < 1099511627776 ∧ To_splitLetters p σ = some ((e : Int), rwU σ r k p v) := by
  have h0 := h.1
  obtain ⟨e, e1, e2, e3, e4⟩ := run_e (P := isL) h (by unfold isL; omega) (n - p) p (by omega)
  have e5 : p < e := by
    by_cases z : e = p
    · rw [z] at e4; exact absurd hL e4
    · omega
  have g0 := lets_h h (a1 := p) (K := fun x10 x11 s12 => To_splitLetters_J39 p x10 x11 s12) e3 e4 e2 (e - p) p fu (by omega) (by unfold fu; omega) (by omega)
  rw [Nat.sub_self, show cw B p 0 = 0 from rfl] at g0
  rw [To_splitLetters, g0, To_splitLetters_J39, w32_i (x := (e : Int) - p) (by omega) (by omega)]
  have e6 : p + (e - p) = e := by omega
  by_cases c : e - p ≤ 8
  · obtain ⟨x, x1, x2⟩ := key_k h (p := p) (L := e - p) e3
    rw [e6] at x2
    rw [if_neg (by omega), cw_e e3 c, x1, bd_s]
    rcases x2 with ⟨q, q1, q2, q3⟩ | ⟨q1, q2⟩
    · refine ⟨e, 2, q, e5, e2, e3, e4, .inl ⟨q, q1, q2, rfl, rfl⟩, by omega, by omega, by omega, ?_⟩
      rw [q3, if_neg (by omega), To_splitLetters_J75, if_neg (by omega), show To_add 2 p q σ = _ from add_h (k := 2) hr h1 (by omega) (by omega) (by omega), bd_s]
    · have b8 := cd_8 (b := 27) (.inl rfl) e3 c
      refine ⟨e, 3, (cd 27 B p (e - p)).toNat, e5, e2, e3, e4, .inr ⟨q1, .inl ⟨by omega, rfl, by omega⟩⟩, by omega, by omega, by omega, ?_⟩
      have z := add_h (σ := σ) (k := 3) (p := p) (v := (cd 27 B p (e - p)).toNat) hr h1 (by omega) (by omega) (by omega)
      rw [Int.toNat_of_nonneg b8.1] at z
      rw [q2, if_pos rfl, To_splitLetters_J75, if_pos rfl, show To_add 3 p (cd 27 B p (e - p)) σ = _ from z, bd_s]
  · have q1 : ∀ q, q < 25 → ¬ KYM B p e q := fun q hq z => by
      have := key_4 hq
      have := z.1
      omega
    refine ⟨e, 4, 0, e5, e2, e3, e4, .inr ⟨q1, .inr ⟨by omega, rfl, rfl⟩⟩, by omega, by omega, by omega, ?_⟩
    rw [if_pos (by omega), show To_add 4 p 0 σ = _ from add_h (k := 4) (v := 0) hr h1 (by omega) (by omega) (by omega), bd_s]
theorem spl_d (h : TXH n B σ) {p r : Nat} (hr : σ 5 4 = r) (h1 : r < 901) (hp : p < n) (hL : isD (B p)) : ∃ e k v, p < e ∧ e ≤ n ∧ (∀ i, i < e - p → isD (B (p + i))) ∧ ¬ isD (B e) ∧ DTK B p e k v ∧ k ≠ 0 ∧ k < 16 ∧ v < 1099511627776 ∧ To_splitNumber p σ = some ((e : Int), rwU σ r k p v) := by
  have h0 := h.1
  obtain ⟨e, e1, e2, e3, e4⟩ := run_e (P := isD) h (by unfold isD; omega) (n - p) p (by omega)
  have e5 : p < e := by
    by_cases z : e = p
    · rw [z] at e4; exact absurd hL e4
    · omega
  have g0 := digs_h h (a1 := p) (K := fun x9 x10 s11 => To_splitNumber_J46 p x9 x10 s11) e3 e4 e2 (e - p) p fu (by omega) (by unfold fu; omega) (by omega)
  rw [Nat.sub_self, show dw B p 0 = 0 from rfl] at g0
  rw [To_splitNumber, g0, To_splitNumber_J46, w32_i (x := (e : Int) - p) (by omega) (by omega)]
  by_cases c : e - p ≤ 4
  · have b8 := dg_b e3 c
    refine ⟨e, 5, (dg B p (e - p)).toNat, e5, e2, e3, e4, .inl ⟨by omega, rfl, by omega⟩, by omega, by omega, by omega, ?_⟩
    have z := add_h (σ := σ) (k := 5) (p := p) (v := (dg B p (e - p)).toNat) hr h1 (by omega) (by omega) (by omega)
    rw [Int.toNat_of_nonneg b8.1] at z
    rw [if_neg (by omega), To_splitNumber_J58, if_neg i10, To_splitNumber_J71, if_neg i10, dw_e e3 c, show To_add 5 p (dg B p (e - p)) σ = _ from z, bd_s]
  · refine ⟨e, 1, 0, e5, e2, e3, e4, .inr ⟨by omega, rfl, rfl⟩, by omega, by omega, by omega, ?_⟩
    rw [if_pos (by omega), To_splitNumber_J58, if_pos rfl, To_splitNumber_J71, if_pos rfl, show To_add 1 p 0 σ = _ from add_h (k := 1) (v := 0) hr h1 (by omega) (by omega) (by omega), bd_s]
theorem spl_s {p r : Nat} {x : Int} (hr : σ 5 4 = r) (h1 : r < 901) (hp : p < 900) (hn : x ≠ 10 ∧ x ≠ 32) : ∃ (k v : Nat), ((sgn x ∧ k = 6 ∧ (v : Int) = x) ∨ (¬ sgn x ∧ k = 1 ∧ v = 0)) ∧ k ≠ 0 ∧ k < 16 ∧ v < 1099511627776 ∧ To_splitSign p x σ = some (0, rwU σ r k p v) := by
  by_cases c : sgn x
  · refine ⟨6, x.toNat, .inl ⟨c, rfl, by unfold sgn at c; omega⟩, by omega, by omega, by unfold sgn at c; omega, ?_⟩
    have z := add_h (σ := σ) (k := 6) (p := p) (v := x.toNat) hr h1 (by omega) (by omega) (by unfold sgn at c; omega)
    rw [Int.toNat_of_nonneg (by unfold sgn at c; omega)] at z
    have j : To_splitSign_J24 p x σ = some (0, rwU σ r 6 p x.toNat) := by
      rw [To_splitSign_J24, show To_add 6 p x σ = _ from z, bd_s]
    unfold sgn at c
    rw [To_splitSign, j]
    rcases c with rfl | rfl | rfl | rfl
    · rw [if_pos rfl]
    · rw [if_neg (by omega), if_pos rfl]
    · rw [if_neg (by omega), if_neg (by omega), if_neg (by omega), if_pos rfl]
    · rw [if_neg (by omega), if_neg (by omega), if_pos rfl]
  · refine ⟨1, 0, .inr ⟨c, rfl, rfl⟩, by omega, by omega, by omega, ?_⟩
    unfold sgn at c
    rw [To_splitSign, if_neg (by omega), if_neg (by omega), if_neg (by omega), if_neg (by omega), if_neg hn.1, if_neg hn.2, show To_add 1 p 0 σ = _ from add_h (k := 1) (v := 0) hr h1 (by omega) (by omega) (by omega), bd_s]
theorem spl_b {p : Int} {x : Int} (hn : x = 10 ∨ x = 32) : To_splitSign p x σ = some (0, σ) := by
  rw [To_splitSign, if_neg (by omega), if_neg (by omega), if_neg (by omega), if_neg (by omega)]
  rcases hn with rfl | rfl
  · rw [if_pos rfl]
  · rw [if_neg (by omega), if_pos rfl]
end
