/-! a token in one long, told by Nat; numbers of letters -/
theorem bw_of (a : Nat) : (Int64.ofInt (a : Int)).toBitVec = BitVec.ofNat 64 a := by
  rw [Int64.toBitVec_ofInt, BitVec.ofInt_natCast]
theorem bw_to {v : Int64} {a : Nat} (h : v.toBitVec.toNat = a) (ha : a < 9223372036854775808) : v.toInt = (a : Int) := by
  rw [← Int64.toInt_toBitVec, BitVec.toInt_eq_toNat_of_lt (by omega), h]
theorem or64_n {a b : Nat} (ha : a < 9223372036854775808) (hb : b < 9223372036854775808) : or64 a b = ((a ||| b : Nat) : Int) := by
  unfold or64
  apply bw_to
  · rw [Int64.toBitVec_or, bw_of, bw_of, BitVec.toNat_or, BitVec.toNat_ofNat, BitVec.toNat_ofNat, Nat.mod_eq_of_lt (by omega), Nat.mod_eq_of_lt (by omega)]
  · exact Nat.or_lt_two_pow (n := 63) ha hb
theorem sl64_n {a k : Nat} (hk : k < 64) (ha : a < 9223372036854775808) (h : a * 2 ^ k < 9223372036854775808) : sl64 a k = ((a * 2 ^ k : Nat) : Int) := by
  unfold sl64
  apply bw_to _ h
  obtain ⟨e1, e2⟩ := k64_all ⟨k, hk⟩
  simp only at e1 e2
  rw [e1, Int64.toBitVec_shiftLeft, e2, bw_of, BitVec.shiftLeft_eq', BitVec.toNat_shiftLeft, BitVec.toNat_ofNat, BitVec.toNat_ofNat, Nat.shiftLeft_eq, Nat.mod_eq_of_lt (a := a) (by omega), Nat.mod_eq_of_lt (a := k) (by omega), Nat.mod_eq_of_lt (a := a * 2 ^ k) (by omega)]
theorem sr64_n {a k : Nat} (hk : k < 64) (ha : a < 9223372036854775808) : sr64 a k = ((a / 2 ^ k : Nat) : Int) := by
  unfold sr64
  obtain ⟨e1, e2⟩ := k64_all ⟨k, hk⟩
  simp only at e1 e2
  apply bw_to _ (Nat.lt_of_le_of_lt (Nat.div_le_self _ _) ha)
  rw [e1, Int64.toBitVec_shiftRight, e2, bw_of, BitVec.sshiftRight_eq', BitVec.sshiftRight_eq_of_msb_false, BitVec.toNat_ushiftRight, BitVec.toNat_ofNat, BitVec.toNat_ofNat, Nat.mod_eq_of_lt (by omega), Nat.mod_eq_of_lt (a := k) (by omega), Nat.shiftRight_eq_div_pow]
  rw [BitVec.msb_eq_false_iff_two_mul_lt, BitVec.toNat_ofNat]; omega
def ec (k p v : Nat) : Nat := v * 65536 + p * 16 + k
theorem ec_n {k p v : Nat} (hk : k < 16) (hp : p < 4096) (hv : v < 1099511627776) : or64 (or64 (sl64 v 16) (sl64 p 4)) k = (ec k p v : Nat) := by
  have e1 : sl64 v 16 = ((v * 2 ^ 16 : Nat) : Int) := sl64_n (k := 16) (by omega) (by omega) (by omega)
  have e2 : sl64 p 4 = ((p * 2 ^ 4 : Nat) : Int) := sl64_n (k := 4) (by omega) (by omega) (by omega)
  have o1 : v * 2 ^ 16 ||| p * 2 ^ 4 = v * 65536 + p * 16 := by
    rw [Nat.mul_comm v, ← Nat.two_pow_add_eq_or_of_lt (i := 16) (b := p * 2 ^ 4) (by omega) v]
  have o2 : v * 65536 + p * 16 ||| k = v * 65536 + p * 16 + k := by
    have := Nat.two_pow_add_eq_or_of_lt (i := 4) (b := k) (by omega) (v * 4096 + p)
    rw [show v * 65536 + p * 16 = 2 ^ 4 * (v * 4096 + p) by omega, ← this]
  rw [e1, e2, or64_n (by omega) (by omega), o1, or64_n (by omega) (by omega), o2]; rfl
theorem ec_b {k p v : Nat} (hk : k < 16) (hp : p < 4096) (hv : v < 1099511627776) : ec k p v < 9223372036854775808 := by unfold ec; omega
theorem w32_an {T M : Nat} (hM : M < 2147483648) : an32 (w32 (T : Int)) M = (((T % 4294967296) &&& M : Nat) : Int) := by
  unfold an32
  rw [i32_ow]
  apply bv_to
  · rw [Int32.toBitVec_and, bv_of, bv_of, BitVec.toNat_and, BitVec.toNat_ofNat, BitVec.toNat_ofNat, Nat.mod_eq_of_lt (a := M) (by omega)]
  · exact Nat.and_lt_two_pow (n := 31) _ hM
theorem ec_k {k p v : Nat} (hk : k < 16) : an32 (w32 ((ec k p v : Nat) : Int)) 15 = k := by
  rw [show (15 : Int) = ((15 : Nat) : Int) from rfl, w32_an (by omega), show (15 : Nat) = 2 ^ 4 - 1 from rfl, Nat.and_two_pow_sub_one_eq_mod]
  unfold ec; omega
theorem ec_p {k p v : Nat} (hk : k < 16) (hp : p < 4096) (hv : v < 1099511627776) : an32 (w32 (sr64 ((ec k p v : Nat) : Int) 4)) 4095 = p := by
  have e : sr64 ((ec k p v : Nat) : Int) 4 = ((ec k p v / 2 ^ 4 : Nat) : Int) := sr64_n (k := 4) (by omega) (ec_b hk hp hv)
  rw [e, show (4095 : Int) = ((4095 : Nat) : Int) from rfl, w32_an (by omega), show (4095 : Nat) = 2 ^ 12 - 1 from rfl, Nat.and_two_pow_sub_one_eq_mod]
  unfold ec; omega
theorem ec_v {k p v : Nat} (hk : k < 16) (hp : p < 4096) (hv : v < 1099511627776) : sr64 ((ec k p v : Nat) : Int) 16 = v := by
  have e : sr64 ((ec k p v : Nat) : Int) 16 = ((ec k p v / 2 ^ 16 : Nat) : Int) := sr64_n (k := 16) (by omega) (ec_b hk hp hv)
  rw [e]; unfold ec; omega
/-! letters and digits along a row of bytes -/
def isL (x : Int) : Prop := 97 ≤ x ∧ x ≤ 122
def isD (x : Int) : Prop := 48 ≤ x ∧ x ≤ 57
def cd (b : Int) (B : Nat → Int) (p : Nat) : Nat → Int
  | 0 => 0
  | L + 1 => cd b B p L * b + (B (p + L) - 96)
def dg (B : Nat → Int) (p : Nat) : Nat → Int
  | 0 => 0
  | L + 1 => dg B p L * 10 + (B (p + L) - 48)
def bnd : Nat → Int
  | 0 => 1
  | L + 1 => 32 * bnd L
theorem bnd_8 : ∀ L : Fin 9, bnd L.1 ≤ 1099511627776 := by decide +kernel
theorem cd_b {b : Int} (hb : b = 27 ∨ b = 32) {B : Nat → Int} {p : Nat} : ∀ {L : Nat}, (∀ i, i < L → isL (B (p + i))) → 0 ≤ cd b B p L ∧ cd b B p L < bnd L
  | 0, _ => ⟨by rw [cd]; omega, by rw [cd, bnd]; omega⟩
  | L + 1, h => by
    have ih := cd_b (b := b) hb (B := B) (p := p) (L := L) (fun i hi => h i (by omega))
    have q := h L (by omega)
    unfold isL at q
    rw [cd, bnd]
    rcases hb with rfl | rfl <;> omega
theorem cd_8 {b : Int} (hb : b = 27 ∨ b = 32) {B : Nat → Int} {p L : Nat} (h : ∀ i, i < L → isL (B (p + i))) (hL : L ≤ 8) : 0 ≤ cd b B p L ∧ cd b B p L < 1099511627776 := by
  have h1 := cd_b hb h
  have h2 := bnd_8 ⟨L, by omega⟩
  simp only at h2
  omega
theorem cd_j {b : Int} (hb : b = 27 ∨ b = 32) {B C : Nat → Int} {p s : Nat} : ∀ {L K : Nat}, (∀ i, i < L → isL (B (p + i))) → (∀ i, i < K → isL (C (s + i))) → cd b B p L = cd b C s K → L = K ∧ ∀ i, i < L → B (p + i) = C (s + i)
  | 0, 0, _, _, _ => ⟨rfl, fun i hi => absurd hi (by omega)⟩
  | 0, K + 1, _, h, e => by
    have q := h K (by omega); unfold isL at q
    rw [cd, cd] at e
    rcases hb with rfl | rfl <;> omega
  | L + 1, 0, h, _, e => by
    have q := h L (by omega); unfold isL at q
    rw [cd, cd] at e
    rcases hb with rfl | rfl <;> omega
  | L + 1, K + 1, h, h', e => by
    have q := h L (by omega); unfold isL at q
    have q' := h' K (by omega); unfold isL at q'
    rw [cd, cd] at e
    have e1 : cd b B p L = cd b C s K ∧ B (p + L) = C (s + K) := by rcases hb with rfl | rfl <;> omega
    obtain ⟨r1, r2⟩ := cd_j hb (L := L) (K := K) (fun i hi => h i (by omega)) (fun i hi => h' i (by omega)) e1.1
    subst r1
    refine ⟨rfl, fun i hi => ?_⟩
    by_cases z : i = L
    · rw [z]; exact e1.2
    · exact r2 i (by omega)
theorem cd_e {b : Int} {B C : Nat → Int} {p s : Nat} : ∀ {L : Nat}, (∀ i, i < L → B (p + i) = C (s + i)) → cd b B p L = cd b C s L
  | 0, _ => rfl
  | L + 1, h => by rw [cd, cd, cd_e (fun i hi => h i (by omega)), h L (by omega)]
theorem dg_b {B : Nat → Int} {p : Nat} {L : Nat} (h : ∀ i, i < L → isD (B (p + i))) (hL : L ≤ 4) : 0 ≤ dg B p L ∧ dg B p L ≤ 9999 := by
  have key : ∀ L, (∀ i, i < L → isD (B (p + i))) → 0 ≤ dg B p L ∧ dg B p L < 10 ^ L := by
    intro L
    induction L with
    | zero => intro _; exact ⟨by rw [dg]; omega, by rw [dg]; decide⟩
    | succ L ih =>
      intro h
      have q := h L (by omega); unfold isD at q
      have ih := ih (fun i hi => h i (by omega))
      rw [dg, Int.pow_succ]; omega
  have k1 := key L h
  have : (10 : Int) ^ L ≤ 10000 := by
    have z : ∀ L : Fin 5, (10 : Int) ^ L.1 ≤ 10000 := by decide +kernel
    exact z ⟨L, by omega⟩
  omega
/-! names: letters in two bases -/
def lts (B : Nat → Int) (p : Nat) : Nat → List Nat
  | 0 => []
  | L + 1 => lts B p L ++ [Int.toNat (B (p + L) - 96)]
theorem lts_l (B : Nat → Int) (p : Nat) : ∀ L, (lts B p L).length = L
  | 0 => rfl
  | L + 1 => by rw [lts, List.length_append, lts_l B p L]; rfl
theorem lts_b {B : Nat → Int} {p : Nat} : ∀ {L : Nat}, (∀ i, i < L → isL (B (p + i))) → ∀ d ∈ lts B p L, 1 ≤ d ∧ d ≤ 26
  | 0, _, d, hd => absurd hd (by rw [lts]; exact List.not_mem_nil)
  | L + 1, h, d, hd => by
    rw [lts, List.mem_append] at hd
    rcases hd with hd | hd
    · exact lts_b (fun i hi => h i (by omega)) d hd
    · rw [List.mem_singleton] at hd
      have q := h L (by omega); unfold isL at q
      omega
theorem en_a (b : Nat) (l : List Nat) (d : Nat) : en b (l ++ [d]) = en b l * b + d := by
  unfold en; rw [List.foldl_append]; rfl
theorem lts_e {b : Nat} {B : Nat → Int} {p : Nat} : ∀ {L : Nat}, (∀ i, i < L → isL (B (p + i))) → ((en b (lts B p L) : Nat) : Int) = cd b B p L
  | 0, _ => rfl
  | L + 1, h => by
    have q := h L (by omega); unfold isL at q
    rw [lts, en_a, cd, Int.natCast_add, Int.natCast_mul, lts_e (fun i hi => h i (by omega)), Int.toNat_of_nonneg (by omega)]
theorem cd_nc {B : Nat → Int} {p L : Nat} (h : ∀ i, i < L → isL (B (p + i))) (h0 : 0 < L) (h8 : L ≤ 8) : NC (cd 27 B p L) (cd 32 B p L) := by
  refine ⟨lts B p L, fun e => ?_, by rw [lts_l]; exact h8, lts_b h, (lts_e (b := 27) h).symm, (lts_e (b := 32) h).symm⟩
  have := lts_l B p L
  rw [e] at this
  simp at this; omega
theorem en_j {b : Nat} (hb : b = 27 ∨ b = 32) : ∀ {l k : List Nat}, (∀ d ∈ l, 1 ≤ d ∧ d ≤ 26) → (∀ d ∈ k, 1 ≤ d ∧ d ≤ 26) → en b l.reverse = en b k.reverse → l = k
  | [], [], _, _, _ => rfl
  | [], d :: k, _, h, e => by
    have q := h d (List.mem_cons_self ..)
    rw [List.reverse_cons, en_a] at e
    have z : en b ([] : List Nat).reverse = 0 := rfl
    omega
  | d :: k, [], h, _, e => by
    have q := h d (List.mem_cons_self ..)
    rw [List.reverse_cons, en_a] at e
    have z : en b ([] : List Nat).reverse = 0 := rfl
    omega
  | d :: l, d' :: k, h, h', e => by
    have q := h d (List.mem_cons_self ..)
    have q' := h' d' (List.mem_cons_self ..)
    rw [List.reverse_cons, en_a, List.reverse_cons, en_a] at e
    have e1 : en b l.reverse = en b k.reverse ∧ d = d' := by rcases hb with rfl | rfl <;> omega
    rw [e1.2, en_j hb (fun x hx => h x (List.mem_cons_of_mem _ hx)) (fun x hx => h' x (List.mem_cons_of_mem _ hx)) e1.1]
theorem en_i {b : Nat} (hb : b = 27 ∨ b = 32) {l k : List Nat} (h : ∀ d ∈ l, 1 ≤ d ∧ d ≤ 26) (h' : ∀ d ∈ k, 1 ≤ d ∧ d ≤ 26) (e : en b l = en b k) : l = k := by
  have := en_j hb (l := l.reverse) (k := k.reverse) (fun d hd => h d (List.mem_reverse.1 hd)) (fun d hd => h' d (List.mem_reverse.1 hd)) (by rw [List.reverse_reverse, List.reverse_reverse]; exact e)
  exact List.reverse_inj.1 this
theorem NC.iff {x y x' y' : Int} (h : NC x y) (h' : NC x' y') : x = x' ↔ y = y' := by
  obtain ⟨l, _, _, h1, h2, h3⟩ := h
  obtain ⟨k, _, _, g1, g2, g3⟩ := h'
  constructor
  · intro e
    have : l = k := en_i (.inl rfl) h1 g1 (by omega)
    rw [h3, g3, this]
  · intro e
    have : l = k := en_i (.inr rfl) h1 g1 (by omega)
    rw [h2, g2, this]
