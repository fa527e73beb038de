/-! bits of sets, told by Nat -/
theorem bv_of (a : Nat) : (Int32.ofInt (a : Int)).toBitVec = BitVec.ofNat 32 a := by
  rw [Int32.toBitVec_ofInt, BitVec.ofInt_natCast]
theorem bv_to {v : Int32} {a : Nat} (h : v.toBitVec.toNat = a) (ha : a < 2147483648) : v.toInt = (a : Int) := by
  rw [← Int32.toInt_toBitVec, BitVec.toInt_eq_toNat_of_lt (by omega), h]
theorem or_n {a b : Nat} (ha : a < 2147483648) (hb : b < 2147483648) : or32 a b = ((a ||| b : Nat) : Int) := by
  unfold or32
  apply bv_to
  · rw [Int32.toBitVec_or, bv_of, bv_of, BitVec.toNat_or, BitVec.toNat_ofNat, BitVec.toNat_ofNat, Nat.mod_eq_of_lt (by omega), Nat.mod_eq_of_lt (by omega)]
  · exact Nat.or_lt_two_pow (n := 31) ha hb
theorem an_n {a b : Nat} (ha : a < 2147483648) (hb : b < 2147483648) : an32 a b = ((a &&& b : Nat) : Int) := by
  unfold an32
  apply bv_to
  · rw [Int32.toBitVec_and, bv_of, bv_of, BitVec.toNat_and, BitVec.toNat_ofNat, BitVec.toNat_ofNat, Nat.mod_eq_of_lt (by omega), Nat.mod_eq_of_lt (by omega)]
  · exact Nat.and_lt_two_pow (n := 31) a hb
theorem xo_n {a b : Nat} (ha : a < 2147483648) (hb : b < 2147483648) : xo32 a b = ((a ^^^ b : Nat) : Int) := by
  unfold xo32
  apply bv_to
  · rw [Int32.toBitVec_xor, bv_of, bv_of, BitVec.toNat_xor, BitVec.toNat_ofNat, BitVec.toNat_ofNat, Nat.mod_eq_of_lt (by omega), Nat.mod_eq_of_lt (by omega)]
  · exact Nat.xor_lt_two_pow (n := 31) ha hb
/-- a without b -/
def wo (a b : Nat) : Nat := a ^^^ (a &&& b)
theorem wo_b (a b i : Nat) : (wo a b).testBit i = (a.testBit i && !b.testBit i) := by
  unfold wo; rw [Nat.testBit_xor, Nat.testBit_and]; cases a.testBit i <;> cases b.testBit i <;> rfl
theorem wo_le (a b : Nat) : wo a b ≤ a := Nat.le_of_testBit (fun i h => by rw [wo_b] at h; simp at h; exact h.1)
theorem and31 {k : Nat} (hk : k < 32) : (Int32.ofInt (k : Int) &&& 31) = Int32.ofInt k := by
  apply Int32.toBitVec_inj.1
  apply BitVec.eq_of_toNat_eq
  rw [Int32.toBitVec_and, bv_of, BitVec.toNat_and, BitVec.toNat_ofNat, Nat.mod_eq_of_lt (by omega)]
  show k &&& 31 = k
  rw [show (31 : Nat) = 2 ^ 5 - 1 from rfl, Nat.and_two_pow_sub_one_eq_mod]; omega
theorem smod {k : Nat} (hk : k < 32) : (Int32.ofInt (k : Int)).toBitVec.smod 32 = BitVec.ofNat 32 k := by
  rw [bv_of]
  apply BitVec.eq_of_toNat_eq
  have e : ∀ k : Fin 32, ((BitVec.ofNat 32 k.1).smod (32 : BitVec 32)).toNat = (BitVec.ofNat 32 k.1).toNat := by decide +kernel
  exact e ⟨k, hk⟩
theorem sl_n {a k : Nat} (hk : k < 32) (ha : a < 2147483648) (h : a * 2 ^ k < 2147483648) : sl32 a k = ((a * 2 ^ k : Nat) : Int) := by
  unfold sl32
  apply bv_to _ h
  rw [and31 hk, Int32.toBitVec_shiftLeft, smod hk, bv_of, BitVec.shiftLeft_eq', BitVec.toNat_shiftLeft, BitVec.toNat_ofNat, BitVec.toNat_ofNat, Nat.shiftLeft_eq, Nat.mod_eq_of_lt (a := a) (by omega), Nat.mod_eq_of_lt (a := k) (by omega), Nat.mod_eq_of_lt (a := a * 2 ^ k) (by omega)]
theorem sl_1 {k : Nat} (hk : k < 31) : sl32 1 k = ((2 ^ k : Nat) : Int) := by
  have h : 2 ^ k < 2147483648 := (Nat.pow_lt_pow_iff_right (a := 2) (by omega)).2 hk
  have := sl_n (a := 1) (k := k) (by omega) (by omega) (by omega)
  rw [Nat.one_mul] at this
  exact this
theorem sr_n {a k : Nat} (hk : k < 32) (ha : a < 2147483648) : sr32 a k = ((a >>> k : Nat) : Int) := by
  unfold sr32
  have hl : a >>> k < 2147483648 := by rw [Nat.shiftRight_eq_div_pow]; exact Nat.lt_of_le_of_lt (Nat.div_le_self _ _) ha
  apply bv_to _ hl
  rw [and31 hk, Int32.toBitVec_shiftRight, smod hk, bv_of, BitVec.sshiftRight_eq', BitVec.sshiftRight_eq_of_msb_false, BitVec.toNat_ushiftRight, BitVec.toNat_ofNat, BitVec.toNat_ofNat, Nat.mod_eq_of_lt (by omega), Nat.mod_eq_of_lt (a := k) (by omega)]
  rw [BitVec.msb_eq_false_iff_two_mul_lt, BitVec.toNat_ofNat]; omega
theorem hb_n {a k : Nat} (hk : k < 32) (ha : a < 2147483648) : an32 (sr32 a k) 1 = if a.testBit k then 1 else 0 := by
  have hl : a >>> k < 2147483648 := by rw [Nat.shiftRight_eq_div_pow]; exact Nat.lt_of_le_of_lt (Nat.div_le_self _ _) ha
  rw [sr_n hk ha, show (1 : Int) = ((1 : Nat) : Int) from rfl, an_n hl (by omega), Nat.and_one_is_mod, Nat.testBit, Nat.and_comm, Nat.and_one_is_mod]
  have : (a >>> k) % 2 < 2 := Nat.mod_lt _ (by omega)
  by_cases e : (a >>> k) % 2 = 0
  · simp [e]
  · have : (a >>> k) % 2 = 1 := by omega
    simp [this]
theorem wo_n {a b : Nat} (ha : a < 2147483648) (hb : b < 2147483648) : an32 a (xo32 b (-1)) = ((wo a b : Nat) : Int) := by
  unfold an32 xo32
  apply bv_to
  · rw [Int32.ofInt_toInt, Int32.toBitVec_and, Int32.toBitVec_xor, bv_of, bv_of, BitVec.toNat_and, BitVec.toNat_xor, BitVec.toNat_ofNat, BitVec.toNat_ofNat, Nat.mod_eq_of_lt (by omega), Nat.mod_eq_of_lt (by omega)]
    show a &&& (b ^^^ 4294967295) = wo a b
    apply Nat.eq_of_testBit_eq
    intro i
    rw [wo_b, Nat.testBit_and, Nat.testBit_xor, show 4294967295 = 2 ^ 32 - 1 from rfl, Nat.testBit_two_pow_sub_one]
    by_cases hi : i < 32
    · simp [hi]
    · have : a.testBit i = false := Nat.testBit_lt_two_pow (Nat.lt_of_lt_of_le ha (Nat.le_trans (by decide : 2147483648 ≤ 2 ^ 32) (Nat.pow_le_pow_right (by omega) (by omega))))
      simp [this]
  · exact Nat.lt_of_le_of_lt (wo_le _ _) ha
