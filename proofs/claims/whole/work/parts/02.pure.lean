/-! pure values, stores, and numbers with their wrap -/
abbrev Pv : Type := Int ⊕ (Int ⊕ Nat)
abbrev Sg : Type := Nat → Nat → Int
abbrev Ly : Type := List (Nat ⊕ (Nat × Nat))
abbrev Rs : Type := Option (Int × Sg)
def w32 (x : Int) : Int := (x + 2147483648) % 4294967296 - 2147483648
def w64 (x : Int) : Int := (x + 9223372036854775808) % 18446744073709551616 - 9223372036854775808
def c32 (x : Int) : Prop := -2147483648 ≤ x ∧ x < 2147483648
def c64 (x : Int) : Prop := -9223372036854775808 ≤ x ∧ x < 9223372036854775808
theorem w32_c (x : Int) : c32 (w32 x) := by unfold w32 c32; omega
theorem w64_c (x : Int) : c64 (w64 x) := by unfold w64 c64; omega
theorem w32_id {x : Int} (h : c32 x) : w32 x = x := by unfold c32 at h; unfold w32; omega
theorem w64_id {x : Int} (h : c64 x) : w64 x = x := by unfold c64 at h; unfold w64; omega
theorem c32_64 {x : Int} (h : c32 x) : c64 x := by unfold c32 at h; unfold c64; omega
theorem i32_c (x : Int32) : c32 x.toInt := by
  have h1 := Int32.le_toInt x
  have h2 := Int32.toInt_lt x
  unfold c32; omega
theorem i64_c (x : Int64) : c64 x.toInt := by
  have h1 := Int64.le_toInt x
  have h2 := Int64.toInt_lt x
  unfold c64; omega
theorem i32_of {x : Int} (h : c32 x) : (Int32.ofInt x).toInt = x := Int32.toInt_ofInt_of_le h.1 h.2
theorem i64_of {x : Int} (h : c64 x) : (Int64.ofInt x).toInt = x := Int64.toInt_ofInt_of_le h.1 h.2
theorem i32_w (x : Int) : (Int32.ofInt x).toInt = w32 x := by
  rw [Int32.toInt_ofInt]; unfold w32; simp only [Int32.size, Int.bmod]; omega
theorem i64_w (x : Int) : (Int64.ofInt x).toInt = w64 x := by
  rw [Int64.toInt_ofInt]; unfold w64; simp only [Int64.size, Int.bmod]; omega
theorem i32_ow (x : Int) : Int32.ofInt (w32 x) = Int32.ofInt x := by
  rw [← i32_w, Int32.ofInt_toInt]
theorem i64_ow (x : Int) : Int64.ofInt (w64 x) = Int64.ofInt x := by
  rw [← i64_w, Int64.ofInt_toInt]
theorem i32_add (x y : Int) : Int32.ofInt (w32 (x + y)) = Int32.ofInt x + Int32.ofInt y := by rw [i32_ow, Int32.ofInt_add]
theorem i32_sub (x y : Int) : Int32.ofInt (w32 (x - y)) = Int32.ofInt x - Int32.ofInt y := by rw [i32_ow, Int32.ofInt_sub]
theorem i32_mul (x y : Int) : Int32.ofInt (w32 (x * y)) = Int32.ofInt x * Int32.ofInt y := by rw [i32_ow, Int32.ofInt_mul]
theorem i64_add (x y : Int) : Int64.ofInt (w64 (x + y)) = Int64.ofInt x + Int64.ofInt y := by rw [i64_ow, Int64.ofInt_add]
theorem i64_sub (x y : Int) : Int64.ofInt (w64 (x - y)) = Int64.ofInt x - Int64.ofInt y := by rw [i64_ow, Int64.ofInt_sub]
theorem i64_mul (x y : Int) : Int64.ofInt (w64 (x * y)) = Int64.ofInt x * Int64.ofInt y := by rw [i64_ow, Int64.ofInt_mul]
theorem i32_inj {x y : Int} (hx : c32 x) (hy : c32 y) : Int32.ofInt x = Int32.ofInt y ↔ x = y :=
  ⟨fun h => by rw [← i32_of hx, ← i32_of hy, h], fun h => by rw [h]⟩
theorem i32_lt {x y : Int} (hx : c32 x) (hy : c32 y) : Int32.ofInt x < Int32.ofInt y ↔ x < y := by
  rw [Int32.lt_iff_toInt_lt, i32_of hx, i32_of hy]
theorem i32_le {x y : Int} (hx : c32 x) (hy : c32 y) : Int32.ofInt x ≤ Int32.ofInt y ↔ x ≤ y := by
  rw [Int32.le_iff_toInt_le, i32_of hx, i32_of hy]
theorem i64_inj {x y : Int} (hx : c64 x) (hy : c64 y) : Int64.ofInt x = Int64.ofInt y ↔ x = y :=
  ⟨fun h => by rw [← i64_of hx, ← i64_of hy, h], fun h => by rw [h]⟩
theorem i64_lt {x y : Int} (hx : c64 x) (hy : c64 y) : Int64.ofInt x < Int64.ofInt y ↔ x < y := by
  rw [Int64.lt_iff_toInt_lt, i64_of hx, i64_of hy]
theorem c32_0 : c32 0 := by unfold c32; omega
theorem c64_0 : c64 0 := by unfold c64; omega
/-- bits, by the machine's own words -/
def an32 (x y : Int) : Int := (Int32.ofInt x &&& Int32.ofInt y).toInt
def or32 (x y : Int) : Int := (Int32.ofInt x ||| Int32.ofInt y).toInt
def xo32 (x y : Int) : Int := (Int32.ofInt x ^^^ Int32.ofInt y).toInt
def sl32 (x y : Int) : Int := (Int32.ofInt x <<< (Int32.ofInt y &&& 31)).toInt
def sr32 (x y : Int) : Int := (Int32.ofInt x >>> (Int32.ofInt y &&& 31)).toInt
def su32 (x y : Int) : Int := ((Int32.ofInt x).toUInt32 >>> ((Int32.ofInt y).toUInt32 &&& Int32.toUInt32 31)).toInt32.toInt
def an64 (x y : Int) : Int := (Int64.ofInt x &&& Int64.ofInt y).toInt
def or64 (x y : Int) : Int := (Int64.ofInt x ||| Int64.ofInt y).toInt
def sl64 (x y : Int) : Int := (Int64.ofInt x <<< ((Int32.ofInt y).toInt64 &&& 63)).toInt
def sr64 (x y : Int) : Int := (Int64.ofInt x >>> ((Int32.ofInt y).toInt64 &&& 63)).toInt
def b32 (x : Int) : Int := (Int32.ofInt x).toInt8.toInt32.toInt
def s32 (x : Int) : Int := (Int32.ofInt x).toInt16.toInt32.toInt
def ch32 (x : Int) : Int := ((Int32.ofInt x).toUInt32 % 65536).toInt32.toInt
def dv32 (x y : Int) : Int := (Int32.ofInt x / Int32.ofInt y).toInt
def rm32 (x y : Int) : Int := (Int32.ofInt x - Int32.ofInt x / Int32.ofInt y * Int32.ofInt y).toInt
def dv64 (x y : Int) : Int := (Int64.ofInt x / Int64.ofInt y).toInt
def rm64 (x y : Int) : Int := (Int64.ofInt x - Int64.ofInt x / Int64.ofInt y * Int64.ofInt y).toInt
theorem i32_l {x : Int} (h : c32 x) : (Int32.ofInt x).toInt64 = Int64.ofInt x := by
  rw [← Int64.ofInt_toInt (Int32.ofInt x).toInt64, Int32.toInt_toInt64, i32_of h]
theorem i64_i (x : Int) : (Int64.ofInt x).toInt32 = Int32.ofInt (w32 x) := by
  rw [i32_ow, Int64.toInt32_ofInt]
/-- what a walk binds -/
def up_s (σ : Sg) (o k : Nat) (x : Int) : Sg := fun a => if a = o then (fun b => if b = k then x else σ a b) else σ a
def nm {α : Type} (x : α) (f : α → Rs) : Rs := f x
def bd (x : Rs) (f : Int → Sg → Rs) : Rs := match x with
  | some q => f q.1 q.2
  | none => none
def rd (n : Nat) (i x : Int) (f : Int → Rs) : Rs := if 0 ≤ i ∧ i < (n : Int) then f x else none
def wr (n : Nat) (i : Int) (s : Sg) (f : Sg → Rs) : Rs := if 0 ≤ i ∧ i < (n : Int) then f s else none
def dv (y v : Int) (f : Int → Rs) : Rs := if y = 0 then none else f v
def zb (x : Int) (f : Rs) : Rs := if x = 0 ∨ x = 1 then f else none
def fu : Nat := 100000
