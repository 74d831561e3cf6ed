-- numbers: ints and longs as whole numbers
theorem b32 (x : Int32) : -2147483648 ≤ x.toInt ∧ x.toInt ≤ 2147483647 := ⟨by have := x.le_toInt; simpa using this, by have := x.toInt_lt; omega⟩
theorem b64 (x : Int64) : -9223372036854775808 ≤ x.toInt ∧ x.toInt ≤ 9223372036854775807 := ⟨by have := x.le_toInt; simpa using this, by have := x.toInt_lt; omega⟩
theorem bm32 {z : Int} (h1 : -2147483648 ≤ z) (h2 : z ≤ 2147483647) : z.bmod (2 ^ 32) = z := by
  rw [Int.bmod_eq_of_le] <;> omega
theorem bm64 {z : Int} (h1 : -9223372036854775808 ≤ z) (h2 : z ≤ 9223372036854775807) : z.bmod (2 ^ 64) = z := by
  rw [Int.bmod_eq_of_le] <;> omega
theorem iadd_t {x y : Int32} (h1 : -2147483648 ≤ x.toInt + y.toInt) (h2 : x.toInt + y.toInt ≤ 2147483647) : (x + y).toInt = x.toInt + y.toInt := by rw [Int32.toInt_add, bm32 h1 h2]
theorem isub_t {x y : Int32} (h1 : -2147483648 ≤ x.toInt - y.toInt) (h2 : x.toInt - y.toInt ≤ 2147483647) : (x - y).toInt = x.toInt - y.toInt := by rw [Int32.toInt_sub, bm32 h1 h2]
theorem imul_t {x y : Int32} (h1 : -2147483648 ≤ x.toInt * y.toInt) (h2 : x.toInt * y.toInt ≤ 2147483647) : (x * y).toInt = x.toInt * y.toInt := by rw [Int32.toInt_mul, bm32 h1 h2]
theorem ineg_t {x : Int32} (h1 : -2147483647 ≤ x.toInt) : (-x).toInt = -x.toInt := by rw [Int32.toInt_neg, bm32] <;> have := b32 x <;> omega
theorem ladd_t {x y : Int64} (h1 : -9223372036854775808 ≤ x.toInt + y.toInt) (h2 : x.toInt + y.toInt ≤ 9223372036854775807) : (x + y).toInt = x.toInt + y.toInt := by rw [Int64.toInt_add, bm64 h1 h2]
theorem lsub_t {x y : Int64} (h1 : -9223372036854775808 ≤ x.toInt - y.toInt) (h2 : x.toInt - y.toInt ≤ 9223372036854775807) : (x - y).toInt = x.toInt - y.toInt := by rw [Int64.toInt_sub, bm64 h1 h2]
theorem lmul_t {x y : Int64} (h1 : -9223372036854775808 ≤ x.toInt * y.toInt) (h2 : x.toInt * y.toInt ≤ 9223372036854775807) : (x * y).toInt = x.toInt * y.toInt := by rw [Int64.toInt_mul, bm64 h1 h2]
theorem lneg_t {x : Int64} (h1 : -9223372036854775807 ≤ x.toInt) : (-x).toInt = -x.toInt := by rw [Int64.toInt_neg, bm64] <;> have := b64 x <;> omega
theorem irem_t (x y : Int32) : (x % y).toInt = x.toInt.tmod y.toInt := Int32.toInt_mod ..
theorem lrem_t (x y : Int64) : (x % y).toInt = x.toInt.tmod y.toInt := Int64.toInt_mod ..
theorem irem_p {x y : Int32} (h1 : 0 ≤ x.toInt) : (x % y).toInt = x.toInt % y.toInt := by rw [irem_t, Int.tmod_eq_emod_of_nonneg h1]
theorem lrem_p {x y : Int64} (h1 : 0 ≤ x.toInt) : (x % y).toInt = x.toInt % y.toInt := by rw [lrem_t, Int.tmod_eq_emod_of_nonneg h1]
theorem idiv_p {x y : Int32} (h1 : 0 ≤ x.toInt) (h2 : 0 ≤ y.toInt) : (x / y).toInt = x.toInt / y.toInt := by
  rw [Int32.toInt_div, Int.tdiv_eq_ediv_of_nonneg h1]
  have := b32 x
  have h3 : x.toInt / y.toInt ≤ x.toInt := Int.ediv_le_self _ h1
  have h4 : 0 ≤ x.toInt / y.toInt := Int.ediv_nonneg h1 h2
  exact bm32 (by omega) (by omega)
theorem ldiv_p {x y : Int64} (h1 : 0 ≤ x.toInt) (h2 : 0 ≤ y.toInt) : (x / y).toInt = x.toInt / y.toInt := by
  rw [Int64.toInt_div, Int.tdiv_eq_ediv_of_nonneg h1]
  have := b64 x
  have h3 : x.toInt / y.toInt ≤ x.toInt := Int.ediv_le_self _ h1
  have h4 : 0 ≤ x.toInt / y.toInt := Int.ediv_nonneg h1 h2
  exact bm64 (by omega) (by omega)
theorem i2l_t (x : Int32) : x.toInt64.toInt = x.toInt := Int32.toInt_toInt64 x
theorem l2i_t {x : Int64} (h1 : -2147483648 ≤ x.toInt) (h2 : x.toInt ≤ 2147483647) : x.toInt32.toInt = x.toInt := by rw [Int64.toInt_toInt32, bm32 h1 h2]
theorem i32_of {z : Int} (h1 : -2147483648 ≤ z) (h2 : z ≤ 2147483647) : (Int32.ofInt z).toInt = z := by rw [Int32.toInt_ofInt, bm32 h1 h2]
theorem i64_of {z : Int} (h1 : -9223372036854775808 ≤ z) (h2 : z ≤ 9223372036854775807) : (Int64.ofInt z).toInt = z := by rw [Int64.toInt_ofInt, bm64 h1 h2]
theorem i32_lt {x y : Int32} : x < y ↔ x.toInt < y.toInt := Int32.lt_iff_toInt_lt
theorem i32_le {x y : Int32} : x ≤ y ↔ x.toInt ≤ y.toInt := Int32.le_iff_toInt_le
theorem i32_eq {x y : Int32} : x = y ↔ x.toInt = y.toInt := Int32.toInt_inj.symm
theorem i64_lt {x y : Int64} : x < y ↔ x.toInt < y.toInt := Int64.lt_iff_toInt_lt
theorem i64_le {x y : Int64} : x ≤ y ↔ x.toInt ≤ y.toInt := Int64.le_iff_toInt_le
theorem i64_eq {x y : Int64} : x = y ↔ x.toInt = y.toInt := Int64.toInt_inj.symm
-- pure functions of the leaves
def cmpL (a b : Int64) : Int32 := if a < b then -1 else if a = b then 0 else 1
def fmL (a b : Int64) : Int64 := Int64.ofInt (a.toInt % b.toInt)
def fmI (a b : Int32) : Int32 := Int32.ofInt (a.toInt % b.toInt)
def fdI (a b : Int32) : Int32 := Int32.ofInt (a.toInt / b.toInt)
def abI (x : Int32) : Int32 := if 0 ≤ x then x else -x
def abL (x : Int64) : Int64 := if 0 ≤ x then x else -x
def bt (x l u : Int32) : Int32 := if l ≤ x ∧ x ≤ u then 1 else 0
def btL (x l u : Int64) : Int32 := if l ≤ x ∧ x ≤ u then 1 else 0
def flg (x : Int32) : Int32 := if x = 0 then 0 else 1
def cm (a b : Int64) : Int64 := Int64.ofNat (Nat.gcd a.toInt.natAbs b.toInt.natAbs)
def cmpF (a b c d : Int) : Int32 := if a * d < c * b then -1 else if a * d = c * b then 0 else 1
theorem fmL_t {a b : Int64} (h : 0 < b.toInt) : (fmL a b).toInt = a.toInt % b.toInt := by
  have h1 := Int.emod_nonneg a.toInt (Int.ne_of_gt h)
  have h2 := Int.emod_lt_of_pos a.toInt h
  have := b64 b
  exact i64_of (by omega) (by omega)
theorem fmI_t {a b : Int32} (h : 0 < b.toInt) : (fmI a b).toInt = a.toInt % b.toInt := by
  have h1 := Int.emod_nonneg a.toInt (Int.ne_of_gt h)
  have h2 := Int.emod_lt_of_pos a.toInt h
  have := b32 b
  exact i32_of (by omega) (by omega)
theorem fdI_t {a b : Int32} (h : 0 < b.toInt) : (fdI a b).toInt = a.toInt / b.toInt := by
  have h0 := b32 a
  have h1 : a.toInt / b.toInt ≤ 2147483647 := Int.ediv_le_of_le_mul h (by
    have : (2147483647 : Int) * 1 ≤ 2147483647 * b.toInt := Int.mul_le_mul_of_nonneg_left (by omega) (by omega)
    omega)
  have h2 : -2147483648 ≤ a.toInt / b.toInt := Int.le_ediv_of_mul_le h (by
    have : (2147483648 : Int) * 1 ≤ 2147483648 * b.toInt := Int.mul_le_mul_of_nonneg_left (by omega) (by omega)
    omega)
  exact i32_of h2 h1
theorem cm_t {a b : Int64} (h : 0 < b.toInt) : (cm a b).toInt = (Nat.gcd a.toInt.natAbs b.toInt.natAbs : Int) := by
  have h1 : Nat.gcd a.toInt.natAbs b.toInt.natAbs ≤ b.toInt.natAbs := Nat.gcd_le_right _ (by omega)
  have := b64 b
  unfold cm
  rw [Int64.toInt_ofNat', bm64] <;> omega
theorem abI_t {x : Int32} (h : -2147483647 ≤ x.toInt) : (abI x).toInt = x.toInt.natAbs := by
  unfold abI
  split
  · rename_i h1; rw [i32_le] at h1; simp at h1; omega
  · rename_i h1; rw [i32_le] at h1; simp at h1; rw [ineg_t h]; omega
theorem abL_t {x : Int64} (h : -9223372036854775807 ≤ x.toInt) : (abL x).toInt = x.toInt.natAbs := by
  unfold abL
  split
  · rename_i h1; rw [i64_le] at h1; simp at h1; omega
  · rename_i h1; rw [i64_le] at h1; simp at h1; rw [lneg_t h]; omega
