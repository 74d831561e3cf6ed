-- bits: slots, wheels in one number (z_ rows as in 49)
theorem on_or (a b : Nat) : Int32.ofNat a ||| Int32.ofNat b = Int32.ofNat (a ||| b) := by
  apply Int32.toBitVec_inj.1
  show BitVec.ofNat 32 a ||| BitVec.ofNat 32 b = BitVec.ofNat 32 (a ||| b)
  apply BitVec.eq_of_getLsbD_eq
  intro i hi
  simp [hi]
theorem on_and (a b : Nat) : Int32.ofNat a &&& Int32.ofNat b = Int32.ofNat (a &&& b) := by
  apply Int32.toBitVec_inj.1
  show BitVec.ofNat 32 a &&& BitVec.ofNat 32 b = BitVec.ofNat 32 (a &&& b)
  apply BitVec.eq_of_getLsbD_eq
  intro i hi
  simp [hi]
theorem on_t {a : Nat} (h : a < 2147483648) : (Int32.ofNat a).toInt = a := by
  rw [Int32.toInt_ofNat', bm32] <;> omega
theorem on_of {v : Int32} {a : Nat} (h : v.toInt = a) : v = Int32.ofNat a := by
  have := b32 v
  rw [i32_eq, on_t (by omega), h]
theorem and_t {v : Int32} {a : Nat} (h : v.toInt = a) : (v &&& 8191).toInt = ((a % 8192 : Nat) : Int) := by
  have e : (8191 : Int32) = Int32.ofNat 8191 := by decide
  have := b32 v
  rw [on_of h, e, on_and, show (8191 : Nat) = 2 ^ 13 - 1 from rfl, Nat.and_two_pow_sub_one_eq_mod, on_t (by omega)]
theorem zb_big {x : Int32} {i : Nat} (h : 32 ≤ i) : zb x i = false := BitVec.getLsbD_of_ge _ _ h
theorem zb_on {a i : Nat} (hi : i < 32) : zb (Int32.ofNat a) i = a.testBit i := by
  show (BitVec.ofNat 32 a).getLsbD i = _
  rw [BitVec.getLsbD_ofNat]; simp [hi]
theorem ushr_lt (x : Int32) : 0 ≤ (iushr x 19).toInt ∧ (iushr x 19).toInt < 8192 := by
  have e : iushr x 19 = Int32.ofNat (x.toBitVec.toNat / 2 ^ 19) := by
    apply z_ext
    intro i hi
    have e19 : (19 : Int32) = Int32.ofNat 19 := by decide
    rw [e19, z_ushr 19 (by omega), zb_on hi, Nat.testBit_div_two_pow]
    unfold zb
    rw [BitVec.testBit_toNat, Nat.add_comm]
  have hl : x.toBitVec.toNat < 4294967296 := x.toBitVec.isLt
  have hd : x.toBitVec.toNat / 2 ^ 19 < 8192 := by
    have : (2 : Nat) ^ 19 = 524288 := by decide
    rw [this]; omega
  rw [e, on_t (by omega)]
  omega
theorem hsh_lt (u w : Int) : hsh u w < 8192 := by
  unfold hsh
  generalize Int32.ofInt u * (-1640531535) + Int32.ofInt w * (-2048144789) = x
  have := ushr_lt x
  unfold ix
  omega
theorem shl4 : ∀ b, b < 16 → Int32.ofNat b <<< ((4 : Int32) &&& 31) = Int32.ofNat (b * 16) := by decide +kernel
theorem shl8 : ∀ b, b < 16 → Int32.ofNat b <<< ((8 : Int32) &&& 31) = Int32.ofNat (b * 256) := by decide +kernel
theorem shl12 : ∀ b, b < 16 → Int32.ofNat b <<< ((12 : Int32) &&& 31) = Int32.ofNat (b * 4096) := by decide +kernel
theorem pk_t {a b c d : Int32} {a' b' c' d' : Nat} (ha : a.toInt = a') (hb : b.toInt = b') (hc : c.toInt = c') (hd : d.toInt = d') (a1 : a' < 16) (b1 : b' < 16) (c1 : c' < 16) (d1 : d' < 16) : (sPk a b c d).toInt = ((a' + 16 * b' + 256 * c' + 4096 * d' : Nat) : Int) := by
  unfold sPk
  rw [on_of ha, on_of hb, on_of hc, on_of hd, shl4 b' b1, shl8 c' c1, shl12 d' d1, on_or, on_or, on_or]
  have e1 : a' ||| b' * 16 = a' + 16 * b' := by
    rw [Nat.or_comm, Nat.mul_comm b', show (16 : Nat) = 2 ^ 4 from rfl, ← Nat.two_pow_add_eq_or_of_lt (by omega : a' < 2 ^ 4)]; omega
  have e2 : (a' + 16 * b') ||| c' * 256 = a' + 16 * b' + 256 * c' := by
    rw [Nat.or_comm, Nat.mul_comm c', show (256 : Nat) = 2 ^ 8 from rfl, ← Nat.two_pow_add_eq_or_of_lt (by omega : a' + 16 * b' < 2 ^ 8)]; omega
  have e3 : (a' + 16 * b' + 256 * c') ||| d' * 4096 = a' + 16 * b' + 256 * c' + 4096 * d' := by
    rw [Nat.or_comm, Nat.mul_comm d', show (4096 : Nat) = 2 ^ 12 from rfl, ← Nat.two_pow_add_eq_or_of_lt (by omega : a' + 16 * b' + 256 * c' < 2 ^ 12)]; omega
  rw [e1, e2, e3, on_t (by omega)]
theorem z_15 : ∀ i, i < 32 → zb 15 i = decide (i < 4) := by decide +kernel
theorem sh_i : ∀ i, i < 4 → (4 * Int32.ofNat i) &&& 31 = Int32.ofNat (4 * i) &&& 31 := by decide +kernel
theorem upk_t {v : Int32} {P : Nat} (h : v.toInt = P) {i : Nat} (hi : i < 4) : ((v >>> ((4 * Int32.ofNat i) &&& 31)) &&& 15).toInt = ((P / 2 ^ (4 * i) % 16 : Nat) : Int) := by
  have e : (v >>> ((4 * Int32.ofNat i) &&& 31)) &&& 15 = Int32.ofNat (P / 2 ^ (4 * i) % 16) := by
    rw [sh_i i hi]
    apply z_ext
    intro j hj
    rw [z_and, z_15 j hj, zb_on hj, show (16 : Nat) = 2 ^ 4 from rfl, Nat.testBit_mod_two_pow, Nat.testBit_div_two_pow]
    by_cases q : j < 4
    · rw [z_sshr (4 * i) (by omega) v hj (by omega), on_of h, zb_on (by omega), Nat.add_comm, decide_eq_true q]
      simp
    · rw [decide_eq_false q]; simp
  have : P / 2 ^ (4 * i) % 16 < 16 := Nat.mod_lt _ (by decide)
  rw [e, on_t (by omega)]
