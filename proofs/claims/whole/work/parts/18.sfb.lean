-- contracts of readers and small writers
def tAt (h : Hp) (t : Nat) (p : Int32) : Int32 := if 0 ≤ p.toInt ∧ p.toInt < (gi h t 1).toInt ∧ p.toInt < 80 then gi h (t + 1) (ix p) else -1
def tDg (h : Hp) (t : Nat) (p : Int32) : Int32 := if 48 ≤ (tAt h t p).toInt ∧ (tAt h t p).toInt ≤ 57 then 1 else 0
def tNo (h : Hp) (t : Nat) (i : Int32) : Int64 := if 0 ≤ i.toInt ∧ i.toInt < 60 then gl h (t + 1) (ix i) else 0
def fpt (h : Hp) (a : Nat) (u w : Int64) : Hp := sl (sl h a 0 (u / cm u w)) a 1 (w / cm u w)
def fcp (h : Hp) (a b : Nat) : Hp := sl (sl h a 0 (gl h b 0)) a 1 (gl h b 1)
def tcl (h : Hp) (t : Nat) : Hp := si h t 1 0
def tad (h : Hp) (t : Nat) (v : Int64) : Hp := si (sl h (t + 1) (ix (gi h t 1)) v) t 1 (gi h t 1 + 1)
def taf (h : Hp) (t f : Nat) : Hp := tad (tad h t (gl h f 0)) t (gl h f 1)
def men (h : Hp) (m : Nat) (v : Int64) : Hp := si (sl h (m + 1) (ix (gi h m 1)) v) m 1 (gi h m 1 + 1)
def hIs (h : Hp) (a f : Nat) (k : Int32) : Int32 := if 0 ≤ k.toInt ∧ k.toInt < (gi h a f).toInt then 1 else 0
def sTo (h : Hp) (s : Nat) (k : Int32) : Int32 := if 0 ≤ k.toInt ∧ k.toInt < 12 then gi h (s + 1) (ix k) else 0
def sUp (h : Hp) (s : Nat) (k : Int32) : Int32 := if 0 ≤ k.toInt ∧ k.toInt < 3102 then gi h (s + 2) (ix k) else 0
def sLo (h : Hp) (s : Nat) (k : Int32) : Int32 := if 0 ≤ k.toInt ∧ k.toInt < 3102 then gi h (s + 3) (ix k) else 1
def sPk (a b c d : Int32) : Int32 := ((a ||| (b <<< (4 &&& 31))) ||| (c <<< (8 &&& 31))) ||| (d <<< (12 &&& 31))
def iRt (p q : Int32) : Int32 := if 1 ≤ p.toInt ∧ p.toInt ≤ 400 ∧ 1 ≤ q.toInt ∧ q.toInt ≤ 400 then 1 else 0
theorem i12_t : (12 : Int32).toInt = 12 := rfl
theorem i48_t : (48 : Int32).toInt = 48 := rfl
theorem i57_t : (57 : Int32).toInt = 57 := rfl
theorem i60_t : (Int32.ofNat 60).toInt = 60 := rfl
theorem i80_t : (Int32.ofNat 80).toInt = 80 := rfl
theorem i3102_t : (3102 : Int32).toInt = 3102 := rfl
theorem l1_t : (1 : Int64).toInt = 1 := rfl
theorem l2_t : (2 : Int64).toInt = 2 := rfl
theorem l400_t : (400 : Int64).toInt = 400 := rfl
theorem btL_1 {x a b : Int64} : btL x a b = 1 ↔ a.toInt ≤ x.toInt ∧ x.toInt ≤ b.toInt := by
  unfold btL
  simp only [i64_le]
  split <;> simp_all
theorem btL_0 {x a b : Int64} : btL x a b = 0 ↔ ¬ (a.toInt ≤ x.toInt ∧ x.toInt ≤ b.toInt) := by
  unfold btL
  simp only [i64_le]
  split <;> simp_all
theorem bt_1 {x a b : Int32} : bt x a b = 1 ↔ a.toInt ≤ x.toInt ∧ x.toInt ≤ b.toInt := by
  unfold bt
  simp only [i32_le]
  split <;> simp_all
theorem bt_0 {x a b : Int32} : bt x a b = 0 ↔ ¬ (a.toInt ≤ x.toInt ∧ x.toInt ≤ b.toInt) := by
  unfold bt
  simp only [i32_le]
  split <;> simp_all
theorem bt_01 (x a b : Int32) : bt x a b = 0 ∨ bt x a b = 1 := by unfold bt; split <;> simp
theorem btL_01 (x a b : Int64) : btL x a b = 0 ∨ btL x a b = 1 := by unfold btL; split <;> simp
theorem flg_01 (x : Int32) : flg x = 0 ∨ flg x = 1 := by unfold flg; split <;> simp
section Sfb
variable {l : Launch} {D : Dt} {h : Hp} {a b : Nat} {k : Int32}
theorem sf_X7_at (F : St7 h a) : S_X7_at l D 0 0 [.ref a, .int k] h (PF (.int (tAt h a k)) h) := Sp.of rfl (Nat.le_of_ble_eq_true rfl) (fun X C _ _ _ _ => V_X7_at_0 C (by
  unfold tAt PF
  simp only [i32_lt, i32_le, i0_t, i80_t]
  refine ⟨fun h1 => ⟨?_, trivial⟩, fun h1 => ⟨F, fun h2 => ⟨?_, trivial⟩, fun h2 => ⟨fun h3 => ⟨?_, trivial⟩, fun h3 => ⟨⟨by omega, by omega⟩, ?_, trivial⟩⟩⟩⟩
  · rw [if_neg (by omega)]
  · rw [if_neg (by omega)]
  · rw [if_neg (by omega)]
  · rw [if_pos (by omega)]))
theorem sf_X7_isDigit (F : St7 h a) : S_X7_isDigit l D 0 0 [.ref a, .int k] h (PF (.int (tDg h a k)) h) := Sp.of rfl (Nat.le_of_ble_eq_true rfl) (fun X C _ _ _ _ => V_X7_isDigit_0 C (by
  refine ⟨F, (sf_X7_at F).mono (fun v h' hp => ?_)⟩
  obtain ⟨rfl, rfl⟩ := hp
  refine ⟨_, rfl, ?_⟩
  simp only [i32_lt, i48_t, i57_t]
  refine ⟨fun h1 => ⟨?_, rfl⟩, fun h1 => ⟨F, (sf_X7_at F).mono (fun v h' hp => ?_)⟩⟩
  · unfold tDg; rw [if_neg (by omega)]
  · obtain ⟨rfl, rfl⟩ := hp
    refine ⟨_, rfl, fun h2 => ⟨?_, rfl⟩, fun h2 => ⟨?_, rfl⟩⟩
    · unfold tDg; rw [if_neg (by omega)]
    · unfold tDg; rw [if_pos (by omega)]))
theorem sf_X8_number (F : St8 h a) : S_X8_number l D 0 0 [.ref a, .int k] h (PF (.long (tNo h a k)) h) := Sp.of rfl (Nat.le_of_ble_eq_true rfl) (fun X C _ _ _ _ => V_X8_number_0 C (by
  unfold tNo PF
  simp only [i32_lt, i32_le, i0_t, i60_t]
  refine ⟨fun h1 => ⟨?_, trivial⟩, fun h1 => ⟨F, fun h2 => ⟨?_, trivial⟩, fun h2 => ⟨⟨by omega, by omega⟩, ?_, trivial⟩⟩⟩
  · rw [if_neg (by omega)]
  · rw [if_neg (by omega)]
  · rw [if_pos (by omega)]))
def PH (h : Hp) : Pq := fun v h' => v = none ∧ h' = h
theorem sf_X2_put {u w : Int64} (F : kd h a = 3) (hu : -9223372036854775807 ≤ u.toInt) (hw : 0 < w.toInt) : S_X2_put l D 0 0 [.ref a, .long u, .long w] h (PH (fpt h a u w)) := Sp.of rfl (Nat.le_of_ble_eq_true rfl) (fun X C _ _ _ _ => V_X2_put_0 C (by
  refine ⟨fun h1 => ⟨hu, hw, ?_, F, rfl, rfl⟩, fun h1 => ?_⟩
  · rw [i64_eq, l0_t, cm_t hw]
    have : 0 < Nat.gcd u.toInt.natAbs w.toInt.natAbs := Nat.gcd_pos_of_pos_right _ (by omega)
    omega
  · rw [i64_lt, l0_t] at h1; omega))
theorem sf_X2_copyFrom (F1 : kd h a = 3) (F2 : kd h b = 3) : S_X2_copyFrom l D 0 0 [.ref a, .ref b] h (PH (fcp h a b)) := Sp.of rfl (Nat.le_of_ble_eq_true rfl) (fun X C _ _ _ _ => V_X2_copyFrom_0 C (by
  refine ⟨F2, F1, rfl, ?_⟩
  unfold fcp
  rw [gl_sl, if_neg (fun e => by cases e.2)]))
theorem sf_X8_clear (F : St8 h a) : S_X8_clear l D 0 0 [.ref a] h (PH (tcl h a)) := Sp.of rfl (Nat.le_of_ble_eq_true rfl) (fun X C _ _ _ _ => V_X8_clear_0 C ⟨F, rfl, rfl⟩)
theorem sf_X8_add {v : Int64} (F : St8 h a) (hi : inb (gi h a 1) 60) : S_X8_add l D 0 0 [.ref a, .long v] h (PH (tad h a v)) := Sp.of rfl (Nat.le_of_ble_eq_true rfl) (fun X C _ _ _ _ => V_X8_add_0 C (by
  have hi2 := hi
  unfold inb at hi2
  simp only [i32_lt, i32_le, i0_t, i60_t]
  exact ⟨F, fun h1 => by omega, fun h1 => ⟨fun h2 => by omega, fun h2 => ⟨hi, rfl, rfl⟩⟩⟩))
theorem sf_X4_isCircle (F : St4 h a) : S_X4_isCircle l D 0 0 [.ref a, .int k] h (PF (.int (hIs h a 3 k)) h) := Sp.of rfl (Nat.le_of_ble_eq_true rfl) (fun X C _ _ _ _ => V_X4_isCircle_0 C (by
  unfold hIs PF
  simp only [i32_lt, i32_le, i0_t]
  refine ⟨fun h1 => ⟨?_, trivial⟩, fun h1 => ⟨F, fun h2 => ⟨?_, trivial⟩, fun h2 => ⟨?_, trivial⟩⟩⟩
  · rw [if_neg (by omega)]
  · rw [if_neg (by omega)]
  · rw [if_pos (by omega)]))
theorem sf_X4_isGear (F : St4 h a) : S_X4_isGear l D 0 0 [.ref a, .int k] h (PF (.int (hIs h a 4 k)) h) := Sp.of rfl (Nat.le_of_ble_eq_true rfl) (fun X C _ _ _ _ => V_X4_isGear_0 C (by
  unfold hIs PF
  simp only [i32_lt, i32_le, i0_t]
  refine ⟨fun h1 => ⟨?_, trivial⟩, fun h1 => ⟨F, fun h2 => ⟨?_, trivial⟩, fun h2 => ⟨?_, trivial⟩⟩⟩
  · rw [if_neg (by omega)]
  · rw [if_neg (by omega)]
  · rw [if_pos (by omega)]))
theorem sf_X4_isMark (F : St4 h a) : S_X4_isMark l D 0 0 [.ref a, .int k] h (PF (.int (hIs h a 7 k)) h) := Sp.of rfl (Nat.le_of_ble_eq_true rfl) (fun X C _ _ _ _ => V_X4_isMark_0 C (by
  unfold hIs PF
  simp only [i32_lt, i32_le, i0_t]
  refine ⟨fun h1 => ⟨?_, trivial⟩, fun h1 => ⟨F, fun h2 => ⟨?_, trivial⟩, fun h2 => ⟨?_, trivial⟩⟩⟩
  · rw [if_neg (by omega)]
  · rw [if_neg (by omega)]
  · rw [if_pos (by omega)]))
theorem sf_X5_tooth (F : St5 h a) : S_X5_tooth l D 0 0 [.ref a, .int k] h (PF (.int (sTo h a k)) h) := Sp.of rfl (Nat.le_of_ble_eq_true rfl) (fun X C _ _ _ _ => V_X5_tooth_0 C (by
  unfold sTo PF
  simp only [i32_lt, i32_le, i0_t, i12_t]
  refine ⟨fun h1 => ⟨?_, trivial⟩, fun h1 => ⟨fun h2 => ⟨?_, trivial⟩, fun h2 => ⟨F, ⟨by omega, by omega⟩, ?_, trivial⟩⟩⟩
  · rw [if_neg (by omega)]
  · rw [if_neg (by omega)]
  · rw [if_pos (by omega)]))
theorem sf_X5_up (F : St5 h a) : S_X5_up l D 0 0 [.ref a, .int k] h (PF (.int (sUp h a k)) h) := Sp.of rfl (Nat.le_of_ble_eq_true rfl) (fun X C _ _ _ _ => V_X5_up_0 C (by
  unfold sUp PF
  simp only [i32_lt, i32_le, i0_t, i3102_t]
  refine ⟨fun h1 => ⟨?_, trivial⟩, fun h1 => ⟨fun h2 => ⟨?_, trivial⟩, fun h2 => ⟨F, ⟨by omega, by omega⟩, ?_, trivial⟩⟩⟩
  · rw [if_neg (by omega)]
  · rw [if_neg (by omega)]
  · rw [if_pos (by omega)]))
theorem sf_X5_low (F : St5 h a) : S_X5_low l D 0 0 [.ref a, .int k] h (PF (.int (sLo h a k)) h) := Sp.of rfl (Nat.le_of_ble_eq_true rfl) (fun X C _ _ _ _ => V_X5_low_0 C (by
  unfold sLo PF
  simp only [i32_lt, i32_le, i0_t, i3102_t]
  refine ⟨fun h1 => ⟨?_, trivial⟩, fun h1 => ⟨fun h2 => ⟨?_, trivial⟩, fun h2 => ⟨F, ⟨by omega, by omega⟩, ?_, trivial⟩⟩⟩
  · rw [if_neg (by omega)]
  · rw [if_neg (by omega)]
  · rw [if_pos (by omega)]))
theorem sf_X5_pack {x y z w : Int32} : S_X5_pack l D 0 0 [.int x, .int y, .int z, .int w] h (PF (.int (sPk x y z w)) h) := Sp.of rfl (Nat.le_of_ble_eq_true rfl) (fun X C _ _ _ _ => V_X5_pack_0 C ⟨rfl, rfl⟩)
theorem sf_X10_enters {v : Int64} (F : St10 h a) (hi : inb (gi h a 1) 64) : S_X10_enters l D 0 0 [.ref a, .long v] h (PH (men h a v)) := Sp.of rfl (Nat.le_of_ble_eq_true rfl) (fun X C _ _ _ _ => V_X10_enters_0 C ⟨F, hi, rfl, rfl⟩)
theorem sf_X10_reads (F : St10 h a) : S_X10_reads l D 0 0 [.ref a] h (PH (si (si (si h a 6 (gi h a 4)) a 4 0) a 5 0)) := Sp.of rfl (Nat.le_of_ble_eq_true rfl) (fun X C _ _ _ _ => V_X10_reads_0 C ⟨F, rfl, rfl⟩)
theorem sf_X10_thrown (F : St10 h a) : S_X10_thrown l D 0 0 [.ref a] h (PF (.int (gi h a 0)) h) := Sp.of rfl (Nat.le_of_ble_eq_true rfl) (fun X C _ _ _ _ => V_X10_thrown_0 C ⟨F, rfl, rfl⟩)
theorem sf_X10_worm (F : St10 h a) : S_X10_worm l D 0 0 [.ref a] h (PF (.int (gi h (a + 3) (ix 0))) h) := Sp.of rfl (Nat.le_of_ble_eq_true rfl) (fun X C _ _ _ _ => V_X10_worm_0 C ⟨F, rfl, rfl⟩)
theorem sf_X10_circles (F : St10 h a) : S_X10_circles l D 0 0 [.ref a] h (PF (.int (gi h (a + 3) (ix 3))) h) := Sp.of rfl (Nat.le_of_ble_eq_true rfl) (fun X C _ _ _ _ => V_X10_circles_0 C ⟨F, rfl, rfl⟩)
theorem sf_X10_gearMany (F : St10 h a) : S_X10_gearMany l D 0 0 [.ref a] h (PF (.int (gi h (a + 3) (ix 4))) h) := Sp.of rfl (Nat.le_of_ble_eq_true rfl) (fun X C _ _ _ _ => V_X10_gearMany_0 C ⟨F, rfl, rfl⟩)
theorem sf_X10_marks (F : St10 h a) : S_X10_marks l D 0 0 [.ref a] h (PF (.int (gi h (a + 3) (ix 60))) h) := Sp.of rfl (Nat.le_of_ble_eq_true rfl) (fun X C _ _ _ _ => V_X10_marks_0 C ⟨F, rfl, rfl⟩)
theorem sf_X10_holes (F : St10 h a) (hi : inb (23 + k) 732) : S_X10_holes l D 0 0 [.ref a, .int k] h (PF (.int (gi h (a + 3) (ix (23 + k)))) h) := Sp.of rfl (Nat.le_of_ble_eq_true rfl) (fun X C _ _ _ _ => V_X10_holes_0 C ⟨F, hi, rfl, rfl⟩)
theorem sf_X10_teeth (F : St10 h a) (hi : inb (41 + k) 732) : S_X10_teeth l D 0 0 [.ref a, .int k] h (PF (.int (gi h (a + 3) (ix (41 + k)))) h) := Sp.of rfl (Nat.le_of_ble_eq_true rfl) (fun X C _ _ _ _ => V_X10_teeth_0 C ⟨F, hi, rfl, rfl⟩)
theorem sf_X10_circlesOf (F : St10 h a) (hi : inb (k * 61 + 3) 732) : S_X10_circlesOf l D 0 0 [.ref a, .int k] h (PF (.int (gi h (a + 3) (ix (k * 61 + 3)))) h) := Sp.of rfl (Nat.le_of_ble_eq_true rfl) (fun X C _ _ _ _ => V_X10_circlesOf_0 C ⟨F, hi, rfl, rfl⟩)
theorem sf_X10_markUp (F : St10 h a) (hi : inb (2 + 2 * k) 1464) : S_X10_markUp l D 0 0 [.ref a, .int k] h (PF (.long (gl h (a + 4) (ix (2 + 2 * k)))) h) := Sp.of rfl (Nat.le_of_ble_eq_true rfl) (fun X C _ _ _ _ => V_X10_markUp_0 C ⟨F, hi, rfl, rfl⟩)
theorem sf_X10_markLow (F : St10 h a) (hi : inb (2 + 2 * k + 1) 1464) : S_X10_markLow l D 0 0 [.ref a, .int k] h (PF (.long (gl h (a + 4) (ix (2 + 2 * k + 1)))) h) := Sp.of rfl (Nat.le_of_ble_eq_true rfl) (fun X C _ _ _ _ => V_X10_markLow_0 C ⟨F, hi, rfl, rfl⟩)
theorem sf_X10_isNumber : S_X10_isNumber l D 0 0 [.int k] h (PF (.int (btL k.toInt64 2 400)) h) := Sp.of rfl (Nat.le_of_ble_eq_true rfl) (fun X C _ _ _ _ => V_X10_isNumber_0 C ⟨btL_01 _ _ _, rfl, rfl⟩)
theorem sf_X10_isRatio {p q : Int32} : S_X10_isRatio l D 0 0 [.int p, .int q] h (PF (.int (iRt p q)) h) := Sp.of rfl (Nat.le_of_ble_eq_true rfl) (fun X C _ _ _ _ => V_X10_isRatio_0 C (by
  unfold iRt PF
  simp only [btL_0, i2l_t, l1_t, l400_t]
  refine ⟨fun h1 => ⟨?_, trivial⟩, fun h1 => ⟨fun h2 => ⟨?_, trivial⟩, fun h2 => ⟨?_, trivial⟩⟩⟩
  · rw [if_neg (by omega)]
  · rw [if_neg (by omega)]
  · rw [if_pos (by omega)]))
end Sfb
