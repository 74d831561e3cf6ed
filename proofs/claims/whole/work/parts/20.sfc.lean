-- contracts of more readers
def hHo (h : Hp) (a : Nat) (k : Int32) : Int32 := if 0 ≤ k.toInt ∧ k.toInt < (gi h a 3).toInt ∧ k.toInt < 18 then gi h (a + 4) (ix k) else 0
def hPl (h : Hp) (a : Nat) (k : Int32) : Int32 := if 0 ≤ k.toInt ∧ k.toInt < (gi h a 3).toInt ∧ k.toInt < 18 then gi h (a + 5) (ix k) else -1
def hTe (h : Hp) (a : Nat) (k : Int32) : Int32 := if 0 ≤ k.toInt ∧ k.toInt < (gi h a 4).toInt ∧ k.toInt < 12 then gi h (a + 6) (ix k) else 0
def hMu (h : Hp) (a : Nat) (k : Int32) : Int64 := if 0 ≤ k.toInt ∧ k.toInt < (gi h a 7).toInt ∧ k.toInt < 60 then gl h (a + 7) (ix k) else 0
def hMl (h : Hp) (a : Nat) (k : Int32) : Int64 := if 0 ≤ k.toInt ∧ k.toInt < (gi h a 7).toInt ∧ k.toInt < 60 then gl h (a + 8) (ix k) else 1
def hPr (h : Hp) (a : Nat) (x y : Int32) : Int32 := if 0 ≤ x.toInt ∧ x.toInt < (gi h a 4).toInt ∧ 0 ≤ y.toInt ∧ y.toInt < (gi h a 4).toInt ∧ x.toInt ≠ y.toInt then 1 else 0
def mHs (h : Hp) (m : Nat) (k n : Int32) : Int32 := if (gi h (m + 3) (ix 0) * gi h (m + 3) (ix (23 + k))) % n = 0 then 1 else 0
def mUn (h : Hp) (m : Nat) (k : Int32) : Int32 := if ∀ i, i < ix k → gi h (m + 7) i ≠ gi h (m + 7) (ix k) then 1 else 0
def mUp (h : Hp) (m : Nat) : Int64 := (gi h (m + 3) (ix (41 + gi h (m + 7) (ix 0)))).toInt64 * (if gi h m 18 = 4 then (gi h (m + 3) (ix (41 + gi h (m + 7) (ix 2)))).toInt64 else Int32.toInt64 1)
def mLw (h : Hp) (m : Nat) : Int64 := (gi h (m + 3) (ix (41 + gi h (m + 7) (ix 1)))).toInt64 * (if gi h m 18 = 4 then (gi h (m + 3) (ix (41 + gi h (m + 7) (ix 3)))).toInt64 else Int32.toInt64 1)
def mTU (h : Hp) (m : Nat) : Int64 := if gi h (m + 3) (ix 54) = 0 then 0 else (gi h (m + 3) (ix 59)).toInt64 * (gi h (m + 3) (ix (41 + gi h (m + 3) (ix 55)))).toInt64 * (if gi h (m + 3) (ix 54) = 4 then (gi h (m + 3) (ix (41 + gi h (m + 3) (ix 57)))).toInt64 else Int32.toInt64 1)
def mTL (h : Hp) (m : Nat) : Int64 := if gi h (m + 3) (ix 54) = 0 then 1 else (gi h (m + 3) (ix (41 + gi h (m + 3) (ix 56)))).toInt64 * (if gi h (m + 3) (ix 54) = 4 then (gi h (m + 3) (ix (41 + gi h (m + 3) (ix 58)))).toInt64 else Int32.toInt64 1)
def sWh (h : Hp) (s : Nat) (e i : Int32) : Int32 := if 0 ≤ e.toInt ∧ e.toInt < 3102 then (if ((gi h (s + 4) (ix e)) >>> ((4 * i) &&& 31)) &&& 15 = 15 then -1 else ((gi h (s + 4) (ix e)) >>> ((4 * i) &&& 31)) &&& 15) else -1
def sWt (h : Hp) (s : Nat) (e : Int32) : Int32 := if sWh h s e 2 = -1 then 2 else 4
theorem hIs_0 {h : Hp} {a f : Nat} {k : Int32} : hIs h a f k = 0 ↔ ¬ (0 ≤ k.toInt ∧ k.toInt < (gi h a f).toInt) := by unfold hIs; split <;> simp_all
theorem i18_t : (18 : Int32).toInt = 18 := rfl
theorem i60_tt : (60 : Int32).toInt = 60 := rfl
section Sfc
variable {l : Launch} {D : Dt} {h : Hp} {a b : Nat} {k : Int32}
theorem sf_X4_holesOf (F : St4 h a) : S_X4_holesOf l D 0 0 [.ref a, .int k] h (PF (.int (hHo h a k)) h) := Sp.of rfl (Nat.le_of_ble_eq_true rfl) (fun X C _ _ _ _ => V_X4_holesOf_0 C (by
  unfold hHo PF
  simp only [i32_lt, i32_le, i0_t, i18_t, hIs_0]
  refine ⟨F, fun h1 => ⟨?_, trivial⟩, fun h1 => ⟨fun h2 => ⟨?_, trivial⟩, fun h2 => ⟨⟨by omega, by omega⟩, ?_, trivial⟩⟩⟩
  · rw [if_neg (by omega)]
  · rw [if_neg (by omega)]
  · rw [if_pos (by omega)]))
theorem sf_X4_plateOf (F : St4 h a) : S_X4_plateOf l D 0 0 [.ref a, .int k] h (PF (.int (hPl h a k)) h) := Sp.of rfl (Nat.le_of_ble_eq_true rfl) (fun X C _ _ _ _ => V_X4_plateOf_0 C (by
  unfold hPl PF
  simp only [i32_lt, i32_le, i0_t, i18_t, hIs_0]
  refine ⟨F, fun h1 => ⟨?_, trivial⟩, fun h1 => ⟨fun h2 => ⟨?_, trivial⟩, fun h2 => ⟨⟨by omega, by omega⟩, ?_, trivial⟩⟩⟩
  · rw [if_neg (by omega)]
  · rw [if_neg (by omega)]
  · rw [if_pos (by omega)]))
theorem sf_X4_teethOf (F : St4 h a) : S_X4_teethOf l D 0 0 [.ref a, .int k] h (PF (.int (hTe h a k)) h) := Sp.of rfl (Nat.le_of_ble_eq_true rfl) (fun X C _ _ _ _ => V_X4_teethOf_0 C (by
  unfold hTe PF
  simp only [i32_lt, i32_le, i0_t, i12_t, hIs_0]
  refine ⟨F, fun h1 => ⟨?_, trivial⟩, fun h1 => ⟨fun h2 => ⟨?_, trivial⟩, fun h2 => ⟨⟨by omega, by omega⟩, ?_, trivial⟩⟩⟩
  · rw [if_neg (by omega)]
  · rw [if_neg (by omega)]
  · rw [if_pos (by omega)]))
theorem sf_X4_markUp (F : St4 h a) : S_X4_markUp l D 0 0 [.ref a, .int k] h (PF (.long (hMu h a k)) h) := Sp.of rfl (Nat.le_of_ble_eq_true rfl) (fun X C _ _ _ _ => V_X4_markUp_0 C (by
  unfold hMu PF
  simp only [i32_lt, i32_le, i0_t, i60_tt, hIs_0]
  refine ⟨F, fun h1 => ⟨?_, trivial⟩, fun h1 => ⟨fun h2 => ⟨?_, trivial⟩, fun h2 => ⟨⟨by omega, by omega⟩, ?_, trivial⟩⟩⟩
  · rw [if_neg (by omega)]
  · rw [if_neg (by omega)]
  · rw [if_pos (by omega)]))
theorem sf_X4_markLow (F : St4 h a) : S_X4_markLow l D 0 0 [.ref a, .int k] h (PF (.long (hMl h a k)) h) := Sp.of rfl (Nat.le_of_ble_eq_true rfl) (fun X C _ _ _ _ => V_X4_markLow_0 C (by
  unfold hMl PF
  simp only [i32_lt, i32_le, i0_t, i60_tt, hIs_0]
  refine ⟨F, fun h1 => ⟨?_, trivial⟩, fun h1 => ⟨fun h2 => ⟨?_, trivial⟩, fun h2 => ⟨⟨by omega, by omega⟩, ?_, trivial⟩⟩⟩
  · rw [if_neg (by omega)]
  · rw [if_neg (by omega)]
  · rw [if_pos (by omega)]))
theorem sf_X4_isPair {x y : Int32} (F : St4 h a) : S_X4_isPair l D 0 0 [.ref a, .int x, .int y] h (PF (.int (hPr h a x y)) h) := Sp.of rfl (Nat.le_of_ble_eq_true rfl) (fun X C _ _ _ _ => V_X4_isPair_0 C (by
  unfold hPr PF
  simp only [i32_eq (x := x), hIs_0]
  refine ⟨F, fun h1 => ⟨?_, trivial⟩, fun h1 => ⟨fun h2 => ⟨?_, trivial⟩, fun h2 => ⟨fun h3 => ⟨?_, trivial⟩, fun h3 => ⟨?_, trivial⟩⟩⟩⟩
  · rw [if_neg (by omega)]
  · rw [if_neg (by omega)]
  · rw [if_neg (by omega)]
  · rw [if_pos (by omega)]))
theorem sf_X10_hasSimple {n : Int32} (F : St10 h a) (hi : inb (23 + k) 732) (hn : ¬ n = 0) : S_X10_hasSimple l D 0 0 [.ref a, .int k, .int n] h (PF (.int (mHs h a k n)) h) := Sp.of rfl (Nat.le_of_ble_eq_true rfl) (fun X C _ _ _ _ => V_X10_hasSimple_0 C (by
  unfold mHs PF
  exact ⟨F, hi, hn, fun h1 => ⟨by rw [if_neg h1], rfl⟩, fun h1 => ⟨by rw [if_pos h1], rfl⟩⟩))
theorem sf_X10_allHoles {n : Int32} (F : St10 h a) (hi : inb (23 + k) 732) (hn : ¬ n = 0) : S_X10_allHoles l D 0 0 [.ref a, .int k, .int n] h (PF (.int ((gi h (a + 3) (ix 0) * gi h (a + 3) (ix (23 + k))) / n)) h) := Sp.of rfl (Nat.le_of_ble_eq_true rfl) (fun X C _ _ _ _ => V_X10_allHoles_0 C ⟨F, hi, hn, rfl, rfl⟩)
theorem sf_X10_isGear (F : St10 h a) : S_X10_isGear l D 0 0 [.ref a, .int k] h (PF (.int (btL k.toInt64 0 (gi h (a + 3) (ix 4) - 1).toInt64)) h) := Sp.of rfl (Nat.le_of_ble_eq_true rfl) (fun X C _ _ _ _ => V_X10_isGear_0 C ⟨F, btL_01 _ _ _, rfl, rfl⟩)
theorem sf_X10_upper (F : St10 h a) (h1 : inb (41 + gi h (a + 7) (ix 0)) 732) (h2 : gi h a 18 = 4 → inb (41 + gi h (a + 7) (ix 2)) 732) : S_X10_upper l D 0 0 [.ref a] h (PF (.long (mUp h a)) h) := Sp.of rfl (Nat.le_of_ble_eq_true rfl) (fun X C _ _ _ _ => V_X10_upper_0 C (by
  unfold mUp PF
  exact ⟨F, h1, fun q => ⟨by rw [if_neg q], rfl⟩, fun q => ⟨h2 q, by rw [if_pos q], rfl⟩⟩))
theorem sf_X10_lower (F : St10 h a) (h1 : inb (41 + gi h (a + 7) (ix 1)) 732) (h2 : gi h a 18 = 4 → inb (41 + gi h (a + 7) (ix 3)) 732) : S_X10_lower l D 0 0 [.ref a] h (PF (.long (mLw h a)) h) := Sp.of rfl (Nat.le_of_ble_eq_true rfl) (fun X C _ _ _ _ => V_X10_lower_0 C (by
  unfold mLw PF
  exact ⟨F, h1, fun q => ⟨by rw [if_neg q], rfl⟩, fun q => ⟨h2 q, by rw [if_pos q], rfl⟩⟩))
theorem sf_X10_trainUpper (F : St10 h a) (h1 : ¬ gi h (a + 3) (ix 54) = 0 → inb (41 + gi h (a + 3) (ix 55)) 732) (h2 : gi h (a + 3) (ix 54) = 4 → inb (41 + gi h (a + 3) (ix 57)) 732) : S_X10_trainUpper l D 0 0 [.ref a] h (PF (.long (mTU h a)) h) := Sp.of rfl (Nat.le_of_ble_eq_true rfl) (fun X C _ _ _ _ => V_X10_trainUpper_0 C (by
  unfold mTU PF
  exact ⟨F, fun z => ⟨h1 z, fun q => ⟨by rw [if_neg z, if_neg q], rfl⟩, fun q => ⟨h2 q, by rw [if_neg z, if_pos q], rfl⟩⟩, fun z => ⟨by rw [if_pos z], rfl⟩⟩))
theorem sf_X10_trainLower (F : St10 h a) (h1 : ¬ gi h (a + 3) (ix 54) = 0 → inb (41 + gi h (a + 3) (ix 56)) 732) (h2 : gi h (a + 3) (ix 54) = 4 → inb (41 + gi h (a + 3) (ix 58)) 732) : S_X10_trainLower l D 0 0 [.ref a] h (PF (.long (mTL h a)) h) := Sp.of rfl (Nat.le_of_ble_eq_true rfl) (fun X C _ _ _ _ => V_X10_trainLower_0 C (by
  unfold mTL PF
  exact ⟨F, fun z => ⟨h1 z, fun q => ⟨by rw [if_neg z, if_neg q], rfl⟩, fun q => ⟨h2 q, by rw [if_neg z, if_pos q], rfl⟩⟩, fun z => ⟨by rw [if_pos z], rfl⟩⟩))
theorem cm_ne {a b : Int64} (h : 0 < b.toInt) : ¬ cm a b = 0 := by
  rw [i64_eq, l0_t, cm_t h]
  have : 0 < Nat.gcd a.toInt.natAbs b.toInt.natAbs := Nat.gcd_pos_of_pos_right _ (by omega)
  omega
theorem gi_men (h : Hp) (m : Nat) (v : Int64) : gi (men h m v) m 1 = gi h m 1 + 1 := by
  unfold men; rw [gi_si, if_pos ⟨rfl, rfl⟩]
theorem gi_tad (h : Hp) (m : Nat) (v : Int64) : gi (tad h m v) m 1 = gi h m 1 + 1 := by
  unfold tad; rw [gi_si, if_pos ⟨rfl, rfl⟩]
theorem i1_t : (1 : Int32).toInt = 1 := rfl
theorem inb_1 {i : Int32} {N : Nat} (hN : N < 1000000) (h : inb i N) (h2 : i.toInt + 1 < N) : inb (i + 1) N := by
  unfold inb at *
  rw [iadd_t] <;> rw [i1_t] <;> omega
theorem sf_X10_entersPart {u w : Int64} (F : St10 h a) (hu : -9223372036854775807 ≤ u.toInt) (hw : 0 < w.toInt) (hi : inb (gi h a 1) 63) : S_X10_entersPart l D 0 0 [.ref a, .long u, .long w] h (PH (men (men h a (u / cm u w)) a (w / cm u w))) := Sp.of rfl (Nat.le_of_ble_eq_true rfl) (fun X C _ _ _ _ => V_X10_entersPart_0 C (by
  unfold inb at hi
  have h1 : inb (gi h a 1) 64 := ⟨hi.1, by omega⟩
  exact ⟨hu, hw, cm_ne hw, F, h1, by rw [gi_men]; exact inb_1 (by omega) h1 (by omega), rfl, rfl⟩))
theorem sf_X8_addFraction (F : St8 h a) (Fb : kd h b = 3) (hi : inb (gi h a 1) 59) : S_X8_addFraction l D 0 0 [.ref a, .ref b] h (PH (taf h a b)) := Sp.of rfl (Nat.le_of_ble_eq_true rfl) (fun X C _ _ _ _ => V_X8_addFraction_0 C (by
  unfold inb at hi
  have h1 : inb (gi h a 1) 60 := ⟨hi.1, by omega⟩
  have hne : b ≠ a + 1 := fun e => by have := St8_k0 F; rw [← e, Fb] at this; cases this
  refine ⟨Fb, F, h1, by rw [gi_tad]; exact inb_1 (by omega) h1 (by omega), rfl, ?_⟩
  unfold taf
  have : gl (tad h a (gl h b 0)) b 1 = gl h b 1 := by
    unfold tad
    rw [gl_si, gl_sl, if_neg (fun e => hne e.1)]
  rw [this]))
theorem sf_X5_wheel {e i : Int32} (F : St5 h a) : S_X5_wheel l D 0 0 [.ref a, .int e, .int i] h (PF (.int (sWh h a e i)) h) := Sp.of rfl (Nat.le_of_ble_eq_true rfl) (fun X C _ _ _ _ => V_X5_wheel_0 C (by
  unfold PF sWh
  refine ⟨fun h1 => ⟨?_, rfl⟩, fun h1 => ⟨fun h2 => ⟨F, ?_, fun h3 => ⟨?_, rfl⟩, fun h3 => ⟨?_, rfl⟩⟩, fun h2 => ⟨?_, rfl⟩⟩⟩
  all_goals rw [i32_lt, i0_t] at h1
  · rw [if_neg (by omega)]
  all_goals rw [i32_lt, i3102_t] at h2
  · exact ⟨by omega, by omega⟩
  · rw [if_pos (by omega), if_neg h3]
  · rw [if_pos (by omega), if_pos h3]
  · rw [if_neg (by omega)]))
theorem sf_X5_wheelTotal {e : Int32} (F : St5 h a) : S_X5_wheelTotal l D 0 0 [.ref a, .int e] h (PF (.int (sWt h a e)) h) := Sp.of rfl (Nat.le_of_ble_eq_true rfl) (fun X C _ _ _ _ => V_X5_wheelTotal_0 C (by
  refine ⟨F, (sf_X5_wheel F).mono (fun v h' hp => ?_)⟩
  obtain ⟨rfl, rfl⟩ := hp
  unfold sWt PF
  exact ⟨_, rfl, fun h1 => ⟨by rw [if_neg h1], rfl⟩, fun h1 => ⟨by rw [if_pos h1], rfl⟩⟩))
end Sfc
section Unl
variable {X : Ctx} {k n : Nat} {Q : Pq} {h : Hp} {m : Nat}
theorem ix_of {i : Int32} {j : Nat} (h : i.toInt = j) : ix i = j := by unfold ix; omega
theorem un_loop (d : Nat) : ∀ {g i : Int32}, C_X10_isUnlike X → St10 h m → inb g 4 → 0 ≤ i.toInt → i.toInt ≤ g.toInt → g.toInt - i.toInt = d → (∀ j, j < ix i → gi h (m + 7) j ≠ gi h (m + 7) (ix g)) → Q (some (.int (mUn h m g))) h → Wj X k n Q 2 [(0, .ref m), (1, .int g), (2, .int i)] [] h := by
  induction d with
  | zero =>
    intro g i C F hg hi hig hd hall hq
    refine V_X10_isUnlike_2 C ⟨fun _ => ?_, fun h1 => ?_⟩
    · have e : ix i = ix g := by unfold ix; omega
      rw [e] at hall
      unfold mUn at hq
      rw [if_pos hall] at hq; exact hq
    · rw [i32_le] at h1; omega
  | succ d ih =>
    intro g i C F hg hi hig hd hall hq
    have hg2 := hg
    unfold inb at hg2
    have hi1 : (i + Int32.ofInt 1).toInt = i.toInt + 1 := by rw [iadd_t] <;> rw [ii_1] <;> omega
    refine V_X10_isUnlike_2 C ⟨fun h1 => ?_, fun h1 => ⟨F, ⟨hi, by omega⟩, hg, fun h2 => ?_, fun h2 => ?_⟩⟩
    · rw [i32_le] at h1; omega
    · refine ih C F hg (by omega) (by omega) (by omega) (fun j hj => ?_) hq
      by_cases hji : j = ix i
      · rw [hji]; exact h2
      · exact hall j (by unfold ix at *; omega)
    · unfold mUn at hq
      rw [if_neg (fun hh => hh (ix i) (by unfold ix; omega) h2)] at hq; exact hq
theorem sf_X10_isUnlike {l : Launch} {D : Dt} {g : Int32} (F : St10 h m) (hg : inb g 4) : S_X10_isUnlike l D 0 0 [.ref m, .int g] h (PF (.int (mUn h m g)) h) := Sp.of rfl (Nat.le_of_ble_eq_true rfl) (fun X C _ _ _ _ => V_X10_isUnlike_0 C (by
  unfold inb at hg
  exact un_loop (g.toInt.toNat) C F hg (by rw [i0_t]; omega) (by rw [i0_t]; omega) (by rw [i0_t]; omega) (fun j hj => by unfold ix at hj; rw [i0_t] at hj; simp at hj) ⟨rfl, rfl⟩))
end Unl
