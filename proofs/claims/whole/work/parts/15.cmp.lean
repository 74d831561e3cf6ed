-- fractions compared by whole parts, then turned about: class (compareFractions) and reference (isBelow)
theorem divmod {a b : Int} (hb : 0 < b) : a = a % b + b * (a / b) ∧ 0 ≤ a % b ∧ a % b < b := ⟨(Int.emod_add_mul_ediv a b).symm, Int.emod_nonneg a (Int.ne_of_gt hb), Int.emod_lt_of_pos a hb⟩
/-- whole parts that differ decide -/
theorem q_lt {a b c d : Int} (hb : 0 < b) (hd : 0 < d) (h : a / b < c / d) : a * d < c * b := by
  obtain ⟨h1, h2, h3⟩ := divmod (a := a) hb
  obtain ⟨g1, g2, g3⟩ := divmod (a := c) hd
  have e1 : a < b * (a / b + 1) := by rw [Int.mul_add]; omega
  have e2 : b * (a / b + 1) ≤ b * (c / d) := Int.mul_le_mul_of_nonneg_left (by omega) (by omega)
  have e3 : a * d < (b * (c / d)) * d := Int.mul_lt_mul_of_pos_right (by omega) hd
  have e4 : (d * (c / d)) * b ≤ c * b := Int.mul_le_mul_of_nonneg_right (by omega) (by omega)
  have e5 : (b * (c / d)) * d = (d * (c / d)) * b := by rw [Int.mul_comm b, Int.mul_assoc, Int.mul_comm d, Int.mul_assoc, Int.mul_comm b d]
  omega
/-- whole parts alike: the rests decide -/
theorem q_eq {a b c d : Int} (hb : 0 < b) (hd : 0 < d) (h : a / b = c / d) : a * d - c * b = (a % b) * d - (c % d) * b := by
  obtain ⟨h1, -, -⟩ := divmod (a := a) hb
  obtain ⟨g1, -, -⟩ := divmod (a := c) hd
  have e1 : a * d = (a % b) * d + b * (a / b) * d := by rw [← Int.add_mul, ← h1]
  have e2 : c * b = (c % d) * b + d * (c / d) * b := by rw [← Int.add_mul, ← g1]
  have e3 : b * (a / b) * d = d * (c / d) * b := by rw [h, Int.mul_comm b, Int.mul_assoc, Int.mul_comm d, Int.mul_assoc, Int.mul_comm b d]
  omega
theorem cmpF_of {a b c d x y : Int} (h : a * d - c * b = x - y) : cmpF a b c d = if x < y then -1 else if x = y then 0 else 1 := by
  unfold cmpF
  have h1 : a * d < c * b ↔ x < y := by omega
  have h2 : a * d = c * b ↔ x = y := by omega
  simp only [h1, h2]
theorem cmpL_c (a b : Int64) : cmpL a b = if a.toInt < b.toInt then -1 else if a.toInt = b.toInt then 0 else 1 := by
  unfold cmpL
  simp only [i64_lt, i64_eq]
theorem m1_ne : ¬ (-1 : Int32) = 0 := by decide
theorem p1_ne : ¬ (1 : Int32) = 0 := by decide
section Cmp
variable {X : Ctx} {k n : Nat} {Q : Pq} {h : Hp}
theorem cf_end (C : C_X9_compareFractions X) {w : Int32} {r s : Int64} (hq : Q (some (.int (if w = 0 then cmpL r s else w))) h) : Wj X k n Q 87 [(17, .int w), (18, .long r), (20, .long s)] [] h := by
  refine V_X9_compareFractions_87 C ⟨fun h1 => ?_, fun h1 => ?_⟩
  · rw [if_pos h1] at hq
    exact sf_J13_compare_74951.mono (fun v h' hp => by obtain ⟨rfl, rfl⟩ := hp; exact ⟨_, rfl, hq⟩)
  · rw [if_neg h1] at hq; exact hq
theorem cf_one (C : C_X9_compareFractions X) {a b c d : Int64} {i : Int32} (ha : 0 ≤ a.toInt) (hb : 0 < b.toInt) (hc : 0 ≤ c.toInt) (hd : 0 < d.toInt) (hi : i.toInt < 200) (hq : Q (some (.int (cmpF a.toInt b.toInt c.toInt d.toInt))) h)
    (hnext : a.toInt / b.toInt = c.toInt / d.toInt → ¬ (a % b).toInt = 0 → ¬ (c % d).toInt = 0 → Wj X k n Q 17 [(8, .long d), (10, .long (c % d)), (12, .long b), (14, .long (a % b)), (16, .int (i + Int32.ofInt 1))] [] h) :
    Wj X k n Q 17 [(8, .long a), (10, .long b), (12, .long c), (14, .long d), (16, .int i)] [] h := by
  have hb0 : ¬ b = 0 := by rw [i64_eq, l0_t]; omega
  have hd0 : ¬ d = 0 := by rw [i64_eq, l0_t]; omega
  have e1 := ldiv_p (x := a) (y := b) ha (by omega)
  have e2 := ldiv_p (x := c) (y := d) hc (by omega)
  have e3 := lrem_p (x := a) (y := b) ha
  have e4 := lrem_p (x := c) (y := d) hc
  have q1 : a.toInt / b.toInt = c.toInt / d.toInt → (a % b).toInt * d.toInt - (c % d).toInt * b.toInt = a.toInt * d.toInt - c.toInt * b.toInt := fun e => by rw [e3, e4]; exact (q_eq hb hd e).symm
  refine V_X9_compareFractions_17 C ⟨fun h1 => ?_, fun h1 => ⟨fun h2 => ?_, fun h2 => ⟨fun h3 => ?_, fun h3 => ⟨hb0, hd0, ?_⟩⟩⟩⟩
  · rw [i32_le] at h1
    have : (200 : Int32).toInt = 200 := rfl
    omega
  · rw [i64_le, l0_t] at h2; omega
  · rw [i64_le, l0_t] at h3; omega
  refine sf_J13_compare_74951.mono (fun v h' hp => ?_)
  obtain ⟨rfl, rfl⟩ := hp
  refine ⟨_, rfl, hb0, hd0, fun h4 => ?_, fun h4 => ⟨fun h5 => ?_, fun h5 => ⟨fun h6 => ?_, fun h6 => ?_⟩⟩⟩
  · refine cf_end C ?_
    rw [if_neg h4]
    have ee : cmpL (a / b) (c / d) = cmpF a.toInt b.toInt c.toInt d.toInt := by
      rw [cmpL_c, e1, e2] at h4 ⊢
      rcases Int.lt_trichotomy (a.toInt / b.toInt) (c.toInt / d.toInt) with hl | hl | hl
      · have := q_lt hb hd hl
        unfold cmpF
        rw [if_pos hl, if_pos this]
      · rw [if_neg (by omega), if_pos hl] at h4
        exact absurd rfl h4
      · have := q_lt hd hb hl
        unfold cmpF
        rw [if_neg (by omega), if_neg (by omega), if_neg (by omega), if_neg (by omega)]
    rw [ee]; exact hq
  · have hqe : a.toInt / b.toInt = c.toInt / d.toInt := by
      rw [cmpL_c, e1, e2] at h4
      rcases Int.lt_trichotomy (a.toInt / b.toInt) (c.toInt / d.toInt) with hl | hl | hl
      · rw [if_pos hl] at h4; exact absurd h4 m1_ne
      · exact hl
      · rw [if_neg (by omega), if_neg (by omega)] at h4; exact absurd h4 p1_ne
    rw [i64_eq, l0_t] at h5
    refine cf_end C ?_
    rw [if_pos h4]
    have ee : cmpL (a % b) (c % d) = cmpF a.toInt b.toInt c.toInt d.toInt := by
      have := q1 hqe
      have hn := (divmod (a := c.toInt) hd).2.1
      rw [h5, Int.zero_mul] at this
      rw [cmpL_c, cmpF_of this.symm, h5]
      rw [← e4] at hn
      by_cases hz : (c % d).toInt = 0
      · rw [hz]; simp
      · have : 0 < (c % d).toInt * b.toInt := Int.mul_pos (by omega) hb
        rw [if_pos (by omega), if_pos (by omega)]
    rw [ee]; exact hq
  · have hqe : a.toInt / b.toInt = c.toInt / d.toInt := by
      rw [cmpL_c, e1, e2] at h4
      rcases Int.lt_trichotomy (a.toInt / b.toInt) (c.toInt / d.toInt) with hl | hl | hl
      · rw [if_pos hl] at h4; exact absurd h4 m1_ne
      · exact hl
      · rw [if_neg (by omega), if_neg (by omega)] at h4; exact absurd h4 p1_ne
    rw [i64_eq, l0_t] at h5 h6
    exact hnext hqe h5 h6
  · have hqe : a.toInt / b.toInt = c.toInt / d.toInt := by
      rw [cmpL_c, e1, e2] at h4
      rcases Int.lt_trichotomy (a.toInt / b.toInt) (c.toInt / d.toInt) with hl | hl | hl
      · rw [if_pos hl] at h4; exact absurd h4 m1_ne
      · exact hl
      · rw [if_neg (by omega), if_neg (by omega)] at h4; exact absurd h4 p1_ne
    rw [i64_eq, l0_t] at h5 h6
    refine cf_end C ?_
    rw [if_pos h4]
    have ee : cmpL (a % b) (c % d) = cmpF a.toInt b.toInt c.toInt d.toInt := by
      have := q1 hqe
      have hn := (divmod (a := a.toInt) hb).2.1
      rw [h6, Int.zero_mul] at this
      rw [← e3] at hn
      have h7 : 0 < (a % b).toInt * d.toInt := Int.mul_pos (by omega) hd
      rw [cmpL_c, cmpF_of this.symm, h6]
      rw [if_neg (by omega), if_neg (by omega), if_neg (by omega), if_neg (by omega)]
    rw [ee]; exact hq
theorem cmpF_turn {a b c d : Int} (hb : 0 < b) (hd : 0 < d) (h : a / b = c / d) : cmpF d (c % d) b (a % b) = cmpF a b c d := by
  have e := q_eq hb hd h
  have e2 : d * (a % b) - b * (c % d) = a * d - c * b := by rw [e, Int.mul_comm d, Int.mul_comm b]
  rw [cmpF_of e2]; unfold cmpF; rfl
theorem cf_loop (m : Nat) : ∀ {a b c d : Int64} {i : Int32}, C_X9_compareFractions X → 0 ≤ a.toInt → 0 < b.toInt → 0 ≤ c.toInt → 0 < d.toInt → b.toInt < 2 ^ m → 0 ≤ i.toInt → i.toInt + 2 * m ≤ 200 → Q (some (.int (cmpF a.toInt b.toInt c.toInt d.toInt))) h → Wj X k n Q 17 [(8, .long a), (10, .long b), (12, .long c), (14, .long d), (16, .int i)] [] h := by
  induction m with
  | zero => intro a b c d i C ha hb hc hd hm; simp at hm; omega
  | succ m ih =>
    intro a b c d i C ha hb hc hd hm hi him hq
    have hbi := b32 i
    have hi1 : (i + Int32.ofInt 1).toInt = i.toInt + 1 := by rw [iadd_t] <;> rw [ii_1] <;> omega
    refine cf_one C ha hb hc hd (by omega) hq (fun e1 r1 r2 => ?_)
    have e3 := lrem_p (x := a) (y := b) ha
    have e4 := lrem_p (x := c) (y := d) hc
    obtain ⟨-, n1, n2⟩ := divmod (a := a.toInt) hb
    obtain ⟨-, n3, n4⟩ := divmod (a := c.toInt) hd
    rw [← e3] at n1 n2
    rw [← e4] at n3 n4
    have hq2 : Q (some (.int (cmpF d.toInt (c % d).toInt b.toInt (a % b).toInt))) h := by rw [e3, e4, cmpF_turn hb hd e1]; exact hq
    refine cf_one C (by omega) (by omega) (by omega) (by omega) (by omega) hq2 (fun e2 r3 r4 => ?_)
    have e5 := lrem_p (x := d) (y := c % d) (by omega)
    have e6 := lrem_p (x := b) (y := a % b) (by omega)
    obtain ⟨-, n5, n6⟩ := divmod (a := d.toInt) (b := (c % d).toInt) (by omega)
    obtain ⟨-, n7, n8⟩ := divmod (a := b.toInt) (b := (a % b).toInt) (by omega)
    have n9 := half_mod (y := b.toInt) (r := (a % b).toInt) (by omega) n2
    rw [← e5] at n5 n6
    rw [← e6] at n7 n8 n9
    have hi2 : (i + Int32.ofInt 1 + Int32.ofInt 1).toInt = i.toInt + 2 := by rw [iadd_t] <;> rw [hi1, ii_1] <;> omega
    refine ih C (by omega) (by omega) (by omega) (by omega) ?_ (by omega) (by omega) ?_
    · rw [Int.pow_succ] at hm; omega
    · rw [e5, e6, cmpF_turn (by omega) (by omega) e2]; exact hq2
/-- whether a by b is less than c by d -/
def blw (a b c d : Int) : Int32 := if a * d < c * b then 1 else 0
theorem ib_end (C : C_X10_isBelow X) {w : Int32} {r s : Int64} {z : Int32} (hw : w = 0 ∨ w = 1) (hq : Q (some (.int z)) h) (hz : z = if r = 0 then (if s = 0 then 0 else w) else (if w = 0 then 1 else 0)) : Wj X k n Q 91 [(8, .long r), (12, .long s), (16, .int w)] [] h := by
  refine V_X10_isBelow_91 C ⟨fun h1 => V_X10_isBelow_109 C ⟨fun h2 => ⟨fun h3 => ?_, fun h3 => ?_⟩, fun h2 => absurd h2 h1⟩, fun h1 => ⟨fun h2 => V_X10_isBelow_109 C ⟨fun h3 => absurd h1 h3, fun _ => ⟨fun h4 => ?_, fun h4 => ?_⟩⟩, fun h2 => ?_⟩⟩
  · rw [if_neg h1, if_neg h3] at hz; rw [hz] at hq; exact hq
  · rw [if_neg h1, if_pos h3] at hz; rw [hz] at hq; exact hq
  · rw [if_pos h1, if_neg h2] at hz
    rcases hw with rfl | rfl
    · rw [hz] at hq; exact hq
    · exact absurd rfl h4
  · rw [if_pos h1, if_neg h2] at hz
    rw [hz, h4] at hq; exact hq
  · rw [if_pos h1, if_pos h2] at hz; rw [hz] at hq; exact hq
theorem blw_of {a b c d x y : Int} (h : a * d - c * b = x - y) : blw a b c d = if x < y then 1 else 0 := by
  unfold blw
  have h1 : a * d < c * b ↔ x < y := by omega
  simp only [h1]
theorem ib_loop (m : Nat) : ∀ {a b c d : Int64} {w : Int32}, C_X10_isBelow X → 0 ≤ a.toInt → 0 < b.toInt → 0 ≤ c.toInt → 0 < d.toInt → b.toInt < m → (w = 0 ∨ w = 1) → Q (some (.int (if w = 1 then blw a.toInt b.toInt c.toInt d.toInt else blw c.toInt d.toInt a.toInt b.toInt))) h → Wj X k n Q 17 [(8, .long a), (10, .long b), (12, .long c), (14, .long d), (16, .int w)] [] h := by
  induction m with
  | zero => intro a b c d w C ha hb hc hd hm; omega
  | succ m ih =>
    intro a b c d w C ha hb hc hd hm hw hq
    have hb0 : ¬ b = 0 := by rw [i64_eq, l0_t]; omega
    have hd0 : ¬ d = 0 := by rw [i64_eq, l0_t]; omega
    have e1 := ldiv_p (x := a) (y := b) ha (by omega)
    have e2 := ldiv_p (x := c) (y := d) hc (by omega)
    have e3 := lrem_p (x := a) (y := b) ha
    have e4 := lrem_p (x := c) (y := d) hc
    obtain ⟨-, n1, n2⟩ := divmod (a := a.toInt) hb
    obtain ⟨-, n3, n4⟩ := divmod (a := c.toInt) hd
    rw [← e3] at n1 n2
    rw [← e4] at n3 n4
    have endq : a.toInt / b.toInt = c.toInt / d.toInt → ((a % b).toInt = 0 ∨ (c % d).toInt = 0) → (if w = 1 then blw a.toInt b.toInt c.toInt d.toInt else blw c.toInt d.toInt a.toInt b.toInt) = if (a % b) = 0 then (if (c % d) = 0 then 0 else w) else (if w = 0 then 1 else 0) := by
      intro e hz
      have q1 := q_eq hb hd e
      rw [← e3, ← e4] at q1
      have q2 := q_eq hd hb e.symm
      rw [← e3, ← e4] at q2
      rw [blw_of q1, blw_of q2]
      simp only [i64_eq, l0_t]
      rcases hz with hz | hz
      · rw [hz, Int.zero_mul, if_pos rfl]
        by_cases hz2 : (c % d).toInt = 0
        · rw [hz2]; simp
        · have hp : 0 < (c % d).toInt * b.toInt := Int.mul_pos (by omega) hb
          have hn : ¬ (c % d).toInt * b.toInt < 0 := by omega
          rw [if_pos hp, if_neg hn, if_neg hz2]
          rcases hw with rfl | rfl <;> decide
      · rw [hz, Int.zero_mul]
        by_cases hz2 : (a % b).toInt = 0
        · rw [hz2]; simp
        · have hp : 0 < (a % b).toInt * d.toInt := Int.mul_pos (by omega) hd
          have hn : ¬ (a % b).toInt * d.toInt < 0 := by omega
          rw [if_pos hp, if_neg hn, if_neg hz2]
          rcases hw with rfl | rfl <;> decide
    have turn : a.toInt / b.toInt = c.toInt / d.toInt → blw b.toInt (a % b).toInt d.toInt (c % d).toInt = blw c.toInt d.toInt a.toInt b.toInt ∧ blw d.toInt (c % d).toInt b.toInt (a % b).toInt = blw a.toInt b.toInt c.toInt d.toInt := by
      intro e
      have q1 := q_eq hb hd e
      rw [← e3, ← e4] at q1
      have q2 := q_eq hd hb e.symm
      rw [← e3, ← e4] at q2
      rw [blw_of q1, blw_of q2]
      unfold blw
      rw [Int.mul_comm b.toInt, Int.mul_comm d.toInt]
      exact ⟨rfl, rfl⟩
    refine V_X10_isBelow_17 C ⟨hb0, hd0, fun h1 => ⟨fun h2 => ?_, fun h2 => ⟨fun h3 => ⟨fun h4 => ?_, fun h4 => ?_⟩, fun h3 => ?_⟩⟩, fun h1 => ⟨fun h2 => ⟨fun h3 => ?_, fun h3 => ?_⟩, fun h2 => ⟨fun h3 => ?_, fun h3 => ?_⟩⟩⟩
    all_goals rw [i64_eq, e1, e2] at h1
    · rw [i64_eq, l0_t] at h2
      exact ib_end C hw hq (endq h1 (Or.inl h2))
    · rw [i64_eq, l0_t] at h2 h3
      have hw1 : w = 1 := hw.resolve_left h4
      rw [if_pos hw1, ← (turn h1).2] at hq
      exact ih C (by omega) (by omega) (by omega) (by omega) (by omega) (Or.inl rfl) (by rw [if_neg (by decide)]; exact hq)
    · rw [i64_eq, l0_t] at h2 h3
      rw [if_neg (by rw [h4]; decide), ← (turn h1).1] at hq
      exact ih C (by omega) (by omega) (by omega) (by omega) (by omega) (Or.inr rfl) (by rw [if_pos rfl]; exact hq)
    · rw [i64_eq, l0_t] at h3
      exact ib_end C hw hq (endq h1 (Or.inr h3))
    all_goals rw [i64_le, e1, e2] at h2
    · have hw1 : w = 1 := hw.resolve_left h3
      have := q_lt (a := c.toInt) (c := a.toInt) hd hb (by omega)
      rw [if_pos hw1] at hq
      unfold blw at hq
      rw [if_neg (by omega)] at hq; exact hq
    · have := q_lt (a := c.toInt) (c := a.toInt) hd hb (by omega)
      rw [if_neg (by rw [h3]; decide)] at hq
      unfold blw at hq
      rw [if_pos this] at hq; exact hq
    · have := q_lt (a := a.toInt) (c := c.toInt) hb hd (by omega)
      rw [if_neg h3] at hq
      unfold blw at hq
      rw [if_neg (by omega)] at hq; exact hq
    · have := q_lt (a := a.toInt) (c := c.toInt) hb hd (by omega)
      rw [if_pos h3] at hq
      unfold blw at hq
      rw [if_pos this] at hq; exact hq
end Cmp
section Cmp2
variable {l : Launch} {D : Dt} {h : Hp}
theorem sf_X9_compareFractions {a b c d : Int64} (ha : 0 ≤ a.toInt) (hb : 0 < b.toInt) (hc : 0 ≤ c.toInt) (hd : 0 < d.toInt) : S_X9_compareFractions l D 0 0 [.long a, .long b, .long c, .long d] h (PF (.int (cmpF a.toInt b.toInt c.toInt d.toInt)) h) := Sp.of rfl (Nat.le_of_ble_eq_true rfl) (fun X C _ _ _ _ => V_X9_compareFractions_0 C (by
  have hbb := b64 b
  exact cf_loop 63 C ha hb hc hd (by omega) (by decide) (by decide) ⟨rfl, rfl⟩))
theorem sf_X10_isBelow {a b c d : Int64} (ha : 0 ≤ a.toInt) (hb : 0 < b.toInt) (hc : 0 ≤ c.toInt) (hd : 0 < d.toInt) : S_X10_isBelow l D 0 0 [.long a, .long b, .long c, .long d] h (PF (.int (blw a.toInt b.toInt c.toInt d.toInt)) h) := Sp.of rfl (Nat.le_of_ble_eq_true rfl) (fun X C _ _ _ _ => V_X10_isBelow_0 C (by
  exact ib_loop (b.toInt.toNat + 1) C ha hb hc hd (by omega) (Or.inr rfl) (by rw [if_pos rfl]; exact ⟨rfl, rfl⟩)))
end Cmp2
