-- the nearest fraction of a small lower number
def farN (p q : Int) (c : Int × Int) : Int := ((p * c.2 - c.1 * q).natAbs : Int)
abbrev nrB (p q : Int) (b c : Int × Int) : Prop := farN p q c * b.2 < farN p q b * c.2 ∨ (farN p q c * b.2 = farN p q b * c.2 ∧ c.1 * b.2 < b.1 * c.2)
def nrS (p q : Int) (b c : Int × Int) : Int × Int := if nrB p q b c then c else b
def nrL (p q : Int) (b : Int × Int) (l : Int) : Int × Int := nrS p q (nrS p q b (p * l / q, l)) (p * l / q + 1, l)
def nrI (p q : Int) : Nat → Int × Int
  | 0 => (0, 1)
  | l + 1 => nrL p q (nrI p q l) (l + 1)
def nearP (s : Sv) (p q m : Int) : Int × Sv := if (1 ≤ p ∧ p ≤ 100000) ∧ (1 ≤ q ∧ q ≤ 100000) ∧ (1 ≤ m ∧ m ≤ 1000) then (if (nrI p q m.toNat).1 = 0 then 0 else ((trP (nrI p q m.toNat).1 (nrI p q m.toNat).2).length : Int), rowS s [rdU (nrI p q m.toNat).1 (nrI p q m.toNat).2, rdL (nrI p q m.toNat).1 (nrI p q m.toNat).2, rdU (farN p q (nrI p q m.toNat)) (q * (nrI p q m.toNat).2), rdL (farN p q (nrI p q m.toNat)) (q * (nrI p q m.toNat).2)]) else (-1, s)
theorem farN_nn (p q : Int) (c : Int × Int) : 0 ≤ farN p q c := by unfold farN; omega
/-- what is met can't be beaten -/
theorem nr_zero {p q : Int} (hq : 0 < q) {b c : Int × Int} (hb : 0 < b.2) (hc : 0 < c.2) (h : farN p q b = 0) : nrS p q b c = b := by
  unfold nrS
  rw [if_neg]
  rintro (z | ⟨z1, z2⟩)
  · rw [h, Int.zero_mul] at z
    have := Int.mul_nonneg (farN_nn p q c) (Int.le_of_lt hb); omega
  · rw [h, Int.zero_mul] at z1
    have hc0 : farN p q c = 0 := by
      rcases Int.mul_eq_zero.mp z1 with y | y
      · exact y
      · omega
    unfold farN at h hc0
    have e1 : p * b.2 = b.1 * q := by omega
    have e2 : p * c.2 = c.1 * q := by omega
    have e3 : c.1 * b.2 * q = b.1 * c.2 * q := by
      have a1 : c.1 * b.2 * q = (c.1 * q) * b.2 := by rw [Int.mul_assoc, Int.mul_comm b.2, ← Int.mul_assoc]
      have a2 : b.1 * c.2 * q = (b.1 * q) * c.2 := by rw [Int.mul_assoc, Int.mul_comm c.2, ← Int.mul_assoc]
      rw [a1, a2, ← e1, ← e2, Int.mul_assoc, Int.mul_comm c.2, ← Int.mul_assoc]
    have := Int.eq_of_mul_eq_mul_right (by omega) e3
    omega
theorem nrL_zero {p q : Int} (hq : 0 < q) {b : Int × Int} {l : Int} (hb : 0 < b.2) (hl : 0 < l) (h : farN p q b = 0) : nrL p q b l = b := by
  unfold nrL
  rw [nr_zero hq hb hl h, nr_zero hq hb hl h]
theorem nrS_of {p q : Int} {b c : Int × Int} : nrS p q b c = b ∨ nrS p q b c = c := by
  unfold nrS
  split
  · exact Or.inr rfl
  · exact Or.inl rfl
/-- bounds -/
theorem nrI_b {p q : Int} (hp : 1 ≤ p) (hp2 : p ≤ 100000) (hq : 1 ≤ q) (l : Nat) (hl : l ≤ 1000) : 0 ≤ (nrI p q l).1 ∧ (nrI p q l).1 ≤ 100000001 ∧ 1 ≤ (nrI p q l).2 ∧ (nrI p q l).2 ≤ 1000 ∧ (nrI p q l).2 ≤ max 1 (l : Int) := by
  induction l with
  | zero => unfold nrI; exact ⟨by decide, by decide, by decide, by decide, by decide⟩
  | succ l ih =>
    have i := ih (by omega)
    have f0 : 0 ≤ p * ((l : Int) + 1) / q := Int.ediv_nonneg (Int.mul_nonneg (by omega) (by omega)) (by omega)
    have f1 : p * ((l : Int) + 1) / q ≤ 100000000 := by
      have b := mul_bd (a := p) (b := (l : Int) + 1) (M := 100000) (K := 1000) (by omega) hp2 (by omega) (by omega)
      have := Int.ediv_le_self q (a := p * ((l : Int) + 1)) b.1
      omega
    unfold nrI nrL
    rcases nrS_of (p := p) (q := q) (b := nrS p q (nrI p q l) (p * ((l : Int) + 1) / q, (l : Int) + 1)) (c := (p * ((l : Int) + 1) / q + 1, (l : Int) + 1)) with e | e
    · rw [e]
      rcases nrS_of (p := p) (q := q) (b := nrI p q l) (c := (p * ((l : Int) + 1) / q, (l : Int) + 1)) with e2 | e2
      · rw [e2]; omega
      · rw [e2]; dsimp only; omega
    · rw [e]; dsimp only; omega
/-- Euclid's quotients, all together -/
def qsm : Nat → Int → Int → Int
  | 0, _, _ => 0
  | f + 1, a, b => if b = 0 then 0 else a / b + qsm f b (a % b)
theorem trP_sym {a b : Int} (ha : 0 < a) (hb : 0 < b) : (trP a b).length = (trP b a).length := by
  have key : ∀ (n : Nat) (a b : Int), 0 < a → 0 < b → a + b ≤ n → (trP a b).length = (trP b a).length := by
    intro n
    induction n with
    | zero => intro a b h1 h2 h3; omega
    | succ n ih =>
      intro a b h1 h2 h3
      rw [trP_eq h1 h2, trP_eq h2 h1]
      by_cases e : a = b
      · rw [if_pos e, if_pos (show b = a from e.symm)]
      · rw [if_neg e, if_neg (show ¬ b = a from fun z => e z.symm)]
        by_cases q : b < a
        · rw [if_pos q, if_neg (by omega), List.length_cons, List.length_cons, ih (a - b) b (by omega) h2 (by omega)]
        · rw [if_neg q, if_pos (by omega), List.length_cons, List.length_cons, ih a (b - a) h1 (by omega) (by omega)]
  exact key (a + b).toNat a b ha hb (by omega)
/-- a run of steps to one side -/
theorem trP_run {b : Int} (hb : 0 < b) (k : Nat) : ∀ r : Int, 0 < r → r < b → ((trP (r + k * b) b).length : Int) = k + (trP r b).length := by
  induction k with
  | zero => intro r h1 h2; simp
  | succ k ih =>
    intro r h1 h2
    have kb : 0 ≤ (k : Int) * b := Int.mul_nonneg (by omega) (by omega)
    have e : r + ((k + 1 : Nat) : Int) * b = (r + k * b) + b := by rw [show ((k + 1 : Nat) : Int) = (k : Int) + 1 from rfl, Int.add_mul]; omega
    rw [e, trP_eq (by omega) hb, if_neg (by omega), if_pos (by omega), List.length_cons]
    have e2 : r + k * b + b - b = r + k * b := by omega
    have := ih r h1 h2
    rw [e2]
    omega
theorem trP_mul {b : Int} (hb : 0 < b) (k : Nat) : ((trP (b + k * b) b).length : Int) = k := by
  induction k with
  | zero =>
    rw [trP_eq (by simp; omega) hb, if_pos (by simp)]; rfl
  | succ k ih =>
    have kb : 0 ≤ (k : Int) * b := Int.mul_nonneg (by omega) (by omega)
    have e : b + ((k + 1 : Nat) : Int) * b = (b + k * b) + b := by rw [show ((k + 1 : Nat) : Int) = (k : Int) + 1 from rfl, Int.add_mul]; omega
    rw [e, trP_eq (by omega) hb, if_neg (by omega), if_pos (by omega), List.length_cons]
    have e2 : b + k * b + b - b = b + k * b := by omega
    rw [e2]
    omega
theorem qsm_tr (f : Nat) : ∀ a b : Int, 0 < a → 0 < b → b ≤ f → qsm (f + 1) a b = (trP a b).length + 1 := by
  induction f with
  | zero => intro a b h1 h2 h3; omega
  | succ f ih =>
    intro a b h1 h2 h3
    obtain ⟨d1, d2, d3⟩ := divmod (a := a) h2
    have d4 : 0 ≤ a / b := Int.ediv_nonneg (by omega) (by omega)
    unfold qsm
    rw [if_neg (by omega)]
    have ek : ((a / b).toNat : Int) = a / b := Int.toNat_of_nonneg d4
    by_cases r : a % b = 0
    · have q0 : qsm (f + 1) b (a % b) = 0 := by rw [r]; unfold qsm; rw [if_pos rfl]
      rw [q0]
      have p1 : 1 ≤ a / b := by
        rcases Int.lt_or_le 0 (a / b) with z | z
        · omega
        · have : a / b = 0 := by omega
          rw [this, r] at d1; omega
      have e : a = b + ((a / b - 1).toNat : Int) * b := by
        rw [Int.toNat_of_nonneg (by omega), Int.sub_mul, Int.mul_comm (a / b)]; omega
      have := trP_mul h2 (a / b - 1).toNat
      rw [← e, Int.toNat_of_nonneg (by omega)] at this
      omega
    · have i := ih b (a % b) h2 (by omega) (by omega)
      rw [i]
      have e : a = a % b + ((a / b).toNat : Int) * b := by rw [ek, Int.mul_comm]; exact d1
      have t := trP_run h2 (a / b).toNat (a % b) (by omega) d3
      rw [← e, ek] at t
      have sy := trP_sym (a := a % b) (b := b) (by omega) h2
      omega
