-- compound ways: the pure value
abbrev CW : Type := Int × Int × Int × Int × Int × Int
def cwTake (S : CW) (i j a b t : Int) : CW := if 0 ≤ t ∧ (S.1 = 0 ∨ a + (b.natAbs : Int) < S.1) then (a + (b.natAbs : Int), i, j, t, a, b) else S
def cwOffer (S : CW) (i j a r k : Int) : CW := if r % k = 0 then S else cwTake (cwTake S i j a (r % k - k) (r / k + 1)) i j a (r % k) (r / k)
/-- all holes by which the parts go, of both circles -/
def cwAll (A : HV) (n : Int) (i j : Nat) : Int := A 0 0 * A 1 i * A 1 j / n
def cwC (A : HV) (n : Int) (i j : Nat) (a : Int) : Prop := (A 0 0 * A 1 i * A 1 j) % n = 0 ∧ (cwAll A n i j - a * A 1 j) % A 1 i = 0
def cwR (A : HV) (n : Int) (i j : Nat) (a : Int) : Int := (cwAll A n i j - a * A 1 j) / A 1 i
noncomputable def cwA (A : HV) (n : Int) (i j : Nat) (a : Int) (S : CW) : CW := @ite CW (cwC A n i j a) (Classical.propDecidable _) (cwOffer S i j a (cwR A n i j a) (A 1 j)) S
noncomputable def cwAs (A : HV) (n : Int) (i j : Nat) (S : CW) : Nat → CW
  | 0 => S
  | a + 1 => cwA A n i j ((a : Int) + 1) (cwAs A n i j S a)
noncomputable def cwPair (A : HV) (n : Int) (i j : Nat) (S : CW) : CW := cwAs A n i j S (A 1 i - 1).toNat
noncomputable def cwJs (A : HV) (n : Int) (i : Nat) (S : CW) : Nat → CW
  | 0 => S
  | c + 1 => if A 2 i = A 2 (i + 1 + c) then cwPair A n i (i + 1 + c) (cwJs A n i S c) else cwJs A n i S c
noncomputable def cwIs (A : HV) (n : Int) : Nat → CW
  | 0 => (0, 0, 0, 0, 0, 0)
  | i + 1 => cwJs A n i (cwIs A n i) ((A 0 3).toNat - (i + 1))
noncomputable def cwQ (A : HV) (n : Int) : CW := cwIs A n (A 0 3).toNat
noncomputable def compoundP (s : Sv) (n : Int) : Int × Sv := if 2 ≤ n ∧ n ≤ 400 then (if (cwQ (sA s) n).1 = 0 then (-2, s) else ((cwQ (sA s) n).1, rowS s [(cwQ (sA s) n).2.1, (cwQ (sA s) n).2.2.1, (cwQ (sA s) n).2.2.2.1, (cwQ (sA s) n).2.2.2.2.1, (cwQ (sA s) n).2.2.2.2.2])) else (-1, s)
theorem cwA_pos {A : HV} {n : Int} {i j : Nat} {a : Int} {S : CW} (h : cwC A n i j a) : cwA A n i j a S = cwOffer S i j a (cwR A n i j a) (A 1 j) := if_pos h
theorem cwA_neg {A : HV} {n : Int} {i j : Nat} {a : Int} {S : CW} (h : ¬ cwC A n i j a) : cwA A n i j a S = S := if_neg h
/-- what a state keeps to -/
def cwOk (A : HV) (S : CW) : Prop := 0 ≤ S.1 ∧ S.1 ≤ 138 ∧ (S.1 ≠ 0 → (∃ i j : Nat, S.2.1 = i ∧ S.2.2.1 = j ∧ (i : Int) < A 0 3 ∧ (j : Int) < A 0 3 ∧ i < j ∧ 1 ≤ S.2.2.2.2.1 ∧ S.2.2.2.2.1 < A 1 i ∧ -A 1 j < S.2.2.2.2.2 ∧ S.2.2.2.2.2 < A 1 j) ∧ S.2.2.2.2.2 ≠ 0 ∧ 0 ≤ S.2.2.2.1 ∧ S.2.2.2.1 ≤ 1000)
theorem cwTake_ok {A : HV} (V : VA A) {S : CW} (o : cwOk A S) {i j : Nat} (hi : (i : Int) < A 0 3) (hj : (j : Int) < A 0 3) (hij : i < j) {a b t : Int} (a1 : 1 ≤ a) (a2 : a < A 1 i) (b1 : -A 1 j < b) (b2 : b < A 1 j) (b0 : b ≠ 0) (t1 : t ≤ 1000) : cwOk A (cwTake S i j a b t) := by
  have vi := V.2.2.2.2.2.2.2.2.2.2.2.2.2.1 i hi
  have vj := V.2.2.2.2.2.2.2.2.2.2.2.2.2.1 j hj
  unfold cwTake
  split
  · rename_i h
    refine ⟨by dsimp only; omega, by dsimp only; omega, fun _ => ⟨⟨i, j, rfl, rfl, hi, hj, hij, a1, a2, b1, b2⟩, b0, h.1, t1⟩⟩
  · exact o
theorem cwAll_b {A : HV} (V : VA A) {n : Int} (n1 : 2 ≤ n) {i j : Nat} (hi : (i : Int) < A 0 3) (hj : (j : Int) < A 0 3) : (0 ≤ A 0 0 * A 1 i ∧ A 0 0 * A 1 i ≤ 8400) ∧ (0 ≤ A 0 0 * A 1 i * A 1 j ∧ A 0 0 * A 1 i * A 1 j ≤ 588000) ∧ 0 ≤ cwAll A n i j ∧ cwAll A n i j ≤ 588000 := by
  have vi := V.2.2.2.2.2.2.2.2.2.2.2.2.2.1 i hi
  have vj := V.2.2.2.2.2.2.2.2.2.2.2.2.2.1 j hj
  have w := V.worm
  have b1 := mul_bd (a := A 0 0) (b := A 1 i) (M := 120) (K := 70) (by omega) (by omega) (by omega) (by omega)
  have b2 := mul_bd (a := A 0 0 * A 1 i) (b := A 1 j) (M := 8400) (K := 70) (by omega) (by omega) (by omega) (by omega)
  have b3 : 0 ≤ cwAll A n i j := Int.ediv_nonneg b2.1 (by omega)
  have b4 : cwAll A n i j ≤ A 0 0 * A 1 i * A 1 j := Int.ediv_le_self _ b2.1
  exact ⟨by omega, by omega, b3, by omega⟩
theorem cwR_b {A : HV} (V : VA A) {n : Int} (n1 : 2 ≤ n) {i j : Nat} (hi : (i : Int) < A 0 3) (hj : (j : Int) < A 0 3) {a : Int} (a1 : 1 ≤ a) (a2 : a < A 1 i) : -4900 ≤ cwAll A n i j - a * A 1 j ∧ cwAll A n i j - a * A 1 j ≤ 588000 ∧ (0 ≤ a * A 1 j ∧ a * A 1 j ≤ 4900) ∧ -500 ≤ cwR A n i j a ∧ cwR A n i j a ≤ 58800 ∧ -51 ≤ cwR A n i j a / A 1 j ∧ cwR A n i j a / A 1 j ≤ 900 := by
  have vi := V.2.2.2.2.2.2.2.2.2.2.2.2.2.1 i hi
  have vj := V.2.2.2.2.2.2.2.2.2.2.2.2.2.1 j hj
  have w := V.worm
  obtain ⟨b1, b2, b3, b4⟩ := cwAll_b V n1 hi hj
  have m := mul_bd (a := a) (b := A 1 j) (M := 70) (K := 70) (by omega) (by omega) (by omega) (by omega)
  have u1 : cwAll A n i j - a * A 1 j ≤ 588000 := by omega
  have l1 : -4900 ≤ cwAll A n i j - a * A 1 j := by omega
  -- all ≤ 60 h k, so r ≤ 60 k
  have al : n * cwAll A n i j ≤ A 0 0 * A 1 i * A 1 j := Int.mul_ediv_self_le (by omega)
  have al2 : 2 * cwAll A n i j ≤ n * cwAll A n i j := Int.mul_le_mul_of_nonneg_right n1 b3
  have wk : A 0 0 * A 1 i * A 1 j ≤ 120 * (A 1 i * A 1 j) := by
    have e : A 0 0 * A 1 i * A 1 j = A 0 0 * (A 1 i * A 1 j) := Int.mul_assoc _ _ _
    rw [e]
    exact Int.mul_le_mul_of_nonneg_right (by omega) (Int.mul_nonneg (by omega) (by omega))
  have r1 : cwR A n i j a ≤ 60 * A 1 j := by
    unfold cwR
    refine Int.ediv_le_of_le_mul (by omega) ?_
    have e : 60 * A 1 j * A 1 i = 60 * (A 1 i * A 1 j) := by rw [Int.mul_assoc, Int.mul_comm (A 1 j)]
    omega
  have r0 : -490 ≤ cwR A n i j a := by
    unfold cwR
    refine Int.le_ediv_of_mul_le (by omega) ?_
    omega
  have q1 : cwR A n i j a / A 1 j ≤ 900 := Int.ediv_le_of_le_mul (by omega) (by omega)
  have q0 : -51 ≤ cwR A n i j a / A 1 j := Int.le_ediv_of_mul_le (by omega) (by omega)
  exact ⟨l1, u1, by omega, by omega, by omega, q0, q1⟩
theorem cwOffer_ok {A : HV} (V : VA A) {n : Int} (n1 : 2 ≤ n) {S : CW} (o : cwOk A S) {i j : Nat} (hi : (i : Int) < A 0 3) (hj : (j : Int) < A 0 3) (hij : i < j) {a : Int} (a1 : 1 ≤ a) (a2 : a < A 1 i) : cwOk A (cwOffer S i j a (cwR A n i j a) (A 1 j)) := by
  have vj := V.2.2.2.2.2.2.2.2.2.2.2.2.2.1 j hj
  obtain ⟨-, -, -, -, -, q0, q1⟩ := cwR_b V n1 hi hj a1 a2
  have m0 := Int.emod_nonneg (cwR A n i j a) (b := A 1 j) (by omega)
  have m1 := Int.emod_lt_of_pos (cwR A n i j a) (b := A 1 j) (by omega)
  unfold cwOffer
  split
  · exact o
  · exact cwTake_ok V (cwTake_ok V o hi hj hij a1 a2 (by omega) (by omega) (by omega) (by omega)) hi hj hij a1 a2 (by omega) (by omega) (by omega) (by omega)
theorem cwA_ok {A : HV} (V : VA A) {n : Int} (n1 : 2 ≤ n) {S : CW} (o : cwOk A S) {i j : Nat} (hi : (i : Int) < A 0 3) (hj : (j : Int) < A 0 3) (hij : i < j) {a : Int} (a1 : 1 ≤ a) (a2 : a < A 1 i) : cwOk A (cwA A n i j a S) := by
  by_cases h : cwC A n i j a
  · rw [cwA_pos h]; exact cwOffer_ok V n1 o hi hj hij a1 a2
  · rw [cwA_neg h]; exact o
theorem cwAs_ok {A : HV} (V : VA A) {n : Int} (n1 : 2 ≤ n) {S : CW} (o : cwOk A S) {i j : Nat} (hi : (i : Int) < A 0 3) (hj : (j : Int) < A 0 3) (hij : i < j) (c : Nat) (hc : (c : Int) < A 1 i) : cwOk A (cwAs A n i j S c) := by
  induction c with
  | zero => exact o
  | succ c ih => exact cwA_ok V n1 (ih (by omega)) hi hj hij (by omega) (by omega)
theorem cwPair_ok {A : HV} (V : VA A) {n : Int} (n1 : 2 ≤ n) {S : CW} (o : cwOk A S) {i j : Nat} (hi : (i : Int) < A 0 3) (hj : (j : Int) < A 0 3) (hij : i < j) : cwOk A (cwPair A n i j S) := by
  have vi := V.2.2.2.2.2.2.2.2.2.2.2.2.2.1 i hi
  exact cwAs_ok V n1 o hi hj hij _ (by omega)
theorem cwJs_ok {A : HV} (V : VA A) {n : Int} (n1 : 2 ≤ n) {S : CW} (o : cwOk A S) {i : Nat} (c : Nat) (hc : (i : Int) + 1 + c ≤ A 0 3) : cwOk A (cwJs A n i S c) := by
  induction c with
  | zero => exact o
  | succ c ih =>
    have o' := ih (by omega)
    show cwOk A (if A 2 i = A 2 (i + 1 + c) then cwPair A n i (i + 1 + c) (cwJs A n i S c) else cwJs A n i S c)
    split
    · exact cwPair_ok V n1 o' (by omega) (by omega) (by omega)
    · exact o'
theorem cwIs_ok {A : HV} (V : VA A) {n : Int} (n1 : 2 ≤ n) (i : Nat) (hi : (i : Int) ≤ A 0 3) : cwOk A (cwIs A n i) := by
  induction i with
  | zero => exact ⟨Int.le_refl _, by show (0 : Int) ≤ 138; decide, fun z => absurd rfl z⟩
  | succ i ih => exact cwJs_ok V n1 (ih (by omega)) _ (by omega)
theorem cwQ_ok {A : HV} (V : VA A) {n : Int} (n1 : 2 ≤ n) : cwOk A (cwQ A n) := cwIs_ok V n1 _ (by have := V.2.2.2.1; omega)
/-- as great as the sum: no better -/
theorem cwTake_big {S : CW} {i j a b t : Int} (h0 : S.1 ≠ 0) (h : S.1 ≤ a) : cwTake S i j a b t = S := by
  unfold cwTake
  exact if_neg (by omega)
theorem cwA_big {A : HV} {n : Int} {i j : Nat} {a : Int} {S : CW} (h0 : S.1 ≠ 0) (h : S.1 ≤ a) : cwA A n i j a S = S := by
  by_cases c : cwC A n i j a
  · rw [cwA_pos c]
    unfold cwOffer
    split
    · rfl
    · rw [cwTake_big h0 h, cwTake_big h0 h]
  · exact cwA_neg c
theorem cwAs_big {A : HV} {n : Int} {i j : Nat} {S : CW} {c : Nat} (h0 : (cwAs A n i j S c).1 ≠ 0) (h : (cwAs A n i j S c).1 ≤ (c : Int) + 1) (d : Nat) : cwAs A n i j S (c + d) = cwAs A n i j S c := by
  induction d with
  | zero => rfl
  | succ d ih =>
    show cwA A n i j ((c + d : Nat) + 1 : Int) (cwAs A n i j S (c + d)) = _
    rw [ih]
    exact cwA_big h0 (by omega)
theorem cwAs_no {A : HV} {n : Int} {i j : Nat} {S : CW} (h : ¬ (A 0 0 * A 1 i * A 1 j) % n = 0) (c : Nat) : cwAs A n i j S c = S := by
  induction c with
  | zero => rfl
  | succ c ih =>
    show cwA A n i j ((c : Int) + 1) (cwAs A n i j S c) = S
    rw [ih]
    exact cwA_neg (fun z => h z.1)
theorem plate_le {A : HV} (V : VA A) {i : Nat} (d : Nat) (h : (i : Int) + d < A 0 3) : A 2 i ≤ A 2 (i + d) := by
  induction d with
  | zero => exact Int.le_refl _
  | succ d ih =>
    have := ih (by omega)
    have v := V.2.2.2.2.2.2.2.2.2.2.2.2.2.2.1 (i + d) (by omega)
    have e : i + (d + 1) = i + d + 1 := by omega
    rw [e]; omega
theorem cwJs_no {A : HV} (V : VA A) {n : Int} {i : Nat} {S : CW} {c : Nat} (hc : (i : Int) + 1 + c < A 0 3) (h : ¬ A 2 i = A 2 (i + 1 + c)) (d : Nat) (hd : (i : Int) + 1 + c + d ≤ A 0 3) : cwJs A n i S (c + d) = cwJs A n i S c := by
  induction d with
  | zero => rfl
  | succ d ih =>
    show (if A 2 i = A 2 (i + 1 + (c + d)) then cwPair A n i (i + 1 + (c + d)) (cwJs A n i S (c + d)) else cwJs A n i S (c + d)) = _
    have l1 := plate_le V (i := i) (1 + c) (by omega)
    have l2 := plate_le V (i := i + 1 + c) d (by omega)
    have e1 : i + (1 + c) = i + 1 + c := by omega
    have e2 : i + 1 + c + d = i + 1 + (c + d) := by omega
    rw [e1] at l1
    rw [e2] at l2
    rw [if_neg (by omega)]
    exact ih (by omega)
