-- divides(): the compound steps as the reference goes them
theorem cwR_60 {A : HV} (V : VA A) {n : Int} (n1 : 2 ≤ n) {i j : Nat} (hi : (i : Int) < A 0 3) (hj : (j : Int) < A 0 3) {a : Int} (a1 : 1 ≤ a) : cwR A n i j a / A 1 j ≤ 60 := by
  have vi := V.2.2.2.2.2.2.2.2.2.2.2.2.2.1 i hi
  have vj := V.2.2.2.2.2.2.2.2.2.2.2.2.2.1 j hj
  have w := V.worm
  have P0 : 0 ≤ A 1 j * A 1 i := Int.mul_nonneg (by omega) (by omega)
  have e : cwAll A n i j ≤ 60 * A 1 j * A 1 i := by
    unfold cwAll
    refine Int.ediv_le_of_le_mul (by omega) ?_
    have h1 : A 0 0 * (A 1 j * A 1 i) ≤ 120 * (A 1 j * A 1 i) := Int.mul_le_mul_of_nonneg_right w.2 P0
    have h2 : 60 * (A 1 j * A 1 i) * 2 ≤ 60 * (A 1 j * A 1 i) * n := Int.mul_le_mul_of_nonneg_left n1 (by omega)
    have h3 : A 0 0 * A 1 i * A 1 j = A 0 0 * (A 1 j * A 1 i) := by rw [Int.mul_assoc, Int.mul_comm (A 1 i)]
    have h4 : 60 * A 1 j * A 1 i * n = 60 * (A 1 j * A 1 i) * n := by rw [Int.mul_assoc 60]
    rw [h3, h4]; omega
  have aj : 0 ≤ a * A 1 j := Int.mul_nonneg (by omega) (by omega)
  refine Int.ediv_le_of_le_mul (by omega) ?_
  unfold cwR
  exact Int.ediv_le_of_le_mul (by omega) (by omega)
def cwT (S : CW) : Prop := S.1 ≠ 0 → S.2.2.2.1 ≤ 61
theorem cwTake_t {S : CW} (o : cwT S) {i j a b t : Int} (ht : t ≤ 61) : cwT (cwTake S i j a b t) := by
  unfold cwTake
  split
  · exact fun _ => ht
  · exact o
theorem cwA_t {A : HV} (V : VA A) {n : Int} (n1 : 2 ≤ n) {S : CW} (o : cwT S) {i j : Nat} (hi : (i : Int) < A 0 3) (hj : (j : Int) < A 0 3) {a : Int} (a1 : 1 ≤ a) : cwT (cwA A n i j a S) := by
  have b := cwR_60 V n1 hi hj a1
  by_cases h : cwC A n i j a
  · rw [cwA_pos h]
    unfold cwOffer
    split
    · exact o
    · exact cwTake_t (cwTake_t o (by omega)) (by omega)
  · rw [cwA_neg h]; exact o
theorem cwAs_t {A : HV} (V : VA A) {n : Int} (n1 : 2 ≤ n) {S : CW} (o : cwT S) {i j : Nat} (hi : (i : Int) < A 0 3) (hj : (j : Int) < A 0 3) (c : Nat) : cwT (cwAs A n i j S c) := by
  induction c with
  | zero => exact o
  | succ c ih => exact cwA_t V n1 ih hi hj (by omega)
theorem cwJs_t {A : HV} (V : VA A) {n : Int} (n1 : 2 ≤ n) {S : CW} (o : cwT S) {i : Nat} (c : Nat) (hc : (i : Int) + 1 + c ≤ A 0 3) : cwT (cwJs A n i S c) := by
  induction c with
  | zero => exact o
  | succ c ih =>
    have o' := ih (by omega)
    show cwT (if A 2 i = A 2 (i + 1 + c) then cwPair A n i (i + 1 + c) (cwJs A n i S c) else cwJs A n i S c)
    split
    · exact cwAs_t V n1 o' (by omega) (by omega) _
    · exact o'
theorem cwIs_t {A : HV} (V : VA A) {n : Int} (n1 : 2 ≤ n) (i : Nat) (hi : (i : Int) ≤ A 0 3) : cwT (cwIs A n i) := by
  induction i with
  | zero => exact fun z => absurd rfl z
  | succ i ih => exact cwJs_t V n1 (ih (by omega)) _ (by omega)
theorem cwQ_t {A : HV} (V : VA A) {n : Int} (n1 : 2 ≤ n) : cwT (cwQ A n) := cwIs_t V n1 _ (by have := V.2.2.2.1; omega)
theorem SmB.go {A B : HV} (S : SmB A B) {k q : Int} : SmB A (goQ B k q).2 := by
  unfold goQ
  split
  · exact (S.uv (by omega) _).uv (by omega) _
  · exact S
theorem dvCm_go {A B : HV} (V : VA A) (S : SmB A B) {W : CW} (ok : cwOk A W) (ct : cwT W) (z : W.1 ≠ 0) : dvCm W B = atC (goQ (goQ B W.2.1 (W.2.2.2.1 * A 1 W.2.1.toNat + W.2.2.2.2.1)).2 W.2.2.1 W.2.2.2.2.2).2 W.2.2.1 := by
  have t2 := ct z
  obtain ⟨⟨i, j, ei, ej, hi, hj, hij, a1, a2, b1, b2⟩, b0, t0, t1⟩ := ok.2.2 z
  have vi := V.2.2.2.2.2.2.2.2.2.2.2.2.2.1 i hi
  have vj := V.2.2.2.2.2.2.2.2.2.2.2.2.2.1 j hj
  unfold dvCm
  rw [ei, ej, Int.toNat_natCast]
  generalize W.2.2.2.1 = T at *
  generalize W.2.2.2.2.1 = a at *
  generalize W.2.2.2.2.2 = b at *
  rw [chooseP_2 (B := B) (f := i) (by omega) (by rw [S.2.1]; exact hi)]
  have e1 : (windP (atC B i) T a 0).2 = atC (goQ B i (T * A 1 i + a)).2 i := by
    unfold windP
    rw [Hc_at, S.2.2, if_pos ⟨⟨t0, by omega⟩, ⟨by omega, by omega⟩, by decide⟩, if_neg (by decide)]
    exact goQ_at
  rw [e1]
  have SG : SmB A (goQ B i (T * A 1 i + a)).2 := S.go
  generalize (goQ B i (T * A 1 i + a)).2 = G at *
  have S2 : SmB A (atC G i) := SG.uv (by omega) _
  rw [chooseP_2 (B := atC G i) (f := j) (by omega) (by rw [S2.2.1]; exact hj)]
  have e2 : atC (atC G i) j = atC G j := uv_uv
  rw [e2, ← goQ_at]
  unfold windP
  rw [Hc_at, SG.2.2]
  by_cases c : 0 ≤ b
  · rw [if_pos c, if_pos c, if_pos ⟨by decide, ⟨by omega, by omega⟩, by decide⟩, if_neg (by decide), Int.zero_mul, Int.zero_add]
  · rw [if_neg c, if_neg c, if_pos ⟨by decide, ⟨by omega, by omega⟩, by decide⟩, if_pos rfl, Int.zero_mul, Int.zero_add, Int.neg_neg]
