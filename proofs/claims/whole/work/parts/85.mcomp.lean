-- compound() of the reference
theorem cw_val {w h k n a b t : Int} (h0 : 0 < h) (k0 : 0 < k) (n0 : 0 < n) (b0 : b ≠ 0) (b1 : -k < b) (b2 : b < k) (e : w * h * k - n * (a * k + b * h) = n * h * k * t) : (w * h * k) % n = 0 ∧ (w * h * k / n - a * k) % h = 0 ∧ (0 < b → ((w * h * k / n - a * k) / h) % k = b ∧ ((w * h * k / n - a * k) / h) / k = t) ∧ (b < 0 → ((w * h * k / n - a * k) / h) % k = b + k ∧ ((w * h * k / n - a * k) / h) / k = t - 1) := by
  have e1 : w * h * k = n * (h * k * t + a * k + b * h) := by grind
  have e2 : w * h * k / n = h * k * t + a * k + b * h := by rw [e1, Int.mul_ediv_cancel_left _ (by omega)]
  have e3 : w * h * k / n - a * k = h * (b + k * t) := by rw [e2]; grind
  have e4 : (w * h * k / n - a * k) / h = b + k * t := by rw [e3, Int.mul_ediv_cancel_left _ (by omega)]
  refine ⟨by rw [e1, Int.mul_emod_right], by rw [e3, Int.mul_emod_right], fun hb => ?_, fun hb => ?_⟩
  · rw [e4, Int.add_mul_emod_self_left, Int.add_mul_ediv_left _ _ (by omega), Int.emod_eq_of_lt (by omega) b2, Int.ediv_eq_zero_of_lt (by omega) b2]
    exact ⟨rfl, by omega⟩
  · have e5 : b + k * t = (b + k) + k * (t - 1) := by rw [Int.mul_sub]; omega
    rw [e4, e5, Int.add_mul_emod_self_left, Int.add_mul_ediv_left _ _ (by omega), Int.emod_eq_of_lt (by omega) (by omega), Int.ediv_eq_zero_of_lt (by omega) (by omega)]
    exact ⟨rfl, by omega⟩
theorem cw_inv {w h k n a : Int} (h1 : (w * h * k) % n = 0) (h2 : (w * h * k / n - a * k) % h = 0) : w * h * k - n * (a * k + (((w * h * k / n - a * k) / h) % k) * h) = n * h * k * (((w * h * k / n - a * k) / h) / k) ∧ w * h * k - n * (a * k + (((w * h * k / n - a * k) / h) % k - k) * h) = n * h * k * (((w * h * k / n - a * k) / h) / k + 1) := by
  have e1 := Int.emod_add_mul_ediv (w * h * k) n
  have e2 := Int.emod_add_mul_ediv (w * h * k / n - a * k) h
  rw [h1] at e1
  rw [h2] at e2
  generalize w * h * k / n = al at *
  have e3 := Int.emod_add_mul_ediv ((al - a * k) / h) k
  generalize (al - a * k) / h = r at *
  generalize r % k = on at *
  generalize r / k = wh at *
  generalize w * h * k = P at *
  constructor
  · have : P = n * (a * k + h * (on + k * wh)) := by rw [e3]; grind
    rw [this]; grind
  · have : P = n * (a * k + h * (on + k * wh)) := by rw [e3]; grind
    rw [this]; grind
noncomputable def cwB (A : HV) (n : Int) (i j : Nat) (a : Int) (S : CW) (b : Int) : CW := @ite CW (cwC A n i j a ∧ ¬ cwR A n i j a % A 1 j = 0) (Classical.propDecidable _) (if b ≤ cwR A n i j a % A 1 j - A 1 j then S else if b ≤ cwR A n i j a % A 1 j then cwTake S i j a (cwR A n i j a % A 1 j - A 1 j) (cwR A n i j a / A 1 j + 1) else cwTake (cwTake S i j a (cwR A n i j a % A 1 j - A 1 j) (cwR A n i j a / A 1 j + 1)) i j a (cwR A n i j a % A 1 j) (cwR A n i j a / A 1 j)) S
def cwLeft (A : HV) (n : Int) (i j : Nat) (a b : Int) : Int := A 0 0 * A 1 i * A 1 j - n * (a * A 1 j + b * A 1 i)
section CwB
variable {A : HV} {n : Int} {i j : Nat} {a : Int} {S : CW}
theorem cwB_start (V : VA A) (hj : (j : Int) < A 0 3) : cwB A n i j a S (1 - A 1 j) = S := by
  have vj := V.2.2.2.2.2.2.2.2.2.2.2.2.2.1 j hj
  have m0 := Int.emod_nonneg (cwR A n i j a) (b := A 1 j) (by omega)
  unfold cwB
  by_cases c : cwC A n i j a ∧ ¬ cwR A n i j a % A 1 j = 0
  · rw [if_pos c, if_pos (by omega)]
  · rw [if_neg c]
theorem cwB_end (V : VA A) (hj : (j : Int) < A 0 3) : cwB A n i j a S (A 1 j) = cwA A n i j a S := by
  have vj := V.2.2.2.2.2.2.2.2.2.2.2.2.2.1 j hj
  have m0 := Int.emod_nonneg (cwR A n i j a) (b := A 1 j) (by omega)
  have m1 := Int.emod_lt_of_pos (cwR A n i j a) (b := A 1 j) (by omega)
  unfold cwB
  by_cases c : cwC A n i j a
  · rw [cwA_pos c]
    unfold cwOffer
    by_cases c2 : cwR A n i j a % A 1 j = 0
    · rw [if_neg (fun z => z.2 c2), if_pos c2]
    · rw [if_pos ⟨c, c2⟩, if_neg (by omega), if_neg (by omega), if_neg c2]
  · rw [cwA_neg c, if_neg (fun z => c z.1)]
theorem cwB_ok (V : VA A) (n1 : 2 ≤ n) (o : cwOk A S) (hi : (i : Int) < A 0 3) (hj : (j : Int) < A 0 3) (hij : i < j) (a1 : 1 ≤ a) (a2 : a < A 1 i) (b : Int) : cwOk A (cwB A n i j a S b) := by
  have vj := V.2.2.2.2.2.2.2.2.2.2.2.2.2.1 j hj
  obtain ⟨-, -, -, -, -, q0, q1⟩ := cwR_b V n1 hi hj a1 a2
  have m0 := Int.emod_nonneg (cwR A n i j a) (b := A 1 j) (by omega)
  have m1 := Int.emod_lt_of_pos (cwR A n i j a) (b := A 1 j) (by omega)
  unfold cwB
  by_cases c : cwC A n i j a ∧ ¬ cwR A n i j a % A 1 j = 0
  · rw [if_pos c]
    have o1 : cwOk A (cwTake S i j a (cwR A n i j a % A 1 j - A 1 j) (cwR A n i j a / A 1 j + 1)) := cwTake_ok V o hi hj hij a1 a2 (by omega) (by omega) (by omega) (by omega)
    split
    · exact o
    · split
      · exact o1
      · exact cwTake_ok V o1 hi hj hij a1 a2 (by omega) (by omega) c.2 (by omega)
  · rw [if_neg c]; exact o
/-- one more b -/
theorem cwB_no (V : VA A) (n1 : 2 ≤ n) (hi : (i : Int) < A 0 3) (hj : (j : Int) < A 0 3) {b : Int} (h : b = 0 ∨ ¬ (0 ≤ cwLeft A n i j a b ∧ cwLeft A n i j a b % (n * A 1 i * A 1 j) = 0) ∨ ¬ ((cwB A n i j a S b).1 = 0 ∨ a + (b.natAbs : Int) < (cwB A n i j a S b).1)) : cwB A n i j a S (b + 1) = cwB A n i j a S b := by
  have vi := V.2.2.2.2.2.2.2.2.2.2.2.2.2.1 i hi
  have vj := V.2.2.2.2.2.2.2.2.2.2.2.2.2.1 j hj
  have m0 := Int.emod_nonneg (cwR A n i j a) (b := A 1 j) (by omega)
  have m1 := Int.emod_lt_of_pos (cwR A n i j a) (b := A 1 j) (by omega)
  have nhk : 0 < n * A 1 i * A 1 j := Int.mul_pos (Int.mul_pos (by omega) (by omega)) (by omega)
  by_cases c : cwC A n i j a ∧ ¬ cwR A n i j a % A 1 j = 0
  · obtain ⟨v1, v2⟩ := cw_inv (w := A 0 0) (h := A 1 i) (k := A 1 j) (n := n) (a := a) c.1.1 c.1.2
    have er : cwR A n i j a = (A 0 0 * A 1 i * A 1 j / n - a * A 1 j) / A 1 i := rfl
    rw [← er] at v1 v2
    unfold cwB at h ⊢
    rw [if_pos c] at h ⊢
    rw [if_pos c]
    unfold cwLeft at h
    have np : ∀ t : Int, 0 ≤ t → 0 ≤ n * A 1 i * A 1 j * t := fun t ht => Int.mul_nonneg (by omega) ht
    have c2 := c.2
    generalize cwR A n i j a % A 1 j = on at *
    generalize cwR A n i j a / A 1 j = wh at *
    rcases Int.lt_trichotomy b (on - A 1 j) with q | q | q
    · rw [if_pos (by omega), if_pos (by omega)]
    · rw [if_neg (by omega), if_pos (by omega), if_pos (by omega)]
      rw [if_pos (by omega)] at h
      subst q
      unfold cwTake
      refine if_neg (fun z => ?_)
      rcases h with h | h | h
      · omega
      · rw [v2] at h
        exact h ⟨np _ z.1, Int.mul_emod_right _ _⟩
      · exact h z.2
    · rcases Int.lt_trichotomy b on with q2 | q2 | q2
      · rw [if_neg (by omega), if_pos (by omega), if_neg (by omega), if_pos (by omega)]
      · rw [if_neg (by omega), if_neg (by omega), if_neg (by omega), if_pos (by omega)]
        rw [if_neg (by omega), if_pos (by omega)] at h
        subst q2
        generalize cwTake S i j a (b - A 1 j) (wh + 1) = T at *
        unfold cwTake
        refine if_neg (fun z => ?_)
        rcases h with h | h | h
        · omega
        · rw [v1] at h
          exact h ⟨np _ z.1, Int.mul_emod_right _ _⟩
        · exact h z.2
      · rw [if_neg (by omega), if_neg (by omega), if_neg (by omega), if_neg (by omega)]
  · unfold cwB
    rw [if_neg c, if_neg c]
theorem cwB_yes (V : VA A) (n1 : 2 ≤ n) (hi : (i : Int) < A 0 3) (hj : (j : Int) < A 0 3) {b : Int} (b0 : b ≠ 0) (b1 : -A 1 j < b) (b2 : b < A 1 j) (h1 : 0 ≤ cwLeft A n i j a b) (h2 : cwLeft A n i j a b % (n * A 1 i * A 1 j) = 0) (h3 : (cwB A n i j a S b).1 = 0 ∨ a + (b.natAbs : Int) < (cwB A n i j a S b).1) : cwB A n i j a S (b + 1) = (a + (b.natAbs : Int), (i : Int), (j : Int), cwLeft A n i j a b / (n * A 1 i * A 1 j), a, b) := by
  have vi := V.2.2.2.2.2.2.2.2.2.2.2.2.2.1 i hi
  have vj := V.2.2.2.2.2.2.2.2.2.2.2.2.2.1 j hj
  have nhk : 0 < n * A 1 i * A 1 j := Int.mul_pos (Int.mul_pos (by omega) (by omega)) (by omega)
  obtain ⟨t, et⟩ := Int.dvd_of_emod_eq_zero h2
  have t0 : 0 ≤ t := by
    rcases Int.lt_or_le t 0 with z | z
    · have := Int.mul_neg_of_pos_of_neg nhk z; omega
    · exact z
  have ed : cwLeft A n i j a b / (n * A 1 i * A 1 j) = t := by rw [et, Int.mul_ediv_cancel_left _ (by omega)]
  rw [ed]
  obtain ⟨w1, w2, w3, w4⟩ := cw_val (w := A 0 0) (h := A 1 i) (k := A 1 j) (n := n) (a := a) (b := b) (t := t) (by omega) (by omega) (by omega) b0 b1 b2 et
  have er : cwR A n i j a = (A 0 0 * A 1 i * A 1 j / n - a * A 1 j) / A 1 i := rfl
  rw [← er] at w3 w4
  have cC : cwC A n i j a := ⟨w1, w2⟩
  by_cases hb : 0 < b
  · obtain ⟨x1, x2⟩ := w3 hb
    have c : cwC A n i j a ∧ ¬ cwR A n i j a % A 1 j = 0 := ⟨cC, by omega⟩
    unfold cwB at h3 ⊢
    rw [if_pos c] at h3 ⊢
    rw [x1, x2] at h3 ⊢
    rw [if_neg (by omega), if_neg (by omega)]
    rw [if_neg (by omega), if_pos (by omega)] at h3
    exact if_pos ⟨t0, h3⟩
  · obtain ⟨x1, x2⟩ := w4 (by omega)
    have c : cwC A n i j a ∧ ¬ cwR A n i j a % A 1 j = 0 := ⟨cC, by omega⟩
    unfold cwB at h3 ⊢
    rw [if_pos c] at h3 ⊢
    rw [x1, x2] at h3 ⊢
    rw [if_neg (by omega), if_pos (by omega)]
    rw [if_pos (by omega)] at h3
    have e1 : b + A 1 j - A 1 j = b := by omega
    have e2 : t - 1 + 1 = t := by omega
    rw [e1, e2]
    exact if_pos ⟨t0, h3⟩
end CwB
def cwLst (S : CW) : Int := if S.1 = 0 then 1000 else S.1
def RWh (h : Hp) (m : Nat) (S : CW) : Prop := S.1 ≠ 0 → gf h m 12 = S.2.1 ∧ gf h m 13 = S.2.2.1 ∧ gf h m 14 = S.2.2.2.1 ∧ gf h m 15 = S.2.2.2.2.1 ∧ gf h m 16 = S.2.2.2.2.2
abbrev FrK (m : Nat) (h h' : Hp) : Prop := FrW (fun b j => b = m ∧ 12 ≤ j ∧ j ≤ 16) (fun _ _ => False) h h'
section MCm
variable {X : Ctx} {l : Launch} {D : Dt} {h : Hp} {m : Nat} {Q : Pq} {A : HV} {s : Sv}
theorem FrK.md {h' : Hp} (H : MdR h m A) (V : VA A) (f : FrK m h h') : MdR h' m A := H.fr V f (fun j _ q => by have := q.1; omega) (fun _ _ => id)
theorem la_in (C : C_X10_looksAt X) (H : MdR h m A) (V : VA A) {v1 v2 v3 v5 v6 v8 : Int32} (n1 : 2 ≤ v3.toInt) (n2 : v3.toInt ≤ 1000) {S : CW} (o : cwOk A S) {i j : Nat} (ei : v1.toInt = i) (ej : v2.toInt = j) (hi : (i : Int) < A 0 3) (hj : (j : Int) < A 0 3) (hij : i < j) (e5 : v5.toInt = A 1 i) (e6 : v6.toInt = A 1 j) {a : Int} (e8 : v8.toInt = a) (a1 : 1 ≤ a) (a2 : a < A 1 i)
    (nx : ∀ (h' : Hp) (v7 : Int32), FrK m h h' → v7.toInt = cwLst (cwA A v3.toInt i j a S) → RWh h' m (cwA A v3.toInt i j a S) → Wj X 0 0 Q 21 [(0, .ref m), (1, .int v1), (2, .int v2), (3, .int v3), (5, .int v5), (6, .int v6), (7, .int v7), (8, .int (v8 + Int32.ofInt 1))] [] h') (d : Nat) : ∀ (h' : Hp) (v7 v9 : Int32) (b : Int), v9.toInt = b → -A 1 j < b → b + d = A 1 j → FrK m h h' → v7.toInt = cwLst (cwB A v3.toInt i j a S b) → RWh h' m (cwB A v3.toInt i j a S b) → Wj X 0 0 Q 34 [(0, .ref m), (1, .int v1), (2, .int v2), (3, .int v3), (5, .int v5), (6, .int v6), (7, .int v7), (8, .int v8), (9, .int v9)] [] h' := by
  have vi := V.2.2.2.2.2.2.2.2.2.2.2.2.2.1 i hi
  have vj := V.2.2.2.2.2.2.2.2.2.2.2.2.2.1 j hj
  have w := V.worm
  induction d with
  | zero =>
    intro h' v7 v9 b e9 hb hd f e7 R
    have eb : b = A 1 j := by omega
    rw [eb, cwB_end V hj] at e7 R
    refine V_X10_looksAt_34 C ⟨fun _ => nx h' v7 f e7 R, fun q => ?_⟩
    rw [i32_le] at q; omega
  | succ d ih =>
    intro h' v7 v9 b e9 hb hd f e7 R
    have x2 : (v9 + Int32.ofInt 1).toInt = b + 1 := by rw [iadd_t] <;> rw [ii_1, e9] <;> omega
    have H' := FrK.md H V f
    have e0 : (gi h' (m + 3) (ix 0)).toInt = A 0 0 := by rw [ix_0]; exact H'.n (by omega)
    obtain ⟨c1, c2, -, -⟩ := cwAll_b V n1 hi hj
    have ok := cwB_ok V n1 o hi hj hij a1 a2 b (S := S)
    have m1 := mul_bd (a := a) (b := A 1 j) (M := 70) (K := 70) (by omega) (by omega) (by omega) (by omega)
    have m2 : -4900 ≤ b * A 1 i ∧ b * A 1 i ≤ 4900 := by
      rcases Int.le_total 0 b with z | z
      · have := mul_bd (a := b) (b := A 1 i) (M := 70) (K := 70) z (by omega) (by omega) (by omega); omega
      · have := mul_bd (a := -b) (b := A 1 i) (M := 70) (K := 70) (by omega) (by omega) (by omega) (by omega); rw [Int.neg_mul] at this; omega
    have t1 : (v8 * v6).toInt = a * A 1 j := by rw [imul_t] <;> rw [e8, e6] <;> omega
    have t2 : (v9 * v5).toInt = b * A 1 i := by rw [imul_t] <;> rw [e9, e5] <;> omega
    have t3 : (v8 * v6 + v9 * v5).toInt = a * A 1 j + b * A 1 i := by rw [iadd_t] <;> rw [t1, t2] <;> omega
    have t4 : ((gi h' (m + 3) (ix 0)).toInt64 * v5.toInt64).toInt = A 0 0 * A 1 i := by rw [lmul_t] <;> rw [i2l_t, i2l_t, e0, e5] <;> omega
    have t5 : ((gi h' (m + 3) (ix 0)).toInt64 * v5.toInt64 * v6.toInt64).toInt = A 0 0 * A 1 i * A 1 j := by rw [lmul_t] <;> rw [t4, i2l_t, e6] <;> omega
    have m3 : -9800000 ≤ v3.toInt * (a * A 1 j + b * A 1 i) ∧ v3.toInt * (a * A 1 j + b * A 1 i) ≤ 9800000 := by
      rcases Int.le_total 0 (a * A 1 j + b * A 1 i) with z | z
      · have := mul_bd (a := v3.toInt) (b := a * A 1 j + b * A 1 i) (M := 1000) (K := 9800) (by omega) n2 z (by omega); omega
      · have := mul_bd (a := v3.toInt) (b := -(a * A 1 j + b * A 1 i)) (M := 1000) (K := 9800) (by omega) n2 (by omega) (by omega); rw [Int.mul_neg] at this; omega
    have t6 : (v3.toInt64 * (v8 * v6 + v9 * v5).toInt64).toInt = v3.toInt * (a * A 1 j + b * A 1 i) := by rw [lmul_t] <;> rw [i2l_t, i2l_t, t3] <;> omega
    have m4 := mul_bd (a := v3.toInt) (b := A 1 i) (M := 1000) (K := 70) (by omega) n2 (by omega) (by omega)
    have m5 := mul_bd (a := v3.toInt * A 1 i) (b := A 1 j) (M := 70000) (K := 70) (by omega) (by omega) (by omega) (by omega)
    have nhk : 0 < v3.toInt * A 1 i * A 1 j := Int.mul_pos (Int.mul_pos (by omega) (by omega)) (by omega)
    have t7 : (v3.toInt64 * v5.toInt64).toInt = v3.toInt * A 1 i := by rw [lmul_t] <;> rw [i2l_t, i2l_t, e5] <;> omega
    have t8 : (v3.toInt64 * v5.toInt64 * v6.toInt64).toInt = v3.toInt * A 1 i * A 1 j := by rw [lmul_t] <;> rw [t7, i2l_t, e6] <;> omega
    have ta : (abI v9).toInt = (b.natAbs : Int) := by rw [abI_t (by omega), e9]
    have tp : (v8 + abI v9).toInt = a + (b.natAbs : Int) := by rw [iadd_t] <;> rw [ta, e8] <;> omega
    refine V_X10_looksAt_34 C ⟨fun q => ?_, fun _ => ⟨H'.1, fun z2 ez => ?_⟩⟩
    · rw [i32_le] at q; omega
    · have tz : z2.toInt = cwLeft A v3.toInt i j a b := by
        unfold cwLeft
        rw [ez, lsub_t] <;> rw [t5, t6] <;> omega
      have skip : cwB A v3.toInt i j a S (b + 1) = cwB A v3.toInt i j a S b → Wj X 0 0 Q 34 [(0, .ref m), (1, .int v1), (2, .int v2), (3, .int v3), (5, .int v5), (6, .int v6), (7, .int v7), (8, .int v8), (9, .int (v9 + Int32.ofInt 1))] [] h' := by
        intro e
        exact ih h' v7 _ (b + 1) x2 (by omega) (by omega) f (by rw [e]; exact e7) (by rw [e]; exact R)
      refine ⟨fun q => skip (cwB_no V n1 hi hj (Or.inl ?_)), fun q => ⟨fun q2 => skip (cwB_no V n1 hi hj (Or.inr (Or.inr ?_))), fun q2 => ⟨fun q3 => skip (cwB_no V n1 hi hj (Or.inr (Or.inl ?_))), fun q3 => ⟨by rw [i64_eq, t8, l0_t]; omega, fun q4 => ?_, fun q4 => skip (cwB_no V n1 hi hj (Or.inr (Or.inl ?_)))⟩⟩⟩⟩
      all_goals rw [i32_eq, e9, i0_t] at q
      · exact q
      all_goals rw [i32_le, tp, e7] at q2
      · unfold cwLst at q2
        split at q2
        · omega
        · omega
      all_goals rw [i64_lt, tz, l0_t] at q3
      · exact fun z => by have := z.1; omega
      all_goals rw [i64_eq, lrem_p (by rw [tz]; omega), tz, t8, l0_t] at q4
      · have h3 : (cwB A v3.toInt i j a S b).1 = 0 ∨ a + (b.natAbs : Int) < (cwB A v3.toInt i j a S b).1 := by
          unfold cwLst at q2
          split at q2
          · rename_i z; exact Or.inl z
          · exact Or.inr (by omega)
        have ey := cwB_yes V n1 hi hj q (by omega) (by omega) (show 0 ≤ cwLeft A v3.toInt i j a b by omega) q4 h3
        have td : (z2 / (v3.toInt64 * v5.toInt64 * v6.toInt64)).toInt = cwLeft A v3.toInt i j a b / (v3.toInt * A 1 i * A 1 j) := by rw [ldiv_p (by rw [tz]; omega) (by rw [t8]; omega), tz, t8]
        have dl : cwLeft A v3.toInt i j a b / (v3.toInt * A 1 i * A 1 j) ≤ cwLeft A v3.toInt i j a b := Int.ediv_le_self _ (by omega)
        have dn : 0 ≤ cwLeft A v3.toInt i j a b / (v3.toInt * A 1 i * A 1 j) := Int.ediv_nonneg (by omega) (by omega)
        have lb : cwLeft A v3.toInt i j a b ≤ 20000000 := by unfold cwLeft; omega
        refine ih _ _ _ (b + 1) x2 (by omega) (by omega) (((((f.si ⟨rfl, by omega, by omega⟩).si ⟨rfl, by omega, by omega⟩).si ⟨rfl, by omega, by omega⟩).si ⟨rfl, by omega, by omega⟩).si ⟨rfl, by omega, by omega⟩) ?_ ?_
        · rw [ey, tp]; unfold cwLst; rw [if_neg (by dsimp only; omega)]
        · rw [ey]
          intro _
          refine ⟨?_, ?_, ?_, ?_, ?_⟩ <;> unfold gf
          · rw [gi_si, if_neg (by omega), gi_si, if_neg (by omega), gi_si, if_neg (by omega), gi_si, if_neg (by omega), gi_si, if_pos ⟨rfl, rfl⟩]; exact ei
          · rw [gi_si, if_neg (by omega), gi_si, if_neg (by omega), gi_si, if_neg (by omega), gi_si, if_pos ⟨rfl, rfl⟩]; exact ej
          · rw [gi_si, if_neg (by omega), gi_si, if_neg (by omega), gi_si, if_pos ⟨rfl, rfl⟩, l2i_t (by rw [td]; omega) (by rw [td]; omega), td]
          · rw [gi_si, if_neg (by omega), gi_si, if_pos ⟨rfl, rfl⟩]; exact e8
          · rw [gi_si, if_pos ⟨rfl, rfl⟩]; exact e9
      · exact fun z => q4 z.2
theorem la_out (C : C_X10_looksAt X) (H : MdR h m A) (V : VA A) {v1 v2 v3 v5 v6 : Int32} (n1 : 2 ≤ v3.toInt) (n2 : v3.toInt ≤ 1000) {S : CW} (o : cwOk A S) {i j : Nat} (ei : v1.toInt = i) (ej : v2.toInt = j) (hi : (i : Int) < A 0 3) (hj : (j : Int) < A 0 3) (hij : i < j) (e5 : v5.toInt = A 1 i) (e6 : v6.toInt = A 1 j)
    (hq : ∀ (h' : Hp) (v7 : Int32), FrK m h h' → v7.toInt = cwLst (cwPair A v3.toInt i j S) → RWh h' m (cwPair A v3.toInt i j S) → Q (some (.int v7)) h') (d : Nat) : ∀ (h' : Hp) (v7 v8 : Int32) (c : Nat), v8.toInt = (c : Int) + 1 → (c : Int) + 1 + d = A 1 i → FrK m h h' → v7.toInt = cwLst (cwAs A v3.toInt i j S c) → RWh h' m (cwAs A v3.toInt i j S c) → Wj X 0 0 Q 21 [(0, .ref m), (1, .int v1), (2, .int v2), (3, .int v3), (5, .int v5), (6, .int v6), (7, .int v7), (8, .int v8)] [] h' := by
  have vi := V.2.2.2.2.2.2.2.2.2.2.2.2.2.1 i hi
  have vj := V.2.2.2.2.2.2.2.2.2.2.2.2.2.1 j hj
  induction d with
  | zero =>
    intro h' v7 v8 c e8 hc f e7 R
    refine V_X10_looksAt_21 C ⟨fun _ => hq h' v7 f ?_ ?_, fun q => ?_⟩
    · have : (A 1 i - 1).toNat = c := by omega
      unfold cwPair; rw [this]; exact e7
    · have : (A 1 i - 1).toNat = c := by omega
      unfold cwPair; rw [this]; exact R
    · rw [i32_le] at q; omega
  | succ d ih =>
    intro h' v7 v8 c e8 hc f e7 R
    obtain ⟨x1, x2⟩ := ix_succ (i := v8) (by omega) (by omega)
    have t1 : (1 - v6).toInt = 1 - A 1 j := by rw [isub_t] <;> rw [i1_t, e6] <;> omega
    have bs := cwB_start (A := A) (n := v3.toInt) (i := i) (j := j) (a := (c : Int) + 1) (S := cwAs A v3.toInt i j S c) V hj
    refine V_X10_looksAt_21 C ⟨fun q => ?_, fun _ => ?_⟩
    · rw [i32_le] at q; omega
    · refine la_in C (FrK.md H V f) V n1 n2 (cwAs_ok V n1 o hi hj hij c (by omega)) ei ej hi hj hij e5 e6 e8 (by omega) (by omega) (fun h2 v7' f2 e7' R' => ih h2 v7' _ (c + 1) (by omega) (by omega) (f.tr f2) e7' R') (2 * A 1 j - 1).toNat h' v7 _ (1 - A 1 j) t1 (by omega) (by omega) FrW.rf (by rw [bs]; exact e7) (by rw [bs]; exact R)
theorem ma_looksAt (H : MdR h m A) (V : VA A) {v1 v2 v3 v4 : Int32} (n1 : 2 ≤ v3.toInt) (n2 : v3.toInt ≤ 1000) {S : CW} (o : cwOk A S) {i j : Nat} (ei : v1.toInt = i) (ej : v2.toInt = j) (hi : (i : Int) < A 0 3) (hj : (j : Int) < A 0 3) (hij : i < j) (e4 : v4.toInt = cwLst S) (R : RWh h m S) : S_X10_looksAt l D 0 0 [.ref m, .int v1, .int v2, .int v3, .int v4] h (QI fun y h' => y.toInt = cwLst (cwPair A v3.toInt i j S) ∧ RWh h' m (cwPair A v3.toInt i j S) ∧ FrK m h h') := Sp.of rfl (Nat.le_of_ble_eq_true rfl) (fun X C _ _ _ _ => V_X10_looksAt_0 C (by
  have vi := V.2.2.2.2.2.2.2.2.2.2.2.2.2.1 i hi
  have v3' := V.2.2.2.1
  obtain ⟨y1, -⟩ := ix_add (c := 23) (v := v1) (a := 23) (b := i) rfl ei (by omega)
  obtain ⟨y2, -⟩ := ix_add (c := 23) (v := v2) (a := 23) (b := j) rfl ej (by omega)
  exact ⟨H.1, inb_add (a := 23) (b := i) rfl ei (by omega) (by omega), inb_add (a := 23) (b := j) rfl ej (by omega) (by omega), la_out C H V n1 n2 o ei ej hi hj hij (by rw [y1]; exact H.hole hi) (by rw [y2]; exact H.hole hj) (fun h' v7 f e R => ⟨v7, rfl, e, R, f⟩) (A 1 i - 1).toNat h v4 1 0 rfl (by omega) FrW.rf e4 R⟩))
theorem fc_in (C : C_X10_findsCompound X) (H : MdR h m A) (V : VA A) {v1 v2 v4 : Int32} (n1 : 2 ≤ v1.toInt) (n2 : v1.toInt ≤ 1000) {S : CW} (o : cwOk A S) {i : Nat} (ei : v4.toInt = i) (hi : (i : Int) < A 0 3)
    (nx : ∀ (h' : Hp) (v3 : Int32), FrK m h h' → v3.toInt = cwLst (cwJs A v1.toInt i S ((A 0 3).toNat - (i + 1))) → RWh h' m (cwJs A v1.toInt i S ((A 0 3).toNat - (i + 1))) → Wj X 0 0 Q 9 [(0, .ref m), (1, .int v1), (2, .int v2), (3, .int v3), (4, .int (v4 + Int32.ofInt 1))] [] h') (d : Nat) : ∀ (h' : Hp) (v3 v5 : Int32) (c : Nat), v5.toInt = (i : Int) + 1 + c → (i : Int) + 1 + c + d = A 0 3 → FrK m h h' → v3.toInt = cwLst (cwJs A v1.toInt i S c) → RWh h' m (cwJs A v1.toInt i S c) → Wj X 0 0 Q 24 [(0, .ref m), (1, .int v1), (2, .int v2), (3, .int v3), (4, .int v4), (5, .int v5)] [] h' := by
  have w3 := V.2.2.2.1
  induction d with
  | zero =>
    intro h' v3 v5 c e5 hc f e3 R
    have H' := FrK.md H V f
    have g3 := H'.n (i := 3) (by omega)
    have : (A 0 3).toNat - (i + 1) = c := by omega
    refine V_X10_findsCompound_24 C ⟨H'.1, fun _ => nx h' v3 f (by rw [this]; exact e3) (by rw [this]; exact R), fun q => ?_⟩
    rw [ix_3, i32_le, g3] at q; omega
  | succ d ih =>
    intro h' v3 v5 c e5 hc f e3 R
    have H' := FrK.md H V f
    have g3 := H'.n (i := 3) (by omega)
    have e5' : v5.toInt = ((i + 1 + c : Nat) : Int) := by omega
    obtain ⟨x1, x2⟩ := ix_succ (i := v5) (by omega) (by omega)
    obtain ⟨y1, -⟩ := ix_add (c := 5) (v := v4) (a := 5) (b := i) rfl ei (by omega)
    obtain ⟨y2, -⟩ := ix_add (c := 5) (v := v5) (a := 5) (b := i + 1 + c) rfl e5' (by omega)
    have p1 : (gi h' (m + 3) (ix (5 + v4))).toInt = A 2 i := by rw [y1]; exact H'.plate hi
    have p2 : (gi h' (m + 3) (ix (5 + v5))).toInt = A 2 (i + 1 + c) := by rw [y2]; exact H'.plate (by omega)
    have ok := cwJs_ok V n1 o (i := i) c (by omega)
    refine V_X10_findsCompound_24 C ⟨H'.1, fun q => ?_, fun _ => ⟨inb_add (a := 5) (b := i) rfl ei (by omega) (by omega), inb_add (a := 5) (b := i + 1 + c) rfl e5' (by omega) (by omega), fun q => ?_, fun q => ?_⟩⟩
    · rw [ix_3, i32_le, g3] at q; omega
    · rw [i32_eq, p1, p2] at q
      have e : cwJs A v1.toInt i S (c + 1) = cwJs A v1.toInt i S c := if_neg q
      exact ih h' v3 _ (c + 1) (by omega) (by omega) f (by rw [e]; exact e3) (by rw [e]; exact R)
    · rw [i32_eq, p1, p2] at q
      have e : cwJs A v1.toInt i S (c + 1) = cwPair A v1.toInt i (i + 1 + c) (cwJs A v1.toInt i S c) := if_pos q
      refine (ma_looksAt H' V n1 n2 ok ei e5' hi (by omega) (by omega) e3 R).mono (fun v h4 hp => ?_)
      obtain ⟨y, rfl, ey, R4, f4⟩ := hp
      exact ⟨y, rfl, ih h4 y _ (c + 1) (by omega) (by omega) (f.tr f4) (by rw [e]; exact ey) (by rw [e]; exact R4)⟩
theorem i1k_t : (1000 : Int32).toInt = 1000 := rfl
theorem fc_out (C : C_X10_findsCompound X) (H : MdR h m A) (V : VA A) {v1 : Int32} (n1 : 2 ≤ v1.toInt) (n2 : v1.toInt ≤ 1000) (hq : ∀ (h' : Hp) (y : Int32), FrK m h h' → (y.toInt = if (cwQ A v1.toInt).1 = 0 then -1 else (cwQ A v1.toInt).1) → RWh h' m (cwQ A v1.toInt) → Q (some (.int y)) h') (d : Nat) : ∀ (h' : Hp) (v3 v4 : Int32) (i : Nat), v4.toInt = i → (i : Int) + d = A 0 3 → FrK m h h' → v3.toInt = cwLst (cwIs A v1.toInt i) → RWh h' m (cwIs A v1.toInt i) → Wj X 0 0 Q 9 [(0, .ref m), (1, .int v1), (2, .int 1000), (3, .int v3), (4, .int v4)] [] h' := by
  have w3 := V.2.2.2.1
  induction d with
  | zero =>
    intro h' v3 v4 i e4 hi f e3 R
    have H' := FrK.md H V f
    have g3 := H'.n (i := 3) (by omega)
    have ei : (A 0 3).toNat = i := by omega
    have ok := cwQ_ok V n1
    unfold cwQ at hq ok
    rw [ei] at hq ok
    refine V_X10_findsCompound_9 C ⟨H'.1, fun _ => ⟨fun q => hq h' _ f ?_ R, fun q => hq h' _ f ?_ R⟩, fun q => ?_⟩
    · rw [i32_eq, e3, i1k_t] at q
      rw [e3]
      unfold cwLst at q ⊢
      split at q
      · omega
      · rename_i z; rw [if_neg z, if_neg z]
    · rw [i32_eq, e3, i1k_t] at q
      unfold cwLst at q
      split at q
      · rename_i z; rw [if_pos z]; rfl
      · have := ok.2.1; omega
    · rw [ix_3, i32_le, g3] at q; omega
  | succ d ih =>
    intro h' v3 v4 i e4 hi f e3 R
    have H' := FrK.md H V f
    have g3 := H'.n (i := 3) (by omega)
    obtain ⟨x1, x2⟩ := ix_succ (i := v4) (by omega) (by omega)
    have e1 : (v4 + 1).toInt = (i : Int) + 1 + (0 : Nat) := by rw [iadd_t] <;> rw [e4, i1_t] <;> omega
    refine V_X10_findsCompound_9 C ⟨H'.1, fun q => ?_, fun _ => ?_⟩
    · rw [ix_3, i32_le, g3] at q; omega
    · exact fc_in C H' V n1 n2 (cwIs_ok V n1 i (by omega)) e4 (by omega) (fun h2 v3' f2 e3' R' => ih h2 v3' _ (i + 1) (by omega) (by omega) (f.tr f2) e3' R') ((A 0 3).toNat - (i + 1)) h' v3 _ 0 e1 (by omega) FrW.rf e3 R
theorem ma_findsCompound (H : MdR h m A) (V : VA A) {v1 : Int32} (n1 : 2 ≤ v1.toInt) (n2 : v1.toInt ≤ 1000) : S_X10_findsCompound l D 0 0 [.ref m, .int v1] h (QI fun y h' => (y.toInt = if (cwQ A v1.toInt).1 = 0 then -1 else (cwQ A v1.toInt).1) ∧ RWh h' m (cwQ A v1.toInt) ∧ FrK m h h') := Sp.of rfl (Nat.le_of_ble_eq_true rfl) (fun X C _ _ _ _ => V_X10_findsCompound_0 C (by
  have w3 := V.2.2.2.1
  exact fc_out C H V n1 n2 (fun h' y f e R => ⟨y, rfl, e, R, f⟩) (A 0 3).toNat h 1000 0 0 rfl (by omega) FrW.rf rfl (fun z => absurd rfl z)))
theorem ma_compound (S : MSt h m s) {n : Int32} : S_X10_compound l D 0 0 [.ref m, .int n] h (QI fun y h' => y.toInt = (compoundP s n.toInt).1 ∧ MSt h' m (compoundP s n.toInt).2 ∧ FrO (inM m) h h') := Sp.of rfl (Nat.le_of_ble_eq_true rfl) (fun X C _ _ _ _ => V_X10_compound_0 C (by
  obtain ⟨S1, f1⟩ := S.t0
  have V := S.1.va
  unfold compoundP
  refine ⟨S.1.1, fun q => ?_, fun q => ⟨_, rfl, ?_⟩⟩
  all_goals rw [btL_0, i2l_t, l2_t, l400_t] at q
  · have hq : 2 ≤ n.toInt ∧ n.toInt ≤ 400 := by omega
    rw [if_pos hq]
    refine (ma_findsCompound S1.1.md V (v1 := n) hq.1 (by omega)).mono (fun w h2 hp => ?_)
    obtain ⟨y, rfl, ey, R2, f2⟩ := hp
    have ok := cwQ_ok V hq.1
    generalize cwQ (sA s) n.toInt = W at *
    have S2 : MSt h2 m s := S1.fr f2 (fun j _ q => by have := q.1; omega) (fun q => by omega) (fun j q => by have := q.1; omega) (fun _ _ => id) (fun q => by omega) (fun _ => id) (fun q => by omega) (fun j q => by have := q.1; omega)
    have g2 : FrO (inM m) (si h m 0 0) h2 := f2.toM (fun b j q => ⟨by have := q.1; omega, by have := q.1; omega⟩) (fun _ _ q => absurd q id)
    by_cases z : W.1 = 0
    · rw [if_pos z] at ey ⊢
      exact ⟨y, rfl, fun q1 => by rw [i32_le, i0_t] at q1; omega, fun _ => ⟨_, rfl, rfl, S2, f1.tr g2⟩⟩
    · rw [if_neg z] at ey ⊢
      obtain ⟨r1, r2, r3, r4, r5⟩ := R2 z
      have w1 := ok.1
      have keep : ∀ h', FrW (rI m) (rL m) h2 h' → ∀ j, j ≠ 1 → gi h' m j = gi h2 m j := fun h' f j hj => f.xi (fun q => hj q.2)
      refine ⟨y, rfl, fun _ => ⟨S2.1.1, ?_⟩, fun q1 => absurd (by rw [i32_le, i0_t]; omega) q1⟩
      refine (ma_enters (h := si h2 m 1 0) (L := []) S2.1.1 (RwM.clr 0 rfl) (by decide) (z := W.2.1) (by rw [i2l_t, gi_si, if_neg (by omega)]; exact r1)).mono (fun w h5 hp => ?_)
      obtain ⟨rfl, w5, f5⟩ := hp
      have f25 : FrW (rI m) (rL m) h2 h5 := (FrW.rf.si (v := 0) ⟨rfl, rfl⟩).tr f5
      refine ⟨rfl, f25.st10 S2.1.1, (ma_enters (f25.st10 S2.1.1) w5 (by simp) (z := W.2.2.1) (by rw [i2l_t, keep h5 f25 13 (by omega)]; exact r2)).mono (fun w h7 hp => ?_)⟩
      obtain ⟨rfl, w7, f7⟩ := hp
      have f27 := f25.tr f7
      refine ⟨rfl, f27.st10 S2.1.1, (ma_enters (f27.st10 S2.1.1) w7 (by simp) (z := W.2.2.2.1) (by rw [i2l_t, keep h7 f27 14 (by omega)]; exact r3)).mono (fun w h9 hp => ?_)⟩
      obtain ⟨rfl, w9, f9⟩ := hp
      have f29 := f27.tr f9
      refine ⟨rfl, f29.st10 S2.1.1, (ma_enters (f29.st10 S2.1.1) w9 (by simp) (z := W.2.2.2.2.1) (by rw [i2l_t, keep h9 f29 15 (by omega)]; exact r4)).mono (fun w h11 hp => ?_)⟩
      obtain ⟨rfl, w11, f11⟩ := hp
      have f211 := f29.tr f11
      refine ⟨rfl, f211.st10 S2.1.1, (ma_enters (f211.st10 S2.1.1) w11 (by simp) (z := W.2.2.2.2.2) (by rw [i2l_t, keep h11 f211 16 (by omega)]; exact r5)).mono (fun w h13 hp => ?_)⟩
      obtain ⟨rfl, w13, f13⟩ := hp
      obtain ⟨S13, g13⟩ := S2.row (f211.tr f13) w13
      exact ⟨rfl, _, rfl, ey, S13, (f1.tr g2).tr g13⟩
  · rw [if_neg (by omega)]; exact ⟨rfl, S1, f1⟩))
end MCm
