-- angle(): the pure value, and the class
/-- a whole turn in seconds of arc, hidden from the kernel -/
noncomputable def arc : Int := Classical.choose (⟨1296000, rfl⟩ : ∃ n : Int, n = 1296000)
theorem arc_e : arc = 1296000 := Classical.choose_spec (⟨1296000, rfl⟩ : ∃ n : Int, n = 1296000)
noncomputable def anF (v : Int) (c : Int × Int) : Int := ((c.1 * arc - v * c.2).natAbs : Int)
abbrev anB (v : Int) (b c : Int × Int) : Prop := anF v c * b.2 < anF v b * c.2 ∨ (anF v c * b.2 = anF v b * c.2 ∧ c.1 * b.2 < b.1 * c.2)
noncomputable def anS (v : Int) (b : Option (Nat × Int × Int)) (c : Nat × Int × Int) : Option (Nat × Int × Int) := match b with
  | none => some c
  | some b => if anB v b.2 c.2 then some c else some b
def anW (A : HV) (k : Nat) : Int := A 1 k * A 0 0
noncomputable def anU (A : HV) (v : Int) (k : Nat) : Int := v * anW A k / arc
noncomputable def anI (A : HV) (v : Int) : Nat → Option (Nat × Int × Int)
  | 0 => none
  | k + 1 => anS v (anS v (anI A v k) (k, anU A v k, anW A k)) (k, anU A v k + 1, anW A k)
noncomputable def angleP (s : Sv) (v : Int) : Int × Sv := if 1 ≤ v ∧ v ≤ 1295999 then (match anI (sA s) v (sA s 0 3).toNat with
    | none => (-1, s)
    | some b => (if anF v b.2 = 0 then 1 else 0, rowS s [(b.1 : Int), b.2.1 / sA s 1 b.1, b.2.1 % sA s 1 b.1, rdU (anF v b.2) b.2.2, rdL (anF v b.2) b.2.2])) else (-1, s)
theorem anF_nn (v : Int) (c : Int × Int) : 0 ≤ anF v c := by unfold anF; omega
/-- what a candidate keeps to -/
def anOk (A : HV) (v : Int) (c : Nat × Int × Int) : Prop := (c.1 : Int) < A 0 3 ∧ c.2.2 = anW A c.1 ∧ 0 ≤ c.2.1 ∧ c.2.1 ≤ 8400 ∧ 10 ≤ c.2.2 ∧ c.2.2 ≤ 8400 ∧ anF v c.2 ≤ 1296000
theorem an_c {A : HV} (V : VA A) {v : Int} (v1 : 1 ≤ v) (v2 : v ≤ 1295999) {k : Nat} (hk : (k : Int) < A 0 3) : anOk A v (k, anU A v k, anW A k) ∧ anOk A v (k, anU A v k + 1, anW A k) := by
  have v13 := V.2.2.2.2.2.2.2.2.2.2.2.2.2.1 k hk
  have bw := V.worm
  have bb := mul_bd (a := A 1 k) (b := A 0 0) (M := 70) (K := 120) (by omega) (by omega) (by omega) (by omega)
  have b10 : 10 * 1 ≤ A 1 k * A 0 0 := Int.mul_le_mul (by omega) (by omega) (by omega) (by omega)
  have ew : anW A k = A 1 k * A 0 0 := rfl
  rw [← ew] at bb b10
  generalize hw : anW A k = w at *
  have m1 : 0 ≤ v * w := Int.mul_nonneg (by omega) (by omega)
  have m2 : v * w ≤ 1295999 * w := Int.mul_le_mul_of_nonneg_right v2 (by omega)
  have eu : anU A v k = v * w / 1296000 := by unfold anU; rw [hw, arc_e]
  generalize hu : anU A v k = u at *
  have e1 : anF v (u, w) ≤ 1296000 := by unfold anF; dsimp only; rw [arc_e]; omega
  have e2 : anF v (u + 1, w) ≤ 1296000 := by unfold anF; dsimp only; rw [arc_e]; omega
  exact ⟨⟨hk, hw.symm, by dsimp only; omega, by dsimp only; omega, by dsimp only; omega, by dsimp only; omega, e1⟩, ⟨hk, hw.symm, by dsimp only; omega, by dsimp only; omega, by dsimp only; omega, by dsimp only; omega, e2⟩⟩
theorem anOk_S {A : HV} {v : Int} {b : Option (Nat × Int × Int)} {c : Nat × Int × Int} (hb : ∀ b', b = some b' → anOk A v b') (hc : anOk A v c) : ∀ b', anS v b c = some b' → anOk A v b' := by
  intro b' e
  unfold anS at e
  cases b with
  | none => cases e; exact hc
  | some b0 =>
    dsimp only at e
    by_cases z : anB v b0.2 c.2
    · rw [if_pos z] at e; cases e; exact hc
    · rw [if_neg z] at e; cases e; exact hb _ rfl
theorem anS_some (v : Int) (b : Option (Nat × Int × Int)) (c : Nat × Int × Int) : ∃ b', anS v b c = some b' := by
  unfold anS
  cases b with
  | none => exact ⟨_, rfl⟩
  | some b0 =>
    dsimp only
    split
    · exact ⟨_, rfl⟩
    · exact ⟨_, rfl⟩
theorem anI_ok {A : HV} (V : VA A) {v : Int} (v1 : 1 ≤ v) (v2 : v ≤ 1295999) (k : Nat) (hk : (k : Int) ≤ A 0 3) : ∀ b', anI A v k = some b' → anOk A v b' := by
  induction k with
  | zero => intro b' e; cases e
  | succ k ih =>
    obtain ⟨c1, c2⟩ := an_c V v1 v2 (k := k) (by omega)
    unfold anI
    exact anOk_S (anOk_S (ih (by omega)) c1) c2
theorem anI_some {A : HV} (V : VA A) (v : Int) : ∃ b, anI A v (A 0 3).toNat = some b := by
  have v3 := V.2.2.2.1
  have : ∃ n, (A 0 3).toNat = n + 1 := ⟨(A 0 3).toNat - 1, by omega⟩
  obtain ⟨n, e⟩ := this
  rw [e]
  unfold anI
  exact anS_some _ _ _
def ANc (v : Int) (b : Option (Nat × Int × Int)) (v2 : Int32) (v3 v5 v7 : Int64) : Prop := match b with
  | none => v2 = -1 ∧ v3 = 0 ∧ v5 = 1 ∧ v7 = 0
  | some b => v2.toInt = b.1 ∧ v3.toInt = b.2.1 ∧ v5.toInt = b.2.2 ∧ v7.toInt = anF v b.2
theorem l129_t : (1296000 : Int64).toInt = 1296000 := rfl
