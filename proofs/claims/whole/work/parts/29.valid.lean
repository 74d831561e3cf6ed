-- acts keep what holds of a head
theorem VA.small {A B : HV} (V : VA A) (e : ∀ i, i < 5 → B 0 i = A 0 i) (ea : ∀ i k, 1 ≤ i → i ≤ 5 → B i k = A i k) (c5 : 0 ≤ B 0 5 ∧ B 0 5 < A 0 3) (c6 : B 0 6 = 0 ∨ B 0 6 = 2 ∨ B 0 6 = 4) (c7 : 0 ≤ B 0 7 ∧ B 0 7 ≤ A 0 7)
    (c8 : 0 ≤ B 0 8 ∧ B 0 8 ≤ 10000 ∧ 1 ≤ B 0 9 ∧ B 0 9 ≤ 10000 ∧ Int.gcd (B 0 8) (B 0 9) = 1) (c12 : B 0 12 = 1 ∨ B 0 12 = -1) (c0 : B 0 6 = 0 → B 0 8 = 0 ∧ B 0 9 = 1 ∧ B 0 12 = 1) (cn : ¬ A 0 0 * B 0 9 = B 0 12 * B 0 8) (c10 : 0 ≤ B 0 10 ∧ B 0 10 < B 0 11 ∧ B 0 11 ≤ 1000000000 ∧ Int.gcd (B 0 10) (B 0 11) = 1) : VA B := by
  obtain ⟨v0, v1, v2, v3, v4, v5, v6, v7, v8, v9, v10, v11, v12, v13, v14, v15, v16, v17⟩ := V
  unfold VA
  simp only [e 0 (by omega), e 1 (by omega), e 2 (by omega), e 3 (by omega), e 4 (by omega), ea 1 _ (by omega) (by omega), ea 2 _ (by omega) (by omega), ea 3 _ (by omega) (by omega), ea 4 _ (by omega) (by omega), ea 5 _ (by omega) (by omega)]
  exact ⟨v0, v1, v2, v3, v4, c5, c6, ⟨c7.1, by omega⟩, c8, c12, c0, cn, c10, v13, v14, v15, fun k hk => v16 k (by omega), fun i j hij hj => v17 i j hij (by omega)⟩
section Valid
variable {A : HV}
theorem VA.ratio (V : VA A) : 0 ≤ A 0 8 ∧ A 0 8 ≤ 10000 ∧ 1 ≤ A 0 9 ∧ A 0 9 ≤ 10000 ∧ Int.gcd (A 0 8) (A 0 9) = 1 := V.2.2.2.2.2.2.2.2.1
theorem VA.side (V : VA A) : A 0 12 = 1 ∨ A 0 12 = -1 := V.2.2.2.2.2.2.2.2.2.1
theorem VA.none (V : VA A) : A 0 6 = 0 → A 0 8 = 0 ∧ A 0 9 = 1 ∧ A 0 12 = 1 := V.2.2.2.2.2.2.2.2.2.2.1
theorem VA.fit (V : VA A) : ¬ A 0 0 * A 0 9 = A 0 12 * A 0 8 := V.2.2.2.2.2.2.2.2.2.2.2.1
theorem VA.place (V : VA A) : 0 ≤ A 0 10 ∧ A 0 10 < A 0 11 ∧ A 0 11 ≤ 1000000000 ∧ Int.gcd (A 0 10) (A 0 11) = 1 := V.2.2.2.2.2.2.2.2.2.2.2.2.1
theorem VA.wheels (V : VA A) : A 0 6 = 0 ∨ A 0 6 = 2 ∨ A 0 6 = 4 := V.2.2.2.2.2.2.1
theorem VA.worm (V : VA A) : 1 ≤ A 0 0 ∧ A 0 0 ≤ 120 := V.1
theorem VA.marks (V : VA A) : 0 ≤ A 0 7 ∧ A 0 7 ≤ 60 := V.2.2.2.2.2.2.2.1
theorem VA.circ (V : VA A) : 0 ≤ A 0 5 ∧ A 0 5 < A 0 3 := V.2.2.2.2.2.1
theorem VA.mk (V : VA A) {k : Nat} (hk : (k : Int) < A 0 7) : 0 ≤ A 4 k ∧ A 4 k < A 5 k ∧ A 5 k ≤ 1000000000 ∧ Int.gcd (A 4 k) (A 5 k) = 1 := V.2.2.2.2.2.2.2.2.2.2.2.2.2.2.2.2.1 k hk
theorem VA.srt (V : VA A) {i j : Nat} (h1 : i < j) (h2 : (j : Int) < A 0 7) : A 4 i * A 5 j < A 4 j * A 5 i := V.2.2.2.2.2.2.2.2.2.2.2.2.2.2.2.2.2 i j h1 h2
theorem VA.choose (V : VA A) (k : Int) : VA (chooseP A k).2 := by
  unfold chooseP
  split
  · split
    · exact V
    · rename_i h1 h2
      refine V.small (fun i hi => ?_) (fun i j h1 h2 => ?_) ?_ ?_ ?_ ?_ ?_ ?_ ?_ ?_ <;> simp [uv_eq]
      · omega
      · omega
      · omega
      · exact V.wheels
      · exact V.marks.1
      · exact V.ratio
      · exact V.side
      · exact V.none
      · exact V.fit
      · exact V.place
  · exact V
theorem VA.takeOutV (V : VA A) : VA (takeOutV A) := by
  unfold _root_.Jvm.Pilot.CDividingHeadLaw_law_r5460_4057f6.takeOutV
  refine V.small (fun i hi => ?_) (fun i j h1 h2 => ?_) ?_ ?_ ?_ ?_ ?_ ?_ ?_ ?_ <;> simp [uv_eq]
  · omega
  · omega
  · exact V.circ
  · exact V.marks.1
  · have := V.worm; omega
  · exact V.place
theorem VA.takeOut (V : VA A) : VA (takeOutP A).2 := by
  unfold takeOutP
  split
  · exact V
  · exact V.takeOutV
theorem VA.wipe (V : VA A) : VA (wipeV A) := by
  unfold wipeV
  refine V.small (fun i hi => ?_) (fun i j h1 h2 => ?_) ?_ ?_ ?_ ?_ ?_ ?_ ?_ ?_ <;> simp [uv_eq]
  · omega
  · omega
  · exact V.circ
  · exact V.wheels
  · exact V.marks.1
  · exact V.ratio
  · exact V.side
  · exact V.none
  · exact V.fit
theorem VA.circ0 (V : VA A) : VA (uv A 0 5 0) := by
  have v3 := V.2.2.2.1
  refine V.small (fun i hi => ?_) (fun i j h1 h2 => ?_) ?_ ?_ ?_ ?_ ?_ ?_ ?_ ?_ <;> simp [uv_eq]
  · omega
  · omega
  · omega
  · exact V.wheels
  · exact V.marks.1
  · exact V.ratio
  · exact V.side
  · exact V.none
  · exact V.fit
  · exact V.place
theorem VA.first (V : VA A) : VA (firstV A) := V.circ0.takeOut.wipe
theorem VA.windQ (V : VA A) (q : Int) : VA (windQ A q).2 := by
  unfold _root_.Jvm.Pilot.CDividingHeadLaw_law_r5460_4057f6.windQ
  split
  · rename_i hle
    have hL : 0 < wdL A := by
      unfold wdL
      have := V.nv.1
      exact Int.mul_pos (by have := V.place; omega) (by omega)
    have u0 : 0 ≤ wdU A q := Int.emod_nonneg _ (Int.ne_of_gt hL)
    have u1 : wdU A q < wdL A := Int.emod_lt_of_pos _ hL
    have r1 := rdU_nn u0 hL
    have r2 := rdU_lt u1 hL
    have r3 := rd_cop (u := wdU A q) hL
    refine V.small (fun i hi => ?_) (fun i j h1 h2 => ?_) ?_ ?_ ?_ ?_ ?_ ?_ ?_ ?_ <;> simp [uv_eq]
    · omega
    · omega
    · exact V.circ
    · exact V.wheels
    · exact V.marks.1
    · exact V.ratio
    · exact V.side
    · exact V.none
    · exact V.fit
    · exact ⟨r1, r2, hle, r3⟩
  · exact V
theorem VA.wind (V : VA A) (t m b : Int) : VA (windP A t m b).2 := by
  unfold windP
  split
  · exact V.windQ _
  · exact V
theorem VA.teeth (V : VA A) {k : Int} (h1 : 0 ≤ k) (h2 : k < A 0 4) : 20 ≤ te A k ∧ te A k ≤ 100 := V.2.2.2.2.2.2.2.2.2.2.2.2.2.2.2.1 k.toNat (by omega)
theorem VA.prods (V : VA A) {a b c d s : Int} (h : okPut A a b c d s) : (0 < gupP A a c d ∧ gupP A a c d ≤ 10000) ∧ (0 < glwP A b c d ∧ glwP A b c d ≤ 10000) := by
  obtain ⟨-, pab, pcd⟩ := h
  have t1 := V.teeth pab.1 pab.2.1
  have t2 := V.teeth pab.2.2.1 pab.2.2.2.1
  unfold gupP glwP
  by_cases tw : twoP c d
  · rw [if_pos tw, if_pos tw]; omega
  · obtain ⟨pcd, -⟩ := pcd.resolve_left tw
    have t3 := V.teeth pcd.1 pcd.2.1
    have t4 := V.teeth pcd.2.2.1 pcd.2.2.2.1
    rw [if_neg tw, if_neg tw]
    have m1 := mul_bd (a := te A a) (b := te A c) (M := 100) (K := 100) (by omega) (by omega) (by omega) (by omega)
    have m2 := mul_bd (a := te A b) (b := te A d) (M := 100) (K := 100) (by omega) (by omega) (by omega) (by omega)
    have m3 : 0 < te A a * te A c := Int.mul_pos (by omega) (by omega)
    have m4 : 0 < te A b * te A d := Int.mul_pos (by omega) (by omega)
    omega
theorem VA.putIn (V : VA A) (a b c d s : Int) : VA (putInP A a b c d s).2 := by
  unfold putInP
  split
  · rename_i hok
    split
    · exact V
    · rename_i hne
      obtain ⟨⟨u1, u2⟩, w1, w2⟩ := V.prods hok
      have r1 := rdU_nn (u := gupP A a c d) (by omega) w1
      have r2 := rdU_le (u := gupP A a c d) (w := glwP A b c d) (by omega)
      have r3 := rdL_pos (u := gupP A a c d) w1
      have r4 := rdL_le (u := gupP A a c d) w1
      have r5 := rd_cop (u := gupP A a c d) w1
      unfold putInV
      have hz : (if twoP c d then (2 : Int) else 4) = 2 ∨ (if twoP c d then (2 : Int) else 4) = 4 := by split <;> simp
      generalize (if twoP c d then (2 : Int) else 4) = z at hz
      refine V.small (fun i hi => ?_) (fun i j h1 h2 => ?_) ?_ ?_ ?_ ?_ ?_ ?_ ?_ ?_ <;> simp [uv_eq]
      · omega
      · omega
      · exact V.circ
      · omega
      · exact V.marks.1
      · exact ⟨r1, by omega, by omega, by omega, r5⟩
      · exact hok.1
      · omega
      · rw [Int.mul_comm s]; exact fun q => hne q.symm
      · exact V.place
  · exact V
/-- the outfit alone -/
def VO (A : HV) : Prop := (1 ≤ A 0 0 ∧ A 0 0 ≤ 120) ∧ (10 ≤ A 0 1 ∧ A 0 1 ≤ 100) ∧ (1 ≤ A 0 2 ∧ A 0 2 ≤ 3) ∧ (1 ≤ A 0 3 ∧ A 0 3 ≤ 18) ∧ (0 ≤ A 0 4 ∧ A 0 4 ≤ 12) ∧ (A 0 6 = 0 → A 0 8 = 0 ∧ A 0 9 = 1 ∧ A 0 12 = 1) ∧ (∀ k : Nat, (k : Int) < A 0 3 → 10 ≤ A 1 k ∧ A 1 k ≤ 70 ∧ 0 ≤ A 2 k ∧ A 2 k < A 0 2) ∧ (∀ k : Nat, (k : Int) + 1 < A 0 3 → A 2 k ≤ A 2 (k + 1)) ∧ (∀ k : Nat, (k : Int) < A 0 4 → 20 ≤ A 3 k ∧ A 3 k ≤ 100)
theorem firstV_s (A : HV) (hn : A 0 6 = 0 → A 0 8 = 0 ∧ A 0 9 = 1 ∧ A 0 12 = 1) : (∀ j, j < 5 → firstV A 0 j = A 0 j) ∧ (firstV A 0 5 = 0 ∧ firstV A 0 6 = 0 ∧ firstV A 0 7 = 0 ∧ firstV A 0 8 = 0 ∧ firstV A 0 9 = 1 ∧ firstV A 0 10 = 0 ∧ firstV A 0 11 = 1 ∧ firstV A 0 12 = 1) ∧ ∀ i k, 1 ≤ i → firstV A i k = A i k := by
  have e6 : uv A 0 5 0 0 6 = A 0 6 := rfl
  unfold firstV takeOutP
  rw [e6]
  split
  · rename_i h6
    obtain ⟨n1, n2, n3⟩ := hn h6
    unfold wipeV
    refine ⟨fun j hj => ?_, ?_, fun i k hi => ?_⟩
    · simp only [uv_eq]
      rw [if_neg (by omega), if_neg (by omega), if_neg (by omega), if_neg (by omega)]
    · simp [uv_eq, n1, n2, n3, h6]
    · simp only [uv_eq]
      rw [if_neg (by omega), if_neg (by omega), if_neg (by omega), if_neg (by omega)]
  · unfold wipeV takeOutV
    refine ⟨fun j hj => ?_, ?_, fun i k hi => ?_⟩
    · simp only [uv_eq]
      rw [if_neg (by omega), if_neg (by omega), if_neg (by omega), if_neg (by omega), if_neg (by omega), if_neg (by omega), if_neg (by omega), if_neg (by omega)]
    · simp [uv_eq]
    · simp only [uv_eq]
      rw [if_neg (by omega), if_neg (by omega), if_neg (by omega), if_neg (by omega), if_neg (by omega), if_neg (by omega), if_neg (by omega), if_neg (by omega)]
theorem VO.first (o : VO A) : VA (firstV A) := by
  obtain ⟨o0, o1, o2, o3, o4, o5, o6, o7, o8⟩ := o
  obtain ⟨f1, ⟨g5, g6, g7, g8, g9, g10, g11, g12⟩, f3⟩ := firstV_s A o5
  unfold VA
  simp only [f1 0 (by omega), f1 1 (by omega), f1 2 (by omega), f1 3 (by omega), f1 4 (by omega), g5, g6, g7, g8, g9, g10, g11, g12, f3 1 _ (by omega), f3 2 _ (by omega), f3 3 _ (by omega), f3 4 _ (by omega), f3 5 _ (by omega)]
  refine ⟨o0, o1, o2, o3, o4, by omega, by first | omega | simp, by first | omega | simp, by decide, by first | omega | simp, by first | omega | simp, by first | omega | simp, by decide, o6, o7, o8, fun k hk => by omega, fun i j h1 h2 => by omega⟩
theorem VA.out (V : VA A) : VO A := by
  obtain ⟨v0, v1, v2, v3, v4, v5, v6, v7, v8, v9, v10, v11, v12, v13, v14, v15, v16, v17⟩ := V
  exact ⟨v0, v1, v2, v3, v4, v10, v13, v14, v15⟩
theorem VA.setTo (V : VA A) (w v : Int) : VA (setToP A w v).2 := by
  unfold setToP
  split
  · rename_i hok
    split
    · exact V
    · have hi : (w.toNat = 0 ∧ 1 ≤ v ∧ v ≤ 120) ∨ (w.toNat = 1 ∧ 10 ≤ v ∧ v ≤ 100) := by omega
      generalize w.toNat = i at hi
      apply VO.first
      obtain ⟨o0, o1, o2, o3, o4, o5, o6, o7, o8⟩ := V.out
      unfold VO
      rcases hi with ⟨rfl, h1, h2⟩ | ⟨rfl, h1, h2⟩
      · simp only [uv_eq]
        simp
        exact ⟨⟨h1, h2⟩, o1, o2, o3, o4, o5, o6, o7, o8⟩
      · simp only [uv_eq]
        simp
        exact ⟨o0, ⟨h1, h2⟩, o2, o3, o4, o5, o6, o7, o8⟩
  · exact V
-- a mark at the place: where it comes, and that marks stay in order
theorem lt_tr {a b c d e f : Int} (hb : 0 < b) (hd : 0 < d) (hf : 0 < f) (h1 : a * d < c * b) (h2 : c * f < e * d) : a * f < e * b := by
  have e1 : a * d * f < c * b * f := Int.mul_lt_mul_of_pos_right h1 hf
  have e2 : c * f * b < e * d * b := Int.mul_lt_mul_of_pos_right h2 hb
  have e3 : (a * f) * d < (e * b) * d := by
    have q1 : a * d * f = (a * f) * d := by rw [Int.mul_assoc, Int.mul_comm d, ← Int.mul_assoc]
    have q2 : c * b * f = c * f * b := by rw [Int.mul_assoc, Int.mul_comm b, ← Int.mul_assoc]
    have q3 : e * d * b = (e * b) * d := by rw [Int.mul_assoc, Int.mul_comm d, ← Int.mul_assoc]
    omega
  exact Int.lt_of_mul_lt_mul_right e3 (by omega)
theorem mpos_lt {j : Nat} (h : j < mpos A) : mLs A j := mposN_lt A _ 0 j (by omega) h
theorem mpos_le (V : VA A) : (mpos A : Int) ≤ A 0 7 := by have := mposN_le A (A 0 7).toNat 0; have := V.marks; unfold mpos; omega
theorem mpos_ge (V : VA A) {j : Nat} (h1 : mpos A ≤ j) (h2 : (j : Int) < A 0 7) : A 0 10 * A 5 j ≤ A 4 j * A 0 11 := by
  have m := V.marks
  have h3 : ¬ mLs A (mpos A) := mposN_ge A (A 0 7).toNat 0 (by have := h1; unfold mpos at this; omega)
  unfold mLs at h3
  by_cases e : j = mpos A
  · rw [e]; omega
  · have hs := V.srt (i := mpos A) (j := j) (by omega) h2
    have p := V.place
    have m1 := V.mk (k := mpos A) (by omega)
    have m2 := V.mk (k := j) h2
    rcases Int.lt_or_le (A 4 j * A 0 11) (A 0 10 * A 5 j) with q | q
    · exact absurd (lt_tr (by omega) (by omega) (by omega) hs q) (by omega)
    · exact q
theorem VA.scribe (V : VA A) : VA (scribeP A).2 := by
  unfold scribeP
  split
  · exact V
  · rename_i hne
    split
    · rename_i h60
      have hle := mpos_le V
      have hgt : ∀ j : Nat, mpos A ≤ j → (j : Int) < A 0 7 → A 0 10 * A 5 j < A 4 j * A 0 11 := by
        intro j h1 h2
        have g := mpos_ge V h1 h2
        by_cases e : j = mpos A
        · rw [e] at g h2 ⊢
          have : ¬ A 4 (mpos A) * A 0 11 = A 0 10 * A 5 (mpos A) := fun q => hne ⟨h2, q⟩
          omega
        · have hs := V.srt (i := mpos A) (j := j) (by omega) h2
          have g0 := mpos_ge V (Nat.le_refl _) (j := mpos A) (by omega)
          have n0 : ¬ A 4 (mpos A) * A 0 11 = A 0 10 * A 5 (mpos A) := fun q => hne ⟨by omega, q⟩
          have p := V.place
          have m1 := V.mk (k := mpos A) (by omega)
          have m2 := V.mk (k := j) h2
          exact lt_tr (by omega) (by omega) (by omega) (show A 0 10 * A 5 (mpos A) < A 4 (mpos A) * A 0 11 by omega) hs
      have v := V
      obtain ⟨v0, v1, v2, v3, v4, v5, v6, v7, v8, v9, v10, v11, v12, v13, v14, v15, v16, v17⟩ := v
      have e0 : ∀ j, j ≠ 7 → insV A (mpos A) 0 j = A 0 j := fun j hj => insV_0 A _ j hj
      have e123 : ∀ i j, 1 ≤ i → i ≤ 3 → insV A (mpos A) i j = A i j := fun i j h1 h2 => by
        unfold insV
        rw [if_neg (by omega), if_neg (by omega), if_neg (by omega)]
      unfold VA
      simp only [e0 0 (by decide), e0 1 (by decide), e0 2 (by decide), e0 3 (by decide), e0 4 (by decide), e0 5 (by decide), e0 6 (by decide), e0 8 (by decide), e0 9 (by decide), e0 10 (by decide), e0 11 (by decide), e0 12 (by decide), insV_7, e123 1 _ (by omega) (by omega), e123 2 _ (by omega) (by omega), e123 3 _ (by omega) (by omega)]
      refine ⟨v0, v1, v2, v3, v4, v5, v6, by omega, v8, v9, v10, v11, v12, v13, v14, v15, fun k hk => ?_, fun i j hij hj => ?_⟩
      · rw [insV_4, insV_5]
        by_cases k1 : k < mpos A
        · rw [if_pos k1, if_pos k1]; exact v16 k (by omega)
        · rw [if_neg k1, if_neg k1]
          by_cases k2 : k = mpos A
          · rw [if_pos k2, if_pos k2]; exact v12
          · rw [if_neg k2, if_neg k2]; exact v16 (k - 1) (by omega)
      · simp only [insV_4, insV_5]
        by_cases i1 : i < mpos A
        · have hi := mpos_lt i1
          unfold mLs at hi
          rw [if_pos i1, if_pos i1]
          by_cases j1 : j < mpos A
          · rw [if_pos j1, if_pos j1]; exact v17 i j hij (by omega)
          · rw [if_neg j1, if_neg j1]
            by_cases j2 : j = mpos A
            · rw [if_pos j2, if_pos j2]; exact hi
            · rw [if_neg j2, if_neg j2]
              by_cases e : j - 1 = i
              · omega
              · exact v17 i (j - 1) (by omega) (by omega)
        · rw [if_neg i1, if_neg i1]
          have j1 : ¬ j < mpos A := by omega
          have j2 : ¬ j = mpos A := by omega
          rw [if_neg j1, if_neg j1, if_neg j2, if_neg j2]
          by_cases i2 : i = mpos A
          · rw [if_pos i2, if_pos i2]; exact hgt (j - 1) (by omega) (by omega)
          · rw [if_neg i2, if_neg i2]; exact v17 (i - 1) (j - 1) (by omega) (by omega)
    · exact V
end Valid
