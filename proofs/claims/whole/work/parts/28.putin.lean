-- Head.putIn(), scribe()
def te (A : HV) (k : Int) : Int := A 3 k.toNat
abbrev prP (A : HV) (x y : Int) : Prop := 0 ≤ x ∧ x < A 0 4 ∧ 0 ≤ y ∧ y < A 0 4 ∧ x ≠ y
abbrev twoP (c d : Int) : Prop := c = -1 ∧ d = -1
def gupP (A : HV) (a c d : Int) : Int := te A a * (if twoP c d then 1 else te A c)
def glwP (A : HV) (b c d : Int) : Int := te A b * (if twoP c d then 1 else te A d)
abbrev okPut (A : HV) (a b c d s : Int) : Prop := (s = 1 ∨ s = -1) ∧ prP A a b ∧ (twoP c d ∨ (prP A c d ∧ a ≠ c ∧ a ≠ d ∧ b ≠ c ∧ b ≠ d))
def putInV (A : HV) (u w s z : Int) : HV := uv (uv (uv (uv A 0 8 (rdU u w)) 0 9 (rdL u w)) 0 12 s) 0 6 z
def putInP (A : HV) (a b c d s : Int) : Int × HV := if okPut A a b c d s then (if rdU (gupP A a c d) (glwP A b c d) * s = A 0 0 * rdL (gupP A a c d) (glwP A b c d) then (-4, A) else (if twoP c d then 2 else 4, putInV A (gupP A a c d) (glwP A b c d) s (if twoP c d then 2 else 4))) else (-1, A)
theorem hTe_t {h : Hp} {a : Nat} {A : HV} (H : HdR h a A) (V : VA A) {k : Int32} (h1 : 0 ≤ k.toInt) (h2 : k.toInt < A 0 4) : (hTe h a k).toInt = te A k.toInt ∧ 20 ≤ te A k.toInt ∧ te A k.toInt ≤ 100 := by
  have h4 := H.2.1 4 (by omega)
  have v := V
  obtain ⟨-, -, -, -, v4, -, -, -, -, -, -, -, -, -, -, v15, -⟩ := v
  unfold hTe
  rw [h4, if_pos (by omega)]
  have e := H.2.2.2.2.2.2.2.2.1 (ix k) (by rw [ix_t h1]; exact h2)
  have e2 : te A k.toInt = A 3 (ix k) := rfl
  rw [e2]
  exact ⟨e, v15 (ix k) (by rw [ix_t h1]; exact h2)⟩
theorem hPr_0 {h : Hp} {a : Nat} {A : HV} (H : HdR h a A) {x y : Int32} : hPr h a x y = 0 ↔ ¬ prP A x.toInt y.toInt := by
  have h4 := H.2.1 4 (by omega)
  unfold hPr
  rw [h4]
  by_cases q : prP A x.toInt y.toInt
  · rw [if_pos q]; simp [q]
  · rw [if_neg q]; simp [q]
section PutIn
variable {X : Ctx} {k n : Nat} {h : Hp} {a : Nat} {A : HV} {Q : Pq}
theorem i4_t : (4 : Int32).toInt = 4 := rfl
theorem i2_t : (2 : Int32).toInt = 2 := rfl
theorem im1_t : (-1 : Int32).toInt = -1 := rfl
theorem sp_putIn {l : Launch} {D : Dt} (H : HdR h a A) (V : VA A) {x y c d s : Int32} : S_X4_putIn l D 0 0 [.ref a, .int x, .int y, .int c, .int d, .int s] h (QI fun r h' => r.toInt = (putInP A x.toInt y.toInt c.toInt d.toInt s.toInt).1 ∧ HdR h' a (putInP A x.toInt y.toInt c.toInt d.toInt s.toInt).2 ∧ FrO (inH a) h h') := Sp.of rfl (Nat.le_of_ble_eq_true rfl) (fun X C _ _ _ _ => by
  generalize hQ : (QI fun r h' => r.toInt = (putInP A x.toInt y.toInt c.toInt d.toInt s.toInt).1 ∧ HdR h' a (putInP A x.toInt y.toInt c.toInt d.toInt s.toInt).2 ∧ FrO (inH a) h h') = Q
  have h0 := H.2.1 0 (by omega)
  have v := V
  obtain ⟨v0, -, -, -, v4, -⟩ := v
  have bad : ¬ okPut A x.toInt y.toInt c.toInt d.toInt s.toInt → Q (some (.int (-1))) h := by
    intro q
    rw [← hQ]
    refine ⟨_, rfl, ?_⟩
    unfold putInP
    rw [if_neg q]
    exact ⟨rfl, H, FrO.rf⟩
  have ia3 : inH a (a + 3) := ⟨by omega, by omega⟩
  have ia1 : inH a (a + 1) := ⟨by omega, by omega⟩
  have ia : inH a a := ⟨by omega, by omega⟩
  -- the end, with both products known
  have p127 : ∀ (t s3 : Int32) (s2 u : Int64), (t = 0 ↔ ¬ twoP c.toInt d.toInt) → okPut A x.toInt y.toInt c.toInt d.toInt s.toInt → u.toInt = gupP A x.toInt c.toInt d.toInt → (s2 * s3.toInt64).toInt = glwP A y.toInt c.toInt d.toInt → 0 < gupP A x.toInt c.toInt d.toInt → gupP A x.toInt c.toInt d.toInt ≤ 10000 → 0 < glwP A y.toInt c.toInt d.toInt → glwP A y.toInt c.toInt d.toInt ≤ 10000 → Wj X 0 0 Q 127 [(0, .ref a), (5, .int s), (6, .int t)] [.int s3, .long s2, .long u, .ref (a + 3)] h := by
    intro t s3 s2 u ht hok eu ew u1 u2 w1 w2
    generalize hw : s2 * s3.toInt64 = w at *
    obtain ⟨f1, f2⟩ := fr_t (u := u) (w := w) (by omega) (by omega)
    obtain ⟨g1, g2⟩ := gl_fpt0 h (a + 3) u w
    rw [eu, ew] at f1 f2
    have r1 := rdU_nn (u := gupP A x.toInt c.toInt d.toInt) (by omega) w1
    have r2 := rdU_le (u := gupP A x.toInt c.toInt d.toInt) (w := glwP A y.toInt c.toInt d.toInt) (by omega)
    have r3 := rdL_pos (u := gupP A x.toInt c.toInt d.toInt) w1
    have r4 := rdL_le (u := gupP A x.toInt c.toInt d.toInt) w1
    have hs := hok.1
    have t1 : (gl (fpt h (a + 3) u w) (a + 3) 0 * s.toInt64).toInt = rdU (gupP A x.toInt c.toInt d.toInt) (glwP A y.toInt c.toInt d.toInt) * s.toInt := by
      rw [lmul_t] <;> rw [g1, f1, i2l_t] <;> rcases hs with e | e <;> rw [e] <;> omega
    have t2 : ((gi h a 0).toInt64 * gl (fpt h (a + 3) u w) (a + 3) 1).toInt = A 0 0 * rdL (gupP A x.toInt c.toInt d.toInt) (glwP A y.toInt c.toInt d.toInt) := by
      have m1 := mul_bd (a := A 0 0) (b := rdL (gupP A x.toInt c.toInt d.toInt) (glwP A y.toInt c.toInt d.toInt)) (M := 120) (K := 10000) (by omega) (by omega) (by omega) (by omega)
      rw [lmul_t] <;> rw [g2, f2, i2l_t, h0] <;> omega
    have H2 : HdR (fpt h (a + 3) u w) a A := H.setn
    have H3 := H2.setr (u := gl (fpt h (a + 3) u w) (a + 3) 0) (w := gl (fpt h (a + 3) u w) (a + 3) 1)
    rw [g1, g2, f1, f2] at H3
    have fin : ∀ z : Int32, (z.toInt = if twoP c.toInt d.toInt then 2 else 4) → ¬ rdU (gupP A x.toInt c.toInt d.toInt) (glwP A y.toInt c.toInt d.toInt) * s.toInt = A 0 0 * rdL (gupP A x.toInt c.toInt d.toInt) (glwP A y.toInt c.toInt d.toInt) → Q (some (.int (gi (si (si h a 16 s) a 6 z) a 6))) (si (si (fcp (fpt h (a + 3) u w) (a + 1) (a + 3)) a 16 s) a 6 z) := by
      intro z hz hne
      rw [← hQ]
      refine ⟨_, rfl, ?_⟩
      unfold putInP
      rw [if_pos hok, if_neg hne]
      refine ⟨by rw [gi_si, if_pos ⟨rfl, rfl⟩]; exact hz, ?_, (((FrO.rf.fpt ia3).fcp ia1).si ia).si ia⟩
      have H4 := (H3.set16 (v := s)).seti (i := 6) (v := z) (by omega) (by omega) (by omega) (by omega)
      rw [hz] at H4
      unfold fcp
      rw [g1, g2]
      exact H4
    refine V_X4_putIn_127 C ⟨St4_k10 H.1, by omega, by rw [hw]; omega, H.1, ?_⟩
    rw [hw]
    refine ⟨fun q => ⟨fun q1 => fin 4 ?_ ?_, fun q1 => fin 2 ?_ ?_⟩, fun q => ?_⟩
    · rw [if_neg (ht.mp q1)]; rfl
    · rw [i64_eq, t1, t2] at q; exact q
    · rw [if_pos (Decidable.not_not.mp (fun z => q1 (ht.mpr z)))]; rfl
    · rw [i64_eq, t1, t2] at q; exact q
    · rw [i64_eq, t1, t2] at q
      rw [← hQ]
      refine ⟨_, rfl, ?_⟩
      unfold putInP
      rw [if_pos hok, if_pos q]
      exact ⟨rfl, H2, FrO.rf.fpt ia3⟩
  have p80 : ∀ t : Int32, (t = 0 ↔ ¬ twoP c.toInt d.toInt) → okPut A x.toInt y.toInt c.toInt d.toInt s.toInt → Wj X 0 0 Q 80 [(0, .ref a), (1, .int x), (2, .int y), (3, .int c), (4, .int d), (5, .int s), (6, .int t)] [] h := by
    intro t ht hok
    obtain ⟨-, pab, pcd⟩ := id hok
    obtain ⟨x1, x2, x3⟩ := hTe_t H V (k := x) pab.1 pab.2.1
    obtain ⟨y1, y2, y3⟩ := hTe_t H V (k := y) pab.2.2.1 pab.2.2.2.1
    by_cases tw : twoP c.toInt d.toInt
    · have t0 : ¬ t = 0 := fun z => ht.mp z tw
      have eu : gupP A x.toInt c.toInt d.toInt = te A x.toInt := by unfold gupP; rw [if_pos tw]; omega
      have ew : glwP A y.toInt c.toInt d.toInt = te A y.toInt := by unfold glwP; rw [if_pos tw]; omega
      have l1 : (Int32.toInt64 1).toInt = 1 := rfl
      refine V_X4_putIn_80 C ⟨H.1, fun q => absurd q t0, fun _ => V_X4_putIn_104 C ⟨H.1, fun q => absurd q t0, fun _ => ?_⟩⟩
      refine p127 t 1 _ _ ht hok ?_ ?_ (by omega) (by omega) (by omega) (by omega)
      · rw [eu, lmul_t] <;> rw [i2l_t, x1, l1] <;> omega
      · rw [ew, lmul_t] <;> rw [i2l_t, y1, l1] <;> omega
    · have t0 : t = 0 := ht.mpr tw
      obtain ⟨pcd, -⟩ := pcd.resolve_left tw
      obtain ⟨c1, c2, c3⟩ := hTe_t H V (k := c) pcd.1 pcd.2.1
      obtain ⟨d1, d2, d3⟩ := hTe_t H V (k := d) pcd.2.2.1 pcd.2.2.2.1
      have eu : gupP A x.toInt c.toInt d.toInt = te A x.toInt * te A c.toInt := by unfold gupP; rw [if_neg tw]
      have ew : glwP A y.toInt c.toInt d.toInt = te A y.toInt * te A d.toInt := by unfold glwP; rw [if_neg tw]
      have m1 := mul_bd (a := te A x.toInt) (b := te A c.toInt) (M := 100) (K := 100) (by omega) (by omega) (by omega) (by omega)
      have m2 := mul_bd (a := te A y.toInt) (b := te A d.toInt) (M := 100) (K := 100) (by omega) (by omega) (by omega) (by omega)
      have m3 : 0 < te A x.toInt * te A c.toInt := Int.mul_pos (by omega) (by omega)
      have m4 : 0 < te A y.toInt * te A d.toInt := Int.mul_pos (by omega) (by omega)
      refine V_X4_putIn_80 C ⟨H.1, fun _ => V_X4_putIn_104 C ⟨H.1, fun _ => ?_, fun q => absurd t0 q⟩, fun q => absurd t0 q⟩
      refine p127 t _ _ _ ht hok ?_ ?_ (by omega) (by omega) (by omega) (by omega)
      · rw [eu, lmul_t] <;> rw [i2l_t, i2l_t, x1, c1] <;> omega
      · rw [ew, lmul_t] <;> rw [i2l_t, i2l_t, y1, d1] <;> omega
  have p30 : ∀ t : Int32, (t = 0 ↔ ¬ twoP c.toInt d.toInt) → (s.toInt = 1 ∨ s.toInt = -1) → Wj X 0 0 Q 30 [(0, .ref a), (1, .int x), (2, .int y), (3, .int c), (4, .int d), (5, .int s), (6, .int t)] [] h := by
    intro t ht hs
    refine V_X4_putIn_30 C ⟨H.1, fun q => ⟨fun q1 => p80 t ht ?_, fun q1 => ⟨fun q2 => bad ?_, fun q2 => ⟨fun q3 => bad ?_, fun q3 => ⟨fun q4 => bad ?_, fun q4 => ⟨fun q5 => bad ?_, fun q5 => ⟨fun q6 => p80 t ht ?_, fun q6 => bad ?_⟩⟩⟩⟩⟩⟩, fun q => bad ?_⟩
    all_goals rw [hPr_0 H] at q
    · exact ⟨hs, Decidable.not_not.mp q, Or.inl (Decidable.not_not.mp (fun z => q1 (ht.mpr z)))⟩
    all_goals (try (have ntw := ht.mp q1))
    all_goals (try rw [hPr_0 H] at q2)
    · exact fun z => (z.2.2.resolve_left ntw).1 |> q2
    all_goals (try rw [i32_eq] at q3)
    · exact fun z => (z.2.2.resolve_left ntw).2.1 q3
    all_goals (try rw [i32_eq] at q4)
    · exact fun z => (z.2.2.resolve_left ntw).2.2.1 q4
    all_goals (try rw [i32_eq] at q5)
    · exact fun z => (z.2.2.resolve_left ntw).2.2.2.1 q5
    all_goals (try rw [i32_eq] at q6)
    · exact ⟨hs, Decidable.not_not.mp q, Or.inr ⟨Decidable.not_not.mp q2, q3, q4, q5, q6⟩⟩
    · exact fun z => (z.2.2.resolve_left ntw).2.2.2.2 q6
    · exact fun z => q z.2.1
  have p16 : ∀ t : Int32, (t = 0 ↔ ¬ twoP c.toInt d.toInt) → Wj X 0 0 Q 16 [(0, .ref a), (1, .int x), (2, .int y), (3, .int c), (4, .int d), (5, .int s)] [.int t] h := by
    intro t ht
    refine V_X4_putIn_16 C ⟨fun q => p30 t ht ?_, fun q => ⟨fun q1 => bad ?_, fun q1 => p30 t ht ?_⟩⟩
    all_goals rw [i32_eq, i1_t] at q
    all_goals try rw [i32_eq, im1_t] at q1
    · exact Or.inl q
    · exact fun z => z.1.elim q q1
    · exact Or.inr q1
  refine V_X4_putIn_0 C ⟨fun q => p16 0 ?_, fun q => ⟨fun q1 => p16 0 ?_, fun q1 => p16 1 ?_⟩⟩
  all_goals rw [i32_eq, im1_t] at q
  all_goals try rw [i32_eq, im1_t] at q1
  · exact ⟨fun _ z => q z.1, fun _ => rfl⟩
  · exact ⟨fun _ z => q1 z.2, fun _ => rfl⟩
  · exact ⟨fun z => absurd z p1_ne, fun z => absurd ⟨q, q1⟩ z⟩)
end PutIn
-- a mark at the place
abbrev mLs (A : HV) (k : Nat) : Prop := A 4 k * A 0 11 < A 0 10 * A 5 k
def mposN (A : HV) : Nat → Nat → Nat
  | 0, k => k
  | d + 1, k => if mLs A k then mposN A d (k + 1) else k
def mpos (A : HV) : Nat := mposN A (A 0 7).toNat 0
def insV (A : HV) (p : Nat) : HV := fun i j => if i = 0 ∧ j = 7 then A 0 7 + 1 else if i = 4 then (if j < p then A 4 j else if j = p then A 0 10 else A 4 (j - 1)) else if i = 5 then (if j < p then A 5 j else if j = p then A 0 11 else A 5 (j - 1)) else A i j
def scribeP (A : HV) : Int × HV := if (mpos A : Int) < A 0 7 ∧ A 4 (mpos A) * A 0 11 = A 0 10 * A 5 (mpos A) then (-2, A) else if A 0 7 < 60 then (A 0 7 + 1, insV A (mpos A)) else (-3, A)
theorem mposN_le (A : HV) (d k : Nat) : k ≤ mposN A d k ∧ mposN A d k ≤ k + d := by
  induction d generalizing k with
  | zero => exact ⟨Nat.le_refl _, Nat.le_refl _⟩
  | succ d ih =>
    unfold mposN
    split
    · have := ih (k + 1); omega
    · omega
theorem mposN_lt (A : HV) (d k j : Nat) (h1 : k ≤ j) (h2 : j < mposN A d k) : mLs A j := by
  induction d generalizing k with
  | zero => unfold mposN at h2; omega
  | succ d ih =>
    unfold mposN at h2
    split at h2
    · rename_i hl
      by_cases e : j = k
      · rw [e]; exact hl
      · exact ih (k + 1) (by omega) h2
    · omega
theorem mposN_ge (A : HV) (d k : Nat) (h : mposN A d k < k + d) : ¬ mLs A (mposN A d k) := by
  induction d generalizing k with
  | zero => unfold mposN at h; omega
  | succ d ih =>
    unfold mposN at h ⊢
    split
    · rename_i hl
      rw [if_pos hl] at h
      exact ih (k + 1) (by omega)
    · rename_i hl
      exact hl
section Scribe
variable {X : Ctx} {h : Hp} {a : Nat} {A : HV} {Q : Pq}
theorem hMu_t (H : HdR h a A) (V : VA A) {k : Int32} (h1 : 0 ≤ k.toInt) (h2 : k.toInt < A 0 7) : (hMu h a k).toInt = A 4 (ix k) ∧ (hMl h a k).toInt = A 5 (ix k) := by
  have h7 := H.2.1 7 (by omega)
  have v7 := V.2.2.2.2.2.2.2.1
  unfold hMu hMl
  rw [h7, if_pos (by omega), if_pos (by omega)]
  exact H.2.2.2.2.2.2.2.2.2 (ix k) (by rw [ix_t h1]; exact h2)
/-- mark k against the place -/
theorem cmk_t (H : HdR h a A) (V : VA A) {k : Int32} (h1 : 0 ≤ k.toInt) (h2 : k.toInt < A 0 7) : cmpL (hMu h a k * gl h (a + 2) 1) (gl h (a + 2) 0 * hMl h a k) = if mLs A (ix k) then -1 else if A 4 (ix k) * A 0 11 = A 0 10 * A 5 (ix k) then 0 else 1 := by
  obtain ⟨e1, e2⟩ := hMu_t H V h1 h2
  have v := V
  obtain ⟨-, -, -, -, -, -, -, -, -, -, -, -, v12, -, -, -, v16, -⟩ := v
  have m := v16 (ix k) (by rw [ix_t h1]; exact h2)
  have p10 : (gl h (a + 2) 0).toInt = A 0 10 := H.2.2.2.2.2.1
  have p11 : (gl h (a + 2) 1).toInt = A 0 11 := H.2.2.2.2.2.2.1
  have b1 := mul_bd (a := A 4 (ix k)) (b := A 0 11) (M := 1000000000) (K := 1000000000) (by omega) (by omega) (by omega) (by omega)
  have b2 := mul_bd (a := A 0 10) (b := A 5 (ix k)) (M := 1000000000) (K := 1000000000) (by omega) (by omega) (by omega) (by omega)
  have t1 : (hMu h a k * gl h (a + 2) 1).toInt = A 4 (ix k) * A 0 11 := by rw [lmul_t] <;> rw [e1, p11] <;> omega
  have t2 : (gl h (a + 2) 0 * hMl h a k).toInt = A 0 10 * A 5 (ix k) := by rw [lmul_t] <;> rw [e2, p10] <;> omega
  rw [cmpL_c, t1, t2]
theorem ii_m1 : (Int32.ofInt (-1)).toInt = -1 := rfl
/-- the search from the first mark on -/
theorem scr_find (C : C_X4_scribe X) (H : HdR h a A) (V : VA A) (hend : ∀ p : Int32, ix p = mpos A → 0 ≤ p.toInt → p.toInt ≤ A 0 7 → Wj X 0 0 Q 30 [(0, .ref a), (1, .int p)] [] h) (d : Nat) : ∀ i : Int32, 0 ≤ i.toInt → i.toInt + d = A 0 7 → mposN A d (ix i) = mpos A → Wj X 0 0 Q 4 [(0, .ref a), (1, .int i), (2, .int i)] [] h := by
  have h7 := H.2.1 7 (by omega)
  have v7 := V.2.2.2.2.2.2.2.1
  induction d with
  | zero =>
    intro i hi hd hp
    refine V_X4_scribe_4 C ⟨H.1, fun _ => hend i hp hi (by omega), fun q => ?_⟩
    rw [i32_le, h7] at q; omega
  | succ d ih =>
    intro i hi hd hp
    have hi1 : (i + Int32.ofInt 1).toInt = i.toInt + 1 := by rw [iadd_t] <;> rw [ii_1] <;> omega
    have hii : i + 1 = i + Int32.ofInt 1 := rfl
    have hx : ix (i + Int32.ofInt 1) = ix i + 1 := by unfold ix; omega
    unfold mposN at hp
    refine V_X4_scribe_4 C ⟨H.1, fun q => ?_, fun _ => ⟨fun q => ?_, fun q => ?_⟩⟩
    · rw [i32_le, h7] at q; omega
    · rw [cmk_t H V hi (by omega)] at q
      have nl : ¬ mLs A (ix i) := fun z => by rw [if_pos z] at q; exact absurd q (by decide)
      rw [if_neg nl] at hp
      exact hend i hp hi (by omega)
    · rw [cmk_t H V hi (by omega)] at q
      have il : mLs A (ix i) := Decidable.not_not.mp fun z => by
        rw [if_neg z] at q
        by_cases z2 : A 4 (ix i) * A 0 11 = A 0 10 * A 5 (ix i)
        · rw [if_pos z2] at q; exact absurd q (by decide)
        · rw [if_neg z2] at q; exact absurd q (by decide)
      rw [if_pos il] at hp
      rw [hii]
      exact ih (i + Int32.ofInt 1) (by omega) (by omega) (by rw [hx]; exact hp)
/-- marks behind p moved on by one, down to k -/
def Shf (h h' : Hp) (a n k : Nat) : Prop := FrO (inH a) h h' ∧ (∀ c j, gi h' c j = gi h c j) ∧ (∀ c j, c ≠ a + 7 → c ≠ a + 8 → gl h' c j = gl h c j) ∧ ∀ j, (gl h' (a + 7) j = if k < j ∧ j ≤ n then gl h (a + 7) (j - 1) else gl h (a + 7) j) ∧ (gl h' (a + 8) j = if k < j ∧ j ≤ n then gl h (a + 8) (j - 1) else gl h (a + 8) j)
theorem scr_shift (C : C_X4_scribe X) (H : HdR h a A) (V : VA A) (hlt : A 0 7 < 60) {p : Int32} (hp0 : 0 ≤ p.toInt) (hp1 : p.toInt ≤ A 0 7) (hend : ∀ h', Shf h h' a (A 0 7).toNat (ix p) → Wj X 0 0 Q 111 [(0, .ref a), (1, .int p)] [] h') (d : Nat) : ∀ (i : Int32) (h' : Hp), p.toInt + d = i.toInt → i.toInt ≤ A 0 7 → Shf h h' a (A 0 7).toNat (ix i) → Wj X 0 0 Q 66 [(0, .ref a), (1, .int p), (2, .int i)] [] h' := by
  induction d with
  | zero =>
    intro i h' hd hi hs
    have e : ix i = ix p := by unfold ix; omega
    rw [e] at hs
    refine V_X4_scribe_66 C ⟨fun _ => hend h' hs, fun q => ?_⟩
    rw [i32_le] at q; omega
  | succ d ih =>
    intro i h' hd hi hs
    have him : (i + Int32.ofInt (-1)).toInt = i.toInt - 1 := by rw [iadd_t] <;> rw [ii_m1] <;> omega
    have hi1 : (i - 1).toInt = i.toInt - 1 := by rw [isub_t] <;> rw [i1_t] <;> omega
    have hx : ix (i - 1) = ix i - 1 := by unfold ix; omega
    have hx2 : ix (i + Int32.ofInt (-1)) = ix i - 1 := by unfold ix; omega
    have hxp : 0 < ix i := by unfold ix; omega
    refine V_X4_scribe_66 C ⟨fun q => ?_, fun _ => ⟨fun q => ?_, fun _ => ⟨H.1.fr hs.1, ⟨by omega, by omega⟩, ⟨by omega, by omega⟩, ?_⟩⟩⟩
    · rw [i32_le] at q; omega
    · rw [i32_le, i60_tt] at q; omega
    · refine ih _ _ (by omega) (by omega) ?_
      rw [hx2, hx]
      obtain ⟨s1, s2, s3, s4⟩ := hs
      refine ⟨(s1.sl ⟨by omega, by omega⟩).sl ⟨by omega, by omega⟩, fun c j => s2 c j, fun c j c1 c2 => ?_, fun j => ⟨?_, ?_⟩⟩
      · rw [gl_sl, if_neg (fun q => c2 q.1), gl_sl, if_neg (fun q => c1 q.1)]; exact s3 c j c1 c2
      · have hn : ix i ≤ (A 0 7).toNat := by unfold ix; omega
        rw [gl_sl, if_neg (fun q => by have := q.1; omega), gl_sl]
        by_cases e : j = ix i
        · rw [if_pos ⟨rfl, e⟩, if_pos (by omega), (s4 (ix i - 1)).1, if_neg (by omega), e]
        · rw [if_neg (fun q => e q.2), (s4 j).1]
          by_cases e2 : ix i < j ∧ j ≤ (A 0 7).toNat
          · rw [if_pos e2, if_pos (by omega)]
          · rw [if_neg e2, if_neg (by omega)]
      · have hn : ix i ≤ (A 0 7).toNat := by unfold ix; omega
        rw [gl_sl]
        by_cases e : j = ix i
        · rw [if_pos ⟨rfl, e⟩, if_pos (by omega), gl_sl, if_neg (fun q => by have := q.1; omega), (s4 (ix i - 1)).2, if_neg (by omega), e]
        · rw [if_neg (fun q => e q.2), gl_sl, if_neg (fun q => by have := q.1; omega), (s4 j).2]
          by_cases e2 : ix i < j ∧ j ≤ (A 0 7).toNat
          · rw [if_pos e2, if_pos (by omega)]
          · rw [if_neg e2, if_neg (by omega)]
theorem insV_0 (A : HV) (p j : Nat) (h : j ≠ 7) : insV A p 0 j = A 0 j := by unfold insV; rw [if_neg (fun q => h q.2)]; simp
theorem insV_7 (A : HV) (p : Nat) : insV A p 0 7 = A 0 7 + 1 := by unfold insV; simp
theorem insV_4 (A : HV) (p j : Nat) : insV A p 4 j = if j < p then A 4 j else if j = p then A 0 10 else A 4 (j - 1) := by unfold insV; simp
theorem insV_5 (A : HV) (p j : Nat) : insV A p 5 j = if j < p then A 5 j else if j = p then A 0 11 else A 5 (j - 1) := by unfold insV; simp
theorem gl_two (h : Hp) (a p k : Nat) (u w : Int64) : gl (sl (sl h (a + 7) p u) (a + 8) p w) (a + 7) k = (if k = p then u else gl h (a + 7) k) ∧ gl (sl (sl h (a + 7) p u) (a + 8) p w) (a + 8) k = (if k = p then w else gl h (a + 8) k) := by
  have e : ¬ a + 7 = a + 8 := by omega
  have e2 : ¬ a + 8 = a + 7 := by omega
  constructor
  · simp only [gl_sl, e, false_and, if_false, true_and]
  · simp only [gl_sl, e2, false_and, if_false, true_and]
theorem sp_scribe {l : Launch} {D : Dt} (H : HdR h a A) (V : VA A) : S_X4_scribe l D 0 0 [.ref a] h (QI fun r h' => r.toInt = (scribeP A).1 ∧ HdR h' a (scribeP A).2 ∧ FrO (inH a) h h') := Sp.of rfl (Nat.le_of_ble_eq_true rfl) (fun X C _ _ _ _ => by
  generalize hQ : (QI fun r h' => r.toInt = (scribeP A).1 ∧ HdR h' a (scribeP A).2 ∧ FrO (inH a) h h') = Q
  have h7 := H.2.1 7 (by omega)
  have v := V
  obtain ⟨-, -, -, -, -, -, -, v7, -, -, -, -, v12, -⟩ := v
  have ml := mposN_le A (A 0 7).toNat 0
  have p49 : ∀ p : Int32, ix p = mpos A → 0 ≤ p.toInt → p.toInt ≤ A 0 7 → ¬ ((mpos A : Int) < A 0 7 ∧ A 4 (mpos A) * A 0 11 = A 0 10 * A 5 (mpos A)) → Wj X 0 0 Q 49 [(0, .ref a), (1, .int p)] [] h := by
    intro p e hp0 hp1 hne
    refine V_X4_scribe_49 C ⟨H.1, fun q => ?_, fun q => ?_⟩
    · rw [i32_lt, h7, i60_tt] at q
      have hS0 : Shf h h a (A 0 7).toNat (ix (gi h a 7)) := ⟨FrO.rf, fun _ _ => rfl, fun _ _ _ _ => rfl, fun j => by
        have e7 : ix (gi h a 7) = (A 0 7).toNat := by unfold ix; rw [h7]
        rw [e7]
        exact ⟨by rw [if_neg (by omega)], by rw [if_neg (by omega)]⟩⟩
      refine scr_shift C H V q hp0 hp1 (fun h' hs => ?_) (A 0 7 - p.toInt).toNat (gi h a 7) h (by rw [h7]; omega) (by rw [h7]; omega) hS0
      obtain ⟨s1, s2, s3, s4⟩ := hs
      refine V_X4_scribe_111 C ⟨fun z => ?_, fun _ => ⟨H.1.fr s1, ⟨hp0, by omega⟩, ?_⟩⟩
      · rw [i32_le, i60_tt] at z; omega
      have Fs : St4 h' a := H.1.fr s1
      refine V_X4_scribe_143 C ⟨Fs, ?_⟩
      rw [← hQ]
      refine ⟨_, rfl, ?_⟩
      unfold scribeP
      rw [if_neg hne, if_pos q]
      have g7 : gi h' a 7 = gi h a 7 := s2 a 7
      have t7 : (gi h' a 7 + 1).toInt = A 0 7 + 1 := by rw [g7, iadd_t] <;> rw [h7, i1_t] <;> omega
      refine ⟨?_, ?_, ((s1.sl ⟨by omega, by omega⟩).sl ⟨by omega, by omega⟩).si ⟨by omega, by omega⟩⟩
      · rw [gi_si, if_pos ⟨rfl, rfl⟩]; exact t7
      · show HdR _ a (insV A (mpos A))
        obtain ⟨H0, H1, H2, H3, H4, H5, H6, H7, H8, H9⟩ := H
        have pu : gl h' (a + 2) 0 = gl h (a + 2) 0 := s3 _ _ (by omega) (by omega)
        have pw : gl (sl h' (a + 7) (ix p) (gl h' (a + 2) 0)) (a + 2) 1 = gl h (a + 2) 1 := by rw [gl_sl, if_neg (fun q => by have := q.1; omega)]; exact s3 _ _ (by omega) (by omega)
        rw [pw, pu]
        have og : ∀ c j, c ≠ a + 7 → c ≠ a + 8 → gl (sl (sl h' (a + 7) (ix p) (gl h (a + 2) 0)) (a + 8) (ix p) (gl h (a + 2) 1)) c j = gl h c j := fun c j c1 c2 => by
          rw [gl_sl, if_neg (fun q => c2 q.1), gl_sl, if_neg (fun q => c1 q.1)]; exact s3 c j c1 c2
        refine ⟨Fs, fun i hi => ?_, ?_, ?_, ?_, ?_, ?_, fun k hk => ?_, fun k hk => ?_, fun k hk => ?_⟩
        · rw [gi_si]
          by_cases ei : i = 7
          · rw [if_pos ⟨rfl, ei⟩, ei, insV_7]; exact t7
          · rw [if_neg (fun q => ei q.2), insV_0 _ _ _ ei]
            exact (congrArg Int32.toInt (s2 a i)).trans (H1 i hi)
        · rw [gi_si, if_neg (fun q => by cases q.2), insV_0 _ _ _ (by omega)]
          exact (congrArg Int32.toInt (s2 a 16)).trans H2
        · rw [gl_si, og _ _ (by omega) (by omega), insV_0 _ _ _ (by omega)]; exact H3
        · rw [gl_si, og _ _ (by omega) (by omega), insV_0 _ _ _ (by omega)]; exact H4
        · rw [gl_si, og _ _ (by omega) (by omega), insV_0 _ _ _ (by omega)]; exact H5
        · rw [gl_si, og _ _ (by omega) (by omega), insV_0 _ _ _ (by omega)]; exact H6
        · rw [insV_0 _ _ _ (by omega)] at hk
          rw [gi_si, if_neg (fun q => by have := q.1; omega), gi_si, if_neg (fun q => by have := q.1; omega)]
          have := H7 k hk
          exact ⟨(congrArg Int32.toInt (s2 (a + 4) k)).trans this.1, (congrArg Int32.toInt (s2 (a + 5) k)).trans this.2⟩
        · rw [insV_0 _ _ _ (by omega)] at hk
          rw [gi_si, if_neg (fun q => by have := q.1; omega)]
          exact (congrArg Int32.toInt (s2 (a + 6) k)).trans (H8 k hk)
        · rw [insV_7] at hk
          have ep : ix p = mpos A := e
          rw [gl_si, gl_si, (gl_two _ _ _ _ _ _).1, (gl_two _ _ _ _ _ _).2, insV_4, insV_5, ep]
          rw [ep] at s4
          by_cases k1 : k = mpos A
          · have k0 : ¬ k < mpos A := by omega
            simp only [k1, if_true, Nat.lt_irrefl, if_false]
            exact ⟨H5, H6⟩
          · simp only [k1, if_false, (s4 k).1, (s4 k).2]
            by_cases k2 : k < mpos A
            · have k3 : ¬ (mpos A < k ∧ k ≤ (A 0 7).toNat) := by omega
              simp only [k2, k3, if_true, if_false]
              have em : (mpos A : Int) = p.toInt := by rw [← ep, ix_t hp0]
              exact H9 k (by omega)
            · have k3 : mpos A < k ∧ k ≤ (A 0 7).toNat := by omega
              simp only [k2, k3, and_self, if_true, if_false, k1]
              exact H9 (k - 1) (by omega)
    · rw [i32_lt, h7, i60_tt] at q
      rw [← hQ]
      refine ⟨_, rfl, ?_⟩
      unfold scribeP
      rw [if_neg hne, if_neg q]
      exact ⟨rfl, H, FrO.rf⟩
  refine V_X4_scribe_0 C (scr_find C H V (fun p e hp0 hp1 => ?_) (A 0 7).toNat 0 (by rw [i0_t]; omega) (by rw [i0_t]; omega) (by rw [ix_0]; rfl))
  have em : (mpos A : Int) = p.toInt := by rw [← e, ix_t hp0]
  refine V_X4_scribe_30 C ⟨H.1, fun q => p49 p e hp0 hp1 ?_, fun q => ⟨fun q1 => p49 p e hp0 hp1 ?_, fun q1 => ?_⟩⟩
  · rw [hIs_0, h7] at q; omega
  · rw [hIs_0, h7] at q
    rw [cmk_t H V hp0 (by omega), e] at q1
    intro z
    have nl : ¬ mLs A (mpos A) := fun y => by unfold mLs at y; omega
    rw [if_neg nl, if_pos z.2] at q1
    exact q1 rfl
  · rw [hIs_0, h7] at q
    rw [cmk_t H V hp0 (by omega), e] at q1
    have z : A 4 (mpos A) * A 0 11 = A 0 10 * A 5 (mpos A) := Decidable.not_not.mp fun z => by
      by_cases y : mLs A (mpos A)
      · rw [if_pos y] at q1; exact absurd q1 (by decide)
      · rw [if_neg y, if_neg z] at q1; exact absurd q1 (by decide)
    rw [← hQ]
    refine ⟨_, rfl, ?_⟩
    unfold scribeP
    rw [if_pos ⟨by omega, z⟩]
    exact ⟨rfl, H, FrO.rf⟩)
end Scribe
