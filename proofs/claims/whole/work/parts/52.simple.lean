-- simple ways
abbrev hasS (A : HV) (n : Int) (k : Nat) : Prop := (A 0 0 * A 1 k) % n = 0
def cntS (A : HV) (n : Int) : Nat → Nat
  | 0 => 0
  | k + 1 => cntS A n k + if hasS A n k then 1 else 0
def fsN (A : HV) (n : Int) : Nat → Nat → Nat
  | 0, k => k
  | d + 1, k => if hasS A n k then k else fsN A n d (k + 1)
def fS (A : HV) (n : Int) : Nat := fsN A n (A 0 3).toNat 0
theorem fsN_le (A : HV) (n : Int) (d k : Nat) : k ≤ fsN A n d k ∧ fsN A n d k ≤ k + d := by
  induction d generalizing k with
  | zero => exact ⟨Nat.le_refl _, Nat.le_refl _⟩
  | succ d ih =>
    unfold fsN
    split
    · omega
    · have := ih (k + 1); omega
theorem fsN_no (A : HV) (n : Int) (d k j : Nat) (h1 : k ≤ j) (h2 : j < fsN A n d k) : ¬ hasS A n j := by
  induction d generalizing k with
  | zero => unfold fsN at h2; omega
  | succ d ih =>
    unfold fsN at h2
    split at h2
    · omega
    · rename_i hl
      by_cases e : j = k
      · rw [e]; exact hl
      · exact ih (k + 1) (by omega) h2
theorem fsN_is (A : HV) (n : Int) (d k : Nat) (h : fsN A n d k < k + d) : hasS A n (fsN A n d k) := by
  induction d generalizing k with
  | zero => unfold fsN at h; omega
  | succ d ih =>
    unfold fsN at h ⊢
    split
    · rename_i hl; exact hl
    · rename_i hl
      rw [if_neg hl] at h
      exact ih (k + 1) (by omega)
theorem fS_is {A : HV} {n : Int} (h : (fS A n : Int) < A 0 3) : hasS A n (fS A n) := fsN_is A n _ 0 (by unfold fS at h; omega)
theorem fS_no {A : HV} {n : Int} {j : Nat} (h : j < fS A n) : ¬ hasS A n j := fsN_no A n _ 0 j (by omega) h
theorem fS_eq {A : HV} {n : Int} {f : Nat} (h1 : (f : Int) < A 0 3) (h2 : hasS A n f) (h3 : ∀ j, j < f → ¬ hasS A n j) : fS A n = f := by
  have le := fsN_le A n (A 0 3).toNat 0
  rcases Nat.lt_trichotomy (fS A n) f with q | q | q
  · exact absurd (fS_is (by omega)) (h3 _ q)
  · exact q
  · exact absurd h2 (fS_no q)
theorem fS_none {A : HV} {n : Int} (h1 : ∀ j : Nat, (j : Int) < A 0 3 → ¬ hasS A n j) : ¬ (fS A n : Int) < A 0 3 := fun q => h1 _ q (fS_is q)
theorem cntS_0 {A : HV} {n : Int} (k : Nat) : cntS A n k = 0 ↔ ∀ j, j < k → ¬ hasS A n j := by
  induction k with
  | zero => exact ⟨fun _ j hj => by omega, fun _ => rfl⟩
  | succ k ih =>
    unfold cntS
    constructor
    · intro q j hj
      by_cases e : j = k
      · rw [e]; intro z; rw [if_pos z] at q; omega
      · exact ih.mp (by omega) j (by omega)
    · intro q
      rw [if_neg (q k (by omega)), ih.mpr (fun j hj => q j (by omega))]
theorem cntS_le (A : HV) (n : Int) (k : Nat) : cntS A n k ≤ k := by
  induction k with
  | zero => exact Nat.le_refl _
  | succ k ih => unfold cntS; split <;> omega
theorem cntS_f {A : HV} (V : VA A) {n : Int} : cntS A n (A 0 3).toNat = 0 ↔ ¬ (fS A n : Int) < A 0 3 := by
  have v3 := V.2.2.2.1
  rw [cntS_0]
  constructor
  · intro q z; exact q _ (by omega) (fS_is z)
  · intro q j hj z
    have := fsN_le A n (A 0 3).toNat 0
    exact fS_no (A := A) (n := n) (j := j) (by unfold fS at *; omega) z
def smH (A : HV) (n : Int) (f : Nat) : Int := A 0 0 * A 1 f / n
def smRow (A : HV) (n : Int) : List Int := [(fS A n : Int), A 0 0 / n, smH A n (fS A n) % A 1 (fS A n)]
def simpleP (s : Sv) (n : Int) : Int × Sv := if 2 ≤ n ∧ n ≤ 400 then (if (fS (sA s) n : Int) < sA s 0 3 then ((cntS (sA s) n (sA s 0 3).toNat : Nat), rowS s (smRow (sA s) n)) else (-2, s)) else (-1, s)
/-- turns by all holes -/
theorem sm_div {A : HV} (V : VA A) {n : Int} (hn : 0 < n) {f : Nat} (hf : (f : Int) < A 0 3) (hs : hasS A n f) : smH A n f / A 1 f = A 0 0 / n ∧ smH A n f % A 1 f = smH A n f - A 0 0 / n * A 1 f ∧ 0 ≤ smH A n f ∧ smH A n f ≤ 8400 := by
  have v13 := (V.2.2.2.2.2.2.2.2.2.2.2.2.2.1 f hf)
  have w := V.worm
  have b := mul_bd (a := A 0 0) (b := A 1 f) (M := 120) (K := 70) (by omega) (by omega) (by omega) (by omega)
  have e : smH A n f / A 1 f = A 0 0 / n := by
    unfold smH
    rw [Int.ediv_ediv_of_nonneg (by omega), Int.mul_ediv_mul_of_pos_left _ _ (by omega)]
  have e2 := Int.emod_add_mul_ediv (smH A n f) (A 1 f)
  rw [e] at e2
  have e3 : A 1 f * (A 0 0 / n) = A 0 0 / n * A 1 f := Int.mul_comm _ _
  have e4 : 0 ≤ smH A n f := Int.ediv_nonneg b.1 (by omega)
  have e5 : smH A n f ≤ A 0 0 * A 1 f := Int.ediv_le_self _ b.1
  exact ⟨e, by omega, e4, by omega⟩
/-- what look() leaves -/
def SWP (h : Hp) (w : Nat) (A : HV) (n : Int) : Prop := gf h w 0 = (cntS A n (A 0 3).toNat : Nat) ∧ ((fS A n : Int) < A 0 3 → gf h w 1 = fS A n ∧ gf h w 2 = A 0 0 / n ∧ gf h w 3 = smH A n (fS A n) % A 1 (fS A n))
section Smp
variable {X : Ctx} {l : Launch} {D : Dt} {h : Hp} {a w : Nat} {A : HV} {Q : Pq}
/-- up to circle i -/
def SWI (h : Hp) (w : Nat) (A : HV) (n : Int) (i : Nat) : Prop := gf h w 0 = (cntS A n i : Nat) ∧ (0 < cntS A n i → ∃ f : Nat, f < i ∧ hasS A n f ∧ (∀ j, j < f → ¬ hasS A n j) ∧ gf h w 1 = f ∧ gf h w 2 = A 0 0 / n ∧ gf h w 3 = smH A n f % A 1 f)
theorem FrW.ofo {S : Nat → Prop} {P R : Nat → Nat → Prop} {h h' : Hp} (f : FrW P R h h') (p : ∀ b j, P b j → S b) (r : ∀ b j, R b j → S b) : FrO S h h' := by
  obtain ⟨f1, f2, f3, f4, f5, f6⟩ := f
  exact ⟨f1, f2, f3, f4, fun b q j => ⟨f5 b j (fun z => q (p b j z)), f6 b j (fun z => q (r b j z))⟩⟩
theorem HdR.wf {P R : Nat → Nat → Prop} {h h' : Hp} {a : Nat} {A : HV} (H : HdR h a A) (f : FrW P R h h') (p : ∀ b j, inH a b → ¬ P b j) (r : ∀ b j, inH a b → ¬ R b j) : HdR h' a A :=
  H.fr (f.ofo (S := fun b => ¬ inH a b) (fun b j q z => p b j z q) (fun b j q z => r b j z q)) (fun b hb q => q hb)
theorem look6_loop (C : C_X6_look X) (H : HdR h a A) (V : VA A) (kw : kd h w = 7) (hw : ¬ inH a w) {n : Int32} (n0 : 0 < n.toInt) (hend : ∀ h', FrW (fun b _ => b = w) (fun _ _ => False) h h' → SWI h' w A n.toInt (A 0 3).toNat → Q none h') (d : Nat) : ∀ (i : Int32) (h' : Hp), 0 ≤ i.toInt → i.toInt + d = A 0 3 → FrW (fun b _ => b = w) (fun _ _ => False) h h' → SWI h' w A n.toInt (ix i) → Wj X 0 0 Q 12 [(0, .ref w), (1, .ref a), (2, .int n), (3, .int i)] [] h' := by
  have v3 := V.2.2.2.1
  have w0 := V.worm
  have hwa : ¬ a = w := fun e => hw (by rw [← e]; exact ⟨by omega, by omega⟩)
  induction d with
  | zero =>
    intro i h' hi hd f g
    have H' : HdR h' a A := H.wf f (fun b j hb (q : b = w) => hw (by rw [← q]; exact hb)) (fun _ _ _ => id)
    refine V_X6_look_12 C ⟨H'.1, fun _ => hend h' f ?_, fun q => ?_⟩
    · have : ix i = (A 0 3).toNat := by unfold ix; omega
      rw [← this]; exact g
    · rw [i32_le, H'.2.1 3 (by omega)] at q; omega
  | succ d ih =>
    intro i h' hi hd f g
    have H' : HdR h' a A := H.wf f (fun b j hb (q : b = w) => hw (by rw [← q]; exact hb)) (fun _ _ _ => id)
    have kw' : kd h' w = 7 := by rw [f.2.1]; exact kw
    obtain ⟨x1, x2⟩ := ix_succ hi (by omega)
    have hk := ix_t hi
    have e0 : (gi h' a 0).toInt = A 0 0 := H'.2.1 0 (by omega)
    have eh : (hHo h' a i).toInt = A 1 (ix i) := by rw [hHo_t H' V, if_pos (by omega)]
    have v13 := (V.2.2.2.2.2.2.2.2.2.2.2.2.2.1 (ix i) (by omega))
    have b := mul_bd (a := A 0 0) (b := A 1 (ix i)) (M := 120) (K := 70) (by omega) (by omega) (by omega) (by omega)
    have em : (gi h' a 0 * hHo h' a i).toInt = A 0 0 * A 1 (ix i) := by rw [imul_t] <;> rw [e0, eh] <;> omega
    have er : ((gi h' a 0 * hHo h' a i) % n).toInt = (A 0 0 * A 1 (ix i)) % n.toInt := by rw [irem_p (by rw [em]; exact b.1), em]
    obtain ⟨g1, g2⟩ := g
    have cl := cntS_le A n.toInt (ix i)
    have g10 : (gi h' w 0).toInt = (cntS A n.toInt (ix i) : Nat) := g1
    -- behind one more that fits
    have p82 : ∀ h2 : Hp, FrW (fun b _ => b = w) (fun _ _ => False) h h2 → hasS A n.toInt (ix i) → gf h2 w 0 = (cntS A n.toInt (ix i) : Nat) → (∃ f : Nat, f < ix i + 1 ∧ hasS A n.toInt f ∧ (∀ j, j < f → ¬ hasS A n.toInt j) ∧ gf h2 w 1 = f ∧ gf h2 w 2 = A 0 0 / n.toInt ∧ gf h2 w 3 = smH A n.toInt f % A 1 f) → Wj X 0 0 Q 82 [(0, .ref w), (1, .ref a), (2, .int n), (3, .int i)] [] h2 := by
      intro h2 f2 hs c0 hf
      have c0' : (gi h2 w 0).toInt = (cntS A n.toInt (ix i) : Nat) := c0
      have ea : (gi h2 w 0 + 1).toInt = (cntS A n.toInt (ix i) : Nat) + 1 := by rw [iadd_t] <;> rw [i1_t, c0'] <;> omega
      refine V_X6_look_82 C ⟨by rw [f2.2.1]; exact kw, ih _ _ (by omega) (by omega) (f2.si rfl) ?_⟩
      rw [x1]
      obtain ⟨ff, q1, q2, q3, q4, q5, q6⟩ := hf
      have o : ∀ j, j ≠ 0 → gf (si h2 w 0 (gi h2 w 0 + 1)) w j = gf h2 w j := fun j hj => by unfold gf; rw [gi_si, if_neg (fun z => hj z.2)]
      refine ⟨?_, fun _ => ⟨ff, q1, q2, q3, by rw [o 1 (by omega)]; exact q4, by rw [o 2 (by omega)]; exact q5, by rw [o 3 (by omega)]; exact q6⟩⟩
      unfold gf cntS
      rw [gi_si, if_pos ⟨rfl, rfl⟩, ea, if_pos hs]; rfl
    refine V_X6_look_12 C ⟨H'.1, fun q => ?_, fun _ => ⟨by rw [i32_eq, i0_t]; omega, fun q => ?_, fun q => ⟨kw', fun q2 => ?_, fun q2 => ?_⟩⟩⟩
    · rw [i32_le, H'.2.1 3 (by omega)] at q; omega
    · rw [i32_eq, er, i0_t] at q
      refine ih _ _ (by omega) (by omega) f ?_
      have ec : cntS A n.toInt (ix i + 1) = cntS A n.toInt (ix i) := by
        show cntS A n.toInt (ix i) + (if hasS A n.toInt (ix i) then 1 else 0) = _
        rw [if_neg q]; rfl
      rw [x1]
      unfold SWI
      rw [ec]
      refine ⟨g1, fun z => ?_⟩
      obtain ⟨ff, q1, q2⟩ := g2 z
      exact ⟨ff, by omega, q2⟩
    · rw [i32_eq, er, i0_t] at q
      rw [i32_eq, g10, i0_t] at q2
      obtain ⟨ff, q1, q3⟩ := g2 (by omega)
      exact p82 h' f q g1 ⟨ff, by omega, q3⟩
    · rw [i32_eq, er, i0_t] at q
      rw [i32_eq, g10, i0_t] at q2
      have c0 : cntS A n.toInt (ix i) = 0 := by omega
      have nof := (cntS_0 (A := A) (n := n.toInt) (ix i)).mp c0
      obtain ⟨s1, s2, s3, s4⟩ := sm_div V n0 (f := ix i) (by omega) q
      have ga1 : gi (si h' w 1 i) a 0 = gi h' a 0 := by rw [gi_si, if_neg (fun z => hwa z.1)]
      have ga2 : ∀ v, gi (si (si h' w 1 i) w 2 v) a 0 = gi h' a 0 := fun v => by rw [gi_si, if_neg (fun z => hwa z.1), ga1]
      rw [ga1, ga2]
      have gw2 : gi (si (si h' w 1 i) w 2 (gi h' a 0 / n)) w 2 = gi h' a 0 / n := by rw [gi_si, if_pos ⟨rfl, rfl⟩]
      rw [gw2]
      have d1 : (gi h' a 0 / n).toInt = A 0 0 / n.toInt := by rw [idiv_p (by omega) (by omega), e0]
      have d2 : ((gi h' a 0 * hHo h' a i) / n).toInt = smH A n.toInt (ix i) := by rw [idiv_p (by omega) (by omega), em]; rfl
      have bt1 : 0 ≤ A 0 0 / n.toInt := Int.ediv_nonneg (by omega) (by omega)
      have bt2 : A 0 0 / n.toInt ≤ A 0 0 := Int.ediv_le_self _ (by omega)
      have bt3 := mul_bd (a := A 0 0 / n.toInt) (b := A 1 (ix i)) (M := 120) (K := 70) bt1 (by omega) (by omega) (by omega)
      have d3 : (gi h' a 0 / n * hHo h' a i).toInt = A 0 0 / n.toInt * A 1 (ix i) := by rw [imul_t] <;> rw [d1, eh] <;> omega
      have d4 : (gi h' a 0 * hHo h' a i / n - gi h' a 0 / n * hHo h' a i).toInt = smH A n.toInt (ix i) % A 1 (ix i) := by
        rw [s2, isub_t] <;> rw [d2, d3] <;> omega
      refine p82 _ (((f.si rfl).si rfl).si rfl) q ?_ ⟨ix i, by omega, q, nof, ?_, ?_, ?_⟩
      · unfold gf
        rw [gi_si, if_neg (by omega), gi_si, if_neg (by omega), gi_si, if_neg (by omega)]; exact g1
      · unfold gf
        rw [gi_si, if_neg (by omega), gi_si, if_neg (by omega), gi_si, if_pos ⟨rfl, rfl⟩, hk]
      · unfold gf
        rw [gi_si, if_neg (by omega), gi_si, if_pos ⟨rfl, rfl⟩, d1]
      · unfold gf
        rw [gi_si, if_pos ⟨rfl, rfl⟩, d4]
theorem cl_look6 (H : HdR h a A) (V : VA A) (kw : kd h w = 7) (hw : ¬ inH a w) {n : Int32} (n0 : 0 < n.toInt) : S_X6_look l D 0 0 [.ref w, .ref a, .int n] h (QV fun h' => SWP h' w A n.toInt ∧ FrW (fun b _ => b = w) (fun _ _ => False) h h') := Sp.of rfl (Nat.le_of_ble_eq_true rfl) (fun X C _ _ _ _ => V_X6_look_0 C (by
  have v3 := V.2.2.2.1
  refine ⟨kw, fun q => ?_, fun q => ?_⟩
  · have fin : ∀ h', SWI h' w A n.toInt (A 0 3).toNat → SWP h' w A n.toInt := by
      intro h' g
      refine ⟨g.1, fun z => ?_⟩
      have hc : 0 < cntS A n.toInt (A 0 3).toNat := by
        have := cntS_f V (n := n.toInt)
        rcases Nat.eq_zero_or_pos (cntS A n.toInt (A 0 3).toNat) with e | e
        · exact absurd z (this.mp e)
        · exact e
      obtain ⟨ff, q1, q2, q3, q4⟩ := g.2 hc
      rw [fS_eq (by omega) q2 q3]
      exact q4
    refine look6_loop C (h := h) H V kw hw n0 (fun h' f g => ⟨rfl, fin h' g, f⟩) (A 0 3).toNat 0 _ (by rw [i0_t]; omega) (by rw [i0_t]; omega) (FrW.rf.si rfl) ⟨?_, fun z => ?_⟩
    · unfold gf; rw [gi_si, if_pos ⟨rfl, rfl⟩, ix_0]; rfl
    · rw [ix_0] at z; exact absurd z (Nat.lt_irrefl 0)
  · rw [i32_lt, i0_t] at q; omega))
theorem ca_simple {x m : Nat} {s : Sv} (S : CSt h x m s) {n : Int32} : S_X9_simple l D 0 0 [.ref x, .int n] h (QI fun y h' => y.toInt = (simpleP s n.toInt).1 ∧ CSt h' x m (simpleP s n.toInt).2 ∧ FrX (inC x m) h h') := Sp.of rfl (Nat.le_of_ble_eq_true rfl) (fun X C _ _ _ _ => V_X9_simple_0 C (by
  obtain ⟨a, ea, Ha, ba⟩ := S.now
  obtain ⟨n12, g12⟩ := nn_of ea
  have V := S.2.2.2.2.1.1
  rw [g12]
  unfold simpleP
  refine ⟨fun q => ⟨S.1, n12, ?_⟩, fun q => ⟨_, rfl, ?_⟩⟩
  all_goals rw [bt_0] at q
  · have hq : 2 ≤ n.toInt ∧ n.toInt ≤ 400 := by have e1 : (2 : Int32).toInt = 2 := rfl; have e2 : (400 : Int32).toInt = 400 := rfl; omega
    rw [if_pos hq]
    refine (cl_look6 (w := x + 5) Ha V (St9_k2 S.1) (fun z => by unfold inH at z; omega) (by omega)).mono (fun w h3 hp => ?_)
    obtain ⟨rfl, sw, f3⟩ := hp
    obtain ⟨S3, p3, x3⟩ := S.scr f3 (fun b j (q : b = x + 5) => Or.inl (by omega)) (fun _ _ q => absurd q id)
    have cf := cntS_f V (n := n.toInt)
    have c0 : (gi h3 (x + 5) 0).toInt = (cntS (sA s) n.toInt (sA s 0 3).toNat : Nat) := sw.1
    refine ⟨rfl, S3.1, fun q1 => ?_, fun q1 => ⟨_, rfl, ?_⟩⟩
    all_goals rw [i32_eq, c0, i0_t] at q1
    · have hf : (fS (sA s) n.toInt : Int) < sA s 0 3 := Classical.not_not.mp (fun z => q1 (by rw [cf.mpr z]; rfl))
      rw [if_pos hf]
      obtain ⟨w1, w2, w3⟩ := sw.2 hf
      have keep : ∀ h', FrW (dI (x + 3)) (dL (x + 3)) h3 h' → ∀ j, gi h' (x + 5) j = gi h3 (x + 5) j := fun h' f j => f.xi (fun q => by have := q.1; omega)
      have k0 : gi (tcl h3 (x + 3)) (x + 5) 1 = gi h3 (x + 5) 1 := keep _ (FrW.rf.tcl) 1
      rw [k0]
      refine (cl_add (h := tcl h3 (x + 3)) (L := []) (St9_s1 S3.1) TdC.clr (by decide) (z := (fS (sA s) n.toInt : Int)) (by rw [i2l_t]; exact w1)).mono (fun w h5 hp => ?_)
      obtain ⟨rfl, t5, f5⟩ := hp
      have f35 : FrW (dI (x + 3)) (dL (x + 3)) h3 h5 := (FrW.rf.tcl).tr f5
      have F5 : St9 h5 x := St9_same S3.1 f35.2.1 f35.2.2.1 f35.2.2.2.1
      refine ⟨rfl, F5, (cl_add (St9_s1 F5) t5 (by simp) (z := sA s 0 0 / n.toInt) (by rw [i2l_t, keep h5 f35]; exact w2)).mono (fun w h7 hp => ?_)⟩
      obtain ⟨rfl, t7, f7⟩ := hp
      have f37 := f35.tr f7
      have F7 : St9 h7 x := St9_same S3.1 f37.2.1 f37.2.2.1 f37.2.2.2.1
      refine ⟨rfl, F7, (cl_add (St9_s1 F7) t7 (by simp) (z := smH (sA s) n.toInt (fS (sA s) n.toInt) % sA s 1 (fS (sA s) n.toInt)) (by rw [i2l_t, keep h7 f37]; exact w3)).mono (fun w h9 hp => ?_)⟩
      obtain ⟨rfl, t9, f9⟩ := hp
      have f39 := f37.tr f9
      obtain ⟨S9, p9, x9⟩ := S3.row f39 t9
      exact ⟨rfl, S9.1, _, rfl, by rw [keep h9 f39]; exact c0, S9, x3.tr x9⟩
    · have hf : ¬ (fS (sA s) n.toInt : Int) < sA s 0 3 := cf.mp (by omega)
      rw [if_neg hf]
      exact ⟨rfl, S3, x3⟩
  · have hq : ¬ (2 ≤ n.toInt ∧ n.toInt ≤ 400) := by have e1 : (2 : Int32).toInt = 2 := rfl; have e2 : (400 : Int32).toInt = 400 := rfl; omega
    rw [if_neg hq]; exact ⟨rfl, S, FrX.rf⟩))
end Smp
section SmpM
variable {X : Ctx} {l : Launch} {D : Dt} {h : Hp} {m : Nat} {A : HV} {Q : Pq}
theorem mHs_t (H : MdR h m A) (V : VA A) {k n : Int32} (h0 : 0 ≤ k.toInt) (h1 : k.toInt < A 0 3) (n0 : 0 < n.toInt) : (mHs h m k n = 0 ↔ ¬ hasS A n.toInt (ix k)) ∧ inb (23 + k) 732 ∧ (gi h (m + 3) (ix (23 + k))).toInt = A 1 (ix k) ∧ (gi h (m + 3) (ix 0) * gi h (m + 3) (ix (23 + k))).toInt = A 0 0 * A 1 (ix k) := by
  have v3 := V.2.2.2.1
  have w0 := V.worm
  have hk := ix_t h0
  obtain ⟨x1, -⟩ := ix_add (c := 23) (v := k) (a := 23) (b := ix k) rfl hk.symm (by omega)
  have e0 : (gi h (m + 3) (ix 0)).toInt = A 0 0 := by rw [ix_0]; exact H.n (by omega)
  have eh : (gi h (m + 3) (ix (23 + k))).toInt = A 1 (ix k) := by rw [x1]; exact H.hole (by omega)
  have v13 := (V.2.2.2.2.2.2.2.2.2.2.2.2.2.1 (ix k) (by omega))
  have b := mul_bd (a := A 0 0) (b := A 1 (ix k)) (M := 120) (K := 70) (by omega) (by omega) (by omega) (by omega)
  have em : (gi h (m + 3) (ix 0) * gi h (m + 3) (ix (23 + k))).toInt = A 0 0 * A 1 (ix k) := by rw [imul_t] <;> rw [e0, eh] <;> omega
  have er : ((gi h (m + 3) (ix 0) * gi h (m + 3) (ix (23 + k))) % n).toInt = (A 0 0 * A 1 (ix k)) % n.toInt := by rw [irem_p (by rw [em]; exact b.1), em]
  refine ⟨?_, inb_add (a := 23) (b := ix k) rfl hk.symm (by omega) (by omega), eh, em⟩
  unfold mHs
  by_cases q : (gi h (m + 3) (ix 0) * gi h (m + 3) (ix (23 + k))) % n = 0
  · rw [if_pos q]
    rw [i32_eq, er, i0_t] at q
    exact ⟨fun z => absurd z p1_ne, fun z => absurd q z⟩
  · rw [if_neg q]
    rw [i32_eq, er, i0_t] at q
    exact ⟨fun _ => q, fun _ => rfl⟩
theorem ma_first_loop (C : C_X10_firstSimple X) (H : MdR h m A) (V : VA A) {n : Int32} (n0 : 0 < n.toInt) (hq : ∀ y : Int32, (y.toInt = if (fS A n.toInt : Int) < A 0 3 then (fS A n.toInt : Int) else -1) → Q (some (.int y)) h) (d : Nat) : ∀ i : Int32, 0 ≤ i.toInt → i.toInt + d = A 0 3 → (∀ j, j < ix i → ¬ hasS A n.toInt j) → Wj X 0 0 Q 2 [(0, .ref m), (1, .int n), (2, .int i)] [] h := by
  have v3 := V.2.2.2.1
  have e3 := H.n (i := 3) (by omega)
  induction d with
  | zero =>
    intro i hi hd g
    refine V_X10_firstSimple_2 C ⟨H.1, fun _ => hq _ ?_, fun q => ?_⟩
    · rw [if_neg (fS_none (fun j hj => g j (by unfold ix; omega)))]; rfl
    · rw [ix_3, i32_le, e3] at q; omega
  | succ d ih =>
    intro i hi hd g
    obtain ⟨x1, x2⟩ := ix_succ hi (by omega)
    have hk := ix_t hi
    obtain ⟨m1, m2, -, -⟩ := mHs_t H V (k := i) hi (by omega) n0
    refine V_X10_firstSimple_2 C ⟨H.1, fun q => ?_, fun _ => ⟨m2, by rw [i32_eq, i0_t]; omega, fun q => ih _ (by omega) (by omega) (fun j hj => ?_), fun q => hq _ ?_⟩⟩
    · rw [ix_3, i32_le, e3] at q; omega
    · by_cases e : j = ix i
      · rw [e]; exact m1.mp q
      · exact g j (by omega)
    · have : fS A n.toInt = ix i := fS_eq (by omega) (Classical.not_not.mp (fun z => q (m1.mpr z))) g
      rw [this, if_pos (by omega)]; exact hk.symm
theorem ma_firstSimple (H : MdR h m A) (V : VA A) {n : Int32} (n0 : 0 < n.toInt) : S_X10_firstSimple l D 0 0 [.ref m, .int n] h (QI fun y h' => (y.toInt = if (fS A n.toInt : Int) < A 0 3 then (fS A n.toInt : Int) else -1) ∧ h' = h) := Sp.of rfl (Nat.le_of_ble_eq_true rfl) (fun X C _ _ _ _ => V_X10_firstSimple_0 C (by
  have v3 := V.2.2.2.1
  exact ma_first_loop C H V n0 (fun y hy => ⟨y, rfl, hy, rfl⟩) (A 0 3).toNat 0 (by rw [i0_t]; omega) (by rw [i0_t]; omega) (fun j hj => by unfold ix at hj; rw [i0_t] at hj; simp at hj)))
theorem ma_simple_loop (C : C_X10_simple X) (H : MdR h m A) (V : VA A) {n : Int32} (n0 : 0 < n.toInt) (hend : ∀ c i : Int32, i.toInt = A 0 3 → c.toInt = (cntS A n.toInt (A 0 3).toNat : Nat) → Wj X 0 0 Q 18 [(0, .ref m), (1, .int n), (2, .int c), (3, .int i)] [] h) (d : Nat) : ∀ c i : Int32, 0 ≤ i.toInt → i.toInt + d = A 0 3 → c.toInt = (cntS A n.toInt (ix i) : Nat) → Wj X 0 0 Q 18 [(0, .ref m), (1, .int n), (2, .int c), (3, .int i)] [] h := by
  have v3 := V.2.2.2.1
  have e3 := H.n (i := 3) (by omega)
  induction d with
  | zero =>
    intro c i hi hd g
    refine hend c i (by omega) ?_
    have : ix i = (A 0 3).toNat := by unfold ix; omega
    rw [← this]; exact g
  | succ d ih =>
    intro c i hi hd g
    obtain ⟨x1, x2⟩ := ix_succ hi (by omega)
    have hk := ix_t hi
    obtain ⟨m1, m2, -, -⟩ := mHs_t H V (k := i) hi (by omega) n0
    have cl := cntS_le A n.toInt (ix i)
    refine V_X10_simple_18 C ⟨H.1, fun q => ?_, fun _ => ⟨m2, by rw [i32_eq, i0_t]; omega, ih _ _ (by omega) (by omega) ?_⟩⟩
    · rw [ix_3, i32_le, e3] at q; omega
    · rw [x1]
      unfold cntS
      by_cases q : hasS A n.toInt (ix i)
      · have q1 : ¬ mHs h m i n = 0 := fun z => m1.mp z q
        have f1 : flg (mHs h m i n) = 1 := by unfold flg; rw [if_neg q1]
        rw [f1, if_pos q, iadd_t] <;> rw [i1_t, g] <;> omega
      · have q1 : mHs h m i n = 0 := m1.mpr q
        have f1 : flg (mHs h m i n) = 0 := by unfold flg; rw [if_pos q1]
        rw [f1, if_neg q, iadd_t] <;> rw [i0_t, g] <;> omega
theorem ma_simple {s : Sv} (S : MSt h m s) {n : Int32} : S_X10_simple l D 0 0 [.ref m, .int n] h (QI fun y h' => y.toInt = (simpleP s n.toInt).1 ∧ MSt h' m (simpleP s n.toInt).2 ∧ FrO (inM m) h h') := Sp.of rfl (Nat.le_of_ble_eq_true rfl) (fun X C _ _ _ _ => V_X10_simple_0 C (by
  obtain ⟨S1, f1⟩ := S.t0
  have V := S.1.va
  have v3 := V.2.2.2.1
  unfold simpleP
  refine ⟨S.1.1, fun q => ?_, fun q => ⟨_, rfl, ?_⟩⟩
  all_goals rw [btL_0, i2l_t, l2_t, l400_t] at q
  · have hq : 2 ≤ n.toInt ∧ n.toInt ≤ 400 := by omega
    rw [if_pos hq]
    refine ma_simple_loop C S1.1.md V (n := n) (by omega) (fun c i hi hc => ?_) (sA s 0 3).toNat 0 0 (by rw [i0_t]; omega) (by rw [i0_t]; omega) (by rw [ix_0]; rfl)
    have cf := cntS_f V (n := n.toInt)
    refine V_X10_simple_18 C ⟨S1.1.1, fun _ => ⟨fun q1 => ?_, fun q1 => ⟨_, rfl, ?_⟩⟩, fun q1 => ?_⟩
    · rw [i32_eq, hc, i0_t] at q1
      have hf : (fS (sA s) n.toInt : Int) < sA s 0 3 := Classical.not_not.mp (fun z => q1 (by rw [cf.mpr z]; rfl))
      rw [if_pos hf]
      refine (ma_firstSimple S1.1.md V (n := n) (by omega)).mono (fun w h2 hp => ?_)
      obtain ⟨y, rfl, hy, rfl⟩ := hp
      rw [if_pos hf] at hy
      have iy : ix y = fS (sA s) n.toInt := ix_of hy
      obtain ⟨s1, s2, s3, s4⟩ := sm_div V (n := n.toInt) (by omega) hf (fS_is hf)
      refine ⟨y, rfl, S1.1.1, (ma_enters (h := si (si h m 0 0) m 1 0) (L := []) S1.1.1 (RwM.clr 0 rfl) (by decide) (z := (fS (sA s) n.toInt : Int)) (by rw [i2l_t]; exact hy)).mono (fun w h5 hp => ?_)⟩
      obtain ⟨rfl, w5, f5⟩ := hp
      have f15 : FrW (rI m) (rL m) (si h m 0 0) h5 := (FrW.rf.si (v := 0) ⟨rfl, rfl⟩).tr f5
      have M : ∀ h', FrW (rI m) (rL m) (si h m 0 0) h' → MdR h' m (sA s) := fun h' f => S1.1.md.fr V f (fun j _ q => by have := q.1; omega) (fun j _ (q : m + 4 = m + 1) => by omega)
      have H5 := M h5 f15
      obtain ⟨-, i5, a5, b5⟩ := mHs_t H5 V (k := y) (n := n) (by omega) (by omega) (by omega)
      rw [iy] at a5 b5
      have v13 := (V.2.2.2.2.2.2.2.2.2.2.2.2.2.1 _ hf)
      have bw := V.worm
      have bb := mul_bd (a := sA s 0 0) (b := sA s 1 (fS (sA s) n.toInt)) (M := 120) (K := 70) (by omega) (by omega) (by omega) (by omega)
      have dv : ∀ u : Int32, u.toInt = sA s 0 0 * sA s 1 (fS (sA s) n.toInt) → (u / n).toInt = smH (sA s) n.toInt (fS (sA s) n.toInt) := fun u hu => by rw [idiv_p (by omega) (by omega), hu]; rfl
      refine ⟨rfl, H5.1, i5, by rw [i32_eq, i0_t]; omega, by rw [i32_eq, a5, i0_t]; omega, (ma_enters H5.1 w5 (by simp) (z := sA s 0 0 / n.toInt) ?_).mono (fun w h10 hp => ?_)⟩
      · rw [i2l_t, idiv_p (by rw [dv _ b5]; exact s3) (by rw [a5]; omega), dv _ b5, a5]; exact s1
      · obtain ⟨rfl, w10, f10⟩ := hp
        have f110 := f15.tr f10
        have H10 := M h10 f110
        obtain ⟨-, i10, a10, b10⟩ := mHs_t H10 V (k := y) (n := n) (by omega) (by omega) (by omega)
        rw [iy] at a10 b10
        refine ⟨rfl, H10.1, i10, by rw [i32_eq, i0_t]; omega, by rw [i32_eq, a10, i0_t]; omega, (ma_enters H10.1 w10 (by simp) (z := smH (sA s) n.toInt (fS (sA s) n.toInt) % sA s 1 (fS (sA s) n.toInt)) ?_).mono (fun w h15 hp => ?_)⟩
        · rw [i2l_t, irem_p (by rw [dv _ b10]; exact s3), dv _ b10, a10]
        · obtain ⟨rfl, w15, f15'⟩ := hp
          obtain ⟨S15, g15⟩ := S1.row (f110.tr f15') w15
          exact ⟨rfl, _, rfl, hc, S15, f1.tr g15⟩
    · rw [i32_eq, hc, i0_t] at q1
      have hf : ¬ (fS (sA s) n.toInt : Int) < sA s 0 3 := cf.mp (by omega)
      rw [if_neg hf]
      exact ⟨rfl, S1, f1⟩
    · rw [ix_3, i32_le] at q1
      have e3 : (gi (si h m 0 0) (m + 3) 3).toInt = sA s 0 3 := S1.1.md.n (i := 3) (by omega)
      omega
  · rw [if_neg (by omega)]; exact ⟨rfl, S1, f1⟩))
end SmpM
