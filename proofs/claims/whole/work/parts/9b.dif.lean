-- differential ways: the pure value, and the class
noncomputable def difAt (A : HV) (n b sd : Int) : Option (Int × Int × Nat) := if 2 ≤ n + sd * b ∧ (fS A (n + sd * b) : Int) < A 0 3 then (match trainQ A (A 0 0 * b) (n + sd * b) with
  | none => none
  | some t => some (n + sd * b, sd, t)) else none
noncomputable def difN (A : HV) (n : Int) : Nat → Option (Int × Int × Nat)
  | 0 => none
  | b + 1 => match difN A n b with
    | some x => some x
    | none => match difAt A n ((b : Int) + 1) (-1) with
      | some x => some x
      | none => difAt A n ((b : Int) + 1) 1
noncomputable def difQ (A : HV) (n : Int) : Option (Int × Int × Nat) := difN A n 20
theorem difN_some {A : HV} {n : Int} {b : Nat} {x : Int × Int × Nat} (h : difN A n b = some x) : difN A n (b + 1) = some x := by
  show (match difN A n b with | some x => some x | none => match difAt A n ((b : Int) + 1) (-1) with | some x => some x | none => difAt A n ((b : Int) + 1) 1) = some x
  rw [h]
theorem difN_up {A : HV} {n : Int} {b : Nat} {x : Int × Int × Nat} (h : difN A n b = some x) (d : Nat) : difN A n (b + d) = some x := by
  induction d with
  | zero => exact h
  | succ d ih => exact difN_some ih
theorem difN_m {A : HV} {n : Int} {b : Nat} {x : Int × Int × Nat} (h : difN A n b = none) (h2 : difAt A n ((b : Int) + 1) (-1) = some x) : difN A n (b + 1) = some x := by
  show (match difN A n b with | some x => some x | none => match difAt A n ((b : Int) + 1) (-1) with | some x => some x | none => difAt A n ((b : Int) + 1) 1) = some x
  rw [h]
  show (match difAt A n ((b : Int) + 1) (-1) with | some x => some x | none => difAt A n ((b : Int) + 1) 1) = some x
  rw [h2]
theorem difN_p {A : HV} {n : Int} {b : Nat} (h : difN A n b = none) (h2 : difAt A n ((b : Int) + 1) (-1) = none) : difN A n (b + 1) = difAt A n ((b : Int) + 1) 1 := by
  show (match difN A n b with | some x => some x | none => match difAt A n ((b : Int) + 1) (-1) with | some x => some x | none => difAt A n ((b : Int) + 1) 1) = _
  rw [h]
  show (match difAt A n ((b : Int) + 1) (-1) with | some x => some x | none => difAt A n ((b : Int) + 1) 1) = _
  rw [h2]
noncomputable def difRow (A : HV) (x : Int × Int × Nat) : List Int := smRow A x.1 ++ [tW x.2.2 0, tW x.2.2 1, tW x.2.2 2, tW x.2.2 3, x.2.1]
noncomputable def differentialP (s : Sv) (n : Int) : Int × Sv := if 2 ≤ n ∧ n ≤ 400 then (match difQ (sA s) n with
    | none => (-2, s)
    | some x => (x.1, rowS s (difRow (sA s) x))) else (-1, s)
/-- what difAt finds -/
theorem difAt_s {A : HV} {n b sd : Int} {x : Int × Int × Nat} (h : difAt A n b sd = some x) : 2 ≤ x.1 ∧ x.1 = n + sd * b ∧ (fS A x.1 : Int) < A 0 3 ∧ x.2.1 = sd ∧ trainQ A (A 0 0 * b) x.1 = some x.2.2 := by
  unfold difAt at h
  by_cases c : 2 ≤ n + sd * b ∧ (fS A (n + sd * b) : Int) < A 0 3
  · rw [if_pos c] at h
    cases e : trainQ A (A 0 0 * b) (n + sd * b) with
    | none => rw [e] at h; cases h
    | some t =>
      rw [e] at h
      cases h
      exact ⟨c.1, rfl, c.2, rfl, e⟩
  · rw [if_neg c] at h; cases h
theorem difN_s {A : HV} {n : Int} {k : Nat} {x : Int × Int × Nat} (h : difN A n k = some x) : ∃ b : Nat, b ≤ k ∧ 1 ≤ b ∧ (x.2.1 = 1 ∨ x.2.1 = -1) ∧ difAt A n b x.2.1 = some x := by
  induction k with
  | zero => cases h
  | succ k ih =>
    cases e : difN A n k with
    | some y =>
      rw [difN_some e] at h
      cases h
      obtain ⟨b, b1, b2⟩ := ih e
      exact ⟨b, by omega, b2⟩
    | none =>
      cases e2 : difAt A n ((k : Int) + 1) (-1) with
      | some y =>
        rw [difN_m e e2] at h
        cases h
        have := (difAt_s e2).2.2.2.1
        exact ⟨k + 1, by omega, by omega, Or.inr this, by rw [this]; exact e2⟩
      | none =>
        rw [difN_p e e2] at h
        have := (difAt_s h).2.2.2.1
        exact ⟨k + 1, by omega, by omega, Or.inl this, by rw [this]; exact h⟩
theorem difQ_b {A : HV} {n : Int} (n1 : n ≤ 400) {x : Int × Int × Nat} (h : difQ A n = some x) : 2 ≤ x.1 ∧ x.1 ≤ 420 ∧ (fS A x.1 : Int) < A 0 3 ∧ (x.2.1 = 1 ∨ x.2.1 = -1) ∧ ∃ p, trainQ A p x.1 = some x.2.2 := by
  obtain ⟨b, b1, b2, b3, b4⟩ := difN_s h
  obtain ⟨c1, c2, c3, c4, c5⟩ := difAt_s b4
  refine ⟨c1, ?_, c3, b3, _, c5⟩
  rcases b3 with z | z <;> rw [z] at c2 <;> omega
/-- the way as the class holds it -/
def DfH (h : Hp) (w sh : Nat) (A : HV) (o : Option (Int × Int × Nat)) : Prop := match o with
  | none => gf h w 1 = 0
  | some x => gf h w 1 = x.1 ∧ gf h w 3 = x.2.1 ∧ (∃ e : Nat, e < 3102 ∧ gf h w 2 = e ∧ gf h (sh + 4) e = tP x.2.2) ∧ tOk (gN A) x.2.2 ∧ SWP h (w + 1) A x.1
abbrev FrD (w : Nat) (h h' : Hp) : Prop := FrW (fun b _ => b = w ∨ b = w + 1) (fun _ _ => False) h h'
theorem FrD.rf {w : Nat} {h : Hp} : FrD w h h := FrW.rf (P := fun b _ => b = w ∨ b = w + 1) (R := fun _ _ => False)
theorem FrD.s {w : Nat} {h h' : Hp} (f : FrD w h h') {k : Nat} {v : Int32} : FrD w h (si h' w k v) := FrW.si (P := fun b _ => b = w ∨ b = w + 1) (R := fun _ _ => False) f (Or.inl rfl)
theorem SWP.same {h h' : Hp} {w : Nat} {A : HV} {n : Int} (S : SWP h w A n) (e : ∀ j, gi h' w j = gi h w j) : SWP h' w A n := by
  unfold SWP gf at *
  simp only [e]; exact S
section Dif
variable {X : Ctx} {l : Launch} {D : Dt} {h : Hp} {x m w a sh : Nat} {Q : Pq} {A : HV} {s : Sv}
theorem FrD.hd {h' : Hp} (H : HdR h a A) (hw : ¬ inH a w) (hw1 : ¬ inH a (w + 1)) (f : FrD w h h') : HdR h' a A := H.wf f (fun b j hb q => by rcases q with q | q; exact hw (by rw [← q]; exact hb); exact hw1 (by rw [← q]; exact hb)) (fun _ _ _ => id)
theorem FrD.shelf {h' : Hp} {n : Nat} (G : ShG h sh (gN A) 20880 n) (dj : ¬ (sh ≤ w ∧ w < sh + 6) ∧ ¬ (sh ≤ w + 1 ∧ w + 1 < sh + 6)) (f : FrD w h h') : ShG h' sh (gN A) 20880 n ∧ ∀ b, sh ≤ b → b < sh + 6 → gf h' b = gf h b := by
  have e : ∀ b, sh ≤ b → b < sh + 6 → gf h' b = gf h b := fun b h1 h2 => by
    funext j
    unfold gf
    rw [f.xi (by omega)]
  obtain ⟨F, s1, s0, S⟩ := G
  refine ⟨⟨St5_same F f.2.1 f.2.2.1 f.2.2.2.1, by rw [e sh (by omega) (by omega)]; exact s1, by rw [e sh (by omega) (by omega)]; exact s0, ?_⟩, e⟩
  rw [e (sh + 1) (by omega) (by omega), e (sh + 2) (by omega) (by omega), e (sh + 3) (by omega) (by omega), e (sh + 4) (by omega) (by omega), e (sh + 5) (by omega) (by omega)]; exact S
theorem cl_tryNumber (F1 : St1 h w) (H : HdR h a A) (V : VA A) (hw : ¬ inH a w) (hw1 : ¬ inH a (w + 1)) {n : Nat} (G : ShG h sh (gN A) 20880 n) (E : ShE A n (gf h (sh + 2)) (gf h (sh + 3)) (gf h (sh + 4))) (dj : ¬ (sh ≤ w ∧ w < sh + 6) ∧ ¬ (sh ≤ w + 1 ∧ w + 1 < sh + 6)) (z0 : gf h w 1 = 0) {v3 v4 v5 : Int32} {N b sd : Int} (e3 : v3.toInt = N + sd * b) (e4 : v4.toInt = b) (e5 : v5.toInt = sd) (b0 : 1 ≤ b) (b1 : b ≤ 20) (m1 : v3.toInt ≤ 420) : S_X1_tryNumber l D 0 0 [.ref w, .ref a, .ref sh, .int v3, .int v4, .int v5] h (QV fun h' => DfH h' w sh A (difAt A N b sd) ∧ FrD w h h') := Sp.of rfl (Nat.le_of_ble_eq_true rfl) (fun X C _ _ _ _ => V_X1_tryNumber_0 C (by
  have i2 : (2 : Int32).toInt = 2 := rfl
  have wm := V.worm
  refine ⟨fun q => ⟨F1, ?_⟩, fun q => ?_⟩
  all_goals rw [i32_le, i2] at q
  · refine (cl_look6 (w := w + 1) H V (St1_k0 F1) hw1 (n := v3) (by omega)).mono (fun v h2 hp => ?_)
    obtain ⟨rfl, sw, f2⟩ := hp
    have fd2 : FrD w h h2 := f2.mono (fun b _ (q : b = w + 1) => Or.inr q) (fun _ _ q => q)
    have H2 := FrD.hd H hw hw1 fd2
    obtain ⟨G2, ge⟩ := FrD.shelf G dj fd2
    have F2 : St1 h2 w := St1_same F1 fd2.2.1 fd2.2.2.1 fd2.2.2.2.1
    have cf := cntS_f V (n := v3.toInt)
    have c0 : (gi h2 (w + 1) 0).toInt = (cntS A v3.toInt (A 0 3).toNat : Nat) := sw.1
    have z2 : gf h2 w 1 = 0 := by unfold gf; rw [f2.xi (fun (q : w = w + 1) => by omega)]; exact z0
    refine ⟨rfl, F2, fun q1 => ⟨H2.1, G2.1, ?_⟩, fun q1 => ?_⟩
    all_goals rw [i32_eq, c0, i0_t] at q1
    · have hf : (fS A v3.toInt : Int) < A 0 3 := Classical.not_not.mp (fun z => q1 (by rw [cf.mpr z]; rfl))
      have e0 : (gi h2 a 0).toInt = A 0 0 := H2.2.1 0 (by omega)
      have mb := mul_bd (a := A 0 0) (b := b) (M := 120) (K := 20) (by omega) (by omega) (by omega) (by omega)
      have ep : ((gi h2 a 0).toInt64 * v4.toInt64).toInt = A 0 0 * b := by rw [lmul_t] <;> rw [i2l_t, i2l_t, e0, e4] <;> omega
      generalize (gi h2 a 0).toInt64 * v4.toInt64 = P at *
      have E2 : ShE A n (gf h2 (sh + 2)) (gf h2 (sh + 3)) (gf h2 (sh + 4)) := by rw [ge (sh + 2) (by omega) (by omega), ge (sh + 3) (by omega) (by omega), ge (sh + 4) (by omega) (by omega)]; exact E
      obtain ⟨et1, et2⟩ := E2.train V (p := A 0 0 * b) (q := v3.toInt) (by omega)
      refine (cl_sfind G2 (p := P) (q := v3.toInt64) (by omega) (by omega) (by rw [i2l_t]; omega) (by rw [i2l_t]; omega)).mono (fun v h6 hp => ?_)
      obtain ⟨y, rfl, hy, e6⟩ := hp
      rw [i2l_t, ep] at hy
      rw [e6]
      have g2 : ∀ (hh : Hp) (v : Int32), gi (si hh w 2 v) w 2 = v := fun hh v => by rw [gi_si, if_pos ⟨rfl, rfl⟩]
      simp only [g2]
      have hc : 2 ≤ N + sd * b ∧ (fS A (N + sd * b) : Int) < A 0 3 := by rw [← e3]; exact ⟨by omega, hf⟩
      refine ⟨y, rfl, F2, fun q2 => ?_, fun q2 => ?_⟩
      all_goals rw [i32_lt, i0_t] at q2
      · have no : difAt A N b sd = none := by
          unfold difAt
          rw [if_pos hc, ← e3]
          rcases hy with ⟨-, no⟩ | ⟨e, -, y1, -⟩
          · rw [et1 no]
          · omega
        rw [no]
        refine ⟨rfl, ?_, FrD.s fd2⟩
        show gf (si h2 w 2 y) w 1 = 0
        unfold gf; rw [gi_si, if_neg (by omega)]; exact z2
      · rcases hy with ⟨y1, -⟩ | ⟨e, e1, y1, u1, w1⟩
        · omega
        · obtain ⟨t, t1, t2, t3⟩ := et2 e e1 u1 w1
          have yes : difAt A N b sd = some (N + sd * b, sd, t) := by
            unfold difAt
            rw [if_pos hc]
            have : trainQ A (A 0 0 * b) (N + sd * b) = some t := by rw [← e3]; exact t2
            rw [this]
          have fd5 : FrD w h2 (si (si (si h2 w 2 y) w 1 v3) w 3 v5) := FrD.s (FrD.s (FrD.s FrD.rf))
          rw [yes]
          have en := E2.1
          refine ⟨rfl, ⟨?_, ?_, ⟨e, by omega, ?_, ?_⟩, t1, ?_⟩, fd2.tr fd5⟩
          · unfold gf; rw [gi_si, if_neg (by omega), gi_si, if_pos ⟨rfl, rfl⟩]; exact e3
          · unfold gf; rw [gi_si, if_pos ⟨rfl, rfl⟩]; exact e5
          · unfold gf; rw [gi_si, if_neg (by omega), gi_si, if_neg (by omega), gi_si, if_pos ⟨rfl, rfl⟩]; exact y1
          · rw [(FrD.shelf G2 dj fd5).2 (sh + 4) (by omega) (by omega)]; exact t3
          · have sw' : SWP h2 (w + 1) A (N + sd * b) := by rw [← e3]; exact sw
            exact sw'.same (fun j => by rw [gi_si, if_neg (by omega), gi_si, if_neg (by omega), gi_si, if_neg (by omega)])
    · have hf : ¬ (fS A v3.toInt : Int) < A 0 3 := cf.mp (by omega)
      have no : difAt A N b sd = none := by
        unfold difAt
        rw [if_neg (fun z => hf (by rw [e3]; exact z.2))]
      rw [no]
      exact ⟨rfl, z2, fd2⟩
  · have no : difAt A N b sd = none := by
      unfold difAt
      rw [if_neg (by omega)]
    rw [no]
    exact ⟨rfl, z0, FrD.rf⟩))
theorem cl_look1 (F1 : St1 h w) (H : HdR h a A) (V : VA A) (hw : ¬ inH a w) (hw1 : ¬ inH a (w + 1)) {n : Nat} (G : ShG h sh (gN A) 20880 n) (E : ShE A n (gf h (sh + 2)) (gf h (sh + 3)) (gf h (sh + 4))) (dj : ¬ (sh ≤ w ∧ w < sh + 6) ∧ ¬ (sh ≤ w + 1 ∧ w + 1 < sh + 6)) {v3 : Int32} (n1 : 2 ≤ v3.toInt) (n2 : v3.toInt ≤ 400) : S_X1_look l D 0 0 [.ref w, .ref a, .ref sh, .int v3] h (QV fun h' => DfH h' w sh A (difQ A v3.toInt) ∧ FrD w h h') := Sp.of rfl (Nat.le_of_ble_eq_true rfl) (fun X C _ _ _ _ => V_X1_look_0 C (by
  have i20 : (20 : Int32).toInt = 20 := rfl
  have z1 : gf (si h w 1 0) w 1 = 0 := by unfold gf; rw [gi_si, if_pos ⟨rfl, rfl⟩]; rfl
  have key : ∀ (d : Nat) (h' : Hp) (v4 : Int32) (b : Nat), v4.toInt = (b : Int) + 1 → b + d = 20 → FrD w h h' → DfH h' w sh A (difN A v3.toInt b) → Wj X 0 0 (QV fun h' => DfH h' w sh A (difQ A v3.toInt) ∧ FrD w h h') 8 [(0, .ref w), (1, .ref a), (2, .ref sh), (3, .int v3), (4, .int v4)] [] h' := by
    have stop : ∀ (h' : Hp) (v4 : Int32) (b : Nat) (x : Int × Int × Nat), b ≤ 20 → v4.toInt = (b : Int) + 1 → FrD w h h' → difN A v3.toInt b = some x → DfH h' w sh A (some x) → Wj X 0 0 (QV fun h' => DfH h' w sh A (difQ A v3.toInt) ∧ FrD w h h') 8 [(0, .ref w), (1, .ref a), (2, .ref sh), (3, .int v3), (4, .int v4)] [] h' := by
      intro h' v4 b x hb e4 f e R
      have eq : difQ A v3.toInt = some x := by
        have := difN_up e (20 - b)
        rw [show b + (20 - b) = 20 by omega] at this
        exact this
      have fin : (QV fun h' => DfH h' w sh A (difQ A v3.toInt) ∧ FrD w h h') none h' := ⟨rfl, by rw [eq]; exact R, f⟩
      have x1 : 2 ≤ x.1 := by
        obtain ⟨b', -, -, -, q⟩ := difN_s e
        exact (difAt_s q).1
      have g1 : (gi h' w 1).toInt = x.1 := R.1
      refine V_X1_look_8 C ⟨fun _ => fin, fun _ => ⟨St1_same F1 f.2.1 f.2.2.1 f.2.2.2.1, fun _ => fin, fun q => ?_⟩⟩
      rw [i32_eq, g1, i0_t] at q; omega
    intro d
    induction d with
    | zero =>
      intro h' v4 b e4 hd f R
      have eb : b = 20 := by omega
      subst eb
      refine V_X1_look_8 C ⟨fun _ => ⟨rfl, R, f⟩, fun q => ?_⟩
      rw [i32_lt, i20] at q; omega
    | succ d ih =>
      intro h' v4 b e4 hd f R
      cases eN : difN A v3.toInt b with
      | some x => rw [eN] at R; exact stop h' v4 b x (by omega) e4 f eN R
      | none =>
        rw [eN] at R
        have R' : gf h' w 1 = 0 := R
        have g1 : (gi h' w 1).toInt = 0 := R
        have H' := FrD.hd H hw hw1 f
        obtain ⟨G', ge⟩ := FrD.shelf G dj f
        have E' : ShE A n (gf h' (sh + 2)) (gf h' (sh + 3)) (gf h' (sh + 4)) := by rw [ge (sh + 2) (by omega) (by omega), ge (sh + 3) (by omega) (by omega), ge (sh + 4) (by omega) (by omega)]; exact E
        have F' : St1 h' w := St1_same F1 f.2.1 f.2.2.1 f.2.2.2.1
        have x2 : (v4 + Int32.ofInt 1).toInt = v4.toInt + 1 := (ix_succ (by omega) (by omega)).2
        have em : (v3 - v4).toInt = v3.toInt + (-1) * ((b : Int) + 1) := by rw [isub_t] <;> rw [e4] <;> omega
        have ep : (v3 + v4).toInt = v3.toInt + 1 * ((b : Int) + 1) := by rw [iadd_t] <;> rw [e4] <;> omega
        refine V_X1_look_8 C ⟨fun q => ?_, fun _ => ⟨F', fun q => ?_, fun _ => ?_⟩⟩
        · rw [i32_lt, i20] at q; omega
        · rw [i32_eq, g1, i0_t] at q; omega
        · refine (cl_tryNumber F' H' V hw hw1 G' E' dj R' em e4 rfl (by omega) (by omega) (by omega)).mono (fun v h2 hp => ?_)
          obtain ⟨rfl, R2, f2⟩ := hp
          have f02 := f.tr f2
          have F2 : St1 h2 w := St1_same F1 f02.2.1 f02.2.2.1 f02.2.2.2.1
          have im : (-1 : Int32).toInt = -1 := rfl
          cases eA : difAt A v3.toInt ((b : Int) + 1) (-1) with
          | some x =>
            rw [eA] at R2
            have eN' := difN_m eN eA
            have x1 : 2 ≤ x.1 := (difAt_s eA).1
            have g2 : (gi h2 w 1).toInt = x.1 := R2.1
            exact ⟨rfl, F2, fun _ => stop h2 _ (b + 1) x (by omega) (by omega) f02 eN' R2, fun q => by rw [i32_eq, g2, i0_t] at q; omega⟩
          | none =>
            rw [eA] at R2
            have R2' : gf h2 w 1 = 0 := R2
            have g2 : (gi h2 w 1).toInt = 0 := R2
            have H2 := FrD.hd H hw hw1 f02
            obtain ⟨G2, ge2⟩ := FrD.shelf G dj f02
            have E2 : ShE A n (gf h2 (sh + 2)) (gf h2 (sh + 3)) (gf h2 (sh + 4)) := by rw [ge2 (sh + 2) (by omega) (by omega), ge2 (sh + 3) (by omega) (by omega), ge2 (sh + 4) (by omega) (by omega)]; exact E
            refine ⟨rfl, F2, fun q => by rw [i32_eq, g2, i0_t] at q; omega, fun _ => (cl_tryNumber F2 H2 V hw hw1 G2 E2 dj R2' ep e4 rfl (by omega) (by omega) (by omega)).mono (fun v h4 hp => ?_)⟩
            obtain ⟨rfl, R4, f4⟩ := hp
            have eN' := difN_p eN eA
            have i1' : (1 : Int32).toInt = 1 := rfl
            rw [← eN'] at R4
            exact ⟨rfl, ih h4 _ (b + 1) (by omega) (by omega) (f02.tr f4) R4⟩
  refine ⟨F1, key 20 _ 1 0 rfl (by omega) (FrD.s FrD.rf) z1⟩))
end Dif
