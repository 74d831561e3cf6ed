-- compound() of the class, whole
section CCm
variable {X : Ctx} {l : Launch} {D : Dt} {h : Hp} {x m a w : Nat} {Q : Pq} {A : HV} {s : Sv}
theorem lk_in (C : C_X0_look X) (kw : kd h w = 1) (H : HdR h a A) (V : VA A) (hw : ¬ inH a w) {n v3 v4 : Int32} (n1 : 2 ≤ n.toInt) {S : CW} (o : cwOk A S) {i : Nat} (ei : v3.toInt = i) (hi : (i : Int) < A 0 3) (e4 : v4.toInt = A 2 i)
    (nx : ∀ h', FrC w h h' → CWh h' w (cwJs A n.toInt i S ((A 0 3).toNat - (i + 1))) → Wj X 0 0 Q 7 [(0, .ref w), (1, .ref a), (2, .int n), (3, .int (v3 + Int32.ofInt 1))] [] h') (d : Nat) : ∀ (h' : Hp) (v5 : Int32) (c : Nat), v5.toInt = (i : Int) + 1 + c → (i : Int) + 1 + c + d = A 0 3 → FrC w h h' → CWh h' w (cwJs A n.toInt i S c) → Wj X 0 0 Q 27 [(0, .ref w), (1, .ref a), (2, .int n), (3, .int v3), (4, .int v4), (5, .int v5)] [] h' := by
  have v3' := V.2.2.2.1
  induction d with
  | zero =>
    intro h' v5 c e5 hc f R
    have H' : HdR h' a A := H.wf f (fun b j hb (q : b = w) => hw (by rw [← q]; exact hb)) (fun _ _ _ => id)
    have e3 := H'.2.1 3 (by omega)
    refine V_X0_look_27 C ⟨H'.1, fun _ => nx h' f ?_, fun q => ?_⟩
    · have : (A 0 3).toNat - (i + 1) = c := by omega
      rw [this]; exact R
    · rw [i32_le, e3] at q; omega
  | succ d ih =>
    intro h' v5 c e5 hc f R
    have H' : HdR h' a A := H.wf f (fun b j hb (q : b = w) => hw (by rw [← q]; exact hb)) (fun _ _ _ => id)
    have e3 := H'.2.1 3 (by omega)
    have kw' : kd h' w = 1 := by rw [f.2.1]; exact kw
    have e5' : v5.toInt = ((i + 1 + c : Nat) : Int) := by omega
    have ep : (hPl h' a v5).toInt = A 2 (i + 1 + c) := by rw [hPl_t H' V (by omega) (by omega), ix_of e5']
    obtain ⟨x1, x2⟩ := ix_succ (i := v5) (by omega) (by omega)
    have ok := cwJs_ok V n1 o (i := i) c (by omega)
    refine V_X0_look_27 C ⟨H'.1, fun q => ?_, fun _ => ⟨fun q => nx h' f ?_, fun q => ⟨kw', ?_⟩⟩⟩
    · rw [i32_le, e3] at q; omega
    · rw [i32_eq, ep, e4] at q
      have e : (A 0 3).toNat - (i + 1) = c + (d + 1) := by omega
      rw [e, cwJs_no V (by omega) (fun z => q z.symm) (d + 1) (by omega)]; exact R
    · rw [i32_eq, ep, e4] at q
      refine (cl_tryPair kw' H' V hw n1 ok ei e5' hi (by omega) (by omega) R).mono (fun v h3 hp => ?_)
      obtain ⟨rfl, R3, f3⟩ := hp
      refine ⟨rfl, ih h3 _ (c + 1) (by omega) (by omega) (f.tr f3) ?_⟩
      have e : cwJs A n.toInt i S (c + 1) = cwPair A n.toInt i (i + 1 + c) (cwJs A n.toInt i S c) := if_pos q.symm
      rw [e]; exact R3
theorem lk_out (C : C_X0_look X) (kw : kd h w = 1) (H : HdR h a A) (V : VA A) (hw : ¬ inH a w) {n : Int32} (n1 : 2 ≤ n.toInt) (hq : ∀ h', FrC w h h' → CWh h' w (cwQ A n.toInt) → Q none h') (d : Nat) : ∀ (h' : Hp) (v3 : Int32) (i : Nat), v3.toInt = i → (i : Int) + d = A 0 3 → FrC w h h' → CWh h' w (cwIs A n.toInt i) → Wj X 0 0 Q 7 [(0, .ref w), (1, .ref a), (2, .int n), (3, .int v3)] [] h' := by
  have v3' := V.2.2.2.1
  induction d with
  | zero =>
    intro h' v3 i e3 hi f R
    have H' : HdR h' a A := H.wf f (fun b j hb (q : b = w) => hw (by rw [← q]; exact hb)) (fun _ _ _ => id)
    have g3 := H'.2.1 3 (by omega)
    refine V_X0_look_7 C ⟨H'.1, fun _ => hq h' f ?_, fun q => ?_⟩
    · have : (A 0 3).toNat = i := by omega
      unfold cwQ; rw [this]; exact R
    · rw [i32_le, g3] at q; omega
  | succ d ih =>
    intro h' v3 i e3 hi f R
    have H' : HdR h' a A := H.wf f (fun b j hb (q : b = w) => hw (by rw [← q]; exact hb)) (fun _ _ _ => id)
    have g3 := H'.2.1 3 (by omega)
    have kw' : kd h' w = 1 := by rw [f.2.1]; exact kw
    obtain ⟨x1, x2⟩ := ix_succ (i := v3) (by omega) (by omega)
    have e1 : (v3 + 1).toInt = (i : Int) + 1 + (0 : Nat) := by rw [iadd_t] <;> rw [e3, i1_t] <;> omega
    refine V_X0_look_7 C ⟨H'.1, fun q => ?_, fun _ => ?_⟩
    · rw [i32_le, g3] at q; omega
    · refine lk_in C kw' H' V hw n1 (cwIs_ok V n1 i (by omega)) e3 (by omega) (by rw [hPl_t H' V (by omega) (by omega), ix_of e3]) (fun h2 f2 R2 => ih h2 _ (i + 1) (by omega) (by omega) (f.tr f2) R2) ((A 0 3).toNat - (i + 1)) h' _ 0 e1 (by omega) FrC.rf R
theorem cl_look0 (kw : kd h w = 1) (H : HdR h a A) (V : VA A) (hw : ¬ inH a w) {n : Int32} (n1 : 2 ≤ n.toInt) : S_X0_look l D 0 0 [.ref w, .ref a, .int n] h (QV fun h' => CWh h' w (cwQ A n.toInt) ∧ FrC w h h') := Sp.of rfl (Nat.le_of_ble_eq_true rfl) (fun X C _ _ _ _ => V_X0_look_0 C (by
  have v3' := V.2.2.2.1
  refine ⟨kw, lk_out C kw H V hw n1 (fun h' f R => ⟨rfl, R, f⟩) (A 0 3).toNat _ 0 0 rfl (by omega) (FrC.s FrC.rf) ⟨⟨?_, fun z => absurd rfl z⟩, fun z => absurd rfl z⟩⟩
  unfold gf; rw [gi_si, if_pos ⟨rfl, rfl⟩]; rfl))
theorem ca_compound (S : CSt h x m s) {n : Int32} : S_X9_compound l D 0 0 [.ref x, .int n] h (QI fun y h' => y.toInt = (compoundP s n.toInt).1 ∧ CSt h' x m (compoundP s n.toInt).2 ∧ FrX (inC x m) h h') := Sp.of rfl (Nat.le_of_ble_eq_true rfl) (fun X C _ _ _ _ => V_X9_compound_0 C (by
  obtain ⟨a, ea, Ha, ba⟩ := S.now
  obtain ⟨n12, g12⟩ := nn_of ea
  have V := S.2.2.2.2.1.1
  rw [g12]
  unfold compoundP
  refine ⟨fun q => ⟨S.1, n12, ?_⟩, fun q => ⟨_, rfl, ?_⟩⟩
  all_goals rw [bt_0] at q
  · have hq : 2 ≤ n.toInt ∧ n.toInt ≤ 400 := by have e1 : (2 : Int32).toInt = 2 := rfl; have e2 : (400 : Int32).toInt = 400 := rfl; omega
    rw [if_pos hq]
    refine (cl_look0 (w := x + 6) (St9_k3 S.1) Ha V (fun z => by unfold inH at z; omega) hq.1).mono (fun w h3 hp => ?_)
    obtain ⟨rfl, R3, f3⟩ := hp
    obtain ⟨S3, p3, x3⟩ := S.scr f3 (fun b j (q : b = x + 6) => Or.inl (by omega)) (fun _ _ q => absurd q id)
    generalize cwQ (sA s) n.toInt = W at *
    obtain ⟨⟨r0, r1⟩, r2⟩ := R3
    have c0 : (gi h3 (x + 6) 0).toInt = W.1 := r0
    refine ⟨rfl, S3.1, fun q1 => ?_, fun q1 => ⟨_, rfl, ?_⟩⟩
    all_goals rw [i32_eq, c0, i0_t] at q1
    · rw [if_neg q1]
      obtain ⟨a3, a4, a5⟩ := r1 q1
      obtain ⟨a1, a2⟩ := r2 q1
      have keep : ∀ h', FrW (dI (x + 3)) (dL (x + 3)) h3 h' → ∀ j, gi h' (x + 6) j = gi h3 (x + 6) j := fun h' f j => f.xi (fun q => by have := q.1; omega)
      have k0 : gi (tcl h3 (x + 3)) (x + 6) 1 = gi h3 (x + 6) 1 := keep _ (FrW.rf.tcl) 1
      rw [k0]
      refine (cl_add (h := tcl h3 (x + 3)) (L := []) (St9_s1 S3.1) TdC.clr (by decide) (z := W.2.1) (by rw [i2l_t]; exact a1)).mono (fun w h5 hp => ?_)
      obtain ⟨rfl, t5, f5⟩ := hp
      have f35 : FrW (dI (x + 3)) (dL (x + 3)) h3 h5 := (FrW.rf.tcl).tr f5
      have F5 : St9 h5 x := St9_same S3.1 f35.2.1 f35.2.2.1 f35.2.2.2.1
      refine ⟨rfl, F5, (cl_add (St9_s1 F5) t5 (by simp) (z := W.2.2.1) (by rw [i2l_t, keep h5 f35]; exact a2)).mono (fun w h7 hp => ?_)⟩
      obtain ⟨rfl, t7, f7⟩ := hp
      have f37 := f35.tr f7
      have F7 : St9 h7 x := St9_same S3.1 f37.2.1 f37.2.2.1 f37.2.2.2.1
      refine ⟨rfl, F7, (cl_add (St9_s1 F7) t7 (by simp) (z := W.2.2.2.1) (by rw [i2l_t, keep h7 f37]; exact a3)).mono (fun w h9 hp => ?_)⟩
      obtain ⟨rfl, t9, f9⟩ := hp
      have f39 := f37.tr f9
      have F9 : St9 h9 x := St9_same S3.1 f39.2.1 f39.2.2.1 f39.2.2.2.1
      refine ⟨rfl, F9, (cl_add (St9_s1 F9) t9 (by simp) (z := W.2.2.2.2.1) (by rw [i2l_t, keep h9 f39]; exact a4)).mono (fun w h11 hp => ?_)⟩
      obtain ⟨rfl, t11, f11⟩ := hp
      have f311 := f39.tr f11
      have F11 : St9 h11 x := St9_same S3.1 f311.2.1 f311.2.2.1 f311.2.2.2.1
      refine ⟨rfl, F11, (cl_add (St9_s1 F11) t11 (by simp) (z := W.2.2.2.2.2) (by rw [i2l_t, keep h11 f311]; exact a5)).mono (fun w h13 hp => ?_)⟩
      obtain ⟨rfl, t13, f13⟩ := hp
      have f313 := f311.tr f13
      obtain ⟨S13, p13, x13⟩ := S3.row f313 t13
      exact ⟨rfl, S13.1, _, rfl, by rw [keep h13 f313]; exact c0, S13, x3.tr x13⟩
    · rw [if_pos q1]
      exact ⟨rfl, S3, x3⟩
  · have hq : ¬ (2 ≤ n.toInt ∧ n.toInt ≤ 400) := by have e1 : (2 : Int32).toInt = 2 := rfl; have e2 : (400 : Int32).toInt = 400 := rfl; omega
    rw [if_neg hq]; exact ⟨rfl, S, FrX.rf⟩))
end CCm
