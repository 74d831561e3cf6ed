-- angle() of the class, whole
section AngC2
variable {X : Ctx} {l : Launch} {D : Dt} {h : Hp} {x m : Nat} {Q : Pq} {s : Sv}
theorem ca_an_loop (C : C_X9_angle X) (S : CSt h x m s) {v1 : Int32} (b1 : 1 ≤ v1.toInt) (b2 : v1.toInt ≤ 1295999)
    (hend : ∀ (v2 v9 : Int32) (v3 v5 v7 : Int64), ANc v1.toInt (anI (sA s) v1.toInt (sA s 0 3).toNat) v2 v3 v5 v7 → v9.toInt = sA s 0 3 → Wj X 0 0 Q 26 [(0, .ref x), (1, .int v1), (2, .int v2), (3, .long v3), (5, .long v5), (7, .long v7), (9, .int v9)] [] h) (d : Nat) : ∀ (v2 v9 : Int32) (v3 v5 v7 : Int64), 0 ≤ v9.toInt → v9.toInt + d = sA s 0 3 → ANc v1.toInt (anI (sA s) v1.toInt (ix v9)) v2 v3 v5 v7 → Wj X 0 0 Q 26 [(0, .ref x), (1, .int v1), (2, .int v2), (3, .long v3), (5, .long v5), (7, .long v7), (9, .int v9)] [] h := by
  obtain ⟨a, ea, Ha, ba⟩ := S.now
  obtain ⟨n12, g12⟩ := nn_of ea
  have V := S.2.2.2.2.1.1
  have w3 := V.2.2.2.1
  have e3 := Ha.2.1 3 (by omega)
  induction d with
  | zero =>
    intro v2 v9 v3 v5 v7 h0 hd R
    refine hend _ _ _ _ _ ?_ (by omega)
    have : ix v9 = (sA s 0 3).toNat := by unfold ix; omega
    rw [← this]; exact R
  | succ d ih =>
    intro v2 v9 v3 v5 v7 h0 hd R
    obtain ⟨x1, x2⟩ := ix_succ h0 (by omega)
    have hk := ix_t h0
    have eh : (hHo h (gp h x 12) v9).toInt = sA s 1 (ix v9) := by rw [g12, hHo_t Ha V, if_pos (by omega)]
    have e0 : (gi h (gp h x 12) 0).toInt = sA s 0 0 := by rw [g12]; exact Ha.2.1 0 (by omega)
    obtain ⟨o1, o2⟩ := an_c V b1 b2 (k := ix v9) (by omega)
    obtain ⟨-, -, p1, p2, p3, p4, -⟩ := id o1
    have ew : anW (sA s) (ix v9) = sA s 1 (ix v9) * sA s 0 0 := rfl
    dsimp only at p1 p2 p3 p4
    refine V_X9_angle_26 C ⟨S.1, n12, by rw [g12]; exact Ha.1, fun q => ?_, fun _ z10 e10 => ?_⟩
    · rw [g12, i32_le, e3] at q; omega
    · have t10 : z10.toInt = anW (sA s) (ix v9) := by rw [e10, lmul_t] <;> rw [i2l_t, i2l_t, eh, e0] <;> omega
      generalize hw : anW (sA s) (ix v9) = w at *
      have m1 := mul_bd (a := v1.toInt) (b := w) (M := 1295999) (K := 8400) (by omega) b2 (by omega) p4
      have tm : (v1.toInt64 * z10).toInt = v1.toInt * w := by rw [lmul_t] <;> rw [i2l_t, t10] <;> omega
      have tu : (v1.toInt64 * z10 / 1296000).toInt = anU (sA s) v1.toInt (ix v9) := by
        rw [ldiv_p (by rw [tm]; omega) (by rw [l129_t]; omega), tm, l129_t]; unfold anU; rw [hw, arc_e]
      generalize v1.toInt64 * z10 / 1296000 = u at *
      have tu1 : (u + 1).toInt = anU (sA s) v1.toInt (ix v9) + 1 := by rw [ladd_t] <;> rw [tu, l1_t] <;> omega
      have tu2 : (u + 1 + 1).toInt = anU (sA s) v1.toInt (ix v9) + 2 := by rw [ladd_t] <;> rw [tu1, l1_t] <;> omega
      have O0 := anI_ok V b1 b2 (ix v9) (by omega)
      refine ca_an1 C b1 b2 R O0 o1 hk.symm t10 tu (by rw [i64_lt, tu1, tu]; omega) (fun w2 w3 w5 w7 R1 => ?_)
      refine ca_an1 C b1 b2 R1 (anOk_S O0 o1) o2 hk.symm t10 tu1 (by rw [i64_lt, tu1]; omega) (fun y2 y3 y5 y7 R2 => ?_)
      refine V_X9_angle_74 C ⟨fun _ => ih _ _ _ _ _ (by omega) (by omega) ?_, fun q => absurd (by rw [i64_lt, tu1, tu2]; omega) q⟩
      rw [x1]
      show ANc v1.toInt (anS v1.toInt (anS v1.toInt (anI (sA s) v1.toInt (ix v9)) (ix v9, anU (sA s) v1.toInt (ix v9), anW (sA s) (ix v9))) (ix v9, anU (sA s) v1.toInt (ix v9) + 1, anW (sA s) (ix v9))) _ _ _ _
      rw [hw]; exact R2
theorem cl_tellAngle (S : CSt h x m s) {k : Int32} {hl : Int64} {kk : Nat} (ek : k.toInt = kk) (hk : (kk : Int) < sA s 0 3) (h0 : 0 ≤ hl.toInt) : S_X9_tellAngle l D 0 0 [.ref x, .int k, .long hl] h (QV fun h' => TdC h' (x + 3) [(kk : Int), hl.toInt / sA s 1 kk, hl.toInt % sA s 1 kk] ∧ FrW (dI (x + 3)) (dL (x + 3)) h h') := Sp.of rfl (Nat.le_of_ble_eq_true rfl) (fun X C _ _ _ _ => V_X9_tellAngle_0 C (by
  obtain ⟨a, ea, Ha, ba⟩ := S.now
  obtain ⟨n12, g12⟩ := nn_of ea
  have V := S.2.2.2.2.1.1
  have v13 := V.2.2.2.2.2.2.2.2.2.2.2.2.2.1 kk hk
  have ik : ix k = kk := ix_of ek
  have eh : (hHo h (gp h x 12) k).toInt = sA s 1 kk := by rw [g12, hHo_t Ha V, if_pos (by omega), ik]
  generalize hHo h (gp h x 12) k = r at *
  have ne : ¬ r = 0 := by rw [i32_eq, eh, i0_t]; omega
  have neL : ¬ r.toInt64 = 0 := by rw [i64_eq, i2l_t, eh, l0_t]; omega
  refine ⟨S.1, n12, by rw [g12]; exact Ha.1, (cl_add (h := tcl h (x + 3)) (L := []) (St9_s1 S.1) TdC.clr (by decide) (z := (kk : Int)) (by rw [i2l_t]; exact ek)).mono (fun w h4 hp => ?_)⟩
  obtain ⟨rfl, t4, f4⟩ := hp
  have f24 : FrW (dI (x + 3)) (dL (x + 3)) h h4 := (FrW.rf.tcl).tr f4
  have F4 : St9 h4 x := St9_same S.1 f24.2.1 f24.2.2.1 f24.2.2.2.1
  refine ⟨rfl, F4, fun _ => ⟨neL, ?_⟩, fun q => absurd q ne⟩
  refine V_X9_tellAngle_44 C ⟨St9_s1 F4, (cl_add (St9_s1 F4) t4 (by simp) (z := hl.toInt / sA s 1 kk) (by rw [ldiv_p h0 (by rw [i2l_t, eh]; omega), i2l_t, eh])).mono (fun w h6 hp => ?_)⟩
  obtain ⟨rfl, t6, f6⟩ := hp
  have f26 := f24.tr f6
  have F6 : St9 h6 x := St9_same S.1 f26.2.1 f26.2.2.1 f26.2.2.2.1
  refine ⟨rfl, F6, fun _ => ⟨neL, (cl_add (St9_s1 F6) t6 (by simp) (z := hl.toInt % sA s 1 kk) (by rw [lrem_p h0, i2l_t, eh])).mono (fun w h8 hp => ?_)⟩, fun q => absurd q ne⟩
  obtain ⟨rfl, t8, f8⟩ := hp
  exact ⟨rfl, rfl, t8, f26.tr f8⟩))
theorem i129_t : (1295999 : Int32).toInt = 1295999 := rfl
theorem ca_angle (S : CSt h x m s) {v : Int32} : S_X9_angle l D 0 0 [.ref x, .int v] h (QI fun y h' => y.toInt = (angleP s v.toInt).1 ∧ CSt h' x m (angleP s v.toInt).2 ∧ FrX (inC x m) h h') := Sp.of rfl (Nat.le_of_ble_eq_true rfl) (fun X C _ _ _ _ => V_X9_angle_0 C (by
  have V := S.2.2.2.2.1.1
  have w3 := V.2.2.2.1
  unfold angleP
  refine ⟨fun q => ?_, fun q => ⟨_, rfl, ?_⟩⟩
  all_goals rw [bt_0, i1_t, i129_t] at q
  · have hq : 1 ≤ v.toInt ∧ v.toInt ≤ 1295999 := by omega
    rw [if_pos hq]
    obtain ⟨b, eb⟩ := anI_some V v.toInt
    have ob := anI_ok V hq.1 hq.2 (sA s 0 3).toNat (by omega) b eb
    refine ca_an_loop C S hq.1 hq.2 (fun v2 v9 v3 v5 v7 R e9 => ?_) (sA s 0 3).toNat (-1) 0 0 1 0 (by rw [i0_t]; omega) (by rw [i0_t]; omega) (by rw [ix_0]; exact ⟨rfl, rfl, rfl, rfl⟩)
    rw [eb] at R ⊢
    obtain ⟨r1, r2, r3, r4⟩ := R
    obtain ⟨o1, o2, o3, o4, o5, o6, o7⟩ := ob
    have fn := anF_nn v.toInt b.2
    obtain ⟨a, ea, Ha, ba⟩ := S.now
    obtain ⟨n12, g12⟩ := nn_of ea
    have e3 := Ha.2.1 3 (by omega)
    refine V_X9_angle_26 C ⟨S.1, n12, by rw [g12]; exact Ha.1, fun _ => ?_, fun q => ?_⟩
    · refine (cl_tellAngle S r1 o1 (by omega)).mono (fun w h4 hp => ?_)
      obtain ⟨rfl, t4, f4⟩ := hp
      obtain ⟨S4, p4, x4⟩ := S.row f4 t4
      obtain ⟨g1, g2⟩ := gl_fpt0 h4 (x + 14) v7 v5
      obtain ⟨u1, u2⟩ := fr_x (u := v7) (w := v5) (by omega)
      rw [r3, r4] at u1 u2
      have f6 : FrW (fun _ _ => False) (fun c _ => c = x + 14) h4 (fpt h4 (x + 14) v7 v5) := FrW.sl (P := fun _ _ => False) (R := fun c _ => c = x + 14) (FrW.sl (P := fun _ _ => False) (R := fun c _ => c = x + 14) FrW.rf rfl) rfl
      obtain ⟨S6, p6, x6⟩ := S4.scr f6 (fun _ _ q => absurd q id) (fun b j (q : b = x + 14) => by omega)
      refine ⟨rfl, S4.1, by omega, by omega, (cl_addF (h := fpt h4 (x + 14) v7 v5) (b := x + 14) (St9_s1 S6.1) (St9_k7 S6.1) S6.2.2.2.2.2.2.1 (by show ([_, _, _] : List Int).length < 59; simp) (u := rdU (anF v.toInt b.2) b.2.2) (v := rdL (anF v.toInt b.2) b.2.2) (by rw [g1]; exact u1) (by rw [g2]; exact u2)).mono (fun w h8 hp => ?_)⟩
      obtain ⟨rfl, w8, f8⟩ := hp
      obtain ⟨S8, p8, x8⟩ := S6.row f8 w8
      rw [r2] at S8
      refine ⟨rfl, fun z => ⟨_, rfl, ?_, S8, (x4.tr x6).tr x8⟩, fun z => ⟨_, rfl, ?_, S8, (x4.tr x6).tr x8⟩⟩
      all_goals rw [i64_eq, r4, l0_t] at z
      · dsimp only; rw [if_neg z]; rfl
      · dsimp only; rw [if_pos z]; rfl
    · rw [g12, i32_le, e3] at q; omega
  · rw [if_neg (by omega)]; exact ⟨rfl, S, FrX.rf⟩))
end AngC2
