-- turns drawn by a seed: the reference
section YearsM
variable {X : Ctx} {l : Launch} {D : Dt} {h : Hp} {m : Nat} {s : Sv} {Q : Pq}
theorem ma_draws (F : St10 h m) {n : Int32} (n0 : 0 < n.toInt) : S_X10_draws l D 0 0 [.ref m, .int n] h (QI fun y h' => y.toInt = drP (lcg (gi h m 41)) n.toInt ∧ h' = si h m 41 (lcg (gi h m 41))) := by
  rw [lcg_eq]
  exact Sp.of rfl (Nat.le_of_ble_eq_true rfl) (fun X C _ _ _ _ => V_X10_draws_0 C (by
    refine ⟨F, by rw [i32_eq, i0_t]; omega, _, rfl, ?_, rfl⟩
    rw [gi_si, if_pos ⟨rfl, rfl⟩, irem_t]; rfl))
/-- the head as it comes to be, what was is laid aside -/
def YM (h h' : Hp) (m : Nat) (s : Sv) (q : HV × Int32) : Prop := MSt h' m (q.1, sN s, sB s, sK s, sR s, sT s) ∧ MK h' m 3 (sA s) ∧ gi h' m 41 = q.2 ∧ FrO (inM m) h h'
theorem YM.draw {h1 : Hp} {q : HV × Int32} (Y : YM h h1 m s q) (VE : VA (sA s)) {n : Int32} (n0 : 0 < n.toInt) : S_X10_draws l D 0 0 [.ref m, .int n] h1 (QI fun y h' => y.toInt = drP (lcg q.2) n.toInt ∧ YM h h' m s (q.1, lcg q.2)) := by
  obtain ⟨S, K3, er, f⟩ := Y
  refine (ma_draws S.1.1 n0).mono (fun w h2 hp => ?_)
  obtain ⟨y, rfl, ey, e2⟩ := hp
  rw [er] at ey e2
  have fw : FrW (fun b j => b = m ∧ j = 41) (fun _ _ => False) h1 h2 := by rw [e2]; exact FrW.rf.si ⟨rfl, rfl⟩
  refine ⟨y, rfl, ey, S.fr fw (fun j _ q => by have := q.1; omega) (fun q => by have := q.2; omega) (fun j q => by have := q.1; omega) (fun _ _ => id) (fun q => by have := q.2; omega) (fun _ => id) (fun q => by have := q.2; omega) (fun j q => by have := q.1; omega), K3.fr VE fw (fun j _ _ q => by have := q.1; omega) (fun _ _ _ => id), by rw [e2, gi_si, if_pos ⟨rfl, rfl⟩], f.tr (fw.toM (fun b j q => ⟨by have := q.1; omega, by have := q.1; omega⟩) (fun _ _ q => absurd q id))⟩
theorem YM.act {h1 h2 : Hp} {q : HV × Int32} (Y : YM h h1 m s q) (VE : VA (sA s)) {A' : HV} (f2 : FrA m h1 h2) (H2 : MdR h2 m A') (V2 : VA A') : YM h h2 m s (A', q.2) := by
  obtain ⟨S, K3, er, f⟩ := Y
  refine ⟨⟨S.1.now f2 (fun j hj q => ?_) (fun q => ?_) (fun j q => ?_) (fun j hj q => ?_) H2.2 V2, S.2.1.fr f2 (fun q => ?_) (fun j q => ?_), S.2.2.fr f2 (fun q => ?_) (fun j q => ?_)⟩, K3.fr VE f2 (fun j h1 h2 q => ?_) (fun j h1 h2 q => ?_), ?_, f.tr (f2.toM (fun b j q => ?_) (fun b j q => ?_))⟩
  case refine_11 => rw [f2.xi (fun q => by unfold aI at q; omega)]; exact er
  all_goals first | (unfold aI at q; omega) | (unfold aL at q; omega) | (unfold aI at q; unfold inM; omega) | (unfold aL at q; unfold inM; omega)
theorem myr_loop (C : C_X10_years X) (VE : VA (sA s)) {n : Int32} (n3 : n.toInt ≤ 30) (q0 : HV × Int32) (hq : ∀ (h' : Hp) (i : Int32), YM h h' m s (yItr n.toInt.toNat q0) → i.toInt = n.toInt → Wj X 0 0 Q 32 [(0, .ref m), (2, .int n), (3, .int i)] [] h') (d : Nat) : ∀ (h' : Hp) (i : Int32) (q : HV × Int32), YM h h' m s q → 0 ≤ i.toInt → i.toInt + d = n.toInt → yItr d q = yItr n.toInt.toNat q0 → Wj X 0 0 Q 32 [(0, .ref m), (2, .int n), (3, .int i)] [] h' := by
  induction d with
  | zero =>
    intro h' i q Y hi hd he
    refine hq h' i ?_ (by omega)
    rw [← he]; exact Y
  | succ d ih =>
    intro h' i q Y hi hd he
    obtain ⟨x1, x2⟩ := ix_succ hi (by omega)
    have he' : yItr d (yStep q) = yItr n.toInt.toNat q0 := by rw [← he]; exact (itr_s yStep d q).symm
    have v3 : 1 ≤ q.1 0 3 ∧ q.1 0 3 ≤ 18 := Y.1.1.va.2.2.2.1
    refine V_X10_years_32 C ⟨fun z => ?_, fun _ => ⟨Y.1.1.1, (Y.draw VE (n := 4) (by decide)).mono (fun w h9 hp => ?_)⟩⟩
    · rw [i32_le] at z; omega
    obtain ⟨y, rfl, ey, Y9⟩ := hp
    rw [i4_t] at ey
    refine ⟨y, rfl, fun z => ⟨fun z2 => ⟨Y9.1.1.1, (Y9.draw VE (n := 5) (by decide)).mono (fun w h12 hp => ?_)⟩, fun z2 => ⟨Y9.1.1.1, (ma_cutsOne Y9.1.1.md Y9.1.1.va).mono (fun w h25 hp => ?_)⟩⟩, fun z => ⟨Y9.1.1.1, ?_⟩⟩
    · rw [i32_eq, ey, i0_t] at z
      rw [i32_eq, ey, i3_tt] at z2
      obtain ⟨y2, rfl, ey2, Y12⟩ := hp
      rw [i5_t] at ey2
      have H12 : MdR h12 m q.1 := Y12.1.1.md
      have V12 : VA q.1 := Y12.1.1.va
      have e5 := H12.circ
      have vc := V12.circ
      have hk : (gi h12 (m + 3) 53).toInt = ((ix (gi h12 (m + 3) 53) : Nat) : Int) := (ix_t (by omega)).symm
      obtain ⟨x1, -⟩ := ix_add (c := 23) (v := gi h12 (m + 3) 53) (a := 23) (b := ix (gi h12 (m + 3) 53)) rfl hk (by omega)
      have eh : (gi h12 (m + 3) (ix (23 + gi h12 (m + 3) 53))).toInt = Hc q.1 := by
        rw [x1, H12.hole (by omega)]
        unfold Hc ix
        rw [e5]
      have hc := V12.hc
      refine ⟨y2, rfl, Y12.1.1.1, ?_⟩
      rw [ix_53]
      refine ⟨inb_add (a := 23) (b := ix (gi h12 (m + 3) 53)) rfl hk (by omega) (by omega), (Y12.draw VE (n := gi h12 (m + 3) (ix (23 + gi h12 (m + 3) 53))) (by rw [eh]; omega)).mono (fun w h17 hp => ?_)⟩
      obtain ⟨y3, rfl, ey3, Y17⟩ := hp
      rw [eh] at ey3
      refine ⟨y3, rfl, Y17.1.1.1, (ma_turnsOne Y17.1.1.md Y17.1.1.va).mono (fun w h20 hp => ?_)⟩
      obtain ⟨y4, rfl, -, H20, f20⟩ := hp
      rw [i0_t, ey2, ey3] at H20
      have Y20 := Y17.act VE f20 H20 (V12.wind _ _ _)
      have e : yStep q = ((windP q.1 (drP (lcg (lcg q.2)) 5) (drP (lcg (lcg (lcg q.2))) (Hc q.1)) 0).2, lcg (lcg (lcg q.2))) := yS_1 z z2
      rw [e] at he'
      exact ⟨y4, rfl, ih _ _ _ Y20 (by omega) (by omega) he'⟩
    · rw [i32_eq, ey, i0_t] at z
      rw [i32_eq, ey, i3_tt] at z2
      obtain ⟨y4, rfl, -, H25, f25⟩ := hp
      have Y25 := Y9.act VE f25 H25 (Y9.1.1.va.scribe)
      have e : yStep q = ((scribeP q.1).2, lcg q.2) := yS_3 z z2
      rw [e] at he'
      exact ⟨y4, rfl, ih _ _ _ Y25 (by omega) (by omega) he'⟩
    · rw [i32_eq, ey, i0_t] at z
      have e3 : (gi h9 (m + 3) (ix 3)).toInt = q.1 0 3 := by rw [ix_3]; exact Y9.1.1.md.n (i := 3) (by omega)
      refine (Y9.draw VE (n := gi h9 (m + 3) (ix 3)) (by rw [e3]; omega)).mono (fun w h31 hp => ?_)
      obtain ⟨y3, rfl, ey3, Y31⟩ := hp
      rw [e3] at ey3
      refine ⟨y3, rfl, Y31.1.1.1, (ma_usesOne Y31.1.1.md Y31.1.1.va).mono (fun w h34 hp => ?_)⟩
      obtain ⟨y4, rfl, -, H34, f34⟩ := hp
      rw [ey3] at H34
      have Y34 := Y31.act VE f34 H34 (Y31.1.1.va.choose _)
      have e : yStep q = ((chooseP q.1 (drP (lcg (lcg q.2)) (q.1 0 3))).2, lcg (lcg q.2)) := yS_0 z
      rw [e] at he'
      exact ⟨y4, rfl, ih _ _ _ Y34 (by omega) (by omega) he'⟩
theorem l30_t : (30 : Int64).toInt = 30 := rfl
theorem ma_years (S : MSt h m s) {r n : Int32} : S_X10_years l D 0 0 [.ref m, .int r, .int n] h (QI fun y h' => y.toInt = (yearsP s r n.toInt).1 ∧ MSt h' m (yearsP s r n.toInt).2 ∧ FrO (inM m) h h') := Sp.of rfl (Nat.le_of_ble_eq_true rfl) (fun X C _ _ _ _ => V_X10_years_0 C (by
  obtain ⟨S1, f1⟩ := S.t0
  have V := S.1.va
  unfold yearsP
  refine ⟨S.1.1, fun q => ?_, fun q => ⟨_, rfl, ?_⟩⟩
  all_goals rw [btL_0, i2l_t, l1_t, l30_t] at q
  · have hq : 1 ≤ n.toInt ∧ n.toInt ≤ 30 := by omega
    rw [if_pos hq]
    have fw : FrW (fun b j => b = m ∧ j = 41) (fun _ _ => False) (si h m 0 0) (si (si h m 0 0) m 41 r) := FrW.rf.si ⟨rfl, rfl⟩
    have S2 : MSt (si (si h m 0 0) m 41 r) m s := S1.fr fw (fun j _ q => by have := q.1; omega) (fun q => by have := q.2; omega) (fun j q => by have := q.1; omega) (fun _ _ => id) (fun q => by have := q.2; omega) (fun _ => id) (fun q => by have := q.2; omega) (fun j q => by have := q.1; omega)
    refine (ma_copies S2.1.1 (a := 0) (b := 3) rfl rfl (by omega) (by omega) (by omega)).mono (fun w h2 hp => ?_)
    obtain ⟨rfl, c⟩ := hp
    obtain ⟨S3, f3⟩ := S2.cp c (Or.inl rfl)
    have Y : YM h h2 m s (sA s, r) := ⟨S3, MK.cpd S2.1.2.1 V c, by rw [c.1.xi (fun q => by have := q.1; omega), gi_si, if_pos ⟨rfl, rfl⟩], (f1.tr (fw.toM (fun b j q => ⟨by have := q.1; omega, by have := q.1; omega⟩) (fun _ _ q => absurd q id))).tr f3⟩
    refine ⟨rfl, myr_loop C V hq.2 (sA s, r) (fun h' i Y' hi => ?_) n.toInt.toNat h2 0 _ Y (by rw [i0_t]; omega) (by rw [i0_t]; omega) rfl⟩
    generalize yItr n.toInt.toNat (sA s, r) = E at *
    have H' : MdR h' m E.1 := Y'.1.1.md
    refine V_X10_years_32 C ⟨fun _ => ⟨Y'.1.1.1, (ma_enters (h := si h' m 1 0) (L := []) Y'.1.1.1 (RwM.clr 0 rfl) (by decide) (v := gl h' (m + 4) (ix 0)) (z := E.1 0 10) (by rw [ix_0]; exact H'.up)).mono (fun w h4 hp => ?_)⟩, fun z => ?_⟩
    · obtain ⟨rfl, w4, f4⟩ := hp
      have f04 : FrW (rI m) (rL m) h' h4 := (FrW.rf.si (v := 0) ⟨rfl, rfl⟩).tr f4
      refine ⟨rfl, f04.st10 Y'.1.1.1, (ma_enters (f04.st10 Y'.1.1.1) w4 (by simp) (z := E.1 0 11) (by rw [ix_1, f04.xl (fun (q : m + 4 = m + 1) => by omega)]; exact H'.low)).mono (fun w h5 hp => ?_)⟩
      obtain ⟨rfl, w5, f5⟩ := hp
      have f05 := f04.tr f5
      obtain ⟨S5, g5⟩ := Y'.1.row f05 w5
      have K5 : MK h5 m 3 (sA s) := Y'.2.1.fr V f05 (fun j _ _ q => by have := q.1; omega) (fun j _ _ (q : m + 4 = m + 1) => by omega)
      refine ⟨rfl, S5.1.1, (ma_copies S5.1.1 (a := 3) (b := 0) rfl rfl (by omega) (by omega) (by omega)).mono (fun w h6 hp => ?_)⟩
      obtain ⟨rfl, c6⟩ := hp
      obtain ⟨S6, f6⟩ := S5.cp0 c6 K5 V
      exact ⟨rfl, _, rfl, by rw [ix_60]; exact H'.marks, S6, (Y'.2.2.2.tr g5).tr f6⟩
    · rw [i32_le] at z; omega
  · rw [if_neg (by omega)]; exact ⟨rfl, S1, f1⟩))
end YearsM
