-- the reference's calls: what was read comes to be; undone, kept; told
def MO (I : Nat → Int) (A : HV) : Prop := (∀ i, i < 5 → I i = A 0 i) ∧ (∀ k : Nat, (k : Int) < A 0 3 → I (23 + k) = A 1 k ∧ I (5 + k) = A 2 k) ∧ ∀ k : Nat, (k : Int) < A 0 4 → I (41 + k) = A 3 k
def bI (m b c j : Nat) : Prop := c = m + 3 ∧ (j = 53 + 61 * b ∨ j = 54 + 61 * b ∨ j = 60 + 61 * b)
def bL (m b c j : Nat) : Prop := c = m + 4 ∧ (j = 122 * b ∨ j = 1 + 122 * b)
section Reads
variable {X : Ctx} {l : Launch} {D : Dt} {h : Hp} {m : Nat} {s : Sv}
theorem ma_begins (F : St10 h m) {v : Int32} {b : Nat} (hv : v.toInt = b) (hb : b < 12) {E : HV} (O : MO (mI h m b) E) (VE : VO E) : S_X10_begins l D 0 0 [.ref m, .int v] h (QV fun h' => MK h' m b (firstV E) ∧ FrW (bI m b) (bL m b) h h') := Sp.of rfl (Nat.le_of_ble_eq_true rfl) (fun X C _ _ _ _ => V_X10_begins_0 C (by
  obtain ⟨x1, y1⟩ := ix_blk (w := 53) (k := 53) hv rfl hb (by omega)
  obtain ⟨x2, y2⟩ := ix_blk (w := 54) (k := 54) hv rfl hb (by omega)
  obtain ⟨x3, y3⟩ := ix_blk (w := 60) (k := 60) hv rfl hb (by omega)
  obtain ⟨x5, y5⟩ := ix_blk2 (w := 1) (k := 1) hv rfl hb (by omega)
  have e1 : (v * 122).toInt = b * 122 := by rw [imul_t] <;> rw [i122_t, hv] <;> omega
  have x4 : ix (v * 122) = 122 * b := by unfold ix; omega
  have y4 : inb (v * 122) 1464 := by unfold inb; omega
  refine ⟨F, y1, y2, y3, y4, y5, rfl, ?_⟩
  rw [x1, x2, x3, x4, x5]
  have f : FrW (bI m b) (bL m b) h (sl (sl (si (si (si h (m + 3) (53 + 61 * b) 0) (m + 3) (54 + 61 * b) 0) (m + 3) (60 + 61 * b) 0) (m + 4) (122 * b) 0) (m + 4) (1 + 122 * b) 1) := ((((FrW.rf.si ⟨rfl, Or.inl rfl⟩).si ⟨rfl, Or.inr (Or.inl rfl)⟩).si ⟨rfl, Or.inr (Or.inr rfl)⟩).sl ⟨rfl, Or.inl rfl⟩).sl ⟨rfl, Or.inr rfl⟩
  obtain ⟨g1, ⟨g5, g6, g7, -, -, g10, g11, -⟩, g3⟩ := firstV_s E VE.2.2.2.2.2.1
  have k3 := VE.2.2.2.1
  have k4 := VE.2.2.2.2.1
  obtain ⟨O1, O2, O3⟩ := O
  have eI : ∀ k, k < 53 → mI (sl (sl (si (si (si h (m + 3) (53 + 61 * b) 0) (m + 3) (54 + 61 * b) 0) (m + 3) (60 + 61 * b) 0) (m + 4) (122 * b) 0) (m + 4) (1 + 122 * b) 1) m b k = mI h m b k := fun k hk => by
    unfold mI
    rw [f.xi (fun q => by have := q.2; omega)]
  refine ⟨⟨fun i hi => by rw [eI i (by omega), g1 i hi]; exact O1 i hi, ?_, ?_, ?_, ?_, ?_, fun k hk => ?_, fun k hk => ?_, fun k hk => ?_, fun q => absurd g6 q⟩, f⟩
  · rw [g5]; unfold mI; rw [gi_sl, gi_sl, gi_si, if_neg (by omega), gi_si, if_neg (by omega), gi_si, if_pos ⟨rfl, rfl⟩]; rfl
  · rw [g6]; unfold mI; rw [gi_sl, gi_sl, gi_si, if_neg (by omega), gi_si, if_pos ⟨rfl, rfl⟩]; rfl
  · rw [g7]; unfold mI; rw [gi_sl, gi_sl, gi_si, if_pos ⟨rfl, rfl⟩]; rfl
  · rw [g10]; unfold mL; rw [gl_sl, if_neg (by omega), gl_sl, if_pos ⟨rfl, by omega⟩]; rfl
  · rw [g11]; unfold mL; rw [gl_sl, if_pos ⟨rfl, rfl⟩]; rfl
  · rw [g1 3 (by omega)] at hk
    rw [eI _ (by omega), eI _ (by omega), g3 1 _ (by omega), g3 2 _ (by omega)]; exact O2 k hk
  · rw [g1 4 (by omega)] at hk
    rw [eI _ (by omega), g3 3 _ (by omega)]; exact O3 k hk
  · rw [g7] at hk; omega))
theorem MSt.cp {h2 : Hp} (S : MSt h m s) {a b : Nat} (c : Cpd h h2 m a b) (hb : b = 3 ∨ b = 4) : MSt h2 m s ∧ FrO (inM m) h h2 :=
  ⟨S.fr c.1 (fun j hj q => by have := q.2; omega) (fun q => by have := q.1; omega) (fun j q => by have := q.1; omega) (fun j hj q => by have := q.2; omega) (fun q => by have := q.1; omega) (fun j q => by have := q.1; omega) (fun q => by have := q.1; omega) (fun j q => by have := q.1; omega), c.1.toM (fun b j q => ⟨by have := q.1; omega, by have := q.1; omega⟩) (fun b j q => ⟨by have := q.1; omega, by have := q.1; omega⟩)⟩
/-- another block becomes what is -/
theorem MSt.cp0 {h2 : Hp} (S : MSt h m s) {a : Nat} {E : HV} (c : Cpd h h2 m a 0) (H : MK h m a E) (V : VA E) : MSt h2 m (E, sN s, sB s, sK s, sR s, sT s) ∧ FrO (inM m) h h2 :=
  ⟨⟨S.1.now c.1 (fun j hj q => by have := q.2; omega) (fun q => by have := q.1; omega) (fun j q => by have := q.1; omega) (fun j hj q => by have := q.2; omega) (H.cpd V c) V, S.2.1.fr c.1 (fun q => by have := q.1; omega) (fun j q => by have := q.1; omega), S.2.2.fr c.1 (fun q => by have := q.1; omega) (fun j q => by have := q.1; omega)⟩, c.1.toM (fun b j q => ⟨by have := q.1; omega, by have := q.1; omega⟩) (fun b j q => ⟨by have := q.1; omega, by have := q.1; omega⟩)⟩
theorem ma_putsRead (S : MSt h m s) {E : HV} (O : MO (mI h m 4) E) (VE : VO E) {v : Int32} (hv : 0 ≤ v.toInt) : S_X10_putsRead l D 0 0 [.ref m, .int v] h (QI fun y h' => y = v ∧ MSt h' m (pushS s (firstV E)) ∧ FrO (inM m) h h') := Sp.of rfl (Nat.le_of_ble_eq_true rfl) (fun X C _ _ _ _ => V_X10_putsRead_0 C (by
  refine ⟨S.1.1, (ma_begins S.1.1 (b := 4) rfl (by omega) O VE).mono (fun w h2 hp => ?_)⟩
  obtain ⟨rfl, K4, f⟩ := hp
  have VF := VE.first
  have S2 : MSt h2 m s := S.fr f (fun j hj q => by have := q.2; omega) (fun q => by have := q.1; omega) (fun j q => by have := q.1; omega) (fun j hj q => by have := q.2; omega) (fun q => by have := q.1; omega) (fun j q => by have := q.1; omega) (fun q => by have := q.1; omega) (fun j q => by have := q.1; omega)
  have f2 : FrO (inM m) h h2 := f.toM (fun b j q => ⟨by have := q.1; omega, by have := q.1; omega⟩) (fun b j q => ⟨by have := q.1; omega, by have := q.1; omega⟩)
  refine ⟨rfl, S2.1.1, (ma_copies S2.1.1 (a := 0) (b := 3) rfl rfl (by omega) (by omega) (by omega)).mono (fun w h4 hp => ?_)⟩
  obtain ⟨rfl, c4⟩ := hp
  obtain ⟨S4, f4⟩ := S2.cp c4 (Or.inl rfl)
  have K3 : MK h4 m 3 (sA s) := MK.cpd S2.1.2.1 S2.1.va c4
  have K44 : MK h4 m 4 (firstV E) := K4.oth VF c4 (by omega)
  refine ⟨rfl, S4.1.1, (ma_copies S4.1.1 (a := 4) (b := 0) rfl rfl (by omega) (by omega) (by omega)).mono (fun w h6 hp => ?_)⟩
  obtain ⟨rfl, c6⟩ := hp
  obtain ⟨S6, f6⟩ := S4.cp0 c6 K44 VF
  have K36 : MK h6 m 3 (sA s) := K3.oth S.1.va c6 (by omega)
  refine ⟨rfl, S6.1.1, (ma_done S6.1 K36 S.1.va).mono (fun w h7 hp => ?_)⟩
  obtain ⟨y, rfl, rfl, hd, f7⟩ := hp
  rw [if_pos hv] at hd
  obtain ⟨r1, r2⟩ := done_end S6 f7 hd
  exact ⟨y, rfl, y, rfl, rfl, r1, ((f2.tr f4).tr f6).tr r2⟩))
theorem VO.set {A : HV} (V : VA A) {w : Nat} {v : Int} (hok : (w = 0 ∧ 1 ≤ v ∧ v ≤ 120) ∨ (w = 1 ∧ 10 ≤ v ∧ v ≤ 100)) : VO (uv A 0 w v) := by
  obtain ⟨o0, o1, o2, o3, o4, o5, o6, o7, o8⟩ := V.out
  unfold VO
  rcases hok with ⟨rfl, h1, h2⟩ | ⟨rfl, h1, h2⟩
  · simp only [uv_eq]
    simp
    exact ⟨⟨h1, h2⟩, o1, o2, o3, o4, o5, o6, o7, o8⟩
  · simp only [uv_eq]
    simp
    exact ⟨o0, ⟨h1, h2⟩, o2, o3, o4, o5, o6, o7, o8⟩
theorem actP_of {f : HV → Int × HV} {s : Sv} {r : Int} {B : HV} (e : f (sA s) = (r, B)) : actP f s = (r, if 0 ≤ r then pushS s B else s) := by
  unfold actP
  rw [e]
theorem setToP_bad {A : HV} {w v : Int} (q : ¬ ((w = 0 ∧ 1 ≤ v ∧ v ≤ 120) ∨ (w = 1 ∧ 10 ≤ v ∧ v ≤ 100))) : setToP A w v = (-1, A) := by unfold setToP; rw [if_neg q]
theorem setToP_same {A : HV} {w v : Int} (q : (w = 0 ∧ 1 ≤ v ∧ v ≤ 120) ∨ (w = 1 ∧ 10 ≤ v ∧ v ≤ 100)) (e : v = A 0 w.toNat) : setToP A w v = (-2, A) := by unfold setToP; rw [if_pos q, if_pos e]
theorem setToP_new {A : HV} {w v : Int} (q : (w = 0 ∧ 1 ≤ v ∧ v ≤ 120) ∨ (w = 1 ∧ 10 ≤ v ∧ v ≤ 100)) (e : ¬ v = A 0 w.toNat) : setToP A w v = (A 0 w.toNat, firstV (uv A 0 w.toNat v)) := by unfold setToP; rw [if_pos q, if_neg e]
theorem i244_t : (244 : Int32).toInt = 244 := rfl
theorem MK.mo {b : Nat} {A : HV} (H : MK h m b A) : MO (mI h m b) A := ⟨H.1, H.2.2.2.2.2.2.1, H.2.2.2.2.2.2.2.1⟩
theorem ma_sets (S : MSt h m s) {w v : Int32} : S_X10_sets l D 0 0 [.ref m, .int w, .int v] h (QI fun y h' => y.toInt = (actP (setToP · w.toInt v.toInt) s).1 ∧ MSt h' m (actP (setToP · w.toInt v.toInt) s).2 ∧ FrO (inM m) h h') := Sp.of rfl (Nat.le_of_ble_eq_true rfl) (fun X C _ _ _ _ => by
  generalize hQ : (QI fun y h' => y.toInt = (actP (setToP · w.toInt v.toInt) s).1 ∧ MSt h' m (actP (setToP · w.toInt v.toInt) s).2 ∧ FrO (inM m) h h') = Q
  obtain ⟨S1, f1⟩ := S.t0
  have bad : ¬ ((w.toInt = 0 ∧ 1 ≤ v.toInt ∧ v.toInt ≤ 120) ∨ (w.toInt = 1 ∧ 10 ≤ v.toInt ∧ v.toInt ≤ 100)) → Q (some (.int (-1))) (si h m 0 0) := fun q => by
    rw [← hQ]
    refine ⟨_, rfl, ?_⟩
    rw [actP_of (f := (setToP · w.toInt v.toInt)) (setToP_bad q)]
    exact ⟨rfl, S1, f1⟩
  have p41 : ∀ lo hi : Int64, (w.toInt = 0 ∧ lo.toInt = 1 ∧ hi.toInt = 120) ∨ (w.toInt = 1 ∧ lo.toInt = 10 ∧ hi.toInt = 100) → Wj X 0 0 Q 41 [(0, .ref m), (1, .int w), (2, .int v)] [.long hi, .long lo, .long v.toInt64] (si h m 0 0) := by
    intro lo hi hw
    have hw0 : 0 ≤ w.toInt := by omega
    have hk := ix_t hw0
    have ew : w.toInt.toNat = ix w := rfl
    have e0 : (gi (si h m 0 0) (m + 3) (ix w)).toInt = (sA s) 0 (ix w) := S1.1.md.n (by omega)
    refine V_X10_sets_41 C ⟨fun q => ⟨S1.1.1, ⟨hw0, by omega⟩, fun q1 => ?_, fun q1 => ?_⟩, fun q => bad ?_⟩
    all_goals rw [btL_0, i2l_t] at q
    · have hok : (w.toInt = 0 ∧ 1 ≤ v.toInt ∧ v.toInt ≤ 120) ∨ (w.toInt = 1 ∧ 10 ≤ v.toInt ∧ v.toInt ≤ 100) := by omega
      rw [i32_eq, e0] at q1
      refine (ma_copies S1.1.1 (a := 0) (b := 4) rfl rfl (by omega) (by omega) (by omega)).mono (fun z h3 hp => ?_)
      obtain ⟨rfl, c3⟩ := hp
      obtain ⟨S3, f3⟩ := S1.cp c3 (Or.inr rfl)
      have K4 : MK h3 m 4 (sA s) := MK.cpd S1.1.2.1 S1.1.va c3
      obtain ⟨x1, -⟩ := ix_add (c := 244) (v := w) (a := 244) (b := ix w) rfl hk.symm (by omega)
      have xb : inb (244 + w) 732 := inb_add (a := 244) (b := ix w) rfl hk.symm (by omega) (by omega)
      have fs : FrW (fun b j => b = m + 3 ∧ 244 ≤ j ∧ j < 305) (fun _ _ => False) h3 (si h3 (m + 3) (244 + ix w) v) := FrW.rf.si ⟨rfl, by omega, by omega⟩
      have S4 : MSt (si h3 (m + 3) (244 + ix w) v) m s := S3.fr fs (fun j hj q => by have := q.2; omega) (fun q => by have := q.1; omega) (fun j q => by have := q.1; omega) (fun _ _ => id) (fun q => by have := q.1; omega) (fun _ => id) (fun q => by have := q.1; omega) (fun j q => by have := q.1; omega)
      have O4 : MO (mI (si h3 (m + 3) (244 + ix w) v) m 4) (uv (sA s) 0 (ix w) v.toInt) := by
        obtain ⟨o1, o2, o3⟩ := K4.mo
        refine ⟨fun i hi => ?_, fun k hk2 => ?_, fun k hk2 => ?_⟩
        · unfold mI
          rw [gi_si, uv_eq]
          by_cases e : i = ix w
          · rw [if_pos ⟨rfl, by omega⟩, if_pos ⟨rfl, e⟩]
          · rw [if_neg (by omega), if_neg (fun z => e z.2)]; exact o1 i hi
        · have v3 := S.1.va.2.2.2.1
          rw [uv_eq, if_neg (by omega)] at hk2
          unfold mI
          rw [gi_si, if_neg (by omega), gi_si, if_neg (by omega), uv_eq, if_neg (by omega), uv_eq, if_neg (by omega)]
          exact o2 k hk2
        · have v4 := S.1.va.2.2.2.2.1
          rw [uv_eq, if_neg (by omega)] at hk2
          unfold mI
          rw [gi_si, if_neg (by omega), uv_eq, if_neg (by omega)]
          exact o3 k hk2
      rw [x1]
      have hnn : 0 ≤ (gi (si h m 0 0) (m + 3) (ix w)).toInt := by
        rw [e0]
        have := S.1.va.worm
        have := S.1.va.2.1
        have : ix w = 0 ∨ ix w = 1 := by omega
        rcases this with e | e <;> rw [e] <;> omega
      refine ⟨rfl, S3.1.1, xb, (ma_putsRead S4 O4 (VO.set S.1.va (by omega)) hnn).mono (fun z h6 hp => ?_)⟩
      obtain ⟨y, rfl, rfl, S6, f6⟩ := hp
      refine ⟨_, rfl, ?_⟩
      rw [← hQ]
      refine ⟨_, rfl, ?_⟩
      rw [actP_of (f := (setToP · w.toInt v.toInt)) (setToP_new hok (fun z => q1 z.symm))]
      rw [if_pos (by rw [ew, ← e0]; exact hnn)]
      exact ⟨e0, S6, ((f1.tr f3).tr (fs.toM (fun b j q => ⟨by have := q.1; omega, by have := q.1; omega⟩) (fun _ _ q => absurd q id))).tr f6⟩
    · have hok : (w.toInt = 0 ∧ 1 ≤ v.toInt ∧ v.toInt ≤ 120) ∨ (w.toInt = 1 ∧ 10 ≤ v.toInt ∧ v.toInt ≤ 100) := by omega
      rw [i32_eq, e0] at q1
      rw [← hQ]
      refine ⟨_, rfl, ?_⟩
      rw [actP_of (f := (setToP · w.toInt v.toInt)) (setToP_same hok q1.symm)]
      exact ⟨rfl, S1, f1⟩
    · omega
  refine V_X10_sets_0 C ⟨S.1.1, fun q => bad ?_, fun q => ⟨fun q1 => ⟨fun q2 => p41 _ _ (Or.inr ⟨?_, rfl, rfl⟩), fun q2 => absurd q2 q1⟩, fun q1 => ⟨fun q2 => absurd q1 q2, fun q2 => p41 _ _ (Or.inl ⟨?_, rfl, rfl⟩)⟩⟩⟩
  all_goals rw [btL_0, i2l_t, l0_t, l1_t] at q
  · omega
  · rw [i32_eq, i0_t] at q1; omega
  · rw [q1]; rfl)
def undoP (s : Sv) : Int × Sv := if sN s = 0 then (-1, s) else (((sN s - 1 : Nat) : Int), (sB s (sN s - 1), sN s - 1, sB s, sK s, sR s, sT s))
theorem MSt.un {n' : Nat} (S : MSt h m s) (hn : n' ≤ sN s) {v : Int32} (hv : v.toInt = n') : MSt (si h m 9 v) m (sA s, n', sB s, sK s, sR s, sT s) ∧ FrO (inM m) h (si h m 9 v) := by
  have f : FrW (fun b j => b = m ∧ j = 9) (fun _ _ => False) h (si h m 9 v) := FrW.rf.si ⟨rfl, rfl⟩
  obtain ⟨⟨F, S0, V, S1, S2, S3⟩, w, t⟩ := S
  refine ⟨⟨⟨f.st10 F, S0.fr V f (fun j _ _ q => by have := q.1; omega) (fun _ _ _ => id), V, ⟨by rw [gi_si, if_pos ⟨rfl, rfl⟩, hv], by have := S1.2; show n' ≤ 7; omega⟩, fun i hi => ?_, fun i hi => ⟨fun q => ?_, fun E q => ?_⟩⟩, w.fr f (fun q => by have := q.2; omega) (fun _ => id), t.fr f (fun q => by have := q.2; omega) (fun j q => by have := q.1; omega)⟩, f.toM (fun b j q => ⟨by have := q.1; omega, by have := q.1; omega⟩) (fun _ _ q => absurd q id)⟩
  · have hi2 : i < n' := hi
    obtain ⟨q1, q2⟩ := S2 i (by omega)
    exact ⟨q1.fr q2 f (fun j _ _ q => by have := q.1; omega) (fun _ _ _ => id), q2⟩
  · rw [f.xi (fun q => by have := q.1; omega)]; exact (S3 i hi).1 q
  · obtain ⟨q1, q2, q3⟩ := (S3 i hi).2 E q
    exact ⟨by rw [f.xi (fun q => by have := q.1; omega)]; exact q1, q2.fr q3 f (fun j _ _ q => by have := q.1; omega) (fun _ _ _ => id), q3⟩
theorem ma_undo (S : MSt h m s) : S_X10_undo l D 0 0 [.ref m] h (QI fun y h' => y.toInt = (undoP s).1 ∧ MSt h' m (undoP s).2 ∧ FrO (inM m) h h') := Sp.of rfl (Nat.le_of_ble_eq_true rfl) (fun X C _ _ _ _ => V_X10_undo_0 C (by
  obtain ⟨S1, f1⟩ := S.t0
  have e9 := S1.1.2.2.2.1.1
  have n7 := S1.1.2.2.2.1.2
  unfold undoP
  refine ⟨S.1.1, fun q => ?_, fun q => ⟨_, rfl, ?_⟩⟩
  · rw [i32_eq, e9, i0_t] at q
    have hn : sN s ≠ 0 := by omega
    rw [if_neg hn]
    have ev : (gi (si h m 0 0) m 9 - 1).toInt = ((sN s - 1 : Nat) : Int) := by rw [isub_t] <;> rw [i1_t, e9] <;> omega
    obtain ⟨S2, f2⟩ := S1.un (n' := sN s - 1) (by omega) ev
    have g9 : gi (si (si h m 0 0) m 9 (gi (si h m 0 0) m 9 - 1)) m 9 = gi (si h m 0 0) m 9 - 1 := by rw [gi_si, if_pos ⟨rfl, rfl⟩]
    rw [g9]
    have e5 : (5 + (gi (si h m 0 0) m 9 - 1)).toInt = ((5 + (sN s - 1) : Nat) : Int) := by rw [iadd_t] <;> rw [i5_t, ev] <;> omega
    obtain ⟨KB, VB⟩ := S1.1.2.2.2.2.1 (sN s - 1) (by omega)
    have fs : FrW (fun b j => b = m ∧ j = 9) (fun _ _ => False) (si h m 0 0) (si (si h m 0 0) m 9 (gi (si h m 0 0) m 9 - 1)) := FrW.rf.si ⟨rfl, rfl⟩
    have KB2 := KB.fr VB fs (fun j _ _ q => by have := q.1; omega) (fun _ _ _ => id)
    refine (ma_copies S2.1.1 (a := 5 + (sN s - 1)) (b := 0) e5 rfl (by omega) (by omega) (by omega)).mono (fun w h2 hp => ?_)
    obtain ⟨rfl, c⟩ := hp
    obtain ⟨S3, f3⟩ := S2.cp0 c KB2 VB
    refine ⟨rfl, S3.1.1, _, rfl, ?_, S3, (f1.tr f2).tr f3⟩
    rw [c.1.xi (fun q => by have := q.1; omega), g9, ev]
  · rw [i32_eq, e9, i0_t] at q
    rw [if_pos (by omega)]
    exact ⟨rfl, S1, f1⟩))
end Reads
