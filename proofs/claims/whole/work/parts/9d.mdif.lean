-- differential() of the reference
/-- the way as the reference holds it -/
def DfM (h : Hp) (m : Nat) (o : Option (Int × Int × Nat)) (y : Int32) : Prop := match o with
  | none => y = 0
  | some x => y = 1 ∧ gf h m 21 = x.1 ∧ gf h m 22 = x.2.1 ∧ FdH h m x.2.2
def fvI (m b j : Nat) : Prop := b = m ∧ (j = 18 ∨ j = 20 ∨ j = 21 ∨ j = 22) ∨ b = m + 7 ∨ b = m + 8
abbrev FrV (m : Nat) (h h' : Hp) : Prop := FrW (fvI m) (fun _ _ => False) h h'
section MDf
variable {X : Ctx} {l : Launch} {D : Dt} {h : Hp} {m : Nat} {Q : Pq} {A : HV} {s : Sv}
theorem FrT.v {h' : Hp} (f : FrT m h h') : FrV m h h' := f.mono (fun b j q => by unfold ftI at q; unfold fvI; omega) (fun _ _ q => q)
theorem FrV.rf : FrV m h h := FrW.rf (P := fvI m) (R := fun _ _ => False)
theorem FrV.md {h' : Hp} (H : MdR h m A) (V : VA A) (f : FrV m h h') : MdR h' m A := H.fr V f (fun j _ q => by unfold fvI at q; omega) (fun _ _ => id)
theorem FrV.ms {h' : Hp} (S : MSt h m s) (f : FrV m h h') : MSt h' m s ∧ FrO (inM m) h h' :=
  ⟨S.fr f (fun j _ q => by unfold fvI at q; omega) (fun q => by unfold fvI at q; omega) (fun j q => by unfold fvI at q; omega) (fun _ _ => id) (fun q => by unfold fvI at q; omega) (fun _ => id) (fun q => by unfold fvI at q; omega) (fun j q => by unfold fvI at q; omega), f.toM (fun b j q => by unfold fvI at q; unfold inM; omega) (fun _ _ q => absurd q id)⟩
theorem ma_isDifferential (H : MdR h m A) (V : VA A) {v1 v2 : Int32} {b sd : Int} (e2 : v2.toInt = v1.toInt + sd * b) (hs : sd = 1 ∨ sd = -1) (b0 : 1 ≤ b) (b1 : b ≤ 20) (n1 : 2 ≤ v1.toInt) (n2 : v1.toInt ≤ 400) : S_X10_isDifferential l D 0 0 [.ref m, .int v1, .int v2] h (QI fun y h' => (match difAt A v1.toInt b sd with | none => y = 0 | some x => y = 1 ∧ FdH h' m x.2.2) ∧ FrV m h h') := Sp.of rfl (Nat.le_of_ble_eq_true rfl) (fun X C _ _ _ _ => V_X10_isDifferential_0 C (by
  have i2 : (2 : Int32).toInt = 2 := rfl
  have wm := V.worm
  have b2 : v2.toInt ≤ 420 := by rcases hs with z | z <;> rw [z] at e2 <;> omega
  have no : ¬ (2 ≤ v1.toInt + sd * b ∧ (fS A (v1.toInt + sd * b) : Int) < A 0 3) → difAt A v1.toInt b sd = none := fun z => if_neg z
  refine ⟨fun q => ⟨0, rfl, ?_, FrV.rf⟩, fun q => ⟨H.1, (ma_firstSimple H V (n := v2) ?_).mono (fun w h2 hp => ?_)⟩⟩
  all_goals rw [i32_lt, i2] at q
  · rw [no (by omega)]
  · omega
  · obtain ⟨y, rfl, hy, eh⟩ := hp
    rw [eh]
    refine ⟨y, rfl, fun q1 => ⟨0, rfl, ?_, FrV.rf⟩, fun q1 => ⟨H.1, ?_⟩⟩
    all_goals rw [i32_lt, i0_t] at q1
    · rw [no (fun z => by rw [← e2] at z; rw [if_pos z.2] at hy; omega)]
    · have hf : (fS A v2.toInt : Int) < A 0 3 := by
        rcases Classical.em ((fS A v2.toInt : Int) < A 0 3) with z | z
        · exact z
        · rw [if_neg z] at hy; omega
      have hc : 2 ≤ v1.toInt + sd * b ∧ (fS A (v1.toInt + sd * b) : Int) < A 0 3 := by rw [← e2]; exact ⟨by omega, hf⟩
      have e0 : (gi h (m + 3) (ix 0)).toInt = A 0 0 := by rw [ix_0]; exact H.n (by omega)
      have es : (v2 - v1).toInt = sd * b := by rw [isub_t] <;> omega
      have ea : (abI (v2 - v1)).toInt = b := by rw [abI_t (by rw [es]; rcases hs with z | z <;> rw [z] <;> omega), es]; rcases hs with z | z <;> rw [z] <;> omega
      have mb := mul_bd (a := A 0 0) (b := b) (M := 120) (K := 20) (by omega) (by omega) (by omega) (by omega)
      have ep : ((gi h (m + 3) (ix 0)).toInt64 * (abI (v2 - v1)).toInt64).toInt = A 0 0 * b := by rw [lmul_t] <;> rw [i2l_t, i2l_t, e0, ea] <;> omega
      generalize (gi h (m + 3) (ix 0)).toInt64 * (abI (v2 - v1)).toInt64 = P at *
      refine (ma_findsTrain H V (p := P) (q := v2.toInt64) (by omega) (by omega) (by rw [i2l_t]; omega) (by rw [i2l_t]; omega)).mono (fun w h5 hp => ?_)
      obtain ⟨z, rfl, hz, f5⟩ := hp
      rw [i2l_t, ep, e2] at hz
      rcases hz with ⟨rfl, e⟩ | ⟨rfl, t, e, T⟩
      · have : difAt A v1.toInt b sd = none := by unfold difAt; rw [if_pos hc, e]
        exact ⟨0, rfl, fun _ => ⟨0, rfl, by rw [this], f5.v⟩, fun q => absurd rfl q⟩
      · have : difAt A v1.toInt b sd = some (v1.toInt + sd * b, sd, t) := by unfold difAt; rw [if_pos hc, e]
        exact ⟨1, rfl, fun q => absurd q p1_ne, fun _ => ⟨1, rfl, by rw [this]; exact ⟨rfl, T⟩, f5.v⟩⟩))
theorem fd_10 (C : C_X10_findsDifferential X) (H : MdR h m A) (V : VA A) {v1 : Int32} (n1 : 2 ≤ v1.toInt) (n2 : v1.toInt ≤ 400) (hq : ∀ (y : Int32) (h' : Hp), FrV m h h' → DfM h' m (difQ A v1.toInt) y → Q (some (.int y)) h') (d : Nat) : ∀ (h' : Hp) (v2 : Int32) (b : Nat), v2.toInt = (b : Int) + 1 → b + d = 20 → FrV m h h' → difN A v1.toInt b = none → Wj X 0 0 Q 2 [(0, .ref m), (1, .int v1), (2, .int v2)] [] h' := by
  have i20 : (20 : Int32).toInt = 20 := rfl
  have i2 : (2 : Int32).toInt = 2 := rfl
  induction d with
  | zero =>
    intro h' v2 b e2 hd f eN
    have eb : b = 20 := by omega
    subst eb
    refine V_X10_findsDifferential_2 C ⟨fun _ => hq 0 h' f ?_, fun q => ?_⟩
    · have : difQ A v1.toInt = none := eN
      rw [this]; rfl
    · rw [i32_lt, i20] at q; omega
  | succ d ih =>
    intro h' v2 b e2 hd f eN
    have x2 : (v2 + Int32.ofInt 1).toInt = v2.toInt + 1 := (ix_succ (by omega) (by omega)).2
    have em : (v1 - v2).toInt = v1.toInt + (-1) * ((b : Int) + 1) := by rw [isub_t] <;> rw [e2] <;> omega
    have ep : (v1 + v2).toInt = v1.toInt + 1 * ((b : Int) + 1) := by rw [iadd_t] <;> rw [e2] <;> omega
    -- one try
    have try1 : ∀ (h1 : Hp) (v3 s0 : Int32) (sd : Int), s0.toInt = v1.toInt + sd * ((b : Int) + 1) → (sd = 1 ∨ sd = -1) → FrV m h h1 → (∀ x, difAt A v1.toInt ((b : Int) + 1) sd = some x → difN A v1.toInt (b + 1) = some x) → (∀ h2 : Hp, FrV m h h2 → difAt A v1.toInt ((b : Int) + 1) sd = none → Wj X 0 0 Q 10 [(0, .ref m), (1, .int v1), (2, .int v2), (3, .int (v3 + Int32.ofInt 1))] [] h2) → Wj X 0 0 Q 28 [(0, .ref m), (1, .int v1), (2, .int v2), (3, .int v3)] [.int s0] h1 := by
      intro h1 v3 s0 sd es hs f1 yes nx
      have H1 := FrV.md H V f1
      refine V_X10_findsDifferential_28 C ⟨H1.1, (ma_isDifferential H1 V (v2 := s0) es hs (by omega) (by omega) n1 n2).mono (fun w h2 hp => ?_)⟩
      obtain ⟨y, rfl, hy, f2⟩ := hp
      have f02 := f1.tr f2
      cases eA : difAt A v1.toInt ((b : Int) + 1) sd with
      | none =>
        rw [eA] at hy
        exact ⟨y, rfl, fun _ => nx h2 f02 eA, fun q => absurd hy q⟩
      | some x =>
        rw [eA] at hy
        obtain ⟨hy1, T⟩ := hy
        obtain ⟨a1, a2, a3, a4, -⟩ := difAt_s eA
        have eQ : difQ A v1.toInt = some x := by
          have := difN_up (yes x eA) (20 - (b + 1))
          rw [show b + 1 + (20 - (b + 1)) = 20 by omega] at this
          exact this
        have fin : ∀ v : Int32, v.toInt = sd → Q (some (.int 1)) (si (si h2 m 21 s0) m 22 v) := by
          intro v hv
          refine hq 1 _ (FrW.si (P := fvI m) (R := fun _ _ => False) (FrW.si (P := fvI m) (R := fun _ _ => False) f02 (Or.inl ⟨rfl, by omega⟩)) (Or.inl ⟨rfl, by omega⟩)) ?_
          rw [eQ]
          refine ⟨rfl, ?_, ?_, ?_, fun j hj => ?_⟩
          · unfold gf; rw [gi_si, if_neg (by omega), gi_si, if_pos ⟨rfl, rfl⟩, a2]; exact es
          · unfold gf; rw [gi_si, if_pos ⟨rfl, rfl⟩, a4]; exact hv
          · rw [gi_si, if_neg (by omega), gi_si, if_neg (by omega)]; exact T.1
          · rw [gi_si, if_neg (by omega), gi_si, if_neg (by omega)]; exact T.2 j hj
        refine ⟨y, rfl, fun q => by rw [hy1] at q; exact absurd q p1_ne, fun _ => ⟨f2.st10 H1.1, fun q => fin (-1) ?_, fun q => fin 1 ?_⟩⟩
        all_goals rw [i32_le] at q
        · have : (-1 : Int32).toInt = -1 := rfl
          rcases hs with z | z
          · rw [z] at es; omega
          · rw [z]; rfl
        · rcases hs with z | z
          · rw [z]; rfl
          · rw [z] at es; omega
    have ne1 : ¬ ((0 : Int32) + Int32.ofInt 1) = 0 := by decide
    have le1 : ¬ 2 ≤ ((0 : Int32) + Int32.ofInt 1) := by decide
    have le2 : 2 ≤ ((0 : Int32) + Int32.ofInt 1 + Int32.ofInt 1) := by decide
    refine V_X10_findsDifferential_2 C ⟨fun q => ?_, fun _ => V_X10_findsDifferential_10 C ⟨fun q => ?_, fun _ => ⟨fun q => absurd rfl q, fun _ => try1 h' 0 _ (-1) em (Or.inr rfl) f (fun x eA => difN_m eN eA) (fun h2 f2 eA => ?_)⟩⟩⟩
    · rw [i32_lt, i20] at q; omega
    · rw [i32_le, i2, i0_t] at q; omega
    · refine V_X10_findsDifferential_10 C ⟨fun q => absurd q le1, fun _ => ⟨fun _ => try1 h2 _ _ 1 ep (Or.inl rfl) f2 (fun x eA2 => by rw [difN_p eN eA]; exact eA2) (fun h3 f3 eA3 => ?_), fun q => absurd q ne1⟩⟩
      exact V_X10_findsDifferential_10 C ⟨fun _ => ih h3 _ (b + 1) (by omega) (by omega) f3 (by rw [difN_p eN eA]; exact eA3), fun q => absurd le2 q⟩
theorem ma_findsDifferential (H : MdR h m A) (V : VA A) {v1 : Int32} (n1 : 2 ≤ v1.toInt) (n2 : v1.toInt ≤ 400) : S_X10_findsDifferential l D 0 0 [.ref m, .int v1] h (QI fun y h' => DfM h' m (difQ A v1.toInt) y ∧ FrV m h h') := Sp.of rfl (Nat.le_of_ble_eq_true rfl) (fun X C _ _ _ _ => V_X10_findsDifferential_0 C (fd_10 C H V n1 n2 (fun y h' f hy => ⟨y, rfl, hy, f⟩) 20 h 1 0 rfl (by omega) FrV.rf rfl))
theorem ma_differential (S : MSt h m s) {n : Int32} : S_X10_differential l D 0 0 [.ref m, .int n] h (QI fun y h' => y.toInt = (differentialP s n.toInt).1 ∧ MSt h' m (differentialP s n.toInt).2 ∧ FrO (inM m) h h') := Sp.of rfl (Nat.le_of_ble_eq_true rfl) (fun X C _ _ _ _ => V_X10_differential_0 C (by
  obtain ⟨S1, f1⟩ := S.t0
  have V := S.1.va
  have i4 : (4 : Int32).toInt = 4 := rfl
  unfold differentialP
  refine ⟨S.1.1, fun q => ?_, fun q => ⟨_, rfl, ?_⟩⟩
  all_goals rw [btL_0, i2l_t, l2_t, l400_t] at q
  · have hq : 2 ≤ n.toInt ∧ n.toInt ≤ 400 := by omega
    rw [if_pos hq]
    refine (ma_findsDifferential S1.1.md V (v1 := n) hq.1 hq.2).mono (fun w h2 hp => ?_)
    obtain ⟨y, rfl, R2, f2⟩ := hp
    obtain ⟨S2, g2⟩ := FrV.ms S1 f2
    cases eq : difQ (sA s) n.toInt with
    | none =>
      rw [eq] at R2
      exact ⟨y, rfl, fun q => absurd R2 q, fun _ => ⟨_, rfl, rfl, S2, f1.tr g2⟩⟩
    | some d =>
      rw [eq] at R2
      obtain ⟨hy, r1, r2, T⟩ := R2
      obtain ⟨d1, d2, hf, d4, -⟩ := difQ_b hq.2 eq
      have r1' : (gi h2 m 21).toInt = d.1 := r1
      refine ⟨y, rfl, fun _ => ⟨S2.1.1, ?_⟩, fun q => by rw [hy] at q; exact absurd q p1_ne⟩
      refine (ma_firstSimple S2.1.md V (n := gi h2 m 21) (by omega)).mono (fun w h5 hp => ?_)
      obtain ⟨k, rfl, hk, e5⟩ := hp
      rw [r1', if_pos hf] at hk
      rw [e5]
      have ik : ix k = fS (sA s) d.1 := ix_of hk
      obtain ⟨s1, s2, s3, s4⟩ := sm_div V (n := d.1) (by omega) hf (fS_is hf)
      have v13 := (V.2.2.2.2.2.2.2.2.2.2.2.2.2.1 _ hf)
      have w3 := V.2.2.2.1
      have bw := V.worm
      have bb := mul_bd (a := sA s 0 0) (b := sA s 1 (fS (sA s) d.1)) (M := 120) (K := 70) (by omega) (by omega) (by omega) (by omega)
      obtain ⟨y1, -⟩ := ix_add (c := 23) (v := k) (a := 23) (b := fS (sA s) d.1) rfl hk (by omega)
      have ib : inb (23 + k) 732 := inb_add (a := 23) (b := fS (sA s) d.1) rfl hk (by omega) (by omega)
      have ft : FrW (rI m) (rL m) h2 (si h2 m 1 0) := FrW.si (P := rI m) (R := rL m) FrW.rf ⟨rfl, rfl⟩
      have M : ∀ h', FrW (rI m) (rL m) h2 h' → MdR h' m (sA s) := fun h' f => S2.1.md.fr V f (fun j _ q => by have := q.1; omega) (fun j _ (q : m + 4 = m + 1) => by omega)
      have k21 : ∀ h', FrW (rI m) (rL m) h2 h' → (gi h' m 21).toInt = d.1 := fun h' f => by rw [f.xi (fun q => by have := q.2; omega)]; exact r1
      have kh : ∀ h', FrW (rI m) (rL m) h2 h' → (gi h' (m + 3) (ix (23 + k))).toInt = sA s 1 (fS (sA s) d.1) := fun h' f => by rw [y1]; exact (M h' f).hole hf
      have ka : ∀ h', FrW (rI m) (rL m) h2 h' → (gi h' (m + 3) (ix 0) * gi h' (m + 3) (ix (23 + k)) / gi h' m 21).toInt = smH (sA s) d.1 (fS (sA s) d.1) := fun h' f => by
        have e0 : (gi h' (m + 3) (ix 0)).toInt = sA s 0 0 := by rw [ix_0]; exact (M h' f).n (by omega)
        have em : (gi h' (m + 3) (ix 0) * gi h' (m + 3) (ix (23 + k))).toInt = sA s 0 0 * sA s 1 (fS (sA s) d.1) := by rw [imul_t] <;> rw [e0, kh h' f] <;> omega
        rw [idiv_p (by rw [em]; omega) (by rw [k21 h' f]; omega), em, k21 h' f]; rfl
      refine ⟨k, rfl, S2.1.1, (ma_enters (h := si h2 m 1 0) (L := []) S2.1.1 (RwM.clr 0 rfl) (by decide) (z := (fS (sA s) d.1 : Int)) (by rw [i2l_t]; exact hk)).mono (fun w h8 hp => ?_)⟩
      obtain ⟨rfl, w8, f8⟩ := hp
      have f28 := ft.tr f8
      refine ⟨rfl, (M h8 f28).1, ib, by rw [i32_eq, k21 h8 f28, i0_t]; omega, by rw [i32_eq, kh h8 f28, i0_t]; omega, (ma_enters (M h8 f28).1 w8 (by simp) (z := sA s 0 0 / d.1) ?_).mono (fun w h13 hp => ?_)⟩
      · rw [i2l_t, idiv_p (by rw [ka h8 f28]; exact s3) (by rw [kh h8 f28]; omega), ka h8 f28, kh h8 f28]; exact s1
      obtain ⟨rfl, w13, f13⟩ := hp
      have f213 := f28.tr f13
      refine ⟨rfl, (M h13 f213).1, ib, by rw [i32_eq, k21 h13 f213, i0_t]; omega, by rw [i32_eq, kh h13 f213, i0_t]; omega, (ma_enters (M h13 f213).1 w13 (by simp) (z := smH (sA s) d.1 (fS (sA s) d.1) % sA s 1 (fS (sA s) d.1)) ?_).mono (fun w h18 hp => ?_)⟩
      · rw [i2l_t, irem_p (by rw [ka h13 f213]; exact s3), ka h13 f213, kh h13 f213]
      obtain ⟨rfl, w18, f18⟩ := hp
      have f218 := f213.tr f18
      have eL : ([] ++ [(fS (sA s) d.1 : Int)]) ++ [sA s 0 0 / d.1] ++ [smH (sA s) d.1 (fS (sA s) d.1) % sA s 1 (fS (sA s) d.1)] = smRow (sA s) d.1 := rfl
      rw [eL] at w18
      have lr : (smRow (sA s) d.1).length = 3 := rfl
      generalize hL : smRow (sA s) d.1 = L3 at *
      have key : ∀ (c : Nat) (h' : Hp) (v : Int32), 0 ≤ v.toInt → v.toInt + c = 4 → FrW (rI m) (rL m) h2 h' → RwM h' m (L3 ++ (List.range (ix v)).map (fun i => tW d.2.2 i)) → Wj X 0 0 (QI fun y h' => y.toInt = d.1 ∧ MSt h' m (rowS s (difRow (sA s) d)) ∧ FrO (inM m) h h') 87 [(0, .ref m), (3, .int v)] [] h' := by
        intro c
        induction c with
        | zero =>
          intro h' v v0 hc f t
          have ev : ix v = 4 := by unfold ix; omega
          rw [ev] at t
          refine V_X10_differential_87 C ⟨fun _ => ⟨(M h' f).1, (ma_enters (M h' f).1 t (by rw [List.length_append, List.length_map, List.length_range]; omega) (z := d.2.1) (by rw [i2l_t, f.xi (fun q => by have := q.2; omega)]; exact r2)).mono (fun w h3 hp => ?_)⟩, fun z => ?_⟩
          · obtain ⟨rfl, t3, f3⟩ := hp
            have f23 := f.tr f3
            have er : L3 ++ (List.range 4).map (fun i => tW d.2.2 i) ++ [d.2.1] = difRow (sA s) d := by
              unfold difRow
              rw [hL, List.append_assoc]; rfl
            rw [er] at t3
            obtain ⟨S3, g3⟩ := S2.row f23 t3
            exact ⟨rfl, S3.1.1, _, rfl, k21 h3 f23, S3, (f1.tr g2).tr g3⟩
          · rw [i32_le, i4] at z; omega
        | succ c ih =>
          intro h' v v0 hc f t
          obtain ⟨x1, x2'⟩ := ix_succ v0 (by omega)
          have hv := ix_t v0
          have e8 : (gi h' (m + 8) (ix v)).toInt = tW d.2.2 (ix v) := by rw [f.xi (fun q => by have := q.1; omega)]; exact T.2 _ (by omega)
          refine V_X10_differential_87 C ⟨fun z => ?_, fun _ => ⟨(M h' f).1, by unfold inb; omega, (ma_enters (M h' f).1 t (by rw [List.length_append, List.length_map, List.length_range]; omega) (z := tW d.2.2 (ix v)) (by rw [i2l_t]; exact e8)).mono (fun w h6 hp => ?_)⟩⟩
          · rw [i32_le, i4] at z; omega
          · obtain ⟨rfl, t6, f6⟩ := hp
            refine ⟨rfl, ih h6 _ (by omega) (by omega) (f.tr f6) ?_⟩
            rw [x1, map_succ, ← List.append_assoc]; exact t6
      refine ⟨rfl, key 4 h18 0 (by decide) (by decide) f218 ?_⟩
      rw [ix_0]
      show RwM h18 m (L3 ++ [])
      rw [List.append_nil]; exact w18
  · rw [if_neg (by omega)]; exact ⟨rfl, S1, f1⟩))
end MDf
