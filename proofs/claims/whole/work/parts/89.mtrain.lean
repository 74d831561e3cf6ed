-- train() of the reference
/-- the train that was found -/
def FdH (h : Hp) (m t : Nat) : Prop := (gi h m 20).toInt = tN t ∧ ∀ j : Nat, j < 4 → (gi h (m + 8) j).toInt = tW t j
def fdI' (m b j : Nat) : Prop := b = m ∧ j = 20 ∨ b = m + 8
def ftI (m b j : Nat) : Prop := b = m ∧ (j = 18 ∨ j = 20) ∨ b = m + 7 ∨ b = m + 8
abbrev FrT (m : Nat) (h h' : Hp) : Prop := FrW (ftI m) (fun _ _ => False) h h'
theorem tW_g {t j : Nat} (h : (j : Int) < tN t) (hj : j < 4) : tW t j = tG t j := by
  unfold tW tG
  rcases lt4 hj with rfl | rfl | rfl | rfl
  · rfl
  · rfl
  · have : ¬ t < 144 := fun z => by rw [tN_2 z] at h; omega
    rw [if_neg (by omega), if_neg (by omega), if_neg this, if_pos rfl, if_neg (by omega), if_neg (by omega)]
  · have : ¬ t < 144 := fun z => by rw [tN_2 z] at h; omega
    rw [if_neg (by omega), if_neg (by omega), if_neg this, if_neg (by omega), if_neg (by omega), if_neg (by omega)]
theorem tW_no {t j : Nat} (h : ¬ (j : Int) < tN t) (hj : j < 4) : tW t j = -1 := by
  have h1 : t < 144 := by
    rcases Nat.lt_or_ge t 144 with z | z
    · exact z
    · rw [tN_4 z] at h; omega
  rw [tN_2 h1] at h
  unfold tW
  rw [if_neg (by omega), if_neg (by omega), if_pos h1]
theorem tN_24 (t : Nat) : tN t = 2 ∨ tN t = 4 := by unfold tN; split <;> simp
section FnM
variable {X : Ctx} {l : Launch} {D : Dt} {h : Hp} {m : Nat} {Q : Pq} {A : HV} {s : Sv}
theorem FrN.t {h' : Hp} (f : FrN m h h') : FrT m h h' := f.mono (fun b j q => by unfold ftI; omega) (fun _ _ q => q)
theorem FrT.md {h' : Hp} (H : MdR h m A) (V : VA A) (f : FrT m h h') : MdR h' m A := H.fr V f (fun j _ q => by unfold ftI at q; omega) (fun _ _ => id)
theorem FrT.ms {h' : Hp} (S : MSt h m s) (f : FrT m h h') : MSt h' m s ∧ FrO (inM m) h h' :=
  ⟨S.fr f (fun j _ q => by unfold ftI at q; omega) (fun q => by unfold ftI at q; omega) (fun j q => by unfold ftI at q; omega) (fun _ _ => id) (fun q => by unfold ftI at q; omega) (fun _ => id) (fun q => by unfold ftI at q; omega) (fun j q => by unfold ftI at q; omega), f.toM (fun b j q => by unfold ftI at q; unfold inM; omega) (fun _ _ q => absurd q id)⟩
theorem ma_finds (F : St10 h m) {t : Nat} (T : TrH h m t) : S_X10_finds l D 0 0 [.ref m] h (QV fun h' => FdH h' m t ∧ FrW (fdI' m) (fun _ _ => False) h h') := Sp.of rfl (Nat.le_of_ble_eq_true rfl) (fun X C _ _ _ _ => V_X10_finds_0 C (by
  obtain ⟨T1, T2⟩ := T
  have i4 : (4 : Int32).toInt = 4 := rfl
  have tn := tN_24 t
  have key : ∀ (d : Nat) (h' : Hp) (w : Int32), 0 ≤ w.toInt → w.toInt + d = 4 → FrW (fdI' m) (fun _ _ => False) h h' → (gi h' m 20).toInt = tN t → (∀ j : Nat, j < ix w → (gi h' (m + 8) j).toInt = tW t j) → Wj X 0 0 (QV fun h' => FdH h' m t ∧ FrW (fdI' m) (fun _ _ => False) h h') 10 [(0, .ref m), (1, .int w)] [] h' := by
    intro d
    induction d with
    | zero =>
      intro h' w w0 hd f e g
      refine V_X10_finds_10 C ⟨fun _ => ⟨rfl, ⟨e, fun j hj => g j (by unfold ix; omega)⟩, f⟩, fun q => ?_⟩
      rw [i32_le] at q
      omega
    | succ d ih =>
      intro h' w w0 hd f e g
      obtain ⟨x1, x2⟩ := ix_succ w0 (by omega)
      have hw := ix_t w0
      have e18 : (gi h' m 18).toInt = tN t := by rw [f.xi (fun q => by unfold fdI' at q; omega)]; exact T1
      have e7 : gi h' (m + 7) (ix w) = gi h (m + 7) (ix w) := f.xi (fun q => by unfold fdI' at q; omega)
      have upd : ∀ v : Int32, v.toInt = tW t (ix w) → Wj X 0 0 (QV fun h' => FdH h' m t ∧ FrW (fdI' m) (fun _ _ => False) h h') 10 [(0, .ref m), (1, .int (w + Int32.ofInt 1))] [] (si h' (m + 8) (ix w) v) := by
        intro v hv
        refine ih _ _ (by omega) (by omega) (FrW.si (P := fdI' m) (R := fun _ _ => False) f (Or.inr rfl)) ?_ (fun j hj => ?_)
        · rw [gi_si, if_neg (by omega)]; exact e
        · rw [gi_si]
          by_cases z : j = ix w
          · rw [if_pos ⟨rfl, z⟩, z]; exact hv
          · rw [if_neg (fun q => z q.2)]; exact g j (by omega)
      refine V_X10_finds_10 C ⟨fun q => ?_, fun _ => ⟨f.st10 F, fun q => ⟨by unfold inb; omega, upd _ ?_⟩, fun q => ⟨by unfold inb; omega, upd _ ?_⟩⟩⟩
      · rw [i32_le] at q
        omega
      · rw [i32_le, e18] at q
        rw [tW_no (by omega) (by omega)]; rfl
      · rw [i32_le, e18] at q
        rw [tW_g (by omega) (by omega), e7]
        exact T2 (ix w) (by omega)
  refine ⟨F, key 4 _ 0 (by decide) (by decide) (FrW.si (P := fdI' m) (R := fun _ _ => False) FrW.rf (Or.inl ⟨rfl, rfl⟩)) ?_ (fun j hj => by rw [ix_0] at hj; omega)⟩
  rw [gi_si, if_pos ⟨rfl, rfl⟩]; exact T1))
/-- upper and lower of the train that stands -/
theorem TrH.up (H : MdR h m A) (V : VA A) {t : Nat} (T : TrH h m t) (ok : tAll (gN A) t) : (mUp h m).toInt = tU (A 3) t ∧ (mLw h m).toInt = tL (A 3) t ∧ inb (41 + gi h (m + 7) (ix 0)) 732 ∧ (gi h m 18 = 4 → inb (41 + gi h (m + 7) (ix 2)) 732) ∧ inb (41 + gi h (m + 7) (ix 1)) 732 ∧ (gi h m 18 = 4 → inb (41 + gi h (m + 7) (ix 3)) 732) := by
  have vg := V.gn
  have ub := tU_b V.teo ok
  obtain ⟨T1, T2⟩ := T
  obtain ⟨o1, o2, o3, o4, o5⟩ := ok
  have th : ∀ {v : Int32} {k : Nat}, v.toInt = k → k < gN A → inb (41 + v) 732 ∧ (gi h (m + 3) (ix (41 + v))).toInt = A 3 k := by
    intro v k e hk
    obtain ⟨y1, -⟩ := ix_add (c := 41) (v := v) (a := 41) (b := k) rfl e (by omega)
    exact ⟨inb_add (a := 41) (b := k) rfl e (by omega) (by omega), by rw [y1]; exact H.tooth (by omega)⟩
  have tn := tN_24 t
  have t0 := T2 0 (by omega)
  have t1 := T2 1 (by omega)
  rw [tG_0] at t0
  rw [tG_1] at t1
  obtain ⟨b0, a0⟩ := th t0 o2
  obtain ⟨b1, a1⟩ := th t1 o3
  have i4 : (4 : Int32).toInt = 4 := rfl
  have l1 : (Int32.toInt64 1).toInt = 1 := rfl
  unfold mUp mLw
  rw [ix_0, ix_1, ix_2, show ix 3 = 3 from ix_3]
  by_cases q : t < 144
  · rw [tN_2 q] at T1
    have e18 : ¬ gi h m 18 = 4 := fun z => by rw [z, i4] at T1; omega
    rw [if_neg e18, if_neg e18]
    obtain ⟨u1, u2⟩ := tU_2 (A 3) q
    refine ⟨?_, ?_, b0, fun z => absurd z e18, b1, fun z => absurd z e18⟩
    · rw [u1] at ub ⊢
      rw [lmul_t] <;> rw [i2l_t, a0, l1] <;> omega
    · rw [u2] at ub ⊢
      rw [lmul_t] <;> rw [i2l_t, a1, l1] <;> omega
  · have q4 : 144 ≤ t := by omega
    rw [tN_4 q4] at T1 T2
    have e18 : gi h m 18 = 4 := by rw [i32_eq, T1]; rfl
    obtain ⟨p1, p2, -⟩ := o5 q4
    have t2 := T2 2 (by omega)
    have t3 := T2 3 (by omega)
    rw [tG_2] at t2
    rw [tG_3] at t3
    obtain ⟨b2, a2⟩ := th t2 p1
    obtain ⟨b3, a3⟩ := th t3 p2
    rw [if_pos e18, if_pos e18]
    obtain ⟨u1, u2⟩ := tU_4 (A 3) q4
    refine ⟨?_, ?_, b0, fun _ => b2, b1, fun _ => b3⟩
    · rw [u1] at ub ⊢
      rw [lmul_t] <;> rw [i2l_t, i2l_t, a0, a2] <;> omega
    · rw [u2] at ub ⊢
      rw [lmul_t] <;> rw [i2l_t, i2l_t, a1, a3] <;> omega
theorem few {g : Nat} (h : ¬ 2 ≤ g) (t : Nat) : ¬ tOk g t := by
  rintro ⟨-, h2, h3, h4, -⟩
  omega
theorem ft_loop (C : C_X10_findsTrain X) (H : MdR h m A) (V : VA A) (hg : 2 ≤ gN A) {p q : Int64} (p0 : 0 ≤ p.toInt) (p1 : p.toInt ≤ 1000000) (q0 : 0 ≤ q.toInt) (q1 : q.toInt ≤ 1000000)
    (hq : ∀ (y : Int32) (h' : Hp), FrT m h h' → ((y = 0 ∧ trainQ A p.toInt q.toInt = none) ∨ (y = 1 ∧ ∃ t, trainQ A p.toInt q.toInt = some t ∧ FdH h' m t)) → Q (some (.int y)) h') (d : Nat) : ∀ (h' : Hp) (c : Nat), 20881 ≤ c + d → FrT m h h' → NTs h' m (gN A) c → (∀ t, t < c → tAll (gN A) t → ¬ tU (A 3) t * q.toInt = tL (A 3) t * p.toInt) → Wj X 0 0 Q 15 [(0, .ref m), (1, .long p), (3, .long q)] [] h' := by
  have vg := V.gn
  induction d with
  | zero =>
    intro h' c hc f N old
    exfalso
    rcases N with ⟨-, z⟩ | ⟨t, z, -, t2⟩
    · omega
    · have := t2.1; omega
  | succ d ih =>
    intro h' c hc f N old
    have H' := FrT.md H V f
    refine V_X10_findsTrain_15 C ⟨H'.1, (ma_nextTrain H' V hg N).mono (fun v h2 hp => ?_)⟩
    obtain ⟨y, rfl, hy, f2⟩ := hp
    have f02 := f.tr f2.t
    have H2 := FrT.md H V f02
    rcases hy with ⟨rfl, no⟩ | ⟨rfl, t, c1, t2, lt, T⟩
    · refine ⟨0, rfl, fun _ => hq 0 h2 f02 (Or.inl ⟨rfl, lsQ_no (fun t ht => ?_)⟩), fun z => absurd rfl z⟩
      rcases Nat.lt_or_ge t c with z | z
      · exact old t z (tOk_all ht.1) ht.2
      · exact no t z (tOk_all ht.1)
    · obtain ⟨eu, el, i0, i2, i1, i3⟩ := T.up H2 V t2
      have ub := tU_b V.teo t2
      have m1 := mul_bd (a := tU (A 3) t) (b := q.toInt) (M := 10000) (K := 1000000) (by omega) (by omega) q0 q1
      have m2 := mul_bd (a := tL (A 3) t) (b := p.toInt) (M := 10000) (K := 1000000) (by omega) (by omega) p0 p1
      have k1 : (mUp h2 m * q).toInt = tU (A 3) t * q.toInt := by rw [lmul_t] <;> rw [eu] <;> omega
      have k2 : (mLw h2 m * p).toInt = tL (A 3) t * p.toInt := by rw [lmul_t] <;> rw [el] <;> omega
      refine ⟨1, rfl, fun z => absurd z p1_ne, fun _ => ⟨H2.1, i0, i2, i1, i3, fun z => ?_, fun z => ?_⟩⟩
      · rw [i64_eq, k1, k2] at z
        have := t2.1
        refine ih h2 (t + 1) (by omega) f02 (Or.inr ⟨t, rfl, T, t2⟩) (fun t' h1 h3 => ?_)
        rcases Nat.lt_trichotomy t' t with y | y | y
        · rcases Nat.lt_or_ge t' c with w | w
          · exact old t' w h3
          · exact absurd h3 (lt t' w y)
        · rw [y]; exact z
        · omega
      · rw [i64_eq, k1, k2] at z
        refine (ma_finds H2.1 T).mono (fun v h9 hp => ?_)
        obtain ⟨rfl, F9, f9⟩ := hp
        have old' : ∀ t', t' < t → tAll (gN A) t' → ¬ tU (A 3) t' * q.toInt = tL (A 3) t' * p.toInt := by
          intro t' h1 h3
          rcases Nat.lt_or_ge t' c with w | w
          · exact old t' w h3
          · exact absurd h3 (lt t' w h1)
        have ok := least_ok vg.1 (te := A 3) (P := fun u l => u * q.toInt = l * p.toInt) t2 z old'
        exact ⟨rfl, hq 1 h9 (f02.tr (f9.mono (fun b j q => by unfold fdI' at q; unfold ftI; omega) (fun _ _ q => q))) (Or.inr ⟨rfl, t, lsQ_is ⟨ok, z⟩ (fun t' h1 h3 => old' t' h1 (tOk_all h3.1) h3.2), F9⟩)⟩
theorem ma_findsTrain (H : MdR h m A) (V : VA A) {p q : Int64} (p0 : 0 ≤ p.toInt) (p1 : p.toInt ≤ 1000000) (q0 : 0 ≤ q.toInt) (q1 : q.toInt ≤ 1000000) : S_X10_findsTrain l D 0 0 [.ref m, .long p, .long q] h (QI fun y h' => ((y = 0 ∧ trainQ A p.toInt q.toInt = none) ∨ (y = 1 ∧ ∃ t, trainQ A p.toInt q.toInt = some t ∧ FdH h' m t)) ∧ FrT m h h') := Sp.of rfl (Nat.le_of_ble_eq_true rfl) (fun X C _ _ _ _ => V_X10_findsTrain_0 C (by
  have vg := V.gn
  have e4 := H.n (i := 4) (by omega)
  have i2 : (2 : Int32).toInt = 2 := rfl
  refine ⟨H.1, fun z => ?_, fun z => ⟨0, rfl, Or.inl ⟨rfl, lsQ_no (fun t ht => ?_)⟩, FrW.rf⟩⟩
  all_goals rw [ix_4, i32_le, e4, i2] at z
  · refine ft_loop C H V (by omega) p0 p1 q0 q1 (fun y h' f hy => ⟨y, rfl, hy, f⟩) 20881 _ 0 (by omega) (FrW.si (P := ftI m) (R := fun _ _ => False) FrW.rf (Or.inl ⟨rfl, Or.inl rfl⟩)) (Or.inl ⟨?_, rfl⟩) (fun t h1 => by omega)
    rw [gi_si, if_pos ⟨rfl, rfl⟩]; rfl
  · exact few (by omega) t ht.1))
theorem map_succ (t k : Nat) : (List.range (k + 1)).map (fun i => tW t i) = (List.range k).map (fun i => tW t i) ++ [tW t k] := by
  rw [List.range_succ, List.map_append]; rfl
theorem ma_entersFound (F : St10 h m) {t : Nat} (T : FdH h m t) (w : RwM h m []) : S_X10_entersFound l D 0 0 [.ref m] h (QV fun h' => RwM h' m (tWl t) ∧ FrW (rI m) (rL m) h h') := Sp.of rfl (Nat.le_of_ble_eq_true rfl) (fun X C _ _ _ _ => V_X10_entersFound_0 C (by
  obtain ⟨T1, T2⟩ := T
  have tn := tN_24 t
  have key : ∀ (d : Nat) (h' : Hp) (v : Int32), 0 ≤ v.toInt → v.toInt + d = tN t → FrW (rI m) (rL m) h h' → RwM h' m ((List.range (ix v)).map (fun i => tW t i)) → Wj X 0 0 (QV fun h' => RwM h' m (tWl t) ∧ FrW (rI m) (rL m) h h') 2 [(0, .ref m), (1, .int v)] [] h' := by
    intro d
    induction d with
    | zero =>
      intro h' v v0 hd f r
      have e20 : (gi h' m 20).toInt = tN t := by rw [f.xi (fun q => by have := q.2; omega)]; exact T1
      refine V_X10_entersFound_2 C ⟨f.st10 F, fun _ => ⟨rfl, ?_, f⟩, fun q => ?_⟩
      · have : ix v = (tN t).toNat := by unfold ix; omega
        unfold tWl; rw [← this]; exact r
      · rw [i32_le, e20] at q; omega
    | succ d ih =>
      intro h' v v0 hd f r
      obtain ⟨x1, x2⟩ := ix_succ v0 (by omega)
      have hv := ix_t v0
      have e20 : (gi h' m 20).toInt = tN t := by rw [f.xi (fun q => by have := q.2; omega)]; exact T1
      have e8 : (gi h' (m + 8) (ix v)).toInt = tW t (ix v) := by rw [f.xi (fun q => by have := q.1; omega)]; exact T2 _ (by omega)
      refine V_X10_entersFound_2 C ⟨f.st10 F, fun q => ?_, fun _ => ⟨by unfold inb; omega, (ma_enters (f.st10 F) r (by rw [List.length_map, List.length_range]; omega) (z := tW t (ix v)) (by rw [i2l_t]; exact e8)).mono (fun z h3 hp => ?_)⟩⟩
      · rw [i32_le, e20] at q; omega
      · obtain ⟨rfl, r3, f3⟩ := hp
        refine ⟨rfl, ih h3 _ (by omega) (by omega) (f.tr f3) ?_⟩
        rw [x1, map_succ]; exact r3
  refine key (tN t).toNat h 0 (by decide) (by rw [i0_t]; omega) FrW.rf ?_
  rw [ix_0]; exact w))
theorem ma_train (S : MSt h m s) {p q : Int32} : S_X10_train l D 0 0 [.ref m, .int p, .int q] h (QI fun y h' => y.toInt = (trainP s p.toInt q.toInt).1 ∧ MSt h' m (trainP s p.toInt q.toInt).2 ∧ FrO (inM m) h h') := Sp.of rfl (Nat.le_of_ble_eq_true rfl) (fun X C _ _ _ _ => V_X10_train_0 C (by
  obtain ⟨S1, f1⟩ := S.t0
  have V := S.1.va
  unfold trainP
  refine ⟨S.1.1, fun z => ?_, fun z => ⟨_, rfl, ?_⟩⟩
  all_goals rw [iRt_0] at z
  · have hz := Classical.not_not.mp z
    rw [if_pos hz]
    refine (ma_findsTrain S1.1.md V (p := p.toInt64) (q := q.toInt64) (by rw [i2l_t]; omega) (by rw [i2l_t]; omega) (by rw [i2l_t]; omega) (by rw [i2l_t]; omega)).mono (fun w h2 hp => ?_)
    obtain ⟨y, rfl, hy, f2⟩ := hp
    rw [i2l_t, i2l_t] at hy
    obtain ⟨S2, g2⟩ := FrT.ms S1 f2
    rcases hy with ⟨rfl, e⟩ | ⟨rfl, t, e, T⟩
    · rw [e]
      exact ⟨0, rfl, fun q => absurd rfl q, fun _ => ⟨_, rfl, rfl, S2, f1.tr g2⟩⟩
    · rw [e]
      refine ⟨1, rfl, fun _ => ⟨S2.1.1, ?_⟩, fun q => absurd q p1_ne⟩
      have ft : FrW (rI m) (rL m) h2 (si h2 m 1 0) := FrW.si (P := rI m) (R := rL m) FrW.rf ⟨rfl, rfl⟩
      have T2 : FdH (si h2 m 1 0) m t := ⟨by rw [gi_si, if_neg (by omega)]; exact T.1, fun j hj => by rw [gi_si, if_neg (by omega)]; exact T.2 j hj⟩
      refine (ma_entersFound (ft.st10 S2.1.1) T2 (RwM.clr 0 rfl)).mono (fun w h5 hp => ?_)
      obtain ⟨rfl, w5, f5⟩ := hp
      have f25 := ft.tr f5
      obtain ⟨S5, g5⟩ := S2.row f25 w5
      exact ⟨rfl, S5.1.1, _, rfl, by rw [f25.xi (fun q => by have := q.2; omega)]; exact T.1, S5, (f1.tr g2).tr g5⟩
  · rw [if_neg z]; exact ⟨rfl, S1, f1⟩))
end FnM
