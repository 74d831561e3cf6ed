-- gears() of the reference
section MGe
variable {X : Ctx} {l : Launch} {D : Dt} {h : Hp} {m : Nat} {Q : Pq} {A : HV} {s : Sv}
abbrev FrE (m : Nat) (h h' : Hp) : Prop := FrW (fun b j => b = m + 3 ∧ 244 ≤ j ∧ j < 305 ∨ b = m ∧ j = 5) (fun _ _ => False) h h'
theorem FrE.rf : FrE m h h := FrW.rf (P := fun b j => b = m + 3 ∧ 244 ≤ j ∧ j < 305 ∨ b = m ∧ j = 5) (R := fun _ _ => False)
theorem FrE.ms {h' : Hp} (S : MSt h m s) (f : FrE m h h') : MSt h' m s ∧ FrO (inM m) h h' :=
  ⟨S.fr f (fun j hj q => by omega) (fun q => by omega) (fun j q => by omega) (fun _ _ => id) (fun q => by omega) (fun _ => id) (fun q => by omega) (fun j q => by omega),
   f.toM (fun b j q => by unfold inM; omega) (fun _ _ q => absurd q id)⟩
abbrev FrB4 (m : Nat) (h h' : Hp) : Prop := FrW (fun b j => b = m + 3 ∧ 244 ≤ j ∧ j < 305) (fun _ _ => False) h h'
theorem FrB4.e {h' : Hp} (f : FrB4 m h h') : FrE m h h' := f.mono (fun b j q => Or.inl q) (fun _ _ q => q)
theorem FrB4.put {h' : Hp} (f : FrB4 m h h') {j : Nat} {v : Int32} (h1 : 244 ≤ j) (h2 : j < 305) : FrB4 m h (si h' (m + 3) j v) := FrW.si (P := fun b j => b = m + 3 ∧ 244 ≤ j ∧ j < 305) (R := fun _ _ => False) f ⟨rfl, h1, h2⟩
theorem FrB4.rf : FrB4 m h h := FrW.rf (P := fun b j => b = m + 3 ∧ 244 ≤ j ∧ j < 305) (R := fun _ _ => False)
theorem FrB4.rd {h' : Hp} {T : List Int} {a : Nat} (f : FrB4 m h h') (r : Rd h m T a) : Rd h' m T a := r.fr f (fun q => by omega) (fun q => by omega) (fun j q => by omega)
theorem FrD5.e {h' : Hp} (f : FrD5 m h h') : FrE m h h' := f.mono (fun b j q => Or.inr q) (fun _ _ q => q)
/-- behind reads() and the copy: what is read lies in block 4 -/
theorem reads_st (S : MSt h m s) : MSt (si (si (si (si h m 0 0) m 6 (gi (si h m 0 0) m 4)) m 4 0) m 5 0) m (txtS s []) ∧ Rd (si (si (si (si h m 0 0) m 6 (gi (si h m 0 0) m 4)) m 4 0) m 5 0) m (sT s) 0 ∧ FrO (inM m) h (si (si (si (si h m 0 0) m 6 (gi (si h m 0 0) m 4)) m 4 0) m 5 0) := by
  have im : inM m m := ⟨by omega, by omega⟩
  have f : FrW (fun b j => b = m ∧ (j = 0 ∨ j = 4 ∨ j = 5 ∨ j = 6)) (fun _ _ => False) h (si (si (si (si h m 0 0) m 6 (gi (si h m 0 0) m 4)) m 4 0) m 5 0) :=
    FrW.si (P := fun b j => b = m ∧ (j = 0 ∨ j = 4 ∨ j = 5 ∨ j = 6)) (R := fun _ _ => False) (FrW.si (P := fun b j => b = m ∧ (j = 0 ∨ j = 4 ∨ j = 5 ∨ j = 6)) (R := fun _ _ => False) (FrW.si (P := fun b j => b = m ∧ (j = 0 ∨ j = 4 ∨ j = 5 ∨ j = 6)) (R := fun _ _ => False) (FrW.si (P := fun b j => b = m ∧ (j = 0 ∨ j = 4 ∨ j = 5 ∨ j = 6)) (R := fun _ _ => False) FrW.rf ⟨rfl, by omega⟩) ⟨rfl, by omega⟩) ⟨rfl, by omega⟩) ⟨rfl, by omega⟩
  obtain ⟨t1, t2, t3⟩ := S.2.2
  refine ⟨⟨S.1.fr f (fun j hj q => by omega) (fun q => by omega) (fun j q => by omega) (fun _ _ => id), S.2.1.fr f (fun q => by omega) (fun _ => id), ⟨?_, by simp [txtS, sT], fun i hi => ?_⟩⟩, ⟨?_, ?_, t2, fun i hi => ?_, Nat.zero_le _⟩, f.toM (fun b j q => by unfold inM; omega) (fun _ _ q => absurd q id)⟩
  · rw [gi_si, if_neg (by omega), gi_si, if_pos ⟨rfl, rfl⟩]; rfl
  · have : i < 0 := hi
    omega
  · rw [gi_si, if_pos ⟨rfl, rfl⟩]; rfl
  · rw [gi_si, if_neg (by omega), gi_si, if_neg (by omega), gi_si, if_pos ⟨rfl, rfl⟩, gi_si, if_neg (by omega)]; exact t1
  · rw [f.xi (fun q => by omega)]; exact t3 i hi
theorem mI4 {k : Nat} : mI h m 4 k = (gi h (m + 3) (244 + k)).toInt := by unfold mI; rw [show k + 61 * 4 = 244 + k by omega]
theorem ma_gears (S : MSt h m s) : S_X10_gears l D 0 0 [.ref m] h (QI fun y h' => y.toInt = (gearsP s).1 ∧ MSt h' m (gearsP s).2 ∧ FrO (inM m) h h') := Sp.of rfl (Nat.le_of_ble_eq_true rfl) (fun X C _ _ _ _ => V_X10_gears_0 C (by
  obtain ⟨S1, R1, f1⟩ := reads_st S
  have V := S.1.va
  have vg := V.2.2.2.2.1
  have i2 : (2 : Int32).toInt = 2 := rfl
  have i12 : (12 : Int32).toInt = 12 := rfl
  have i44 : (44 : Int32).toInt = 44 := rfl
  have i244 : (244 : Int32).toInt = 244 := rfl
  have x248 : ix (244 + 4) = 248 := rfl
  have l20 : (20 : Int64).toInt = 20 := rfl
  have l100 : (100 : Int64).toInt = 100 := rfl
  generalize (si (si (si (si h m 0 0) m 6 (gi (si h m 0 0) m 4)) m 4 0) m 5 0) = h1 at *
  refine ⟨S.1.1, (ma_copies S1.1.1 (a := 0) (b := 4) rfl rfl (by omega) (by omega) (by omega)).mono (fun z h2 hp => ?_)⟩
  obtain ⟨rfl, c2⟩ := hp
  obtain ⟨S2, f2⟩ := S1.cp c2 (Or.inr rfl)
  have K4 : MK h2 m 4 (sA s) := MK.cpd S1.1.2.1 S1.1.va c2
  have R2 : Rd h2 m (sT s) 0 := R1.fr c2.1 (fun q => by have := q.1; omega) (fun q => by have := q.1; omega) (fun j q => by have := q.1; omega)
  rw [x248]
  have fb : FrB4 m h2 (si h2 (m + 3) 248 0) := FrB4.put FrB4.rf (by omega) (by omega)
  have fs := FrB4.e fb
  have O3 : MO (mI (si h2 (m + 3) 248 0) m 4) (uv (sA s) 0 4 0) := by
    obtain ⟨o1, o2, o3⟩ := K4.mo
    refine ⟨fun i hi => ?_, fun k hk => ?_, fun k hk => ?_⟩
    · rw [mI4, gi_si, uv_i]
      by_cases e : i = 4
      · rw [if_pos ⟨rfl, by omega⟩, if_pos ⟨rfl, e⟩]; rfl
      · rw [if_neg (by omega), if_neg (fun z => e z.2), ← mI4]; exact o1 i hi
    · rw [uv_i, if_neg (by omega)] at hk
      rw [mI4, mI4, gi_si, if_neg (by omega), gi_si, if_neg (by omega), uv_i, if_neg (by omega), uv_i, if_neg (by omega), ← mI4, ← mI4]; exact o2 k hk
    · rw [uv_i, if_pos ⟨rfl, rfl⟩] at hk; omega
  have R3 : Rd (si h2 (m + 3) 248 0) m (sT s) 0 := FrB4.rd fb R2
  obtain ⟨S3, f3⟩ := FrE.ms S2 fs
  have F3 : FrO (inM m) h (si h2 (m + 3) 248 0) := (f1.tr f2).tr f3
  have oN := VO.none4 V
  generalize hT : sT s = T at *
  -- the end: all is read
  have fin : ∀ (p : Nat) (E : HV) (h' : Hp), FrE m (si h2 (m + 3) 248 0) h' → Rd h' m T p → MO (mI h' m 4) E → VO E → ∀ (r : Int × HV), r = (if p = T.length then (E 0 4, E) else (-1 - (p : Int), E)) → Wj X 0 0 (QI fun y h' => y.toInt = r.1 ∧ MSt h' m (if 0 ≤ r.1 then pushS (txtS s []) (firstV r.2) else txtS s []) ∧ FrO (inM m) h h') 41 [(0, .ref m), (1, .int 244), (2, .int 0)] [] h' := by
    intro p E h' f' R' O' oE r er
    obtain ⟨S', o'⟩ := FrE.ms S3 f'
    obtain ⟨r1, r2, r3, r4, r5⟩ := id R'
    have e4 : (gi h' (m + 3) 248).toInt = E 0 4 := by
      have := O'.1 4 (by omega)
      rw [mI4] at this; exact this
    have b4 := oE.2.2.2.2.1
    refine V_X10_gears_41 C ⟨fun _ => ⟨S'.1.1, fun q => ⟨⟨by decide, by decide⟩, ?_⟩, fun q => ⟨_, rfl, ?_⟩⟩, fun q => absurd rfl q⟩
    all_goals rw [i32_le, r1, r2] at q
    · rw [x248]
      refine (ma_putsRead S' O' oE (v := gi h' (m + 3) 248) (by rw [e4]; omega)).mono (fun z h3 hp => ?_)
      obtain ⟨y, rfl, ey, S6, f6⟩ := hp
      refine ⟨y, rfl, y, rfl, ?_⟩
      rw [er, if_pos (by omega)]
      dsimp only
      rw [if_pos (by omega), ey]
      exact ⟨e4, S6, (F3.tr o').tr f6⟩
    · rw [er, if_neg (by omega)]
      dsimp only
      rw [if_neg (by omega)]
      refine ⟨?_, S', F3.tr o'⟩
      rw [isub_t] <;> rw [im1_t, r1] <;> omega
  have key : ∀ (f p : Nat) (E : HV) (h' : Hp), E 0 4 + (f : Int) = 12 → 1 ≤ f → 0 ≤ E 0 4 → FrE m (si h2 (m + 3) 248 0) h' → Rd h' m T p → MO (mI h' m 4) E → VO E → ∀ v2 : Int32, v2 ≠ 0 → Wj X 0 0 (QI fun y h' => y.toInt = (rdG T f p E).1 ∧ MSt h' m (if 0 ≤ (rdG T f p E).1 then pushS (txtS s []) (firstV (rdG T f p E).2) else txtS s []) ∧ FrO (inM m) h h') 41 [(0, .ref m), (1, .int 244), (2, .int v2)] [] h' := by
    intro f
    induction f with
    | zero => intro p E h' hf h1' _ _ _ _ _ _ _; omega
    | succ f ih =>
      intro p E h' hf _ h0 f' R' O' oE v2 hv2
      obtain ⟨S', o'⟩ := FrE.ms S3 f'
      have tl := R'.2.2.1
      -- a refused sign
      have bad : ∀ (a : Nat) (h6 : Hp), FrE m (si h2 (m + 3) 248 0) h6 → Rd h6 m T a → rdG T (f + 1) p E = (-1 - (a : Int), E) → (QI fun y h' => y.toInt = (rdG T (f + 1) p E).1 ∧ MSt h' m (if 0 ≤ (rdG T (f + 1) p E).1 then pushS (txtS s []) (firstV (rdG T (f + 1) p E).2) else txtS s []) ∧ FrO (inM m) h h') (some (.int ((-1) - gi h6 m 5))) h6 := fun a h6 f6 R6 er => by
        obtain ⟨S6, o6⟩ := FrE.ms S3 f6
        refine ⟨_, rfl, ?_⟩
        rw [er]
        dsimp only
        rw [if_neg (by omega)]
        have := R6.2.2.2.2
        refine ⟨?_, S6, F3.tr o6⟩
        rw [isub_t] <;> rw [im1_t, R6.1] <;> omega
      -- behind the number
      have p83 : ∀ (d : Nat) (v : Int) (s0 : Int32) (h6 : Hp), 0 < d → s0.toInt = v → FrE m (si h2 (m + 3) 248 0) h6 → Rd h6 m T (p + d) → MO (mI h6 m 4) E → rdG T (f + 1) p E = rdG2 T f p d v E → Wj X 0 0 (QI fun y h' => y.toInt = (rdG T (f + 1) p E).1 ∧ MSt h' m (if 0 ≤ (rdG T (f + 1) p E).1 then pushS (txtS s []) (firstV (rdG T (f + 1) p E).2) else txtS s []) ∧ FrO (inM m) h h') 83 [(0, .ref m), (1, .int 244)] [.int s0] h6 := by
        intro d v s0 h6 d0 es f6 R6 O6 er
        rw [er]
        obtain ⟨S6, o6⟩ := FrE.ms S3 f6
        refine V_X10_gears_83 C ⟨fun q => ⟨S6.1.1, ⟨by decide, by decide⟩, ?_⟩, fun q => ⟨S6.1.1, _, rfl, ?_⟩⟩
        all_goals rw [btL_0, i2l_t, es, l20, l100] at q
        · have hv : 20 ≤ v ∧ v ≤ 100 := Classical.not_not.mp q
          have e4 : (gi h6 (m + 3) 248).toInt = E 0 4 := by
            have := O6.1 4 (by omega)
            rw [mI4] at this; exact this
          rw [x248]
          obtain ⟨z4, ez4⟩ : ∃ z : Nat, E 0 4 = z := ⟨(E 0 4).toNat, by omega⟩
          have i285 : (244 + 41 : Int32).toInt = 285 := rfl
          obtain ⟨y1, -⟩ := ix_add (c := 244 + 41) (v := gi h6 (m + 3) 248) (a := 285) (b := z4) i285 (by rw [e4, ez4]) (by omega)
          have ib : inb (244 + 41 + gi h6 (m + 3) 248) 732 := inb_add (a := 285) (b := z4) i285 (by rw [e4, ez4]) (by omega) (by omega)
          refine ⟨ib, ?_⟩
          rw [y1]
          have ge : gi (si h6 (m + 3) (285 + z4) s0) (m + 3) 248 = gi h6 (m + 3) 248 := by rw [gi_si, if_neg (by omega)]
          rw [ge]
          have e5 : (gi h6 (m + 3) 248 + 1).toInt = E 0 4 + 1 := by rw [iadd_t] <;> rw [e4, i1_t] <;> omega
          generalize gi h6 (m + 3) 248 + 1 = w4 at *
          have b7 : FrB4 m h6 (si (si h6 (m + 3) (285 + z4) s0) (m + 3) 248 w4) := FrB4.put (FrB4.put FrB4.rf (by omega) (by omega)) (by omega) (by omega)
          have f7 := FrB4.e b7
          have g4 : gi (si (si h6 (m + 3) (285 + z4) s0) (m + 3) 248 w4) (m + 3) 248 = w4 := by rw [gi_si, if_pos ⟨rfl, rfl⟩]
          have O7 : MO (mI (si (si h6 (m + 3) (285 + z4) s0) (m + 3) 248 w4) m 4) (addGV E v) := by
            obtain ⟨o1, o2, o3⟩ := O6
            refine ⟨fun i hi => ?_, fun k hk => ?_, fun k hk => ?_⟩
            · rw [mI4, gi_si]
              by_cases e : i = 4
              · rw [if_pos ⟨rfl, by omega⟩, e, addGV_4]; exact e5
              · rw [if_neg (by omega), gi_si, if_neg (by omega), addGV_0 e, ← mI4]; exact o1 i hi
            · rw [addGV_0 (by omega)] at hk
              have b3 := oE.2.2.2.1
              rw [mI4, mI4, gi_si, if_neg (by omega), gi_si, if_neg (by omega), gi_si, if_neg (by omega), gi_si, if_neg (by omega), addGV_i (by omega) (by omega), addGV_i (by omega) (by omega), ← mI4, ← mI4]; exact o2 k hk
            · rw [addGV_4] at hk
              rw [mI4, gi_si, if_neg (by omega), gi_si, addGV_3]
              by_cases e : k = (E 0 4).toNat
              · rw [if_pos ⟨rfl, by omega⟩, if_pos e]; exact es
              · rw [if_neg (by omega), if_neg e, ← mI4]; exact o3 k (by omega)
          have o7E := oE.gear (v := v) (by omega) hv.1 hv.2
          have R7 := FrB4.rd b7 R6
          have f07 := f6.tr f7
          generalize (si (si h6 (m + 3) (285 + z4) s0) (m + 3) 248 w4) = h7 at *
          have pT := R7.2.2.2.2
          rw [g4]
          unfold rdG2
          rw [if_pos hv]
          refine ⟨fun z => ?_, fun z => ?_⟩
          all_goals rw [i32_le, i12, e5] at z
          · refine fin (p + d) (addGV E v) h7 f07 R7 O7 o7E _ ?_
            rw [addGV_4]
            by_cases c : p + d = T.length
            · rw [if_pos c, if_pos c]
            · rw [if_neg c, if_neg c, if_neg (by omega)]
          · refine (ma_takes (FrE.ms S3 f07).1.1.1 R7 (v := 44) (by decide)).mono (fun w h8 hp => ?_)
            obtain ⟨y, rfl, hy, f8⟩ := hp
            have f08 := f07.tr (FrD5.e f8)
            have O8 : MO (mI h8 m 4) (addGV E v) := by
              have e : ∀ k, mI h8 m 4 k = mI h7 m 4 k := fun k => by unfold mI; rw [f8.xi (fun q => by omega)]
              obtain ⟨o1, o2, o3⟩ := O7
              exact ⟨fun i hi => by rw [e]; exact o1 i hi, fun k hk => by rw [e, e]; exact o2 k hk, fun k hk => by rw [e]; exact o3 k hk⟩
            rw [i44] at hy
            rcases hy with ⟨y0, n44, R8⟩ | ⟨y0, e44, la, R8⟩
            · refine ⟨y, rfl, fun _ => ?_, fun q => absurd y0 q⟩
              refine fin (p + d) (addGV E v) h8 f08 R8 O8 o7E _ ?_
              rw [addGV_4]
              by_cases c : p + d = T.length
              · rw [if_pos c, if_pos c]
              · rw [if_neg c, if_neg c, if_neg (fun q => n44 q.1)]
            · refine ⟨y, rfl, fun q => absurd q y0, fun _ => ?_⟩
              rw [if_neg (by omega), if_pos ⟨e44, by rw [addGV_4]; omega⟩]
              exact ih (p + d + 1) (addGV E v) h8 (by rw [addGV_4]; omega) (by omega) (by rw [addGV_4]; omega) f08 R8 O8 o7E 1 (by decide)
        · unfold rdG2
          rw [if_neg q]
          dsimp only
          have := R6.2.2.2.2
          have e : (-gi h6 m 5).toInt = -((p + d : Nat) : Int) := by rw [ineg_t] <;> rw [R6.1]; omega
          rw [if_neg (by omega)]
          exact ⟨e, S6, F3.tr o6⟩
      refine V_X10_gears_41 C ⟨fun q => absurd q hv2, fun _ => ⟨S'.1.1, 0, 0, Nat.zero_le _, Nat.zero_le _, (ma_two S'.1.1 R').mono (fun w h7 hp => ?_)⟩⟩
      obtain ⟨y, rfl, ey, R7, f7⟩ := hp
      have f07 := f'.tr (FrD5.e f7)
      have O7 : MO (mI h7 m 4) E := by
        have e : ∀ k, mI h7 m 4 k = mI h' m 4 k := fun k => by unfold mI; rw [f7.xi (fun q => by omega)]
        obtain ⟨o1, o2, o3⟩ := O'
        exact ⟨fun i hi => by rw [e]; exact o1 i hi, fun k hk => by rw [e, e]; exact o2 k hk, fun k hk => by rw [e]; exact o3 k hk⟩
      have F7 := (FrE.ms S3 f07).1.1.1
      by_cases a : dg T p
      · by_cases b : dg T (p + 1)
        · have a' := a
          have b' := b
          unfold dg at a' b'
          have et : twQ T p = (nm2 T p, p + 2) := by unfold twQ; rw [if_pos a', if_pos b']
          rw [et] at ey R7
          dsimp only at ey R7
          have nb := nm2_b a b
          refine ⟨y, rfl, fun _ => ⟨F7, 0, 0, Nat.zero_le _, Nat.zero_le _, (ma_digit F7 R7).mono (fun w h12 hp => ?_)⟩, fun q => absurd (by rw [i32_le, i0_t]; omega) q⟩
          obtain ⟨y2, rfl, ey2, R12, f12⟩ := hp
          have f012 := f07.tr (FrD5.e f12)
          have O12 : MO (mI h12 m 4) E := by
            have e : ∀ k, mI h12 m 4 k = mI h7 m 4 k := fun k => by unfold mI; rw [f12.xi (fun q => by omega)]
            obtain ⟨o1, o2, o3⟩ := O7
            exact ⟨fun i hi => by rw [e]; exact o1 i hi, fun k hk => by rw [e, e]; exact o2 k hk, fun k hk => by rw [e]; exact o3 k hk⟩
          have t0 := tkI_0 (v := tsg T (p + 2))
          by_cases c : dg T (p + 2)
          · have c' := c
            unfold dg at c'
            have e2 := t0.2 c'
            rw [if_neg (by omega)] at R12
            refine ⟨y2, rfl, fun _ => ?_, fun q => absurd (by rw [i32_le, i0_t]; omega) q⟩
            refine p83 3 (nm3 T p) _ h12 (by omega) ?_ f012 R12 O12 (rdG_3 a b c)
            have i10 : (10 : Int32).toInt = 10 := rfl
            have m1 : (10 * y).toInt = 10 * nm2 T p := by rw [imul_t] <;> rw [i10, ey] <;> omega
            unfold nm3
            rw [iadd_t] <;> rw [m1, ey2, e2] <;> omega
          · have c' := c
            unfold dg at c'
            have lt := t0.1.mpr c'
            rw [if_pos lt] at R12
            refine ⟨y2, rfl, fun q => ?_, fun _ => p83 2 (nm2 T p) _ h12 (by omega) ey f012 R12 O12 (rdG_2 a b c)⟩
            exfalso
            rw [i32_le, i0_t] at q; omega
        · have a' := a
          have b' := b
          unfold dg at a' b'
          have et : twQ T p = (-1, p + 1) := by unfold twQ; rw [if_pos a', if_neg b']
          rw [et] at ey R7
          dsimp only at ey R7
          refine ⟨y, rfl, fun q => ?_, fun _ => ⟨F7, bad (p + 1) h7 f07 R7 (rdG_b a b)⟩⟩
          exfalso
          rw [i32_le, i0_t] at q; omega
      · have a' := a
        unfold dg at a'
        have et : twQ T p = (-1, p) := by unfold twQ; rw [if_neg a']
        rw [et] at ey R7
        dsimp only at ey R7
        refine ⟨y, rfl, fun q => ?_, fun _ => ⟨F7, bad p h7 f07 R7 (rdG_a a)⟩⟩
        exfalso
        rw [i32_le, i0_t] at q; omega
  have gp : gearsP s = ((gearsF T (sA s)).1, if 0 ≤ (gearsF T (sA s)).1 then pushS (txtS s []) (gearsF T (sA s)).2 else txtS s []) := by unfold gearsP actP; rw [hT]; rfl
  rw [gp]
  unfold gearsF
  have e6 := R3.2.1
  refine ⟨rfl, S2.1.1, ⟨by decide, by decide⟩, fun q => ?_, fun q => ?_⟩
  all_goals rw [i32_le, i0_t, e6] at q
  · rw [if_pos (by omega)]
    refine fin 0 (uv (sA s) 0 4 0) _ FrE.rf R3 O3 oN (0, uv (sA s) 0 4 0) ?_
    rw [if_pos (by omega), uv_i, if_pos ⟨rfl, rfl⟩]
  · rw [if_neg (by omega)]
    exact key 12 0 (uv (sA s) 0 4 0) _ (by rw [uv_i, if_pos ⟨rfl, rfl⟩]; omega) (by omega) (by rw [uv_i, if_pos ⟨rfl, rfl⟩]; omega) FrE.rf R3 O3 oN 1 (by decide)))
end MGe
