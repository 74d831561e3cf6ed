-- plates() of the reference
section MPl
variable {X : Ctx} {l : Launch} {D : Dt} {h : Hp} {m : Nat} {Q : Pq} {A : HV} {s : Sv} {T : List Int}
theorem FrE.mo {h' : Hp} {E : HV} (f : FrD5 m h h') (O : MO (mI h m 4) E) : MO (mI h' m 4) E := by
  have e : ∀ k, mI h' m 4 k = mI h m 4 k := fun k => by unfold mI; rw [f.xi (fun q => by omega)]
  obtain ⟨o1, o2, o3⟩ := O
  exact ⟨fun i hi => by rw [e]; exact o1 i hi, fun k hk => by rw [e, e]; exact o2 k hk, fun k hk => by rw [e]; exact o3 k hk⟩
/-- as it lies in block 4 while a plate is read: one plate less is told -/
def lessP (E : HV) : HV := uv E 0 2 (E 0 2 - 1)
theorem lessP_2 {E : HV} : lessP E 0 2 = E 0 2 - 1 := by unfold lessP; rw [uv_i, if_pos ⟨rfl, rfl⟩]
theorem lessP_o {E : HV} {i j : Nat} (h : ¬ (i = 0 ∧ j = 2)) : lessP E i j = E i j := by unfold lessP; rw [uv_i, if_neg h]
theorem lessP_next {E : HV} : lessP (uv E 0 2 (E 0 2 + 1)) = E := by
  funext i j
  by_cases e : i = 0 ∧ j = 2
  · rw [e.1, e.2, lessP_2, uv_i, if_pos ⟨rfl, rfl⟩]; omega
  · rw [lessP_o e, uv_i, if_neg e]
/-- what is due behind a plate -/
def rdP3 (T : List Int) (f p : Nat) (E : HV) : Int × HV :=
  if p = T.length then (E 0 3, E) else if tsg T p = 59 ∧ E 0 2 < 3 then rdP T f (p + 1) (uv E 0 2 (E 0 2 + 1)) 0 0 else (-1 - (p : Int), E)
theorem ma_readsPlate {p f : Nat} {E : HV} (F : St10 h m) (R : Rd h m T p) (O : MO (mI h m 4) (lessP E)) (po : PO E 0) (hf : T.length < p + 3 * f) : S_X10_readsPlate l D 0 0 [.ref m, .int 244] h (QI fun y h' => FrE m h h' ∧ ((y = 0 ∧ ∃ a, Rd h' m T a ∧ (rdP T f p E 0 0).1 = -1 - (a : Int)) ∨ (y ≠ 0 ∧ ∃ (f' p' : Nat) (E' : HV), f' < f ∧ Rd h' m T p' ∧ MO (mI h' m 4) E' ∧ VO E' ∧ E' 0 3 ≤ 6 * E' 0 2 ∧ T.length < p' + 1 + 3 * f' ∧ rdP T f p E 0 0 = rdP3 T f' p' E'))) := Sp.of rfl (Nat.le_of_ble_eq_true rfl) (fun X C _ _ _ _ => V_X10_readsPlate_0 C (by
  have i6 : (6 : Int32).toInt = 6 := rfl
  have i44 : (44 : Int32).toInt = 44 := rfl
  have l10 : (10 : Int64).toInt = 10 := rfl
  have l70 : (70 : Int64).toInt = 70 := rfl
  have x246 : ix (244 + 2) = 246 := rfl
  have x247 : ix (244 + 3) = 247 := rfl
  have tl := R.2.2.1
  have key : ∀ (d p' : Nat) (E' : HV) (b : Int) (c : Nat) (h' : Hp) (v2 v3 : Int32), d ≤ f → v2.toInt = b → v3.toInt = c → Rd h' m T p' → MO (mI h' m 4) (lessP E') → PO E' c → c ≤ 5 → T.length < p' + 3 * d → FrE m h h' → rdP T f p E 0 0 = rdP T d p' E' b c → Wj X 0 0 (QI fun y h' => FrE m h h' ∧ ((y = 0 ∧ ∃ a, Rd h' m T a ∧ (rdP T f p E 0 0).1 = -1 - (a : Int)) ∨ (y ≠ 0 ∧ ∃ (f' p' : Nat) (E' : HV), f' < f ∧ Rd h' m T p' ∧ MO (mI h' m 4) E' ∧ VO E' ∧ E' 0 3 ≤ 6 * E' 0 2 ∧ T.length < p' + 1 + 3 * f' ∧ rdP T f p E 0 0 = rdP3 T f' p' E'))) 4 [(0, .ref m), (1, .int 244), (2, .int v2), (3, .int v3)] [] h' := by
    intro d
    induction d with
    | zero => intro p' E' b c h' v2 v3 _ _ _ r _ _ _ h2 _ _; have := r.2.2.2.2; omega
    | succ d ih =>
      intro p' E' b c h' v2 v3 hdf e2 e3 R' O' po' hc hd f' er
      have F' : St10 h' m := f'.st10 F
      have minus : ∀ (a : Nat) (h6 : Hp), Rd h6 m T (a + 1) → FrE m h h6 → (rdP T f p E 0 0).1 = -1 - (a : Int) → (QI fun y h' => FrE m h h' ∧ ((y = 0 ∧ ∃ a, Rd h' m T a ∧ (rdP T f p E 0 0).1 = -1 - (a : Int)) ∨ (y ≠ 0 ∧ ∃ (f' p' : Nat) (E' : HV), f' < f ∧ Rd h' m T p' ∧ MO (mI h' m 4) E' ∧ VO E' ∧ E' 0 3 ≤ 6 * E' 0 2 ∧ T.length < p' + 1 + 3 * f' ∧ rdP T f p E 0 0 = rdP3 T f' p' E'))) (some (.int 0)) (si h6 m 5 (gi h6 m 5 - 1)) := fun a h6 r6 f6 e => by
        have b6 := r6.2.2.2.2
        have e5 : (gi h6 m 5 - 1).toInt = a := by rw [isub_t] <;> rw [r6.1, i1_t] <;> omega
        obtain ⟨r7, f7⟩ := r6.at5 e5 (by have := r6.2.2.2.2; omega)
        exact ⟨0, rfl, f6.tr (FrD5.e f7), Or.inl ⟨rfl, a, r7, e⟩⟩
      have b2 := po'.2.2.1
      have b3 := po'.2.2.2.1
      refine V_X10_readsPlate_4 C ⟨fun _ => ⟨F', 0, 0, Nat.zero_le _, Nat.zero_le _, (ma_two F' R').mono (fun w h2 hp => ?_)⟩, fun z => ?_⟩
      · obtain ⟨y, rfl, ey, R2, f2⟩ := hp
        have f02 := f'.tr (FrD5.e f2)
        have O2 := FrE.mo f2 O'
        have F2 : St10 h2 m := f02.st10 F
        have bad : ∀ a : Nat, twQ T p' = (-1, a) → rdP T (d + 1) p' E' b c = (-1 - (a : Int), E') → ∃ x, some (Value.int y) = some (Value.int x) ∧ (((0 ≤ x → False) ∧ (¬ 0 ≤ x → True)) ∨ True) := fun _ _ _ => ⟨y, rfl, Or.inr trivial⟩
        clear bad
        by_cases xa : dg T p'
        · by_cases xb : dg T (p' + 1)
          · have xa' := xa
            have xb' := xb
            unfold dg at xa' xb'
            have et : twQ T p' = (nm2 T p', p' + 2) := by unfold twQ; rw [if_pos xa', if_pos xb']
            rw [et] at ey R2
            dsimp only at ey R2
            have nb := nm2_b xa xb
            have lb := dg_lt xb
            refine ⟨y, rfl, fun _ => ⟨fun q => V_X10_readsPlate_56 C ⟨F2, ?_⟩, fun q => ⟨fun z2 => ⟨F2, ⟨by decide, by decide⟩, ⟨by decide, by decide⟩, ?_⟩, fun z2 => V_X10_readsPlate_56 C ⟨F2, ?_⟩⟩⟩, fun q => absurd (by rw [i32_le, i0_t]; omega) q⟩
            · rw [btL_0, i2l_t, l10, l70, ey] at q
              exact minus (p' + 1) h2 R2 f02 (by rw [er, rdP_c xa xb (fun z => q z.1)])
            · rw [btL_0, i2l_t, l10, l70, ey] at q
              rw [i32_lt, ey, e2] at z2
              have q' : 10 ≤ nm2 T p' ∧ nm2 T p' ≤ 70 := Classical.not_not.mp q
              rw [rdP_d xa xb ⟨q', z2⟩] at er
              obtain ⟨po2, vo2⟩ := po'.add hc (v := nm2 T p') q'.1 q'.2
              rw [x246, x247]
              have g2 : (gi h2 (m + 3) 246).toInt = E' 0 2 - 1 := by
                have := O2.1 2 (by omega)
                rw [mI4, lessP_2] at this; exact this
              have g3 : (gi h2 (m + 3) 247).toInt = E' 0 3 := by
                have := O2.1 3 (by omega)
                rw [mI4, lessP_o (by omega)] at this; exact this
              obtain ⟨z3, ez3⟩ : ∃ z : Nat, E' 0 3 = z := ⟨(E' 0 3).toNat, by omega⟩
              have i249 : (244 + 5 : Int32).toInt = 249 := rfl
              have i267 : (244 + 23 : Int32).toInt = 267 := rfl
              obtain ⟨y1, -⟩ := ix_add (c := 244 + 5) (v := gi h2 (m + 3) 247) (a := 249) (b := z3) i249 (by rw [g3, ez3]) (by omega)
              have ib1 : inb (244 + 5 + gi h2 (m + 3) 247) 732 := inb_add (a := 249) (b := z3) i249 (by rw [g3, ez3]) (by omega) (by omega)
              refine ⟨ib1, ?_⟩
              rw [y1]
              have ge : ∀ w : Int32, gi (si h2 (m + 3) (249 + z3) w) (m + 3) 247 = gi h2 (m + 3) 247 := fun w => by rw [gi_si, if_neg (by omega)]
              rw [ge]
              obtain ⟨y2, -⟩ := ix_add (c := 244 + 23) (v := gi h2 (m + 3) 247) (a := 267) (b := z3) i267 (by rw [g3, ez3]) (by omega)
              have ib2 : inb (244 + 23 + gi h2 (m + 3) 247) 732 := inb_add (a := 267) (b := z3) i267 (by rw [g3, ez3]) (by omega) (by omega)
              refine ⟨ib2, ?_⟩
              rw [y2]
              have ge2 : gi (si (si h2 (m + 3) (249 + z3) (gi h2 (m + 3) 246)) (m + 3) (267 + z3) y) (m + 3) 247 = gi h2 (m + 3) 247 := by rw [gi_si, if_neg (by omega), ge]
              rw [ge2]
              have e5 : (gi h2 (m + 3) 247 + 1).toInt = E' 0 3 + 1 := by rw [iadd_t] <;> rw [g3, i1_t] <;> omega
              generalize gi h2 (m + 3) 247 + 1 = w3 at *
              generalize gi h2 (m + 3) 246 = w2 at *
              have b7 : FrB4 m h2 (si (si (si h2 (m + 3) (249 + z3) w2) (m + 3) (267 + z3) y) (m + 3) 247 w3) := FrB4.put (FrB4.put (FrB4.put FrB4.rf (by omega) (by omega)) (by omega) (by omega)) (by omega) (by omega)
              have O7 : MO (mI (si (si (si h2 (m + 3) (249 + z3) w2) (m + 3) (267 + z3) y) (m + 3) 247 w3) m 4) (lessP (addCV E' (nm2 T p'))) := by
                obtain ⟨o1, o2, o3⟩ := O2
                have l3 : lessP E' 0 3 = E' 0 3 := lessP_o (by omega)
                have l4 : lessP E' 0 4 = E' 0 4 := lessP_o (by omega)
                refine ⟨fun i hi => ?_, fun k hk => ?_, fun k hk => ?_⟩
                · rw [mI4, gi_si]
                  by_cases e : i = 3
                  · rw [if_pos ⟨rfl, by omega⟩, e, lessP_o (by omega), addCV_3]; exact e5
                  · rw [if_neg (by omega), gi_si, if_neg (by omega), gi_si, if_neg (by omega), ← mI4, o1 i hi]
                    by_cases e2 : i = 2
                    · rw [e2, lessP_2, lessP_2, addCV_0 (by omega)]
                    · rw [lessP_o (by omega), lessP_o (by omega), addCV_0 e]
                · rw [lessP_o (by omega), addCV_3] at hk
                  have q1 : gi (si (si (si h2 (m + 3) (249 + z3) w2) (m + 3) (267 + z3) y) (m + 3) 247 w3) (m + 3) (244 + (23 + k)) = if k = (E' 0 3).toNat then y else gi h2 (m + 3) (244 + (23 + k)) := by
                    rw [gi_si, if_neg (by omega), gi_si]
                    by_cases e : k = (E' 0 3).toNat
                    · rw [if_pos ⟨rfl, by omega⟩, if_pos e]
                    · rw [if_neg (by omega), if_neg e, gi_si, if_neg (by omega)]
                  have q2 : gi (si (si (si h2 (m + 3) (249 + z3) w2) (m + 3) (267 + z3) y) (m + 3) 247 w3) (m + 3) (244 + (5 + k)) = if k = (E' 0 3).toNat then w2 else gi h2 (m + 3) (244 + (5 + k)) := by
                    rw [gi_si, if_neg (by omega), gi_si, if_neg (by omega), gi_si]
                    by_cases e : k = (E' 0 3).toNat
                    · rw [if_pos ⟨rfl, by omega⟩, if_pos e]
                    · rw [if_neg (by omega), if_neg e]
                  rw [lessP_o (by omega), lessP_o (by omega), addCV_1, addCV_2, mI4, mI4, q1, q2]
                  by_cases e : k = (E' 0 3).toNat
                  · rw [if_pos e, if_pos e, if_pos e, if_pos e]; exact ⟨ey, g2⟩
                  · rw [if_neg e, if_neg e, if_neg e, if_neg e, ← mI4, ← mI4]
                    have := o2 k (by rw [l3]; omega)
                    rw [lessP_o (by omega), lessP_o (by omega)] at this; exact this
                · rw [lessP_o (by omega), addCV_0 (by omega)] at hk
                  have b4 := po'.2.2.2.2.1
                  rw [mI4, gi_si, if_neg (by omega), gi_si, if_neg (by omega), gi_si, if_neg (by omega), lessP_o (by omega), addCV_i (by omega) (by omega) (by omega), ← mI4]
                  have := o3 k (by rw [l4]; exact hk)
                  rw [lessP_o (by omega)] at this; exact this
              have R7 := FrB4.rd b7 R2
              have f07 := f02.tr (FrB4.e b7)
              generalize (si (si (si h2 (m + 3) (249 + z3) w2) (m + 3) (267 + z3) y) (m + 3) 247 w3) = h7 at *
              have F7 : St10 h7 m := f07.st10 F
              refine (ma_takes F7 R7 (v := 44) (by decide)).mono (fun w h11 hp => ?_)
              obtain ⟨u, rfl, hu, f11⟩ := hp
              have f011 := f07.tr (FrD5.e f11)
              have O11 := FrE.mo f11 O7
              have F11 : St10 h11 m := f011.st10 F
              have a2 : addCV E' (nm2 T p') 0 2 = E' 0 2 := addCV_0 (by omega)
              have a3 := po2.2.2.2.1
              generalize hE : addCV E' (nm2 T p') = E2 at *
              rw [i44] at hu
              have pT := R7.2.2.2.2
              rcases hu with ⟨u0, n44, R11⟩ | ⟨u0, e44, la, R11⟩
              · refine ⟨u, rfl, fun q => absurd u0 q, fun _ => ⟨F11, ⟨by decide, by decide⟩, ?_⟩⟩
                have k2 : (gi h11 (m + 3) 246).toInt = E2 0 2 - 1 := by
                  have := O11.1 2 (by omega)
                  rw [mI4, lessP_2] at this; exact this
                have e6 : (gi h11 (m + 3) 246 + 1).toInt = E2 0 2 := by rw [iadd_t] <;> rw [k2, i1_t] <;> omega
                have b12 : FrB4 m h11 (si h11 (m + 3) 246 (gi h11 (m + 3) 246 + 1)) := FrB4.put FrB4.rf (by omega) (by omega)
                have O12 : MO (mI (si h11 (m + 3) 246 (gi h11 (m + 3) 246 + 1)) m 4) E2 := by
                  obtain ⟨o1, o2, o3⟩ := O11
                  refine ⟨fun i hi => ?_, fun k hk => ?_, fun k hk => ?_⟩
                  · rw [mI4, gi_si]
                    by_cases e : i = 2
                    · rw [if_pos ⟨rfl, by omega⟩, e]; exact e6
                    · rw [if_neg (by omega), ← mI4, o1 i hi, lessP_o (by omega)]
                  · rw [mI4, mI4, gi_si, if_neg (by omega), gi_si, if_neg (by omega), ← mI4, ← mI4]
                    have := o2 k (by rw [lessP_o (by omega)]; exact hk)
                    rw [lessP_o (by omega), lessP_o (by omega)] at this; exact this
                  · rw [mI4, gi_si, if_neg (by omega), ← mI4]
                    have := o3 k (by rw [lessP_o (by omega)]; exact hk)
                    rw [lessP_o (by omega)] at this; exact this
                refine ⟨1, rfl, f011.tr (FrB4.e b12), Or.inr ⟨by decide, d, p' + 2, E2, by omega, FrB4.rd b12 R11, O12, vo2, by omega, by omega, ?_⟩⟩
                rw [er]
                unfold rdP2 rdP3
                by_cases c1 : p' + 2 = T.length
                · rw [if_pos c1, if_pos c1]
                · rw [if_neg c1, if_neg c1]
                  by_cases c2 : tsg T (p' + 2) = 59 ∧ E2 0 2 < 3
                  · rw [if_pos c2, if_pos c2]
                  · rw [if_neg c2, if_neg c2, if_neg (fun z => n44 z.1)]
              · refine ⟨u, rfl, fun _ => ?_, fun q => absurd q u0⟩
                have ne59 : ¬ (tsg T (p' + 2) = 59 ∧ E2 0 2 < 3) := fun z => by omega
                have n3 : ∃ w : Int32, v3 + Int32.ofInt 1 = w ∧ w.toInt = (c + 1 : Nat) := ⟨_, rfl, by rw [iadd_t] <;> rw [e3, show (Int32.ofInt 1).toInt = 1 from rfl] <;> omega⟩
                obtain ⟨w, hw, ew⟩ := n3
                rw [hw]
                by_cases c5 : c + 1 < 6
                · refine ih (p' + 2 + 1) E2 (nm2 T p') (c + 1) h11 y w (by omega) ey ew R11 O11 po2 (by omega) (by omega) f011 ?_
                  rw [er]
                  unfold rdP2
                  rw [if_neg (by omega), if_neg ne59, if_pos ⟨e44, c5⟩]
                · refine V_X10_readsPlate_4 C ⟨fun z => absurd (by rw [i32_eq, ew, i6]; omega) z, fun _ => ⟨F11, minus (p' + 2) h11 R11 f011 ?_⟩⟩
                  rw [er]
                  unfold rdP2
                  rw [if_neg (by omega), if_neg ne59, if_neg (fun z => c5 z.2)]
            · rw [i32_lt, ey, e2] at z2
              exact minus (p' + 1) h2 R2 f02 (by rw [er, rdP_c xa xb (fun z => z2 z.2)])
          · have xa' := xa
            have xb' := xb
            unfold dg at xa' xb'
            have et : twQ T p' = (-1, p' + 1) := by unfold twQ; rw [if_pos xa', if_neg xb']
            rw [et] at ey R2
            dsimp only at ey R2
            refine ⟨y, rfl, fun q => ?_, fun _ => ⟨0, rfl, f02, Or.inl ⟨rfl, p' + 1, R2, by rw [er, rdP_b xa xb]⟩⟩⟩
            exfalso
            rw [i32_le, i0_t] at q; omega
        · have xa' := xa
          unfold dg at xa'
          have et : twQ T p' = (-1, p') := by unfold twQ; rw [if_neg xa']
          rw [et] at ey R2
          dsimp only at ey R2
          refine ⟨y, rfl, fun q => ?_, fun _ => ⟨0, rfl, f02, Or.inl ⟨rfl, p', R2, by rw [er, rdP_a xa]⟩⟩⟩
          exfalso
          rw [i32_le, i0_t] at q; omega
      · exfalso
        rw [i32_eq, e3, i6] at z; omega
  exact key f p E 0 0 h 0 0 (Nat.le_refl _) rfl rfl R O po (by omega) hf FrE.rf rfl))
end MPl
