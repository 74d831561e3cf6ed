-- plates() of the class
section CPl
variable {X : Ctx} {l : Launch} {D : Dt} {h : Hp} {x m a t : Nat} {Q : Pq} {A : HV} {s : Sv}
set_option maxHeartbeats 400000 in
theorem cl_readPlates {T : List Int} (r : RdC h x t T) (H : HdR h t A) (V : VA A) : S_X9_readPlates l D 0 0 [.ref x] h (QI fun y h' => y.toInt = (platesF T A).1 ∧ HdR h' t (platesF T A).2 ∧ FrO (inH t) h h') := Sp.of rfl (Nat.le_of_ble_eq_true rfl) (fun X C _ _ _ _ => V_X9_readPlates_0 C (by
  obtain ⟨r1, r2, r3, r4⟩ := id r
  obtain ⟨n13, g13⟩ := nn_of r3
  have v3 := V.2.2.2.1
  have i2 : (2 : Int32).toInt = 2 := rfl
  have i3 : (3 : Int32).toInt = 3 := rfl
  have i6 : (6 : Int32).toInt = 6 := rfl
  have i10 : (10 : Int32).toInt = 10 := rfl
  have i70 : (70 : Int32).toInt = 70 := rfl
  have i44 : (44 : Int32).toInt = 44 := rfl
  have i59 : (59 : Int32).toInt = 59 := rfl
  have tl := r2.2.1
  rw [g13]
  have H1 : HdR (si (si h t 2 1) t 3 0) t (dropV A) := (H.seti (i := 2) (v := 1) (by omega) (by omega) (by omega) (by omega)).seti (i := 3) (v := 0) (by omega) (fun _ => by rw [i0_t, uv_i, if_neg (by omega)]; omega) (by omega) (by omega)
  have f1 : FrO (inH t) h (si (si h t 2 1) t 3 0) := (FrO.rf.si ⟨by omega, by omega⟩).si ⟨by omega, by omega⟩
  refine ⟨r1, n13, H.1, (sp_atFirst H1 (by unfold dropV; rw [uv_i, if_neg (by omega), uv_i, if_neg (by omega)]; exact V.marks.1)).mono (fun w h4 hp => ?_)⟩
  obtain ⟨rfl, H4, f4⟩ := hp
  have f04 := f1.tr f4
  have key : ∀ (f p : Nat) (E : HV) (b : Int) (c : Nat) (h' : Hp) (v1 v2 v3 : Int32), v1.toInt = c → v2.toInt = b → v3.toInt = p → PO E c → c ≤ 5 → p ≤ T.length → T.length < p + 3 * f → HdR h' t (firstV E) → FrO (inH t) h h' → Wj X 0 0 (QI fun y h' => y.toInt = (rdP T f p E b c).1 ∧ HdR h' t (firstV (rdP T f p E b c).2) ∧ FrO (inH t) h h') 20 [(0, .ref x), (1, .int v1), (2, .int v2), (3, .int v3)] [] h' := by
    intro f
    induction f with
    | zero => intro p E b c h' v1 v2 v3 _ _ _ _ _ h1 h2 _ _; omega
    | succ f ih =>
      intro p E b c h' v1 v2 v3 e1 e2 e3 po hc hp hf H' f'
      obtain ⟨q1, q2, q3, q4⟩ := r.o f'
      have e31 : ∀ _ : Unit, ((-1) - (v3 + 1) : Int32).toInt = -1 - ((p + 1 : Nat) : Int) := fun _ => by
        have e : (v3 + 1).toInt = (p + 1 : Nat) := by rw [iadd_t] <;> rw [e3, i1_t] <;> omega
        rw [isub_t] <;> rw [im1_t, e] <;> omega
      have e3p : (v3 + 2).toInt = (p + 2 : Nat) := by rw [iadd_t] <;> rw [e3, i2] <;> omega
      refine V_X9_readPlates_20 C ⟨q1, fun q => ?_, fun _ => (cl_noDigit (St9_s0 q1) q2 e3 (v := 2) (n := 2) i2 (by omega) (by omega)).mono (fun w h2 hp => ?_)⟩
      · exfalso
        rw [i32_lt, q2.1, e3] at q; omega
      · obtain ⟨y, rfl, ey, eh⟩ := hp
        rw [eh]
        rcases nod2 (T := T) (p := p) with ⟨xa, xb, nd⟩ | ⟨xa, xb, nd⟩ | ⟨xa, nd⟩
        · rw [nd] at ey
          have ey : y.toInt = -1 := ey
          have lb := dg_lt xb
          have nb := nm2_b xa xb
          refine ⟨y, rfl, fun _ => ⟨q1, (cl_number (St9_s0 q1) q2 e3 (v := 2) (n := 2) i2 (by omega) (by omega) (fun i hi => by
            have : i = 0 ∨ i = 1 := by omega
            rcases this with e | e <;> rw [e]
            · exact xa
            · exact xb)).mono (fun w h5 hp => ?_)⟩, fun z => absurd (by rw [i32_eq, ey]; rfl) z⟩
          obtain ⟨u, rfl, eu, eh5⟩ := hp
          rw [nmN_2] at eu
          rw [eh5]
          have bad : ¬ ((10 ≤ nm2 T p ∧ nm2 T p ≤ 70) ∧ b < nm2 T p) → (QI fun y h' => y.toInt = (rdP T (f + 1) p E b c).1 ∧ HdR h' t (firstV (rdP T (f + 1) p E b c).2) ∧ FrO (inH t) h h') (some (.int ((-1) - (v3 + 1)))) h' := fun z => by
            refine ⟨_, rfl, ?_⟩
            rw [rdP_c xa xb z]; exact ⟨e31 (), H', f'⟩
          refine ⟨u, rfl, fun z => bad ?_, fun z => ⟨fun z1 => bad ?_, fun z1 => ⟨fun z2 => ⟨q1, ?_⟩, fun z2 => bad ?_⟩⟩⟩
          · rw [i32_lt, eu, i10] at z; omega
          · rw [i32_lt, eu, i70] at z1; omega
          · rw [i32_lt, eu, i10] at z
            rw [i32_lt, eu, i70] at z1
            rw [i32_lt, eu, e2] at z2
            have ok : (10 ≤ nm2 T p ∧ nm2 T p ≤ 70) ∧ b < nm2 T p := by omega
            rw [rdP_d xa xb ok]
            obtain ⟨po', vo'⟩ := po.add hc (v := nm2 T p) ok.1.1 ok.1.2
            obtain ⟨m13, k13⟩ := nn_of q3
            rw [k13]
            have b2 := po.2.2.1
            have b3 := po.2.2.2.1
            have c3 : firstV E 0 3 = E 0 3 := firstV_0 (by omega)
            have c2 : firstV E 0 2 = E 0 2 := firstV_0 (by omega)
            refine ⟨m13, H'.1, (sp_addCircle H' (by rw [c3]; omega) (by rw [c3]; omega) (by rw [c2]; omega)).mono (fun w h10 hp => ?_)⟩
            obtain ⟨rfl, H10, f10⟩ := hp
            rw [eu, ← firstV_circ] at H10
            have f010 := f'.tr f10
            obtain ⟨u1, u2, u3, u4⟩ := r.o f010
            obtain ⟨m10, k10⟩ := nn_of u3
            have es := u2.sgn e3p
            have el := u2.1
            have a2 : addCV E (nm2 T p) 0 2 = E 0 2 := addCV_0 (by omega)
            generalize hE : addCV E (nm2 T p) = E' at *
            have t2 : (gi h10 t 2).toInt = E' 0 2 := by rw [H10.2.1 2 (by omega), firstV_0 (by omega)]
            have t3 : (gi h10 t 3).toInt = E' 0 3 := by rw [H10.2.1 3 (by omega), firstV_0 (by omega)]
            have n3 : ∀ _ : Unit, (v3 + Int32.ofInt 3).toInt = (p + 2 + 1 : Nat) := fun _ => by rw [iadd_t] <;> rw [e3, show (Int32.ofInt 3).toInt = 3 from rfl] <;> omega
            have n1 : ∀ _ : Unit, (v1 + Int32.ofInt 1).toInt = (c + 1 : Nat) := fun _ => by rw [iadd_t] <;> rw [e1, show (Int32.ofInt 1).toInt = 1 from rfl] <;> omega
            unfold rdP2
            -- no new plate
            have p176 : ¬ p + 2 = T.length → ¬ (tsg T (p + 2) = 59 ∧ E' 0 2 < 3) → Wj X 0 0 (QI fun y h' => y.toInt = (if p + 2 = T.length then (E' 0 3, E') else if tsg T (p + 2) = 59 ∧ E' 0 2 < 3 then rdP T f (p + 2 + 1) (uv E' 0 2 (E' 0 2 + 1)) 0 0 else if tsg T (p + 2) = 44 ∧ c + 1 < 6 then rdP T f (p + 2 + 1) E' (nm2 T p) (c + 1) else (-1 - ((p + 2 : Nat) : Int), E')).1 ∧ HdR h' t (firstV (if p + 2 = T.length then (E' 0 3, E') else if tsg T (p + 2) = 59 ∧ E' 0 2 < 3 then rdP T f (p + 2 + 1) (uv E' 0 2 (E' 0 2 + 1)) 0 0 else if tsg T (p + 2) = 44 ∧ c + 1 < 6 then rdP T f (p + 2 + 1) E' (nm2 T p) (c + 1) else (-1 - ((p + 2 : Nat) : Int), E')).2) ∧ FrO (inH t) h h') 176 [(0, .ref x), (1, .int (v1 + Int32.ofInt 1)), (2, .int u), (3, .int v3), (6, .int (tAt h10 (x + 1) (v3 + 2)))] [] h10 := fun y1 y2 => by
              rw [if_neg y1, if_neg y2]
              have e32 : ∀ _ : Unit, ((-1) - (v3 + 2) : Int32).toInt = -1 - ((p + 2 : Nat) : Int) := fun _ => by rw [isub_t] <;> rw [im1_t, e3p] <;> omega
              refine V_X9_readPlates_176 C ⟨fun w => ⟨_, rfl, ?_⟩, fun w => ⟨fun w1 => ?_, fun w1 => ⟨_, rfl, ?_⟩⟩⟩
              all_goals rw [i32_eq, es, i44] at w
              · rw [if_neg (fun y => w y.1)]; exact ⟨e32 (), H10, f010⟩
              · rw [i32_lt, n1 (), i6] at w1
                rw [if_pos ⟨w, by omega⟩]
                exact ih (p + 2 + 1) E' (nm2 T p) (c + 1) h10 _ u _ (n1 ()) eu (n3 ()) po' (by omega) (by omega) (by omega) H10 f010
              · rw [i32_lt, n1 (), i6] at w1
                rw [if_neg (by omega)]; exact ⟨e32 (), H10, f010⟩
            refine ⟨rfl, u1, fun w => ⟨fun w1 => p176 ?_ ?_, fun w1 => ?_⟩, fun w => ?_⟩
            all_goals rw [i32_eq, e3p, el] at w
            · omega
            · rw [i32_eq, es, i59] at w1
              exact fun y => w1 y.1
            · rw [i32_eq, es, i59] at w1
              rw [k10]
              refine ⟨m10, H10.1, fun w2 => p176 (by omega) ?_, fun w2 => ?_⟩
              all_goals rw [i32_le, i3, t2] at w2
              · omega
              · have ep : (gi h10 t 2 + 1).toInt = E' 0 2 + 1 := by rw [iadd_t] <;> rw [t2, i1_t] <;> omega
                have H11 := H10.seti (i := 2) (v := gi h10 t 2 + 1) (by omega) (by omega) (by omega) (by omega)
                rw [ep, ← firstV_uv2] at H11
                have f11 : FrO (inH t) h10 (si h10 t 2 (gi h10 t 2 + 1)) := FrO.rf.si ⟨by omega, by omega⟩
                rw [if_neg (by omega), if_pos ⟨w1, by omega⟩]
                have b3' := po'.2.2.2.1
                exact ih (p + 2 + 1) (uv E' 0 2 (E' 0 2 + 1)) 0 0 _ 0 0 _ rfl rfl (n3 ()) (PO.next vo' (by omega) (by omega)) (by omega) (by omega) (by omega) H11 (f010.tr f11)
            · rw [if_pos (by omega), k10]
              exact ⟨m10, H10.1, _, rfl, t3, H10, f010⟩
          · rw [i32_lt, eu, e2] at z2; omega
        · rw [nd] at ey
          have ey : y.toInt = (p + 1 : Nat) := ey
          refine ⟨y, rfl, fun z => ?_, fun _ => ⟨_, rfl, ?_⟩⟩
          · exfalso
            rw [i32_eq, ey, im1_t] at z; omega
          · rw [rdP_b xa xb]
            refine ⟨?_, H', f'⟩
            show ((-1) - y : Int32).toInt = -1 - ((p + 1 : Nat) : Int)
            rw [isub_t] <;> rw [im1_t, ey] <;> omega
        · rw [nd] at ey
          have ey : y.toInt = p := ey
          refine ⟨y, rfl, fun z => ?_, fun _ => ⟨_, rfl, ?_⟩⟩
          · exfalso
            rw [i32_eq, ey, im1_t] at z; omega
          · rw [rdP_a xa]
            refine ⟨?_, H', f'⟩
            show ((-1) - y : Int32).toInt = -1 - (p : Int)
            rw [isub_t] <;> rw [im1_t, ey] <;> omega
  unfold platesF
  exact ⟨rfl, key (T.length + 1) 0 (dropV A) 0 0 h4 0 0 0 rfl rfl rfl (PO.drop V) (by omega) (by omega) (by omega) H4 f04⟩))
theorem platesF_va {T : List Int} (V : VA A) (h0 : 0 ≤ (platesF T A).1) : VA (platesF T A).2 := by
  have o := rdP_vo (T := T) (T.length + 1) 0 (dropV A) 0 0 (PO.drop V) (by omega)
  unfold platesF at h0 ⊢
  dsimp only at h0 ⊢
  exact (o h0).first
theorem ca_plates (S : CSt h x m s) : S_X9_plates l D 9 191 [.ref x] h (QI fun y h' => y.toInt = (platesP s).1 ∧ CSt h' x m (platesP s).2 ∧ FrX (inC x m) h h') := Sp.of rfl (Nat.le_of_ble_eq_true rfl) (fun X C _ _ hmc hms => V_X9_plates_0 C (by
  obtain ⟨a0, ea, Ha, -⟩ := S.now
  obtain ⟨t, et, Ft, bt⟩ := S.trial
  obtain ⟨n12, g12⟩ := nn_of ea
  obtain ⟨n13, g13⟩ := nn_of et
  have V := S.2.2.2.2.1.1
  rw [g12, g13]
  refine ⟨S.1, n13, n12, Ft, (cl_copy S ea et).mono (fun w h5 hp => ?_)⟩
  obtain ⟨rfl, Ht, S5, et5, ea5, x5⟩ := hp
  refine ⟨rfl, S5.1, (cl_readPlates (T := sT s) ⟨S5.1, S5.2.2.2.2.2.2.2.1, et5, bt.1⟩ Ht V).mono (fun w h7 hp => ?_)⟩
  obtain ⟨y, rfl, ey, H7, f7⟩ := hp
  obtain ⟨S7, p7, x7⟩ := S5.onTrial et5 f7
  have et7 : gr h7 x 13 = some t := by rw [f7.2.2.2.1]; exact et5
  refine ⟨y, rfl, S7.1, 9, 191, by omega, by omega, (cl_text (f := platesF (sT s)) S7 et7 ey (fun q => ⟨H7, platesF_va V (by rw [ey] at q; exact q)⟩)).mono (fun w h' hp => ?_)⟩
  obtain ⟨z, rfl, rfl, S', f'⟩ := hp
  exact ⟨z, rfl, z, rfl, ey, S', (x5.tr x7).tr f'⟩))
end CPl
