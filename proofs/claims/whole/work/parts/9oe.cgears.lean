-- gears() of the class
section CGf
variable {X : Ctx} {l : Launch} {D : Dt} {h : Hp} {x m t : Nat} {Q : Pq} {A : HV} {s : Sv}
/-- what the reading of a text needs of the object: it stays while the trial changes -/
def RdC (h : Hp) (x t : Nat) (T : List Int) : Prop := St9 h x ∧ TxC h (x + 1) T ∧ gr h x 13 = some t ∧ x + 17 ≤ t
theorem RdC.o {h' : Hp} {T : List Int} (r : RdC h x t T) (f : FrO (inH t) h h') : RdC h' x t T := by
  obtain ⟨r1, ⟨r2, r3, r4⟩, r5, r6⟩ := r
  have g : ∀ b j, b < t → gi h' b j = gi h b j := fun b j hb => (f.2.2.2.2 b (fun z => by have := z.1; omega) j).1
  exact ⟨St9_same r1 f.2.1 f.2.2.1 f.2.2.2.1, ⟨by rw [g _ _ (by omega)]; exact r2, r3, fun i hi => by rw [g _ _ (by omega)]; exact r4 i hi⟩, by rw [f.2.2.2.1]; exact r5, r6⟩
theorem nod2 {T : List Int} {p : Nat} : (dg T p ∧ dg T (p + 1) ∧ nod T 2 p = none) ∨ (dg T p ∧ ¬ dg T (p + 1) ∧ nod T 2 p = some (p + 1)) ∨ (¬ dg T p ∧ nod T 2 p = some p) := by
  have e : nod T 2 p = if 48 ≤ tsg T p ∧ tsg T p ≤ 57 then (if 48 ≤ tsg T (p + 1) ∧ tsg T (p + 1) ≤ 57 then none else some (p + 1)) else some p := rfl
  rw [e]
  by_cases a : dg T p
  · have a' := a
    unfold dg at a'
    rw [if_pos a']
    by_cases b : dg T (p + 1)
    · have b' := b
      unfold dg at b'
      rw [if_pos b']; exact Or.inl ⟨a, b, rfl⟩
    · have b' := b
      unfold dg at b'
      rw [if_neg b']; exact Or.inr (Or.inl ⟨a, b, rfl⟩)
  · have a' := a
    unfold dg at a'
    rw [if_neg a']; exact Or.inr (Or.inr ⟨a, rfl⟩)
theorem cl_readGears {T : List Int} (r : RdC h x t T) (H : HdR h t A) (V : VA A) : S_X9_readGears l D 0 0 [.ref x] h (QI fun y h' => y.toInt = (gearsF T A).1 ∧ HdR h' t (gearsF T A).2 ∧ FrO (inH t) h h') := Sp.of rfl (Nat.le_of_ble_eq_true rfl) (fun X C _ _ _ _ => V_X9_readGears_0 C (by
  obtain ⟨r1, r2, r3, r4⟩ := id r
  obtain ⟨n13, g13⟩ := nn_of r3
  have vg := V.2.2.2.2.1
  have i2 : (2 : Int32).toInt = 2 := rfl
  have i3 : (3 : Int32).toInt = 3 := rfl
  have i12 : (12 : Int32).toInt = 12 := rfl
  have i20 : (20 : Int32).toInt = 20 := rfl
  have i100 : (100 : Int32).toInt = 100 := rfl
  have i44 : (44 : Int32).toInt = 44 := rfl
  have tl := r2.2.1
  rw [g13]
  have H1 : HdR (si h t 4 0) t (uv A 0 4 0) := H.seti (i := 4) (v := 0) (by omega) (by omega) (fun _ => by rw [i0_t]; omega) (by omega)
  have f1 : FrO (inH t) h (si h t 4 0) := FrO.rf.si ⟨by omega, by omega⟩
  refine ⟨r1, n13, H.1, (sp_atFirst H1 (by rw [uv_i, if_neg (by omega)]; exact V.marks.1)).mono (fun w h4 hp => ?_)⟩
  obtain ⟨rfl, H4, f4⟩ := hp
  have f04 := f1.tr f4
  have R4 := r.o f04
  -- the rest of a number's sign
  have key : ∀ (f p : Nat) (E : HV) (h' : Hp) (v1 v2 : Int32), v1.toInt = p → v2.toInt = E 0 4 → E 0 4 + f = 12 → 0 ≤ E 0 4 → p ≤ T.length → HdR h' t (firstV E) → FrO (inH t) h h' → Wj X 0 0 (QI fun y h' => y.toInt = (rdG T f p E).1 ∧ HdR h' t (firstV (rdG T f p E).2) ∧ FrO (inH t) h h') 31 [(0, .ref x), (1, .int v1), (2, .int v2)] [] h' := by
    intro f
    induction f with
    | zero =>
      intro p E h' v1 v2 e1 e2 hf h0 hp H' f'
      refine V_X9_readGears_31 C ⟨fun _ => ⟨_, rfl, ?_, H', f'⟩, fun q => ?_⟩
      · show ((-1) - v1 : Int32).toInt = -1 - (p : Int)
        rw [isub_t] <;> rw [im1_t, e1] <;> omega
      · rw [i32_le, i12] at q; omega
    | succ f ih =>
      intro p E h' v1 v2 e1 e2 hf h0 hp H' f'
      obtain ⟨q1, q2, q3, q4⟩ := r.o f'
      have d1 : ∀ z : Nat, z ≤ 90 → ((-1) - Int32.ofNat z : Int32).toInt = -1 - (z : Int) → True := fun _ _ _ => trivial
      have p74 : ∀ (d : Nat) (v : Int) (s0 : Int32), s0.toInt = d → d ≤ 3 → p + d ≤ T.length → (∀ i, i < d → dg T (p + i)) → nmN T p d = v → rdG T (f + 1) p E = rdG2 T f p d v E → Wj X 0 0 (QI fun y h' => y.toInt = (rdG T (f + 1) p E).1 ∧ HdR h' t (firstV (rdG T (f + 1) p E).2) ∧ FrO (inH t) h h') 74 [(0, .ref x), (1, .int v1), (2, .int v2)] [.int s0] h' := by
        intro d v s0 es hd3 hpl hd env er
        rw [er]
        have ea : (v1 + s0).toInt = (p + d : Nat) := by rw [iadd_t] <;> rw [e1, es] <;> omega
        refine V_X9_readGears_74 C ⟨q1, (cl_number (St9_s0 q1) q2 e1 es (by omega) (by omega) hd).mono (fun w h2 hp => ?_)⟩
        obtain ⟨y, rfl, ey, e2'⟩ := hp
        rw [env] at ey
        rw [e2']
        have bad : ¬ (20 ≤ v ∧ v ≤ 100) → Wj X 0 0 (QI fun y h' => y.toInt = (rdG2 T f p d v E).1 ∧ HdR h' t (firstV (rdG2 T f p d v E).2) ∧ FrO (inH t) h h') 102 [(1, .int v1), (4, .int s0)] [] h' := fun z => by
          unfold rdG2
          rw [if_neg z]
          refine V_X9_readGears_102 C ⟨_, rfl, ?_, H', f'⟩
          have eb : (v1 + s0 - 1).toInt = (p + d : Nat) - 1 := by rw [isub_t] <;> rw [ea, i1_t] <;> omega
          show ((-1) - (v1 + s0 - 1) : Int32).toInt = -((p + d : Nat) : Int)
          rw [isub_t] <;> rw [im1_t, eb] <;> omega
        refine ⟨y, rfl, fun q => bad ?_, fun q => ⟨fun q' => ⟨q1, ?_⟩, fun q' => bad ?_⟩⟩
        · rw [i32_lt, ey, i20] at q; omega
        · rw [i32_lt, ey, i20] at q
          rw [i32_le, ey, i100] at q'
          obtain ⟨m13, k13⟩ := nn_of q3
          rw [k13]
          have c4 : firstV E 0 4 = E 0 4 := firstV_0 (by omega)
          refine ⟨m13, H'.1, (sp_addGear H' (by rw [c4]; exact h0) (by rw [c4]; omega)).mono (fun w h7 hp => ?_)⟩
          obtain ⟨rfl, H7, f7⟩ := hp
          rw [ey, ← firstV_gear] at H7
          have f07 := f'.tr f7
          obtain ⟨u1, u2, u3, u4⟩ := r.o f07
          obtain ⟨m7, k7⟩ := nn_of u3
          have e4 : (gi h7 t 4).toInt = E 0 4 + 1 := by rw [H7.2.1 4 (by omega), firstV_0 (by omega), addGV_4]
          have es7 := u2.sgn ea
          have el := u2.1
          unfold rdG2
          rw [if_pos ⟨by omega, by omega⟩]
          refine ⟨rfl, u1, fun z => ⟨fun z1 => ⟨_, rfl, ?_⟩, fun z1 => ?_⟩, fun z => ?_⟩
          · rw [i32_eq, ea, el] at z
            rw [i32_eq, es7, i44] at z1
            rw [if_neg (by omega), if_neg (fun y => z1 y.1)]
            refine ⟨?_, H7, f07⟩
            show ((-1) - (v1 + s0) : Int32).toInt = -1 - ((p + d : Nat) : Int)
            rw [isub_t] <;> rw [im1_t, ea] <;> omega
          · rw [i32_eq, ea, el] at z
            rw [i32_eq, es7, i44] at z1
            rw [if_neg (by omega), k7]
            refine ⟨m7, H7.1, fun z2 => ?_, fun z2 => ⟨_, rfl, ?_⟩⟩
            · rw [i32_lt, e4, i12] at z2
              rw [if_pos ⟨z1, by rw [addGV_4]; exact z2⟩]
              have n1 : (v1 + s0 + Int32.ofInt 1).toInt = (p + d + 1 : Nat) := by rw [iadd_t] <;> rw [ea, show (Int32.ofInt 1).toInt = 1 from rfl] <;> omega
              have n2 : (v2 + Int32.ofInt 1).toInt = addGV E v 0 4 := by rw [addGV_4, iadd_t] <;> rw [e2, show (Int32.ofInt 1).toInt = 1 from rfl] <;> omega
              have lt : p + d < T.length := by omega
              exact ih (p + d + 1) (addGV E v) h7 _ _ n1 n2 (by rw [addGV_4]; omega) (by rw [addGV_4]; omega) (by omega) H7 f07
            · rw [i32_lt, e4, i12] at z2
              rw [if_neg (fun y => z2 (by have := y.2; rw [addGV_4] at this; exact this))]
              refine ⟨?_, H7, f07⟩
              show ((-1) - (v1 + s0) : Int32).toInt = -1 - ((p + d : Nat) : Int)
              rw [isub_t] <;> rw [im1_t, ea] <;> omega
          · rw [i32_eq, ea, el] at z
            rw [if_pos (by omega), k7]
            exact ⟨m7, H7.1, _, rfl, by rw [addGV_4]; exact e4, H7, f07⟩
        · rw [i32_le, ey, i100] at q'; omega
      refine V_X9_readGears_31 C ⟨fun q => ?_, fun _ => ⟨q1, (cl_noDigit (St9_s0 q1) q2 e1 (v := 2) (n := 2) i2 (by omega) (by omega)).mono (fun w h2 hp => ?_)⟩⟩
      · exfalso
        rw [i32_le, i12] at q; omega
      · obtain ⟨y, rfl, ey, e2'⟩ := hp
        rw [e2']
        have e3 : (v1 + 2).toInt = (p + 2 : Nat) := by rw [iadd_t] <;> rw [e1, i2] <;> omega
        rcases nod2 (T := T) (p := p) with ⟨a, b, nd⟩ | ⟨a, b, nd⟩ | ⟨a, nd⟩
        · rw [nd] at ey
          have ey : y.toInt = -1 := ey
          refine ⟨y, rfl, fun _ => ⟨q1, fun z => ?_, fun z => ?_⟩, fun z => absurd (by rw [i32_eq, ey]; rfl) z⟩
          · have c := (q2.dig e3).mp z
            have lb := dg_lt b
            exact p74 2 (nm2 T p) 2 i2 (by omega) (by omega) (fun i hi => by
              have : i = 0 ∨ i = 1 := by omega
              rcases this with e | e <;> rw [e]
              · exact a
              · exact b) nmN_2 (rdG_2 a b c)
          · have c : dg T (p + 2) := Classical.byContradiction (fun y => z ((q2.dig e3).mpr y))
            have lb := dg_lt c
            exact p74 3 (nm3 T p) 3 i3 (by omega) (by omega) (fun i hi => by
              have : i = 0 ∨ i = 1 ∨ i = 2 := by omega
              rcases this with e | e | e <;> rw [e]
              · exact a
              · exact b
              · exact c) nmN_3 (rdG_3 a b c)
        · rw [nd] at ey
          have ey : y.toInt = (p + 1 : Nat) := ey
          refine ⟨y, rfl, fun z => ?_, fun _ => ⟨_, rfl, ?_⟩⟩
          · exfalso
            rw [i32_eq, ey, im1_t] at z; omega
          · rw [rdG_b a b]
            refine ⟨?_, H', f'⟩
            show ((-1) - y : Int32).toInt = -1 - ((p + 1 : Nat) : Int)
            rw [isub_t] <;> rw [im1_t, ey] <;> omega
        · rw [nd] at ey
          have ey : y.toInt = p := ey
          refine ⟨y, rfl, fun z => ?_, fun _ => ⟨_, rfl, ?_⟩⟩
          · exfalso
            rw [i32_eq, ey, im1_t] at z; omega
          · rw [rdG_a a]
            refine ⟨?_, H', f'⟩
            show ((-1) - y : Int32).toInt = -1 - (p : Int)
            rw [isub_t] <;> rw [im1_t, ey] <;> omega
  unfold gearsF
  have el := R4.2.1.1
  refine ⟨rfl, R4.1, fun q => ?_, fun q => ⟨_, rfl, ?_⟩⟩
  all_goals rw [i32_eq, el, i0_t] at q
  · rw [if_neg (by omega)]
    exact key 12 0 (uv A 0 4 0) h4 0 0 rfl (by rw [uv_i, if_pos ⟨rfl, rfl⟩]; rfl) (by rw [uv_i, if_pos ⟨rfl, rfl⟩]; omega) (by rw [uv_i, if_pos ⟨rfl, rfl⟩]; omega) (by omega) H4 f04
  · rw [if_pos (by omega)]; exact ⟨rfl, H4, f04⟩))
/-- the text is gone, and the trial comes to be or not -/
theorem cl_text {f : HV → Int × HV} (S : CSt h x m s) {t : Nat} (et : gr h x 13 = some t) {v : Int32} (ev : v.toInt = (f (sA s)).1) (Ht : 0 ≤ v.toInt → HdR h t (f (sA s)).2 ∧ VA (f (sA s)).2) : S_X9_adopt l D 9 191 [.ref x, .int v] (si h (x + 1) 1 0) (QI fun y h' => y = v ∧ CSt h' x m (actP f (txtS s [])).2 ∧ FrX (inC x m) h h') := by
  have F1 : FrW (fun b j => b = x + 1 ∧ j = 1 ∨ b = x + 2) (fun _ _ => False) h (si h (x + 1) 1 0) := FrW.si (P := fun b j => b = x + 1 ∧ j = 1 ∨ b = x + 2) (R := fun _ _ => False) FrW.rf (Or.inl ⟨rfl, rfl⟩)
  have t1 : TxC (si h (x + 1) 1 0) (x + 1) [] := ⟨by rw [gi_si, if_pos ⟨rfl, rfl⟩]; rfl, by simp, fun i hi => by simp at hi⟩
  obtain ⟨S1, p1, x1⟩ := S.txt F1 t1
  have xt := (S.trial)
  obtain ⟨t', et', -, bt⟩ := xt
  have : t' = t := Option.some.inj (et'.symm.trans et)
  subst this
  have et1 : gr (si h (x + 1) 1 0) x 13 = some t' := et
  have ho : FrO (fun b => b = x + 1) h (si h (x + 1) 1 0) := FrO.rf.si rfl
  by_cases q : 0 ≤ v.toInt
  · obtain ⟨H, V⟩ := Ht q
    have H1 : HdR (si h (x + 1) 1 0) t' (f (sA s)).2 := H.fr ho (fun b hb z => by have := hb.1; omega)
    refine (sp_adopt S1 et1 (fun _ => H1) V).mono (fun w h' hp => ?_)
    obtain ⟨y, rfl, rfl, hd, f'⟩ := hp
    rw [if_pos q] at hd
    refine ⟨y, rfl, rfl, ?_, x1.tr f'⟩
    unfold actP
    dsimp only
    have q' : 0 ≤ (f (sA (txtS s []))).1 := by
      show 0 ≤ (f (sA s)).1
      rw [← ev]; exact q
    rw [if_pos q']; exact hd
  · refine (sp_adopt S1 et1 (A' := sA s) (fun z => absurd z q) S.2.2.2.2.1.1).mono (fun w h' hp => ?_)
    obtain ⟨y, rfl, rfl, hd, f'⟩ := hp
    rw [if_neg q] at hd
    refine ⟨y, rfl, rfl, ?_, x1.tr f'⟩
    unfold actP
    dsimp only
    have q' : ¬ 0 ≤ (f (sA (txtS s []))).1 := by
      show ¬ 0 ≤ (f (sA s)).1
      rw [← ev]; exact q
    rw [if_neg q']; exact hd
theorem ca_gears (S : CSt h x m s) : S_X9_gears l D 9 191 [.ref x] h (QI fun y h' => y.toInt = (gearsP s).1 ∧ CSt h' x m (gearsP s).2 ∧ FrX (inC x m) h h') := Sp.of rfl (Nat.le_of_ble_eq_true rfl) (fun X C _ _ hmc hms => V_X9_gears_0 C (by
  obtain ⟨a0, ea, Ha, -⟩ := S.now
  obtain ⟨t, et, Ft, bt⟩ := S.trial
  obtain ⟨n12, g12⟩ := nn_of ea
  obtain ⟨n13, g13⟩ := nn_of et
  have V := S.2.2.2.2.1.1
  rw [g12, g13]
  refine ⟨S.1, n13, n12, Ft, (cl_copy S ea et).mono (fun w h5 hp => ?_)⟩
  obtain ⟨rfl, Ht, S5, et5, ea5, x5⟩ := hp
  refine ⟨rfl, S5.1, (cl_readGears (T := sT s) ⟨S5.1, S5.2.2.2.2.2.2.2.1, et5, bt.1⟩ Ht V).mono (fun w h7 hp => ?_)⟩
  obtain ⟨y, rfl, ey, H7, f7⟩ := hp
  obtain ⟨S7, p7, x7⟩ := S5.onTrial et5 f7
  have et7 : gr h7 x 13 = some t := by rw [f7.2.2.2.1]; exact et5
  refine ⟨y, rfl, S7.1, 9, 191, by omega, by omega, (cl_text (f := gearsF (sT s)) S7 et7 ey (fun _ => ⟨H7, gearsF_va _ _ V⟩)).mono (fun w h' hp => ?_)⟩
  obtain ⟨z, rfl, rfl, S', f'⟩ := hp
  exact ⟨z, rfl, z, rfl, ey, S', (x5.tr x7).tr f'⟩))
end CGf
