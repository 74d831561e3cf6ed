-- gears(): the pure value, both sides
def addGV (E : HV) (v : Int) : HV := uv (uv E 3 (E 0 4).toNat v) 0 4 (E 0 4 + 1)
theorem addGV_4 {E : HV} {v : Int} : addGV E v 0 4 = E 0 4 + 1 := by unfold addGV; rw [uv_i, if_pos ⟨rfl, rfl⟩]
theorem addGV_0 {E : HV} {v : Int} {j : Nat} (h : j ≠ 4) : addGV E v 0 j = E 0 j := by unfold addGV; rw [uv_i, if_neg (by omega), uv_i, if_neg (by omega)]
theorem addGV_i {E : HV} {v : Int} {i j : Nat} (h0 : i ≠ 0) (h3 : i ≠ 3) : addGV E v i j = E i j := by unfold addGV; rw [uv_i, if_neg (by omega), uv_i, if_neg (by omega)]
theorem addGV_3 {E : HV} {v : Int} {j : Nat} : addGV E v 3 j = if j = (E 0 4).toNat then v else E 3 j := by
  unfold addGV
  rw [uv_i, if_neg (by omega), uv_i]
  by_cases e : j = (E 0 4).toNat
  · rw [if_pos ⟨rfl, e⟩, if_pos e]
  · rw [if_neg (fun z => e z.2), if_neg e]
theorem VO.gear {E : HV} (o : VO E) {v : Int} (h4 : E 0 4 < 12) (h1 : 20 ≤ v) (h2 : v ≤ 100) : VO (addGV E v) := by
  obtain ⟨o1, o2, o3, o4, o5, o6, o7, o8, o9⟩ := o
  unfold VO
  rw [addGV_4, addGV_0 (j := 0) (by omega), addGV_0 (j := 1) (by omega), addGV_0 (j := 2) (by omega), addGV_0 (j := 3) (by omega), addGV_0 (j := 6) (by omega), addGV_0 (j := 8) (by omega), addGV_0 (j := 9) (by omega), addGV_0 (j := 12) (by omega)]
  refine ⟨o1, o2, o3, o4, by omega, o6, fun k hk => ?_, fun k hk => ?_, fun k hk => ?_⟩
  · rw [addGV_i (by omega) (by omega), addGV_i (by omega) (by omega)]; exact o7 k hk
  · rw [addGV_i (by omega) (by omega), addGV_i (by omega) (by omega)]; exact o8 k hk
  · rw [addGV_3]
    by_cases e : k = (E 0 4).toNat
    · rw [if_pos e]; exact ⟨h1, h2⟩
    · rw [if_neg e]; exact o9 k (by omega)
theorem VO.none4 {A : HV} (V : VA A) : VO (uv A 0 4 0) := by
  obtain ⟨o1, o2, o3, o4, o5, o6, o7, o8, o9⟩ := V.out
  unfold VO
  rw [uv_i, if_neg (by omega), uv_i, if_neg (by omega), uv_i, if_neg (by omega), uv_i, if_neg (by omega), uv_i, if_pos ⟨rfl, rfl⟩, uv_i, if_neg (by omega), uv_i, if_neg (by omega), uv_i, if_neg (by omega), uv_i, if_neg (by omega)]
  refine ⟨o1, o2, o3, o4, by omega, o6, fun k hk => ?_, fun k hk => ?_, fun k hk => by omega⟩
  · rw [uv_i, if_neg (by omega), uv_i, if_neg (by omega)]; exact o7 k hk
  · rw [uv_i, if_neg (by omega), uv_i, if_neg (by omega)]; exact o8 k hk
/-- the gears read from place p on -/
def rdG (T : List Int) : Nat → Nat → HV → Int × HV
  | 0, p, E => (-1 - p, E)
  | f + 1, p, E =>
    if 48 ≤ tsg T p ∧ tsg T p ≤ 57 then
      if 48 ≤ tsg T (p + 1) ∧ tsg T (p + 1) ≤ 57 then
        if 48 ≤ tsg T (p + 2) ∧ tsg T (p + 2) ≤ 57 then
          (if 20 ≤ nm3 T p ∧ nm3 T p ≤ 100 then
            (if p + 3 = T.length then (addGV E (nm3 T p) 0 4, addGV E (nm3 T p)) else
              if tsg T (p + 3) = 44 ∧ addGV E (nm3 T p) 0 4 < 12 then rdG T f (p + 3 + 1) (addGV E (nm3 T p)) else (-1 - ((p + 3 : Nat) : Int), addGV E (nm3 T p)))
            else (-((p + 3 : Nat) : Int), E))
        else
          (if 20 ≤ nm2 T p ∧ nm2 T p ≤ 100 then
            (if p + 2 = T.length then (addGV E (nm2 T p) 0 4, addGV E (nm2 T p)) else
              if tsg T (p + 2) = 44 ∧ addGV E (nm2 T p) 0 4 < 12 then rdG T f (p + 2 + 1) (addGV E (nm2 T p)) else (-1 - ((p + 2 : Nat) : Int), addGV E (nm2 T p)))
            else (-((p + 2 : Nat) : Int), E))
      else (-1 - ((p + 1 : Nat) : Int), E)
    else (-1 - (p : Int), E)
/-- with the number read: d signs, v -/
def rdG2 (T : List Int) (f p d : Nat) (v : Int) (E : HV) : Int × HV :=
  if 20 ≤ v ∧ v ≤ 100 then
    (if p + d = T.length then (addGV E v 0 4, addGV E v) else
      if tsg T (p + d) = 44 ∧ addGV E v 0 4 < 12 then rdG T f (p + d + 1) (addGV E v) else (-1 - ((p + d : Nat) : Int), addGV E v))
    else (-((p + d : Nat) : Int), E)
theorem rdG_a {T : List Int} {f p : Nat} {E : HV} (h : ¬ dg T p) : rdG T (f + 1) p E = (-1 - (p : Int), E) := by unfold dg at h; unfold rdG; rw [if_neg h]
theorem rdG_b {T : List Int} {f p : Nat} {E : HV} (h : dg T p) (h1 : ¬ dg T (p + 1)) : rdG T (f + 1) p E = (-1 - ((p + 1 : Nat) : Int), E) := by unfold dg at h h1; unfold rdG; rw [if_pos h, if_neg h1]
theorem rdG_2 {T : List Int} {f p : Nat} {E : HV} (h : dg T p) (h1 : dg T (p + 1)) (h2 : ¬ dg T (p + 2)) : rdG T (f + 1) p E = rdG2 T f p 2 (nm2 T p) E := by unfold dg at h h1 h2; unfold rdG; rw [if_pos h, if_pos h1, if_neg h2]; rfl
theorem rdG_3 {T : List Int} {f p : Nat} {E : HV} (h : dg T p) (h1 : dg T (p + 1)) (h2 : dg T (p + 2)) : rdG T (f + 1) p E = rdG2 T f p 3 (nm3 T p) E := by unfold dg at h h1 h2; unfold rdG; rw [if_pos h, if_pos h1, if_pos h2]; rfl
theorem rdG_vo {T : List Int} : ∀ (f p : Nat) (E : HV), VO E → (E 0 4 + (f : Int) ≤ 12) → VO (rdG T f p E).2 := by
  intro f
  induction f with
  | zero => intro p E o _; exact o
  | succ f ih =>
    intro p E o h4
    have two : ∀ d v, VO (rdG2 T f p d v E).2 := fun d v => by
      unfold rdG2
      by_cases q : 20 ≤ v ∧ v ≤ 100
      · rw [if_pos q]
        have o' := o.gear (v := v) (by omega) q.1 q.2
        by_cases q1 : p + d = T.length
        · rw [if_pos q1]; exact o'
        · rw [if_neg q1]
          by_cases q2 : tsg T (p + d) = 44 ∧ addGV E v 0 4 < 12
          · rw [if_pos q2]; exact ih _ _ o' (by rw [addGV_4]; omega)
          · rw [if_neg q2]; exact o'
      · rw [if_neg q]; exact o
    by_cases a : dg T p
    · by_cases b : dg T (p + 1)
      · by_cases c : dg T (p + 2)
        · rw [rdG_3 a b c]; exact two _ _
        · rw [rdG_2 a b c]; exact two _ _
      · rw [rdG_b a b]; exact o
    · rw [rdG_a a]; exact o
def gearsF (T : List Int) (A : HV) : Int × HV := if T.length = 0 then (0, firstV (uv A 0 4 0)) else ((rdG T 12 0 (uv A 0 4 0)).1, firstV (rdG T 12 0 (uv A 0 4 0)).2)
def gearsP (s : Sv) : Int × Sv := actP (gearsF (sT s)) (txtS s [])
theorem gearsF_va (T : List Int) (A : HV) (V : VA A) : VA (gearsF T A).2 := by
  unfold gearsF
  have o := VO.none4 V
  by_cases q : T.length = 0
  · rw [if_pos q]; exact o.first
  · rw [if_neg q]; exact (rdG_vo 12 0 _ o (by rw [uv_i, if_pos ⟨rfl, rfl⟩]; omega)).first
theorem firstV_i {A : HV} {i j : Nat} (h : i ≠ 0) : firstV A i j = A i j := by
  unfold firstV wipeV takeOutP
  rw [uv_i, if_neg (by omega), uv_i, if_neg (by omega), uv_i, if_neg (by omega)]
  split
  · show uv A 0 5 0 i j = A i j
    rw [uv_i, if_neg (by omega)]
  · show takeOutV (uv A 0 5 0) i j = A i j
    unfold takeOutV
    rw [uv_i, if_neg (by omega), uv_i, if_neg (by omega), uv_i, if_neg (by omega), uv_i, if_neg (by omega), uv_i, if_neg (by omega)]
theorem firstV_0 {A : HV} {j : Nat} (h : j < 5) : firstV A 0 j = A 0 j := by
  unfold firstV wipeV takeOutP
  rw [uv_i, if_neg (by omega), uv_i, if_neg (by omega), uv_i, if_neg (by omega)]
  split
  · show uv A 0 5 0 0 j = A 0 j
    rw [uv_i, if_neg (by omega)]
  · show takeOutV (uv A 0 5 0) 0 j = A 0 j
    unfold takeOutV
    rw [uv_i, if_neg (by omega), uv_i, if_neg (by omega), uv_i, if_neg (by omega), uv_i, if_neg (by omega), uv_i, if_neg (by omega)]
theorem firstV_o {A B : HV} {j : Nat} (h : 5 ≤ j) (e : ∀ j, 5 ≤ j → A 0 j = B 0 j) : firstV A 0 j = firstV B 0 j := by
  have e6 := e 6 (by omega)
  unfold firstV wipeV takeOutP
  have k6 : ∀ Z : HV, uv Z 0 5 0 0 6 = Z 0 6 := fun Z => by rw [uv_i, if_neg (by omega)]
  rw [k6 A, k6 B, e6]
  have ej := e j h
  by_cases q : B 0 6 = 0
  · rw [if_pos q, if_pos q]
    simp only [uv_i]
    rw [ej]
  · rw [if_neg q, if_neg q]
    simp only [takeOutV, uv_i]
    rw [ej]
theorem firstV_gear {E : HV} {v : Int} : firstV (addGV E v) = addGV (firstV E) v := by
  funext i j
  by_cases hi : i = 0
  · subst hi
    by_cases h4 : j = 4
    · subst h4
      rw [firstV_0 (by omega), addGV_4, addGV_4, firstV_0 (by omega)]
    · rw [addGV_0 h4]
      by_cases h5 : j < 5
      · rw [firstV_0 h5, addGV_0 h4, firstV_0 h5]
      · exact firstV_o (by omega) (fun j hj => addGV_0 (by omega))
  · rw [firstV_i hi]
    by_cases h3 : i = 3
    · subst h3
      rw [addGV_3, addGV_3, firstV_0 (by omega), firstV_i (by omega)]
    · rw [addGV_i hi h3, addGV_i hi h3, firstV_i hi]
section CGe
variable {X : Ctx} {l : Launch} {D : Dt} {h : Hp} {x m a : Nat} {Q : Pq} {A : HV} {s : Sv}
theorem sp_addGear (H : HdR h a A) (h0 : 0 ≤ A 0 4) (h4 : A 0 4 < 12) {v : Int32} : S_X4_addGear l D 0 0 [.ref a, .int v] h (QV fun h' => HdR h' a (addGV A v.toInt) ∧ FrO (inH a) h h') := Sp.of rfl (Nat.le_of_ble_eq_true rfl) (fun X C _ _ _ _ => V_X4_addGear_0 C (by
  have e4 := H.2.1 4 (by omega)
  have i12 : (12 : Int32).toInt = 12 := rfl
  have x4 : ix (gi h a 4) = (A 0 4).toNat := by unfold ix; rw [e4]
  refine ⟨H.1, fun q => ?_, fun _ => ⟨fun q => ?_, fun _ => ⟨⟨by omega, by omega⟩, rfl, ?_⟩⟩⟩
  · exfalso
    rw [i32_lt, e4, i0_t] at q; omega
  · exfalso
    rw [i32_le, i12, e4] at q; omega
  · rw [x4, gi_si (b := a), if_neg (by omega)]
    have ev : (gi h a 4 + 1).toInt = A 0 4 + 1 := by rw [iadd_t] <;> rw [e4, i1_t] <;> omega
    have f : FrO (inH a) h (si (si h (a + 6) (A 0 4).toNat v) a 4 (gi h a 4 + 1)) := (FrO.rf.si ⟨by omega, by omega⟩).si ⟨by omega, by omega⟩
    obtain ⟨F, H1, H2, H3, H4, H5, H6, H7, H8, H9⟩ := H
    have g : ∀ b j, ¬ (b = a + 6) → ¬ (b = a ∧ j = 4) → gi (si (si h (a + 6) (A 0 4).toNat v) a 4 (gi h a 4 + 1)) b j = gi h b j := fun b j n1 n2 => by rw [gi_si, if_neg n2, gi_si, if_neg (fun z => n1 z.1)]
    refine ⟨⟨St4_same F f.2.1 f.2.2.1 f.2.2.2.1, fun i hi => ?_, ?_, ?_, ?_, ?_, ?_, fun k hk => ?_, fun k hk => ?_, fun k hk => ?_⟩, f⟩
    · by_cases e : i = 4
      · subst e
        rw [gi_si, if_pos ⟨rfl, rfl⟩, addGV_4]; exact ev
      · rw [g _ _ (by omega) (by omega), addGV_0 e]; exact H1 i hi
    · rw [g _ _ (by omega) (by omega), addGV_0 (by omega)]; exact H2
    · rw [addGV_0 (by omega)]; exact H3
    · rw [addGV_0 (by omega)]; exact H4
    · rw [addGV_0 (by omega)]; exact H5
    · rw [addGV_0 (by omega)]; exact H6
    · rw [addGV_0 (by omega)] at hk
      rw [g _ _ (by omega) (by omega), g _ _ (by omega) (by omega), addGV_i (by omega) (by omega), addGV_i (by omega) (by omega)]; exact H7 k hk
    · rw [addGV_4] at hk
      rw [addGV_3, gi_si, if_neg (by omega), gi_si]
      by_cases e : k = (A 0 4).toNat
      · rw [if_pos ⟨rfl, e⟩, if_pos e]
      · rw [if_neg (fun z => e z.2), if_neg e]; exact H8 k (by omega)
    · rw [addGV_0 (by omega)] at hk
      rw [addGV_i (by omega) (by omega), addGV_i (by omega) (by omega)]; exact H9 k hk))
end CGe
