-- plates(): the pure value, the class
def addCV (E : HV) (v : Int) : HV := uv (uv (uv E 1 (E 0 3).toNat v) 2 (E 0 3).toNat (E 0 2 - 1)) 0 3 (E 0 3 + 1)
theorem addCV_3 {E : HV} {v : Int} : addCV E v 0 3 = E 0 3 + 1 := by unfold addCV; rw [uv_i, if_pos ⟨rfl, rfl⟩]
theorem addCV_0 {E : HV} {v : Int} {j : Nat} (h : j ≠ 3) : addCV E v 0 j = E 0 j := by unfold addCV; rw [uv_i, if_neg (by omega), uv_i, if_neg (by omega), uv_i, if_neg (by omega)]
theorem addCV_i {E : HV} {v : Int} {i j : Nat} (h0 : i ≠ 0) (h1 : i ≠ 1) (h2 : i ≠ 2) : addCV E v i j = E i j := by unfold addCV; rw [uv_i, if_neg (by omega), uv_i, if_neg (by omega), uv_i, if_neg (by omega)]
theorem addCV_1 {E : HV} {v : Int} {j : Nat} : addCV E v 1 j = if j = (E 0 3).toNat then v else E 1 j := by
  unfold addCV
  rw [uv_i, if_neg (by omega), uv_i, if_neg (by omega), uv_i]
  by_cases e : j = (E 0 3).toNat
  · rw [if_pos ⟨rfl, e⟩, if_pos e]
  · rw [if_neg (fun z => e z.2), if_neg e]
theorem addCV_2 {E : HV} {v : Int} {j : Nat} : addCV E v 2 j = if j = (E 0 3).toNat then E 0 2 - 1 else E 2 j := by
  unfold addCV
  rw [uv_i, if_neg (by omega), uv_i]
  by_cases e : j = (E 0 3).toNat
  · rw [if_pos ⟨rfl, e⟩, if_pos e]
  · rw [if_neg (fun z => e z.2), if_neg e, uv_i, if_neg (by omega)]
/-- valid as far as it is read: c circles of the plate -/
def PO (A : HV) (c : Nat) : Prop := (1 ≤ A 0 0 ∧ A 0 0 ≤ 120) ∧ (10 ≤ A 0 1 ∧ A 0 1 ≤ 100) ∧ (1 ≤ A 0 2 ∧ A 0 2 ≤ 3) ∧ (0 ≤ A 0 3 ∧ A 0 3 ≤ 6 * (A 0 2 - 1) + c) ∧ (0 ≤ A 0 4 ∧ A 0 4 ≤ 12) ∧ (A 0 6 = 0 → A 0 8 = 0 ∧ A 0 9 = 1 ∧ A 0 12 = 1) ∧ (∀ k : Nat, (k : Int) < A 0 3 → 10 ≤ A 1 k ∧ A 1 k ≤ 70 ∧ 0 ≤ A 2 k ∧ A 2 k < A 0 2) ∧ (∀ k : Nat, (k : Int) + 1 < A 0 3 → A 2 k ≤ A 2 (k + 1)) ∧ (∀ k : Nat, (k : Int) < A 0 4 → 20 ≤ A 3 k ∧ A 3 k ≤ 100)
theorem PO.add {E : HV} {c : Nat} (o : PO E c) (hc : c ≤ 5) {v : Int} (h1 : 10 ≤ v) (h2 : v ≤ 70) : PO (addCV E v) (c + 1) ∧ VO (addCV E v) := by
  obtain ⟨o1, o2, o3, o4, o5, o6, o7, o8, o9⟩ := o
  have p7 : ∀ k : Nat, (k : Int) < addCV E v 0 3 → 10 ≤ addCV E v 1 k ∧ addCV E v 1 k ≤ 70 ∧ 0 ≤ addCV E v 2 k ∧ addCV E v 2 k < E 0 2 := fun k hk => by
    rw [addCV_3] at hk
    rw [addCV_1, addCV_2]
    by_cases e : k = (E 0 3).toNat
    · rw [if_pos e, if_pos e]; omega
    · rw [if_neg e, if_neg e]; exact o7 k (by omega)
  have p8 : ∀ k : Nat, (k : Int) + 1 < addCV E v 0 3 → addCV E v 2 k ≤ addCV E v 2 (k + 1) := fun k hk => by
    rw [addCV_3] at hk
    rw [addCV_2, addCV_2, if_neg (by omega)]
    have a := o7 k (by omega)
    by_cases e : k + 1 = (E 0 3).toNat
    · rw [if_pos e]; omega
    · rw [if_neg e]; exact o8 k (by omega)
  have p9 : ∀ k : Nat, (k : Int) < E 0 4 → 20 ≤ addCV E v 3 k ∧ addCV E v 3 k ≤ 100 := fun k hk => by rw [addCV_i (by omega) (by omega) (by omega)]; exact o9 k hk
  unfold PO VO
  rw [addCV_0 (j := 0) (by omega), addCV_0 (j := 1) (by omega), addCV_0 (j := 2) (by omega), addCV_0 (j := 4) (by omega), addCV_0 (j := 6) (by omega), addCV_0 (j := 8) (by omega), addCV_0 (j := 9) (by omega), addCV_0 (j := 12) (by omega)]
  refine ⟨⟨o1, o2, o3, by rw [addCV_3]; omega, o5, o6, p7, p8, p9⟩, o1, o2, o3, by rw [addCV_3]; omega, o5, o6, p7, p8, p9⟩
/-- the next plate -/
theorem PO.next {E : HV} (o : VO E) (h2 : E 0 2 < 3) (h3 : E 0 3 ≤ 6 * E 0 2) : PO (uv E 0 2 (E 0 2 + 1)) 0 := by
  obtain ⟨o1, o2, o3, o4, o5, o6, o7, o8, o9⟩ := o
  have e2 : uv E 0 2 (E 0 2 + 1) 0 2 = E 0 2 + 1 := by rw [uv_i, if_pos ⟨rfl, rfl⟩]
  have e0 : ∀ j, j ≠ 2 → uv E 0 2 (E 0 2 + 1) 0 j = E 0 j := fun j hj => by rw [uv_i, if_neg (by omega)]
  have ei : ∀ i j, i ≠ 0 → uv E 0 2 (E 0 2 + 1) i j = E i j := fun i j hi => by rw [uv_i, if_neg (by omega)]
  unfold PO
  rw [e2, e0 0 (by omega), e0 1 (by omega), e0 3 (by omega), e0 4 (by omega), e0 6 (by omega), e0 8 (by omega), e0 9 (by omega), e0 12 (by omega)]
  refine ⟨o1, o2, by omega, by omega, o5, o6, fun k hk => ?_, fun k hk => ?_, fun k hk => ?_⟩
  · rw [ei 1 k (by omega), ei 2 k (by omega)]
    have := o7 k hk
    omega
  · rw [ei 2 k (by omega), ei 2 (k + 1) (by omega)]; exact o8 k hk
  · rw [ei 3 k (by omega)]; exact o9 k hk
def dropV (A : HV) : HV := uv (uv A 0 2 1) 0 3 0
theorem PO.drop {A : HV} (V : VA A) : PO (dropV A) 0 := by
  obtain ⟨o1, o2, o3, o4, o5, o6, o7, o8, o9⟩ := V.out
  have e3 : dropV A 0 3 = 0 := by unfold dropV; rw [uv_i, if_pos ⟨rfl, rfl⟩]
  have e2 : dropV A 0 2 = 1 := by unfold dropV; rw [uv_i, if_neg (by omega), uv_i, if_pos ⟨rfl, rfl⟩]
  have e0 : ∀ j, j ≠ 2 → j ≠ 3 → dropV A 0 j = A 0 j := fun j h2 h3 => by unfold dropV; rw [uv_i, if_neg (by omega), uv_i, if_neg (by omega)]
  have ei : ∀ i j, i ≠ 0 → dropV A i j = A i j := fun i j hi => by unfold dropV; rw [uv_i, if_neg (by omega), uv_i, if_neg (by omega)]
  unfold PO
  rw [e3, e2, e0 0 (by omega) (by omega), e0 1 (by omega) (by omega), e0 4 (by omega) (by omega), e0 6 (by omega) (by omega), e0 8 (by omega) (by omega), e0 9 (by omega) (by omega), e0 12 (by omega) (by omega)]
  refine ⟨o1, o2, by omega, by omega, o5, o6, fun k hk => by omega, fun k hk => by omega, fun k hk => ?_⟩
  rw [ei 3 k (by omega)]; exact o9 k hk
/-- the circles read from place p on: b the holes before, c the circles of this plate -/
def rdP (T : List Int) : Nat → Nat → HV → Int → Nat → Int × HV
  | 0, p, E, _, _ => (-1 - (p : Int), E)
  | f + 1, p, E, b, c =>
    if 48 ≤ tsg T p ∧ tsg T p ≤ 57 then
      if 48 ≤ tsg T (p + 1) ∧ tsg T (p + 1) ≤ 57 then
        if (10 ≤ nm2 T p ∧ nm2 T p ≤ 70) ∧ b < nm2 T p then
          if p + 2 = T.length then (addCV E (nm2 T p) 0 3, addCV E (nm2 T p)) else
            if tsg T (p + 2) = 59 ∧ E 0 2 < 3 then rdP T f (p + 2 + 1) (uv (addCV E (nm2 T p)) 0 2 (E 0 2 + 1)) 0 0 else
              if tsg T (p + 2) = 44 ∧ c + 1 < 6 then rdP T f (p + 2 + 1) (addCV E (nm2 T p)) (nm2 T p) (c + 1) else (-1 - ((p + 2 : Nat) : Int), addCV E (nm2 T p))
        else (-1 - ((p + 1 : Nat) : Int), E)
      else (-1 - ((p + 1 : Nat) : Int), E)
    else (-1 - (p : Int), E)
def rdP2 (T : List Int) (f p : Nat) (E' : HV) (b : Int) (c : Nat) : Int × HV :=
  if p + 2 = T.length then (E' 0 3, E') else
    if tsg T (p + 2) = 59 ∧ E' 0 2 < 3 then rdP T f (p + 2 + 1) (uv E' 0 2 (E' 0 2 + 1)) 0 0 else
      if tsg T (p + 2) = 44 ∧ c + 1 < 6 then rdP T f (p + 2 + 1) E' b (c + 1) else (-1 - ((p + 2 : Nat) : Int), E')
theorem rdP_a {T : List Int} {f p c : Nat} {E : HV} {b : Int} (h : ¬ dg T p) : rdP T (f + 1) p E b c = (-1 - (p : Int), E) := by unfold dg at h; unfold rdP; rw [if_neg h]
theorem rdP_b {T : List Int} {f p c : Nat} {E : HV} {b : Int} (h : dg T p) (h1 : ¬ dg T (p + 1)) : rdP T (f + 1) p E b c = (-1 - ((p + 1 : Nat) : Int), E) := by unfold dg at h h1; unfold rdP; rw [if_pos h, if_neg h1]
theorem rdP_c {T : List Int} {f p c : Nat} {E : HV} {b : Int} (h : dg T p) (h1 : dg T (p + 1)) (h2 : ¬ ((10 ≤ nm2 T p ∧ nm2 T p ≤ 70) ∧ b < nm2 T p)) : rdP T (f + 1) p E b c = (-1 - ((p + 1 : Nat) : Int), E) := by unfold dg at h h1; unfold rdP; rw [if_pos h, if_pos h1, if_neg h2]
theorem rdP_d {T : List Int} {f p c : Nat} {E : HV} {b : Int} (h : dg T p) (h1 : dg T (p + 1)) (h2 : (10 ≤ nm2 T p ∧ nm2 T p ≤ 70) ∧ b < nm2 T p) : rdP T (f + 1) p E b c = rdP2 T f p (addCV E (nm2 T p)) (nm2 T p) c := by
  unfold dg at h h1
  unfold rdP2
  rw [addCV_0 (j := 2) (by omega)]
  show (if 48 ≤ tsg T p ∧ tsg T p ≤ 57 then _ else _) = _
  rw [if_pos h, if_pos h1, if_pos h2]
theorem rdP_vo {T : List Int} : ∀ (f p : Nat) (E : HV) (b : Int) (c : Nat), PO E c → c ≤ 5 → 0 ≤ (rdP T f p E b c).1 → VO (rdP T f p E b c).2 := by
  intro f
  induction f with
  | zero =>
    intro p E b c o hc h0
    have : (rdP T 0 p E b c).1 = -1 - (p : Int) := rfl
    omega
  | succ f ih =>
    intro p E b c o hc h0
    by_cases x1 : dg T p
    · by_cases x2 : dg T (p + 1)
      · by_cases x3 : (10 ≤ nm2 T p ∧ nm2 T p ≤ 70) ∧ b < nm2 T p
        · rw [rdP_d x1 x2 x3] at h0 ⊢
          obtain ⟨o', v'⟩ := o.add hc (v := nm2 T p) x3.1.1 x3.1.2
          unfold rdP2 at h0 ⊢
          by_cases y1 : p + 2 = T.length
          · rw [if_pos y1]; exact v'
          · rw [if_neg y1] at h0 ⊢
            by_cases y2 : tsg T (p + 2) = 59 ∧ addCV E (nm2 T p) 0 2 < 3
            · rw [if_pos y2] at h0 ⊢
              have b3 := o'.2.2.2.1
              exact ih _ _ _ _ (PO.next v' y2.2 (by omega)) (by omega) h0
            · rw [if_neg y2] at h0 ⊢
              by_cases y3 : tsg T (p + 2) = 44 ∧ c + 1 < 6
              · rw [if_pos y3] at h0 ⊢
                exact ih _ _ _ _ o' (by omega) h0
              · rw [if_neg y3] at h0
                dsimp only at h0
                omega
        · rw [rdP_c x1 x2 x3] at h0
          dsimp only at h0
          omega
      · rw [rdP_b x1 x2] at h0
        dsimp only at h0
        omega
    · rw [rdP_a x1] at h0
      dsimp only at h0
      omega
def platesF (T : List Int) (A : HV) : Int × HV := ((rdP T (T.length + 1) 0 (dropV A) 0 0).1, firstV (rdP T (T.length + 1) 0 (dropV A) 0 0).2)
def platesP (s : Sv) : Int × Sv := actP (platesF (sT s)) (txtS s [])
theorem firstV_circ {E : HV} {v : Int} : firstV (addCV E v) = addCV (firstV E) v := by
  funext i j
  by_cases hi : i = 0
  · subst hi
    by_cases h3 : j = 3
    · subst h3
      rw [firstV_0 (by omega), addCV_3, addCV_3, firstV_0 (by omega)]
    · rw [addCV_0 h3]
      by_cases h5 : j < 5
      · rw [firstV_0 h5, addCV_0 h3, firstV_0 h5]
      · exact firstV_o (by omega) (fun j hj => addCV_0 (by omega))
  · rw [firstV_i hi]
    by_cases h1 : i = 1
    · subst h1
      rw [addCV_1, addCV_1, firstV_0 (by omega), firstV_i (by omega)]
    · by_cases h2 : i = 2
      · subst h2
        rw [addCV_2, addCV_2, firstV_0 (j := 3) (by omega), firstV_0 (j := 2) (by omega), firstV_i (by omega)]
      · rw [addCV_i hi h1 h2, addCV_i hi h1 h2, firstV_i hi]
theorem firstV_uv2 {E : HV} {v : Int} : firstV (uv E 0 2 v) = uv (firstV E) 0 2 v := by
  funext i j
  rw [uv_i]
  by_cases hi : i = 0
  · subst hi
    by_cases h2 : j = 2
    · subst h2
      rw [firstV_0 (by omega), uv_i, if_pos ⟨rfl, rfl⟩, if_pos ⟨rfl, rfl⟩]
    · rw [if_neg (by omega)]
      by_cases h5 : j < 5
      · rw [firstV_0 h5, firstV_0 h5, uv_i, if_neg (by omega)]
      · exact firstV_o (by omega) (fun j hj => by rw [uv_i, if_neg (by omega)])
  · rw [if_neg (by omega), firstV_i hi, firstV_i hi, uv_i, if_neg (by omega)]
