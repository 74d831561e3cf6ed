-- the head as at first
def hvF (p c g : Nat) : HV := fun i j => if i = 0 then (if j = 0 then 40 else if j = 1 then 50 else if j = 2 then (p : Int) else if j = 3 then (c : Int) else if j = 4 then (g : Int) else if j = 9 ∨ j = 11 ∨ j = 12 then 1 else 0) else if i = 1 then (fhL.getD j 0).toInt else if i = 2 then ((j / 6 : Nat) : Int) else if i = 3 then (ftL.getD j 0).toInt else 0
theorem hvF_2 {p c g : Nat} : hvF p c g 0 2 = p := rfl
theorem hvF_3 {p c g : Nat} : hvF p c g 0 3 = c := rfl
theorem hvF_4 {p c g : Nat} : hvF p c g 0 4 = g := rfl
theorem hvF_o {p c g p' c' g' j : Nat} (h2 : j ≠ 2) (h3 : j ≠ 3) (h4 : j ≠ 4) : hvF p c g 0 j = hvF p' c' g' 0 j := by simp [hvF, h2, h3, h4]
theorem hvF_i {p c g p' c' g' i j : Nat} (h : i ≠ 0) : hvF p c g i j = hvF p' c' g' i j := by simp [hvF, h]
theorem hvF_uv {p c g w : Nat} : uv (hvF p c g) 0 2 (w : Int) = hvF w c g := by
  funext i j
  rw [uv_i]
  by_cases e : i = 0 ∧ j = 2
  · rw [if_pos e, e.1, e.2]; rfl
  · rw [if_neg e]
    by_cases hi : i = 0
    · subst hi
      by_cases h3 : j = 3
      · subst h3; rfl
      · by_cases h4 : j = 4
        · subst h4; rfl
        · exact hvF_o (fun z => e ⟨rfl, z⟩) h3 h4
    · exact hvF_i hi
theorem hvF_circ {p c g : Nat} (hp : p = 1 + c / 6) : addCV (hvF p c g) (fhL.getD c 0).toInt = hvF p (c + 1) g := by
  funext i j
  by_cases hi : i = 0
  · subst hi
    by_cases h3 : j = 3
    · subst h3
      rw [addCV_3, hvF_3, hvF_3]; omega
    · rw [addCV_0 h3]
      by_cases h2 : j = 2
      · subst h2; rfl
      · by_cases h4 : j = 4
        · subst h4; rfl
        · exact hvF_o h2 h3 h4
  · by_cases h1 : i = 1
    · subst h1
      rw [addCV_1, hvF_3, Int.toNat_natCast]
      by_cases e : j = c
      · rw [if_pos e, e]; rfl
      · rw [if_neg e]; rfl
    · by_cases h2 : i = 2
      · subst h2
        rw [addCV_2, hvF_3, hvF_2, Int.toNat_natCast]
        by_cases e : j = c
        · rw [if_pos e, e]
          show (p : Int) - 1 = ((c / 6 : Nat) : Int)
          omega
        · rw [if_neg e]; rfl
      · rw [addCV_i hi h1 h2]; exact hvF_i hi
theorem hvF_gear {p c g : Nat} : addGV (hvF p c g) (ftL.getD g 0).toInt = hvF p c (g + 1) := by
  funext i j
  by_cases hi : i = 0
  · subst hi
    by_cases h4 : j = 4
    · subst h4
      rw [addGV_4, hvF_4, hvF_4]; omega
    · rw [addGV_0 h4]
      by_cases h2 : j = 2
      · subst h2; rfl
      · by_cases h3 : j = 3
        · subst h3; rfl
        · exact hvF_o h2 h3 h4
  · by_cases h3 : i = 3
    · subst h3
      rw [addGV_3, hvF_4, Int.toNat_natCast]
      by_cases e : j = g
      · rw [if_pos e, e]; rfl
      · rw [if_neg e]; rfl
    · rw [addGV_i hi h3]; exact hvF_i hi
theorem hvF_fh : ∀ k : Nat, k < 18 → 10 ≤ (fhL.getD k 0).toInt ∧ (fhL.getD k 0).toInt ≤ 70 ∧ k / 6 < 3 := by decide
theorem hvF_ft : ∀ k : Nat, k < 12 → 20 ≤ (ftL.getD k 0).toInt ∧ (ftL.getD k 0).toInt ≤ 100 := by decide
theorem hvF_va : VA (hvF 3 18 12) := by
  have e : ∀ j, hvF 3 18 12 1 j = (fhL.getD j 0).toInt ∧ hvF 3 18 12 2 j = ((j / 6 : Nat) : Int) ∧ hvF 3 18 12 3 j = (ftL.getD j 0).toInt := fun j => ⟨rfl, rfl, rfl⟩
  have e3 : hvF 3 18 12 0 3 = 18 := rfl
  have e4 : hvF 3 18 12 0 4 = 12 := rfl
  have e2 : hvF 3 18 12 0 2 = 3 := rfl
  have e7 : hvF 3 18 12 0 7 = 0 := rfl
  refine ⟨by decide, by decide, by decide, by decide, by decide, by decide, by decide, by decide, by decide, by decide, by decide, by decide, by decide, fun k hk => ?_, fun k hk => ?_, fun k hk => ?_, fun k hk => ?_, fun i j hij hj => ?_⟩
  · rw [e3] at hk
    have := hvF_fh k (by omega)
    rw [(e k).1, (e k).2.1, e2]; omega
  · rw [(e k).2.1, (e (k + 1)).2.1]; omega
  · rw [e4] at hk
    rw [(e k).2.2]; exact hvF_ft k (by omega)
  · rw [e7] at hk; omega
  · rw [e7] at hj; omega
theorem hvF_first : firstV (hvF 3 18 12) = hvF 3 18 12 := by
  have e5 : uv (hvF 3 18 12) 0 5 0 = hvF 3 18 12 := by
    funext i j
    rw [uv_i]
    by_cases e : i = 0 ∧ j = 5
    · rw [if_pos e, e.1, e.2]; rfl
    · rw [if_neg e]
  have et : (takeOutP (hvF 3 18 12)).2 = hvF 3 18 12 := by unfold takeOutP; rw [if_pos (show hvF 3 18 12 0 6 = 0 from rfl)]
  unfold firstV
  rw [e5, et]
  funext i j
  unfold wipeV
  rw [uv_i, uv_i, uv_i]
  by_cases a : i = 0 ∧ j = 11
  · rw [if_pos a, a.1, a.2]; rfl
  · rw [if_neg a]
    by_cases b : i = 0 ∧ j = 10
    · rw [if_pos b, b.1, b.2]; rfl
    · rw [if_neg b]
      by_cases c : i = 0 ∧ j = 7
      · rw [if_pos c, c.1, c.2]; rfl
      · rw [if_neg c]
theorem hdr_ext {h : Hp} {a : Nat} {A B : HV} (H : HdR h a A) (e0 : ∀ j, A 0 j = B 0 j) (e1 : ∀ k : Nat, (k : Int) < A 0 3 → A 1 k = B 1 k ∧ A 2 k = B 2 k) (e3 : ∀ k : Nat, (k : Int) < A 0 4 → A 3 k = B 3 k) (e4 : ∀ k : Nat, (k : Int) < A 0 7 → A 4 k = B 4 k ∧ A 5 k = B 5 k) : HdR h a B := by
  obtain ⟨F, H1, H2, H3, H4, H5, H6, H7, H8, H9⟩ := H
  refine ⟨F, fun i hi => by rw [← e0]; exact H1 i hi, by rw [← e0]; exact H2, by rw [← e0]; exact H3, by rw [← e0]; exact H4, by rw [← e0]; exact H5, by rw [← e0]; exact H6, fun k hk => ?_, fun k hk => ?_, fun k hk => ?_⟩
  · rw [← e0] at hk
    rw [← (e1 k hk).1, ← (e1 k hk).2]; exact H7 k hk
  · rw [← e0] at hk
    rw [← e3 k hk]; exact H8 k hk
  · rw [← e0] at hk
    rw [← (e4 k hk).1, ← (e4 k hk).2]; exact H9 k hk
section CFi
variable {X : Ctx} {l : Launch} {D : Dt} {h : Hp} {a : Nat}
theorem sp_fill (H : HdR h a hv0) : S_X4_fillAtFirst l D 0 0 [.ref a] h (QV fun h' => HdR h' a (hvF 3 18 12) ∧ FrO (inH a) h h') := Sp.of rfl (Nat.le_of_ble_eq_true rfl) (fun X C _ _ _ _ => V_X4_fillAtFirst_0 C (by
  have n18 : (Int32.ofNat 18).toInt = 18 := rfl
  have n12 : (Int32.ofNat 12).toInt = 12 := rfl
  have i6 : (6 : Int32).toInt = 6 := rfl
  have H1 : HdR (si (si h a 2 1) a 3 0) a (hvF 1 0 0) := by
    have q := (H.seti (i := 2) (v := 1) (by omega) (by omega) (by omega) (by omega)).seti (i := 3) (v := 0) (by omega) (fun _ => by show (0 : Int) ≤ uv hv0 0 2 1 0 3; decide) (by omega) (by omega)
    refine hdr_ext q (fun j => ?_) (fun k hk => ?_) (fun k hk => ?_) (fun k hk => ?_)
    · show uv (uv hv0 0 2 1) 0 3 0 0 j = hvF 1 0 0 0 j
      rw [uv_i, uv_i]
      by_cases b : j = 3
      · subst b; rfl
      · rw [if_neg (fun z => b z.2)]
        by_cases c : j = 2
        · subst c; rfl
        · rw [if_neg (fun z => c z.2)]
          by_cases d : j = 4
          · subst d; rfl
          · simp [hv0, hvF, b, c, d]
    · exfalso
      have : (k : Int) < 0 := hk
      omega
    · exfalso
      have : (k : Int) < 0 := hk
      omega
    · exfalso
      have : (k : Int) < 0 := hk
      omega
  have f1 : FrO (inH a) h (si (si h a 2 1) a 3 0) := (FrO.rf.si ⟨by omega, by omega⟩).si ⟨by omega, by omega⟩
  refine ⟨H.1, ?_⟩
  generalize si (si h a 2 1) a 3 0 = h1 at *
  have gears : ∀ (d c : Nat) (h' : Hp) (v1 : Int32), c + d = 12 → v1.toInt = c → HdR h' a (hvF 3 18 c) → FrO (inH a) h h' → Wj X 0 0 (QV fun h' => HdR h' a (hvF 3 18 12) ∧ FrO (inH a) h h') 41 [(0, .ref a), (1, .int v1)] [] h' := by
    intro d
    induction d with
    | zero =>
      intro c h' v1 hc e1 H' f'
      have : c = 12 := by omega
      subst this
      refine V_X4_fillAtFirst_41 C ⟨fun _ => ⟨rfl, H', f'⟩, fun q => ?_⟩
      exfalso
      rw [i32_le, n12, e1] at q; omega
    | succ d ih =>
      intro c h' v1 hc e1 H' f'
      have x1 : ix v1 = c := ix_of e1
      refine V_X4_fillAtFirst_41 C ⟨fun q => ?_, fun _ => ⟨⟨by omega, by omega⟩, H'.1, ?_⟩⟩
      · exfalso
        rw [i32_le, n12, e1] at q; omega
      · rw [x1]
        refine (sp_addGear H' (by rw [hvF_4]; omega) (by rw [hvF_4]; omega)).mono (fun _ h3 hp => ?_)
        obtain ⟨rfl, H3, f3⟩ := hp
        rw [hvF_gear] at H3
        have nx : ∃ w : Int32, v1 + Int32.ofInt 1 = w ∧ w.toInt = (c + 1 : Nat) := ⟨_, rfl, by rw [iadd_t] <;> rw [e1, show (Int32.ofInt 1).toInt = 1 from rfl] <;> omega⟩
        obtain ⟨w, hw, ew⟩ := nx
        rw [hw]
        exact ⟨rfl, ih (c + 1) h3 w (by omega) ew H3 (f'.tr f3)⟩
  have circles : ∀ (d c p : Nat) (h' : Hp) (v1 : Int32), c + d = 18 → p = 1 + (c - 1) / 6 → v1.toInt = c → HdR h' a (hvF p c 0) → FrO (inH a) h h' → Wj X 0 0 (QV fun h' => HdR h' a (hvF 3 18 12) ∧ FrO (inH a) h h') 6 [(0, .ref a), (1, .int v1)] [] h' := by
    intro d
    induction d with
    | zero =>
      intro c p h' v1 hc hp e1 H' f'
      have : c = 18 := by omega
      subst this
      have : p = 3 := by omega
      subst this
      refine V_X4_fillAtFirst_6 C ⟨fun _ => gears 12 0 h' 0 (by omega) rfl H' f', fun q => ?_⟩
      exfalso
      rw [i32_le, n18, e1] at q; omega
    | succ d ih =>
      intro c p h' v1 hc hp e1 H' f'
      have x1 : ix v1 = c := ix_of e1
      refine V_X4_fillAtFirst_6 C ⟨fun q => ?_, fun _ => ⟨H'.1, ⟨by omega, by omega⟩, ?_⟩⟩
      · exfalso
        rw [i32_le, n18, e1] at q; omega
      · rw [x1]
        have e6 : (v1 / 6).toInt = (c / 6 : Nat) := by rw [idiv_p (by omega) (by rw [i6]; omega), e1, i6]; omega
        have eq : (1 + v1 / 6).toInt = ((1 + c / 6 : Nat) : Int) := by rw [iadd_t] <;> rw [i1_t, e6] <;> omega
        have H2 := H'.seti (i := 2) (v := 1 + v1 / 6) (by omega) (by omega) (by omega) (by omega)
        rw [eq, hvF_uv] at H2
        have f2 : FrO (inH a) h' (si h' a 2 (1 + v1 / 6)) := FrO.rf.si ⟨by omega, by omega⟩
        generalize si h' a 2 (1 + v1 / 6) = h2 at *
        refine (sp_addCircle H2 (by rw [hvF_3]; omega) (by rw [hvF_3]; omega) (by rw [hvF_2]; omega)).mono (fun _ h3 hp => ?_)
        obtain ⟨rfl, H3, f3⟩ := hp
        rw [hvF_circ rfl] at H3
        have nx : ∃ w : Int32, v1 + Int32.ofInt 1 = w ∧ w.toInt = (c + 1 : Nat) := ⟨_, rfl, by rw [iadd_t] <;> rw [e1, show (Int32.ofInt 1).toInt = 1 from rfl] <;> omega⟩
        obtain ⟨w, hw, ew⟩ := nx
        rw [hw]
        exact ⟨rfl, ih (c + 1) (1 + c / 6) h3 w (by omega) (by omega) ew H3 ((f'.tr f2).tr f3)⟩
  exact circles 18 0 1 h1 0 (by omega) rfl rfl H1 f1))
end CFi
