-- the small constructors
section CIn
variable {X : Ctx} {l : Launch} {D : Dt} {h h' : Hp} {a x : Nat}
/-- the cells a .. a+w-1 are as before -/
theorem fx_gr {S : Nat → Prop} (f : FrX S h h') {b : Nat} (hb : b < hn h) (hs : ¬ S b) (j : Nat) : gr h' b j = gr h b j := ((f.2 b hb).2 hs j).2.2
theorem fx_gi {S : Nat → Prop} (f : FrX S h h') {b : Nat} (hb : b < hn h) (hs : ¬ S b) (j : Nat) : gi h' b j = gi h b j := ((f.2 b hb).2 hs j).1
theorem fx_gl {S : Nat → Prop} (f : FrX S h h') {b : Nat} (hb : b < hn h) (hs : ¬ S b) (j : Nat) : gl h' b j = gl h b j := ((f.2 b hb).2 hs j).2.1
theorem fx_kd {S : Nat → Prop} (f : FrX S h h') {b : Nat} (hb : b < hn h) : kd h' b = kd h b := (f.2 b hb).1.1
theorem fx_ln {S : Nat → Prop} (f : FrX S h h') {b : Nat} (hb : b < hn h) : ln h' b = ln h b := (f.2 b hb).1.2
theorem St7.fx {S : Nat → Prop} (F : St7 h a) (f : FrX S h h') (hb : a + 2 ≤ hn h) (hs : ∀ b, a ≤ b → b < a + 2 → ¬ S b) : St7 h' a := by
  obtain ⟨f1, f2, f3, f4⟩ := F
  exact ⟨by rw [fx_kd f (by omega)]; exact f1, by rw [fx_gr f (by omega) (hs _ (by omega) (by omega))]; exact f2, by rw [fx_kd f (by omega)]; exact f3, by rw [fx_ln f (by omega)]; exact f4⟩
theorem St8.fx {S : Nat → Prop} (F : St8 h a) (f : FrX S h h') (hb : a + 2 ≤ hn h) (hs : ∀ b, a ≤ b → b < a + 2 → ¬ S b) : St8 h' a := by
  obtain ⟨f1, f2, f3, f4⟩ := F
  exact ⟨by rw [fx_kd f (by omega)]; exact f1, by rw [fx_gr f (by omega) (hs _ (by omega) (by omega))]; exact f2, by rw [fx_kd f (by omega)]; exact f3, by rw [fx_ln f (by omega)]; exact f4⟩
theorem St1.fx {S : Nat → Prop} (F : St1 h a) (f : FrX S h h') (hb : a + 2 ≤ hn h) (hs : ∀ b, a ≤ b → b < a + 2 → ¬ S b) : St1 h' a := by
  obtain ⟨f1, f2, f3⟩ := F
  exact ⟨by rw [fx_kd f (by omega)]; exact f1, by rw [fx_gr f (by omega) (hs _ (by omega) (by omega))]; exact f2, by rw [fx_kd f (by omega)]; exact f3⟩
theorem St3.fx {S : Nat → Prop} (F : St3 h a) (f : FrX S h h') (hb : a + 4 ≤ hn h) (hs : ∀ b, a ≤ b → b < a + 4 → ¬ S b) : St3 h' a := by
  obtain ⟨f1, f2, f3, f4, f5, f6, f7, f8, f9⟩ := F
  have g := fun j => fx_gr f (b := a) (by omega) (hs _ (by omega) (by omega)) j
  exact ⟨by rw [fx_kd f (by omega)]; exact f1, by rw [g]; exact f2, by rw [fx_kd f (by omega)]; exact f3, by rw [g]; exact f4, by rw [fx_kd f (by omega)]; exact f5, by rw [fx_ln f (by omega)]; exact f6, by rw [g]; exact f7, by rw [fx_kd f (by omega)]; exact f8, by rw [fx_ln f (by omega)]; exact f9⟩

abbrev Fr0 : Hp → Hp → Prop := FrX (fun _ => False)

theorem sp_init7 : S_X7_init l D 1 80 [.ref (hn h)] (nw h 8 0) (QV fun h' => St7 h' (hn h) ∧ hn h' = hn h + 2 ∧ Fr0 h h' ∧ gi h' (hn h) 1 = 0) := Sp.of rfl (Nat.le_of_ble_eq_true rfl) (fun X C _ _ hmc hms => V_X7_init_0 C (by
  have f : Fr0 h (si (sr (nw (nw h 8 0) 22 80) (hn h) 0 (some (hn (nw h 8 0)))) (hn h) 1 0) := (((FrX.rf.nw).nw).sr (Or.inr (Nat.le_refl _))).si (Or.inr (Nat.le_refl _))
  refine ⟨by omega, by omega, ?_, rfl, ⟨?_, ?_, ?_, ?_⟩, rfl, f, ?_⟩
  · rw [kd_nw, hn_nw, if_neg (by omega), kd_nw, if_pos rfl]
  · rw [kd_si, kd_sr, kd_nw, hn_nw, if_neg (by omega), kd_nw, if_pos rfl]
  · rw [gr_si, gr_sr, if_pos ⟨rfl, rfl⟩, hn_nw]
  · rw [kd_si, kd_sr, kd_nw, hn_nw, if_pos rfl]
  · rw [ln_si, ln_sr, ln_nw, hn_nw, if_pos rfl]
  · rw [gi_si, if_pos ⟨rfl, rfl⟩]))
theorem sp_init8 : S_X8_init l D 1 60 [.ref (hn h)] (nw h 9 0) (QV fun h' => St8 h' (hn h) ∧ hn h' = hn h + 2 ∧ Fr0 h h' ∧ gi h' (hn h) 1 = 0) := Sp.of rfl (Nat.le_of_ble_eq_true rfl) (fun X C _ _ hmc hms => V_X8_init_0 C (by
  have f : Fr0 h (si (sr (nw (nw h 9 0) 21 60) (hn h) 0 (some (hn (nw h 9 0)))) (hn h) 1 0) := (((FrX.rf.nw).nw).sr (Or.inr (Nat.le_refl _))).si (Or.inr (Nat.le_refl _))
  refine ⟨by omega, by omega, ?_, rfl, ⟨?_, ?_, ?_, ?_⟩, rfl, f, ?_⟩
  · rw [kd_nw, hn_nw, if_neg (by omega), kd_nw, if_pos rfl]
  · rw [kd_si, kd_sr, kd_nw, hn_nw, if_neg (by omega), kd_nw, if_pos rfl]
  · rw [gr_si, gr_sr, if_pos ⟨rfl, rfl⟩, hn_nw]
  · rw [kd_si, kd_sr, kd_nw, hn_nw, if_pos rfl]
  · rw [ln_si, ln_sr, ln_nw, hn_nw, if_pos rfl]
  · rw [gi_si, if_pos ⟨rfl, rfl⟩]))
theorem sp_init6 : S_X6_init l D 0 0 [.ref (hn h)] (nw h 7 0) (QV fun h' => kd h' (hn h) = 7 ∧ hn h' = hn h + 1 ∧ Fr0 h h') := Sp.of rfl (Nat.le_of_ble_eq_true rfl) (fun X C _ _ hmc hms => V_X6_init_0 C (by
  refine ⟨by rw [kd_nw, if_pos rfl], rfl, ?_, rfl, ?_⟩
  · rw [kd_si, kd_si, kd_si, kd_si, kd_nw, if_pos rfl]
  · exact ((((FrX.rf.nw).si (Or.inr (Nat.le_refl _))).si (Or.inr (Nat.le_refl _))).si (Or.inr (Nat.le_refl _))).si (Or.inr (Nat.le_refl _))))
theorem sp_init0 : S_X0_init l D 0 0 [.ref (hn h)] (nw h 1 0) (QV fun h' => kd h' (hn h) = 1 ∧ hn h' = hn h + 1 ∧ Fr0 h h') := Sp.of rfl (Nat.le_of_ble_eq_true rfl) (fun X C _ _ hmc hms => V_X0_init_0 C (by
  refine ⟨by rw [kd_nw, if_pos rfl], rfl, ?_, rfl, ?_⟩
  · rw [kd_si, kd_si, kd_si, kd_si, kd_si, kd_si, kd_nw, if_pos rfl]
  · exact ((((((FrX.rf.nw).si (Or.inr (Nat.le_refl _))).si (Or.inr (Nat.le_refl _))).si (Or.inr (Nat.le_refl _))).si (Or.inr (Nat.le_refl _))).si (Or.inr (Nat.le_refl _))).si (Or.inr (Nat.le_refl _))))
theorem sp_init2x : S_X2_init l D 0 0 [.ref (hn h)] (nw h 3 0) (QV fun h' => kd h' (hn h) = 3 ∧ hn h' = hn h + 1 ∧ Fr0 h h') := (sp_init2 (h := nw h 3 0) (b := hn h) (by rw [kd_nw, if_pos rfl])).mono (fun w h' hp => by
  obtain ⟨rfl, e⟩ := hp
  rw [e]
  exact ⟨rfl, by rw [kd_sl, kd_sl, kd_nw, if_pos rfl], rfl, ((FrX.rf.nw).sl (Or.inr (Nat.le_refl _))).sl (Or.inr (Nat.le_refl _))⟩)
theorem sp_init1 : S_X1_init l D 1 4 [.ref (hn h)] (nw h 2 0) (QV fun h' => St1 h' (hn h) ∧ hn h' = hn h + 2 ∧ Fr0 h h') := Sp.of rfl (Nat.le_of_ble_eq_true rfl) (fun X C _ _ hmc hms => V_X1_init_0 C (by
  have f0 : Fr0 h (nw h 2 0) := FrX.rf.nw
  refine ⟨by omega, by omega, (sp_init6 (h := nw h 2 0)).mono (fun w h3 hp => ?_)⟩
  obtain ⟨rfl, k3, n3, f3⟩ := hp
  rw [hn_nw] at n3 k3
  have kx : kd h3 (hn h) = 2 := by rw [fx_kd f3 (by rw [hn_nw]; omega), kd_nw, if_pos rfl]
  have f03 : Fr0 h h3 := f0.tr f3
  have f : Fr0 h (si (si (si (sr h3 (hn h) 0 (some (hn (nw h 2 0)))) (hn h) 1 0) (hn h) 2 (-1)) (hn h) 3 1) := (((f03.sr (Or.inr (Nat.le_refl _))).si (Or.inr (Nat.le_refl _))).si (Or.inr (Nat.le_refl _))).si (Or.inr (Nat.le_refl _))
  refine ⟨rfl, kx, rfl, ⟨?_, ?_, ?_⟩, ?_, f⟩
  · rw [kd_si, kd_si, kd_si, kd_sr]; exact kx
  · rw [gr_si, gr_si, gr_si, gr_sr, if_pos ⟨rfl, rfl⟩, hn_nw]
  · rw [kd_si, kd_si, kd_si, kd_sr]; exact k3
  · rw [hn_si, hn_si, hn_si, hn_sr, n3]))
theorem sp_init3 : S_X3_init l D 3 122 [.ref (hn h)] (nw h 4 0) (QV fun h' => St3 h' (hn h) ∧ hn h' = hn h + 4 ∧ Fr0 h h') := Sp.of rfl (Nat.le_of_ble_eq_true rfl) (fun X C _ _ hmc hms => V_X3_init_0 C (by
  have f0 : Fr0 h (si (nw h 4 0) (hn h) 0 0) := (FrX.rf.nw).si (Or.inr (Nat.le_refl _))
  have k0 : kd (nw h 4 0) (hn h) = 4 := by rw [kd_nw, if_pos rfl]
  have n0 : hn (si (nw h 4 0) (hn h) 0 0) = hn h + 1 := rfl
  refine ⟨k0, by omega, by omega, (sp_init2x (h := si (nw h 4 0) (hn h) 0 0)).mono (fun w h4 hp => ?_)⟩
  obtain ⟨rfl, k4, n4, f4⟩ := hp
  rw [n0] at k4 n4
  have kx : kd h4 (hn h) = 4 := by rw [fx_kd f4 (by rw [n0]; omega)]; exact k0
  have f04 : Fr0 h h4 := f0.tr f4
  have hx : hn (nw h 4 0) = hn h + 1 := rfl
  rw [hx]
  refine ⟨rfl, kx, by omega, by omega, ?_, by omega, by omega, ?_, rfl, ⟨?_, ?_, ?_, ?_, ?_, ?_, ?_, ?_, ?_⟩, ?_, ?_⟩
  · rw [kd_nw, n4, if_neg (by omega)]; exact kx
  · rw [kd_nw, hn_nw, n4, if_neg (by omega), kd_nw, n4, if_neg (by omega)]; exact kx
  · rw [kd_sr, kd_nw, hn_sr, hn_nw, hn_sr, n4, if_neg (by omega), kd_sr, kd_nw, hn_sr, n4, if_neg (by omega), kd_sr]; exact kx
  · rw [gr_sr, if_neg (by omega), gr_nw, hn_sr, hn_nw, hn_sr, n4, if_neg (by omega), gr_sr, if_neg (by omega), gr_nw, hn_sr, n4, if_neg (by omega), gr_sr, if_pos ⟨rfl, rfl⟩]
  · rw [kd_sr, kd_nw, hn_sr, hn_nw, hn_sr, n4, if_neg (by omega), kd_sr, kd_nw, hn_sr, n4, if_neg (by omega), kd_sr]; exact k4
  · rw [gr_sr, if_neg (by omega), gr_nw, hn_sr, hn_nw, hn_sr, n4, if_neg (by omega), gr_sr, if_pos ⟨rfl, rfl⟩]
  · rw [kd_sr, kd_nw, hn_sr, hn_nw, hn_sr, n4, if_neg (by omega), kd_sr, kd_nw, hn_sr, n4, if_pos rfl]
  · rw [ln_sr, ln_nw, hn_sr, hn_nw, hn_sr, n4, if_neg (by omega), ln_sr, ln_nw, hn_sr, n4, if_pos rfl]
  · rw [gr_sr, if_pos ⟨rfl, rfl⟩, hn_nw, n4]
  · rw [kd_sr, kd_nw, hn_sr, hn_nw, hn_sr, n4, if_pos rfl]
  · rw [ln_sr, ln_nw, hn_sr, hn_nw, hn_sr, n4, if_pos rfl]
  · rw [hn_sr, hn_nw, hn_sr, hn_nw, hn_sr, n4]
  · exact ((((f04.sr (Or.inr (Nat.le_refl _))).nw).sr (Or.inr (Nat.le_refl _))).nw).sr (Or.inr (Nat.le_refl _))))
end CIn
