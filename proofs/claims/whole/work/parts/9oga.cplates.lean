-- plates() of the class: a circle
section CPl
variable {X : Ctx} {l : Launch} {D : Dt} {h : Hp} {x m a t : Nat} {Q : Pq} {A : HV} {s : Sv}
theorem sp_addCircle (H : HdR h a A) (h0 : 0 ≤ A 0 3) (h3 : A 0 3 < 18) (h2 : 0 ≤ A 0 2 ∧ A 0 2 ≤ 3) {v : Int32} : S_X4_addCircle l D 0 0 [.ref a, .int v] h (QV fun h' => HdR h' a (addCV A v.toInt) ∧ FrO (inH a) h h') := Sp.of rfl (Nat.le_of_ble_eq_true rfl) (fun X C _ _ _ _ => V_X4_addCircle_0 C (by
  have e3 := H.2.1 3 (by omega)
  have e2 := H.2.1 2 (by omega)
  have i18 : (18 : Int32).toInt = 18 := rfl
  have x3 : ix (gi h a 3) = (A 0 3).toNat := by unfold ix; rw [e3]
  have g1 : ∀ j, gi (si h (a + 4) (ix (gi h a 3)) v) a j = gi h a j := fun j => by rw [gi_si, if_neg (by omega)]
  rw [g1 3, g1 2, x3]
  have g2 : gi (si (si h (a + 4) (A 0 3).toNat v) (a + 5) (A 0 3).toNat (gi h a 2 - 1)) a 3 = gi h a 3 := by rw [gi_si, if_neg (by omega), gi_si, if_neg (by omega)]
  rw [g2]
  refine ⟨H.1, fun q => ?_, fun _ => ⟨fun q => ?_, fun _ => ⟨⟨by omega, by omega⟩, ⟨by omega, by omega⟩, rfl, ?_⟩⟩⟩
  · exfalso
    rw [i32_lt, e3, i0_t] at q; omega
  · exfalso
    rw [i32_le, i18, e3] at q; omega
  · have ev : (gi h a 3 + 1).toInt = A 0 3 + 1 := by rw [iadd_t] <;> rw [e3, i1_t] <;> omega
    have ep : (gi h a 2 - 1).toInt = A 0 2 - 1 := by rw [isub_t] <;> rw [e2, i1_t] <;> omega
    generalize gi h a 3 + 1 = w3 at *
    generalize gi h a 2 - 1 = w2 at *
    have f : FrO (inH a) h (si (si (si h (a + 4) (A 0 3).toNat v) (a + 5) (A 0 3).toNat w2) a 3 w3) := ((FrO.rf.si ⟨by omega, by omega⟩).si ⟨by omega, by omega⟩).si ⟨by omega, by omega⟩
    obtain ⟨F, H1, H2, H3, H4, H5, H6, H7, H8, H9⟩ := H
    have g : ∀ b j, ¬ (b = a + 4) → ¬ (b = a + 5) → ¬ (b = a ∧ j = 3) → gi (si (si (si h (a + 4) (A 0 3).toNat v) (a + 5) (A 0 3).toNat w2) a 3 w3) b j = gi h b j := fun b j n1 n2 n3 => by rw [gi_si, if_neg n3, gi_si, if_neg (fun z => n2 z.1), gi_si, if_neg (fun z => n1 z.1)]
    refine ⟨⟨St4_same F f.2.1 f.2.2.1 f.2.2.2.1, fun i hi => ?_, ?_, ?_, ?_, ?_, ?_, fun k hk => ?_, fun k hk => ?_, fun k hk => ?_⟩, f⟩
    · by_cases e : i = 3
      · subst e
        rw [gi_si, if_pos ⟨rfl, rfl⟩, addCV_3]; exact ev
      · rw [g _ _ (by omega) (by omega) (by omega), addCV_0 e]; exact H1 i hi
    · rw [g _ _ (by omega) (by omega) (by omega), addCV_0 (by omega)]; exact H2
    · rw [addCV_0 (by omega)]; exact H3
    · rw [addCV_0 (by omega)]; exact H4
    · rw [addCV_0 (by omega)]; exact H5
    · rw [addCV_0 (by omega)]; exact H6
    · rw [addCV_3] at hk
      have q4 : gi (si (si (si h (a + 4) (A 0 3).toNat v) (a + 5) (A 0 3).toNat w2) a 3 w3) (a + 4) k = if k = (A 0 3).toNat then v else gi h (a + 4) k := by
        rw [gi_si, if_neg (by omega), gi_si, if_neg (by omega), gi_si]
        by_cases e : k = (A 0 3).toNat
        · rw [if_pos ⟨rfl, e⟩, if_pos e]
        · rw [if_neg (fun z => e z.2), if_neg e]
      have q5 : gi (si (si (si h (a + 4) (A 0 3).toNat v) (a + 5) (A 0 3).toNat w2) a 3 w3) (a + 5) k = if k = (A 0 3).toNat then w2 else gi h (a + 5) k := by
        rw [gi_si, if_neg (by omega), gi_si]
        by_cases e : k = (A 0 3).toNat
        · rw [if_pos ⟨rfl, e⟩, if_pos e]
        · rw [if_neg (fun z => e z.2), if_neg e, gi_si, if_neg (by omega)]
      rw [addCV_1, addCV_2, q4, q5]
      by_cases e : k = (A 0 3).toNat
      · rw [if_pos e, if_pos e, if_pos e, if_pos e]; exact ⟨rfl, ep⟩
      · rw [if_neg e, if_neg e, if_neg e, if_neg e]; exact H7 k (by omega)
    · rw [addCV_0 (by omega)] at hk
      rw [g _ _ (by omega) (by omega) (by omega), addCV_i (by omega) (by omega) (by omega)]; exact H8 k hk
    · rw [addCV_0 (by omega)] at hk
      rw [addCV_i (by omega) (by omega) (by omega), addCV_i (by omega) (by omega) (by omega)]; exact H9 k hk))
end CPl
