-- the shelf, fitted a second time: nothing changes
section FitS
variable {X : Ctx} {l : Launch} {D : Dt} {h : Hp} {x m a sh : Nat} {Q : Pq} {A : HV} {s : Sv}
theorem cl_fitS (T : ShT h sh A) (H : HdR h a A) (V : VA A) (dis : ∀ b, inH a b → ¬ (sh ≤ b ∧ b < sh + 6)) : S_X5_fit l D 0 0 [.ref sh, .ref a] h (QV fun h' => (∀ b j, gi h' b j = gi h b j) ∧ FrB sh h h') := Sp.of rfl (Nat.le_of_ble_eq_true rfl) (fun X C _ _ _ _ => V_X5_fit_0 C (by
  obtain ⟨n, ⟨F, s1, s0, S0⟩, te⟩ := T
  have vg := V.gn
  have i12 : (12 : Int32).toInt = 12 := rfl
  have e4 : (gi h a 4).toInt = A 0 4 := H.2.1 4 (by omega)
  have e1 : (gi h sh 1).toInt = gN A := s1
  have same : gi h sh 1 = gi h a 4 := by rw [i32_eq, e1, e4]; omega
  have hH : ∀ h', FrB sh h h' → HdR h' a A := fun h' f => H.wf f (fun b j hb q => dis b hb q) (fun _ _ _ => id)
  have key : ∀ (d : Nat) (h' : Hp) (v3 : Int32), 0 ≤ v3.toInt → v3.toInt + d = 12 → FrB sh h h' → (∀ b j, gi h' b j = gi h b j) → Wj X 0 0 (QV fun h' => (∀ b j, gi h' b j = gi h b j) ∧ FrB sh h h') 19 [(0, .ref sh), (1, .ref a), (2, .int 1), (3, .int v3)] [] h' := by
    intro d
    induction d with
    | zero =>
      intro h' v3 k0 hd f eq
      have H' := hH h' f
      have F' : St5 h' sh := St5_same F f.2.1 f.2.2.1 f.2.2.2.1
      refine V_X5_fit_19 C ⟨fun _ => ⟨H'.1, F', fun _ => ⟨rfl, fun b j => ?_, FrB.s f ⟨by omega, by omega⟩⟩, fun z => absurd z p1_ne⟩, fun q => ?_⟩
      · rw [gi_si]
        by_cases z : b = sh ∧ j = 1
        · rw [if_pos z, eq a 4, z.1, z.2, same]
        · rw [if_neg z]; exact eq b j
      · rw [i32_le, i12] at q; omega
    | succ d ih =>
      intro h' v3 k0 hd f eq
      obtain ⟨x1, x2⟩ := ix_succ k0 (by omega)
      have hk := ix_t k0
      have H' := hH h' f
      have F' : St5 h' sh := St5_same F f.2.1 f.2.2.1 f.2.2.2.1
      have ht := hTe_v H' V (v := v3) (k := ix v3) hk.symm (by omega)
      have ib : inb v3 12 := by unfold inb; omega
      have tk : (gi h (sh + 1) (ix v3)).toInt = tvA A (ix v3) := te (ix v3) (by omega)
      have ev : gi h' (sh + 1) (ix v3) = hTe h' a v3 := by rw [i32_eq, ht, eq]; exact tk
      refine V_X5_fit_19 C ⟨fun q => ?_, fun _ => ⟨fun z => absurd z p1_ne, fun _ => ⟨F', ib, H'.1, fun q2 => absurd ev q2, fun _ => V_X5_fit_48 C ⟨F', H'.1, ib, ih _ _ (by omega) (by omega) (FrB.s f ⟨by omega, by omega⟩) (fun b j => ?_)⟩⟩⟩⟩
      · rw [i32_le, i12] at q; omega
      · rw [gi_si]
        by_cases z : b = sh + 1 ∧ j = ix v3
        · rw [if_pos z, ← ev, z.1, z.2, eq]
        · rw [if_neg z]; exact eq b j
  exact ⟨F, H.1, fun q => absurd same q, fun _ => key 12 h 0 (by decide) (by decide) FrB.rf (fun _ _ => rfl)⟩))
theorem cl_fittedS (S : CSt h x m s) (e14 : gr h x 14 = some sh) (T : ShT h sh (sA s)) : S_X9_fittedShelf l D 0 0 [.ref x] h (QR fun y h' => y = sh ∧ (∀ b j, gi h' b j = gi h b j) ∧ FrB sh h h') := Sp.of rfl (Nat.le_of_ble_eq_true rfl) (fun X C _ _ _ _ => V_X9_fittedShelf_0 C (by
  refine ⟨S.1, fun z => (by rw [e14] at z; cases z), fun b z => ?_⟩
  obtain ⟨a, ea, Ha, ba⟩ := S.now
  obtain ⟨n12, g12⟩ := nn_of ea
  obtain ⟨n14, g14⟩ := nn_of e14
  obtain ⟨ok, q2, q3, q4⟩ := S.2.2.2.2.2.2.2.2 sh e14
  have dj := q4 0 a (by omega) ea
  refine V_X9_fittedShelf_18 C ⟨S.1, n14, n12, by rw [g14]; exact ok.1, ?_⟩
  rw [g12, g14]
  refine (cl_fitS T Ha S.2.2.2.2.1.1 (fun b hb q => by unfold inH at hb; omega)).mono (fun v h5 hp => ?_)
  obtain ⟨rfl, e5, f5⟩ := hp
  have e5' : gr h5 x 14 = some sh := by rw [f5.2.2.2.1]; exact e14
  obtain ⟨m14, h14⟩ := nn_of e5'
  have F5 : St9 h5 x := St9_same S.1 f5.2.1 f5.2.2.1 f5.2.2.2.1
  refine ⟨rfl, F5, m14, ?_⟩
  rw [h14]
  exact ⟨sh, rfl, rfl, e5, f5⟩))
end FitS
