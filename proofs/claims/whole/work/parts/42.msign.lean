-- the reference's sign()
theorem of_ix {i : Int32} (h0 : 0 ≤ i.toInt) : Int32.ofNat (ix i) = i := by
  have b := b32 i
  rw [i32_eq, Int32.toInt_ofNat', ix_t h0, bm32 (by omega) (by omega)]
theorem getD_app4 (T : List Int) (a b c d : Int) (i : Nat) : (T ++ [a, b, c, d]).getD i 0 = if i < T.length then T.getD i 0 else if i = T.length then a else if i = T.length + 1 then b else if i = T.length + 2 then c else if i = T.length + 3 then d else 0 := by
  simp only [List.getD_eq_getElem?_getD]
  by_cases e : i < T.length
  · rw [if_pos e, List.getElem?_append_left e]
  · rw [if_neg e, List.getElem?_append_right (by omega)]
    by_cases e0 : i = T.length
    · rw [if_pos e0, e0, Nat.sub_self]; rfl
    · rw [if_neg e0]
      by_cases e1 : i = T.length + 1
      · rw [if_pos e1, e1, Nat.add_sub_cancel_left]; rfl
      · rw [if_neg e1]
        by_cases e2 : i = T.length + 2
        · rw [if_pos e2, e2, Nat.add_sub_cancel_left]; rfl
        · rw [if_neg e2]
          by_cases e3 : i = T.length + 3
          · rw [if_pos e3, e3, Nat.add_sub_cancel_left]; rfl
          · rw [if_neg e3, List.getElem?_eq_none (by simp; omega)]; rfl
section Sign
variable {X : Ctx} {l : Launch} {D : Dt} {h : Hp} {m : Nat} {s : Sv} {Q : Pq}
theorem i76_t : (76 : Int32).toInt = 76 := rfl
theorem ma_sign_loop (C : C_X10_sign X) (S : MSt h m s) (hT : (sT s).length ≤ 76) {v : Int32} (hend : ∀ h', FrW (fun b j => b = m + 2 ∧ (sT s).length ≤ j) (fun _ _ => False) h h' → (∀ j, j < 4 → (gi h' (m + 2) ((sT s).length + j)).toInt = sgP v j) → Q (some (.int (gi (si h' m 4 (gi h' m 4 + 4)) m 4))) (si h' m 4 (gi h' m 4 + 4))) (d : Nat) : ∀ (i : Int32) (h' : Hp), 0 ≤ i.toInt → i.toInt + d = 4 → FrW (fun b j => b = m + 2 ∧ (sT s).length ≤ j) (fun _ _ => False) h h' → (∀ j, j < ix i → (gi h' (m + 2) ((sT s).length + j)).toInt = sgP v j) → Wj X 0 0 Q 18 [(0, .ref m), (1, .int v), (2, .int i)] [] h' := by
  induction d with
  | zero =>
    intro i h' hi hd f g
    refine V_X10_sign_18 C ⟨fun _ => ⟨f.st10 S.1.1, hend h' f (fun j hj => g j (by unfold ix; omega))⟩, fun q => ?_⟩
    rw [i32_le, i4_t] at q; omega
  | succ d ih =>
    intro i h' hi hd f g
    obtain ⟨x1, x2⟩ := ix_succ hi (by omega)
    have hk := ix_t hi
    have e4 : (gi h' m 4).toInt = (sT s).length := by rw [f.xi (fun q => by have := q.1; omega)]; exact S.2.2.1
    obtain ⟨y1, y2⟩ := ix_add (c := gi h' m 4) (v := i) (a := (sT s).length) (b := ix i) e4 hk.symm (by omega)
    refine V_X10_sign_18 C ⟨fun q => ?_, fun _ => ⟨f.st10 S.1.1, inb_add (a := (sT s).length) (b := ix i) e4 hk.symm (by omega) (by omega), ?_⟩⟩
    · rw [i32_le, i4_t] at q; omega
    · rw [y1]
      refine ih _ _ (by omega) (by omega) (f.si ⟨rfl, by omega⟩) (fun j hj => ?_)
      rw [gi_si]
      by_cases e : j = ix i
      · rw [if_pos ⟨rfl, by omega⟩, e]
        unfold sgP
        rw [of_ix hi]
      · rw [if_neg (by omega)]; exact g j (by omega)
theorem ma_sign (S : MSt h m s) {v : Int32} : S_X10_sign l D 0 0 [.ref m, .int v] h (QI fun y h' => y.toInt = (signP s v).1 ∧ MSt h' m (signP s v).2 ∧ FrO (inM m) h h') := Sp.of rfl (Nat.le_of_ble_eq_true rfl) (fun X C _ _ _ _ => V_X10_sign_0 C (by
  obtain ⟨S1, f1⟩ := S.t0
  have e4 := S1.2.2.1
  unfold signP
  refine ⟨S.1.1, fun q => ?_, fun q => ⟨_, rfl, ?_⟩⟩
  all_goals rw [i32_le, e4, i76_t] at q
  · have hT : (sT s).length ≤ 76 := by omega
    rw [if_pos hT]
    refine ma_sign_loop C S1 hT (fun h' f g => ?_) 4 0 _ (by rw [i0_t]; omega) (by rw [i0_t]; omega) FrW.rf (fun j hj => by unfold ix at hj; rw [i0_t] at hj; simp at hj)
    have e4' : (gi h' m 4).toInt = (sT s).length := by rw [f.xi (fun q => by have := q.1; omega)]; exact e4
    have e5 : (gi h' m 4 + 4).toInt = ((sT s).length + 4 : Nat) := by rw [iadd_t] <;> rw [i4_t, e4'] <;> omega
    have ff : FrW (fun b j => b = m ∧ j = 4 ∨ b = m + 2) (fun _ _ => False) (si h m 0 0) (si h' m 4 (gi h' m 4 + 4)) := (f.mono (fun b j q => Or.inr q.1) (fun _ _ q => q)).si (Or.inl ⟨rfl, rfl⟩)
    have T : TxM (si h' m 4 (gi h' m 4 + 4)) m (sT s ++ [sgP v 0, sgP v 1, sgP v 2, sgP v 3]) := by
      refine ⟨by rw [gi_si, if_pos ⟨rfl, rfl⟩, e5]; simp, by simp; omega, fun i hi => ?_⟩
      rw [gi_si, if_neg (by omega), getD_app4]
      by_cases q1 : i < (sT s).length
      · rw [if_pos q1, f.xi (fun q => by have := q.2; omega)]; exact S1.2.2.2.2 i q1
      · simp at hi
        have g0 := g 0 (by omega)
        have g1 := g 1 (by omega)
        have g2 := g 2 (by omega)
        have g3 := g 3 (by omega)
        rw [if_neg q1]
        by_cases k0 : i = (sT s).length
        · rw [if_pos k0, k0]; exact g0
        · rw [if_neg k0]
          by_cases k1 : i = (sT s).length + 1
          · rw [if_pos k1, k1]; exact g1
          · rw [if_neg k1]
            by_cases k2 : i = (sT s).length + 2
            · rw [if_pos k2, k2]; exact g2
            · rw [if_neg k2, if_pos (by omega)]
              have k3 : i = (sT s).length + 3 := by omega
              rw [k3]; exact g3
    obtain ⟨S2, f2⟩ := S1.txt ff T
    exact ⟨_, rfl, by rw [gi_si, if_pos ⟨rfl, rfl⟩]; exact e5, S2, f1.tr f2⟩
  · rw [if_neg (by omega)]
    exact ⟨rfl, S1, f1⟩))
end Sign
