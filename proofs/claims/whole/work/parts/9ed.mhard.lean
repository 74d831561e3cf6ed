-- hard() of the reference
theorem wy_dec {W1 W2 y : Int} (w1 : W1 = 0 ∨ W1 = 1) (w2 : W2 = 0 ∨ W2 = 1) (h : y = 0 + 2 * W1 + 4 * W2) : y / 2 % 2 = W1 ∧ y / 4 = W2 ∧ 0 ≤ y ∧ (y = 0 ↔ W1 = 0 ∧ W2 = 0) := by
  rcases w1 with rfl | rfl <;> rcases w2 with rfl | rfl <;> subst h <;> decide
section Wyn
variable {X : Ctx} {l : Launch} {D : Dt} {h : Hp} {m : Nat} {Q : Pq} {A : HV} {s : Sv}
theorem ma_hard (S : MSt h m s) {lo hi : Int32} : S_X10_hard l D 0 0 [.ref m, .int lo, .int hi] h (QI fun y h' => y.toInt = (hardP s lo.toInt hi.toInt).1 ∧ MSt h' m (hardP s lo.toInt hi.toInt).2 ∧ FrO (inM m) h h') := Sp.of rfl (Nat.le_of_ble_eq_true rfl) (fun X C _ _ _ _ => V_X10_hard_0 C (by
  obtain ⟨S1, f1⟩ := S.t0
  have V := S.1.va
  have i2 : (2 : Int32).toInt = 2 := rfl
  have i4 : (4 : Int32).toInt = 4 := rfl
  have e60 : (60 : Int32).toInt = 60 := rfl
  have b1 := b32 lo
  have b2 := b32 hi
  unfold hardP
  refine ⟨S.1.1, fun q => ⟨_, rfl, ?_⟩, fun q => ⟨fun q1 => ⟨_, rfl, ?_⟩, fun q1 => ⟨fun q2 => ⟨_, rfl, ?_⟩, fun q2 => ⟨fun q3 => ?_, fun q3 => ⟨_, rfl, ?_⟩⟩⟩⟩⟩
  all_goals rw [btL_0, i2l_t, l2_t, l400_t] at q
  · rw [if_neg (fun z => q z.1)]; exact ⟨rfl, S1, f1⟩
  all_goals rw [btL_0, i2l_t, l2_t, l400_t] at q1
  · rw [if_neg (fun z => q1 z.2.1)]; exact ⟨rfl, S1, f1⟩
  all_goals rw [i32_lt] at q2
  · rw [if_neg (fun z => by have := z.2.2.1; omega)]; exact ⟨rfl, S1, f1⟩
  all_goals
    have es : (hi - lo).toInt = hi.toInt - lo.toInt := isub_t (by omega) (by omega)
    rw [i32_lt, es, e60] at q3
  · have hc : (2 ≤ lo.toInt ∧ lo.toInt ≤ 400) ∧ (2 ≤ hi.toInt ∧ hi.toInt ≤ 400) ∧ lo.toInt ≤ hi.toInt ∧ hi.toInt - lo.toInt < 60 := by omega
    rw [if_pos hc]
    generalize eN : (hi.toInt - lo.toInt + 1).toNat = N
    have bH : ∀ a c, 0 ≤ sumN (hdH (sA s)) a c ∧ sumN (hdH (sA s)) a c ≤ c := sumN_b (fun n => (hd_b n).1)
    have bC : ∀ a c, 0 ≤ sumN (hdC (sA s)) a c ∧ sumN (hdC (sA s)) a c ≤ c := sumN_b (fun n => (hd_b n).2.1)
    have bD : ∀ a c, 0 ≤ sumN (hdD (sA s)) a c ∧ sumN (hdD (sA s)) a c ≤ c := sumN_b (fun n => (hd_b n).2.2.1)
    have bN : ∀ a c, 0 ≤ sumN (hdN (sA s)) a c ∧ sumN (hdN (sA s)) a c ≤ c := sumN_b (fun n => (hd_b n).2.2.2)
    have key : ∀ (d c : Nat) (h' : Hp) (v3 v4 v5 v6 v7 v8 : Int32), c + d = N → v8.toInt = hi.toInt - c → v4.toInt = hdF (sA s) (v8.toInt + 1) c → v3.toInt = sumN (hdH (sA s)) (v8.toInt + 1) c → v5.toInt = sumN (hdC (sA s)) (v8.toInt + 1) c → v6.toInt = sumN (hdD (sA s)) (v8.toInt + 1) c → v7.toInt = sumN (hdN (sA s)) (v8.toInt + 1) c → MSt h' m s → FrO (inM m) h h' → Wj X 0 0 (QI fun y h' => y.toInt = sumN (hdH (sA s)) lo.toInt N ∧ MSt h' m (rowS s [hdF (sA s) lo.toInt N, sumN (hdC (sA s)) lo.toInt N, sumN (hdD (sA s)) lo.toInt N, sumN (hdN (sA s)) lo.toInt N]) ∧ FrO (inM m) h h') 51 [(0, .ref m), (1, .int lo), (3, .int v3), (4, .int v4), (5, .int v5), (6, .int v6), (7, .int v7), (8, .int v8)] [] h' := by
      intro d
      induction d with
      | zero =>
        intro c h' v3 v4 v5 v6 v7 v8 ec e8 e4 e3 e5 e6 e7 S' x'
        have hcN : c = N := by omega
        have h8 : v8.toInt + 1 = lo.toInt := by omega
        rw [hcN, h8] at e4 e3 e5 e6 e7
        have ft : FrW (rI m) (rL m) h' (si h' m 1 0) := FrW.si (P := rI m) (R := rL m) FrW.rf ⟨rfl, rfl⟩
        refine V_X10_hard_51 C ⟨fun _ => ⟨S'.1.1, (ma_enters (h := si h' m 1 0) (L := []) S'.1.1 (RwM.clr 0 rfl) (by decide) (z := hdF (sA s) lo.toInt N) (by rw [i2l_t, e4])).mono (fun w h2 hp => ?_)⟩, fun z => absurd (by rw [i32_lt]; omega) z⟩
        obtain ⟨rfl, t2, f2⟩ := hp
        have f2 := ft.tr f2
        refine ⟨rfl, f2.st10 S'.1.1, (ma_enters (f2.st10 S'.1.1) t2 (by simp) (z := sumN (hdC (sA s)) lo.toInt N) (by rw [i2l_t, e5])).mono (fun w h4 hp => ?_)⟩
        obtain ⟨rfl, t4, f4⟩ := hp
        have f4 := f2.tr f4
        refine ⟨rfl, f4.st10 S'.1.1, (ma_enters (f4.st10 S'.1.1) t4 (by simp) (z := sumN (hdD (sA s)) lo.toInt N) (by rw [i2l_t, e6])).mono (fun w h6 hp => ?_)⟩
        obtain ⟨rfl, t6, f6⟩ := hp
        have f6 := f4.tr f6
        refine ⟨rfl, f6.st10 S'.1.1, (ma_enters (f6.st10 S'.1.1) t6 (by simp) (z := sumN (hdN (sA s)) lo.toInt N) (by rw [i2l_t, e7])).mono (fun w h8 hp => ?_)⟩
        obtain ⟨rfl, t8, f8⟩ := hp
        obtain ⟨S8, g8⟩ := S'.row (f6.tr f8) t8
        exact ⟨rfl, v3, rfl, e3, S8, x'.tr g8⟩
      | succ d ih =>
        intro c h' v3 v4 v5 v6 v7 v8 ec e8 e4 e3 e5 e6 e7 S' x'
        have qH := bH (v8.toInt + 1) c
        have qC := bC (v8.toInt + 1) c
        have qD := bD (v8.toInt + 1) c
        have qN := bN (v8.toInt + 1) c
        have pr : ∃ p : Int32, v8 + Int32.ofInt (-1) = p ∧ p.toInt = v8.toInt - 1 := ⟨_, rfl, (ix_pred (i := v8) (by omega)).2⟩
        obtain ⟨p, ep, x8⟩ := pr
        have x9 : p.toInt + 1 = v8.toInt := by omega
        have sH : sumN (hdH (sA s)) v8.toInt (c + 1) = hdH (sA s) v8.toInt + sumN (hdH (sA s)) (v8.toInt + 1) c := sumN_c _ _ _
        have sC : sumN (hdC (sA s)) v8.toInt (c + 1) = hdC (sA s) v8.toInt + sumN (hdC (sA s)) (v8.toInt + 1) c := sumN_c _ _ _
        have sD : sumN (hdD (sA s)) v8.toInt (c + 1) = hdD (sA s) v8.toInt + sumN (hdD (sA s)) (v8.toInt + 1) c := sumN_c _ _ _
        have sN : sumN (hdN (sA s)) v8.toInt (c + 1) = hdN (sA s) v8.toInt + sumN (hdN (sA s)) (v8.toInt + 1) c := sumN_c _ _ _
        have sF : hdF (sA s) v8.toInt (c + 1) = if hw (sA s) v8.toInt 0 = 0 then v8.toInt else hdF (sA s) (v8.toInt + 1) c := rfl
        have w1 := hw_01 (A := sA s) (n := v8.toInt) (k := 1)
        have w2 := hw_01 (A := sA s) (n := v8.toInt) (k := 2)
        refine V_X10_hard_51 C ⟨fun z => by rw [i32_lt] at z; omega, fun _ => ⟨S'.1.1, (ma_firstSimple S'.1.md V (n := v8) (by omega)).mono (fun w h2 hp => ?_)⟩⟩
        obtain ⟨y, rfl, hy, e⟩ := hp
        rw [e]
        refine ⟨y, rfl, fun z => ?_, fun z => ?_⟩
        all_goals rw [i32_lt, hy, i0_t] at z
        · have hz : hw (sA s) v8.toInt 0 = 0 := by
            rw [hw_0]
            by_cases c0 : (fS (sA s) v8.toInt : Int) < sA s 0 3
            · rw [if_pos c0] at z; omega
            · rw [if_neg c0]
          obtain ⟨n1, n2, n3, n4⟩ := hd_yes hz
          refine ⟨S'.1.1, (ma_waysOf S'.1.md V (n := v8) (by omega) (by omega)).mono (fun w h4 hp => ?_)⟩
          obtain ⟨y4, rfl, hy4, f4⟩ := hp
          obtain ⟨S4, g4⟩ := FrY.ms S' f4
          rw [hz] at hy4
          obtain ⟨v1, v2, v3', v4'⟩ := wy_dec w1 w2 hy4
          have r2 : (y4 / 2 % 2).toInt = hw (sA s) v8.toInt 1 := by
            have d1 : (y4 / 2).toInt = y4.toInt / 2 := by rw [idiv_p v3' (by rw [i2]; decide), i2]
            rw [irem_p (by rw [d1]; exact Int.ediv_nonneg v3' (by decide)), i2, d1]; exact v1
          have d2 : (y4 / 4).toInt = hw (sA s) v8.toInt 2 := by rw [idiv_p v3' (by rw [i4]; decide), i4]; exact v2
          have zz : y4 = 0 ↔ hw (sA s) v8.toInt 1 = 0 ∧ hw (sA s) v8.toInt 2 = 0 := by rw [i32_eq, i0_t]; exact v4'
          clear v1 v2 v3' v4' hy4
          have a3 := (ix_succ (i := v3) (by omega) (by omega)).2
          have kk : ∀ (o : Int32), (flg o).toInt = hdN (sA s) v8.toInt → Wj X 0 0 (QI fun y h' => y.toInt = sumN (hdH (sA s)) lo.toInt N ∧ MSt h' m (rowS s [hdF (sA s) lo.toInt N, sumN (hdC (sA s)) lo.toInt N, sumN (hdD (sA s)) lo.toInt N, sumN (hdN (sA s)) lo.toInt N]) ∧ FrO (inM m) h h') 116 [(0, .ref m), (1, .int lo), (3, .int (v3 + Int32.ofInt 1)), (4, .int v8), (5, .int (v5 + y4 / 2 % 2)), (6, .int (v6 + y4 / 4)), (8, .int v8)] [.int o, .int v7] h4 := by
            intro o eo
            have bo := (hd_b (A := sA s) v8.toInt).2.2.2
            refine V_X10_hard_116 C ?_
            rw [ep]
            refine ih (c + 1) h4 _ v8 _ _ _ p (by omega) (by omega) ?_ ?_ ?_ ?_ ?_ S4 (x'.tr g4)
            all_goals rw [x9]
            · rw [sF, if_pos hz]
            · omega
            · rw [iadd_t (by omega) (by omega)]; omega
            · rw [iadd_t (by omega) (by omega)]; omega
            · rw [iadd_t (by omega) (by omega)]; omega
          refine ⟨y4, rfl, fun z => kk 0 ?_, fun z => kk 1 ?_⟩
          · rw [n4, if_neg (fun q => z (zz.mpr q))]; rfl
          · rw [n4, if_pos (zz.mp z)]; rfl
        · have hz : hw (sA s) v8.toInt 0 ≠ 0 := by
            rw [hw_0]
            by_cases c0 : (fS (sA s) v8.toInt : Int) < sA s 0 3
            · rw [if_pos c0]; omega
            · rw [if_neg c0] at z; omega
          obtain ⟨n1, n2, n3, n4⟩ := hd_no hz
          rw [ep]
          refine ih (c + 1) h' v3 v4 v5 v6 v7 p (by omega) (by omega) ?_ ?_ ?_ ?_ ?_ S' x'
          all_goals rw [x9]
          · rw [sF, if_neg hz]; exact e4
          all_goals omega
    exact key N 0 _ 0 (-1) 0 0 0 hi (by omega) (by omega) rfl rfl rfl rfl rfl S1 f1
  · rw [if_neg (fun z => q3 z.2.2.2)]; exact ⟨rfl, S1, f1⟩))
end Wyn
