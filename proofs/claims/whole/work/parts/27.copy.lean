-- Head.copyFrom(), choose(), atFirst(), setTo()
theorem ix_0 : ix 0 = 0 := by decide
theorem ix_12 : ix 12 = 12 := by decide
theorem ix_18 : ix 18 = 18 := by decide
theorem ix_60 : ix 60 = 60 := by decide
theorem cpy_lt {α : Type} {f g : Nat → α} {n k : Nat} (h : k < n) : va_cpy f g 0 0 n k = f k := by
  unfold va_cpy
  rw [if_pos (by omega)]
  congr 1
  omega
section Copy
variable {h : Hp} {a b : Nat} {A : HV}
theorem si3 {i j k : Nat} (hab : a ≠ b) (h1 : Hp) (e : h1 = si (si (si h a i (gi h b i)) a j (gi (si h a i (gi h b i)) b j)) a k (gi (si (si h a i (gi h b i)) a j (gi (si h a i (gi h b i)) b j)) b k)) : FrO (fun c => c = a) h h1 ∧ (∀ f, gi h1 a f = if f = i ∨ f = j ∨ f = k then gi h b f else gi h a f) ∧ ∀ c f, gl h1 c f = gl h c f := by
  have hba : b ≠ a := fun q => hab q.symm
  refine ⟨by rw [e]; exact FrO.si (S := fun c => c = a) (FrO.si (S := fun c => c = a) (FrO.si (S := fun c => c = a) FrO.rf rfl) rfl) rfl, fun f => ?_, fun c f => by rw [e]; rfl⟩
  rw [e]
  simp only [gi_si, hba, false_and, if_false, true_and]
  by_cases f1 : f = k
  · simp [f1]
  · by_cases f2 : f = j
    · subst f2; simp [f1]
    · by_cases f3 : f = i
      · subst f3; simp [f1, f2]
      · simp [f1, f2, f3]
theorem HdR.copied {h' : Hp} (H : HdR h b A) (V : VA A) (F : St4 h' a) (e1 : ∀ i, i < 8 → gi h' a i = gi h b i) (e2 : gi h' a 16 = gi h b 16) (e3 : ∀ j, j < 2 → gl h' (a + 1) j = gl h (b + 1) j ∧ gl h' (a + 2) j = gl h (b + 2) j) (e4 : ∀ k, k < 18 → gi h' (a + 4) k = gi h (b + 4) k ∧ gi h' (a + 5) k = gi h (b + 5) k) (e5 : ∀ k, k < 12 → gi h' (a + 6) k = gi h (b + 6) k) (e6 : ∀ k, k < 60 → gl h' (a + 7) k = gl h (b + 7) k ∧ gl h' (a + 8) k = gl h (b + 8) k) : HdR h' a A := by
  obtain ⟨H0, H1, H2, H3, H4, H5, H6, H7, H8, H9⟩ := H
  obtain ⟨-, -, -, v3, v4, -, -, v7, -⟩ := V
  refine ⟨F, fun i hi => by rw [e1 i hi]; exact H1 i hi, by rw [e2]; exact H2, by rw [(e3 0 (by omega)).1]; exact H3, by rw [(e3 1 (by omega)).1]; exact H4, by rw [(e3 0 (by omega)).2]; exact H5, by rw [(e3 1 (by omega)).2]; exact H6, fun k hk => ?_, fun k hk => ?_, fun k hk => ?_⟩
  · rw [(e4 k (by omega)).1, (e4 k (by omega)).2]; exact H7 k hk
  · rw [e5 k (by omega)]; exact H8 k hk
  · rw [(e6 k (by omega)).1, (e6 k (by omega)).2]; exact H9 k hk
theorem gl_fcp0 (h : Hp) (a b j : Nat) (hj : j < 2) : gl (fcp h a b) a j = gl h b j := by
  unfold fcp
  rw [gl_sl]
  by_cases e : j = 1
  · rw [if_pos ⟨rfl, e⟩, e]
  · have e0 : j = 0 := by omega
    rw [if_neg (fun q => e q.2), gl_sl, if_pos ⟨rfl, e0⟩, e0]
theorem gl_fcpN (h : Hp) (a b c j : Nat) (hc : c ≠ a) : gl (fcp h a b) c j = gl h c j := by
  unfold fcp
  rw [gl_sl, if_neg (fun q => hc q.1), gl_sl, if_neg (fun q => hc q.1)]
theorem gi_fcp (h : Hp) (a b c j : Nat) : gi (fcp h a b) c j = gi h c j := rfl
theorem sp_copyFrom {l : Launch} {D : Dt} (F : St4 h a) (H : HdR h b A) (V : VA A) (hd : a + 9 ≤ b ∨ b + 9 ≤ a) : S_X4_copyFrom l D 0 0 [.ref a, .ref b] h (QV fun h' => HdR h' a A ∧ FrO (inH a) h h') := Sp.of rfl (Nat.le_of_ble_eq_true rfl) (fun X C _ _ _ _ => by
  have hab : a ≠ b := by omega
  have sub : ∀ c, c = a → inH a c := fun c e => ⟨by omega, by omega⟩
  have nb : ∀ c, inH b c → ¬ c = a := fun c q => by unfold inH at q; omega
  refine V_X4_copyFrom_0 C ⟨H.1, F, ?_⟩
  generalize e1 : si (si (si h a 0 (gi h b 0)) a 1 (gi (si h a 0 (gi h b 0)) b 1)) a 2 (gi (si (si h a 0 (gi h b 0)) a 1 (gi (si h a 0 (gi h b 0)) b 1)) b 2) = h1
  obtain ⟨f1, g1, l1⟩ := si3 hab h1 e1.symm
  clear e1
  refine V_X4_copyFrom_24 C ⟨H.1.fr f1, F.fr f1, ?_⟩
  generalize e2 : si (si (si h1 a 3 (gi h1 b 3)) a 4 (gi (si h1 a 3 (gi h1 b 3)) b 4)) a 5 (gi (si (si h1 a 3 (gi h1 b 3)) a 4 (gi (si h1 a 3 (gi h1 b 3)) b 4)) b 5) = h2
  obtain ⟨f2, g2, l2⟩ := si3 hab h2 e2.symm
  clear e2
  refine V_X4_copyFrom_48 C ⟨(H.1.fr f1).fr f2, (F.fr f1).fr f2, ?_⟩
  generalize e3 : si (si (si h2 a 6 (gi h2 b 6)) a 7 (gi (si h2 a 6 (gi h2 b 6)) b 7)) a 16 (gi (si (si h2 a 6 (gi h2 b 6)) a 7 (gi (si h2 a 6 (gi h2 b 6)) b 7)) b 16) = h3
  obtain ⟨f3, g3, l3⟩ := si3 hab h3 e3.symm
  clear e3
  have f13 : FrO (fun c => c = a) h h3 := (f1.tr f2).tr f3
  have bi1 : ∀ j, gi h1 b j = gi h b j := fun j => (f1.2.2.2.2 b (fun q => hab q.symm) j).1
  have bi2 : ∀ j, gi h2 b j = gi h b j := fun j => by rw [(f2.2.2.2.2 b (fun q => hab q.symm) j).1, bi1]
  have A1 : ∀ i, i < 8 → gi h3 a i = gi h b i := by
    intro i hi
    rw [g3, g2, g1, bi1, bi2]
    by_cases q1 : i = 6 ∨ i = 7 ∨ i = 16
    · rw [if_pos q1]
    · rw [if_neg q1]
      by_cases q2 : i = 3 ∨ i = 4 ∨ i = 5
      · rw [if_pos q2]
      · rw [if_neg q2, if_pos (by omega)]
  have A2 : gi h3 a 16 = gi h b 16 := by rw [g3, bi2]; rfl
  have oi : ∀ c j, c ≠ a → gi h3 c j = gi h c j := fun c j hc => (f13.2.2.2.2 c hc j).1
  have ol : ∀ c j, gl h3 c j = gl h c j := fun c j => by rw [l3, l2, l1]
  have Fa := F.fr f13
  have Fb := H.1.fr f13
  refine V_X4_copyFrom_72 C ⟨Fa, Fb, ?_⟩
  refine (?_ : ∀ h4 : Hp, FrO (inH a) h3 h4 → (∀ i, gi h4 a i = gi h3 a i) → (∀ j, j < 2 → gl h4 (a + 1) j = gl h3 (b + 1) j ∧ gl h4 (a + 2) j = gl h3 (b + 2) j) → (∀ k, k < 18 → gi h4 (a + 4) k = gi h3 (b + 4) k ∧ gi h4 (a + 5) k = gi h3 (b + 5) k) → (∀ k, k < 12 → gi h4 (a + 6) k = gi h3 (b + 6) k) → (∀ c j, c = b + 7 ∨ c = b + 8 → gl h4 c j = gl h3 c j) → Wj X 0 0 _ 139 [(0, .ref a), (1, .ref b)] [] h4) _ ?_ ?_ ?_ ?_ ?_ ?_
  · intro h4 f4 i4 p4 q4 r4 s4
    have f04 : FrO (inH a) h h4 := (f13.mono sub).tr f4
    refine V_X4_copyFrom_139 C ⟨H.1.fr f04, F.fr f04, rfl, ?_, (f04.slA ⟨by omega, by omega⟩).slA ⟨by omega, by omega⟩⟩
    refine H.copied V (F.fr ((f04.slA (a := a + 7) ⟨by omega, by omega⟩).slA (a := a + 8) ⟨by omega, by omega⟩)) (fun i hi => ?_) ?_ (fun j hj => ⟨?_, ?_⟩) (fun k hk => ⟨?_, ?_⟩) (fun k hk => ?_) (fun k hk => ⟨?_, ?_⟩)
    · rw [gi_slA, gi_slA, i4, A1 i hi]
    · rw [gi_slA, gi_slA, i4, A2]
    · rw [gl_slA, if_neg (by omega), gl_slA, if_neg (by omega), (p4 j hj).1, ol]
    · rw [gl_slA, if_neg (by omega), gl_slA, if_neg (by omega), (p4 j hj).2, ol]
    · rw [gi_slA, gi_slA, (q4 k hk).1, oi _ _ (by omega)]
    · rw [gi_slA, gi_slA, (q4 k hk).2, oi _ _ (by omega)]
    · rw [gi_slA, gi_slA, r4 k hk, oi _ _ (by omega)]
    · rw [gl_slA, if_neg (by omega), gl_slA, if_pos rfl, ix_0, ix_60, cpy_lt hk, s4 _ _ (Or.inl rfl), ol]
    · rw [gl_slA, if_pos rfl, ix_0, ix_60, cpy_lt hk, gl_slA, if_neg (by omega), s4 _ _ (Or.inr rfl), ol]
  · exact ((((FrO.rf.fcp ⟨by omega, by omega⟩).fcp ⟨by omega, by omega⟩).siA ⟨by omega, by omega⟩).siA ⟨by omega, by omega⟩).siA ⟨by omega, by omega⟩
  · intro i
    rw [gi_siA, if_neg (by omega), gi_siA, if_neg (by omega), gi_siA, if_neg (by omega), gi_fcp, gi_fcp]
  · intro j hj
    rw [gl_siA, gl_siA, gl_siA, gl_siA, gl_siA, gl_siA, gl_fcpN _ _ _ _ _ (by omega), gl_fcp0 _ _ _ _ hj, gl_fcp0 _ _ _ _ hj, gl_fcpN _ _ _ _ _ (by omega)]
    exact ⟨rfl, rfl⟩
  · intro k hk
    constructor
    · rw [gi_siA, if_neg (by omega), gi_siA, if_neg (by omega), gi_siA, if_pos rfl, ix_0, ix_18, cpy_lt hk]
    · rw [gi_siA, if_neg (by omega), gi_siA, if_pos rfl, ix_0, ix_18, cpy_lt hk, gi_siA, if_neg (by omega)]
  · intro k hk
    rw [gi_siA, if_pos rfl, ix_0, ix_12, cpy_lt hk, gi_siA, if_neg (by omega), gi_siA, if_neg (by omega)]
  · intro c j hc
    rw [gl_siA, gl_siA, gl_siA, gl_fcpN _ _ _ _ _ (by omega), gl_fcpN _ _ _ _ _ (by omega)])
end Copy
/-- the machine as at first -/
def firstV (A : HV) : HV := wipeV (takeOutP (uv A 0 5 0)).2
section Few
variable {l : Launch} {D : Dt} {h : Hp} {a : Nat} {A : HV}
theorem sp_choose (H : HdR h a A) {k : Int32} : S_X4_choose l D 0 0 [.ref a, .int k] h (QI fun x h' => x.toInt = (chooseP A k.toInt).1 ∧ HdR h' a (chooseP A k.toInt).2 ∧ FrO (inH a) h h') := Sp.of rfl (Nat.le_of_ble_eq_true rfl) (fun X C _ _ _ _ => V_X4_choose_0 C (by
  have h3 := H.2.1 3 (by omega)
  have h5 := H.2.1 5 (by omega)
  unfold chooseP
  refine ⟨H.1, fun h1 => ⟨fun h2 => ⟨_, rfl, ?_⟩, fun h2 => ⟨_, rfl, ?_⟩⟩, fun h1 => ⟨_, rfl, ?_⟩⟩
  all_goals rw [hIs_0, h3] at h1
  all_goals try rw [i32_eq, h5] at h2
  · rw [if_pos (by omega), if_neg h2]
    exact ⟨h5, H.seti (i := 5) (by omega) (by omega) (by omega) (by omega), FrO.rf.si ⟨by omega, by omega⟩⟩
  · rw [if_pos (by omega), if_pos h2]
    exact ⟨rfl, H, FrO.rf⟩
  · rw [if_neg h1]
    exact ⟨rfl, H, FrO.rf⟩))
theorem takeOutP_7 (A : HV) : (takeOutP A).2 0 7 = A 0 7 := by
  unfold takeOutP takeOutV
  split <;> simp [uv_eq]
theorem sp_atFirst (H : HdR h a A) (hm : 0 ≤ A 0 7) : S_X4_atFirst l D 0 0 [.ref a] h (QV fun h' => HdR h' a (firstV A) ∧ FrO (inH a) h h') := Sp.of rfl (Nat.le_of_ble_eq_true rfl) (fun X C _ _ _ _ => V_X4_atFirst_0 C (by
  have ia : inH a a := ⟨by omega, by omega⟩
  have H1 := H.seti (i := 5) (v := 0) (by omega) (by omega) (by omega) (by omega)
  refine ⟨H.1, (sp_takeOut H1).mono (fun v h2 hp => ?_)⟩
  obtain ⟨x, rfl, -, H2, f2⟩ := hp
  refine ⟨x, rfl, H2.1, (sp_wipeAll H2 (by rw [takeOutP_7]; exact hm)).mono (fun v h3 hp => ?_)⟩
  obtain ⟨y, rfl, -, H3, f3⟩ := hp
  exact ⟨y, rfl, rfl, H3, ((FrO.rf.si ia).tr f2).tr f3⟩))
def setToP (A : HV) (w v : Int) : Int × HV := if (w = 0 ∧ 1 ≤ v ∧ v ≤ 120) ∨ (w = 1 ∧ 10 ≤ v ∧ v ≤ 100) then (if v = A 0 w.toNat then (-2, A) else (A 0 w.toNat, firstV (uv A 0 w.toNat v))) else (-1, A)
theorem i120_t : (120 : Int32).toInt = 120 := rfl
theorem i10_t : (10 : Int32).toInt = 10 := rfl
theorem i100_t : (100 : Int32).toInt = 100 := rfl
theorem sp_setTo (H : HdR h a A) (hm : 0 ≤ A 0 7) {w v : Int32} : S_X4_setTo l D 0 0 [.ref a, .int w, .int v] h (QI fun x h' => x.toInt = (setToP A w.toInt v.toInt).1 ∧ HdR h' a (setToP A w.toInt v.toInt).2 ∧ FrO (inH a) h h') := Sp.of rfl (Nat.le_of_ble_eq_true rfl) (fun X C _ _ _ _ => by
  have h0 := H.2.1 0 (by omega)
  have h1 := H.2.1 1 (by omega)
  have ia : inH a a := ⟨by omega, by omega⟩
  have p35 : ∀ s0 : Int32, (s0 = 0 ↔ ¬ ((w.toInt = 0 ∧ 1 ≤ v.toInt ∧ v.toInt ≤ 120) ∨ (w.toInt = 1 ∧ 10 ≤ v.toInt ∧ v.toInt ≤ 100))) → Wj X 0 0 (QI fun x h' => x.toInt = (setToP A w.toInt v.toInt).1 ∧ HdR h' a (setToP A w.toInt v.toInt).2 ∧ FrO (inH a) h h') 35 [(0, .ref a), (1, .int w), (2, .int v)] [.int s0] h := by
    intro s0 hs
    have fin : ∀ (i : Nat) (x : Int32), i < 2 → w.toInt.toNat = i → ((w.toInt = 0 ∧ 1 ≤ v.toInt ∧ v.toInt ≤ 120) ∨ (w.toInt = 1 ∧ 10 ≤ v.toInt ∧ v.toInt ≤ 100)) → x.toInt = A 0 i → ¬ v.toInt = A 0 i → Wj X 0 0 (QI fun x h' => x.toInt = (setToP A w.toInt v.toInt).1 ∧ HdR h' a (setToP A w.toInt v.toInt).2 ∧ FrO (inH a) h h') 85 [(0, .ref a), (4, .int x)] [] (si h a i v) := by
      intro i x hi hw hok hx hne
      have H1 := H.seti (i := i) (v := v) (by omega) (by omega) (by omega) (by omega)
      have e7 : uv A 0 i v.toInt 0 7 = A 0 7 := by rw [uv_eq, if_neg (fun q => by have := q.2; omega)]
      refine V_X4_setTo_85 C ⟨H.1, (sp_atFirst H1 (by rw [e7]; exact hm)).mono (fun z h2 hp => ?_)⟩
      obtain ⟨rfl, H2, f2⟩ := hp
      refine ⟨rfl, x, rfl, ?_⟩
      unfold setToP
      rw [if_pos hok, hw, if_neg hne]
      exact ⟨hx, H2, (FrO.rf.si ia).tr f2⟩
    have same : ∀ (i : Nat), w.toInt.toNat = i → ((w.toInt = 0 ∧ 1 ≤ v.toInt ∧ v.toInt ≤ 120) ∨ (w.toInt = 1 ∧ 10 ≤ v.toInt ∧ v.toInt ≤ 100)) → v.toInt = A 0 i → (QI fun x h' => x.toInt = (setToP A w.toInt v.toInt).1 ∧ HdR h' a (setToP A w.toInt v.toInt).2 ∧ FrO (inH a) h h') (some (.int (-2))) h := by
      intro i hw hok he
      refine ⟨_, rfl, ?_⟩
      unfold setToP
      rw [if_pos hok, hw, if_pos he]
      exact ⟨rfl, H, FrO.rf⟩
    refine V_X4_setTo_35 C ⟨fun q => ⟨fun q1 => ⟨H.1, V_X4_setTo_57 C ⟨fun q2 => ⟨fun q3 => ⟨H.1, ?_⟩, fun q3 => absurd q3 q1⟩, fun q2 => ?_⟩⟩, fun q1 => ⟨H.1, V_X4_setTo_57 C ⟨fun q2 => ⟨fun q3 => absurd q1 q3, fun q3 => ⟨H.1, ?_⟩⟩, fun q2 => ?_⟩⟩⟩, fun q => ?_⟩
    · have hok := Decidable.not_not.mp (fun z => q (hs.mpr z))
      rw [i32_eq, i0_t] at q1
      rw [i32_eq, h1] at q2
      exact fin 1 _ (by omega) (by omega) hok h1 q2
    · have hok := Decidable.not_not.mp (fun z => q (hs.mpr z))
      rw [i32_eq, i0_t] at q1
      rw [i32_eq, h1] at q2
      exact same 1 (by omega) hok q2
    · have hok := Decidable.not_not.mp (fun z => q (hs.mpr z))
      rw [i32_eq, i0_t] at q1
      rw [i32_eq, h0] at q2
      exact fin 0 _ (by omega) (by omega) hok h0 q2
    · have hok := Decidable.not_not.mp (fun z => q (hs.mpr z))
      rw [i32_eq, i0_t] at q1
      rw [i32_eq, h0] at q2
      exact same 0 (by omega) hok q2
    · refine ⟨_, rfl, ?_⟩
      unfold setToP
      rw [if_neg (hs.mp q)]
      exact ⟨rfl, H, FrO.rf⟩
  have p14 : ¬ (w.toInt = 0 ∧ 1 ≤ v.toInt ∧ v.toInt ≤ 120) → Wj X 0 0 (QI fun x h' => x.toInt = (setToP A w.toInt v.toInt).1 ∧ HdR h' a (setToP A w.toInt v.toInt).2 ∧ FrO (inH a) h h') 14 [(0, .ref a), (1, .int w), (2, .int v)] [] h := by
    intro hn
    refine V_X4_setTo_14 C ⟨fun q => p35 0 ?_, fun q => ⟨fun q1 => p35 0 ?_, fun q1 => p35 1 ?_⟩⟩
    all_goals rw [i32_eq, i1_t] at q
    all_goals try rw [bt_0, i10_t, i100_t] at q1
    · exact ⟨fun _ => by omega, fun _ => rfl⟩
    · exact ⟨fun _ => by omega, fun _ => rfl⟩
    · exact ⟨fun z => absurd z p1_ne, fun z => by omega⟩
  refine V_X4_setTo_0 C ⟨fun q => p14 ?_, fun q => ⟨fun q1 => p35 1 ?_, fun q1 => p14 ?_⟩⟩
  all_goals rw [i32_eq, i0_t] at q
  all_goals try rw [bt_0, i1_t, i120_t] at q1
  · omega
  · exact ⟨fun z => absurd z p1_ne, fun z => by omega⟩
  · omega)
end Few
