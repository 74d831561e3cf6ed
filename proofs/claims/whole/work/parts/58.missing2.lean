-- missing(), class and reference
section MissC
variable {X : Ctx} {l : Launch} {D : Dt} {h : Hp} {x m : Nat} {s : Sv} {Q : Pq}
theorem i400_t : (400 : Int32).toInt = 400 := rfl
theorem cms_loop (C : C_X9_missing X) (S : CSt h x m s) {n : Int32} (n0 : 1 ≤ n.toInt) (n4 : n.toInt ≤ 400) (hend : ∀ v2 v3 v4 : Int32, v4.toInt = sA s 0 7 → v2.toInt = (msM (sA s) n.toInt (sA s 0 7).toNat : Nat) → v3.toInt = (msO (sA s) n.toInt (sA s 0 7).toNat : Nat) → Wj X 0 0 Q 20 [(0, .ref x), (1, .int n), (2, .int v2), (3, .int v3), (4, .int v4)] [] h) (d : Nat) : ∀ v2 v3 v4 : Int32, 0 ≤ v4.toInt → v4.toInt + d = sA s 0 7 → v2.toInt = (msM (sA s) n.toInt (ix v4) : Nat) → v3.toInt = (msO (sA s) n.toInt (ix v4) : Nat) → Wj X 0 0 Q 20 [(0, .ref x), (1, .int n), (2, .int v2), (3, .int v3), (4, .int v4)] [] h := by
  obtain ⟨a, ea, Ha, ba⟩ := S.now
  obtain ⟨n12, g12⟩ := nn_of ea
  have V := S.2.2.2.2.1.1
  have vm := V.marks
  have h7 := Ha.2.1 7 (by omega)
  induction d with
  | zero =>
    intro v2 v3 v4 h0 hd e2 e3
    have e : ix v4 = (sA s 0 7).toNat := by unfold ix; omega
    rw [e] at e2 e3
    exact hend v2 v3 v4 (by omega) e2 e3
  | succ d ih =>
    intro v2 v3 v4 h0 hd e2 e3
    obtain ⟨x1, x2⟩ := ix_succ h0 (by omega)
    have hk := ix_t h0
    have ml := msM_le (sA s) n.toInt (ix v4)
    have ol := msO_le (sA s) n.toInt (ix v4)
    obtain ⟨m1, m2⟩ := hMu_t Ha V (k := v4) h0 (by omega)
    have mk := V.mk (k := ix v4) (by omega)
    have er : ((n.toInt64) % hMl h a v4).toInt = n.toInt % sA s 5 (ix v4) := by rw [lrem_p (by rw [i2l_t]; omega), i2l_t, m2]
    have ed : ((n.toInt64) / hMl h a v4).toInt = n.toInt / sA s 5 (ix v4) := by rw [ldiv_p (by rw [i2l_t]; omega) (by rw [m2]; omega), i2l_t, m2]
    have eM : msM (sA s) n.toInt (ix v4 + 1) = msM (sA s) n.toInt (ix v4) + if cdM (sA s) n.toInt (ix v4) then 1 else 0 := rfl
    have eO : msO (sA s) n.toInt (ix v4 + 1) = msO (sA s) n.toInt (ix v4) + if cdM (sA s) n.toInt (ix v4) ∧ kjM (sA s) n.toInt (ix v4) = msO (sA s) n.toInt (ix v4) then 1 else 0 := rfl
    refine V_X9_missing_20 C ⟨S.1, n12, ?_⟩
    rw [g12]
    refine ⟨Ha.1, fun q => ?_, fun _ => ⟨fun q => ?_, fun _ => ⟨by rw [i64_eq, m2, l0_t]; omega, fun q => ?_, fun q => ?_⟩⟩⟩
    · rw [i32_le, h7] at q; omega
    · rw [i64_le, m2, l0_t] at q; omega
    · rw [i64_eq, er, l0_t] at q
      refine ih _ _ _ (by omega) (by omega) ?_ ?_
      · rw [x1, eM, if_neg q]; exact e2
      · rw [x1, eO, if_neg (fun z => q z.1)]; exact e3
    · rw [i64_eq, er, l0_t] at q
      obtain ⟨b1, b2, b3⟩ := kj_b V (n := n.toInt) (by omega) (j := ix v4) (by omega) q
      have ek : (hMu h a v4 * ((n.toInt64) / hMl h a v4)).toInt = kjM (sA s) n.toInt (ix v4) := by
        have : kjM (sA s) n.toInt (ix v4) = sA s 4 (ix v4) * (n.toInt / sA s 5 (ix v4)) := rfl
        rw [lmul_t] <;> rw [m1, ed] <;> omega
      have a2 : (v2 + Int32.ofInt 1).toInt = ((msM (sA s) n.toInt (ix v4) + 1 : Nat) : Int) := by rw [iadd_t] <;> rw [ii_1, e2] <;> omega
      refine ⟨fun q2 => ih _ _ _ (by omega) (by omega) ?_ ?_, fun q2 => ih _ _ _ (by omega) (by omega) ?_ ?_⟩
      · rw [x1, eM, if_pos q]; exact a2
      · rw [i64_eq, ek, i2l_t, e3] at q2
        rw [x1, eO, if_neg (fun z => q2 z.2), iadd_t] <;> rw [i0_t, e3] <;> omega
      · rw [x1, eM, if_pos q]; exact a2
      · rw [i64_eq, ek, i2l_t, e3] at q2
        rw [x1, eO, if_pos ⟨q, q2⟩, iadd_t] <;> rw [i1_t, e3] <;> omega
theorem ca_missing (S : CSt h x m s) {n : Int32} : S_X9_missing l D 0 0 [.ref x, .int n] h (QI fun y h' => y.toInt = (missingP s n.toInt).1 ∧ CSt h' x m (missingP s n.toInt).2 ∧ FrX (inC x m) h h') := Sp.of rfl (Nat.le_of_ble_eq_true rfl) (fun X C _ _ _ _ => V_X9_missing_0 C (by
  obtain ⟨a, ea, Ha, ba⟩ := S.now
  obtain ⟨n12, g12⟩ := nn_of ea
  have V := S.2.2.2.2.1.1
  have vm := V.marks
  have h7 := Ha.2.1 7 (by omega)
  unfold missingP
  refine ⟨fun q => ?_, fun q => ⟨_, rfl, ?_⟩⟩
  all_goals rw [bt_0, i1_t, i400_t] at q
  · have hq : 1 ≤ n.toInt ∧ n.toInt ≤ 400 := by omega
    rw [if_pos hq]
    refine cms_loop C S hq.1 hq.2 (fun v2 v3 v4 e4 e2 e3 => ?_) (sA s 0 7).toNat 0 0 0 (by rw [i0_t]; omega) (by rw [i0_t]; omega) (by rw [ix_0]; rfl) (by rw [ix_0]; rfl)
    have ml := msM_le (sA s) n.toInt (sA s 0 7).toNat
    have ft : FrW (dI (x + 3)) (dL (x + 3)) h (tcl h (x + 3)) := FrW.rf.tcl
    have sub : (n - v2).toInt = n.toInt - (msM (sA s) n.toInt (sA s 0 7).toNat : Nat) := by rw [isub_t] <;> rw [e2] <;> omega
    -- the end
    have p119 : ∀ (h4 : Hp) (L : List Int), FrW (dI (x + 3)) (dL (x + 3)) h h4 → TdC h4 (x + 3) L → L.length < 5 → L ++ [sA s 0 7 - (msM (sA s) n.toInt (sA s 0 7).toNat : Int)] = msRow (sA s) n.toInt → Wj X 0 0 (QI fun y h' => y.toInt = n.toInt - (msM (sA s) n.toInt (sA s 0 7).toNat : Int) ∧ CSt h' x m (rowS s (msRow (sA s) n.toInt)) ∧ FrX (inC x m) h h') 119 [(0, .ref x), (1, .int n), (2, .int v2)] [] h4 := by
      intro h4 L f4 t4 hl hL
      obtain ⟨S4, p4, x4⟩ := S.row f4 t4
      have H4 : HdR h4 a (sA s) := Ha.wf f4 (fun b j hb q => by have := q.1; unfold inH at hb; omega) (fun b j hb (q : b = x + 3 + 1) => by unfold inH at hb; omega)
      have e4' : gr h4 x 12 = some a := by rw [f4.2.2.2.1]; exact ea
      obtain ⟨n4, g4⟩ := nn_of e4'
      have es : (gi h4 a 7 - v2).toInt = sA s 0 7 - (msM (sA s) n.toInt (sA s 0 7).toNat : Int) := by rw [isub_t] <;> rw [H4.2.1 7 (by omega), e2] <;> omega
      refine V_X9_missing_119 C ⟨S4.1, n4, ?_⟩
      rw [g4]
      refine ⟨H4.1, (cl_add (St9_s1 S4.1) t4 (by omega) (z := sA s 0 7 - (msM (sA s) n.toInt (sA s 0 7).toNat : Int)) (by rw [i2l_t]; exact es)).mono (fun w h8 hp => ?_)⟩
      obtain ⟨rfl, t8, f8⟩ := hp
      rw [hL] at t8
      obtain ⟨S8, p8, x8⟩ := S.row (f4.tr f8) t8
      exact ⟨rfl, _, rfl, sub, S8, x8⟩
    refine V_X9_missing_20 C ⟨S.1, n12, ?_⟩
    rw [g12]
    refine ⟨Ha.1, fun _ => ⟨fun q2 => p119 _ [] ft TdC.clr (by decide) ?_, fun q2 => (cl_add (h := tcl h (x + 3)) (L := []) (St9_s1 S.1) TdC.clr (by decide) (z := (msO (sA s) n.toInt (sA s 0 7).toNat : Int)) (by rw [i2l_t]; exact e3)).mono (fun w h4 hp => ?_)⟩, fun q2 => ?_⟩
    · rw [i32_le, e2] at q2
      unfold msRow
      rw [if_neg (by omega)]
    · obtain ⟨rfl, t4, f4⟩ := hp
      rw [i32_le, e2] at q2
      refine ⟨rfl, p119 h4 _ (ft.tr f4) t4 (by simp) ?_⟩
      unfold msRow
      rw [if_pos (by omega)]; rfl
    · rw [i32_le, h7] at q2; omega
  · rw [if_neg (by omega)]; exact ⟨rfl, S, FrX.rf⟩))
end MissC
theorem ix_pred' {i : Int32} (h : 0 ≤ i.toInt) : True ∧ (i + Int32.ofInt (-1)).toInt = i.toInt - 1 := by
  have b := b32 i
  exact ⟨trivial, by rw [iadd_t] <;> rw [ii_m1] <;> omega⟩
section MissM
variable {X : Ctx} {l : Launch} {D : Dt} {h : Hp} {m : Nat} {A : HV} {Q : Pq}
theorem mms_loop (C : C_X10_missing X) (H : MdR h m A) (V : VA A) {n : Int32} (n0 : 1 ≤ n.toInt) (n4 : n.toInt ≤ 400) (hend : ∀ v2 v3 v4 : Int32, v4.toInt = -1 → v2.toInt + (cntB (hitB A n.toInt (A 0 7).toNat) n.toInt.toNat : Nat) = n.toInt → ((v3.toInt = -1 ∧ ∀ k : Nat, (k : Int) < n.toInt → hitB A n.toInt (A 0 7).toNat k = true) ∨ (∃ k : Nat, v3.toInt = k ∧ (k : Int) < n.toInt ∧ hitB A n.toInt (A 0 7).toNat k = false ∧ ∀ i, i < k → hitB A n.toInt (A 0 7).toNat i = true)) → Wj X 0 0 Q 28 [(0, .ref m), (1, .int n), (2, .int v2), (3, .int v3), (4, .int v4)] [] h) (d : Nat) : ∀ v2 v3 v4 : Int32, v4.toInt + 1 = d → v4.toInt < n.toInt → v2.toInt + (cntB (hitB A n.toInt (A 0 7).toNat) n.toInt.toNat : Nat) = n.toInt - d + (cntB (hitB A n.toInt (A 0 7).toNat) d : Nat) → ((v3.toInt = -1 ∧ ∀ k : Nat, d ≤ k → (k : Int) < n.toInt → hitB A n.toInt (A 0 7).toNat k = true) ∨ (∃ k : Nat, v3.toInt = k ∧ d ≤ k ∧ (k : Int) < n.toInt ∧ hitB A n.toInt (A 0 7).toNat k = false ∧ ∀ i, d ≤ i → i < k → hitB A n.toInt (A 0 7).toNat i = true)) → Wj X 0 0 Q 28 [(0, .ref m), (1, .int n), (2, .int v2), (3, .int v3), (4, .int v4)] [] h := by
  have vm := V.marks
  induction d with
  | zero =>
    intro v2 v3 v4 hd hlt e2 e3
    refine hend v2 v3 v4 (by omega) ?_ ?_
    · have : cntB (hitB A n.toInt (A 0 7).toNat) 0 = 0 := rfl
      omega
    · rcases e3 with ⟨q1, q2⟩ | ⟨k, q1, q2, q3, q4, q5⟩
      · exact Or.inl ⟨q1, fun k hk => q2 k (by omega) hk⟩
      · exact Or.inr ⟨k, q1, q3, q4, fun i hi => q5 i (by omega) hi⟩
  | succ d ih =>
    intro v2 v3 v4 hd hlt e2 e3
    obtain ⟨x1, x2⟩ := ix_pred' (i := v4) (by omega)
    have k4 : v4.toInt = (d : Int) := by omega
    have cb := cntB_le (hitB A n.toInt (A 0 7).toNat) n.toInt.toNat
    have cb2 := cntB_le (hitB A n.toInt (A 0 7).toNat) d
    have cs : cntB (hitB A n.toInt (A 0 7).toNat) (d + 1) = cntB (hitB A n.toInt (A 0 7).toNat) d + if hitB A n.toInt (A 0 7).toNat d = true then 1 else 0 := rfl
    have p1 : 0 < (n.toInt64).toInt := by rw [i2l_t]; omega
    obtain ⟨f1, f2⟩ := fr_x (u := v4.toInt64) (w := n.toInt64) p1
    rw [i2l_t, i2l_t, k4] at f1 f2
    have cz := cm_tp (u := v4.toInt64) p1
    refine V_X10_missing_28 C ⟨fun q => ?_, fun _ => ⟨by rw [i2l_t]; omega, p1, by rw [i64_eq, l0_t]; omega, H.1, (ma_markAt H V).mono (fun w h2 hp => ?_)⟩⟩
    · rw [i32_lt, i0_t] at q; omega
    obtain ⟨y, rfl, e, hy⟩ := hp
    subst h2
    rw [f1, f2] at hy
    have key : 0 ≤ y.toInt ↔ hitB A n.toInt (A 0 7).toNat d = true := by
      rw [hitB_iff]
      constructor
      · intro q
        rcases hy with ⟨z, -⟩ | ⟨j, j1, j2, j3, j4⟩
        · omega
        · have := (mk_is V (n := n.toInt) (by omega) j2 (k := d)).mp ⟨j3, j4⟩
          exact ⟨j, by omega, this⟩
      · rintro ⟨j, j1, j2⟩
        rcases hy with ⟨-, z⟩ | ⟨k, k1, -⟩
        · exact absurd ((mk_is V (n := n.toInt) (by omega) (j := j) (by omega) (k := d)).mpr j2) (z j (by omega))
        · omega
    refine ⟨y, rfl, fun q => ih _ _ _ (by omega) (by omega) ?_ ?_, fun q => ih _ _ _ (by omega) (by omega) ?_ ?_⟩
    all_goals rw [i32_le, i0_t] at q
    · rw [cs, if_pos (key.mp q)] at e2; omega
    · have hd' := key.mp q
      rcases e3 with ⟨q1, q2⟩ | ⟨k, q1, q2, q3, q4, q5⟩
      · exact Or.inl ⟨q1, fun k hk hk2 => by
          by_cases e : k = d
          · rw [e]; exact hd'
          · exact q2 k (by omega) hk2⟩
      · exact Or.inr ⟨k, q1, by omega, q3, q4, fun i hi hi2 => by
          by_cases e : i = d
          · rw [e]; exact hd'
          · exact q5 i (by omega) hi2⟩
    · have hd' : ¬ hitB A n.toInt (A 0 7).toNat d = true := fun z => q (key.mpr z)
      rw [cs, if_neg hd'] at e2
      rw [iadd_t] <;> rw [ii_1] <;> omega
    · have hd' : ¬ hitB A n.toInt (A 0 7).toNat d = true := fun z => q (key.mpr z)
      exact Or.inr ⟨d, k4, Nat.le_refl _, by omega, Bool.eq_false_iff.mpr hd', fun i hi hi2 => by omega⟩
theorem ma_missing {s : Sv} (S : MSt h m s) {n : Int32} : S_X10_missing l D 0 0 [.ref m, .int n] h (QI fun y h' => y.toInt = (missingP s n.toInt).1 ∧ MSt h' m (missingP s n.toInt).2 ∧ FrO (inM m) h h') := Sp.of rfl (Nat.le_of_ble_eq_true rfl) (fun X C _ _ _ _ => V_X10_missing_0 C (by
  obtain ⟨S1, f1⟩ := S.t0
  have V := S.1.va
  have vm := V.marks
  unfold missingP
  refine ⟨S.1.1, fun q => ?_, fun q => ⟨_, rfl, ?_⟩⟩
  all_goals rw [btL_0, i2l_t, l1_t, l400_t] at q
  · have hq : 1 ≤ n.toInt ∧ n.toInt ≤ 400 := by omega
    rw [if_pos hq]
    have en : (n - 1).toInt = n.toInt - 1 := by rw [isub_t] <;> rw [i1_t] <;> omega
    have mc := ms_cnt V (n := n.toInt) (by omega) (sA s 0 7).toNat (by omega)
    obtain ⟨mx1, mx2⟩ := ms_mex V (n := n.toInt) (by omega) (sA s 0 7).toNat (by omega)
    have cl := cntB_le (hitB (sA s) n.toInt (sA s 0 7).toNat) n.toInt.toNat
    refine mms_loop C S1.1.md V (n := n) hq.1 hq.2 (fun v2 v3 v4 e4 e2 e3 => ?_) n.toInt.toNat 0 (-1) (n - 1) (by omega) (by omega) (by rw [i0_t]; omega) (Or.inl ⟨rfl, fun k h1 h2 => by omega⟩)
    rw [mc] at e2 cl
    -- the end
    have p88 : ∀ (h4 : Hp) (L : List Int), FrW (rI m) (rL m) (si h m 0 0) h4 → RwM h4 m L → L.length < 5 → L ++ [sA s 0 7 - (msM (sA s) n.toInt (sA s 0 7).toNat : Int)] = msRow (sA s) n.toInt → Wj X 0 0 (QI fun y h' => y.toInt = n.toInt - (msM (sA s) n.toInt (sA s 0 7).toNat : Int) ∧ MSt h' m (rowS s (msRow (sA s) n.toInt)) ∧ FrO (inM m) h h') 88 [(0, .ref m), (1, .int n), (2, .int v2)] [] h4 := by
      intro h4 L f4 w4 hl hL
      have H4 : MdR h4 m (sA s) := S1.1.md.fr V f4 (fun j _ q => by have := q.1; omega) (fun j _ (q : m + 4 = m + 1) => by omega)
      have es1 : (n - v2).toInt = (msM (sA s) n.toInt (sA s 0 7).toNat : Nat) := by rw [isub_t] <;> omega
      have es : (gi h4 (m + 3) (ix 60) - (n - v2)).toInt = sA s 0 7 - (msM (sA s) n.toInt (sA s 0 7).toNat : Int) := by
        have := msM_le (sA s) n.toInt (sA s 0 7).toNat
        rw [ix_60, isub_t] <;> rw [H4.marks, es1] <;> omega
      refine V_X10_missing_88 C ⟨H4.1, (ma_enters H4.1 w4 (by omega) (z := sA s 0 7 - (msM (sA s) n.toInt (sA s 0 7).toNat : Int)) (by rw [i2l_t]; exact es)).mono (fun w h8 hp => ?_)⟩
      obtain ⟨rfl, w8, f8⟩ := hp
      rw [hL] at w8
      obtain ⟨S8, g8⟩ := S1.row (f4.tr f8) w8
      exact ⟨rfl, _, rfl, by omega, S8, f1.tr g8⟩
    have ft : FrW (rI m) (rL m) (si h m 0 0) (si (si h m 0 0) m 1 0) := FrW.rf.si ⟨rfl, rfl⟩
    refine V_X10_missing_28 C ⟨fun _ => ⟨S1.1.1, fun q2 => p88 _ [] ft (RwM.clr 0 rfl) (by decide) ?_, fun q2 => (ma_enters (h := si (si h m 0 0) m 1 0) (L := []) S1.1.1 (RwM.clr 0 rfl) (by decide) (z := (msO (sA s) n.toInt (sA s 0 7).toNat : Int)) ?_).mono (fun w h4 hp => ?_)⟩, fun q2 => ?_⟩
    · rw [i32_lt, i0_t] at q2
      rcases e3 with ⟨-, z⟩ | ⟨k, z, -⟩
      · have := cntB_full (f := hitB (sA s) n.toInt (sA s 0 7).toNat) (n := n.toInt.toNat) (fun k hk => z k (by omega))
        unfold msRow
        rw [if_neg (by omega)]
      · omega
    · rw [i32_lt, i0_t] at q2
      rcases e3 with ⟨z, -⟩ | ⟨k, z, k1, k2, k3⟩
      · omega
      · rw [i2l_t, z]
        rcases Nat.lt_trichotomy k (msO (sA s) n.toInt (sA s 0 7).toNat) with c | c | c
        · rw [mx1 k c] at k2; cases k2
        · rw [c]
        · rw [k3 _ c] at mx2; cases mx2
    · rw [i32_lt, i0_t] at q2
      obtain ⟨rfl, w4, f4⟩ := hp
      refine ⟨rfl, p88 h4 _ (ft.tr f4) w4 (by simp) ?_⟩
      have hlt : (msM (sA s) n.toInt (sA s 0 7).toNat : Int) < n.toInt := by
        rcases e3 with ⟨z, -⟩ | ⟨k, z, k1, k2, k3⟩
        · omega
        · rcases Nat.lt_or_ge (msM (sA s) n.toInt (sA s 0 7).toNat) n.toInt.toNat with c | c
          · omega
          · have := cntB_all (f := hitB (sA s) n.toInt (sA s 0 7).toNat) (n := n.toInt.toNat) (by omega) k (by omega)
            rw [k2] at this; cases this
      unfold msRow
      rw [if_pos hlt]; rfl
    · rw [i32_lt, i0_t] at q2; omega
  · rw [if_neg (by omega)]; exact ⟨rfl, S1, f1⟩))
end MissM
