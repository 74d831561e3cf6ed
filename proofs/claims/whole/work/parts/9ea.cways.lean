-- ways() and hard() of the class
theorem or_0 {v : Int32} (h0 : 0 ≤ v.toInt) (h7 : v.toInt ≤ 3) : v ||| 0 = v ∧ (v ||| (1 <<< ((2 : Int32) &&& 31))).toInt = v.toInt + 4 := by
  have c : v = 0 ∨ v = 1 ∨ v = 2 ∨ v = 3 := by
    simp only [i32_eq]
    have e0 : (0 : Int32).toInt = 0 := rfl
    have e1 : (1 : Int32).toInt = 1 := rfl
    have e2 : (2 : Int32).toInt = 2 := rfl
    have e3 : (3 : Int32).toInt = 3 := rfl
    rw [e0, e1, e2, e3]; omega
  clear h0 h7
  rcases c with c | c | c | c <;> subst c <;> decide +kernel
theorem or_1 {v : Int32} (h0 : 0 ≤ v.toInt) (h7 : v.toInt ≤ 1) : (v ||| (1 <<< ((1 : Int32) &&& 31))).toInt = v.toInt + 2 := by
  have c : v = 0 ∨ v = 1 := by
    simp only [i32_eq]
    have e0 : (0 : Int32).toInt = 0 := rfl
    have e1 : (1 : Int32).toInt = 1 := rfl
    rw [e0, e1]; omega
  clear h0 h7
  rcases c with c | c <;> subst c <;> decide +kernel
section Wyc
variable {X : Ctx} {l : Launch} {D : Dt} {h : Hp} {x m : Nat} {Q : Pq} {A : HV} {s : Sv}
theorem ca_ways (S : CSt h x m s) {n : Int32} : S_X9_ways l D (shC h x) (shM h x) [.ref x, .int n] h (QI fun y h' => y.toInt = (waysP s n.toInt).1 ∧ CSt h' x m (waysP s n.toInt).2 ∧ FrX (inC x m) h h') := Sp.of rfl (Nat.le_of_ble_eq_true rfl) (fun X C _ _ hmc hms => V_X9_ways_0 C (by
  have e2 : (2 : Int32).toInt = 2 := rfl
  have e3 : (3 : Int32).toInt = 3 := rfl
  have e400 : (400 : Int32).toInt = 400 := rfl
  unfold waysP
  refine ⟨fun q => ?_, fun q => ⟨_, rfl, ?_⟩⟩
  all_goals rw [bt_0, e2, e400] at q
  · have hq : 2 ≤ n.toInt ∧ n.toInt ≤ 400 := by omega
    rw [if_pos hq]
    have w0 := hw_01 (A := sA s) (n := n.toInt) (k := 0)
    have w1 := hw_01 (A := sA s) (n := n.toInt) (k := 1)
    have w2 := hw_01 (A := sA s) (n := n.toInt) (k := 2)
    have t1 : (0 : Int32) + Int32.ofInt 1 = 1 := rfl
    have t2 : (1 : Int32) + Int32.ofInt 1 = 2 := rfl
    have t3 : (2 : Int32) + Int32.ofInt 1 = 3 := rfl
    generalize eW0 : hw (sA s) n.toInt 0 = W0 at *
    generalize eW1 : hw (sA s) n.toInt 1 = W1 at *
    generalize eW2 : hw (sA s) n.toInt 2 = W2 at *
    have fin : ∀ (k i : Nat) (h' : Hp) (v : Int32), v.toInt = W0 + 2 * W1 + 4 * W2 → CSt h' x m s → FrX (inC x m) h h' → Wj X k i (QI fun y h' => y.toInt = W0 + 2 * W1 + 4 * W2 ∧ CSt h' x m (rowS s [W0 + W1 + W2]) ∧ FrX (inC x m) h h') 13 [(0, .ref x), (1, .int n), (2, .int v), (3, .int 3)] [] h' := by
      intro k i h' v ev S' x'
      refine V_X9_ways_13 C ⟨fun _ => ⟨S'.1, (cl_bitCount (v := v) (by omega) (by omega)).mono (fun w h2 hp => ?_)⟩, fun z => absurd (by rw [i32_le]; omega) z⟩
      obtain ⟨y, rfl, hy, e⟩ := hp
      rw [e]
      have fc : FrW (dI (x + 3)) (dL (x + 3)) h' (tcl h' (x + 3)) := FrW.rf.tcl
      have F2 : St9 (tcl h' (x + 3)) x := St9_same S'.1 fc.2.1 fc.2.2.1 fc.2.2.2.1
      refine ⟨y, rfl, St9_s1 F2, (cl_add (L := []) (St9_s1 F2) TdC.clr (by decide) (z := W0 + W1 + W2) (by rw [i2l_t, hy]; omega)).mono (fun w h5 hp => ?_)⟩
      obtain ⟨rfl, td, f5⟩ := hp
      obtain ⟨S5, p5, x5⟩ := S'.row (fc.tr f5) td
      exact ⟨rfl, v, rfl, ev, S5, x'.tr x5⟩
    have st2 : ∀ (k i : Nat) (h' : Hp) (v : Int32), v.toInt = W0 + 2 * W1 → k + shC h' x ≤ mcX X → i + shM h' x ≤ msX X → CSt h' x m s → FrX (inC x m) h h' → Wj X k i (QI fun y h' => y.toInt = W0 + 2 * W1 + 4 * W2 ∧ CSt h' x m (rowS s [W0 + W1 + W2]) ∧ FrX (inC x m) h h') 13 [(0, .ref x), (1, .int n), (2, .int v), (3, .int 2)] [] h' := by
      intro k i h' v ev hk hi S' x'
      obtain ⟨o1, o2⟩ := or_0 (v := v) (by omega) (by omega)
      refine V_X9_ways_13 C ⟨fun z => by rw [i32_le] at z; omega, fun _ => ⟨S'.1, shC h' x, shM h' x, hk, hi, (cl_hasWay2 S' hq.1 hq.2).mono (fun w h2 hp => ?_)⟩⟩
      obtain ⟨y, rfl, hy, -, S2, -, x2⟩ := hp
      rw [eW2] at hy
      rw [t3]
      refine ⟨y, rfl, fun z => ?_, fun z => ?_⟩
      all_goals rw [i32_eq, hy, i0_t] at z
      · rw [o1]; exact fin _ _ h2 v (by omega) S2 (x'.tr x2)
      · exact fin _ _ h2 _ (by rw [o2]; omega) S2 (x'.tr x2)
    have st1 : ∀ (k i : Nat) (h' : Hp) (v : Int32), v.toInt = W0 → k + shC h' x ≤ mcX X → i + shM h' x ≤ msX X → CSt h' x m s → FrX (inC x m) h h' → Wj X k i (QI fun y h' => y.toInt = W0 + 2 * W1 + 4 * W2 ∧ CSt h' x m (rowS s [W0 + W1 + W2]) ∧ FrX (inC x m) h h') 13 [(0, .ref x), (1, .int n), (2, .int v), (3, .int 1)] [] h' := by
      intro k i h' v ev hk hi S' x'
      obtain ⟨o1, -⟩ := or_0 (v := v) (by omega) (by omega)
      have o2 := or_1 (v := v) (by omega) (by omega)
      refine V_X9_ways_13 C ⟨fun z => by rw [i32_le, i1_t] at z; omega, fun _ => ⟨S'.1, 0, 0, by omega, by omega, (cl_hasWay1 S' hq.1).mono (fun w h2 hp => ?_)⟩⟩
      obtain ⟨y, rfl, hy, -, S2, -, g2, x2⟩ := hp
      obtain ⟨c2, m2⟩ := shC_same g2
      rw [eW1] at hy
      rw [t2]
      refine ⟨y, rfl, fun z => ?_, fun z => ?_⟩
      all_goals rw [i32_eq, hy, i0_t] at z
      · rw [o1]; exact st2 _ _ h2 v (by omega) (by omega) (by omega) S2 (x'.tr x2)
      · exact st2 _ _ h2 _ (by rw [o2]; omega) (by omega) (by omega) S2 (x'.tr x2)
    refine V_X9_ways_13 C ⟨fun z => by rw [i32_le, i0_t] at z; omega, fun _ => ⟨S.1, 0, 0, by omega, by omega, (cl_hasWay0 S hq.1).mono (fun w h2 hp => ?_)⟩⟩
    obtain ⟨y, rfl, hy, -, S2, -, g2, x2⟩ := hp
    obtain ⟨c2, m2⟩ := shC_same g2
    rw [eW0] at hy
    rw [t1]
    refine ⟨y, rfl, fun z => ?_, fun z => ?_⟩
    all_goals rw [i32_eq, hy, i0_t] at z
    · exact st1 _ _ h2 _ (by rw [z]; rfl) (by omega) (by omega) S2 x2
    · exact st1 _ _ h2 _ (by rw [show W0 = 1 by omega]; rfl) (by omega) (by omega) S2 x2
  · rw [if_neg (by omega)]; exact ⟨rfl, S, FrX.rf⟩))
theorem ca_hard (S : CSt h x m s) {lo hi : Int32} : S_X9_hard l D (shC h x) (shM h x) [.ref x, .int lo, .int hi] h (QI fun y h' => y.toInt = (hardP s lo.toInt hi.toInt).1 ∧ CSt h' x m (hardP s lo.toInt hi.toInt).2 ∧ FrX (inC x m) h h') := Sp.of rfl (Nat.le_of_ble_eq_true rfl) (fun X C _ _ hmc hms => V_X9_hard_0 C (by
  have e2 : (2 : Int32).toInt = 2 := rfl
  have e60 : (60 : Int32).toInt = 60 := rfl
  have e400 : (400 : Int32).toInt = 400 := rfl
  have im1 : (-1 : Int32).toInt = -1 := rfl
  have b1 := b32 lo
  have b2 := b32 hi
  unfold hardP
  refine ⟨fun q => ⟨_, rfl, ?_⟩, fun q => ⟨fun q1 => ⟨_, rfl, ?_⟩, fun q1 => ⟨fun q2 => ⟨_, rfl, ?_⟩, fun q2 => ⟨fun q3 => ?_, fun q3 => ⟨_, rfl, ?_⟩⟩⟩⟩⟩
  all_goals rw [bt_0, e2, e400] at q
  · rw [if_neg (fun z => q z.1)]; exact ⟨rfl, S, FrX.rf⟩
  all_goals rw [bt_0, e2, e400] at q1
  · rw [if_neg (fun z => q1 z.2.1)]; exact ⟨rfl, S, FrX.rf⟩
  all_goals rw [i32_lt] at q2
  · rw [if_neg (fun z => by have := z.2.2.1; omega)]; exact ⟨rfl, S, FrX.rf⟩
  all_goals
    have es : (hi - lo).toInt = hi.toInt - lo.toInt := isub_t (by omega) (by omega)
    rw [i32_lt, es, e60] at q3
  · have hc : (2 ≤ lo.toInt ∧ lo.toInt ≤ 400) ∧ (2 ≤ hi.toInt ∧ hi.toInt ≤ 400) ∧ lo.toInt ≤ hi.toInt ∧ hi.toInt - lo.toInt < 60 := by omega
    rw [if_pos hc]
    generalize eN : (hi.toInt - lo.toInt + 1).toNat = N
    have bH : ∀ c, 0 ≤ sumN (hdH (sA s)) lo.toInt c ∧ sumN (hdH (sA s)) lo.toInt c ≤ c := sumN_b (fun n => (hd_b n).1) _
    have bC : ∀ c, 0 ≤ sumN (hdC (sA s)) lo.toInt c ∧ sumN (hdC (sA s)) lo.toInt c ≤ c := sumN_b (fun n => (hd_b n).2.1) _
    have bD : ∀ c, 0 ≤ sumN (hdD (sA s)) lo.toInt c ∧ sumN (hdD (sA s)) lo.toInt c ≤ c := sumN_b (fun n => (hd_b n).2.2.1) _
    have bN : ∀ c, 0 ≤ sumN (hdN (sA s)) lo.toInt c ∧ sumN (hdN (sA s)) lo.toInt c ≤ c := sumN_b (fun n => (hd_b n).2.2.2) _
    have key : ∀ (d c k i : Nat) (h' : Hp) (v3 v4 v5 v6 v7 v8 : Int32), c + d = N → v8.toInt = lo.toInt + c → v3.toInt = hdF (sA s) lo.toInt c → v4.toInt = sumN (hdH (sA s)) lo.toInt c → v5.toInt = sumN (hdC (sA s)) lo.toInt c → v6.toInt = sumN (hdD (sA s)) lo.toInt c → v7.toInt = sumN (hdN (sA s)) lo.toInt c → k + shC h' x ≤ mcX X → i + shM h' x ≤ msX X → CSt h' x m s → FrX (inC x m) h h' → Wj X k i (QI fun y h' => y.toInt = sumN (hdH (sA s)) lo.toInt N ∧ CSt h' x m (rowS s [hdF (sA s) lo.toInt N, sumN (hdC (sA s)) lo.toInt N, sumN (hdD (sA s)) lo.toInt N, sumN (hdN (sA s)) lo.toInt N]) ∧ FrX (inC x m) h h') 46 [(0, .ref x), (2, .int hi), (3, .int v3), (4, .int v4), (5, .int v5), (6, .int v6), (7, .int v7), (8, .int v8)] [] h' := by
      intro d
      induction d with
      | zero =>
        intro c k i h' v3 v4 v5 v6 v7 v8 ec e8 e3 e4 e5 e6 e7 hk hi' S' x'
        have : c = N := by omega
        subst this
        have fc : FrW (dI (x + 3)) (dL (x + 3)) h' (tcl h' (x + 3)) := FrW.rf.tcl
        have F1 : St9 (tcl h' (x + 3)) x := St9_same S'.1 fc.2.1 fc.2.2.1 fc.2.2.2.1
        refine V_X9_hard_46 C ⟨fun _ => ⟨S'.1, (cl_add (L := []) (St9_s1 F1) TdC.clr (by decide) (z := hdF (sA s) lo.toInt c) (by rw [i2l_t, e3])).mono (fun w h2 hp => ?_)⟩, fun z => absurd (by rw [i32_lt]; omega) z⟩
        obtain ⟨rfl, t2, f2⟩ := hp
        have f2 := fc.tr f2
        have F2 : St9 h2 x := St9_same S'.1 f2.2.1 f2.2.2.1 f2.2.2.2.1
        refine ⟨rfl, F2, (cl_add (St9_s1 F2) t2 (by simp) (z := sumN (hdC (sA s)) lo.toInt c) (by rw [i2l_t, e5])).mono (fun w h4 hp => ?_)⟩
        obtain ⟨rfl, t4, f4⟩ := hp
        have f4 := f2.tr f4
        have F4 : St9 h4 x := St9_same S'.1 f4.2.1 f4.2.2.1 f4.2.2.2.1
        refine ⟨rfl, F4, (cl_add (St9_s1 F4) t4 (by simp) (z := sumN (hdD (sA s)) lo.toInt c) (by rw [i2l_t, e6])).mono (fun w h6 hp => ?_)⟩
        obtain ⟨rfl, t6, f6⟩ := hp
        have f6 := f4.tr f6
        have F6 : St9 h6 x := St9_same S'.1 f6.2.1 f6.2.2.1 f6.2.2.2.1
        refine ⟨rfl, F6, (cl_add (St9_s1 F6) t6 (by simp) (z := sumN (hdN (sA s)) lo.toInt c) (by rw [i2l_t, e7])).mono (fun w h8 hp => ?_)⟩
        obtain ⟨rfl, t8, f8⟩ := hp
        obtain ⟨S8, -, x8⟩ := S'.row (f6.tr f8) t8
        exact ⟨rfl, v4, rfl, e4, S8, x'.tr x8⟩
      | succ d ih =>
        intro c k i h' v3 v4 v5 v6 v7 v8 ec e8 e3 e4 e5 e6 e7 hk hi' S' x'
        have x8 : (v8 + Int32.ofInt 1).toInt = lo.toInt + ((c + 1 : Nat) : Int) := by rw [(ix_succ (i := v8) (by omega) (by omega)).2]; omega
        have qH := bH c
        have qC := bC c
        have qD := bD c
        have qN := bN c
        have sH : sumN (hdH (sA s)) lo.toInt (c + 1) = sumN (hdH (sA s)) lo.toInt c + hdH (sA s) v8.toInt := by rw [e8]; rfl
        have sC : sumN (hdC (sA s)) lo.toInt (c + 1) = sumN (hdC (sA s)) lo.toInt c + hdC (sA s) v8.toInt := by rw [e8]; rfl
        have sD : sumN (hdD (sA s)) lo.toInt (c + 1) = sumN (hdD (sA s)) lo.toInt c + hdD (sA s) v8.toInt := by rw [e8]; rfl
        have sN : sumN (hdN (sA s)) lo.toInt (c + 1) = sumN (hdN (sA s)) lo.toInt c + hdN (sA s) v8.toInt := by rw [e8]; rfl
        have sF : hdF (sA s) lo.toInt (c + 1) = if sumN (hdH (sA s)) lo.toInt c = 0 then (if hw (sA s) v8.toInt 0 = 0 then v8.toInt else -1) else hdF (sA s) lo.toInt c := by rw [e8]; exact hdF_s
        have w1 := hw_01 (A := sA s) (n := v8.toInt) (k := 1)
        have w2 := hw_01 (A := sA s) (n := v8.toInt) (k := 2)
        refine V_X9_hard_46 C ⟨fun z => by rw [i32_lt] at z; omega, fun _ => ⟨S'.1, 0, 0, by omega, by omega, (cl_hasWay0 S' (n := v8) (by omega)).mono (fun w h2 hp => ?_)⟩⟩
        obtain ⟨y, rfl, hy, -, S2, -, g2, x2⟩ := hp
        obtain ⟨c2, m2⟩ := shC_same g2
        refine ⟨y, rfl, fun z => ?_, fun z => ?_⟩
        all_goals rw [i32_eq, hy, i0_t] at z
        · obtain ⟨n1, n2, n3, n4⟩ := hd_no z
          refine ih (c + 1) _ _ h2 v3 v4 v5 v6 v7 _ (by omega) x8 ?_ (by omega) (by omega) (by omega) (by omega) (by omega) (by omega) S2 (x'.tr x2)
          rw [sF, e3]
          by_cases c0 : sumN (hdH (sA s)) lo.toInt c = 0
          · rw [if_pos c0, if_neg z]; exact hdF_z c0
          · rw [if_neg c0]
        · obtain ⟨n1, n2, n3, n4⟩ := hd_yes z
          have rest : ∀ (v3' : Int32), v3'.toInt = hdF (sA s) lo.toInt (c + 1) → Wj X (k + 0) (i + 0) (QI fun y h' => y.toInt = sumN (hdH (sA s)) lo.toInt N ∧ CSt h' x m (rowS s [hdF (sA s) lo.toInt N, sumN (hdC (sA s)) lo.toInt N, sumN (hdD (sA s)) lo.toInt N, sumN (hdN (sA s)) lo.toInt N]) ∧ FrX (inC x m) h h') 73 [(0, .ref x), (2, .int hi), (4, .int v4), (5, .int v5), (6, .int v6), (7, .int v7), (8, .int v8)] [.int v3'] h2 := by
            intro v3' e3'
            refine V_X9_hard_73 C ⟨S2.1, 0, 0, by omega, by omega, (cl_hasWay1 S2 (n := v8) (by omega)).mono (fun w h4 hp => ?_)⟩
            obtain ⟨y1, rfl, hy1, -, S4, -, g4, x4⟩ := hp
            obtain ⟨c4, m4⟩ := shC_same g4
            refine ⟨y1, rfl, S4.1, shC h4 x, shM h4 x, by omega, by omega, (cl_hasWay2 S4 (n := v8) (by omega) (by omega)).mono (fun w h7 hp => ?_)⟩
            obtain ⟨y2, rfl, hy2, ⟨sh, e14, -, -⟩, S7, -, x7⟩ := hp
            obtain ⟨c7, m7⟩ := shC_some e14
            have a4 := (ix_succ (i := v4) (by omega) (by omega)).2
            have kk : ∀ (a b o : Int32), a.toInt = hw (sA s) v8.toInt 1 → b.toInt = hw (sA s) v8.toInt 2 → o.toInt = hdN (sA s) v8.toInt → Wj X (k + 0 + 0 + shC h4 x) (i + 0 + 0 + shM h4 x) (QI fun y h' => y.toInt = sumN (hdH (sA s)) lo.toInt N ∧ CSt h' x m (rowS s [hdF (sA s) lo.toInt N, sumN (hdC (sA s)) lo.toInt N, sumN (hdD (sA s)) lo.toInt N, sumN (hdN (sA s)) lo.toInt N]) ∧ FrX (inC x m) h h') 46 [(0, .ref x), (2, .int hi), (3, .int v3'), (4, .int (v4 + Int32.ofInt 1)), (5, .int (v5 + a)), (6, .int (v6 + b)), (7, .int (v7 + o)), (8, .int (v8 + Int32.ofInt 1))] [] h7 := by
              intro a b o ea eb eo
              have bo := (hd_b (A := sA s) v8.toInt).2.2.2
              exact ih (c + 1) _ _ h7 v3' _ _ _ _ _ (by omega) x8 e3' (by omega) (by rw [iadd_t (by omega) (by omega)]; omega) (by rw [iadd_t (by omega) (by omega)]; omega) (by rw [iadd_t (by omega) (by omega)]; omega) (by omega) (by omega) S7 (((x'.tr x2).tr x4).tr x7)
            have k1 : ∀ (a : Int32), a.toInt = hw (sA s) v8.toInt 1 → Wj X (k + 0 + 0 + shC h4 x) (i + 0 + 0 + shM h4 x) (QI fun y h' => y.toInt = sumN (hdH (sA s)) lo.toInt N ∧ CSt h' x m (rowS s [hdF (sA s) lo.toInt N, sumN (hdC (sA s)) lo.toInt N, sumN (hdD (sA s)) lo.toInt N, sumN (hdN (sA s)) lo.toInt N]) ∧ FrX (inC x m) h h') 107 [(0, .ref x), (2, .int hi), (3, .int v3'), (4, .int (v4 + Int32.ofInt 1)), (6, .int v6), (7, .int v7), (8, .int v8), (9, .int y1), (10, .int y2)] [.int a, .int v5] h7 := by
              intro a ea
              have k2 : ∀ (b : Int32), b.toInt = hw (sA s) v8.toInt 2 → Wj X (k + 0 + 0 + shC h4 x) (i + 0 + 0 + shM h4 x) (QI fun y h' => y.toInt = sumN (hdH (sA s)) lo.toInt N ∧ CSt h' x m (rowS s [hdF (sA s) lo.toInt N, sumN (hdC (sA s)) lo.toInt N, sumN (hdD (sA s)) lo.toInt N, sumN (hdN (sA s)) lo.toInt N]) ∧ FrX (inC x m) h h') 122 [(0, .ref x), (2, .int hi), (3, .int v3'), (4, .int (v4 + Int32.ofInt 1)), (5, .int (v5 + a)), (7, .int v7), (8, .int v8), (9, .int y1), (10, .int y2)] [.int b, .int v6] h7 := by
                intro b eb
                refine V_X9_hard_122 C ⟨fun z1 => ?_, fun z1 => ⟨fun z2 => ?_, fun z2 => ?_⟩⟩
                all_goals rw [i32_eq, hy1, i0_t] at z1
                · exact kk a b 0 ea eb (by rw [n4, if_neg (fun q => z1 q.1)]; rfl)
                all_goals rw [i32_eq, hy2, i0_t] at z2
                · exact kk a b 1 ea eb (by rw [n4, if_pos ⟨z1, z2⟩]; rfl)
                · exact kk a b 0 ea eb (by rw [n4, if_neg (fun q => z2 q.2)]; rfl)
              refine V_X9_hard_107 C ⟨fun z2 => ?_, fun z2 => ?_⟩
              all_goals rw [i32_eq, hy2, i0_t] at z2
              · exact k2 0 (by rw [z2]; rfl)
              · exact k2 1 (by rw [i1_t]; omega)
            refine ⟨y2, rfl, fun z1 => ?_, fun z1 => ?_⟩
            all_goals rw [i32_eq, hy1, i0_t] at z1
            · exact k1 0 (by rw [z1]; rfl)
            · exact k1 1 (by rw [i1_t]; omega)
          refine ⟨fun z4 => rest v3 ?_, fun z4 => rest v8 ?_⟩
          all_goals rw [i32_eq, e4, i0_t] at z4
          · rw [sF, if_neg z4]; exact e3
          · rw [sF, if_pos z4, if_pos z]
    exact key N 0 _ _ h (-1) 0 0 0 0 lo (by omega) (by omega) rfl rfl rfl rfl rfl (by omega) (by omega) S FrX.rf
  · rw [if_neg (fun z => q3 z.2.2.2)]; exact ⟨rfl, S, FrX.rf⟩))
end Wyc
