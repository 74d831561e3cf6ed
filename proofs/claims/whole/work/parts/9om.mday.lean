-- day() of the reference: the acts done; the whole
section MDb
variable {X : Ctx} {l : Launch} {D : Dt} {h : Hp} {m : Nat} {Q : Pq} {A B : HV} {s : Sv} {T : List Int}
theorem tkI_1 {v : Int} (h : actL v ≠ 0) : (v = 117 ∧ tkI 1 v = 0) ∨ (v = 116 ∧ tkI 1 v = 1) ∨ (v = 98 ∧ tkI 1 v = 2) ∨ (v = 99 ∧ tkI 1 v = 3) ∨ (v = 119 ∧ tkI 1 v = 4) ∨ (v = 103 ∧ tkI 1 v = 5) ∨ (v = 111 ∧ tkI 1 v = 6) := by
  rcases actL_ne h with e | e | e | e | e | e | e <;> rw [e] <;> decide
theorem ma_doesAct {k p : Nat} (H : MdR h m B) (V : VA B) (a : AcR h m k T p) (w : wr T p = none) {v1 : Int32} (ev : v1.toInt = k) (hk : k < 80) : S_X10_doesAct l D 0 0 [.ref m, .int v1] h (QI fun y h' => y.toInt = (doA T p B).1 ∧ MdR h' m (doA T p B).2 ∧ FrA m h h') := Sp.of rfl (Nat.le_of_ble_eq_true rfl) (fun X C _ _ _ _ => V_X10_doesAct_0 C (by
  have xk : ix v1 = k := ix_of ev
  have ib : inb v1 80 := ⟨by omega, by omega⟩
  have i2 : (2 : Int32).toInt = 2 := rfl
  have i3 : (3 : Int32).toInt = 3 := rfl
  have i4 : (4 : Int32).toInt = 4 := rfl
  have i5 : (5 : Int32).toInt = 5 := rfl
  obtain ⟨a0, -, wg⟩ := wr_none w
  have lt := tkI_1 a0
  obtain ⟨c1, c2, c3, c4⟩ := a
  -- turned or turned back
  have p55 : (tsg T p = 116 ∧ tkI 1 (tsg T p) = 1) ∨ (tsg T p = 98 ∧ tkI 1 (tsg T p) = 2) → Wj X 0 0 (QI fun y h' => y.toInt = (doA T p B).1 ∧ MdR h' m (doA T p B).2 ∧ FrA m h h') 55 [(0, .ref m), (1, .int v1)] [] h := fun c => by
    refine V_X10_doesAct_55 C ⟨H.1, ib, ?_⟩
    rw [xk]
    have eb : (gi h (m + 12) k - 1).toInt = tkI 1 (tsg T p) - 1 := by rw [isub_t] <;> rw [c1, i1_t] <;> omega
    refine (ma_turnsOne H V).mono (fun _ h3 hp => ?_)
    obtain ⟨y, rfl, ey, H3, f3⟩ := hp
    rw [c2 (by omega), c3 (by omega), eb] at ey H3
    refine ⟨y, rfl, y, rfl, ?_⟩
    rcases c with ⟨e, t⟩ | ⟨e, t⟩
    · rw [t, show (1 : Int) - 1 = 0 from rfl, ← doA_t e] at ey H3
      exact ⟨ey, H3, f3⟩
    · rw [t, show (2 : Int) - 1 = 1 from rfl, ← doA_b e] at ey H3
      exact ⟨ey, H3, f3⟩
  refine ⟨H.1, ib, ?_⟩
  rw [xk]
  refine ⟨fun z => ?_, fun z => p55 ?_, fun z => p55 ?_, fun z => ?_, fun z => ?_, fun z => ?_, ?_⟩
  · rw [i32_eq, c1, i0_t] at z
    have e : tsg T p = 117 := by omega
    refine (ma_usesOne H V).mono (fun _ h3 hp => ?_)
    obtain ⟨y, rfl, ey, H3, f3⟩ := hp
    rw [c2 (by omega), ← doA_u e] at ey H3
    exact ⟨y, rfl, y, rfl, ey, H3, f3⟩
  · rw [i32_eq, c1, i1_t] at z; omega
  · rw [i32_eq, c1, i2] at z; omega
  · rw [i32_eq, c1, i3] at z
    have e : tsg T p = 99 := by omega
    refine (ma_cutsOne H V).mono (fun _ h3 hp => ?_)
    obtain ⟨y, rfl, ey, H3, f3⟩ := hp
    rw [← doA_c e] at ey H3
    exact ⟨y, rfl, y, rfl, ey, H3, f3⟩
  · rw [i32_eq, c1, i4] at z
    have e : tsg T p = 119 := by omega
    refine (ma_wipesOne H V).mono (fun _ h3 hp => ?_)
    obtain ⟨y, rfl, ey, H3, f3⟩ := hp
    rw [← doA_w e] at ey H3
    exact ⟨y, rfl, y, rfl, ey, H3, f3⟩
  · rw [i32_eq, c1, i5] at z
    have e : tsg T p = 103 := by omega
    have ed := doA_g (B := B) e
    refine ⟨fun q => ?_, fun q => ?_⟩
    all_goals
      rw [i32_eq, i0_t, c4 e] at q
      refine (ma_gearedOne H V).mono (fun _ h3 hp => ?_)
      obtain ⟨y, rfl, ey, H3, f3, -⟩ := hp
    · rw [if_neg q] at ed
      rw [c2 (by omega), c3 (by omega), im1_t, ← ed] at ey H3
      exact ⟨y, rfl, y, rfl, ey, H3, f3⟩
    · rw [if_pos q] at ed
      rw [c2 (by omega), c3 (by omega), im1_t, i1_t, ← ed] at ey H3
      exact ⟨y, rfl, y, rfl, ey, H3, f3⟩
  · intro z0 z1 z2 z3 z4 z5
    rw [i32_eq, c1] at z0 z1 z2 z3 z4 z5
    rw [i0_t] at z0
    rw [i1_t] at z1
    rw [i2] at z2
    rw [i3] at z3
    rw [i4] at z4
    rw [i5] at z5
    have e : tsg T p = 111 := by omega
    refine (ma_ungearedOne H V).mono (fun _ h3 hp => ?_)
    obtain ⟨y, rfl, ey, H3, f3⟩ := hp
    rw [← doA_o e] at ey H3
    exact ⟨y, rfl, y, rfl, ey, H3, f3⟩))
/-- where the k-th act stands -/
def tpos (T : List Int) : Nat → Nat
  | 0 => 0
  | k + 1 => tpos T k + actL (tsg T (tpos T k))
theorem AcR.same {h' : Hp} {k p : Nat} (a : AcR h m k T p) (e : ∀ b, m + 12 ≤ b → b ≤ m + 15 → gi h' b k = gi h b k) : AcR h' m k T p := by
  obtain ⟨a1, a2, a3, a4⟩ := a
  exact ⟨by rw [e _ (by omega) (by omega)]; exact a1, fun c => by rw [e _ (by omega) (by omega)]; exact a2 c, fun c => by rw [e _ (by omega) (by omega)]; exact a3 c, fun c => by rw [e _ (by omega) (by omega)]; exact a4 c⟩
/-- the acts before the n-th are read -/
def Acs (h : Hp) (m : Nat) (T : List Int) (n : Nat) : Prop := ∀ k, k < n → AcR h m k T (tpos T k) ∧ wr T (tpos T k) = none ∧ tpos T k < T.length
abbrev FrY5 (m : Nat) (h h' : Hp) : Prop := FrW (fun b j => b = m ∧ j = 5 ∨ (m + 12 ≤ b ∧ b ≤ m + 15)) (fun _ _ => False) h h'
theorem FrY5.ms {h' : Hp} (S : MSt h m s) (f : FrY5 m h h') : MSt h' m s ∧ FrO (inM m) h h' :=
  ⟨S.fr f (fun j hj q => by omega) (fun q => by omega) (fun j q => by omega) (fun _ _ => id) (fun q => by omega) (fun _ => id) (fun q => by omega) (fun j q => by omega),
   f.toM (fun b j q => by unfold inM; omega) (fun _ _ q => absurd q id)⟩
theorem ma_day (S : MSt h m s) : S_X10_day l D 0 0 [.ref m] h (QI fun y h' => y.toInt = (dayP s).1 ∧ MSt h' m (dayP s).2 ∧ FrO (inM m) h h') := Sp.of rfl (Nat.le_of_ble_eq_true rfl) (fun X C _ _ _ _ => V_X10_day_0 C (by
  obtain ⟨S1, R1, f1⟩ := reads_st S
  have V := S.1.va
  generalize (si (si (si (si h m 0 0) m 6 (gi (si h m 0 0) m 4)) m 4 0) m 5 0) = h1 at *
  have tl := R1.2.2.1
  refine ⟨S.1.1, ?_⟩
  generalize hT : sT s = T at *
  -- the acts, done
  have dos : ∀ (n : Nat) (h3 : Hp), T.length ≤ tpos T n → FrY5 m h1 h3 → Acs h3 m T n → n ≤ 80 → ∀ v1 : Int32, v1.toInt = n → rdD T (T.length + 1) 0 = none → S_X10_copies (lX X) (dtX X) 0 0 [.ref m, .int 0, .int 3] h3 (QV fun h2 => Wj X 0 0 (QI fun y h' => y.toInt = (dayP s).1 ∧ MSt h' m (dayP s).2 ∧ FrO (inM m) h h') 51 [(0, .ref m), (1, .int v1), (2, .int 0)] [] h2) := by
    intro n h3 hn f3 ac n80 v1 e1 er
    rw [dayP_go (by rw [hT]; exact er), hT]
    obtain ⟨S3, o3⟩ := FrY5.ms S1 f3
    refine (ma_copies S3.1.1 (a := 0) (b := 3) rfl rfl (by omega) (by omega) (by omega)).mono (fun _ h5 hp => ?_)
    obtain ⟨rfl, c5⟩ := hp
    refine ⟨rfl, ?_⟩
    obtain ⟨S5, K5, o5⟩ := act_mid2 S3 c5
    have O5 : FrO (inM m) h h5 := (f1.tr o3).tr o5
    have ac5 : Acs h5 m T n := fun k hk => ⟨(ac k hk).1.same (fun b b1 b2 => c5.1.xi (fun q => by have := q.1; omega)), (ac k hk).2⟩
    generalize hG : exD T (T.length + 1) 0 (sA s) 0 = G at *
    -- the row
    have p80 : ∀ (h' : Hp) (s' : Sv) (v2 : Int32), MSt h' m s' → FrO (inM m) h h' → v2.toInt = G.1 → (v1.toInt ≤ v2.toInt → G.2.2 = 0) → (¬ v1.toInt ≤ v2.toInt → G.2.2 = 1) → sA s' 0 7 = G.2.1 0 7 → rowS s' [G.2.2, G.2.1 0 7] = (dayS s G).2 → Wj X 0 0 (QI fun y h' => y.toInt = (dayS s G).1 ∧ MSt h' m (dayS s G).2 ∧ FrO (inM m) h h') 80 [(0, .ref m), (1, .int v1), (2, .int v2)] [] h' := by
      intro h' s' v2 S' o' e2 g0 g1 e7 es
      have ft : FrW (rI m) (rL m) h' (si h' m 1 0) := FrW.si (P := rI m) (R := rL m) FrW.rf ⟨rfl, rfl⟩
      have V' := S'.1.va
      have M : ∀ h'', FrW (rI m) (rL m) h' h'' → MdR h'' m (sA s') := fun h'' f => S'.1.md.fr V' f (fun j _ q => by have := q.1; omega) (fun j _ (q : m + 4 = m + 1) => by omega)
      have p96 : ∀ u : Int32, (flg u).toInt = G.2.2 → Wj X 0 0 (QI fun y h' => y.toInt = (dayS s G).1 ∧ MSt h' m (dayS s G).2 ∧ FrO (inM m) h h') 96 [(0, .ref m), (2, .int v2)] [.int u, .ref m] (si h' m 1 0) := by
        intro u eu
        refine V_X10_day_96 C ⟨S'.1.1, (ma_enters (h := si h' m 1 0) (L := []) S'.1.1 (RwM.clr 0 rfl) (by decide) (z := G.2.2) (by rw [i2l_t]; exact eu)).mono (fun _ h6 hp => ?_)⟩
        obtain ⟨rfl, w6, f6⟩ := hp
        have f06 := ft.tr f6
        have e60 : (gi h6 (m + 3) 60).toInt = G.2.1 0 7 := by rw [(M h6 f06).marks]; exact e7
        refine ⟨rfl, (M h6 f06).1, ?_⟩
        rw [ix_60]
        refine (ma_enters (M h6 f06).1 w6 (by simp) (z := G.2.1 0 7) (by rw [i2l_t]; exact e60)).mono (fun _ h7 hp => ?_)
        obtain ⟨rfl, w7, f7⟩ := hp
        obtain ⟨S7, o7⟩ := S'.row (f06.tr f7) w7
        refine ⟨rfl, _, rfl, e2, ?_, o'.tr o7⟩
        rw [← es]; exact S7
      refine V_X10_day_80 C ⟨S'.1.1, fun q => p96 0 ?_, fun q => p96 1 ?_⟩
      all_goals rw [i32_le] at q
      · rw [flg0, g0 q]; rfl
      · rw [flg1, g1 q]; rfl
    have p70 : ∀ (h' : Hp) (v2 : Int32), FrA m h5 h' → MdR h' m G.2.1 → VA G.2.1 → v2.toInt = G.1 → (v1.toInt ≤ v2.toInt → G.2.2 = 0) → (¬ v1.toInt ≤ v2.toInt → G.2.2 = 1) → (G.1 = 0 → G.2.1 = sA s) → Wj X 0 0 (QI fun y h' => y.toInt = (dayS s G).1 ∧ MSt h' m (dayS s G).2 ∧ FrO (inM m) h h') 70 [(0, .ref m), (1, .int v1), (2, .int v2)] [] h' := by
      intro h' v2 f' H' V' e2 g0 g1 z0
      obtain ⟨S', K', o'⟩ := act_end S5 K5 f' H' V'
      refine V_X10_day_70 C ⟨fun q => ?_, fun q => ⟨S'.1.1, ?_⟩⟩
      all_goals rw [i32_le, e2, i0_t] at q
      · have eB := z0 (by omega)
        rw [eB] at S'
        refine p80 h' (txtS s []) v2 S' (O5.tr o') e2 g0 g1 (by rw [eB]; rfl) ?_
        unfold dayS
        dsimp only
        rw [if_neg (by omega)]
      · refine (ma_done S'.1 K' V).mono (fun _ h7 hp => ?_)
        obtain ⟨y, rfl, rfl, hd, f7⟩ := hp
        rw [if_pos (by omega)] at hd
        obtain ⟨S7, o7⟩ := done_end S' f7 hd
        refine ⟨y, rfl, p80 h7 (pushS (txtS s []) G.2.1) y S7 ((O5.tr o').tr o7) e2 g0 g1 rfl ?_⟩
        unfold dayS
        dsimp only
        rw [if_pos (by omega)]
    have key : ∀ (f k : Nat) (B : HV) (h' : Hp) (v2 : Int32), v2.toInt = k → k ≤ n → T.length < tpos T k + f → FrA m h5 h' → MdR h' m B → VA B → (k = 0 → B = sA s) → G = exD T f (tpos T k) B k → Wj X 0 0 (QI fun y h' => y.toInt = (dayS s G).1 ∧ MSt h' m (dayS s G).2 ∧ FrO (inM m) h h') 51 [(0, .ref m), (1, .int v1), (2, .int v2)] [] h' := by
      intro f
      induction f with
      | zero =>
        intro k B h' v2 e2 hk hf f' H' V' z0 eG
        have kn : k = n := Classical.byContradiction (fun z => by have := (ac5 k (by omega)).2.2; omega)
        have eG : G = (k, B, 0) := eG
        refine V_X10_day_51 C ⟨fun _ => p70 h' v2 f' (by rw [eG]; exact H') (by rw [eG]; exact V') (by rw [eG]; exact e2) (fun _ => by rw [eG]) (fun z => by omega) (fun z => by rw [eG] at z ⊢; exact z0 z), fun q => ?_⟩
        exfalso
        rw [i32_le] at q; omega
      | succ f ih =>
        intro k B h' v2 e2 hk hf f' H' V' z0 eG
        by_cases kn : k = n
        · have eG : G = (k, B, 0) := by rw [eG, exD_end (by rw [kn]; exact hn)]
          refine V_X10_day_51 C ⟨fun _ => p70 h' v2 f' (by rw [eG]; exact H') (by rw [eG]; exact V') (by rw [eG]; exact e2) (fun _ => by rw [eG]) (fun z => by omega) (fun z => by rw [eG] at z ⊢; exact z0 z), fun q => ?_⟩
          exfalso
          rw [i32_le] at q; omega
        · obtain ⟨ak, wk, pk⟩ := ac5 k (by omega)
          have ak' : AcR h' m k T (tpos T k) := ak.same (fun b b1 b2 => f'.xi (fun q => by unfold aI at q; omega))
          refine V_X10_day_51 C ⟨fun q => ?_, fun _ => ⟨H'.1, (ma_doesAct H' V' ak' wk e2 (by omega)).mono (fun _ h2 hp => ?_)⟩⟩
          · exfalso
            rw [i32_le] at q; omega
          · obtain ⟨y, rfl, ey, H2, f2⟩ := hp
            refine ⟨y, rfl, fun q => ?_, fun q => ?_⟩
            all_goals rw [i32_lt, i0_t, ey] at q
            · rw [doA_neg V' q] at H2
              have eG : G = (k, B, 1) := by rw [eG, exD_bad pk q]
              exact p70 h2 v2 (f'.tr f2) (by rw [eG]; exact H2) (by rw [eG]; exact V') (by rw [eG]; exact e2) (fun z => by omega) (fun _ => by rw [eG]) (fun z => by rw [eG] at z ⊢; exact z0 z)
            · have n2 : ∃ w : Int32, v2 + Int32.ofInt 1 = w ∧ w.toInt = (k + 1 : Nat) := ⟨_, rfl, by rw [iadd_t] <;> rw [e2, show (Int32.ofInt 1).toInt = 1 from rfl] <;> omega⟩
              obtain ⟨w, hw, ew⟩ := n2
              rw [hw]
              have a0 := (wr_none wk).1
              have tp : tpos T (k + 1) = tpos T k + actL (tsg T (tpos T k)) := rfl
              exact ih (k + 1) (doA T (tpos T k) B).2 h2 w ew (by omega) (by omega) (f'.tr f2) H2 (doA_va V') (fun z => by omega) (by rw [eG, exD_go pk q, tp])
    exact key (T.length + 1) 0 (sA s) h5 0 rfl (by omega) (by show T.length < 0 + (T.length + 1); omega) (FrW.rf (P := aI m) (R := aL m)) S5.1.md V (fun _ => rfl) hG.symm
  -- the acts, read
  have reads : ∀ (f n : Nat) (h' : Hp) (v1 : Int32), v1.toInt = n → n ≤ tpos T n → T.length < tpos T n + f → FrY5 m h1 h' → Rd h' m T (tpos T n) → Acs h' m T n → rdD T (T.length + 1) 0 = rdD T f (tpos T n) → Wj X 0 0 (QI fun y h' => y.toInt = (dayP s).1 ∧ MSt h' m (dayP s).2 ∧ FrO (inM m) h h') 11 [(0, .ref m), (1, .int v1)] [] h' := by
    intro f
    induction f with
    | zero => intro n h' v1 e1 hn hf f' R' ac er; have := R'.2.2.2.2; omega
    | succ f ih =>
      intro n h' v1 e1 hn hf f' R' ac er
      obtain ⟨S', o'⟩ := FrY5.ms S1 f'
      refine V_X10_day_11 C ⟨S'.1.1, fun q => ?_, fun q => ⟨0, 0, Nat.zero_le _, Nat.zero_le _, ?_⟩⟩
      all_goals rw [i32_le, R'.1, R'.2.1] at q
      · have hl := R'.2.2.2.2
        exact dos n h' (by omega) f' ac (by omega) v1 e1 (by rw [er, rdD_end (by omega)])
      · have hp : tpos T n < T.length := by omega
        refine (ma_readsAct S'.1.1 R' hp e1 (by omega)).mono (fun _ h3 hp3 => ?_)
        obtain ⟨y, rfl, f3, hy⟩ := hp3
        have f03 : FrY5 m h1 h3 := f'.tr (f3.mono (fun b j q => by omega) (fun _ _ q => q))
        obtain ⟨S3, o3⟩ := FrY5.ms S1 f03
        rcases hy with ⟨y0, z, ez, R3⟩ | ⟨y0, ez, R3, ac3⟩
        · refine ⟨y, rfl, fun q => absurd y0 q, fun _ => ⟨S3.1.1, _, rfl, ?_⟩⟩
          rw [dayP_bad (q := z) (by rw [hT, er, rdD_bad hp ez])]
          have := R3.2.2.2.2
          refine ⟨?_, S3, f1.tr o3⟩
          rw [isub_t] <;> rw [im1_t, R3.1] <;> omega
        · refine ⟨y, rfl, fun _ => ?_, fun q => absurd q y0⟩
          have n2 : ∃ w : Int32, v1 + Int32.ofInt 1 = w ∧ w.toInt = (n + 1 : Nat) := ⟨_, rfl, by rw [iadd_t] <;> rw [e1, show (Int32.ofInt 1).toInt = 1 from rfl] <;> omega⟩
          obtain ⟨w, hw, ew⟩ := n2
          rw [hw]
          have a0 := (wr_none ez).1
          have tp : tpos T (n + 1) = tpos T n + actL (tsg T (tpos T n)) := rfl
          refine ih (n + 1) h3 w ew (by omega) (by omega) f03 R3 (fun k hk => ?_) (by rw [er, rdD_go hp ez, tp])
          by_cases e : k = n
          · rw [e]; exact ⟨ac3, ez, hp⟩
          · obtain ⟨b1, b2⟩ := ac k (by omega)
            exact ⟨b1.same (fun b c1 c2 => f3.xi (fun q => by omega)), b2⟩
  exact reads (T.length + 1) 0 h1 0 rfl (Nat.zero_le _) (by show T.length < 0 + (T.length + 1); omega) (FrW.rf (P := fun b j => b = m ∧ j = 5 ∨ (m + 12 ≤ b ∧ b ≤ m + 15)) (R := fun _ _ => False)) R1 (fun k hk => by omega) rfl))
end MDb
