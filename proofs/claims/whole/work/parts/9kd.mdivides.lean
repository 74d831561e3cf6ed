-- divides() of the reference: the whole of it
section MDz
variable {X : Ctx} {l : Launch} {D : Dt} {h : Hp} {m : Nat} {Q : Pq} {A B : HV} {s : Sv}
theorem MdR.at54 (H : MdR h m A) (V : VA A) : MdR (si h (m + 3) 54 0) m (takeOutP A).2 ∧ FrA m h (si h (m + 3) 54 0) := by
  have f : FrA m h (si h (m + 3) 54 0) := FrW.si (P := aI m) (R := aL m) FrW.rf (Or.inr (Or.inl ⟨rfl, by omega⟩))
  have hB : MdR (si h (m + 3) 54 0) m (takeOutV A) := by
    refine ⟨f.st10 H.1, H.2.mach V (fun j hj => ?_) (fun i hi => ?_) (fun i j h1 h2 => ?_) ?_ ?_ ?_ ?_ ?_ (fun j hj => ?_) (fun q => absurd rfl q)⟩
    · unfold mI; rw [gi_si, if_neg (by omega)]
    · unfold takeOutV; rw [uv_eq, if_neg (by omega), uv_eq, if_neg (by omega), uv_eq, if_neg (by omega), uv_eq, if_neg (by omega)]
    · unfold takeOutV; rw [uv_eq, if_neg (by omega), uv_eq, if_neg (by omega), uv_eq, if_neg (by omega), uv_eq, if_neg (by omega)]
    · unfold mI; rw [gi_si, if_neg (by omega)]; exact H.circ
    · unfold mI; rw [gi_si, if_pos ⟨rfl, rfl⟩]; rfl
    · unfold mI; rw [gi_si, if_neg (by omega)]; exact H.marks
    · exact H.up
    · exact H.low
    · exact H.mark hj
  refine ⟨?_, f⟩
  unfold takeOutP
  by_cases q1 : A 0 6 = 0
  · rw [if_pos q1]
    have e : takeOutV A = A := by
      obtain ⟨n1, n2, n3⟩ := V.none q1
      funext i j
      unfold takeOutV
      simp only [uv_eq]
      by_cases z : i = 0 ∧ j = 12
      · rw [if_pos z, z.1, z.2, n3]
      · rw [if_neg z]
        by_cases z : i = 0 ∧ j = 9
        · rw [if_pos z, z.1, z.2, n2]
        · rw [if_neg z]
          by_cases z : i = 0 ∧ j = 8
          · rw [if_pos z, z.1, z.2, n1]
          · rw [if_neg z]
            by_cases z : i = 0 ∧ j = 6
            · rw [if_pos z, z.1, z.2, q1]
            · rw [if_neg z]
    rw [e] at hB; exact hB
  · rw [if_neg q1]; exact hB
theorem act_mid2 (S1 : MSt h m s) {h2 : Hp} (c : Cpd h h2 m 0 3) : MSt h2 m s ∧ MK h2 m 3 (sA s) ∧ FrO (inM m) h h2 := by
  have S2 : MSt h2 m s := S1.fr c.1 (fun j hj q => by have := q.2; omega) (fun q => by have := q.1; omega) (fun j q => by have := q.1; omega) (fun j hj q => by have := q.2; omega) (fun q => by have := q.1; omega) (fun j q => by have := q.1; omega) (fun q => by have := q.1; omega) (fun j q => by have := q.1; omega)
  exact ⟨S2, MK.cpd S1.1.2.1 S1.1.va c, (c.1.toM (fun b j q => ⟨by have := q.1; omega, by have := q.1; omega⟩) (fun b j q => ⟨by have := q.1; omega, by have := q.1; omega⟩))⟩
theorem windQ07 {q : Int} : (windQ B q).2 0 7 = B 0 7 := by
  unfold windQ
  split
  · show uv (uv B 0 10 (rdU (wdU B q) (wdL B))) 0 11 (rdL (wdU B q) (wdL B)) 0 7 = B 0 7
    rw [uv_i, if_neg (by omega), uv_i, if_neg (by omega)]
  · rfl
theorem wind07 {t a b : Int} : (windP B t a b).2 0 7 = B 0 7 := by
  unfold windP
  by_cases c : (0 ≤ t ∧ t ≤ 99) ∧ (0 ≤ a ∧ a ≤ Hc B - 1) ∧ (0 ≤ b ∧ b ≤ 1)
  · rw [if_pos c]; exact windQ07
  · rw [if_neg c]
theorem choose07 {k : Int} : (chooseP B k).2 0 7 = B 0 7 := by
  unfold chooseP
  split
  · split
    · rfl
    · show uv B 0 5 k 0 7 = B 0 7
      rw [uv_i, if_neg (by omega)]
  · rfl
theorem scribe07 (V : VA B) : 0 < (scribeP B).2 0 7 := by
  have v7 := V.marks
  unfold scribeP
  by_cases c : (mpos B : Int) < B 0 7 ∧ B 4 (mpos B) * B 0 11 = B 0 10 * B 5 (mpos B)
  · rw [if_pos c]
    show 0 < B 0 7
    have := c.1; omega
  · rw [if_neg c]
    by_cases c2 : B 0 7 < 60
    · rw [if_pos c2]
      show 0 < B 0 7 + 1
      omega
    · rw [if_neg c2]
      show 0 < B 0 7
      omega
theorem dvE07 {n : Int} {w : Nat} (V : VA A) (n1 : 2 ≤ n) : 0 < dvE A n w 0 7 := by
  unfold dvE
  obtain ⟨k, ek⟩ : ∃ k, n.toNat = k + 1 := ⟨n.toNat - 1, by omega⟩
  rw [ek]
  show 0 < dvSt A n w (scribeP (dvL A n w k)).2 0 7
  have q := scribe07 (dvL_va (A := A) (n := n) (w := w) (i := k) V)
  generalize (scribeP (dvL A n w k)).2 = G at *
  unfold dvSt
  by_cases c : w = 1
  · rw [if_pos c]; unfold dvCm; rw [wind07, choose07, wind07, choose07]; exact q
  · rw [if_neg c]; unfold dvSm; rw [wind07, choose07]; exact q
def dvRow (E : HV) : List Int := [if E 0 10 = 0 then 1 else 0, if cntG E (E 0 7).toNat = 1 then 1 else 0]
theorem dv_end (C : C_X10_divides X) {h1 : Hp} {E : HV} (S : MSt h1 m (E, sN s, sB s, sK s, sR s, sT s)) (K3 : MK h1 m 3 (sA s)) (V : VA (sA s)) (p : 0 < E 0 7) (f0 : FrO (inM m) h h1) {v : Int32} (ev : (flg v).toInt = if E 0 10 = 0 then 1 else 0) : Wj X 0 0 (QI fun y h' => y.toInt = E 0 7 ∧ MSt h' m (rowS (pushS s E) (dvRow E)) ∧ FrO (inM m) h h') 148 [(0, .ref m)] [.int v, .ref m] (si h1 m 1 0) := by
  have VE : VA E := S.1.va
  have f2 : FrW (rI m) (rL m) h1 (si h1 m 1 0) := FrW.si (P := rI m) (R := rL m) FrW.rf ⟨rfl, rfl⟩
  have g2 : FrW (lgI m) (lgL m) h1 (si h1 m 1 0) := f2.mono (fun _ _ q => q) (fun _ _ q => Or.inr (Or.inr q))
  refine V_X10_divides_148 C ⟨S.1.1, (ma_enters (h := si h1 m 1 0) (L := []) S.1.1 (RwM.clr 0 rfl) (by decide) (z := if E 0 10 = 0 then 1 else 0) (by rw [i2l_t]; exact ev)).mono (fun r h3 hp => ?_)⟩
  obtain ⟨rfl, w3, f3⟩ := hp
  rw [List.nil_append] at w3
  have g3 : FrW (lgI m) (lgL m) h1 h3 := g2.tr (f3.mono (fun _ _ q => q) (fun _ _ q => Or.inr (Or.inr q)))
  have M : ∀ h', FrW (lgI m) (lgL m) h1 h' → MdR h' m E := fun h' f => S.1.md.fr VE f (fun j _ q => by have := q.1; omega) (fun j _ q => by unfold lgL at q; omega)
  refine ⟨rfl, (M h3 g3).1, (ma_laysGaps (M h3 g3) VE p w3 (by simp)).mono (fun r h4 hp => ?_)⟩
  obtain ⟨x, rfl, ex, w4, f4⟩ := hp
  have g4 := g3.tr f4
  have g5 : FrW (lgI m) (lgL m) h1 (si h4 m 1 1) := FrW.si (P := lgI m) (R := lgL m) g4 ⟨rfl, rfl⟩
  have w5 : RwM (si h4 m 1 1) m [if E 0 10 = 0 then 1 else 0] := by
    refine ⟨by rw [gi_si, if_pos ⟨rfl, rfl⟩]; rfl, by simp, fun i hi => ?_⟩
    have e0 : i = 0 := by
      have : i < 1 := hi
      omega
    subst e0
    have := w4.2.2 0 (by simp)
    exact this
  have last : ∀ (u : Int32), ((flg u).toInt = if cntG E (E 0 7).toNat = 1 then 1 else 0) → Wj X 0 0 (QI fun y h' => y.toInt = E 0 7 ∧ MSt h' m (rowS (pushS s E) (dvRow E)) ∧ FrO (inM m) h h') 176 [(0, .ref m)] [.int u, .ref m] (si h4 m 1 1) := by
    intro u eu
    refine V_X10_divides_176 C ⟨(M _ g5).1, (ma_enters (M _ g5).1 w5 (by simp) (z := if cntG E (E 0 7).toNat = 1 then 1 else 0) (by rw [i2l_t]; exact eu)).mono (fun r h6 hp => ?_)⟩
    obtain ⟨rfl, w6, f6⟩ := hp
    have g6 : FrW (lgI m) (lgL m) h1 h6 := g5.tr (f6.mono (fun _ _ q => q) (fun _ _ q => Or.inr (Or.inr q)))
    have w7 : RwM h6 m (dvRow E) := w6
    obtain ⟨S6, o6⟩ := S.lg g6 w7
    have K6 : MK h6 m 3 (sA s) := K3.fr V g6 (fun j _ _ q => by have := q.1; omega) (fun j _ _ q => by unfold lgL at q; omega)
    refine ⟨rfl, (M _ g6).1, ?_⟩
    rw [ix_60]
    have e60 : (gi h6 (m + 3) 60).toInt = E 0 7 := (M _ g6).marks
    refine (ma_done S6.1 K6 V).mono (fun r h7 hp => ?_)
    obtain ⟨y, rfl, ey, hd, f7⟩ := hp
    rw [if_pos (by rw [e60]; omega)] at hd
    have e := done_end S6 f7 hd
    refine ⟨y, rfl, y, rfl, by rw [ey]; exact e60, e.1, (f0.tr o6).tr e.2⟩
  refine ⟨x, rfl, (M _ g4).1, fun q => last 0 ?_, fun q => last 1 ?_⟩
  all_goals rw [i32_eq, ex, i1_t] at q
  · rw [flg0, if_neg (by omega)]; rfl
  · rw [flg1, if_pos (by omega)]; rfl
theorem dividesP_row {n w : Int} : dividesP s n w = if (2 ≤ n ∧ n ≤ 60) ∧ (0 ≤ w ∧ w ≤ 2) then (if hw (sA s) n w.toNat = 0 then (-2, s) else (dvE (sA s) n w.toNat 0 7, rowS (pushS s (dvE (sA s) n w.toNat)) (dvRow (dvE (sA s) n w.toNat)))) else (-1, s) := rfl
theorem ma_divides (S : MSt h m s) {n v : Int32} : S_X10_divides l D 0 0 [.ref m, .int n, .int v] h (QI fun y h' => y.toInt = (dividesP s n.toInt v.toInt).1 ∧ MSt h' m (dividesP s n.toInt v.toInt).2 ∧ FrO (inM m) h h') := Sp.of rfl (Nat.le_of_ble_eq_true rfl) (fun X C _ _ _ _ => V_X10_divides_0 C (by
  obtain ⟨S1, f1⟩ := S.t0
  have V := S.1.va
  have i2 : (2 : Int32).toInt = 2 := rfl
  have l60 : (60 : Int64).toInt = 60 := rfl
  have l0 : (0 : Int64).toInt = 0 := rfl
  rw [dividesP_row]
  refine ⟨S.1.1, fun q => ⟨_, rfl, ?_⟩, fun q => ⟨fun q1 => ?_, fun q1 => ⟨_, rfl, ?_⟩⟩⟩
  all_goals rw [btL_0, i2l_t, l2_t, l60] at q
  · rw [if_neg (by omega)]; exact ⟨rfl, S1, f1⟩
  all_goals rw [btL_0, i2l_t, l2_t, l0] at q1
  · have hq : (2 ≤ n.toInt ∧ n.toInt ≤ 60) ∧ (0 ≤ v.toInt ∧ v.toInt ≤ 2) := by omega
    rw [if_pos hq]
    obtain ⟨⟨n1, n2⟩, v0, v2⟩ := hq
    obtain ⟨w, ew⟩ : ∃ w : Nat, v.toInt = w := ⟨v.toInt.toNat, by omega⟩
    rw [ew, Int.toNat_natCast]
    have w2 : w ≤ 2 := by omega
    refine (ma_hasWay S1.1.md V (n := n) (v := v) (w := w) n1 (by omega) ew w2).mono (fun r h2 hp => ?_)
    obtain ⟨y, rfl, ey, W2, f2⟩ := hp
    obtain ⟨S2, g2⟩ := FrY.ms S1 f2
    refine ⟨y, rfl, fun q3 => ⟨S2.1.1, ?_⟩, fun q3 => ?_⟩
    all_goals rw [i32_eq, ey, i0_t] at q3
    · rw [if_neg q3]
      have W2 := W2 q3
      refine (ma_copies S2.1.1 (v := 0) (w := 3) (a := 0) (b := 3) rfl rfl (by decide) (by decide) (by decide)).mono (fun r h5 hp => ?_)
      obtain ⟨rfl, c5⟩ := hp
      obtain ⟨S5, K5, g5⟩ := act_mid2 S2 c5
      have W5 : WyM h5 m (sA s) n.toInt w := W2.same (fun j _ _ _ => c5.1.xi (fun q => by have := q.1; omega)) (fun j => c5.1.xi (fun q => by have := q.1; omega))
      refine ⟨rfl, S5.1.1, (ma_wipesOne S5.1.md V).mono (fun r h7 hp => ?_)⟩
      obtain ⟨y7, rfl, -, H7, f7⟩ := hp
      have V7 : VA (wipeP (sA s)).2 := V.wipe
      obtain ⟨H8, f8⟩ := H7.at54 V7
      have V8 : VA (takeOutP (wipeP (sA s)).2).2 := V7.takeOut
      have f58 := f7.tr f8
      have F : FrO (inM m) h h5 := (f1.tr g2).tr g5
      have loop : ∀ (d c : Nat) (h' : Hp) (v3 : Int32), (c : Int) + d = n.toInt → v3.toInt = c → MdR h' m (dvL (sA s) n.toInt w c) → FrA m h5 h' → Wj X 0 0 (QI fun y h' => y.toInt = dvE (sA s) n.toInt w 0 7 ∧ MSt h' m (rowS (pushS s (dvE (sA s) n.toInt w)) (dvRow (dvE (sA s) n.toInt w))) ∧ FrO (inM m) h h') 104 [(0, .ref m), (1, .int n), (2, .int v), (3, .int v3)] [] h' := by
        intro d
        induction d with
        | zero =>
          intro c h' v3 hc e3 H' f'
          have ec : c = n.toInt.toNat := by omega
          rw [ec] at H'
          have VE : VA (dvE (sA s) n.toInt w) := dvL_va V
          have pE : 0 < dvE (sA s) n.toInt w 0 7 := dvE07 V n1
          have HE : MdR h' m (dvE (sA s) n.toInt w) := H'
          clear H'
          generalize dvE (sA s) n.toInt w = E at *
          obtain ⟨a1, a2, a3⟩ := act_end S5 K5 f' HE VE
          refine V_X10_divides_104 C ⟨fun _ => ⟨HE.1, fun z => ?_, fun z => ?_⟩, fun z => absurd (by rw [i32_le]; omega) z⟩
          all_goals
            rw [ix_0, i64_eq, HE.up, l0] at z
            refine dv_end C a1 a2 V pE (F.tr a3) ?_
          · rw [flg0, if_neg z]; rfl
          · rw [flg1, if_pos z]; rfl
        | succ d ih =>
          intro c h' v3 hc e3 H' f'
          have VL : VA (dvL (sA s) n.toInt w c) := dvL_va V
          have SL : SmB (sA s) (dvL (sA s) n.toInt w c) := dvL_sm
          refine V_X10_divides_104 C ⟨fun z => ?_, fun _ => ⟨H'.1, ?_⟩⟩
          · exfalso
            rw [i32_le] at z; omega
          · refine (ma_cutsOne H' VL).mono (fun r h8 hp => ?_)
            obtain ⟨y8, rfl, -, H8, f8⟩ := hp
            refine ⟨y8, rfl, H8.1, ?_⟩
            refine (ma_stepsBy H8 VL.scribe V SL.scribe (W5.fa (f'.tr f8)) q3 (v1 := n) (v2 := v) rfl ew w2 n1 (by omega)).mono (fun r h9 hp => ?_)
            obtain ⟨rfl, H9, f9⟩ := hp
            refine ⟨rfl, ih (c + 1) h9 _ (by omega) ?_ H9 ((f'.tr f8).tr f9)⟩
            rw [iadd_t] <;> rw [e3, show (Int32.ofInt 1).toInt = 1 from rfl] <;> omega
      refine ⟨y7, rfl, H7.1, fun q4 => ?_, fun q4 => ?_⟩
      all_goals
        rw [ix_54]
        rw [i32_eq, ew, i2] at q4
      · refine loop n.toInt.toNat 0 _ 0 (by omega) rfl ?_ f58
        show MdR _ m (dvB (sA s) n.toInt w)
        unfold dvB
        rw [if_neg (by omega)]; exact H8
      · have e2 : w = 2 := by omega
        obtain ⟨d, ed, r1, r2, r3⟩ := (W5.fa f58).2 e2
        have r2' : (gi (si h7 (m + 3) 54 0) m 22).toInt = d.2.1 := r2
        refine (ma_gearedOne H8 V8).mono (fun r h9 hp => ?_)
        obtain ⟨y9, rfl, -, H9, f9, -⟩ := hp
        rw [ix_0, ix_1, ix_2, ix_3, r3.2 0 (by omega), r3.2 1 (by omega), r3.2 2 (by omega), r3.2 3 (by omega), r2'] at H9
        refine ⟨y9, rfl, loop n.toInt.toNat 0 _ 0 (by omega) rfl ?_ (f58.tr f9)⟩
        show MdR _ m (dvB (sA s) n.toInt w)
        unfold dvB dvPut
        rw [if_pos e2, ed]; exact H9
    · rw [if_pos q3]; exact ⟨_, rfl, rfl, S2, f1.tr g2⟩
  · rw [if_neg (by omega)]; exact ⟨rfl, S1, f1⟩))
end MDz
