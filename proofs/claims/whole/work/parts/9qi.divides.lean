-- divides(): the shelf behind it
section NshD
variable {X : Ctx} {l : Launch} {D : Dt} {h : Hp} {x m t : Nat} {Q : Pq} {A B : HV} {s : Sv}
theorem WyH.ns {n : Int} {w : Nat} (W : WyH h x A n w) (e : w = 2) : NSh h x := by
  subst e
  obtain ⟨sh, e14, -, -⟩ := W
  exact NSh.of e14
theorem cl_adoptV {V : Prop} (zD : 0 < D.2.2.size) {f : HV → Int × HV} (hva : ∀ A, VA A → VA (f A).2) {h9 : Hp} (S9 : CSt h9 x m s) (n9 : V → NSh h9 x) {t : Nat} (et : gr h9 x 13 = some t) (Ht : HdR h9 t (f (sA s)).2) {v : Int32} (ex : v.toInt = (f (sA s)).1) (f0 : FrX (inC x m) h h9) : S_X9_adopt l D 9 191 [.ref x, .int v] h9 (QI fun y h' => y = v ∧ CSt h' x m (actP f s).2 ∧ FrX (inC x m) h h' ∧ (V → NSh h' x)) := by
  by_cases hv : V
  · have x0 : 0 < x := S9.2.1.2.2.1
    obtain ⟨t', et', F4, tb⟩ := S9.trial
    have tt : t' = t := by rw [et] at et'; cases et'; rfl
    subst tt
    refine (Sp.ns (P := fun r => ∃ y : Int32, r = some (.int y) ∧ y = v) (s' := (actP f s).2) zD S9 (n9 hv) (fun S1 => (cl_adopt (h := sr h9 0 0 (some 0)) hva S1 (by rw [gr_sr, if_neg (by omega)]; exact et) (Ht.frX (FrX.rf.sr (S := fun b => b = 0) (Or.inl rfl)) (fun b hb (q : b = 0) => by unfold inH at hb; omega) tb.2.2) ex FrX.rf).mono (fun r h' hp => ?_))).mono (fun r h' hp => ?_)
    · obtain ⟨y, rfl, ey, S', f'⟩ := hp
      exact ⟨⟨y, rfl, ey⟩, S', f'⟩
    · obtain ⟨⟨y, rfl, ey⟩, S', f', n'⟩ := hp
      exact ⟨y, rfl, ey, S', f0.tr f', fun _ => n'⟩
  · refine (cl_adopt hva S9 et Ht ex f0).mono (fun r h' hp => ?_)
    obtain ⟨y, rfl, ey, S', f'⟩ := hp
    exact ⟨y, rfl, ey, S', f', fun w => absurd w hv⟩
theorem cl_hasWayE2 (S : CSt h x m s) {n v : Int32} {w : Nat} (n1 : 2 ≤ n.toInt) (n2 : n.toInt ≤ 400) (ev : v.toInt = w) (w2 : w ≤ 2) : ∃ k3 n4, k3 ≤ (if w = 2 then shC h x else 0) ∧ n4 ≤ (if w = 2 then shM h x else 0) ∧ S_X9_hasWay l D k3 n4 [.ref x, .int n, .int v] h (QI fun y h' => y.toInt = hw (sA s) n.toInt w ∧ WyH h' x (sA s) n.toInt w ∧ CSt h' x m s ∧ FrX (inC x m) h h') := by
  have i2 : (2 : Int32).toInt = 2 := rfl
  rcases Nat.lt_or_ge w 1 with c | c
  · have e : w = 0 := by omega
    subst e
    have : v = 0 := by rw [i32_eq, ev, i0_t]; rfl
    subst this
    exact ⟨0, 0, Nat.zero_le _, Nat.zero_le _, (cl_hasWay0 S n1).mono (fun y h' hp => by obtain ⟨z, rfl, a, b, c, d, e, f⟩ := hp; exact ⟨z, rfl, a, b, c, f⟩)⟩
  · rcases Nat.lt_or_ge w 2 with c1 | c1
    · have e : w = 1 := by omega
      subst e
      have : v = 1 := by rw [i32_eq, ev, i1_t]; rfl
      subst this
      exact ⟨0, 0, Nat.zero_le _, Nat.zero_le _, (cl_hasWay1 S n1).mono (fun y h' hp => by obtain ⟨z, rfl, a, b, c, d, e, f⟩ := hp; exact ⟨z, rfl, a, b, c, f⟩)⟩
    · have e : w = 2 := by omega
      subst e
      have : v = 2 := by rw [i32_eq, ev, i2]; rfl
      subst this
      exact ⟨shC h x, shM h x, by rw [if_pos rfl]; exact Nat.le_refl _, by rw [if_pos rfl]; exact Nat.le_refl _, (cl_hasWay2 S n1 n2).mono (fun y h' hp => by obtain ⟨z, rfl, a, b, c, d, f⟩ := hp; exact ⟨z, rfl, a, b, c, f⟩)⟩
theorem cb_divides (zD : 0 < D.2.2.size) (S : CSt h x m s) {n v : Int32} {cc9 mm : Nat} (h0 : 9 ≤ cc9) (h1 : 191 ≤ mm) (hC : ((2 ≤ n.toInt ∧ n.toInt ≤ 60) ∧ v.toInt = 2) → 9 + shC h x ≤ cc9 ∧ 191 + shM h x ≤ mm) : S_X9_divides l D cc9 mm [.ref x, .int n, .int v] h (QI fun y h' => y.toInt = (dividesP s n.toInt v.toInt).1 ∧ CSt h' x m (dividesP s n.toInt v.toInt).2 ∧ FrX (inC x m) h h' ∧ (((2 ≤ n.toInt ∧ n.toInt ≤ 60) ∧ v.toInt = 2) → NSh h' x)) := Sp.of rfl (Nat.le_of_ble_eq_true rfl) (fun X C _ hD hmc hms => V_X9_divides_0 C (by
  have i2 : (2 : Int32).toInt = 2 := rfl
  have i60 : (60 : Int32).toInt = 60 := rfl
  have VA' := S.2.2.2.2.1.1
  unfold dividesP
  refine ⟨fun q => ⟨_, rfl, ?_⟩, fun q => ⟨fun q1 => ⟨S.1, ?_⟩, fun q1 => ⟨_, rfl, ?_⟩⟩⟩
  all_goals rw [bt_0, i2, i60] at q
  · rw [if_neg (fun z => q z.1)]; exact ⟨rfl, S, FrX.rf, fun w => False.elim (q w.1)⟩
  all_goals rw [bt_0, i0_t, i2] at q1
  · have hq : (2 ≤ n.toInt ∧ n.toInt ≤ 60) ∧ (0 ≤ v.toInt ∧ v.toInt ≤ 2) := by omega
    rw [if_pos hq]
    obtain ⟨w, ew⟩ : ∃ w : Nat, v.toInt = w := ⟨v.toInt.toNat, by omega⟩
    have ew' : v.toInt.toNat = w := by omega
    rw [ew']
    obtain ⟨k3, n4, b1, b2, hs⟩ := cl_hasWayE2 (l := lX X) (D := dtX X) S (n := n) (v := v) (w := w) hq.1.1 (by omega) ew (by omega)
    have kb : k3 + 9 ≤ mcX X ∧ n4 + 191 ≤ msX X := by
      by_cases w2 : w = 2
      · rw [if_pos w2] at b1 b2; have := hC ⟨hq.1, by omega⟩; exact ⟨by omega, by omega⟩
      · rw [if_neg w2] at b1 b2; exact ⟨by omega, by omega⟩
    clear hC
    refine ⟨k3, n4, by omega, by omega, hs.mono (fun r h2 hp => ?_)⟩
    obtain ⟨y, rfl, hy, W2, S2, x2⟩ := hp
    refine ⟨y, rfl, fun z => ?_, fun z => ⟨_, rfl, ?_⟩⟩
    all_goals rw [i32_eq, hy, i0_t] at z
    · rw [if_neg z]
      obtain ⟨a, ea, Ha, -⟩ := S2.now
      obtain ⟨t, et, Ft, bt, -⟩ := S2.trial
      obtain ⟨n12, g12⟩ := nn_of ea
      obtain ⟨n13, g13⟩ := nn_of et
      rw [g12, g13]
      have h4 := (S2.2.2.1.1 1 t (by omega) et).1
      refine ⟨S2.1, n13, n12, Ft, (sp_copyFrom h4 Ha VA' (by have := S2.nt ea et; omega)).mono (fun r h10 hp => ?_)⟩
      obtain ⟨rfl, H10, f10⟩ := hp
      obtain ⟨S10, p10, x10⟩ := S2.onTrial et f10
      have T10 : DvT h10 x m t s (sA s) n.toInt w := by
        refine ⟨S10, by rw [f10.2.2.2.1]; exact et, H10, W2.same (fun b j h1 h2 => (f10.2.2.2.2 b (fun z => by unfold inH at z; omega) j).1) (by rw [f10.2.2.2.1]) (fun sh e14 F => ⟨St5_same F f10.2.1 f10.2.2.1 f10.2.2.2.1, fun b j h1 h2 => (f10.2.2.2.2 b (fun z => ?_) j).1⟩)⟩
        obtain ⟨ok, q2, q3, q4⟩ := S2.2.2.2.2.2.2.2.2 sh e14
        have dj := q4 1 t (by omega) et
        unfold inH at z; omega
      obtain ⟨n10, g10⟩ := nn_of T10.2.1
      refine ⟨rfl, S10.1, n10, by rw [g10]; exact H10.1, ?_⟩
      rw [g10]
      refine (sp_wipeAll H10 VA'.marks.1).mono (fun r h14 hp => ?_)
      obtain ⟨y14, rfl, -, H14, f14⟩ := hp
      obtain ⟨T14, x14⟩ := T10.step f14 H14
      obtain ⟨n14, g14⟩ := nn_of T14.2.1
      refine ⟨y14, rfl, T14.1.1, n14, by rw [g14]; exact H14.1, ?_⟩
      rw [g14]
      refine (sp_takeOut H14).mono (fun r h19 hp => ?_)
      obtain ⟨y19, rfl, -, H19, f19⟩ := hp
      obtain ⟨T19, x19⟩ := T14.step f19 H19
      have X19 := ((x2.tr x10).tr x14).tr x19
      have V19 : VA (takeOutP (wipeP (sA s)).2).2 := VA.takeOut VA'.wipe
      -- the end
      have fin : ∀ (k i : Nat) (h' : Hp), k + 9 ≤ mcX X → i + 191 ≤ msX X → DvT h' x m t s (dvE (sA s) n.toInt w) n.toInt w → FrX (inC x m) h h' → St9 h' x ∧ ∃ k3 n4, k + k3 ≤ mcX X ∧ i + n4 ≤ msX X ∧ S_X9_adopt (lX X) (dtX X) k3 n4 [.ref x, .int 0] h' (QI fun x5 h2 => St9 h2 x ∧ nn h2 x 12 ∧ S_X3_look (lX X) (dtX X) 0 0 [.ref (x + 9), .ref (gp h2 x 12)] h2 (QV fun h8 => St9 h8 x ∧ nn h8 x 12 ∧ St4 h8 (gp h8 x 12) ∧ ((¬ (gl h8 ((gp h8 x 12) + 2) 0) = 0 → Wj X (k + k3) (i + n4) (QI fun y h' => y.toInt = dvE (sA s) n.toInt w 0 7 ∧ CSt h' x m (rowS (pushS s (dvE (sA s) n.toInt w)) [if dvE (sA s) n.toInt w 0 10 = 0 then 1 else 0, if cntG (dvE (sA s) n.toInt w) (dvE (sA s) n.toInt w 0 7).toNat = 1 then 1 else 0]) ∧ FrX (inC x m) h h' ∧ (((2 ≤ n.toInt ∧ n.toInt ≤ 60) ∧ v.toInt = 2) → NSh h' x)) 143 [(0, .ref x)] [.long 0, .ref (x + 3)] (tcl h8 (x + 3))) ∧ ((gl h8 ((gp h8 x 12) + 2) 0) = 0 → Wj X (k + k3) (i + n4) (QI fun y h' => y.toInt = dvE (sA s) n.toInt w 0 7 ∧ CSt h' x m (rowS (pushS s (dvE (sA s) n.toInt w)) [if dvE (sA s) n.toInt w 0 10 = 0 then 1 else 0, if cntG (dvE (sA s) n.toInt w) (dvE (sA s) n.toInt w 0 7).toNat = 1 then 1 else 0]) ∧ FrX (inC x m) h h' ∧ (((2 ≤ n.toInt ∧ n.toInt ≤ 60) ∧ v.toInt = 2) → NSh h' x)) 143 [(0, .ref x)] [.long 1, .ref (x + 3)] (tcl h8 (x + 3)))))) := by
        intro k i h' hk hi T' x'
        refine ⟨T'.1.1, 9, 191, hk, hi, (cl_adoptV (V := ((2 ≤ n.toInt ∧ n.toInt ≤ 60) ∧ v.toInt = 2)) (by rw [hD]; exact zD) (f := fun A => ((0 : Int), dvE A n.toInt w)) (fun A V => dvL_va V) T'.1 (fun w9 => T'.2.2.2.ns (by have := w9.2; omega)) T'.2.1 T'.2.2.1 (v := 0) rfl x').mono (fun r h3 hp => ?_)⟩
        obtain ⟨y3, rfl, -, S3, x3, ns3⟩ := hp
        have ea : (actP (fun A => ((0 : Int), dvE A n.toInt w)) s).2 = pushS s (dvE (sA s) n.toInt w) := by
          unfold actP; dsimp only; rw [if_pos (Int.le_refl 0)]
        rw [ea] at S3
        generalize hE : dvE (sA s) n.toInt w = E at *
        have eE : sA (pushS s E) = E := rfl
        obtain ⟨a3, ea3, H3, ba3⟩ := S3.now
        rw [eE] at H3
        have VE : VA E := S3.2.2.2.2.1.1
        obtain ⟨n3, g3⟩ := nn_of ea3
        refine ⟨y3, rfl, S3.1, n3, ?_⟩
        rw [g3]
        refine (cl_look3 (g := x + 9) (St9_s5 S3.1) H3 VE (by omega)).mono (fun r h8 hp => ?_)
        obtain ⟨rfl, gl8, f8⟩ := hp
        obtain ⟨S8, p8, x8⟩ := S3.scr f8 (fun b j q => Or.inl (by have := q.1; omega)) (fun b j q => by unfold gR at q; omega)
        have ea8 : gr h8 x 12 = some a3 := by rw [f8.2.2.2.1]; exact ea3
        obtain ⟨n8, g8⟩ := nn_of ea8
        obtain ⟨a8, ea8', H8, ba8⟩ := S8.now
        have e8 : a8 = a3 := by rw [ea8] at ea8'; cases ea8'; rfl
        subst e8
        rw [eE] at H8
        have c1 := gl8.1
        refine ⟨rfl, S8.1, n8, by rw [g8]; exact H8.1, ?_⟩
        rw [g8]
        have up : (gl h8 (a8 + 2) 0).toInt = E 0 10 := H8.2.2.2.2.2.1
        have l0 : (0 : Int64).toInt = 0 := rfl
        have l1 : (1 : Int64).toInt = 1 := rfl
        have fc : FrW (dI (x + 3)) (dL (x + 3)) h8 (tcl h8 (x + 3)) := FrW.rf.tcl
        have F9 : St9 (tcl h8 (x + 3)) x := St9_same S8.1 fc.2.1 fc.2.2.1 fc.2.2.2.1
        have rest : ∀ (u : Int64), (u.toInt = if E 0 10 = 0 then 1 else 0) → Wj X (k + 9) (i + 191) (QI fun y h' => y.toInt = E 0 7 ∧ CSt h' x m (rowS (pushS s E) [if E 0 10 = 0 then 1 else 0, if cntG E (E 0 7).toNat = 1 then 1 else 0]) ∧ FrX (inC x m) h h' ∧ (((2 ≤ n.toInt ∧ n.toInt ≤ 60) ∧ v.toInt = 2) → NSh h' x)) 143 [(0, .ref x)] [.long u, .ref (x + 3)] (tcl h8 (x + 3)) := by
          intro u eu
          refine V_X9_divides_143 C ⟨St9_s1 F9, (cl_add (L := []) (St9_s1 F9) TdC.clr (by decide) eu).mono (fun r h10 hp => ?_)⟩
          obtain ⟨rfl, t10, f10⟩ := hp
          have g10 := fc.tr f10
          have F10 : St9 h10 x := St9_same S8.1 g10.2.1 g10.2.2.1 g10.2.2.2.1
          have ck : (gi h10 (x + 9) 0).toInt = (cntG E (E 0 7).toNat : Nat) := by rw [g10.xi (fun q => by have := q.1; omega)]; exact c1
          have last : ∀ (u2 : Int64), (u2.toInt = if cntG E (E 0 7).toNat = 1 then 1 else 0) → Wj X (k + 9) (i + 191) (QI fun y h' => y.toInt = E 0 7 ∧ CSt h' x m (rowS (pushS s E) [if E 0 10 = 0 then 1 else 0, if cntG E (E 0 7).toNat = 1 then 1 else 0]) ∧ FrX (inC x m) h h' ∧ (((2 ≤ n.toInt ∧ n.toInt ≤ 60) ∧ v.toInt = 2) → NSh h' x)) 166 [(0, .ref x)] [.long u2, .ref (x + 3)] h10 := by
            intro u2 eu2
            refine V_X9_divides_166 C ⟨St9_s1 F10, (cl_add (St9_s1 F10) t10 (by simp) eu2).mono (fun r h12 hp => ?_)⟩
            obtain ⟨rfl, t12, f12⟩ := hp
            obtain ⟨S12, p12, x12⟩ := S8.row (g10.tr f12) t12
            obtain ⟨a12, ea12, H12, -⟩ := S12.now
            obtain ⟨n12, g12⟩ := nn_of ea12
            have e7 : (gi h12 a12 7).toInt = E 0 7 := H12.2.1 7 (by omega)
            refine ⟨rfl, S12.1, n12, by rw [g12]; exact H12.1, ?_⟩
            rw [g12]
            exact ⟨_, rfl, e7, S12, (x3.tr x8).tr x12, fun w9 => ((ns3 w9).fw f8).fw (g10.tr f12)⟩
          refine ⟨rfl, F10, fun z => last 0 ?_, fun z => last 1 ?_⟩
          all_goals rw [i32_eq, ck, i1_t] at z
          · rw [if_neg (by omega)]; rfl
          · rw [if_pos (by omega)]; rfl
        refine ⟨fun z => rest 0 ?_, fun z => rest 1 ?_⟩
        all_goals rw [i64_eq, up, l0] at z
        · rw [if_neg z]; rfl
        · rw [if_pos z]; rfl
      -- the loop
      have key : ∀ (d c k i : Nat) (h' : Hp) (v3 : Int32), k + 9 ≤ mcX X → i + 191 ≤ msX X → (c : Int) + d = n.toInt → v3.toInt = c → DvT h' x m t s (dvL (sA s) n.toInt w c) n.toInt w → FrX (inC x m) h h' → Wj X k i (QI fun y h' => y.toInt = dvE (sA s) n.toInt w 0 7 ∧ CSt h' x m (rowS (pushS s (dvE (sA s) n.toInt w)) [if dvE (sA s) n.toInt w 0 10 = 0 then 1 else 0, if cntG (dvE (sA s) n.toInt w) (dvE (sA s) n.toInt w 0 7).toNat = 1 then 1 else 0]) ∧ FrX (inC x m) h h' ∧ (((2 ≤ n.toInt ∧ n.toInt ≤ 60) ∧ v.toInt = 2) → NSh h' x)) 71 [(0, .ref x), (1, .int n), (2, .int v), (3, .int v3)] [] h' := by
        intro d
        induction d with
        | zero =>
          intro c k i h' v3 hk hi hd e3 T' x'
          have ec : c = n.toInt.toNat := by omega
          refine V_X9_divides_71 C ⟨fun _ => fin k i h' hk hi (by unfold dvE; rw [← ec]; exact T') x', fun z => absurd (by rw [i32_le]; omega) z⟩
        | succ d ih =>
          intro c k i h' v3 hk hi hd e3 T' x'
          have V' : VA (dvL (sA s) n.toInt w c) := dvL_va VA'
          obtain ⟨n', g'⟩ := nn_of T'.2.1
          refine V_X9_divides_71 C ⟨fun z => by rw [i32_le] at z; omega, fun _ => ⟨T'.1.1, n', by rw [g']; exact T'.2.2.1.1, ?_⟩⟩
          rw [g']
          refine (sp_scribe T'.2.2.1 V').mono (fun r h16 hp => ?_)
          obtain ⟨y16, rfl, -, H16, f16⟩ := hp
          obtain ⟨T16, x16⟩ := T'.step f16 H16
          refine ⟨y16, rfl, T16.1.1, (cl_windWay T16 V'.scribe (v := v) ew (by omega) hq.1.1 (by omega) z).mono (fun r h19 hp => ?_)⟩
          obtain ⟨rfl, T19', x19'⟩ := hp
          exact ⟨rfl, ih (c + 1) k i h19 _ hk hi (by omega) (by rw [(ix_succ (i := v3) (by omega) (by omega)).2]; omega) T19' ((x'.tr x16).tr x19')⟩
      refine ⟨y19, rfl, fun q2 => ?_, fun q2 => ⟨T19.1.1, 0, 0, by omega, by omega, ?_⟩⟩
      all_goals rw [i32_eq, ew, i2] at q2
      · refine key n.toInt.toNat 0 _ _ h19 0 (by omega) (by omega) (by omega) rfl ?_ X19
        show DvT h19 x m t s (dvB (sA s) n.toInt w) n.toInt w
        unfold dvB; rw [if_neg (by omega)]; exact T19
      · have e2 : w = 2 := by omega
        subst e2
        refine (cl_putDif T19 V19 z).mono (fun r h22 hp => ?_)
        obtain ⟨rfl, T22, x22⟩ := hp
        refine ⟨rfl, key n.toInt.toNat 0 _ _ h22 0 (by omega) (by omega) (by omega) rfl ?_ (X19.tr x22)⟩
        show DvT h22 x m t s (dvB (sA s) n.toInt 2) n.toInt 2
        unfold dvB; rw [if_pos rfl]; exact T22
    · rw [if_pos z]; exact ⟨rfl, S2, x2, fun w9 => W2.ns (by have := w9.2; omega)⟩
  · rw [if_neg (fun z => q1 z.2)]; exact ⟨rfl, S, FrX.rf, fun w => False.elim (q1 (by have := w.2; omega))⟩))
theorem cc_train (z : 0 < D.2.2.size) (S : CSt h x m s) {p q : Int32} : ∃ k3 n4, k3 ≤ 9 + shC h x ∧ n4 ≤ 191 + shM h x ∧ S_X9_train l D k3 n4 [.ref x, .int p, .int q] h (CP (trainP s p.toInt q.toInt).1 (trainP s p.toInt q.toInt).2 k3 n4 h x m) :=
  Sp.shelf (c0 := 0) (m0 := 0) (V := ((1 ≤ p.toInt ∧ p.toInt ≤ 400) ∧ 1 ≤ q.toInt ∧ q.toInt ≤ 400)) (by decide) (by decide) z S (fun _ S => by rw [Nat.zero_add, Nat.zero_add]; exact ca_train S) (fun _ _ h0 h1 hC => cb_train S (p := p) (q := q) h0 h1 hC)
theorem cc_nearest (z : 0 < D.2.2.size) (S : CSt h x m s) {p q : Int32} : ∃ k3 n4, k3 ≤ 9 + shC h x ∧ n4 ≤ 191 + shM h x ∧ S_X9_nearest l D k3 n4 [.ref x, .int p, .int q] h (CP (nearestP s p.toInt q.toInt).1 (nearestP s p.toInt q.toInt).2 k3 n4 h x m) :=
  Sp.shelf (c0 := 0) (m0 := 0) (V := ((1 ≤ p.toInt ∧ p.toInt ≤ 400) ∧ 1 ≤ q.toInt ∧ q.toInt ≤ 400)) (by decide) (by decide) z S (fun _ S => by rw [Nat.zero_add, Nat.zero_add]; exact ca_nearest S) (fun _ _ h0 h1 hC => cb_nearest S (p := p) (q := q) h0 h1 hC)
theorem cc_lead (z : 0 < D.2.2.size) (S : CSt h x m s) {v : Int32} : ∃ k3 n4, k3 ≤ 9 + shC h x ∧ n4 ≤ 191 + shM h x ∧ S_X9_lead l D k3 n4 [.ref x, .int v] h (CP (leadP s v.toInt).1 (leadP s v.toInt).2 k3 n4 h x m) :=
  Sp.shelf (c0 := 0) (m0 := 0) (V := (1 ≤ v.toInt ∧ v.toInt ≤ 20000)) (by decide) (by decide) z S (fun _ S => by rw [Nat.zero_add, Nat.zero_add]; exact ca_lead S) (fun _ _ h0 h1 hC => cb_lead S (v := v) h0 h1 hC)
theorem cc_differential (z : 0 < D.2.2.size) (S : CSt h x m s) {n : Int32} : ∃ k3 n4, k3 ≤ 9 + shC h x ∧ n4 ≤ 191 + shM h x ∧ S_X9_differential l D k3 n4 [.ref x, .int n] h (CP (differentialP s n.toInt).1 (differentialP s n.toInt).2 k3 n4 h x m) :=
  Sp.shelf (c0 := 0) (m0 := 0) (V := (2 ≤ n.toInt ∧ n.toInt ≤ 400)) (by decide) (by decide) z S (fun _ S => by rw [Nat.zero_add, Nat.zero_add]; exact ca_differential S) (fun _ _ h0 h1 hC => cb_differential S (n := n) h0 h1 hC)
theorem cc_ratios (z : 0 < D.2.2.size) (S : CSt h x m s)  : ∃ k3 n4, k3 ≤ 9 + shC h x ∧ n4 ≤ 191 + shM h x ∧ S_X9_ratios l D k3 n4 [.ref x] h (CP (ratiosP s).1 (ratiosP s).2 k3 n4 h x m) :=
  Sp.shelf (c0 := 0) (m0 := 0) (V := True) (by decide) (by decide) z S (fun _ S => by rw [Nat.zero_add, Nat.zero_add]; exact ca_ratios S) (fun _ _ h0 h1 hC => cb_ratios S  h0 h1 hC)
theorem cc_ways (z : 0 < D.2.2.size) (S : CSt h x m s) {n : Int32} : ∃ k3 n4, k3 ≤ 9 + shC h x ∧ n4 ≤ 191 + shM h x ∧ S_X9_ways l D k3 n4 [.ref x, .int n] h (CP (waysP s n.toInt).1 (waysP s n.toInt).2 k3 n4 h x m) :=
  Sp.shelf (c0 := 0) (m0 := 0) (V := (2 ≤ n.toInt ∧ n.toInt ≤ 400)) (by decide) (by decide) z S (fun _ S => by rw [Nat.zero_add, Nat.zero_add]; exact ca_ways S) (fun _ _ h0 h1 hC => cb_ways S (n := n) h0 h1 hC)
theorem cc_hard (z : 0 < D.2.2.size) (S : CSt h x m s) {lo hi : Int32} : ∃ k3 n4, k3 ≤ 9 + shC h x ∧ n4 ≤ 191 + shM h x ∧ S_X9_hard l D k3 n4 [.ref x, .int lo, .int hi] h (CP (hardP s lo.toInt hi.toInt).1 (hardP s lo.toInt hi.toInt).2 k3 n4 h x m) :=
  Sp.shelf (c0 := 0) (m0 := 0) (V := (((2 ≤ lo.toInt ∧ lo.toInt ≤ 400) ∧ (2 ≤ hi.toInt ∧ hi.toInt ≤ 400) ∧ lo.toInt ≤ hi.toInt ∧ hi.toInt - lo.toInt < 60) ∧ sumN (hdH (sA s)) lo.toInt (hi.toInt - lo.toInt + 1).toNat ≠ 0)) (by decide) (by decide) z S (fun _ S => by rw [Nat.zero_add, Nat.zero_add]; exact ca_hard S) (fun _ _ h0 h1 hC => cb_hard S (lo := lo) (hi := hi) h0 h1 hC)
theorem cc_divides (z : 0 < D.2.2.size) (S : CSt h x m s) {n v : Int32} : ∃ k3 n4, k3 ≤ 9 + shC h x ∧ n4 ≤ 191 + shM h x ∧ S_X9_divides l D k3 n4 [.ref x, .int n, .int v] h (CP (dividesP s n.toInt v.toInt).1 (dividesP s n.toInt v.toInt).2 k3 n4 h x m) :=
  Sp.shelf (c0 := 9) (m0 := 191) (V := ((2 ≤ n.toInt ∧ n.toInt ≤ 60) ∧ v.toInt = 2)) (by decide) (by decide) z S (fun _ S => ca_divides S) (fun _ _ h0 h1 hC => cb_divides z S (n := n) (v := v) h0 h1 hC)
end NshD
