-- day() of the class
section CDz
variable {X : Ctx} {l : Launch} {D : Dt} {h : Hp} {x m t : Nat} {Q : Pq} {A B : HV} {s : Sv} {T : List Int}
theorem wr_dg {p : Nat} (w : wr T p = none) : (tsg T p = 117 ∨ tsg T p = 116 ∨ tsg T p = 98 ∨ tsg T p = 103 → dg T (p + 1) ∧ dg T (p + 2)) ∧ (tsg T p = 116 ∨ tsg T p = 98 ∨ tsg T p = 103 → dg T (p + 3) ∧ dg T (p + 4)) := by
  obtain ⟨-, wd, -⟩ := wr_none w
  refine ⟨fun c => ?_, fun c => ?_⟩
  · have d2 : 2 ≤ actD (tsg T p) := by
      rcases c with e | e | e | e <;> rw [e] <;> decide
    have a := wd 0 (by omega)
    have b := wd 1 (by omega)
    exact ⟨a, b⟩
  · have d4 : 4 ≤ actD (tsg T p) := by
      rcases c with e | e | e <;> rw [e] <;> decide
    have a := wd 2 (by omega)
    have b := wd 3 (by omega)
    exact ⟨a, b⟩
theorem dg2 {p : Nat} (a : dg T p) (b : dg T (p + 1)) : ∀ i, i < 2 → dg T (p + i) := fun i hi => by
  have : i = 0 ∨ i = 1 := by omega
  rcases this with e | e <;> rw [e]
  · exact a
  · exact b
theorem cl_doAct {p : Nat} (r : RdC h x t T) (H : HdR h t B) (V : VA B) (hp : p < T.length) (w : wr T p = none) {v : Int32} (ev : v.toInt = p) : S_X9_doAct l D 0 0 [.ref x, .int v] h (QI fun y h' => y.toInt = (doA T p B).1 ∧ HdR h' t (doA T p B).2 ∧ FrO (inH t) h h') := Sp.of rfl (Nat.le_of_ble_eq_true rfl) (fun X C _ _ _ _ => V_X9_doAct_0 C (by
  obtain ⟨r1, r2, r3, r4⟩ := id r
  obtain ⟨n13, g13⟩ := nn_of r3
  have tl := r2.2.1
  have es := r2.sgn ev
  obtain ⟨a0, -, wg⟩ := wr_none w
  obtain ⟨w1, w3⟩ := wr_dg w
  have lt := actL_ne a0
  have i2 : (2 : Int32).toInt = 2 := rfl
  have i3 : (3 : Int32).toInt = 3 := rfl
  have i5 : (5 : Int32).toInt = 5 := rfl
  have i43 : (43 : Int32).toInt = 43 := rfl
  have e1 : (v + 1).toInt = (p + 1 : Nat) := by rw [iadd_t] <;> rw [ev, i1_t] <;> omega
  have e3 : (v + 3).toInt = (p + 3 : Nat) := by rw [iadd_t] <;> rw [ev, i3] <;> omega
  have e5 : (v + 5).toInt = (p + 5 : Nat) := by rw [iadd_t] <;> rw [ev, i5] <;> omega
  have s5 := r2.sgn e5
  rw [g13]
  -- a letter that is none
  have no : ∀ k : Int32, (k.toInt ≠ 117 ∧ k.toInt ≠ 116 ∧ k.toInt ≠ 98 ∧ k.toInt ≠ 99 ∧ k.toInt ≠ 119 ∧ k.toInt ≠ 103 ∧ k.toInt ≠ 111) → tAt h (x + 1) v = k → (QI fun y h' => y.toInt = (doA T p B).1 ∧ HdR h' t (doA T p B).2 ∧ FrO (inH t) h h') (some (.int (-1))) h := fun k hk z => by
    exfalso
    rw [i32_eq, es] at z; omega
  have nu1 : dg T (p + 1) ∧ dg T (p + 2) → S_X7_number (lX X) (dtX X) 0 0 [.ref (x + 1), .int (v + 1), .int 2] h (QI fun y h' => y.toInt = nm2 T (p + 1) ∧ h' = h) := fun d => by
    have := cl_number (l := lX X) (D := dtX X) (St9_s0 r1) r2 e1 (v := 2) (n := 2) i2 (by omega) (by omega) (dg2 d.1 d.2)
    rw [nmN_2] at this; exact this
  have nu3 : dg T (p + 3) ∧ dg T (p + 4) → S_X7_number (lX X) (dtX X) 0 0 [.ref (x + 1), .int (v + 3), .int 2] h (QI fun y h' => y.toInt = nm2 T (p + 3) ∧ h' = h) := fun d => by
    have := cl_number (l := lX X) (D := dtX X) (St9_s0 r1) r2 e3 (v := 2) (n := 2) i2 (by omega) (by omega) (dg2 d.1 d.2)
    rw [nmN_2] at this; exact this
  refine ⟨r1, ?_, ?_, no 100 (by decide), no 101 (by decide), no 102 (by decide), ?_, no 104 (by decide), no 105 (by decide), no 106 (by decide), no 107 (by decide), no 108 (by decide), no 109 (by decide), no 110 (by decide), ?_, no 112 (by decide), no 113 (by decide), no 114 (by decide), no 115 (by decide), ?_, ?_, no 118 (by decide), ?_, ?_⟩
  · intro z
    have z : tsg T p = 98 := by rw [i32_eq, es] at z; exact z
    refine ⟨n13, (nu1 (w1 (by omega))).mono (fun _ h2 hp => ?_)⟩
    obtain ⟨y1, rfl, ey1, eh2⟩ := hp
    rw [eh2]
    refine ⟨y1, rfl, r1, (nu3 (w3 (by omega))).mono (fun _ h3 hp => ?_)⟩
    obtain ⟨y2, rfl, ey2, eh3⟩ := hp
    rw [eh3]
    refine ⟨y2, rfl, H.1, (sp_wind H V).mono (fun _ h4 hp => ?_)⟩
    obtain ⟨y, rfl, ey, H4, f4⟩ := hp
    rw [ey1, ey2, show (1 : Int32).toInt = 1 from rfl, ← doA_b z] at ey H4
    exact ⟨y, rfl, y, rfl, ey, H4, f4⟩
  · intro z
    have z : tsg T p = 99 := by rw [i32_eq, es] at z; exact z
    refine ⟨n13, H.1, (sp_scribe H V).mono (fun _ h4 hp => ?_)⟩
    obtain ⟨y, rfl, ey, H4, f4⟩ := hp
    rw [← doA_c z] at ey H4
    exact ⟨y, rfl, y, rfl, ey, H4, f4⟩
  · intro z
    have z : tsg T p = 103 := by rw [i32_eq, es] at z; exact z
    refine ⟨n13, (nu1 (w1 (by omega))).mono (fun _ h2 hp => ?_)⟩
    obtain ⟨y1, rfl, ey1, eh2⟩ := hp
    rw [eh2]
    refine ⟨y1, rfl, r1, (nu3 (w3 (by omega))).mono (fun _ h3 hp => ?_)⟩
    obtain ⟨y2, rfl, ey2, eh3⟩ := hp
    rw [eh3]
    have ed := doA_g (B := B) z
    refine ⟨y2, rfl, r1, fun q => ⟨H.1, (sp_putIn H V).mono (fun _ h4 hp => ?_)⟩, fun q => ⟨H.1, (sp_putIn H V).mono (fun _ h4 hp => ?_)⟩⟩
    all_goals
      obtain ⟨y, rfl, ey, H4, f4⟩ := hp
      rw [i32_eq, s5, i43] at q
    · rw [if_neg q] at ed
      rw [ey1, ey2, im1_t, ← ed] at ey H4
      exact ⟨y, rfl, y, rfl, ey, H4, f4⟩
    · rw [if_pos q] at ed
      rw [ey1, ey2, im1_t, i1_t, ← ed] at ey H4
      exact ⟨y, rfl, y, rfl, ey, H4, f4⟩
  · intro z
    have z : tsg T p = 111 := by rw [i32_eq, es] at z; exact z
    refine ⟨n13, H.1, (sp_takeOut H).mono (fun _ h4 hp => ?_)⟩
    obtain ⟨y, rfl, ey, H4, f4⟩ := hp
    rw [← doA_o z] at ey H4
    exact ⟨y, rfl, y, rfl, ey, H4, f4⟩
  · intro z
    have z : tsg T p = 116 := by rw [i32_eq, es] at z; exact z
    refine ⟨n13, (nu1 (w1 (by omega))).mono (fun _ h2 hp => ?_)⟩
    obtain ⟨y1, rfl, ey1, eh2⟩ := hp
    rw [eh2]
    refine ⟨y1, rfl, r1, (nu3 (w3 (by omega))).mono (fun _ h3 hp => ?_)⟩
    obtain ⟨y2, rfl, ey2, eh3⟩ := hp
    rw [eh3]
    refine ⟨y2, rfl, H.1, (sp_wind H V).mono (fun _ h4 hp => ?_)⟩
    obtain ⟨y, rfl, ey, H4, f4⟩ := hp
    rw [ey1, ey2, i0_t, ← doA_t z] at ey H4
    exact ⟨y, rfl, y, rfl, ey, H4, f4⟩
  · intro z
    have z : tsg T p = 117 := by rw [i32_eq, es] at z; exact z
    refine ⟨n13, (nu1 (w1 (by omega))).mono (fun _ h2 hp => ?_)⟩
    obtain ⟨y1, rfl, ey1, eh2⟩ := hp
    rw [eh2]
    refine ⟨y1, rfl, H.1, (sp_choose H).mono (fun _ h4 hp => ?_)⟩
    obtain ⟨y, rfl, ey, H4, f4⟩ := hp
    rw [ey1, ← doA_u z] at ey H4
    exact ⟨y, rfl, y, rfl, ey, H4, f4⟩
  · intro z
    have z : tsg T p = 119 := by rw [i32_eq, es] at z; exact z
    refine ⟨n13, H.1, (sp_wipeAll H V.marks.1).mono (fun _ h4 hp => ?_)⟩
    obtain ⟨y, rfl, ey, H4, f4⟩ := hp
    rw [← doA_w z] at ey H4
    exact ⟨y, rfl, y, rfl, ey, H4, f4⟩
  · intro a1 a2 _ _ _ a6 _ _ _ _ _ _ _ a14 _ _ _ _ a19 a20 _ a22
    exfalso
    rw [i32_eq, es] at a1 a2 a6 a14 a19 a20 a22
    have b1 : tsg T p ≠ 98 := a1
    have b2 : tsg T p ≠ 99 := a2
    have b6 : tsg T p ≠ 103 := a6
    have b14 : tsg T p ≠ 111 := a14
    have b19 : tsg T p ≠ 116 := a19
    have b20 : tsg T p ≠ 117 := a20
    have b22 : tsg T p ≠ 119 := a22
    omega))
theorem dayP_bad {q : Nat} (e : rdD (sT s) ((sT s).length + 1) 0 = some q) : dayP s = (-1 - (q : Int), txtS s []) := by unfold dayP; rw [e]
theorem dayP_go (e : rdD (sT s) ((sT s).length + 1) 0 = none) : dayP s = dayS s (exD (sT s) ((sT s).length + 1) 0 (sA s) 0) := by unfold dayP; rw [e]
theorem cl_notext (S : CSt h x m s) : CSt (si h (x + 1) 1 0) x m (txtS s []) ∧ FrX (inC x m) h (si h (x + 1) 1 0) := by
  have F1 : FrW (fun b j => b = x + 1 ∧ j = 1 ∨ b = x + 2) (fun _ _ => False) h (si h (x + 1) 1 0) := FrW.si (P := fun b j => b = x + 1 ∧ j = 1 ∨ b = x + 2) (R := fun _ _ => False) FrW.rf (Or.inl ⟨rfl, rfl⟩)
  have t1 : TxC (si h (x + 1) 1 0) (x + 1) [] := ⟨by rw [gi_si, if_pos ⟨rfl, rfl⟩]; rfl, by simp, fun i hi => by simp at hi⟩
  obtain ⟨S1, p1, x1⟩ := S.txt F1 t1
  exact ⟨S1, x1⟩
theorem ca_day (S : CSt h x m s) : S_X9_day l D 9 191 [.ref x] h (QI fun y h' => y.toInt = (dayP s).1 ∧ CSt h' x m (dayP s).2 ∧ FrX (inC x m) h h') := Sp.of rfl (Nat.le_of_ble_eq_true rfl) (fun X C _ _ hmc hms => V_X9_day_0 C (by
  have V := S.2.2.2.2.1.1
  have tx := S.2.2.2.2.2.2.2.1
  have tl := tx.2.1
  have i80 : (80 : Int32).toInt = 80 := rfl
  obtain ⟨a0, ea, Ha, -⟩ := S.now
  obtain ⟨t, et, Ft, bt⟩ := S.trial
  obtain ⟨n12, g12⟩ := nn_of ea
  obtain ⟨n13, g13⟩ := nn_of et
  refine ⟨S.1, (cl_firstWrong S.1 tx).mono (fun _ h2 hp => ?_)⟩
  obtain ⟨y, rfl, ey, eh⟩ := hp
  rw [eh]
  cases er : rdD (sT s) ((sT s).length + 1) 0 with
  | some q =>
    rw [er] at ey
    have ey : y.toInt = q := ey
    rw [dayP_bad er]
    have yb := b32 y
    refine ⟨y, rfl, fun z => ?_, fun _ => ⟨S.1, _, rfl, ?_⟩⟩
    · exfalso
      rw [i32_eq, ey, im1_t] at z; omega
    · obtain ⟨S1, x1⟩ := cl_notext S
      refine ⟨?_, S1, x1⟩
      rw [isub_t] <;> rw [im1_t, ey] <;> omega
  | none =>
    rw [er] at ey
    have ey : y.toInt = -1 := ey
    rw [dayP_go er]
    refine ⟨y, rfl, fun _ => ⟨S.1, n13, n12, by rw [g13]; exact Ft, ?_⟩, fun z => absurd (by rw [i32_eq, ey]; rfl) z⟩
    rw [g12, g13]
    refine (cl_copy S ea et).mono (fun _ h5 hp => ?_)
    obtain ⟨rfl, Ht, S5, et5, ea5, x5⟩ := hp
    refine ⟨rfl, ?_⟩
    generalize hT : sT s = T at *
    have R5 : RdC h5 x t T := ⟨S5.1, by rw [← hT]; exact S5.2.2.2.2.2.2.2.1, et5, bt.1⟩
    generalize hG : exD T (T.length + 1) 0 (sA s) 0 = G at *
    -- behind the acts
    have p124 : ∀ (k1 k2 : Nat) (s' : Sv) (h' : Hp) (v2 v3 : Int32), CSt h' x m s' → FrX (inC x m) h h' → v2.toInt = G.1 → v3.toInt = G.2.2 → sA s' 0 7 = G.2.1 0 7 → rowS s' [G.2.2, G.2.1 0 7] = (dayS s G).2 → Wj X k1 k2 (QI fun y h' => y.toInt = (dayS s G).1 ∧ CSt h' x m (dayS s G).2 ∧ FrX (inC x m) h h') 124 [(0, .ref x), (2, .int v2), (3, .int v3)] [] h' := by
      intro k1 k2 s' h' v2 v3 S' x' e2 e3 e7 es
      have ft : FrW (dI (x + 3)) (dL (x + 3)) h' (tcl h' (x + 3)) := FrW.rf.tcl
      have sT9 : ∀ h'', FrW (dI (x + 3)) (dL (x + 3)) h' h'' → St9 h'' x := fun h'' f => St9_same S'.1 f.2.1 f.2.2.1 f.2.2.2.1
      refine V_X9_day_124 C ⟨S'.1, (cl_add (h := tcl h' (x + 3)) (L := []) (St9_s1 (sT9 _ ft)) TdC.clr (by decide) (z := G.2.2) (by rw [i2l_t]; exact e3)).mono (fun _ h6 hp => ?_)⟩
      obtain ⟨rfl, w6, f6⟩ := hp
      have f06 := ft.tr f6
      obtain ⟨S6, p6, x6⟩ := S'.row f06 w6
      obtain ⟨a6, ea6, Ha6, -⟩ := S6.now
      obtain ⟨m12, k12⟩ := nn_of ea6
      have e77 : (gi h6 a6 7).toInt = G.2.1 0 7 := by rw [Ha6.2.1 7 (by omega)]; exact e7
      refine ⟨rfl, S6.1, m12, ?_⟩
      rw [k12]
      refine ⟨Ha6.1, (cl_add (St9_s1 S6.1) w6 (by simp) (z := G.2.1 0 7) (by rw [i2l_t]; exact e77)).mono (fun _ h7 hp => ?_)⟩
      obtain ⟨rfl, w7, f7⟩ := hp
      obtain ⟨S7, p7, x7⟩ := S'.row (f06.tr f7) w7
      refine ⟨rfl, _, rfl, e2, ?_, x'.tr x7⟩
      rw [← es]; exact S7
    have p106 : ∀ (h' : Hp) (v2 v3 : Int32), FrO (inH t) h5 h' → v2.toInt = G.1 → v3.toInt = G.2.2 → HdR h' t G.2.1 → VA G.2.1 → (G.1 = 0 → G.2.1 = sA s) → Wj X 0 0 (QI fun y h' => y.toInt = (dayS s G).1 ∧ CSt h' x m (dayS s G).2 ∧ FrX (inC x m) h h') 106 [(0, .ref x), (2, .int v2), (3, .int v3)] [] h' := by
      intro h' v2 v3 f' e2 e3 H' V' z0
      obtain ⟨S', p', x'⟩ := S5.onTrial et5 f'
      have et' : gr h' x 13 = some t := by rw [f'.2.2.2.1]; exact et5
      refine V_X9_day_106 C ⟨S'.1, fun q => ?_, fun q => ⟨9, 191, by omega, by omega, ?_⟩⟩
      all_goals rw [i32_le, e2, i0_t] at q
      · obtain ⟨S1, x1⟩ := cl_notext S'
        refine p124 0 0 (txtS s []) _ v2 v3 S1 ((x5.tr x').tr x1) e2 e3 (by rw [z0 (by omega)]; rfl) ?_
        unfold dayS
        dsimp only
        rw [if_neg (by omega)]
      · refine (cl_text (f := fun _ => ((G.1 : Int), G.2.1)) S' et' e2 (fun _ => ⟨H', V'⟩)).mono (fun _ h2 hp => ?_)
        obtain ⟨z, rfl, rfl, S2, x2⟩ := hp
        refine ⟨z, rfl, ?_⟩
        have ea2 : (actP (fun _ => ((G.1 : Int), G.2.1)) (txtS s [])).2 = pushS (txtS s []) G.2.1 := by
          unfold actP
          dsimp only
          rw [if_pos (by omega)]
        rw [ea2] at S2
        refine p124 _ _ (pushS (txtS s []) G.2.1) _ z v3 S2 ((x5.tr x').tr x2) e2 e3 rfl ?_
        unfold dayS
        dsimp only
        rw [if_pos (by omega)]
    have key : ∀ (f p n i : Nat) (B : HV) (h' : Hp) (v2 v4 v5 : Int32), v2.toInt = n → v4.toInt = p → v5.toInt = i → i ≤ p → n ≤ i → p ≤ 90 → T.length < p + f → FrO (inH t) h5 h' → HdR h' t B → VA B → (n = 0 → B = sA s) → rdD T f p = none → G = exD T f p B n → Wj X 0 0 (QI fun y h' => y.toInt = (dayS s G).1 ∧ CSt h' x m (dayS s G).2 ∧ FrX (inC x m) h h') 43 [(0, .ref x), (2, .int v2), (3, .int 0), (4, .int v4), (5, .int v5)] [] h' := by
      intro f
      induction f with
      | zero =>
        intro p n i B h' v2 v4 v5 e2 e4 e5 hi hn hp hf f' H' V' z0 rd eG
        have eG : G = (n, B, 0) := eG
        have fin := p106 h' v2 0 f' (by rw [eG]; exact e2) (by rw [eG]; rfl) (by rw [eG]; exact H') (by rw [eG]; exact V') (fun z => by rw [eG] at z ⊢; exact z0 z)
        have R' := R5.o f'
        refine V_X9_day_43 C ⟨fun _ => fin, fun _ => ⟨R'.1, fun _ => fin, fun q => ?_⟩⟩
        exfalso
        rw [i32_le, R'.2.1.1, e4] at q; omega
      | succ f ih =>
        intro p n i B h' v2 v4 v5 e2 e4 e5 hi hn hp hf f' H' V' z0 rd eG
        have R' := R5.o f'
        have endL : T.length ≤ p → Wj X 0 0 (QI fun y h' => y.toInt = (dayS s G).1 ∧ CSt h' x m (dayS s G).2 ∧ FrX (inC x m) h h') 106 [(0, .ref x), (2, .int v2), (3, .int 0)] [] h' := fun hl => by
          have eG : G = (n, B, 0) := by rw [eG, exD_end hl]
          exact p106 h' v2 0 f' (by rw [eG]; exact e2) (by rw [eG]; rfl) (by rw [eG]; exact H') (by rw [eG]; exact V') (fun z => by rw [eG] at z ⊢; exact z0 z)
        refine V_X9_day_43 C ⟨fun q => endL ?_, fun _ => ⟨R'.1, fun q => endL ?_, fun q => ⟨fun z => absurd rfl z, fun _ => ?_⟩⟩⟩
        · rw [i32_le, i80, e5] at q; omega
        · rw [i32_le, R'.2.1.1, e4] at q; omega
        · rw [i32_le, R'.2.1.1, e4] at q
          have hp' : p < T.length := by omega
          have wn : wr T p = none := by
            cases e : wr T p with
            | none => rfl
            | some z => rw [rdD_bad hp' e] at rd; cases rd
          refine (cl_doAct R' H' V' hp' wn e4).mono (fun _ h2 hp => ?_)
          obtain ⟨y2, rfl, ey2, H2, f2⟩ := hp
          have f02 := f'.tr f2
          have R2 := R5.o f02
          have n5 : ∀ _ : Unit, (v5 + Int32.ofInt 1).toInt = (i + 1 : Nat) := fun _ => by rw [iadd_t] <;> rw [e5, show (Int32.ofInt 1).toInt = 1 from rfl] <;> omega
          refine ⟨y2, rfl, fun q2 => ⟨R2.1, (cl_lengthOfAct (v := tAt h2 (x + 1) v4)).mono (fun _ h6 hp => ?_)⟩, fun q2 => ?_⟩
          all_goals rw [i32_le, i0_t, ey2] at q2
          · obtain ⟨u, rfl, eu, eh6⟩ := hp
            rw [R2.2.1.sgn e4] at eu
            rw [eh6]
            have al := actL_le (tsg T p)
            have a0 := (wr_none wn).1
            have n2 : ∀ _ : Unit, (v2 + Int32.ofInt 1).toInt = (n + 1 : Nat) := fun _ => by rw [iadd_t] <;> rw [e2, show (Int32.ofInt 1).toInt = 1 from rfl] <;> omega
            have n4 : (v4 + u).toInt = (p + actL (tsg T p) : Nat) := by rw [iadd_t] <;> rw [e4, eu] <;> omega
            exact ⟨u, rfl, ih (p + actL (tsg T p)) (n + 1) (i + 1) (doA T p B).2 h2 _ _ _ (n2 ()) n4 (n5 ()) (by omega) (by omega) (by omega) (by omega) f02 H2 (doA_va V') (fun z => by omega) (by rw [← rdD_go hp' wn]; exact rd) (by rw [eG, exD_go hp' (by omega)])⟩
          · have neg : (doA T p B).1 < 0 := by omega
            rw [doA_neg V' neg] at H2
            have eG : G = (n, B, 1) := by rw [eG, exD_bad hp' neg]
            have fin := p106 h2 v2 1 f02 (by rw [eG]; exact e2) (by rw [eG]; rfl) (by rw [eG]; exact H2) (by rw [eG]; exact V') (fun z => by rw [eG] at z ⊢; exact z0 z)
            refine V_X9_day_43 C ⟨fun _ => fin, fun _ => ⟨R2.1, fun _ => fin, fun _ => ⟨fun _ => fin, fun z => absurd z (by decide)⟩⟩⟩
    exact key (T.length + 1) 0 0 0 (sA s) h5 0 0 0 rfl rfl rfl (by omega) (by omega) (by omega) (by omega) FrO.rf Ht V (fun _ => rfl) er hG.symm))
end CDz
