-- differential() of the class
section CDf
variable {X : Ctx} {l : Launch} {D : Dt} {h : Hp} {x m : Nat} {Q : Pq} {s : Sv}
/-- the shelf, fitted, and what it says -/
theorem ShT.both {A : HV} {sh : Nat} (V : VA A) (T : ShT h sh A) : ∃ n, ShG h sh (gN A) 20880 n ∧ ShE A n (gf h (sh + 2)) (gf h (sh + 3)) (gf h (sh + 4)) := T.e V
/-- look() of the differential way, within the object -/
theorem cl_look1C (S : CSt h x m s) {a sh : Nat} (ea : gr h x 12 = some a) (e14 : gr h x 14 = some sh) (T : ShT h sh (sA s)) {v : Int32} (n1 : 2 ≤ v.toInt) (n2 : v.toInt ≤ 400) : S_X1_look l D 0 0 [.ref (x + 7), .ref a, .ref sh, .int v] h (QV fun h' => DfH h' (x + 7) sh (sA s) (difQ (sA s) v.toInt) ∧ CSt h' x m s ∧ ptr h' x = ptr h x ∧ gr h' x 14 = some sh ∧ ShT h' sh (sA s) ∧ FrD (x + 7) h h' ∧ FrX (inC x m) h h') := by
  obtain ⟨a', ea', Ha, ba⟩ := S.now
  have e : a' = a := by rw [ea] at ea'; cases ea'; rfl
  subst e
  have V := S.2.2.2.2.1.1
  obtain ⟨n, G, E⟩ := T.e V
  have dj := S.shx e14
  refine (cl_look1 (w := x + 7) (St9_s4 S.1) Ha V (fun z => by unfold inH at z; omega) (fun z => by unfold inH at z; omega) G E ⟨by omega, by omega⟩ n1 n2).mono (fun w h3 hp => ?_)
  obtain ⟨rfl, R3, f3⟩ := hp
  obtain ⟨S3, p3, x3⟩ := S.scr f3 (fun b j q => Or.inl (by omega)) (fun _ _ q => absurd q id)
  obtain ⟨G3, ge⟩ := FrD.shelf (A := sA s) G ⟨by omega, by omega⟩ f3
  obtain ⟨n', G0, te⟩ := T
  have T3 : ShT h3 sh (sA s) := ⟨n, G3, fun k hk => by rw [ge (sh + 1) (by omega) (by omega)]; exact te k hk⟩
  exact ⟨rfl, R3, S3, p3, by rw [f3.2.2.2.1]; exact e14, T3, f3, x3⟩
theorem ca_differential (S : CSt h x m s) {n : Int32} : S_X9_differential l D (shC h x) (shM h x) [.ref x, .int n] h (QI fun y h' => y.toInt = (differentialP s n.toInt).1 ∧ CSt h' x m (differentialP s n.toInt).2 ∧ FrX (inC x m) h h') := Sp.of rfl (Nat.le_of_ble_eq_true rfl) (fun X C _ _ hmc hms => V_X9_differential_0 C (by
  have e2 : (2 : Int32).toInt = 2 := rfl
  have e400 : (400 : Int32).toInt = 400 := rfl
  have i4 : (4 : Int32).toInt = 4 := rfl
  have V := S.2.2.2.2.1.1
  have vg := V.gn
  unfold differentialP
  refine ⟨fun q => ⟨S.1, shC h x, shM h x, by omega, by omega, (cl_fitted S).mono (fun v h2 hp => ?_)⟩, fun q => ⟨_, rfl, ?_⟩⟩
  all_goals rw [bt_0, e2, e400] at q
  · have hq : 2 ≤ n.toInt ∧ n.toInt ≤ 400 := by omega
    rw [if_pos hq]
    obtain ⟨sh, rfl, S2, e14, T2, p2, x2⟩ := hp
    obtain ⟨a, ea, Ha, ba⟩ := S2.now
    obtain ⟨n12, g12⟩ := nn_of ea
    refine ⟨sh, rfl, S2.1, n12, ?_⟩
    rw [g12]
    refine (cl_look1C S2 ea e14 T2 hq.1 hq.2).mono (fun w h8 hp => ?_)
    obtain ⟨rfl, R8, S8, p8, e8, T8, f8, x8⟩ := hp
    have dj := S8.shx e8
    obtain ⟨nn8, G8, -⟩ := T8
    refine ⟨rfl, S8.1, fun q1 => ?_, fun q1 => ?_⟩
    · cases eq : difQ (sA s) n.toInt with
      | none =>
        rw [eq] at R8
        have g1 : (gi h8 (x + 7) 1).toInt = 0 := R8
        rw [i32_eq, g1, i0_t] at q1; exact absurd rfl q1
      | some d =>
        rw [eq] at R8
        obtain ⟨r1, r2, ⟨e, e3102, r3, r4⟩, tk, sw⟩ := R8
        obtain ⟨d1, d2, d3, d4, -⟩ := difQ_b hq.2 eq
        obtain ⟨w1, w2, w3⟩ := sw.2 d3
        have keep : ∀ h', FrW (dI (x + 3)) (dL (x + 3)) h8 h' → ∀ b j, b ≠ x + 3 → gi h' b j = gi h8 b j := fun h' f b j hb => f.xi (fun q => hb q.1)
        have fc : FrW (dI (x + 3)) (dL (x + 3)) h8 (tcl h8 (x + 3)) := FrW.rf.tcl
        rw [keep _ fc (x + 7 + 1) 1 (by omega)]
        refine (cl_add (h := tcl h8 (x + 3)) (L := []) (St9_s1 S8.1) TdC.clr (by decide) (z := (fS (sA s) d.1 : Int)) (by rw [i2l_t]; exact w1)).mono (fun w h10 hp => ?_)
        obtain ⟨rfl, t10, f10⟩ := hp
        have f810 := fc.tr f10
        have F10 : St9 h10 x := St9_same S8.1 f810.2.1 f810.2.2.1 f810.2.2.2.1
        refine ⟨rfl, F10, (cl_add (St9_s1 F10) t10 (by simp) (z := sA s 0 0 / d.1) (by rw [i2l_t, keep h10 f810 _ _ (by omega)]; exact w2)).mono (fun w h12 hp => ?_)⟩
        obtain ⟨rfl, t12, f12⟩ := hp
        have f812 := f810.tr f12
        have F12 : St9 h12 x := St9_same S8.1 f812.2.1 f812.2.2.1 f812.2.2.2.1
        refine ⟨rfl, F12, (cl_add (St9_s1 F12) t12 (by simp) (z := smH (sA s) d.1 (fS (sA s) d.1) % sA s 1 (fS (sA s) d.1)) (by rw [i2l_t, keep h12 f812 _ _ (by omega)]; exact w3)).mono (fun w h14 hp => ?_)⟩
        obtain ⟨rfl, t14, f14⟩ := hp
        have f814 := f812.tr f14
        have eL : ∀ (L : List Int), ([] ++ [(fS (sA s) d.1 : Int)]) ++ [sA s 0 0 / d.1] ++ [smH (sA s) d.1 (fS (sA s) d.1) % sA s 1 (fS (sA s) d.1)] = smRow (sA s) d.1 := fun _ => rfl
        rw [eL []] at t14
        have lr : (smRow (sA s) d.1).length = 3 := rfl
        generalize hL : smRow (sA s) d.1 = L3 at *
        -- the wheels
        have key : ∀ (c : Nat) (k n : Nat) (h' : Hp) (v : Int32), 0 ≤ v.toInt → v.toInt + c = 4 → FrW (dI (x + 3)) (dL (x + 3)) h8 h' → TdC h' (x + 3) (L3 ++ (List.range (ix v)).map (fun i => tW d.2.2 i)) → Wj X k n (QI fun y h' => y.toInt = d.1 ∧ CSt h' x m (rowS s (difRow (sA s) d)) ∧ FrX (inC x m) h h') 103 [(0, .ref x), (2, .ref sh), (3, .int v)] [] h' := by
          intro c
          induction c with
          | zero =>
            intro k n h' v v0 hc f t
            have F' : St9 h' x := St9_same S8.1 f.2.1 f.2.2.1 f.2.2.2.1
            have ev : ix v = 4 := by unfold ix; omega
            rw [ev] at t
            refine V_X9_differential_103 C ⟨fun _ => ⟨F', (cl_add (St9_s1 F') t (by rw [List.length_append, List.length_map, List.length_range]; omega) (z := d.2.1) (by rw [i2l_t, keep h' f _ _ (by omega)]; exact r2)).mono (fun w h2 hp => ?_)⟩, fun z => ?_⟩
            · obtain ⟨rfl, t2, f2⟩ := hp
              have f82 := f.tr f2
              have er : L3 ++ (List.range 4).map (fun i => tW d.2.2 i) ++ [d.2.1] = difRow (sA s) d := by
                unfold difRow
                rw [hL, List.append_assoc]; rfl
              rw [er] at t2
              obtain ⟨S9, p9, x9⟩ := S8.row f82 t2
              exact ⟨rfl, S9.1, _, rfl, by rw [keep h2 f82 _ _ (by omega)]; exact r1, S9, (x2.tr x8).tr x9⟩
            · rw [i32_le, i4] at z; omega
          | succ c ih =>
            intro k n h' v v0 hc f t
            obtain ⟨x1, x2'⟩ := ix_succ v0 (by omega)
            have hv := ix_t v0
            have F' : St9 h' x := St9_same S8.1 f.2.1 f.2.2.1 f.2.2.2.1
            have F5' : St5 h' sh := St5_same G8.1 f.2.1 f.2.2.1 f.2.2.2.1
            have ep' : gf h' (sh + 4) e = tP d.2.2 := by unfold gf; rw [keep h' f _ _ (by omega)]; exact r4
            have ee : (gi h' (x + 7) 2).toInt = e := by rw [keep h' f _ _ (by omega)]; exact r3
            refine V_X9_differential_103 C ⟨fun z => ?_, fun _ => ⟨F', F5', (cl_add (St9_s1 F') t (by rw [List.length_append, List.length_map, List.length_range]; omega) (z := tW d.2.2 (ix v)) (by rw [i2l_t]; exact sWh_t vg.1 tk ep' ee e3102 hv.symm (by omega))).mono (fun w h6 hp => ?_)⟩⟩
            · rw [i32_le, i4] at z; omega
            · obtain ⟨rfl, t6, f6⟩ := hp
              refine ⟨rfl, ih _ _ h6 _ (by omega) (by omega) (f.tr f6) ?_⟩
              rw [x1, map_succ, ← List.append_assoc]; exact t6
        refine ⟨rfl, key 4 _ _ h14 0 (by decide) (by decide) f814 ?_⟩
        rw [ix_0]
        show TdC h14 (x + 3) (L3 ++ [])
        rw [List.append_nil]; exact t14
    · cases eq : difQ (sA s) n.toInt with
      | none => exact ⟨_, rfl, rfl, S8, x2.tr x8⟩
      | some d =>
        rw [eq] at R8
        have d1 := (difQ_b hq.2 eq).1
        have g1 : (gi h8 (x + 7) 1).toInt = d.1 := R8.1
        rw [i32_eq, g1, i0_t] at q1; omega
  · rw [if_neg (by omega)]; exact ⟨rfl, S, FrX.rf⟩))
end CDf
