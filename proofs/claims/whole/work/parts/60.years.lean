-- turns drawn by a seed
-- (by choice, so that no check ever unfolds the product)
theorem lcg_ex : ∃ f : Int32 → Int32, ∀ r, f r = r * 1103515245 + 12345 := ⟨fun r => r * 1103515245 + 12345, fun _ => rfl⟩
noncomputable def lcg : Int32 → Int32 := Classical.choose lcg_ex
theorem lcg_eq (r : Int32) : lcg r = r * 1103515245 + 12345 := Classical.choose_spec lcg_ex r
def itr {α : Type} (f : α → α) : Nat → α → α
  | 0, q => q
  | n + 1, q => itr f n (f q)
theorem itr_s {α : Type} (f : α → α) (n : Nat) (q : α) : itr f (n + 1) q = itr f n (f q) := rfl
def drP (r : Int32) (z : Int) : Int := (iushr r 16).toInt.tmod z
def yS (A : HV) (d k t c : Int) (r1 r2 r3 : Int32) : HV × Int32 := if d = 0 then ((chooseP A k).2, r2) else if d = 3 then ((scribeP A).2, r1) else ((windP A t c 0).2, r3)
theorem yS_0 {A : HV} {d k t c : Int} {r1 r2 r3 : Int32} (z : d = 0) : yS A d k t c r1 r2 r3 = ((chooseP A k).2, r2) := if_pos z
theorem yS_3 {A : HV} {d k t c : Int} {r1 r2 r3 : Int32} (z : ¬ d = 0) (z2 : d = 3) : yS A d k t c r1 r2 r3 = ((scribeP A).2, r1) := by unfold yS; rw [if_neg z, if_pos z2]
theorem yS_1 {A : HV} {d k t c : Int} {r1 r2 r3 : Int32} (z : ¬ d = 0) (z2 : ¬ d = 3) : yS A d k t c r1 r2 r3 = ((windP A t c 0).2, r3) := by unfold yS; rw [if_neg z, if_neg z2]
noncomputable def yStep (q : HV × Int32) : HV × Int32 := yS q.1 (drP (lcg q.2) 4) (drP (lcg (lcg q.2)) (q.1 0 3)) (drP (lcg (lcg q.2)) 5) (drP (lcg (lcg (lcg q.2))) (Hc q.1)) (lcg q.2) (lcg (lcg q.2)) (lcg (lcg (lcg q.2)))
noncomputable def yItr (n : Nat) (q : HV × Int32) : HV × Int32 := itr yStep n q
noncomputable def yearsP (s : Sv) (r : Int32) (n : Int) : Int × Sv := if 1 ≤ n ∧ n ≤ 30 then ((yItr n.toNat (sA s, r)).1 0 7, rowS s [(yItr n.toNat (sA s, r)).1 0 10, (yItr n.toNat (sA s, r)).1 0 11]) else (-1, s)
section YearsC
variable {X : Ctx} {l : Launch} {D : Dt} {h : Hp} {x m : Nat} {s : Sv} {Q : Pq}
theorem cl_draw (F : St9 h x) {n : Int32} (n0 : 0 < n.toInt) : S_X9_draw l D 0 0 [.ref x, .int n] h (QI fun y h' => y.toInt = drP (lcg (gi h x 11)) n.toInt ∧ h' = si h x 11 (lcg (gi h x 11))) := by
  rw [lcg_eq]
  exact Sp.of rfl (Nat.le_of_ble_eq_true rfl) (fun X C _ _ _ _ => V_X9_draw_0 C (by
  refine ⟨F, fun q => ⟨by rw [i32_eq, i0_t]; omega, _, rfl, ?_, rfl⟩, fun q => ?_⟩
  · rw [gi_si, if_pos ⟨rfl, rfl⟩, irem_t]; rfl
  · rw [i32_lt, i0_t] at q; omega))
/-- the trial's head and the number drawn last -/
def YC (h h' : Hp) (x m t : Nat) (s : Sv) (q : HV × Int32) : Prop := CSt h' x m s ∧ gr h' x 13 = some t ∧ HdR h' t q.1 ∧ VA q.1 ∧ gi h' x 11 = q.2 ∧ FrX (inC x m) h h'
theorem YC.draw {h1 : Hp} {t : Nat} {q : HV × Int32} (Y : YC h h1 x m t s q) {n : Int32} (n0 : 0 < n.toInt) : S_X9_draw l D 0 0 [.ref x, .int n] h1 (QI fun y h' => y.toInt = drP (lcg q.2) n.toInt ∧ YC h h' x m t s (q.1, lcg q.2)) := by
  obtain ⟨S, et, H, V, er, f⟩ := Y
  refine (cl_draw S.1 n0).mono (fun w h2 hp => ?_)
  obtain ⟨y, rfl, ey, e2⟩ := hp
  rw [er] at ey e2
  have fw : FrW (fun b j => b = x ∧ j = 11) (fun _ _ => False) h1 h2 := by rw [e2]; exact FrW.rf.si ⟨rfl, rfl⟩
  obtain ⟨S2, p2, x2⟩ := S.scr fw (fun b j q => Or.inr q) (fun _ _ q => absurd q id)
  have tx := (S.2.2.1.1 1 t (by omega) et).2.1
  refine ⟨y, rfl, ey, S2, by rw [fw.2.2.2.1]; exact et, H.wf fw (fun b j hb q => by have := q.1; unfold inH at hb; omega) (fun _ _ _ => id), V, by rw [e2, gi_si, if_pos ⟨rfl, rfl⟩], f.tr x2⟩
theorem YC.act {h1 h2 : Hp} {t : Nat} {q : HV × Int32} (Y : YC h h1 x m t s q) {A' : HV} (f2 : FrO (inH t) h1 h2) (H2 : HdR h2 t A') (V2 : VA A') : YC h h2 x m t s (A', q.2) := by
  obtain ⟨S, et, H, V, er, f⟩ := Y
  obtain ⟨S2, p2, x2⟩ := S.onTrial et f2
  have tx := (S.2.2.1.1 1 t (by omega) et).2.1
  exact ⟨S2, by rw [f2.2.2.2.1]; exact et, H2, V2, by rw [(f2.2.2.2.2 x (fun q => by unfold inH at q; omega) 11).1]; exact er, f.tr x2⟩
theorem i3_tt : (3 : Int32).toInt = 3 := rfl
theorem cyr_loop (C : C_X9_years X) {t : Nat} {n : Int32} (n3 : n.toInt ≤ 30) (q0 : HV × Int32) (hq : ∀ (h' : Hp) (i : Int32), YC h h' x m t s (yItr n.toInt.toNat q0) → i.toInt = n.toInt → Wj X 0 0 Q 30 [(0, .ref x), (2, .int n), (3, .int i)] [] h') (d : Nat) : ∀ (h' : Hp) (i : Int32) (q : HV × Int32), YC h h' x m t s q → 0 ≤ i.toInt → i.toInt + d = n.toInt → yItr d q = yItr n.toInt.toNat q0 → Wj X 0 0 Q 30 [(0, .ref x), (2, .int n), (3, .int i)] [] h' := by
  induction d with
  | zero =>
    intro h' i q Y hi hd he
    refine hq h' i ?_ (by omega)
    rw [← he]; exact Y
  | succ d ih =>
    intro h' i q Y hi hd he
    obtain ⟨x1, x2⟩ := ix_succ hi (by omega)
    have he' : yItr d (yStep q) = yItr n.toInt.toNat q0 := by rw [← he]; exact (itr_s yStep d q).symm
    have v3 := Y.2.2.2.1.2.2.2.1
    refine V_X9_years_30 C ⟨fun z => ?_, fun _ => ⟨Y.1.1, (Y.draw (n := 4) (by decide)).mono (fun w h9 hp => ?_)⟩⟩
    · rw [i32_le] at z; omega
    obtain ⟨y, rfl, ey, Y9⟩ := hp
    rw [i4_t] at ey
    obtain ⟨n13, g13⟩ := nn_of Y9.2.1
    refine ⟨y, rfl, fun z => ⟨fun z2 => ⟨Y9.1.1, (Y9.draw (n := 5) (by decide)).mono (fun w h12 hp => ?_)⟩, fun z2 => ⟨Y9.1.1, n13, ?_⟩⟩, fun z => ⟨Y9.1.1, n13, ?_⟩⟩
    · rw [i32_eq, ey, i0_t] at z
      rw [i32_eq, ey, i3_tt] at z2
      obtain ⟨y2, rfl, ey2, Y12⟩ := hp
      rw [i5_t] at ey2
      obtain ⟨n12, g12⟩ := nn_of Y12.2.1
      refine ⟨y2, rfl, Y12.1.1, n12, ?_⟩
      rw [g12]
      have eh := hHo_c Y12.2.2.1 Y12.2.2.2.1
      have hc := Y12.2.2.2.1.hc
      refine ⟨Y12.2.2.1.1, (Y12.draw (n := hHo h12 t (gi h12 t 5)) (by rw [eh]; omega)).mono (fun w h17 hp => ?_)⟩
      obtain ⟨y3, rfl, ey3, Y17⟩ := hp
      rw [eh] at ey3
      refine ⟨y3, rfl, Y17.2.2.1.1, (sp_wind Y17.2.2.1 Y17.2.2.2.1).mono (fun w h20 hp => ?_)⟩
      obtain ⟨y4, rfl, -, H20, f20⟩ := hp
      rw [i0_t, ey2, ey3] at H20
      have Y20 := Y17.act f20 H20 (Y17.2.2.2.1.wind _ _ _)
      have e : yStep q = ((windP q.1 (drP (lcg (lcg q.2)) 5) (drP (lcg (lcg (lcg q.2))) (Hc q.1)) 0).2, lcg (lcg (lcg q.2))) := yS_1 z z2
      rw [e] at he'
      exact ⟨y4, rfl, ih _ _ _ Y20 (by omega) (by omega) he'⟩
    · rw [i32_eq, ey, i0_t] at z
      rw [i32_eq, ey, i3_tt] at z2
      rw [g13]
      refine ⟨Y9.2.2.1.1, (sp_scribe Y9.2.2.1 Y9.2.2.2.1).mono (fun w h25 hp => ?_)⟩
      obtain ⟨y4, rfl, -, H25, f25⟩ := hp
      have Y25 := Y9.act f25 H25 (Y9.2.2.2.1.scribe)
      have e : yStep q = ((scribeP q.1).2, lcg q.2) := yS_3 z z2
      rw [e] at he'
      exact ⟨y4, rfl, ih _ _ _ Y25 (by omega) (by omega) he'⟩
    · rw [i32_eq, ey, i0_t] at z
      rw [g13]
      have e3 : (gi h9 t 3).toInt = q.1 0 3 := Y9.2.2.1.2.1 3 (by omega)
      refine ⟨Y9.2.2.1.1, (Y9.draw (n := gi h9 t 3) (by rw [e3]; omega)).mono (fun w h31 hp => ?_)⟩
      obtain ⟨y3, rfl, ey3, Y31⟩ := hp
      rw [e3] at ey3
      refine ⟨y3, rfl, Y31.2.2.1.1, (sp_choose Y31.2.2.1).mono (fun w h34 hp => ?_)⟩
      obtain ⟨y4, rfl, -, H34, f34⟩ := hp
      rw [ey3] at H34
      have Y34 := Y31.act f34 H34 (Y31.2.2.2.1.choose _)
      have e : yStep q = ((chooseP q.1 (drP (lcg (lcg q.2)) (q.1 0 3))).2, lcg (lcg q.2)) := yS_0 z
      rw [e] at he'
      exact ⟨y4, rfl, ih _ _ _ Y34 (by omega) (by omega) he'⟩
theorem i30_t : (30 : Int32).toInt = 30 := rfl
theorem ca_years (S : CSt h x m s) {r n : Int32} : S_X9_years l D 0 0 [.ref x, .int r, .int n] h (QI fun y h' => y.toInt = (yearsP s r n.toInt).1 ∧ CSt h' x m (yearsP s r n.toInt).2 ∧ FrX (inC x m) h h') := Sp.of rfl (Nat.le_of_ble_eq_true rfl) (fun X C _ _ _ _ => V_X9_years_0 C (by
  obtain ⟨a, ea, Ha, -⟩ := S.now
  obtain ⟨t, et, Ft, bt⟩ := S.trial
  obtain ⟨n12, g12⟩ := nn_of ea
  obtain ⟨n13, g13⟩ := nn_of et
  rw [g12, g13]
  unfold yearsP
  refine ⟨fun q => ⟨S.1, n13, n12, Ft, (cl_copy S ea et).mono (fun w h5 hp => ?_)⟩, fun q => ⟨_, rfl, ?_⟩⟩
  all_goals rw [bt_0, i1_t, i30_t] at q
  · have hq : 1 ≤ n.toInt ∧ n.toInt ≤ 30 := by omega
    rw [if_pos hq]
    obtain ⟨rfl, Ht, S5, et5, ea5, x5⟩ := hp
    have fw : FrW (fun b j => b = x ∧ j = 11) (fun _ _ => False) h5 (si h5 x 11 r) := FrW.rf.si ⟨rfl, rfl⟩
    obtain ⟨S6, p6, x6⟩ := S5.scr fw (fun b j q => Or.inr q) (fun _ _ q => absurd q id)
    have Y : YC h (si h5 x 11 r) x m t s (sA s, r) := ⟨S6, et5, Ht.wf fw (fun b j hb q => by have := q.1; unfold inH at hb; omega) (fun _ _ _ => id), S.2.2.2.2.1.1, by rw [gi_si, if_pos ⟨rfl, rfl⟩], x5.tr x6⟩
    refine ⟨rfl, S5.1, ?_⟩
    have fin : ∀ (h' : Hp) (i : Int32), YC h h' x m t s (yItr n.toInt.toNat (sA s, r)) → i.toInt = n.toInt → Wj X 0 0 (QI fun y h' => y.toInt = (yItr n.toInt.toNat (sA s, r)).1 0 7 ∧ CSt h' x m (rowS s [(yItr n.toInt.toNat (sA s, r)).1 0 10, (yItr n.toInt.toNat (sA s, r)).1 0 11]) ∧ FrX (inC x m) h h') 30 [(0, .ref x), (2, .int n), (3, .int i)] [] h' := by
      intro h' i Y' hi
      obtain ⟨m13, k13⟩ := nn_of Y'.2.1
      have H' := Y'.2.2.1
      refine V_X9_years_30 C ⟨fun _ => ⟨Y'.1.1, m13, ?_⟩, fun z => ?_⟩
      · rw [k13]
        refine ⟨H'.1, (cl_addF (h := tcl h' (x + 3)) (L := []) (b := t + 2) (St9_s1 Y'.1.1) (St4_k9 H'.1) TdC.clr (by decide) H'.2.2.2.2.2.1 H'.2.2.2.2.2.2.1).mono (fun w h4 hp => ?_)⟩
        obtain ⟨rfl, w4, f4⟩ := hp
        have f04 := (FrW.rf.tcl (h := h') (t := x + 3)).tr f4
        obtain ⟨S4, p4, x4⟩ := Y'.1.row f04 w4
        have e13 : gr h4 x 13 = some t := by rw [f04.2.2.2.1]; exact Y'.2.1
        obtain ⟨m4, k4⟩ := nn_of e13
        have H4 : HdR h4 t (yItr n.toInt.toNat (sA s, r)).1 := H'.wf f04 (fun b j hb q => by have := q.1; unfold inH at hb; omega) (fun b j hb (q : b = x + 3 + 1) => by unfold inH at hb; omega)
        refine ⟨rfl, S4.1, m4, ?_⟩
        rw [k4]
        exact ⟨H4.1, _, rfl, H4.2.1 7 (by omega), S4, Y'.2.2.2.2.2.tr x4⟩
      · rw [i32_le] at z; omega
    exact cyr_loop C hq.2 (sA s, r) fin n.toInt.toNat _ 0 _ Y (by rw [i0_t]; omega) (by rw [i0_t]; omega) rfl
  · rw [if_neg (by omega)]; exact ⟨rfl, S, FrX.rf⟩))
end YearsC
