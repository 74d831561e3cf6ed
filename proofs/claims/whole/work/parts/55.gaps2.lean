-- gaps: the least and the greatest, class and reference
theorem cmpF_m {a b c d : Int} : (¬ cmpF a b c d * (-1) ≤ 0 ↔ a * d < c * b) ∧ (¬ cmpF a b c d * 1 ≤ 0 ↔ c * b < a * d) := by
  unfold cmpF
  rcases Int.lt_trichotomy (a * d) (c * b) with q | q | q
  · rw [if_pos q]
    exact ⟨⟨fun _ => q, fun _ => by decide⟩, ⟨fun z => absurd (by decide) z, fun z => by omega⟩⟩
  · rw [if_neg (by omega), if_pos q]
    exact ⟨⟨fun z => absurd (by decide) z, fun z => by omega⟩, ⟨fun z => absurd (by decide) z, fun z => by omega⟩⟩
  · rw [if_neg (by omega), if_neg (by omega)]
    exact ⟨⟨fun z => absurd (by decide) z, fun z => by omega⟩, ⟨fun _ => q, fun _ => by decide⟩⟩
section Ext
variable {X : Ctx} {l : Launch} {D : Dt} {h : Hp} {g t : Nat} {Q : Pq}
def exU (h : Hp) (g j : Nat) : Int := (gl h (g + 2) j).toInt
def exL (h : Hp) (g j : Nat) : Int := (gl h (g + 3) j).toInt
/-- b is as far out as j -/
def exO (h : Hp) (g : Nat) (v : Int32) (b j : Nat) : Prop := (v = -1 → exU h g b * exL h g j ≤ exU h g j * exL h g b) ∧ (v = 1 → exU h g j * exL h g b ≤ exU h g b * exL h g j)
theorem ext_loop (C : C_X3_tellExtreme X) (F : St3 h g) {c : Nat} (hc : (gi h g 0).toInt = c) (hc6 : c ≤ 60) (pos : ∀ j, j < c → 0 ≤ exU h g j ∧ 0 < exL h g j) {v : Int32} (hv : v = -1 ∨ v = 1) (hend : ∀ b : Int32, 0 ≤ b.toInt → b.toInt < c → (∀ j, j < c → exO h g v (ix b) j) → Wj X 0 0 Q 64 [(0, .ref g), (1, .ref t), (3, .int b)] [] h) (d : Nat) : ∀ (b i : Int32), 0 ≤ b.toInt → b.toInt < i.toInt → i.toInt + d = c → (∀ j, j < ix i → exO h g v (ix b) j) → Wj X 0 0 Q 5 [(0, .ref g), (1, .ref t), (2, .int v), (3, .int b), (4, .int i)] [] h := by
  induction d with
  | zero =>
    intro b i hb hbi hd gg
    refine V_X3_tellExtreme_5 C ⟨F, fun _ => hend b hb (by omega) (fun j hj => gg j (by unfold ix; omega)), fun q => ?_⟩
    rw [i32_le, hc] at q; omega
  | succ d ih =>
    intro b i hb hbi hd gg
    obtain ⟨x1, x2⟩ := ix_succ (i := i) (by omega) (by omega)
    have hk := ix_t (i := i) (by omega)
    have hkb := ix_t hb
    obtain ⟨p1, p2⟩ := pos (ix i) (by omega)
    obtain ⟨p3, p4⟩ := pos (ix b) (by omega)
    have cm := cmpF_m (a := exU h g (ix i)) (b := exL h g (ix i)) (c := exU h g (ix b)) (d := exL h g (ix b))
    refine V_X3_tellExtreme_5 C ⟨F, fun q => ?_, fun _ => ⟨fun q => ?_, fun _ => ⟨⟨by omega, by omega⟩, ⟨by omega, by omega⟩, p1, p2, p3, p4, fun q => ih b _ hb (by omega) (by omega) (fun j hj => ?_), fun q => ih i _ (by omega) (by omega) (by omega) (fun j hj => ?_)⟩⟩⟩
    · rw [i32_le, hc] at q; omega
    · rw [i32_le, i60_tt] at q; omega
    · by_cases e : j = ix i
      · rw [e]
        rcases hv with rfl | rfl
        · exact ⟨fun _ => by
            rcases Int.lt_or_le (exU h g (ix i) * exL h g (ix b)) (exU h g (ix b) * exL h g (ix i)) with z | z
            · exact absurd q (cm.1.mpr z)
            · exact z, fun z => absurd z (by decide)⟩
        · exact ⟨fun z => absurd z (by decide), fun _ => by
            rcases Int.lt_or_le (exU h g (ix b) * exL h g (ix i)) (exU h g (ix i) * exL h g (ix b)) with z | z
            · exact absurd q (cm.2.mpr z)
            · exact z⟩
      · exact gg j (by omega)
    · by_cases e : j = ix i
      · rw [e]; exact ⟨fun _ => Int.le_refl _, fun _ => Int.le_refl _⟩
      · obtain ⟨p5, p6⟩ := pos j (by omega)
        have gj := gg j (by omega)
        rcases hv with rfl | rfl
        · have q' := cm.1.mp q
          exact ⟨fun _ => le_tr p2 p4 p6 (Int.le_of_lt q') (gj.1 rfl), fun z => absurd z (by decide)⟩
        · have q' := cm.2.mp q
          exact ⟨fun z => absurd z (by decide), fun _ => le_tr p6 p4 p2 (gj.2 rfl) (Int.le_of_lt q')⟩
theorem cl_tellExtreme (F : St3 h g) {c : Nat} (hc : (gi h g 0).toInt = c) (hc0 : 0 < c) (hc6 : c ≤ 60) (pos : ∀ j, j < c → 0 ≤ exU h g j ∧ 0 < exL h g j) {v : Int32} (hv : v = -1 ∨ v = 1) (F8 : St8 h t) (ht : t + 1 < g ∨ g + 3 < t) {L : List Int} (w : TdC h t L) (hl : L.length < 58) : S_X3_tellExtreme l D 0 0 [.ref g, .ref t, .int v] h (QV fun h' => ∃ b, b < c ∧ (∀ j, j < c → exO h g v b j) ∧ TdC h' t (L ++ [exU h g b, exL h g b]) ∧ FrW (dI t) (dL t) h h') := Sp.of rfl (Nat.le_of_ble_eq_true rfl) (fun X C _ _ _ _ => V_X3_tellExtreme_0 C (by
  refine ext_loop C F hc hc6 pos hv (fun b hb0 hb1 hall => ?_) (c - 1) 0 1 (by rw [i0_t]; omega) (by rw [i0_t, i1_t]; omega) (by rw [i1_t]; omega) (fun j hj => ?_)
  · have hk := ix_t hb0
    refine V_X3_tellExtreme_64 C ⟨F, ⟨by omega, by omega⟩, F8, (cl_add F8 w (by omega) rfl).mono (fun y h4 hp => ?_)⟩
    obtain ⟨rfl, w4, f4⟩ := hp
    have F4 : St3 h4 g := St3_same F f4.2.1 f4.2.2.1 f4.2.2.2.1
    have F84 : St8 h4 t := St8_same F8 f4.2.1 f4.2.2.1 f4.2.2.2.1
    refine ⟨rfl, F4, ⟨by omega, by omega⟩, F84, (cl_add F84 w4 (by simp; omega) (z := exL h g (ix b)) (by rw [f4.xl (fun (q : g + 3 = t + 1) => by omega)]; rfl)).mono (fun y h8 hp => ?_)⟩
    obtain ⟨rfl, w8, f8⟩ := hp
    rw [List.append_assoc] at w8
    exact ⟨rfl, rfl, ix b, by omega, hall, w8, f4.tr f8⟩
  · rw [ix_1] at hj
    have : j = 0 := by omega
    rw [this, ix_0]; exact ⟨fun _ => Int.le_refl _, fun _ => Int.le_refl _⟩))
end Ext
section GapsC
variable {l : Launch} {D : Dt} {h : Hp} {x m : Nat} {s : Sv}
theorem ca_gaps (S : CSt h x m s) : S_X9_gaps l D 0 0 [.ref x] h (QI fun y h' => y.toInt = (gapsP s).1 ∧ CSt h' x m (gapsP s).2 ∧ FrX (inC x m) h h') := Sp.of rfl (Nat.le_of_ble_eq_true rfl) (fun X C _ _ _ _ => V_X9_gaps_0 C (by
  obtain ⟨a, ea, Ha, ba⟩ := S.now
  obtain ⟨n12, g12⟩ := nn_of ea
  have V := S.2.2.2.2.1.1
  have vm := V.marks
  have h7 := Ha.2.1 7 (by omega)
  rw [g12]
  unfold gapsP
  refine ⟨S.1, n12, Ha.1, fun q => ?_, fun q => ⟨_, rfl, ?_⟩⟩
  all_goals rw [i32_eq, h7, i0_t] at q
  · rw [if_neg q]
    refine (cl_look3 (g := x + 9) (St9_s5 S.1) Ha V (by omega)).mono (fun w h4 hp => ?_)
    obtain ⟨rfl, gl4, f4⟩ := hp
    obtain ⟨S4, p4, x4⟩ := S.scr f4 (fun b j q => Or.inl (by have := q.1; omega)) (fun b j q => by unfold gR at q; omega)
    obtain ⟨c1, c2, c3⟩ := gl4
    have cp := cntG_pos (sA s) (k := (sA s 0 7).toNat) (by omega)
    have cl := cntG_le (sA s) (sA s 0 7).toNat
    -- entries are gaps
    have ent : ∀ (h' : Hp), FrW (dI (x + 3)) (dL (x + 3)) h4 h' → ∀ j, exU h' (x + 9) j = exU h4 (x + 9) j ∧ exL h' (x + 9) j = exL h4 (x + 9) j := fun h' f j => ⟨by unfold exU; rw [f.xl (fun (q : x + 9 + 2 = x + 3 + 1) => by omega)], by unfold exL; rw [f.xl (fun (q : x + 9 + 3 = x + 3 + 1) => by omega)]⟩
    have pos4 : ∀ j, j < cntG (sA s) (sA s 0 7).toNat → 0 ≤ exU h4 (x + 9) j ∧ 0 < exL h4 (x + 9) j := fun j hj => by
      obtain ⟨i, i1, i2, i3⟩ := c2 j hj
      have := ga_f V (k := i) (by omega)
      unfold exU exL
      rw [i2, i3]; omega
    have minE : ∀ (h' : Hp) (b : Nat), FrW (dI (x + 3)) (dL (x + 3)) h4 h' → b < cntG (sA s) (sA s 0 7).toNat → (∀ j, j < cntG (sA s) (sA s 0 7).toNat → exO h' (x + 9) (-1) b j) → exU h' (x + 9) b = gaU (sA s) (mnI (sA s) (sA s 0 7).toNat) ∧ exL h' (x + 9) b = gaL (sA s) (mnI (sA s) (sA s 0 7).toNat) := by
      intro h' b f hb hall
      obtain ⟨k, k1, k2, k3⟩ := c2 b hb
      have eU : exU h' (x + 9) b = gaU (sA s) k := by rw [(ent h' f b).1]; exact k2
      have eL : exL h' (x + 9) b = gaL (sA s) k := by rw [(ent h' f b).2]; exact k3
      have u := mn_unique V (n := (sA s 0 7).toNat) (by omega) k1 (fun j hj => by
        obtain ⟨i, i1, i2, i3⟩ := c3 j hj
        have := (hall i i1).1 rfl
        rw [eU, eL, (ent h' f i).1, (ent h' f i).2] at this
        unfold exU exL at this
        rw [i2, i3] at this
        exact this)
      rw [eU, eL]; exact u
    have maxE : ∀ (h' : Hp) (b : Nat), FrW (dI (x + 3)) (dL (x + 3)) h4 h' → b < cntG (sA s) (sA s 0 7).toNat → (∀ j, j < cntG (sA s) (sA s 0 7).toNat → exO h' (x + 9) 1 b j) → exU h' (x + 9) b = gaU (sA s) (mxI (sA s) (sA s 0 7).toNat) ∧ exL h' (x + 9) b = gaL (sA s) (mxI (sA s) (sA s 0 7).toNat) := by
      intro h' b f hb hall
      obtain ⟨k, k1, k2, k3⟩ := c2 b hb
      have eU : exU h' (x + 9) b = gaU (sA s) k := by rw [(ent h' f b).1]; exact k2
      have eL : exL h' (x + 9) b = gaL (sA s) k := by rw [(ent h' f b).2]; exact k3
      have u := mx_unique V (n := (sA s 0 7).toNat) (by omega) k1 (fun j hj => by
        obtain ⟨i, i1, i2, i3⟩ := c3 j hj
        have := (hall i i1).2 rfl
        rw [eU, eL, (ent h' f i).1, (ent h' f i).2] at this
        unfold exU exL at this
        rw [i2, i3] at this
        exact this)
      rw [eU, eL]; exact u
    have ft : FrW (dI (x + 3)) (dL (x + 3)) h4 (tcl h4 (x + 3)) := FrW.rf.tcl
    have cT : ∀ h', FrW (dI (x + 3)) (dL (x + 3)) h4 h' → (gi h' (x + 9) 0).toInt = (cntG (sA s) (sA s 0 7).toNat : Nat) := fun h' f => by rw [f.xi (fun q => by have := q.1; omega)]; exact c1
    have sT9 : ∀ h', FrW (dI (x + 3)) (dL (x + 3)) h4 h' → St9 h' x := fun h' f => St9_same S4.1 f.2.1 f.2.2.1 f.2.2.2.1
    refine ⟨rfl, S4.1, (cl_tellExtreme (St9_s5 (sT9 _ ft)) (cT _ ft) cp (by omega) (fun j hj => by rw [(ent _ ft j).1, (ent _ ft j).2]; exact pos4 j hj) (Or.inl rfl) (St9_s1 (sT9 _ ft)) (by omega) (L := []) TdC.clr (by decide)).mono (fun w h6 hp => ?_)⟩
    obtain ⟨rfl, b, b1, b2, w6, f6⟩ := hp
    obtain ⟨m1, m2⟩ := minE _ b ft b1 b2
    rw [m1, m2] at w6
    have f46 := ft.tr f6
    refine ⟨rfl, sT9 h6 f46, (cl_tellExtreme (St9_s5 (sT9 _ f46)) (cT _ f46) cp (by omega) (fun j hj => by rw [(ent _ f46 j).1, (ent _ f46 j).2]; exact pos4 j hj) (Or.inr rfl) (St9_s1 (sT9 _ f46)) (by omega) w6 (by simp)).mono (fun w h8 hp => ?_)⟩
    obtain ⟨rfl, b', b1', b2', w8, f8⟩ := hp
    obtain ⟨m1', m2'⟩ := maxE _ b' f46 b1' b2'
    rw [m1', m2'] at w8
    have f48 := f46.tr f8
    obtain ⟨S8, p8, x8⟩ := S4.row f48 w8
    exact ⟨rfl, S8.1, _, rfl, cT h8 f48, S8, x4.tr x8⟩
  · rw [if_pos q]; exact ⟨rfl, S, FrX.rf⟩))
end GapsC
