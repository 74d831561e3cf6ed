-- a new shelf; fittedShelf()
theorem arr_new {h0 h2 h3 : Hp} {z y N f : Nat} (hy : hn h2 = y) (hz : z < y) (z0 : hn h0 ≤ z) (kz : kd h2 z = 6) (fx : FrX (fun _ => False) h0 h2) (g0 : ∀ b j, z ≤ b → b < y → gi h2 b j = 0) (e : h3 = sr (nw h2 20 N) z f (some y)) : hn h3 = y + 1 ∧ kd h3 z = 6 ∧ (kd h3 y = 20 ∧ ln h3 y = N ∧ gr h3 z f = some y) ∧ (∀ b, b ≠ y → kd h3 b = kd h2 b ∧ ln h3 b = ln h2 b) ∧ (∀ j, j ≠ f → gr h3 z j = gr h2 z j) ∧ (∀ b j, z ≤ b → b < y + 1 → gi h3 b j = 0) ∧ FrX (fun _ => False) h0 h3 := by
  rw [e]
  refine ⟨by rw [hn_sr, hn_nw, hy], by rw [kd_sr, kd_nw, hy, if_neg (by omega)]; exact kz, ⟨by rw [kd_sr, kd_nw, hy, if_pos rfl], by rw [ln_sr, ln_nw, hy, if_pos rfl], by rw [gr_sr, if_pos ⟨rfl, rfl⟩]⟩, fun b hb => ⟨by rw [kd_sr, kd_nw, hy, if_neg hb], by rw [ln_sr, ln_nw, hy, if_neg hb]⟩, fun j hj => ?_, fun b j hb hb2 => ?_, (fx.nw).sr (Or.inr z0)⟩
  · rw [gr_sr, if_neg (fun q => hj q.2), gr_nw, hy, if_neg (by omega)]
  · rw [gi_sr, gi_nw, hy]
    by_cases q : b = y
    · rw [if_pos q]
    · rw [if_neg q]; exact g0 b j hb (by omega)
section Ini5
variable {X : Ctx} {l : Launch} {D : Dt} {h : Hp} {x m a : Nat} {Q : Pq} {s : Sv}
theorem sp_init5 : S_X5_init l D 5 17510 [.ref (hn h)] (nw h 6 0) (QV fun h' => St5 h' (hn h) ∧ (∀ b j, hn h ≤ b → b < hn h + 6 → gi h' b j = 0) ∧ hn h' = hn h + 6 ∧ FrX (fun _ => False) h h') := Sp.of rfl (Nat.le_of_ble_eq_true rfl) (fun X C _ _ hmc hms => by
  generalize hQ : (QV fun h' => St5 h' (hn h) ∧ (∀ b j, hn h ≤ b → b < hn h + 6 → gi h' b j = 0) ∧ hn h' = hn h + 6 ∧ FrX (fun _ => False) h h') = Q
  have k1 : kd (nw h 6 0) (hn h) = 6 := by rw [kd_nw, if_pos rfl]
  have big : (fun _ : Nat => False) (hn h) ∨ hn h ≤ hn h := Or.inr (Nat.le_refl _)
  have f1 : FrX (fun _ => False) h (si (si (nw h 6 0) (hn h) 0 0) (hn h) 1 0) := ((FrX.rf.nw).si big).si big
  have n1 : hn (si (si (nw h 6 0) (hn h) 0 0) (hn h) 1 0) = hn h + 1 := rfl
  have kk1 : kd (si (si (nw h 6 0) (hn h) 0 0) (hn h) 1 0) (hn h) = 6 := k1
  have z1 : ∀ b j, hn h ≤ b → b < hn h + 1 → gi (si (si (nw h 6 0) (hn h) 0 0) (hn h) 1 0) b j = 0 := by
    intro b j hb hb2
    have eb : b = hn h := by omega
    rw [gi_si]
    split
    · rfl
    · rw [gi_si]
      split
      · rfl
      · rw [gi_nw, if_pos eb]
  refine V_X5_init_0 C ⟨k1, by omega, by omega, by rw [kd_nw, hn_nw, if_neg (by omega)]; exact k1, ?_⟩
  rw [hn_nw]
  generalize si (si (nw h 6 0) (hn h) 0 0) (hn h) 1 0 = h1 at *
  generalize e2 : sr (nw h1 20 12) (hn h) 2 (some (hn h + 1)) = h2
  obtain ⟨n2, k2, ⟨a1, a2, a3⟩, o2, g2, z2, f2⟩ := arr_new (f := 2) n1 (by omega) (Nat.le_refl _) kk1 f1 z1 e2.symm
  refine V_X5_init_22 C ⟨by omega, by omega, by rw [kd_nw, n2, if_neg (by omega)]; exact k2, by omega, by omega, by rw [kd_nw, hn_nw, n2, if_neg (by omega), kd_nw, n2, if_neg (by omega)]; exact k2, by omega, by omega, by rw [kd_nw, hn_nw, hn_nw, n2, if_neg (by omega), kd_nw, hn_nw, n2, if_neg (by omega), kd_nw, n2, if_neg (by omega)]; exact k2, ?_⟩
  simp only [hn_nw, n2]
  generalize e3 : sr (nw h2 20 3102) (hn h) 3 (some (hn h + 1 + 1)) = h3
  obtain ⟨n3, k3, ⟨b1, b2, b3⟩, o3, g3, z3, f3⟩ := arr_new (f := 3) n2 (by omega) (Nat.le_refl _) k2 f2 z2 e3.symm
  generalize e4 : sr (nw h3 20 3102) (hn h) 4 (some (hn h + 1 + 1 + 1)) = h4
  obtain ⟨n4, k4, ⟨c1, c2, c3⟩, o4, g4, z4, f4⟩ := arr_new (f := 4) n3 (by omega) (Nat.le_refl _) k3 f3 z3 e4.symm
  generalize e5 : sr (nw h4 20 3102) (hn h) 5 (some (hn h + 1 + 1 + 1 + 1)) = h5
  obtain ⟨n5, k5, ⟨d1, d2, d3⟩, o5, g5, z5, f5⟩ := arr_new (f := 5) n4 (by omega) (Nat.le_refl _) k4 f4 z4 e5.symm
  refine V_X5_init_49 C ⟨by omega, by omega, by rw [kd_nw, n5, if_neg (by omega)]; exact k5, ?_⟩
  rw [n5]
  generalize e6 : sr (nw h5 20 8192) (hn h) 6 (some (hn h + 1 + 1 + 1 + 1 + 1)) = h6
  obtain ⟨n6, k6, ⟨i1, i2, i3⟩, o6, g6, z6, f6⟩ := arr_new (f := 6) n5 (by omega) (Nat.le_refl _) k5 f5 z5 e6.symm
  rw [← hQ]
  refine ⟨rfl, ⟨k6, ?_, ?_, ?_, ?_, ?_, ?_, ?_, ?_, ?_, ?_, ?_, ?_, i3, i1, i2⟩, z6, n6, f6⟩
  · rw [g6 2 (by omega), g5 2 (by omega), g4 2 (by omega), g3 2 (by omega)]; exact a3
  · rw [(o6 _ (by omega)).1, (o5 _ (by omega)).1, (o4 _ (by omega)).1, (o3 _ (by omega)).1]; exact a1
  · rw [(o6 _ (by omega)).2, (o5 _ (by omega)).2, (o4 _ (by omega)).2, (o3 _ (by omega)).2]; exact a2
  · rw [g6 3 (by omega), g5 3 (by omega), g4 3 (by omega)]; exact b3
  · rw [(o6 _ (by omega)).1, (o5 _ (by omega)).1, (o4 _ (by omega)).1]; exact b1
  · rw [(o6 _ (by omega)).2, (o5 _ (by omega)).2, (o4 _ (by omega)).2]; exact b2
  · rw [g6 4 (by omega), g5 4 (by omega)]; exact c3
  · rw [(o6 _ (by omega)).1, (o5 _ (by omega)).1]; exact c1
  · rw [(o6 _ (by omega)).2, (o5 _ (by omega)).2]; exact c2
  · rw [g6 5 (by omega)]; exact d3
  · rw [(o6 _ (by omega)).1]; exact d1
  · rw [(o6 _ (by omega)).2]; exact d2)
/-- a new shelf is one of no gears -/
theorem ShOK.new {h' : Hp} {sh : Nat} (F : St5 h' sh) (z : ∀ b j, sh ≤ b → b < sh + 6 → gi h' b j = 0) : ShOK h' sh := by
  have zf : ∀ b j, sh ≤ b → b < sh + 6 → gf h' b j = 0 := fun b j h1 h2 => by unfold gf; rw [z b j h1 h2]; rfl
  refine ⟨F, 0, 0, by omega, zf _ _ (by omega) (by omega), zf _ _ (by omega) (by omega), fun k hk => ⟨fun q => by omega, fun _ => zf _ _ (by omega) (by omega)⟩, (SHP.zero (fun i _ => zf _ _ (by omega) (by omega))).skip (by omega) (fun t _ _ ok => ?_)⟩
  have := ok.2.1
  omega
/-- the shelf alone was worked at -/
theorem CSt.shelfW {h' : Hp} (S : CSt h x m s) {sh : Nat} (e : gr h x 14 = some sh) (f : FrB sh h h') (ok : ShOK h' sh) : CSt h' x m s ∧ ptr h' x = ptr h x ∧ FrX (inC x m) h h' := by
  obtain ⟨F, hm, pt, hd, va, sn, td, tx, shc⟩ := id S
  obtain ⟨-, q2, q3, q4⟩ := shc sh e
  have ep : ptr h' x = ptr h x := by unfold ptr; rw [f.2.2.2.1]
  have hf : ∀ {a : Nat} {A : HV} {i : Nat}, i < 11 → ptr h x i = some a → HdR h a A → HdR h' a A := fun {a A i} hi he H => by
    have d := q4 i a hi he
    exact H.wf f (fun b j hb q => by unfold inH at hb; omega) (fun _ _ _ => id)
  refine ⟨⟨St9_same F f.2.1 f.2.2.1 f.2.2.2.1, ⟨hm.1, by rw [f.1]; exact hm.2.1, hm.2.2.fw f⟩, ?_, ?_, va, ⟨by rw [f.xi (by omega)]; exact sn.1, sn.2⟩, td.fr f (by omega) (fun _ => id), tx.fr f (by omega) (fun j => by omega), ?_⟩, ep, f.x (fun b j q => by unfold inC; omega) (fun _ _ q => absurd q id)⟩
  · rw [ep]
    exact ⟨fun i a hi e => ⟨St4_same (pt.1 i a hi e).1 f.2.1 f.2.2.1 f.2.2.2.1, by rw [f.1]; exact (pt.1 i a hi e).2⟩, pt.2⟩
  · rw [ep]
    obtain ⟨⟨a, e, H⟩, tr, pa, ke⟩ := hd
    refine ⟨⟨a, e, hf (i := 0) (by omega) e H⟩, tr, fun i hi => ?_, fun i hi => ⟨(ke i hi).1, fun E q => ?_⟩⟩
    · obtain ⟨b, e2, H2⟩ := pa i hi
      exact ⟨b, e2, hf (i := 2 + i) (by omega) e2 H2⟩
    · obtain ⟨b, e2, H2⟩ := (ke i hi).2 E q
      exact ⟨b, e2, hf (i := 9 + i) (by omega) e2 H2⟩
  · rw [ep]
    intro z ez
    rw [f.2.2.2.1, e] at ez
    cases ez
    exact ⟨ok, q2, by rw [f.1]; exact q3, q4⟩
/-- a shelf was made -/
theorem CSt.shelfN {h6 : Hp} (S : CSt h x m s) (f : FrX (fun _ => False) h h6) (n6 : hn h6 = hn h + 6) (F6 : St5 h6 (hn h)) (z6 : ∀ b j, hn h ≤ b → b < hn h + 6 → gi h6 b j = 0) : CSt (sr h6 x 14 (some (hn h))) x m s ∧ ptr (sr h6 x 14 (some (hn h))) x = ptr h x ∧ FrX (inC x m) h (sr h6 x 14 (some (hn h))) := by
  obtain ⟨F, hm, pt, hd, va, sn, td, tx, shc⟩ := id S
  have fx : FrX (fun b => b = x) h (sr h6 x 14 (some (hn h))) := (f.mono (fun _ _ q => absurd q id)).sr (Or.inl rfl)
  have gx : ∀ b j, b < hn h → (b = x → j ≠ 14) → gr (sr h6 x 14 (some (hn h))) b j = gr h b j := by
    intro b j hb hj
    rw [gr_sr, if_neg (fun q => hj q.1 q.2)]
    exact ((f.2 b hb).2 id j).2.2
  have gix : ∀ b j, b < hn h → gi (sr h6 x 14 (some (hn h))) b j = gi h b j ∧ gl (sr h6 x 14 (some (hn h))) b j = gl h b j := fun b j hb => ⟨((f.2 b hb).2 id j).1, ((f.2 b hb).2 id j).2.1⟩
  have ep : ptr (sr h6 x 14 (some (hn h))) x = ptr h x := by
    funext i
    unfold ptr
    rw [gx x 12 (by omega) (by omega), gx x 13 (by omega) (by omega), gx (x + 15) _ (by omega) (by omega), gx (x + 16) _ (by omega) (by omega)]
  have hf : ∀ {a : Nat} {A : HV} {i : Nat}, i < 11 → ptr h x i = some a → HdR h a A → HdR (sr h6 x 14 (some (hn h))) a A := fun {a A i} hi he H => by
    have d := (pt.1 i a hi he).2
    exact H.frX fx (fun b hb (q : b = x) => by unfold inH at hb; omega) d.2.2
  refine ⟨⟨St9_ext F (fun b h1 h2 => (fx.2 b (by omega)).1) (fun b j h1 h2 h3 => gx b j (by omega) (by omega)), ⟨hm.1, by rw [hn_sr, n6]; omega, hm.2.2.1, fun _ => by rw [gr_sr, if_pos ⟨rfl, rfl⟩]; exact fun q => by cases q⟩, ?_, ?_, va, ⟨by rw [(gix x 10 (by omega)).1]; exact sn.1, sn.2⟩, ?_, ?_, ?_⟩, ep, fx.mono (fun b _ q => by unfold inC; omega)⟩
  · rw [ep]
    refine ⟨fun i a hi e => ?_, pt.2⟩
    obtain ⟨p1, p2, p3, p4⟩ := pt.1 i a hi e
    exact ⟨St4_ext p1 (fun b h1 h2 => (fx.2 b (by omega)).1) (fun j => gx a j (by omega) (by omega)), p2, p3, by rw [hn_sr, n6]; omega⟩
  · rw [ep]
    obtain ⟨⟨a, e, H⟩, tr, pa, ke⟩ := hd
    refine ⟨⟨a, e, hf (i := 0) (by omega) e H⟩, tr, fun i hi => ?_, fun i hi => ⟨(ke i hi).1, fun E q => ?_⟩⟩
    · obtain ⟨b, e2, H2⟩ := pa i hi
      exact ⟨b, e2, hf (i := 2 + i) (by omega) e2 H2⟩
    · obtain ⟨b, e2, H2⟩ := (ke i hi).2 E q
      exact ⟨b, e2, hf (i := 9 + i) (by omega) e2 H2⟩
  · obtain ⟨t1, t2, t3⟩ := td
    exact ⟨by rw [(gix (x + 3) 1 (by omega)).1]; exact t1, t2, fun i hi => by rw [(gix (x + 3 + 1) i (by omega)).2]; exact t3 i hi⟩
  · obtain ⟨t1, t2, t3⟩ := tx
    exact ⟨by rw [(gix (x + 1) 1 (by omega)).1]; exact t1, t2, fun i hi => by rw [(gix (x + 1 + 1) i (by omega)).1]; exact t3 i hi⟩
  · rw [ep]
    intro z ez
    rw [gr_sr, if_pos ⟨rfl, rfl⟩] at ez
    cases ez
    refine ⟨ShOK.new (St5_ext F6 (fun b _ _ => ⟨rfl, rfl⟩) (fun j => by rw [gr_sr, if_neg (by omega)])) (fun b j h1 h2 => z6 b j h1 h2), by omega, by rw [hn_sr, n6]; exact Nat.le_refl _, fun i a hi e => ?_⟩
    have := (pt.1 i a hi e).2.2.2
    omega
/-- what a shelf costs: once -/
def shC (h : Hp) (x : Nat) : Nat := if gr h x 14 = none then 6 else 0
def shM (h : Hp) (x : Nat) : Nat := if gr h x 14 = none then 17517 else 0
theorem cl_fitted (S : CSt h x m s) : S_X9_fittedShelf l D (shC h x) (shM h x) [.ref x] h (QR fun y h' => CSt h' x m s ∧ gr h' x 14 = some y ∧ ShT h' y (sA s) ∧ ptr h' x = ptr h x ∧ FrX (inC x m) h h') := Sp.of rfl (Nat.le_of_ble_eq_true rfl) (fun X C _ _ hmc hms => V_X9_fittedShelf_0 C (by
  have p18 : ∀ (k n : Nat) (h1 : Hp) (sh : Nat), CSt h1 x m s → gr h1 x 14 = some sh → ptr h1 x = ptr h x → FrX (inC x m) h h1 → Wj X k n (QR fun y h' => CSt h' x m s ∧ gr h' x 14 = some y ∧ ShT h' y (sA s) ∧ ptr h' x = ptr h x ∧ FrX (inC x m) h h') 18 [(0, .ref x)] [] h1 := by
    intro k n h1 sh S1 e1 ep1 f1
    obtain ⟨a, ea, Ha, ba⟩ := S1.now
    obtain ⟨n12, g12⟩ := nn_of ea
    obtain ⟨n14, g14⟩ := nn_of e1
    obtain ⟨ok, q2, q3, q4⟩ := S1.2.2.2.2.2.2.2.2 sh e1
    have dj := q4 0 a (by omega) ea
    refine V_X9_fittedShelf_18 C ⟨S1.1, n14, n12, by rw [g14]; exact ok.1, ?_⟩
    rw [g12, g14]
    refine (cl_fit ok Ha S1.2.2.2.2.1.1 (fun b hb q => by unfold inH at hb; omega)).mono (fun v h5 hp => ?_)
    obtain ⟨rfl, T5, f5⟩ := hp
    obtain ⟨S5, p5, x5⟩ := S1.shelfW e1 f5 (T5.ok S1.2.2.2.2.1.1)
    have e5 : gr h5 x 14 = some sh := by rw [f5.2.2.2.1]; exact e1
    obtain ⟨m14, h14⟩ := nn_of e5
    refine ⟨rfl, S5.1, m14, ?_⟩
    rw [h14]
    exact ⟨sh, rfl, S5, e5, T5, p5.trans ep1, f1.tr x5⟩
  refine ⟨S.1, fun z => ?_, fun b z => p18 0 0 h b S z rfl FrX.rf⟩
  have c1 : mcX X = 6 := by rw [hmc]; unfold shC; rw [if_pos z]
  have c2 : msX X = 17517 := by rw [hms]; unfold shM; rw [if_pos z]
  refine ⟨by omega, by omega, 5, 17510, by omega, by omega, sp_init5.mono (fun v h6 hp => ?_)⟩
  obtain ⟨rfl, F6, z6, n6, f6⟩ := hp
  obtain ⟨S7, p7, x7⟩ := S.shelfN f6 n6 F6 z6
  exact ⟨rfl, St9_ext S.1 (fun b h1 h2 => (f6.2 b (by have := S.2.1; omega)).1) (fun b j h1 h2 h3 => ((f6.2 b (by have := S.2.1; omega)).2 id j).2.2), p18 _ _ _ (hn h) S7 (by rw [gr_sr, if_pos ⟨rfl, rfl⟩]) p7 x7⟩))
end Ini5
