-- the class's constructor
section CI9
variable {X : Ctx} {l : Launch} {D : Dt} {h h' : Hp} {x n : Nat}
/-- the parts of a new object that stand within its first n cells -/
def P9 (h : Hp) (x n : Nat) : Prop := kd h x = 10 ∧ (3 ≤ n → St7 h (x + 1) ∧ gi h (x + 1) 1 = 0) ∧ (5 ≤ n → St8 h (x + 3) ∧ gi h (x + 3) 1 = 0) ∧ (6 ≤ n → kd h (x + 5) = 7) ∧ (7 ≤ n → kd h (x + 6) = 1) ∧ (9 ≤ n → St1 h (x + 7)) ∧ (13 ≤ n → St3 h (x + 9)) ∧ (14 ≤ n → kd h (x + 13) = 3) ∧ (15 ≤ n → kd h (x + 14) = 3) ∧ (16 ≤ n → kd h (x + 15) = 24 ∧ ln h (x + 15) = 7 ∧ ∀ j, gr h (x + 15) j = none) ∧ (17 ≤ n → kd h (x + 16) = 24 ∧ ln h (x + 16) = 2 ∧ ∀ j, gr h (x + 16) j = none)
theorem P9.kp (P : P9 h x n) (hx : 1 ≤ n) (hb : x + n ≤ hn h) (f : FrX (fun b => b = x) h h') : P9 h' x n := by
  obtain ⟨p0, p1, p2, p3, p4, p5, p6, p7, p8, p9, p10⟩ := P
  have ns : ∀ b, x < b → ¬ (fun b => b = x) b := fun b hb z => by
    have : b = x := z
    omega
  refine ⟨by rw [fx_kd f (by omega)]; exact p0, fun c => ⟨(p1 c).1.fx f (by omega) (fun b b1 _ => ns b (by omega)), by rw [fx_gi f (by omega) (ns _ (by omega))]; exact (p1 c).2⟩, fun c => ⟨(p2 c).1.fx f (by omega) (fun b b1 _ => ns b (by omega)), by rw [fx_gi f (by omega) (ns _ (by omega))]; exact (p2 c).2⟩, fun c => by rw [fx_kd f (by omega)]; exact p3 c, fun c => by rw [fx_kd f (by omega)]; exact p4 c, fun c => (p5 c).fx f (by omega) (fun b b1 _ => ns b (by omega)), fun c => (p6 c).fx f (by omega) (fun b b1 _ => ns b (by omega)), fun c => by rw [fx_kd f (by omega)]; exact p7 c, fun c => by rw [fx_kd f (by omega)]; exact p8 c, fun c => ⟨by rw [fx_kd f (by omega)]; exact (p9 c).1, by rw [fx_ln f (by omega)]; exact (p9 c).2.1, fun j => by rw [fx_gr f (by omega) (ns _ (by omega))]; exact (p9 c).2.2 j⟩, fun c => ⟨by rw [fx_kd f (by omega)]; exact (p10 c).1, by rw [fx_ln f (by omega)]; exact (p10 c).2.1, fun j => by rw [fx_gr f (by omega) (ns _ (by omega))]; exact (p10 c).2.2 j⟩⟩
/-- a new object so far: its cells, what it holds -/
def N9 (h0 h : Hp) (x n : Nat) (f : Nat → Option Nat) : Prop := hn h = x + n ∧ x = hn h0 ∧ 1 ≤ n ∧ P9 h x n ∧ (∀ j, gr h x j = f j) ∧ Fr0 h0 h
theorem f0x (f : Fr0 h h') : FrX (fun b => b = x) h h' := f.mono (fun b _ q => absurd q id)
/-- a part has been made -/
theorem N9.made {h0 : Hp} {f : Nat → Option Nat} (N : N9 h0 h x n f) (g : Fr0 h h') : P9 h' x n ∧ (∀ j, gr h' x j = f j) ∧ Fr0 h0 h' := by
  obtain ⟨n1, n2, n3, P, n4, n5⟩ := N
  exact ⟨P.kp n3 (by omega) (f0x g), fun j => by rw [fx_gr g (by omega) id]; exact n4 j, n5.tr g⟩
theorem N9.put {h0 : Hp} {f : Nat → Option Nat} {n' : Nat} (hn' : hn h' = x + n') (hx : x = hn h0) (h1 : 1 ≤ n') (P : P9 h' x n') (g : ∀ j, gr h' x j = f j) (f0 : Fr0 h0 h') (i : Nat) (v : Option Nat) : N9 h0 (sr h' x i v) x n' (fun j => if j = i then v else f j) := by
  refine ⟨hn', hx, h1, P.kp h1 (by omega) (FrX.rf.sr (Or.inl rfl)), fun j => ?_, f0.sr (Or.inr (by omega))⟩
  show gr (sr h' x i v) x j = if j = i then v else f j
  rw [gr_sr]
  by_cases e : j = i
  · rw [if_pos ⟨rfl, e⟩, if_pos e]
  · rw [if_neg (fun z => e z.2), if_neg e, g]
/-- a new object: the first calls find it so -/
def C0 (h : Hp) (x : Nat) : Prop := St9 h x ∧ hn h = x + 35 ∧ (gr h x 12 = some (x + 17) ∧ HdR h (x + 17) (hvF 3 18 12)) ∧ (gr h x 13 = some (x + 26) ∧ St4 h (x + 26)) ∧ gr h x 14 = none ∧ gi h x 10 = 0 ∧ (∀ j, gr h (x + 15) j = none) ∧ (∀ j, gr h (x + 16) j = none) ∧ TdC h (x + 3) [] ∧ TxC h (x + 1) []
theorem hdr_fx {a : Nat} {A : HV} {S : Nat → Prop} (H : HdR h a A) (f : FrX S h h') (hb : a + 9 ≤ hn h) (hs : ∀ b, a ≤ b → b < a + 9 → ¬ S b) : HdR h' a A := by
  obtain ⟨F, H1, H2, H3, H4, H5, H6, H7, H8, H9⟩ := H
  have gi' : ∀ b j, a ≤ b → b < a + 9 → gi h' b j = gi h b j := fun b j b1 b2 => fx_gi f (by omega) (hs b b1 b2) j
  have gl' : ∀ b j, a ≤ b → b < a + 9 → gl h' b j = gl h b j := fun b j b1 b2 => fx_gl f (by omega) (hs b b1 b2) j
  have gr' : ∀ j, gr h' a j = gr h a j := fun j => fx_gr f (by omega) (hs a (by omega) (by omega)) j
  have kd' : ∀ b, a ≤ b → b < a + 9 → kd h' b = kd h b := fun b b1 b2 => fx_kd f (by omega)
  have ln' : ∀ b, a ≤ b → b < a + 9 → ln h' b = ln h b := fun b b1 b2 => fx_ln f (by omega)
  refine ⟨?_, fun i hi => by rw [gi' _ _ (by omega) (by omega)]; exact H1 i hi, by rw [gi' _ _ (by omega) (by omega)]; exact H2, by rw [gl' _ _ (by omega) (by omega)]; exact H3, by rw [gl' _ _ (by omega) (by omega)]; exact H4, by rw [gl' _ _ (by omega) (by omega)]; exact H5, by rw [gl' _ _ (by omega) (by omega)]; exact H6, fun k hk => by rw [gi' _ _ (by omega) (by omega), gi' _ _ (by omega) (by omega)]; exact H7 k hk, fun k hk => by rw [gi' _ _ (by omega) (by omega)]; exact H8 k hk, fun k hk => by rw [gl' _ _ (by omega) (by omega), gl' _ _ (by omega) (by omega)]; exact H9 k hk⟩
  unfold St4 at F ⊢
  rw [gr', gr', gr', gr', gr', gr', gr', gr', kd' a (by omega) (by omega), kd' (a + 1) (by omega) (by omega), kd' (a + 2) (by omega) (by omega), kd' (a + 3) (by omega) (by omega), kd' (a + 4) (by omega) (by omega), kd' (a + 5) (by omega) (by omega), kd' (a + 6) (by omega) (by omega), kd' (a + 7) (by omega) (by omega), kd' (a + 8) (by omega) (by omega), ln' (a + 4) (by omega) (by omega), ln' (a + 5) (by omega) (by omega), ln' (a + 6) (by omega) (by omega), ln' (a + 7) (by omega) (by omega), ln' (a + 8) (by omega) (by omega)]
  exact F
set_option maxHeartbeats 4000000 in
theorem init9_heads {f : Nat → Option Nat} {g5 : Hp} (C : C_X9_init X) (hmc : mcX X = 34) (hms : msX X = 683) (NS : N9 h g5 x 17 f) (zS : gi g5 x 10 = 0) (k0 : f 0 = some (x + 1)) (k1 : f 1 = some (x + 3)) (k2 : f 2 = some (x + 5)) (k3 : f 3 = some (x + 6)) (k4 : f 4 = some (x + 7)) (k5 : f 5 = some (x + 9)) (k6 : f 6 = some (x + 13)) (k7 : f 7 = some (x + 14)) (k8 : f 8 = some (x + 15)) (k9 : f 9 = some (x + 16)) : Wj X 16 301 (QV fun h' => C0 h' x ∧ Fr0 h h') 119 [(0, .ref x)] [] g5 := by
  have n5 : hn g5 = x + 17 := NS.1
  have hx : hn h = x := NS.2.1.symm
  refine V_X9_init_119 C ⟨by omega, by omega, 8, 174, by omega, by omega, (sp_init4 (h := g5)).mono (fun _ hH hp => ?_)⟩
  obtain ⟨rfl, sH, nH, fH⟩ := hp
  rw [n5] at sH nH
  obtain ⟨PH, GH, FH⟩ := NS.made fH
  have zH : gi hH x 10 = 0 := by rw [fx_gi fH (by omega) id]; exact zS
  rw [n5]
  have NH := N9.put (n' := 26) (by omega) hx.symm (by omega) (show P9 hH x 26 from ⟨PH.1, fun _ => PH.2.1 (by omega), fun _ => PH.2.2.1 (by omega), fun _ => PH.2.2.2.1 (by omega), fun _ => PH.2.2.2.2.1 (by omega), fun _ => PH.2.2.2.2.2.1 (by omega), fun _ => PH.2.2.2.2.2.2.1 (by omega), fun _ => PH.2.2.2.2.2.2.2.1 (by omega), fun _ => PH.2.2.2.2.2.2.2.2.1 (by omega), fun _ => PH.2.2.2.2.2.2.2.2.2.1 (by omega), fun _ => PH.2.2.2.2.2.2.2.2.2.2 (by omega)⟩) GH FH 12 (some (x + 17))
  have HH : HdR (sr hH x 12 (some (x + 17))) (x + 17) hv0 := hdr_fx sH (S := fun b => b = x) (FrX.sr (S := fun b => b = x) FrX.rf (Or.inl rfl)) (by omega) (fun b b1 _ z => by have : b = x := z; omega)
  refine ⟨rfl, PH.1, by omega, by omega, 8, 174, by omega, by omega, ?_⟩
  have eH : hn hH = hn (sr hH x 12 (some (x + 17))) := rfl
  rw [eH]
  have mH : hn (sr hH x 12 (some (x + 17))) = x + 26 := by rw [← eH]; omega
  have zH' : gi (sr hH x 12 (some (x + 17))) x 10 = 0 := zH
  refine (sp_init4 (h := sr hH x 12 (some (x + 17)))).mono (fun _ hI hp => ?_)
  obtain ⟨rfl, sI, nI, fI⟩ := hp
  rw [mH] at sI nI
  obtain ⟨PI, GI, FI⟩ := NH.made fI
  have zI : gi hI x 10 = 0 := by rw [fx_gi fI (by omega) id]; exact zH'
  have HI : HdR hI (x + 17) hv0 := hdr_fx HH fI (by omega) (fun _ _ _ => id)
  rw [mH]
  have NI := N9.put (n' := 35) (by omega) hx.symm (by omega) (show P9 hI x 35 from ⟨PI.1, fun _ => PI.2.1 (by omega), fun _ => PI.2.2.1 (by omega), fun _ => PI.2.2.2.1 (by omega), fun _ => PI.2.2.2.2.1 (by omega), fun _ => PI.2.2.2.2.2.1 (by omega), fun _ => PI.2.2.2.2.2.2.1 (by omega), fun _ => PI.2.2.2.2.2.2.2.1 (by omega), fun _ => PI.2.2.2.2.2.2.2.2.1 (by omega), fun _ => PI.2.2.2.2.2.2.2.2.2.1 (by omega), fun _ => PI.2.2.2.2.2.2.2.2.2.2 (by omega)⟩) GI FI 13 (some (x + 26))
  have NJ := N9.put (n' := 35) NI.1 NI.2.1 NI.2.2.1 NI.2.2.2.1 NI.2.2.2.2.1 NI.2.2.2.2.2 14 none
  have fJ : FrX (fun b => b = x) hI (sr (sr hI x 13 (some (x + 26))) x 14 none) := FrX.sr (S := fun b => b = x) (FrX.sr (S := fun b => b = x) FrX.rf (Or.inl rfl)) (Or.inl rfl)
  have HJ := hdr_fx HI fJ (by omega) (fun b b1 _ z => by have : b = x := z; omega)
  have TJ := hdr_fx sI fJ (by omega) (fun b b1 _ z => by have : b = x := z; omega)
  have zJ : gi (sr (sr hI x 13 (some (x + 26))) x 14 none) x 10 = 0 := zI
  refine ⟨rfl, PI.1, ?_⟩
  generalize sr (sr hI x 13 (some (x + 26))) x 14 none = g6 at *
  obtain ⟨j1, j2, j3, PJ, GJ, FJ⟩ := NJ
  have g12 : gr g6 x 12 = some (x + 17) := by rw [GJ]; rfl
  obtain ⟨n12, k12⟩ := nn_of g12
  refine V_X9_init_146 C ⟨PJ.1, n12, by rw [k12]; exact HJ.1.1, ?_⟩
  rw [k12]
  refine (sp_fill HJ).mono (fun _ hK hp => ?_)
  obtain ⟨rfl, HK, fK⟩ := hp
  have gK : ∀ b, b < x + 17 → ∀ j, gi hK b j = gi g6 b j := fun b hb j => (fK.2.2.2.2 b (fun z => by have := z.1; omega) j).1
  have grK : gr hK = gr g6 := fK.2.2.2.1
  have kdK : kd hK = kd g6 := fK.2.1
  have lnK : ln hK = ln g6 := fK.2.2.1
  have t3 := PJ.2.2.1 (by omega)
  have t1 := PJ.2.1 (by omega)
  have S9 : St9 g6 x := by
    have a : ∀ j, j < 10 → gr g6 x j = f j := fun j hj => by
      rw [GJ]
      show (if j = 14 then _ else if j = 13 then _ else if j = 12 then _ else f j) = f j
      rw [if_neg (by omega), if_neg (by omega), if_neg (by omega)]
    refine ⟨PJ.1, by rw [a 0 (by omega)]; exact k0, t1.1, by rw [a 1 (by omega)]; exact k1, t3.1, by rw [a 2 (by omega)]; exact k2, PJ.2.2.2.1 (by omega), by rw [a 3 (by omega)]; exact k3, PJ.2.2.2.2.1 (by omega), by rw [a 4 (by omega)]; exact k4, PJ.2.2.2.2.2.1 (by omega), by rw [a 5 (by omega)]; exact k5, PJ.2.2.2.2.2.2.1 (by omega), by rw [a 6 (by omega)]; exact k6, PJ.2.2.2.2.2.2.2.1 (by omega), by rw [a 7 (by omega)]; exact k7, PJ.2.2.2.2.2.2.2.2.1 (by omega), by rw [a 8 (by omega)]; exact k8, (PJ.2.2.2.2.2.2.2.2.2.1 (by omega)).1, (PJ.2.2.2.2.2.2.2.2.2.1 (by omega)).2.1, by rw [a 9 (by omega)]; exact k9, (PJ.2.2.2.2.2.2.2.2.2.2 (by omega)).1, (PJ.2.2.2.2.2.2.2.2.2.2 (by omega)).2.1⟩
  refine ⟨rfl, rfl, ⟨St9_same S9 kdK lnK grK, by rw [fK.1]; exact j1, ⟨by rw [grK]; exact g12, HK⟩, ⟨by rw [grK, GJ]; rfl, St4_same TJ.1 kdK lnK grK⟩, by rw [grK, GJ]; rfl, by rw [gK _ (by omega)]; exact zJ, fun j => by rw [grK]; exact (PJ.2.2.2.2.2.2.2.2.2.1 (by omega)).2.2 j, fun j => by rw [grK]; exact (PJ.2.2.2.2.2.2.2.2.2.2 (by omega)).2.2 j, ⟨by rw [gK _ (by omega), t3.2]; rfl, by simp, fun i hi => by simp at hi⟩, ⟨by rw [gK _ (by omega), t1.2]; rfl, by simp, fun i hi => by simp at hi⟩⟩, by rw [fK.1]; exact FJ.1, fun b hb => ⟨⟨by rw [kdK]; exact (FJ.2 b hb).1.1, by rw [lnK]; exact (FJ.2 b hb).1.2⟩, fun q j => ?_⟩⟩
  have o := fK.2.2.2.2 b (fun z => by have := z.1; omega) j
  have o2 := (FJ.2 b hb).2 q j
  exact ⟨o.1.trans o2.1, o.2.trans o2.2.1, by rw [grK]; exact o2.2.2⟩
set_option maxHeartbeats 4000000 in
theorem sp_init9 : S_X9_init l D 34 683 [.ref (hn h)] (nw h 10 0) (QV fun h' => C0 h' (hn h) ∧ Fr0 h h') := Sp.of rfl (Nat.le_of_ble_eq_true rfl) (fun X C _ _ hmc hms => V_X9_init_0 C (by
  generalize hx : hn h = x
  have f0 : Fr0 h (nw h 10 0) := FrX.rf.nw
  have n0 : hn (nw h 10 0) = x + 1 := by rw [hn_nw, hx]
  have P0 : P9 (nw h 10 0) x 1 := ⟨by rw [kd_nw, if_pos hx.symm], fun c => by omega, fun c => by omega, fun c => by omega, fun c => by omega, fun c => by omega, fun c => by omega, fun c => by omega, fun c => by omega, fun c => by omega, fun c => by omega⟩
  have N0 : N9 h (nw h 10 0) x 1 (fun _ => none) := ⟨n0, hx.symm, by omega, P0, fun j => by rw [gr_nw, if_pos hx.symm], f0⟩
  generalize nw h 10 0 = g0 at *
  -- text
  refine ⟨by omega, by omega, 1, 80, by omega, by omega, (sp_init7 (h := g0)).mono (fun _ h3 hp => ?_)⟩
  obtain ⟨rfl, s3, n3, f3, z3⟩ := hp
  rw [n0] at s3 n3 z3
  obtain ⟨P3, G3, F3⟩ := N0.made f3
  have Q3 : P9 h3 x 3 := ⟨P3.1, fun _ => ⟨s3, z3⟩, fun c => by omega, fun c => by omega, fun c => by omega, fun c => by omega, fun c => by omega, fun c => by omega, fun c => by omega, fun c => by omega, fun c => by omega⟩
  have N3 := N9.put (n' := 3) (by omega) hx.symm (by omega) Q3 G3 F3 0 (some (hn g0))
  refine ⟨rfl, Q3.1, by omega, by omega, 1, 60, by omega, by omega, ?_⟩
  have e3 : hn h3 = hn (sr h3 x 0 (some (hn g0))) := rfl
  rw [e3]
  have m3 : hn (sr h3 x 0 (some (hn g0))) = x + 3 := by rw [← e3]; omega
  -- told
  refine (sp_init8 (h := sr h3 x 0 (some (hn g0)))).mono (fun _ h9 hp => ?_)
  obtain ⟨rfl, s9, n9, f9, z9⟩ := hp
  rw [m3] at s9 n9 z9
  obtain ⟨P9', G9, F9⟩ := N3.made f9
  have Q9 : P9 h9 x 5 := ⟨P9'.1, fun _ => P9'.2.1 (by omega), fun _ => ⟨s9, z9⟩, fun c => by omega, fun c => by omega, fun c => by omega, fun c => by omega, fun c => by omega, fun c => by omega, fun c => by omega, fun c => by omega⟩
  have N9' := N9.put (n' := 5) (by omega) hx.symm (by omega) Q9 G9 F9 1 (some (hn h3))
  refine ⟨rfl, Q9.1, by omega, by omega, ?_⟩
  have e9 : hn h9 = hn (sr h9 x 1 (some (hn h3))) := rfl
  have v3 : hn h3 = x + 3 := by omega
  have v0 : hn g0 = x + 1 := n0
  rw [m3]
  rw [v3] at N9' e9
  rw [e9]
  have m9 : hn (sr h9 x 1 (some (x + 3))) = x + 5 := by rw [← e9]; omega
  -- the simple way
  refine (sp_init6 (h := sr h9 x 1 (some (x + 3)))).mono (fun _ h15 hp => ?_)
  obtain ⟨rfl, s15, n15, f15⟩ := hp
  rw [m9] at s15 n15
  obtain ⟨P15, G15, F15⟩ := N9'.made f15
  have Q15 : P9 h15 x 6 := ⟨P15.1, fun _ => P15.2.1 (by omega), fun _ => P15.2.2.1 (by omega), fun _ => s15, fun c => by omega, fun c => by omega, fun c => by omega, fun c => by omega, fun c => by omega, fun c => by omega, fun c => by omega⟩
  have N15 := N9.put (n' := 6) (by omega) hx.symm (by omega) Q15 G15 F15 2 (some (x + 5))
  refine ⟨rfl, Q15.1, ?_⟩
  rw [m9]
  generalize eg : sr h15 x 2 (some (x + 5)) = g1 at *
  have n1 : hn g1 = x + 6 := N15.1
  clear e3 e9 m3 m9
  -- the other ways
  refine V_X9_init_37 C ⟨by omega, by omega, (sp_init0 (h := g1)).mono (fun _ h3' hp => ?_)⟩
  obtain ⟨rfl, sA, nA, fA⟩ := hp
  rw [n1] at sA nA
  obtain ⟨PA, GA, FA⟩ := N15.made fA
  have QA : P9 h3' x 7 := ⟨PA.1, fun _ => PA.2.1 (by omega), fun _ => PA.2.2.1 (by omega), fun _ => PA.2.2.2.1 (by omega), fun _ => sA, fun c => by omega, fun c => by omega, fun c => by omega, fun c => by omega, fun c => by omega, fun c => by omega⟩
  have NA := N9.put (n' := 7) (by omega) hx.symm (by omega) QA GA FA 3 (some (hn g1))
  refine ⟨rfl, QA.1, by omega, by omega, 1, 4, by omega, by omega, ?_⟩
  have eA : hn h3' = hn (sr h3' x 3 (some (hn g1))) := rfl
  rw [eA]
  have mA : hn (sr h3' x 3 (some (hn g1))) = x + 7 := by rw [← eA]; omega
  refine (sp_init1 (h := sr h3' x 3 (some (hn g1)))).mono (fun _ h7' hp => ?_)
  obtain ⟨rfl, sB, nB, fB⟩ := hp
  rw [mA] at sB nB
  obtain ⟨PB, GB, FB⟩ := NA.made fB
  have QB : P9 h7' x 9 := ⟨PB.1, fun _ => PB.2.1 (by omega), fun _ => PB.2.2.1 (by omega), fun _ => PB.2.2.2.1 (by omega), fun _ => PB.2.2.2.2.1 (by omega), fun _ => sB, fun c => by omega, fun c => by omega, fun c => by omega, fun c => by omega, fun c => by omega⟩
  rw [mA]
  have NB := N9.put (n' := 9) (by omega) hx.symm (by omega) QB GB FB 4 (some (x + 7))
  refine ⟨rfl, QB.1, by omega, by omega, 3, 122, by omega, by omega, ?_⟩
  have eB : hn h7' = hn (sr h7' x 4 (some (x + 7))) := rfl
  rw [eB]
  have mB : hn (sr h7' x 4 (some (x + 7))) = x + 9 := by rw [← eB]; omega
  refine (sp_init3 (h := sr h7' x 4 (some (x + 7)))).mono (fun _ h13' hp => ?_)
  obtain ⟨rfl, sC, nC, fC⟩ := hp
  rw [mB] at sC nC
  obtain ⟨PC, GC, FC⟩ := NB.made fC
  have QC : P9 h13' x 13 := ⟨PC.1, fun _ => PC.2.1 (by omega), fun _ => PC.2.2.1 (by omega), fun _ => PC.2.2.2.1 (by omega), fun _ => PC.2.2.2.2.1 (by omega), fun _ => PC.2.2.2.2.2.1 (by omega), fun _ => sC, fun c => by omega, fun c => by omega, fun c => by omega, fun c => by omega⟩
  rw [mB]
  have NC := N9.put (n' := 13) (by omega) hx.symm (by omega) QC GC FC 5 (some (x + 9))
  refine ⟨rfl, QC.1, ?_⟩
  generalize eg2 : sr h13' x 5 (some (x + 9)) = g2 at *
  have n2 : hn g2 = x + 13 := NC.1
  clear eA eB mA mB
  -- the fractions, what can be undone
  refine V_X9_init_70 C ⟨by omega, by omega, (sp_init2x (h := g2)).mono (fun _ hD hp => ?_)⟩
  obtain ⟨rfl, sD, nD, fD⟩ := hp
  rw [n2] at sD nD
  obtain ⟨PD, GD, FD⟩ := NC.made fD
  have QD : P9 hD x 14 := ⟨PD.1, fun _ => PD.2.1 (by omega), fun _ => PD.2.2.1 (by omega), fun _ => PD.2.2.2.1 (by omega), fun _ => PD.2.2.2.2.1 (by omega), fun _ => PD.2.2.2.2.2.1 (by omega), fun _ => PD.2.2.2.2.2.2.1 (by omega), fun _ => sD, fun c => by omega, fun c => by omega, fun c => by omega⟩
  rw [n2]
  have ND := N9.put (n' := 14) (by omega) hx.symm (by omega) QD GD FD 6 (some (x + 13))
  refine ⟨rfl, QD.1, by omega, by omega, ?_⟩
  have eD : hn hD = hn (sr hD x 6 (some (x + 13))) := rfl
  rw [eD]
  have mD : hn (sr hD x 6 (some (x + 13))) = x + 14 := by rw [← eD]; omega
  refine (sp_init2x (h := sr hD x 6 (some (x + 13)))).mono (fun _ hE hp => ?_)
  obtain ⟨rfl, sE, nE, fE⟩ := hp
  rw [mD] at sE nE
  obtain ⟨PE, GE, FE⟩ := ND.made fE
  have QE : P9 hE x 15 := ⟨PE.1, fun _ => PE.2.1 (by omega), fun _ => PE.2.2.1 (by omega), fun _ => PE.2.2.2.1 (by omega), fun _ => PE.2.2.2.2.1 (by omega), fun _ => PE.2.2.2.2.2.1 (by omega), fun _ => PE.2.2.2.2.2.2.1 (by omega), fun _ => PE.2.2.2.2.2.2.2.1 (by omega), fun _ => sE, fun c => by omega, fun c => by omega⟩
  rw [mD]
  have NE := N9.put (n' := 15) (by omega) hx.symm (by omega) QE GE FE 7 (some (x + 14))
  have vE : hn hE = x + 15 := by omega
  refine ⟨rfl, QE.1, by omega, by omega, by rw [kd_nw, vE, if_neg (by omega)]; exact QE.1, ?_⟩
  rw [vE]
  generalize eg3 : sr hE x 7 (some (x + 14)) = g3 at *
  have n3' : hn g3 = x + 15 := NE.1
  have fF : Fr0 g3 (nw g3 24 7) := FrX.rf.nw
  obtain ⟨PF', GF, FF⟩ := NE.made fF
  have QF : P9 (nw g3 24 7) x 16 := ⟨PF'.1, fun _ => PF'.2.1 (by omega), fun _ => PF'.2.2.1 (by omega), fun _ => PF'.2.2.2.1 (by omega), fun _ => PF'.2.2.2.2.1 (by omega), fun _ => PF'.2.2.2.2.2.1 (by omega), fun _ => PF'.2.2.2.2.2.2.1 (by omega), fun _ => PF'.2.2.2.2.2.2.2.1 (by omega), fun _ => PF'.2.2.2.2.2.2.2.2.1 (by omega), fun _ => ⟨by rw [kd_nw, if_pos n3'.symm], by rw [ln_nw, if_pos n3'.symm], fun j => by rw [gr_nw, if_pos n3'.symm]⟩, fun c => by omega⟩
  have NF := N9.put (n' := 16) (by rw [hn_nw]; omega) hx.symm (by omega) QF GF FF 8 (some (x + 15))
  generalize eg4 : sr (nw g3 24 7) x 8 (some (x + 15)) = g4 at *
  have n4 : hn g4 = x + 16 := NF.1
  have fG : Fr0 g4 (nw g4 24 2) := FrX.rf.nw
  obtain ⟨PG, GG, FG⟩ := NF.made fG
  have QG : P9 (nw g4 24 2) x 17 := ⟨PG.1, fun _ => PG.2.1 (by omega), fun _ => PG.2.2.1 (by omega), fun _ => PG.2.2.2.1 (by omega), fun _ => PG.2.2.2.2.1 (by omega), fun _ => PG.2.2.2.2.2.1 (by omega), fun _ => PG.2.2.2.2.2.2.1 (by omega), fun _ => PG.2.2.2.2.2.2.2.1 (by omega), fun _ => PG.2.2.2.2.2.2.2.2.1 (by omega), fun _ => PG.2.2.2.2.2.2.2.2.2.1 (by omega), fun _ => ⟨by rw [kd_nw, if_pos n4.symm], by rw [ln_nw, if_pos n4.symm], fun j => by rw [gr_nw, if_pos n4.symm]⟩⟩
  have NG := N9.put (n' := 17) (by rw [hn_nw]; omega) hx.symm (by omega) QG GG FG 9 (some (x + 16))
  refine V_X9_init_101 C ⟨by omega, by omega, QG.1, ?_⟩
  rw [n4]
  have fS : FrX (fun b => b = x) (sr (nw g4 24 2) x 9 (some (x + 16))) (si (si (sr (nw g4 24 2) x 9 (some (x + 16))) x 10 0) x 11 0) := FrX.si (S := fun b => b = x) (FrX.si (S := fun b => b = x) FrX.rf (Or.inl rfl)) (Or.inl rfl)
  have NS : N9 h (si (si (sr (nw g4 24 2) x 9 (some (x + 16))) x 10 0) x 11 0) x 17 _ := ⟨NG.1, NG.2.1, NG.2.2.1, NG.2.2.2.1.kp (by omega) (by rw [NG.1]; omega) fS, NG.2.2.2.2.1, (NG.2.2.2.2.2.si (Or.inr (by omega))).si (Or.inr (by omega))⟩
  have zS : gi (si (si (sr (nw g4 24 2) x 9 (some (x + 16))) x 10 0) x 11 0) x 10 = 0 := by rw [gi_si, if_neg (by omega), gi_si, if_pos ⟨rfl, rfl⟩]
  generalize si (si (sr (nw g4 24 2) x 9 (some (x + 16))) x 10 0) x 11 0 = g5 at *
  exact init9_heads C hmc hms NS zS (by rw [← v0]; rfl) (by rfl) rfl (by rw [← n1]; rfl) rfl rfl rfl rfl rfl rfl))
end CI9
