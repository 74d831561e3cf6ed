-- nextTrain() of the reference
section GoA
variable {X : Ctx} {l : Launch} {D : Dt} {h : Hp} {m : Nat} {Q : Pq} {A : HV} {s : Sv}
theorem go_at (C : C_X10_goesOn X) (H : MdR h m A) (V : VA A) {n : Nat} (hn : n ≤ 4) {v1 : Int32} (e1 : v1.toInt = n) (n0 : 1 ≤ n) (R : (Nat → Int) → Prop)
    (found : ∀ (h' : Hp) (G : Nat → Int), FrG m h h' → GrH h' m G → TrV (A 0 4) n G → (∀ T, TrV (A 0 4) n T → (R T ↔ ((∀ j, j < n → T j = G j) ∨ PastB G n T))) → Q (some (.int 1)) h')
    (none : ∀ h' : Hp, FrG m h h' → (∀ T, TrV (A 0 4) n T → ¬ R T) → Q (some (.int 0)) h') (k : Nat) : k < n → ∀ (h' : Hp) (G : Nat → Int) (v2 : Int32), v2.toInt = k → FrG m h h' → GrH h' m G → TrV (A 0 4) k G → -1 ≤ G k → G k < A 0 4 → (∀ T, TrV (A 0 4) n T → (R T ↔ PastB G (k + 1) T)) → Wj X 0 0 Q 4 [(0, .ref m), (1, .int v1), (2, .int v2)] [] h' := by
  induction k with
  | zero =>
    intro hk h' G v2 e2 f g tv g0 g1 hR
    refine go_level C H V hn e1 n0 R found (n - 1) 0 G (by omega) (fun h2 G2 v f2 g2 ev ep2 hR2 => ?_) (A 0 4 - 1 - G 0).toNat h' G v2 e2 f g (fun i hi => rfl) tv g0 (by omega) hR
    refine V_X10_goesOn_4 C ⟨fun _ => none h2 f2 (fun T hT z => ?_), fun q => ?_⟩
    · obtain ⟨i, hi, -⟩ := (hR2 T hT).mp z
      omega
    · rw [i32_lt, i0_t] at q; omega
  | succ k ih =>
    intro hk h' G v2 e2 f g tv g0 g1 hR
    refine go_level C H V hn e1 n0 R found (n - 1 - (k + 1)) (k + 1) G (by omega) (fun h2 G2 v f2 g2 ev ep2 hR2 => ?_) (A 0 4 - 1 - G (k + 1)).toNat h' G v2 e2 f g (fun i hi => rfl) tv g0 (by omega) hR
    have tk := tv.1 k (by omega)
    have ek := ep2 k (by omega)
    exact ih (by omega) h2 G2 v (by omega) f2 g2 ⟨fun i hi => by rw [ep2 i (by omega)]; exact tv.1 i (by omega), fun i j hij hj => by rw [ep2 i (by omega), ep2 j (by omega)]; exact tv.2 i j hij (by omega)⟩ (by omega) (by omega) hR2
theorem ma_goesOn (H : MdR h m A) (V : VA A) {n : Nat} (hn : n ≤ 4) {v1 : Int32} (e1 : v1.toInt = n) (n0 : 1 ≤ n) {G : Nat → Int} (g : GrH h m G) (tv : TrV (A 0 4) (n - 1) G) (g0 : -1 ≤ G (n - 1)) (g1 : G (n - 1) < A 0 4) : S_X10_goesOn l D 0 0 [.ref m, .int v1] h (QI fun y h' => FrG m h h' ∧ ((y = 1 ∧ ∃ G', GrH h' m G' ∧ TrV (A 0 4) n G' ∧ ∀ T, TrV (A 0 4) n T → (PastB G n T ↔ ((∀ j, j < n → T j = G' j) ∨ PastB G' n T))) ∨ (y = 0 ∧ ∀ T, TrV (A 0 4) n T → ¬ PastB G n T))) := Sp.of rfl (Nat.le_of_ble_eq_true rfl) (fun X C _ _ _ _ => V_X10_goesOn_0 C (by
  have ev : (v1 - 1).toInt = ((n - 1 : Nat) : Int) := by rw [isub_t] <;> rw [e1, i1_t] <;> omega
  have en : n - 1 + 1 = n := by omega
  exact go_at C H V hn e1 n0 (PastB G n) (fun h' G' f g' tv' hR => ⟨1, rfl, f, Or.inl ⟨rfl, G', g', tv', hR⟩⟩) (fun h' f hR => ⟨0, rfl, f, Or.inr ⟨rfl, hR⟩⟩) (n - 1) (by omega) h G _ ev FrG.rf g tv g0 g1 (fun T hT => by rw [en])))
end GoA
-- by numbers
def tG (t : Nat) : Nat → Int := fun i => if i = 0 then tA t else if i = 1 then tB t else if i = 2 then tC t else tD t
theorem tG_0 (t : Nat) : tG t 0 = tA t := rfl
theorem tG_1 (t : Nat) : tG t 1 = tB t := rfl
theorem tG_2 (t : Nat) : tG t 2 = tC t := rfl
theorem tG_3 (t : Nat) : tG t 3 = tD t := rfl
theorem lt2 {i : Nat} (h : i < 2) : i = 0 ∨ i = 1 := by omega
theorem lt4 {i : Nat} (h : i < 4) : i = 0 ∨ i = 1 ∨ i = 2 ∨ i = 3 := by omega
theorem TrV2 {g : Int} {T : Nat → Int} : TrV g 2 T ↔ (0 ≤ T 0 ∧ T 0 < g) ∧ (0 ≤ T 1 ∧ T 1 < g) ∧ T 0 ≠ T 1 := by
  constructor
  · intro h; exact ⟨h.1 0 (by omega), h.1 1 (by omega), h.2 0 1 (by omega) (by omega)⟩
  · rintro ⟨h0, h1, h2⟩
    refine ⟨fun i hi => ?_, fun i j hij hj => ?_⟩
    · rcases lt2 hi with rfl | rfl
      · exact h0
      · exact h1
    · have ei : i = 0 := by omega
      have ej : j = 1 := by omega
      rw [ei, ej]; exact h2
theorem TrV4 {g : Int} {T : Nat → Int} : TrV g 4 T ↔ ((0 ≤ T 0 ∧ T 0 < g) ∧ (0 ≤ T 1 ∧ T 1 < g) ∧ (0 ≤ T 2 ∧ T 2 < g) ∧ (0 ≤ T 3 ∧ T 3 < g)) ∧ T 0 ≠ T 1 ∧ T 0 ≠ T 2 ∧ T 0 ≠ T 3 ∧ T 1 ≠ T 2 ∧ T 1 ≠ T 3 ∧ T 2 ≠ T 3 := by
  constructor
  · intro h
    exact ⟨⟨h.1 0 (by omega), h.1 1 (by omega), h.1 2 (by omega), h.1 3 (by omega)⟩, h.2 0 1 (by omega) (by omega), h.2 0 2 (by omega) (by omega), h.2 0 3 (by omega) (by omega), h.2 1 2 (by omega) (by omega), h.2 1 3 (by omega) (by omega), h.2 2 3 (by omega) (by omega)⟩
  · rintro ⟨⟨h0, h1, h2, h3⟩, d1, d2, d3, d4, d5, d6⟩
    refine ⟨fun i hi => ?_, fun i j hij hj => ?_⟩
    · rcases lt4 hi with rfl | rfl | rfl | rfl
      · exact h0
      · exact h1
      · exact h2
      · exact h3
    · rcases lt4 (show i < 4 by omega) with rfl | rfl | rfl | rfl <;> rcases lt4 hj with rfl | rfl | rfl | rfl <;> first | omega | assumption
theorem PB2 {G T : Nat → Int} : PastB G 2 T ↔ (G 0 < T 0 ∨ (T 0 = G 0 ∧ G 1 < T 1)) := by
  rw [pb_succ, pb_succ]
  constructor
  · rintro ((⟨i, hi, -⟩ | ⟨-, z⟩) | ⟨z1, z2⟩)
    · omega
    · exact Or.inl z
    · exact Or.inr ⟨z1 0 (by omega), z2⟩
  · rintro (z | ⟨z1, z2⟩)
    · exact Or.inl (Or.inr ⟨fun j hj => by omega, z⟩)
    · refine Or.inr ⟨fun j hj => ?_, z2⟩
      have : j = 0 := by omega
      rw [this]; exact z1
theorem PB4 {G T : Nat → Int} : PastB G 4 T ↔ (G 0 < T 0 ∨ (T 0 = G 0 ∧ G 1 < T 1) ∨ (T 0 = G 0 ∧ T 1 = G 1 ∧ G 2 < T 2) ∨ (T 0 = G 0 ∧ T 1 = G 1 ∧ T 2 = G 2 ∧ G 3 < T 3)) := by
  rw [pb_succ, pb_succ, PB2]
  constructor
  · rintro (((z | z) | ⟨z1, z2⟩) | ⟨z1, z2⟩)
    · exact Or.inl z
    · exact Or.inr (Or.inl z)
    · exact Or.inr (Or.inr (Or.inl ⟨z1 0 (by omega), z1 1 (by omega), z2⟩))
    · exact Or.inr (Or.inr (Or.inr ⟨z1 0 (by omega), z1 1 (by omega), z1 2 (by omega), z2⟩))
  · rintro (z | z | ⟨z1, z2, z3⟩ | ⟨z1, z2, z3, z4⟩)
    · exact Or.inl (Or.inl (Or.inl z))
    · exact Or.inl (Or.inl (Or.inr z))
    · refine Or.inl (Or.inr ⟨fun j hj => ?_, z3⟩)
      rcases lt2 hj with rfl | rfl
      · exact z1
      · exact z2
    · refine Or.inr ⟨fun j hj => ?_, z4⟩
      have : j = 0 ∨ j = 1 ∨ j = 2 := by omega
      rcases this with rfl | rfl | rfl
      · exact z1
      · exact z2
      · exact z3
theorem tv_2 {g t : Nat} (h : t < 144) : TrV g 2 (tG t) ↔ tAll g t := by
  rw [TrV2, tG_0, tG_1]
  unfold tAll
  constructor
  · rintro ⟨a, b, c⟩; exact ⟨by omega, by omega, by omega, by omega, fun q => by omega⟩
  · rintro ⟨-, b, c, d, -⟩; omega
theorem tv_4 {g t : Nat} (h : 144 ≤ t) (h2 : t < 20880) : TrV g 4 (tG t) ↔ tAll g t := by
  rw [TrV4, tG_0, tG_1, tG_2, tG_3]
  unfold tAll
  constructor
  · rintro ⟨⟨a, b, c, d⟩, e1, e2, e3, e4, e5, e6⟩; exact ⟨h2, by omega, by omega, by omega, fun q => ⟨by omega, by omega, by omega, by omega, by omega, by omega, by omega⟩⟩
  · rintro ⟨-, b, c, d, e⟩
    obtain ⟨f1, f2, f3, f4, f5, f6, f7⟩ := e h
    exact ⟨⟨by omega, by omega, by omega, by omega⟩, by omega, by omega, by omega, by omega, by omega, by omega⟩
theorem pb_2 {t t' : Nat} (h : t < 144) (h' : t' < 144) : PastB (tG t) 2 (tG t') ↔ t < t' := by
  rw [PB2, tG_0, tG_1, tG_0, tG_1]
  have e := tM2_self h
  have e' := tM2_self h'
  omega
theorem pb_4 {t t' : Nat} (h : 144 ≤ t) (h' : 144 ≤ t') (h2 : t < 20880) (h2' : t' < 20880) : PastB (tG t) 4 (tG t') ↔ t < t' := by
  rw [PB4, tG_0, tG_1, tG_2, tG_3, tG_0, tG_1, tG_2, tG_3]
  obtain ⟨e, e1, e2, e3, e4⟩ := tM4_self h h2
  obtain ⟨f, f1, f2, f3, f4⟩ := tM4_self h' h2'
  unfold tM4 at e f
  generalize tA t = a at *
  generalize tB t = b at *
  generalize tC t = c at *
  generalize tD t = d at *
  generalize tA t' = a' at *
  generalize tB t' = b' at *
  generalize tC t' = c' at *
  generalize tD t' = d' at *
  omega
/-- a train of two by its gears -/
theorem nb_2 {g : Nat} (hg : g ≤ 12) {G : Nat → Int} (V : TrV g 2 G) : ∃ t, t < 144 ∧ tAll g t ∧ ∀ j, j < 2 → tG t j = G j := by
  obtain ⟨⟨a0, a1⟩, ⟨b0, b1⟩, c⟩ := TrV2.mp V
  obtain ⟨d1, d2, d3⟩ := tM2_d (a := (G 0).toNat) (b := (G 1).toNat) (by omega) (by omega)
  have e : ∀ j, j < 2 → tG (12 * (G 0).toNat + (G 1).toNat) j = G j := by
    intro j hj
    rcases lt2 hj with rfl | rfl
    · rw [tG_0, d2]; omega
    · rw [tG_1, d3]; omega
  refine ⟨_, d1, (tv_2 d1).mp (V.ext e), e⟩
theorem nb_4 {g : Nat} (hg : g ≤ 12) {G : Nat → Int} (V : TrV g 4 G) : ∃ t, 144 ≤ t ∧ t < 20880 ∧ tAll g t ∧ ∀ j, j < 4 → tG t j = G j := by
  obtain ⟨⟨a, b, c, d⟩, -⟩ := TrV4.mp V
  obtain ⟨d1, d2, d3, d4, d5, d6⟩ := tM4_d (a := (G 0).toNat) (b := (G 1).toNat) (c := (G 2).toNat) (d := (G 3).toNat) (by omega) (by omega) (by omega) (by omega)
  have e : ∀ j, j < 4 → tG (tM4 (G 0).toNat (G 1).toNat (G 2).toNat (G 3).toNat) j = G j := by
    intro j hj
    rcases lt4 hj with rfl | rfl | rfl | rfl
    · rw [tG_0, d3]; omega
    · rw [tG_1, d4]; omega
    · rw [tG_2, d5]; omega
    · rw [tG_3, d6]; omega
  refine ⟨_, d1, d2, (tv_4 d1 d2).mp (V.ext e), e⟩
/-- the train that stands -/
def TrH (h : Hp) (m t : Nat) : Prop := (gi h m 18).toInt = tN t ∧ ∀ j : Nat, (j : Int) < tN t → (gi h (m + 7) j).toInt = tG t j
def NTs (h : Hp) (m g c : Nat) : Prop := ((gi h m 18).toInt = 0 ∧ c = 0) ∨ ∃ t, c = t + 1 ∧ TrH h m t ∧ tAll g t
abbrev FrN (m : Nat) (h h' : Hp) : Prop := FrW (fun b j => b = m ∧ j = 18 ∨ b = m + 7) (fun _ _ => False) h h'
def NTo (h' : Hp) (m g c : Nat) (y : Int32) : Prop := (y = 0 ∧ ∀ t, c ≤ t → ¬ tAll g t) ∨ (y = 1 ∧ ∃ t, c ≤ t ∧ tAll g t ∧ (∀ t', c ≤ t' → t' < t → ¬ tAll g t') ∧ TrH h' m t)
theorem tN_2 {t : Nat} (h : t < 144) : tN t = 2 := if_pos h
theorem tN_4 {t : Nat} (h : 144 ≤ t) : tN t = 4 := if_neg (by omega)
section NxT
variable {X : Ctx} {l : Launch} {D : Dt} {h : Hp} {m : Nat} {Q : Pq} {A : HV} {s : Sv}
theorem FrG.n {h' : Hp} (f : FrG m h h') : FrN m h h' := f.mono (fun b j q => Or.inr q) (fun _ _ q => q)
theorem FrN.md {h' : Hp} (H : MdR h m A) (V : VA A) (f : FrN m h h') : MdR h' m A := H.fr V f (fun j _ q => by omega) (fun _ _ => id)
theorem ma_startsTrains (F : St10 h m) {v : Int32} : S_X10_startsTrains l D 0 0 [.ref m, .int v] h (QV fun h' => gi h' m 18 = v ∧ (∀ j, j < 4 → gi h' (m + 7) j = -1) ∧ FrN m h h') := Sp.of rfl (Nat.le_of_ble_eq_true rfl) (fun X C _ _ _ _ => V_X10_startsTrains_0 C (by
  refine ⟨F, ?_⟩
  have f0 : FrN m h (si h m 18 v) := FrW.si (P := fun b j => b = m ∧ j = 18 ∨ b = m + 7) (R := fun _ _ => False) FrW.rf (Or.inl ⟨rfl, rfl⟩)
  have key : ∀ (d : Nat) (h' : Hp) (w : Int32), 0 ≤ w.toInt → w.toInt + d = 4 → FrN m h h' → gi h' m 18 = v → (∀ j, j < ix w → gi h' (m + 7) j = -1) → Wj X 0 0 (QV fun h' => gi h' m 18 = v ∧ (∀ j, j < 4 → gi h' (m + 7) j = -1) ∧ FrN m h h') 7 [(0, .ref m), (2, .int w)] [] h' := by
    intro d
    induction d with
    | zero =>
      intro h' w w0 hd f e g
      refine V_X10_startsTrains_7 C ⟨fun _ => ⟨rfl, e, fun j hj => g j (by unfold ix; omega), f⟩, fun q => ?_⟩
      rw [i32_le] at q
      have : (4 : Int32).toInt = 4 := rfl
      omega
    | succ d ih =>
      intro h' w w0 hd f e g
      obtain ⟨x1, x2⟩ := ix_succ w0 (by omega)
      refine V_X10_startsTrains_7 C ⟨fun q => ?_, fun _ => ⟨f.st10 F, by unfold inb; omega, ih _ _ (by omega) (by omega) (FrW.si (P := fun b j => b = m ∧ j = 18 ∨ b = m + 7) (R := fun _ _ => False) f (Or.inr rfl)) ?_ (fun j hj => ?_)⟩⟩
      · rw [i32_le] at q
        have : (4 : Int32).toInt = 4 := rfl
        omega
      · rw [gi_si, if_neg (by omega)]; exact e
      · rw [gi_si]
        by_cases z : j = ix w
        · rw [if_pos ⟨rfl, z⟩]
        · rw [if_neg (fun q => z q.2)]; exact g j (by omega)
  refine key 4 _ 0 (by decide) (by decide) f0 ?_ (fun j hj => by rw [ix_0] at hj; omega)
  rw [gi_si, if_pos ⟨rfl, rfl⟩]))
theorem ma_beginsFour (H : MdR h m A) (V : VA A) : S_X10_beginsFour l D 0 0 [.ref m] h (QI fun y h' => FrG m h h' ∧ ((y = 1 ∧ 4 ≤ A 0 4 ∧ ∀ j : Nat, j < 4 → (gi h' (m + 7) j).toInt = j) ∨ (y = 0 ∧ A 0 4 < 4))) := Sp.of rfl (Nat.le_of_ble_eq_true rfl) (fun X C _ _ _ _ => V_X10_beginsFour_0 C (by
  have e4 := H.n (i := 4) (by omega)
  have i4 : (4 : Int32).toInt = 4 := rfl
  refine ⟨H.1, fun q => ?_, fun q => ?_⟩
  all_goals rw [ix_4, i32_le, e4, i4] at q
  · have key : ∀ (d : Nat) (h' : Hp) (w : Int32), 0 ≤ w.toInt → w.toInt + d = 4 → FrG m h h' → (∀ j : Nat, j < ix w → (gi h' (m + 7) j).toInt = j) → Wj X 0 0 (QI fun y h' => FrG m h h' ∧ ((y = 1 ∧ 4 ≤ A 0 4 ∧ ∀ j : Nat, j < 4 → (gi h' (m + 7) j).toInt = j) ∨ (y = 0 ∧ A 0 4 < 4))) 12 [(0, .ref m), (1, .int w)] [] h' := by
      intro d
      induction d with
      | zero =>
        intro h' w w0 hd f g
        refine V_X10_beginsFour_12 C ⟨fun _ => ⟨1, rfl, f, Or.inl ⟨rfl, q, fun j hj => g j (by unfold ix; omega)⟩⟩, fun q => ?_⟩
        rw [i32_le] at q
        omega
      | succ d ih =>
        intro h' w w0 hd f g
        obtain ⟨x1, x2⟩ := ix_succ w0 (by omega)
        refine V_X10_beginsFour_12 C ⟨fun q => ?_, fun _ => ⟨f.st10 H.1, by unfold inb; omega, ih _ _ (by omega) (by omega) (FrG.s f) (fun j hj => ?_)⟩⟩
        · rw [i32_le] at q
          omega
        · rw [gi_si]
          by_cases z : j = ix w
          · rw [if_pos ⟨rfl, z⟩, z, ix_t w0]
          · rw [if_neg (fun q => z q.2)]; exact g j (by omega)
    exact key 4 h 0 (by decide) (by decide) FrG.rf (fun j hj => by rw [ix_0] at hj; omega)
  · exact ⟨0, rfl, FrG.rf, Or.inr ⟨rfl, by omega⟩⟩))
theorem i2_ne4 : ¬ (4 : Int32) = 2 := by decide
/-- no more trains of two -/
theorem nt_37 (C : C_X10_nextTrain X) (H : MdR h m A) (V : VA A) (e18 : gi h m 18 = 2) {c : Nat} (c1 : c ≤ 144) (no : ∀ t, c ≤ t → t < 144 → ¬ tAll (gN A) t) (hq : ∀ (y : Int32) (h' : Hp), FrN m h h' → NTo h' m (gN A) c y → Q (some (.int y)) h') : Wj X 0 0 Q 37 [(0, .ref m)] [] h := by
  have vg := V.gn
  refine V_X10_nextTrain_37 C ⟨H.1, fun q => absurd e18 q, fun _ => (ma_startsTrains H.1).mono (fun v h5 hp => ?_)⟩
  obtain ⟨rfl, e5, g5, f5⟩ := hp
  have f7 : FrN m h (si (si h5 (m + 7) (ix 0) 0) (m + 7) (ix 1) (-1)) := FrW.si (P := fun b j => b = m ∧ j = 18 ∨ b = m + 7) (R := fun _ _ => False) (FrW.si (P := fun b j => b = m ∧ j = 18 ∨ b = m + 7) (R := fun _ _ => False) f5 (Or.inr rfl)) (Or.inr rfl)
  have e7 : gi (si (si h5 (m + 7) (ix 0) 0) (m + 7) (ix 1) (-1)) m 18 = 4 := by rw [gi_si, if_neg (by omega), gi_si, if_neg (by omega)]; exact e5
  refine ⟨rfl, f5.st10 H.1, ?_⟩
  generalize si (si h5 (m + 7) (ix 0) 0) (m + 7) (ix 1) (-1) = h7 at *
  refine (ma_beginsFour (FrN.md H V f7) V).mono (fun v h9 hp => ?_)
  obtain ⟨y, rfl, f9, hy⟩ := hp
  rcases hy with ⟨rfl, a4, g9⟩ | ⟨rfl, a4⟩
  · refine ⟨1, rfl, Or.inr rfl, hq 1 h9 (f7.tr f9.n) (Or.inr ⟨rfl, tM4 0 1 2 3, ?_⟩)⟩
    obtain ⟨d1, d2, d3, d4, d5, d6⟩ := tM4_d (a := 0) (b := 1) (c := 2) (d := 3) (by omega) (by omega) (by omega) (by omega)
    refine ⟨by omega, ⟨d2, by omega, by omega, by omega, fun _ => ⟨by omega, by omega, by omega, by omega, by omega, by omega, by omega⟩⟩, fun t' h1 h2 h3 => ?_, ?_, fun j hj => ?_⟩
    · rcases Nat.lt_or_ge t' 144 with z | z
      · exact no t' h1 z h3
      · obtain ⟨e, e1, e2, e3, e4⟩ := tM4_self z h3.1
        obtain ⟨-, x2, x3, x4, x5⟩ := h3
        obtain ⟨y1, y2, y3, y4, y5, y6, y7⟩ := x5 z
        unfold tM4 at e h2
        omega
    · rw [tN_4 d1, f9.xi (fun (q : m = m + 7) => by omega), e7]; rfl
    · rw [tN_4 d1] at hj
      have hj4 : j < 4 := by omega
      rw [g9 j hj4]
      rcases lt4 hj4 with rfl | rfl | rfl | rfl
      · rw [tG_0, d3]
      · rw [tG_1, d4]
      · rw [tG_2, d5]
      · rw [tG_3, d6]
  · refine ⟨0, rfl, Or.inl rfl, hq 0 h9 (f7.tr f9.n) (Or.inl ⟨rfl, fun t h1 h2 => ?_⟩)⟩
    rcases Nat.lt_or_ge t 144 with z | z
    · exact no t h1 z h2
    · obtain ⟨-, x2, x3, x4, x5⟩ := h2
      obtain ⟨y1, y2, y3, y4, y5, y6, y7⟩ := x5 z
      omega
theorem nt_19 (C : C_X10_nextTrain X) (H : MdR h m A) (V : VA A) (e18 : gi h m 18 = 2) {G : Nat → Int} (g : GrH h m G) (tv : TrV (A 0 4) 1 G) (g0 : -1 ≤ G 1) (g1 : G 1 < A 0 4) {c : Nat} (c1 : c ≤ 144) (hc : ∀ t, t < 144 → tAll (gN A) t → (c ≤ t ↔ PastB G 2 (tG t))) (hq : ∀ (y : Int32) (h' : Hp), FrN m h h' → NTo h' m (gN A) c y → Q (some (.int y)) h') : Wj X 0 0 Q 19 [(0, .ref m)] [] h := by
  have vg := V.gn
  refine V_X10_nextTrain_19 C ⟨H.1, fun q => absurd e18 q, fun _ => (ma_goesOn H V (n := 2) (by omega) (v1 := 2) rfl (by omega) g tv g0 g1).mono (fun v h2 hp => ?_)⟩
  obtain ⟨y, rfl, f2, hy⟩ := hp
  have H2 := FrN.md H V f2.n
  have e2 : gi h2 m 18 = 2 := by rw [f2.xi (fun (q : m = m + 7) => by omega)]; exact e18
  rcases hy with ⟨rfl, G', g', tv', hR⟩ | ⟨rfl, hR⟩
  · refine ⟨1, rfl, fun z => absurd z p1_ne, fun _ => hq 1 h2 f2.n (Or.inr ⟨rfl, ?_⟩)⟩
    rw [← vg.2] at tv' hR
    obtain ⟨t, t1, t2, t3⟩ := nb_2 vg.1 tv'
    have iff : ∀ t', t' < 144 → tAll (gN A) t' → (c ≤ t' ↔ (t' = t ∨ t < t')) := by
      intro t' h1 h2
      rw [hc t' h1 h2, hR (tG t') ((tv_2 h1).mpr h2), ← pb_2 t1 h1, pb_ext (G := G') (G' := tG t) t3]
      constructor
      · rintro (z | z)
        · left
          have z0 := z 0 (by omega)
          have z1 := z 1 (by omega)
          rw [← t3 0 (by omega), tG_0, tG_0] at z0
          rw [← t3 1 (by omega), tG_1, tG_1] at z1
          have q1 := tM2_self h1
          have q2 := tM2_self t1
          omega
        · exact Or.inr z
      · rintro (z | z)
        · left; intro j hj; rw [z]; exact t3 j hj
        · exact Or.inr z
    refine ⟨t, (iff t t1 t2).mpr (Or.inl rfl), t2, fun t' h1 h2 h3 => ?_, by rw [tN_2 t1, e2]; rfl, fun j hj => ?_⟩
    · have := (iff t' (by omega) h3).mp h1; omega
    · rw [tN_2 t1] at hj
      rw [g' j (by omega), t3 j (by omega)]
  · refine ⟨0, rfl, fun _ => nt_37 C H2 V e2 c1 (fun t h1 h2 h3 => ?_) (fun y h' f hy => hq y h' (f2.n.tr f) hy), fun z => absurd rfl z⟩
    rw [← vg.2] at hR
    exact hR (tG t) ((tv_2 h2).mpr h3) ((hc t h2 h3).mp h1)
theorem ma_nextTrain (H : MdR h m A) (V : VA A) (hg : 2 ≤ gN A) {c : Nat} (N : NTs h m (gN A) c) : S_X10_nextTrain l D 0 0 [.ref m] h (QI fun y h' => NTo h' m (gN A) c y ∧ FrN m h h') := Sp.of rfl (Nat.le_of_ble_eq_true rfl) (fun X C _ _ _ _ => V_X10_nextTrain_0 C (by
  have vg := V.gn
  have i2t : (2 : Int32).toInt = 2 := rfl
  refine ⟨H.1, fun q => ?_, fun q => ?_⟩
  all_goals rw [i32_eq, i0_t] at q
  · rcases N with ⟨z, -⟩ | ⟨t, rfl, ⟨a1, a2⟩, t2⟩
    · exact absurd z q
    · by_cases ht : t < 144
      · rw [tN_2 ht] at a1 a2
        have e18 : gi h m 18 = 2 := by rw [i32_eq, a1]; rfl
        have tv := (tv_2 (g := gN A) ht).mpr t2
        rw [vg.2] at tv
        have G0 : GrH h m (fun j => (gi h (m + 7) j).toInt) := fun j _ => rfl
        have eG : ∀ i, i < 2 → (fun j => (gi h (m + 7) j).toInt) i = tG t i := fun i hi => a2 i (by omega)
        generalize (fun j => (gi h (m + 7) j).toInt) = G at *
        have tv2 := tv.ext eG
        refine nt_19 C H V e18 G0 ⟨fun i hi => tv2.1 i (by omega), fun i j h1 h2 => by omega⟩ (by have := tv2.1 1 (by omega); omega) (tv2.1 1 (by omega)).2 (by omega) (fun t' h1 h2 => ?_) (fun y h' f hy => ⟨y, rfl, hy, f⟩)
        rw [pb_ext eG, pb_2 ht h1]; omega
      · rw [tN_4 (by omega)] at a1 a2
        have ht4 : 144 ≤ t := by omega
        have e18 : gi h m 18 = 4 := by rw [i32_eq, a1]; rfl
        have tv := (tv_4 (g := gN A) ht4 t2.1).mpr t2
        rw [vg.2] at tv
        have G0 : GrH h m (fun j => (gi h (m + 7) j).toInt) := fun j _ => rfl
        have eG : ∀ i, i < 4 → (fun j => (gi h (m + 7) j).toInt) i = tG t i := fun i hi => a2 i (by omega)
        generalize (fun j => (gi h (m + 7) j).toInt) = G at *
        have tv2 := tv.ext eG
        have n2 : ¬ gi h m 18 = 2 := by rw [e18]; exact i2_ne4
        refine V_X10_nextTrain_19 C ⟨H.1, fun _ => V_X10_nextTrain_37 C ⟨H.1, fun _ => (ma_goesOn H V (n := 4) (by omega) (v1 := 4) rfl (by omega) G0 ⟨fun i hi => tv2.1 i (by omega), fun i j h1 h2 => tv2.2 i j h1 (by omega)⟩ (show -1 ≤ G 3 by have := tv2.1 3 (by omega); omega) (tv2.1 3 (by omega)).2).mono (fun v h2 hp => ?_), fun z => absurd z n2⟩, fun z => absurd z n2⟩
        obtain ⟨y, rfl, f2, hy⟩ := hp
        rcases hy with ⟨rfl, G', g', tv', hR⟩ | ⟨rfl, hR⟩
        · refine ⟨1, rfl, Or.inr rfl, 1, rfl, Or.inr ⟨rfl, ?_⟩, f2.n⟩
          rw [← vg.2] at tv' hR
          obtain ⟨u, u0, u1, u2, u3⟩ := nb_4 vg.1 tv'
          have iff : ∀ t', t + 1 ≤ t' → tAll (gN A) t' → (t' = u ∨ u < t') := by
            intro t' h1 h2
            have hp : PastB G 4 (tG t') := by rw [pb_ext eG, pb_4 ht4 (by omega) t2.1 h2.1]; omega
            rcases (hR (tG t') ((tv_4 (by omega) h2.1).mpr h2)).mp hp with z | z
            · left
              obtain ⟨q1, -⟩ := tM4_self (t := t') (by omega) h2.1
              obtain ⟨q2, -⟩ := tM4_self u0 u1
              have z0 := z 0 (by omega)
              have z1 := z 1 (by omega)
              have z2 := z 2 (by omega)
              have z3 := z 3 (by omega)
              rw [← u3 0 (by omega), tG_0, tG_0] at z0
              rw [← u3 1 (by omega), tG_1, tG_1] at z1
              rw [← u3 2 (by omega), tG_2, tG_2] at z2
              rw [← u3 3 (by omega), tG_3, tG_3] at z3
              rw [q1, q2, show tA t' = tA u by omega, show tB t' = tB u by omega, show tC t' = tC u by omega, show tD t' = tD u by omega]
            · right
              rw [← pb_ext (G' := tG u) u3, pb_4 u0 (by omega) u1 h2.1] at z
              exact z
          have ul : t < u := by
            have hp : PastB G 4 (tG u) := (hR (tG u) ((tv_4 u0 u1).mpr u2)).mpr (Or.inl u3)
            rw [pb_ext eG, pb_4 ht4 u0 t2.1 u1] at hp
            exact hp
          refine ⟨u, by omega, u2, fun t' h1 h2 h3 => ?_, ?_, fun j hj => ?_⟩
          · have := iff t' h1 h3; omega
          · rw [tN_4 u0, f2.xi (fun (q : m = m + 7) => by omega), e18]; rfl
          · rw [tN_4 u0] at hj
            rw [g' j (by omega), u3 j (by omega)]
        · refine ⟨0, rfl, Or.inl rfl, 0, rfl, Or.inl ⟨rfl, fun t' h1 h2 => ?_⟩, f2.n⟩
          rw [← vg.2] at hR
          refine hR (tG t') ((tv_4 (by omega) h2.1).mpr h2) ?_
          rw [pb_ext eG, pb_4 ht4 (by omega) t2.1 h2.1]; omega
  · have c0 : c = 0 := by
      rcases N with ⟨-, z⟩ | ⟨t, -, ⟨a1, -⟩, -⟩
      · exact z
      · unfold tN at a1; split at a1 <;> omega
    subst c0
    refine (ma_startsTrains H.1).mono (fun v h2 hp => ?_)
    obtain ⟨rfl, e2, g2, f2⟩ := hp
    have f3 : FrN m h (si h2 (m + 7) (ix 0) 0) := FrW.si (P := fun b j => b = m ∧ j = 18 ∨ b = m + 7) (R := fun _ _ => False) f2 (Or.inr rfl)
    have e18 : gi (si h2 (m + 7) (ix 0) 0) m 18 = 2 := by rw [gi_si, if_neg (by omega)]; exact e2
    have G0 : GrH (si h2 (m + 7) (ix 0) 0) m (fun j => if j = 0 then 0 else -1) := by
      intro j hj
      rw [gi_si, ix_0]
      by_cases z : j = 0
      · rw [if_pos ⟨rfl, z⟩]; show _ = if j = 0 then (0 : Int) else -1; rw [if_pos z]; rfl
      · rw [if_neg (fun q => z q.2), g2 j hj]; show _ = if j = 0 then (0 : Int) else -1; rw [if_neg z]; rfl
    have k0 : (fun j : Nat => if j = 0 then (0 : Int) else -1) 0 = 0 := rfl
    have k1 : (fun j : Nat => if j = 0 then (0 : Int) else -1) 1 = -1 := rfl
    generalize (fun j : Nat => if j = 0 then (0 : Int) else -1) = G at *
    refine ⟨rfl, f2.st10 H.1, nt_19 C (FrN.md H V f3) V e18 G0 ⟨fun i hi => ?_, fun i j h1 h2 => by omega⟩ (by omega) (by omega) (by omega) (fun t' h1 h2 => ?_) (fun y h' f hy => ⟨y, rfl, hy, f3.tr f⟩)⟩
    · have : i = 0 := by omega
      rw [this, k0]; omega
    · rw [PB2, k0, k1, tG_0, tG_1]; omega))
end NxT
