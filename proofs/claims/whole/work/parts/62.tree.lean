-- steps of the tree: by taking the lesser from the greater
def trL : Nat → Int → Int → List Int
  | 0, _, _ => []
  | f + 1, a, b => if a = b then [] else if b < a then 1 :: trL f (a - b) b else 0 :: trL f a (b - a)
theorem trL_scale {g : Int} (hg : 0 < g) (f : Nat) (a b : Int) : trL f (g * a) (g * b) = trL f a b := by
  induction f generalizing a b with
  | zero => rfl
  | succ f ih =>
    unfold trL
    have e1 : g * a = g * b ↔ a = b := ⟨fun q => Int.eq_of_mul_eq_mul_left (by omega) q, fun q => by rw [q]⟩
    have e2 : g * b < g * a ↔ b < a := ⟨fun q => Int.lt_of_mul_lt_mul_left q (by omega), fun q => Int.mul_lt_mul_of_pos_left q hg⟩
    simp only [e1, e2, ← Int.mul_sub, ih]
theorem trL_fuel (f k : Nat) (a b : Int) (ha : 0 < a) (hb : 0 < b) (hf : a + b ≤ f) : trL (f + k) a b = trL f a b := by
  induction f generalizing a b with
  | zero => omega
  | succ f ih =>
    rw [show f + 1 + k = (f + k) + 1 by omega]
    unfold trL
    by_cases e : a = b
    · rw [if_pos e, if_pos e]
    · rw [if_neg e, if_neg e]
      by_cases q : b < a
      · rw [if_pos q, if_pos q, ih (a - b) b (by omega) hb (by omega)]
      · rw [if_neg q, if_neg q, ih a (b - a) ha (by omega) (by omega)]
theorem trL_len (f : Nat) (a b : Int) (ha : 0 < a) (hb : 0 < b) : ((trL f a b).length : Int) ≤ a + b - 2 := by
  induction f generalizing a b with
  | zero => unfold trL; simp; omega
  | succ f ih =>
    unfold trL
    by_cases e : a = b
    · rw [if_pos e]; simp; omega
    · rw [if_neg e]
      by_cases q : b < a
      · rw [if_pos q]
        have := ih (a - b) b (by omega) hb
        simp only [List.length_cons]; omega
      · rw [if_neg q]
        have := ih a (b - a) ha (by omega)
        simp only [List.length_cons]; omega
/-- the steps of p by q -/
def trP (p q : Int) : List Int := trL (p + q).toNat p q
theorem trP_rd {p q : Int} (hp : 0 < p) (hq : 0 < q) : trP p q = trP (rdU p q) (rdL p q) := by
  obtain ⟨r1, r2⟩ := rd_mul (u := p) hq
  have gp := gcd_pos' (u := p) hq
  have lp := rdL_pos (u := p) hq
  have ll := rdL_le (u := p) hq
  have ul := rdU_le (u := p) (w := q) (by omega)
  have up : 0 < rdU p q := by
    rcases Int.lt_or_le 0 (rdU p q) with z | z
    · exact z
    · have := Int.mul_nonpos_of_nonneg_of_nonpos (a := (Int.gcd p q : Int)) (by omega) z; omega
  unfold trP
  have e := trL_scale (g := (Int.gcd p q : Int)) (by omega) (p + q).toNat (rdU p q) (rdL p q)
  rw [r1, r2] at e
  rw [e]
  have e2 : (p + q).toNat = (rdU p q + rdL p q).toNat + ((p + q).toNat - (rdU p q + rdL p q).toNat) := by omega
  rw [e2, trL_fuel _ _ _ _ up lp (by omega)]
theorem trP_eq {a b : Int} (ha : 0 < a) (hb : 0 < b) : trP a b = if a = b then [] else if b < a then 1 :: trP (a - b) b else 0 :: trP a (b - a) := by
  unfold trP
  obtain ⟨f, hf⟩ : ∃ f, (a + b).toNat = f + 1 := ⟨(a + b).toNat - 1, by omega⟩
  rw [hf]
  show (if a = b then [] else if b < a then 1 :: trL f (a - b) b else 0 :: trL f a (b - a)) = _
  by_cases e : a = b
  · rw [if_pos e, if_pos e]
  · rw [if_neg e, if_neg e]
    by_cases q : b < a
    · rw [if_pos q, if_pos q]
      have e2 : f = (a - b + b).toNat + (f - (a - b + b).toNat) := by omega
      rw [e2, trL_fuel _ _ _ _ (by omega) hb (by omega)]
    · rw [if_neg q, if_neg q]
      have e2 : f = (a + (b - a)).toNat + (f - (a + (b - a)).toNat) := by omega
      rw [e2, trL_fuel _ _ _ _ ha (by omega) (by omega)]
theorem trP_len {a b : Int} (ha : 0 < a) (hb : 0 < b) : ((trP a b).length : Int) ≤ a + b - 2 := trL_len _ a b ha hb
def treeP (s : Sv) (p q : Int) : Int × Sv := if (1 ≤ p ∧ p ≤ 400) ∧ 1 ≤ q ∧ q ≤ 400 then (((trP p q).length : Nat), rowS s ((trP p q).take 60)) else (-1, s)
section TreeM
variable {X : Ctx} {l : Launch} {D : Dt} {h : Hp} {m : Nat} {Q : Pq}
/-- where the reference stands: the bounds, how far off -/
def SBI (p q lu ll mu ml al be : Int) : Prop := 0 ≤ lu ∧ 0 ≤ ll ∧ 0 ≤ mu ∧ 0 ≤ ml ∧ 0 < al ∧ 0 < be ∧ al = p * ll - q * lu ∧ be = q * mu - p * ml ∧ p = lu * be + mu * al ∧ q = ll * be + ml * al
theorem sbI_b {p q lu ll mu ml al be : Int} (I : SBI p q lu ll mu ml al be) : lu + mu ≤ p ∧ ll + ml ≤ q ∧ (lu + mu) * q - p * (ll + ml) = be - al := by
  obtain ⟨h1, h2, h3, h4, h5, h6, h7, h8, h9, h10⟩ := I
  have a1 : lu * 1 ≤ lu * be := Int.mul_le_mul_of_nonneg_left (by omega) h1
  have a2 : mu * 1 ≤ mu * al := Int.mul_le_mul_of_nonneg_left (by omega) h3
  have a3 : ll * 1 ≤ ll * be := Int.mul_le_mul_of_nonneg_left (by omega) h2
  have a4 : ml * 1 ≤ ml * al := Int.mul_le_mul_of_nonneg_left (by omega) h4
  refine ⟨by omega, by omega, ?_⟩
  rw [Int.add_mul, Int.mul_add, Int.mul_comm lu, Int.mul_comm mu]; omega
theorem sbI_more {p q lu ll mu ml al be : Int} (I : SBI p q lu ll mu ml al be) (h : be < al) : SBI p q (lu + mu) (ll + ml) mu ml (al - be) be := by
  have b := sbI_b I
  obtain ⟨h1, h2, h3, h4, h5, h6, h7, h8, h9, h10⟩ := I
  refine ⟨by omega, by omega, h3, h4, by omega, h6, ?_, h8, ?_, ?_⟩
  · rw [Int.mul_add, Int.mul_add]; omega
  · rw [Int.add_mul, Int.mul_sub]; omega
  · rw [Int.add_mul, Int.mul_sub]; omega
theorem sbI_less {p q lu ll mu ml al be : Int} (I : SBI p q lu ll mu ml al be) (h : al < be) : SBI p q lu ll (lu + mu) (ll + ml) al (be - al) := by
  obtain ⟨h1, h2, h3, h4, h5, h6, h7, h8, h9, h10⟩ := I
  refine ⟨h1, h2, by omega, by omega, h5, by omega, h7, ?_, ?_, ?_⟩
  · rw [Int.mul_add, Int.mul_add]; omega
  · rw [Int.add_mul, Int.mul_sub]; omega
  · rw [Int.add_mul, Int.mul_sub]; omega
theorem take_add (L : List Int) (x : Int) : (L.length < 60 → L.take 60 = L ∧ (L ++ [x]).take 60 = L ++ [x]) ∧ (60 ≤ L.length → (L ++ [x]).take 60 = L.take 60) := by
  refine ⟨fun q => ⟨List.take_of_length_le (by omega), List.take_of_length_le (by simp; omega)⟩, fun q => ?_⟩
  rw [List.take_append_of_le_length q]
/-- the walk: what is told, how many -/
theorem ms_loop (C : C_X10_stepsTo X) (F : St10 h m) {p q : Int64} {v5 : Int32} (p1 : 0 < p.toInt) (p2 : p.toInt ≤ 1000000000) (q1 : 0 < q.toInt) (q2 : q.toInt ≤ 1000000000) (hend : ∀ (h' : Hp) (c : Int32), c.toInt = (trP p.toInt q.toInt).length → FrW (rI m) (rL m) h h' → (v5 = 0 → h' = h) → (¬ v5 = 0 → RwM h' m ((trP p.toInt q.toInt).take 60)) → Q (some (.int c)) h') (N : Nat) : ∀ (h' : Hp) (lu ll mu ml up lw : Int64) (c : Int32) (al be : Int) (dn : List Int), SBI p.toInt q.toInt lu.toInt ll.toInt mu.toInt ml.toInt al be → up.toInt = lu.toInt + mu.toInt → lw.toInt = ll.toInt + ml.toInt → c.toInt = dn.length → (dn.length : Int) + al + be ≤ p.toInt + q.toInt → trP p.toInt q.toInt = dn ++ trP al be → al + be ≤ N → FrW (rI m) (rL m) h h' → (v5 = 0 → h' = h) → (¬ v5 = 0 → RwM h' m (dn.take 60)) → Wj X 0 0 Q 21 [(0, .ref m), (1, .long p), (3, .long q), (5, .int v5), (6, .long lu), (8, .long ll), (10, .long mu), (12, .long ml), (14, .long up), (16, .long lw), (18, .int c)] [] h' := by
  induction N with
  | zero => intro h' lu ll mu ml up lw c al be dn I _ _ _ _ _ hN; obtain ⟨-, -, -, -, h5, h6, -⟩ := I; omega
  | succ N ih =>
    intro h' lu ll mu ml up lw c al be dn I eu el ec ecl et hN f g0 g1
    obtain ⟨b1, b2, b3⟩ := sbI_b I
    obtain ⟨i1, i2, i3, i4, i5, i6, i7, i8, i9, i10⟩ := id I
    have m1 := mul_bd (a := up.toInt) (b := q.toInt) (M := 1000000000) (K := 1000000000) (by omega) (by omega) (by omega) (by omega)
    have m2 := mul_bd (a := p.toInt) (b := lw.toInt) (M := 1000000000) (K := 1000000000) (by omega) (by omega) (by omega) (by omega)
    have t1 : (up * q).toInt = up.toInt * q.toInt := lmul_t (by omega) (by omega)
    have t2 : (p * lw).toInt = p.toInt * lw.toInt := lmul_t (by omega) (by omega)
    rw [← eu, ← el] at b3
    have tq := trP_eq (a := al) (b := be) i5 i6
    have ec1 : (c + Int32.ofInt 1).toInt = dn.length + 1 := by rw [iadd_t] <;> rw [ii_1, ec] <;> omega
    -- behind a step
    have p76 : ∀ (z : Int32) (x : Int) (lu' ll' mu' ml' : Int64) (al' be' : Int), (z = 0 ∨ z = 1) → z.toInt = x → SBI p.toInt q.toInt lu'.toInt ll'.toInt mu'.toInt ml'.toInt al' be' → al' + be' < al + be → trP al be = x :: trP al' be' → Wj X 0 0 Q 76 [(0, .ref m), (1, .long p), (3, .long q), (5, .int v5), (6, .long lu'), (8, .long ll'), (10, .long mu'), (12, .long ml'), (18, .int c), (19, .int z)] [] h' := by
      intro z x lu' ll' mu' ml' al' be' hz hx I' hlt ht
      obtain ⟨c1, c2, -⟩ := sbI_b I'
      obtain ⟨j1, j2, j3, j4, j5, j6, -⟩ := id I'
      have s1 : (lu' + mu').toInt = lu'.toInt + mu'.toInt := ladd_t (by omega) (by omega)
      have s2 : (ll' + ml').toInt = ll'.toInt + ml'.toInt := ladd_t (by omega) (by omega)
      have fz : (flg z).toInt = x := by rcases hz with rfl | rfl <;> exact hx
      obtain ⟨k1, k2⟩ := take_add dn x
      have et' : trP p.toInt q.toInt = (dn ++ [x]) ++ trP al' be' := by rw [et, ht, List.append_assoc]; rfl
      have el' : (dn ++ [x]).length = dn.length + 1 := by simp
      refine V_X10_stepsTo_76 C ⟨fun w => ih _ _ _ _ _ _ _ _ al' be' (dn ++ [x]) I' s1 s2 (by rw [ec1, el']; rfl) (by rw [el']; omega) et' (by omega) f g0 (fun y => absurd w y), fun w => ⟨fun w2 => ih _ _ _ _ _ _ _ _ al' be' (dn ++ [x]) I' s1 s2 (by rw [ec1, el']; rfl) (by rw [el']; omega) et' (by omega) f g0 (fun y => ?_), fun w2 => ⟨f.st10 F, ?_⟩⟩⟩
      · rw [i32_le, i60_tt, ec] at w2
        rw [k2 (by omega)]; exact g1 y
      · rw [i32_le, i60_tt, ec] at w2
        have hl : dn.length < 60 := by omega
        have w1 := g1 w
        rw [(k1 hl).1] at w1
        refine (ma_enters (f.st10 F) w1 hl (z := x) (by rw [i2l_t]; exact fz)).mono (fun y h2 hp => ?_)
        obtain ⟨rfl, w2', f2⟩ := hp
        exact ⟨rfl, ih _ _ _ _ _ _ _ _ al' be' (dn ++ [x]) I' s1 s2 (by rw [ec1, el']; rfl) (by rw [el']; omega) et' (by omega) (f.tr f2) (fun y => absurd y w) (fun y => by rw [(k1 hl).2]; exact w2')⟩
    refine V_X10_stepsTo_21 C ⟨fun w => ?_, fun w => ⟨fun w2 => V_X10_stepsTo_50 C ⟨fun _ => ?_, fun w3 => absurd rfl w3⟩, fun w2 => V_X10_stepsTo_50 C ⟨fun w3 => absurd w3 p1_ne, fun _ => ?_⟩⟩⟩
    all_goals rw [i64_eq, t1, t2] at w
    · have e : al = be := by omega
      rw [if_pos e] at tq
      rw [tq, List.append_nil] at et
      refine hend h' c (by rw [et]; exact ec) f g0 (fun y => by rw [et]; exact g1 y)
    all_goals rw [i64_le, t1, t2] at w2
    · have hlt : al < be := by omega
      rw [if_neg (by omega), if_neg (by omega)] at tq
      have I' := sbI_less I hlt
      rw [← eu, ← el] at I'
      exact p76 0 0 lu ll up lw al (be - al) (Or.inl rfl) rfl I' (by omega) tq
    · have hlt : be < al := by omega
      rw [if_neg (by omega), if_pos hlt] at tq
      have I' := sbI_more I hlt
      rw [← eu, ← el] at I'
      exact p76 1 1 up lw mu ml (al - be) be (Or.inr rfl) rfl I' (by omega) tq
theorem ma_stepsTo (F : St10 h m) {p q : Int64} {v5 : Int32} (p1 : 0 < p.toInt) (p2 : p.toInt ≤ 1000000000) (q1 : 0 < q.toInt) (q2 : q.toInt ≤ 1000000000) (w : ¬ v5 = 0 → RwM h m []) : S_X10_stepsTo l D 0 0 [.ref m, .long p, .long q, .int v5] h (QI fun y h' => y.toInt = (trP p.toInt q.toInt).length ∧ FrW (rI m) (rL m) h h' ∧ (v5 = 0 → h' = h) ∧ (¬ v5 = 0 → RwM h' m ((trP p.toInt q.toInt).take 60))) := Sp.of rfl (Nat.le_of_ble_eq_true rfl) (fun X C _ _ _ _ => V_X10_stepsTo_0 C (by
  refine ms_loop C F p1 p2 q1 q2 (fun h' c e1 e2 e3 e4 => ⟨c, rfl, e1, e2, e3, e4⟩) (p.toInt + q.toInt).toNat h 0 1 1 0 1 1 0 p.toInt q.toInt [] ?_ rfl rfl rfl (by simp) rfl (by omega) FrW.rf (fun _ => rfl) (fun y => by simpa using w y)
  have e0 : (0 : Int64).toInt = 0 := rfl
  have e1 : (1 : Int64).toInt = 1 := rfl
  rw [e0, e1]
  exact ⟨by omega, by omega, by omega, by omega, p1, q1, by omega, by omega, by omega, by omega⟩))
theorem iRt_0 {p q : Int32} : iRt p q = 0 ↔ ¬ ((1 ≤ p.toInt ∧ p.toInt ≤ 400) ∧ 1 ≤ q.toInt ∧ q.toInt ≤ 400) := by
  unfold iRt
  split
  · rename_i z; exact ⟨fun y => absurd y p1_ne, fun y => absurd z (by omega)⟩
  · rename_i z; exact ⟨fun _ => by omega, fun _ => rfl⟩
theorem ma_tree {s : Sv} (S : MSt h m s) {p q : Int32} : S_X10_tree l D 0 0 [.ref m, .int p, .int q] h (QI fun y h' => y.toInt = (treeP s p.toInt q.toInt).1 ∧ MSt h' m (treeP s p.toInt q.toInt).2 ∧ FrO (inM m) h h') := Sp.of rfl (Nat.le_of_ble_eq_true rfl) (fun X C _ _ _ _ => V_X10_tree_0 C (by
  obtain ⟨S1, f1⟩ := S.t0
  unfold treeP
  refine ⟨S.1.1, fun z => ?_, fun z => ⟨_, rfl, ?_⟩⟩
  all_goals rw [iRt_0] at z
  · have hz := Classical.not_not.mp z
    rw [if_pos hz]
    have ft : FrW (rI m) (rL m) (si h m 0 0) (si (si h m 0 0) m 1 0) := FrW.rf.si ⟨rfl, rfl⟩
    refine (ma_stepsTo (h := si (si h m 0 0) m 1 0) (p := p.toInt64) (q := q.toInt64) (v5 := 1) S1.1.1 (by rw [i2l_t]; omega) (by rw [i2l_t]; omega) (by rw [i2l_t]; omega) (by rw [i2l_t]; omega) (fun _ => RwM.clr 0 rfl)).mono (fun w h2 hp => ?_)
    obtain ⟨y, rfl, e1, f2, -, w2⟩ := hp
    rw [i2l_t, i2l_t] at e1 w2
    obtain ⟨S2, g2⟩ := S1.row (ft.tr f2) (w2 p1_ne)
    exact ⟨y, rfl, y, rfl, e1, S2, f1.tr g2⟩
  · rw [if_neg z]; exact ⟨rfl, S1, f1⟩))
end TreeM
