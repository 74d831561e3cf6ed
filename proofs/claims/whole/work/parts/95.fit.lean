-- the shelf fitted to some gears
theorem dig4 {g t : Nat} (h : 144 ≤ t) (ok : tOk g t) : ∃ A B C D, t = 144 + (1728 * A + 144 * B + 12 * C + D) ∧ (A < 12 ∧ B < 12 ∧ C < 12 ∧ D < 12) ∧ (A < g ∧ B < g ∧ C < g ∧ D < g) ∧ A ≠ B ∧ A < C ∧ B < D ∧ C ≠ B ∧ D ≠ A ∧ D ≠ C := by
  obtain ⟨o1, o2, o3, o4, o5⟩ := ok
  obtain ⟨p1, p2, p3, p4, p5, p6, p7⟩ := o5 h
  obtain ⟨e, d1, d2, d3, d4⟩ := tM4_self h o1
  exact ⟨tA t, tB t, tC t, tD t, by unfold tM4 at e; omega, ⟨d1, d2, d3, d4⟩, ⟨o2, o3, p1, p2⟩, o4, p3, p4, p5, p6, p7⟩
theorem at_a {t A B C D a : Nat} (e : t = 144 + (1728 * A + 144 * B + 12 * C + D)) (bd : A < 12 ∧ B < 12 ∧ C < 12 ∧ D < 12) (h1 : 144 + 1728 * a ≤ t) (h2 : t < 144 + (1728 * a + 1728)) : A = a := by omega
theorem at_b {t A B C D a b : Nat} (e : t = 144 + (1728 * A + 144 * B + 12 * C + D)) (bd : A < 12 ∧ B < 12 ∧ C < 12 ∧ D < 12) (hb : b < 12) (h1 : 144 + (1728 * a + 144 * b) ≤ t) (h2 : t < 144 + (1728 * a + 144 * b + 144)) : A = a ∧ B = b := by
  have hA : A = a := at_a (a := a) e bd (by omega) (by omega)
  subst hA
  exact ⟨rfl, by omega⟩
theorem at_c {t A B C D a b c : Nat} (e : t = 144 + (1728 * A + 144 * B + 12 * C + D)) (bd : A < 12 ∧ B < 12 ∧ C < 12 ∧ D < 12) (hb : b < 12) (hc : c < 12) (h1 : 144 + (1728 * a + 144 * b + 12 * c) ≤ t) (h2 : t < 144 + (1728 * a + 144 * b + 12 * c + 12)) : A = a ∧ B = b ∧ C = c := by
  obtain ⟨hA, hB⟩ := at_b (a := a) (b := b) e bd hb (by omega) (by omega)
  subst hA
  subst hB
  exact ⟨rfl, rfl, by omega⟩
theorem dig2 {g t : Nat} (h : t < 144) (ok : tOk g t) : ∃ A B, t = 12 * A + B ∧ (A < 12 ∧ B < 12) ∧ (A < g ∧ B < g) ∧ A ≠ B := by
  obtain ⟨o1, o2, o3, o4, o5⟩ := ok
  obtain ⟨e, d1, d2⟩ := tM2_self h
  exact ⟨tA t, tB t, e, ⟨d1, d2⟩, ⟨o2, o3⟩, o4⟩
theorem ok4 {g a b c d : Nat} (hg : g ≤ 12) (ha : a < g) (hb : b < g) (hc : c < g) (hd : d < g) (h1 : a ≠ b) (h2 : a < c) (h3 : b < d) (h4 : c ≠ b) (h5 : d ≠ a) (h6 : d ≠ c) : tOk g (tM4 a b c d) ∧ tM4 a b c d < 20880 ∧ (∀ te, tU te (tM4 a b c d) = te a * te c ∧ tL te (tM4 a b c d) = te b * te d) ∧ tP (tM4 a b c d) = ((a + 16 * b + 256 * c + 4096 * d : Nat) : Int) := by
  obtain ⟨d1, d2, d3, d4, d5, d6⟩ := tM4_d (a := a) (b := b) (c := c) (d := d) (by omega) (by omega) (by omega) (by omega)
  refine ⟨?_, d2, fun te => ?_, ?_⟩
  · unfold tOk
    rw [d3, d4, d5, d6]
    exact ⟨d2, ha, hb, h1, fun _ => ⟨hc, hd, h2, h3, h4, h5, h6⟩⟩
  · have := tU_4 te d1
    rw [d3, d4, d5, d6] at this
    exact this
  · unfold tP
    rw [if_neg (by omega), d3, d4, d5, d6]; omega
theorem ok2 {g a b : Nat} (hg : g ≤ 12) (ha : a < g) (hb : b < g) (h1 : a ≠ b) : tOk g (12 * a + b) ∧ 12 * a + b < 144 ∧ (∀ te, tU te (12 * a + b) = te a ∧ tL te (12 * a + b) = te b) ∧ tP (12 * a + b) = ((a + 16 * b + 256 * 15 + 4096 * 15 : Nat) : Int) := by
  obtain ⟨d1, d2, d3⟩ := tM2_d (a := a) (b := b) (by omega) (by omega)
  refine ⟨?_, d1, fun te => ?_, ?_⟩
  · unfold tOk
    rw [d2, d3]
    exact ⟨by omega, ha, hb, h1, fun z => by omega⟩
  · have := tU_2 te d1
    rw [d2, d3] at this
    exact this
  · unfold tP
    rw [if_pos d1, d2, d3]; omega
theorem sTo_t {h : Hp} {sh : Nat} {v : Int32} {k : Nat} (e : v.toInt = k) (hk : k < 12) : (sTo h sh v).toInt = gf h (sh + 1) k := by
  unfold sTo
  rw [if_pos (by omega), ix_of e]; rfl
theorem cntNz_0 {f : Nat → Int} (n : Nat) (h : ∀ i, i < n → f i = 0) : cntNz f n = 0 := by
  induction n with
  | zero => rfl
  | succ n ih => unfold cntNz; rw [ih (fun i hi => h i (by omega)), if_pos (h n (by omega))]
theorem SHP.zero {g : Nat} {te u w p sl : Nat → Int} (h : ∀ i, i < 8192 → sl i = 0) : SHP g te 0 0 u w p sl :=
  ⟨by omega, fun e he => by omega, fun t ht => by omega, fun e e' he => by omega, fun e he => by omega, fun i hi => by rw [h i hi]; exact ⟨Int.le_refl _, Int.le_refl _⟩, cntNz_0 8192 h⟩
section Fit
variable {X : Ctx} {l : Launch} {D : Dt} {h : Hp} {sh : Nat} {Q : Pq}
theorem ShG.skip {g K n K' : Nat} (S : ShG h sh g K n) (hK : K ≤ K') (no : ∀ t, K ≤ t → t < K' → ¬ tOk g t) : ShG h sh g K' n := ⟨S.1, S.2.1, S.2.2.1, S.2.2.2.skip hK no⟩
theorem cl_fill (hk : kd h sh = 20) (hl : ln h sh = 8192) : S_J7_fill_53178 l D 0 0 [.ref sh, .int 0] h (QV fun h' => (∀ j, j < 8192 → gf h' sh j = 0) ∧ FrC sh h h') := Sp.ofF (by decide +kernel) (Nat.le_of_ble_eq_true rfl) (fun X C _ _ _ _ => V_J7_fill_53178_0 C (by
  refine ⟨hk, ?_⟩
  rw [hl]
  have e8 : (Int32.ofNat 8192).toInt = 8192 := by decide
  generalize Int32.ofNat 8192 = N at *
  have key : ∀ (d : Nat) (h' : Hp) (v : Int32), 0 ≤ v.toInt → v.toInt + d = 8192 → FrC sh h h' → (∀ j, j < ix v → gf h' sh j = 0) → Wj X 0 0 (QV fun h' => (∀ j, j < 8192 → gf h' sh j = 0) ∧ FrC sh h h') 5 [(0, .ref sh), (1, .int 0), (2, .int v), (3, .int N)] [] h' := by
    intro d
    induction d with
    | zero =>
      intro h' v v0 hd f g
      refine V_J7_fill_53178_5 C ⟨fun _ => ⟨rfl, fun j hj => g j (by unfold ix; omega), f⟩, fun q => ?_⟩
      rw [i32_le] at q; omega
    | succ d ih =>
      intro h' v v0 hd f g
      obtain ⟨x1, x2⟩ := ix_succ v0 (by omega)
      refine V_J7_fill_53178_5 C ⟨fun q => ?_, fun _ => ⟨by rw [f.2.1]; exact hk, by rw [f.2.2.1, hl]; unfold inb; omega, ih _ _ (by omega) (by omega) (FrC.s f) (fun j hj => ?_)⟩⟩
      · rw [i32_le] at q; omega
      · unfold gf
        rw [gi_si]
        by_cases z : j = ix v
        · rw [if_pos ⟨rfl, z⟩]; rfl
        · rw [if_neg (fun y => z y.2)]; exact g j (by omega)
  exact key 8192 h 0 (by decide) (by decide) FrC.rf (fun j hj => by rw [ix_0] at hj; omega)))
theorem at_in (C : C_X5_addTwos X) {g : Nat} (hg : g ≤ 12) (F : St5 h sh) (ho : teOk g (gf h (sh + 1))) (e1 : gf h sh 1 = g) {v1 : Int32} {a : Nat} (ea : v1.toInt = a) (ha : a < g)
    (nx : ∀ (h' : Hp) (n : Nat), FrS sh h h' → ShG h' sh g (12 * (a + 1)) n → Wj X 0 0 Q 2 [(0, .ref sh), (1, .int (v1 + Int32.ofInt 1))] [] h') (d : Nat) : ∀ (h' : Hp) (v2 : Int32) (b n : Nat), v2.toInt = b → b + d = g → FrS sh h h' → ShG h' sh g (12 * a + b) n → Wj X 0 0 Q 12 [(0, .ref sh), (1, .int v1), (2, .int v2)] [] h' := by
  induction d with
  | zero =>
    intro h' v2 b n eb hb f S
    have g1 : (gi h' sh 1).toInt = g := S.2.1
    refine V_X5_addTwos_12 C ⟨S.1, fun _ => nx h' n f (S.skip (by omega) (fun t h1 h2 ok => ?_)), fun q => ?_⟩
    · obtain ⟨A, B, e, c1, c2, c3⟩ := dig2 (by omega) ok
      omega
    · rw [i32_le, g1] at q; omega
  | succ d ih =>
    intro h' v2 b n eb hb f S
    have g1 : (gi h' sh 1).toInt = g := S.2.1
    obtain ⟨x1, x2⟩ := ix_succ (i := v2) (by omega) (by omega)
    refine V_X5_addTwos_12 C ⟨S.1, fun q => ?_, fun _ => ⟨fun q => ih h' _ (b + 1) n (by omega) (by omega) f (S.skip (by omega) (fun t h1 h2 ok => ?_)), fun q => ?_⟩⟩
    · rw [i32_le, g1] at q; omega
    · rw [i32_eq, ea, eb] at q
      obtain ⟨A, B, e, c1, c2, c3⟩ := dig2 (by omega) ok
      omega
    · rw [i32_eq, ea, eb] at q
      obtain ⟨k1, k2, k3, k4⟩ := ok2 (g := g) (a := a) (b := b) hg ha (by omega) (by omega)
      have te := f.te
      refine (cl_sadd S (by omega) k1 (by rw [te]; exact ho) (by rw [(k3 _).1]; exact sTo_t ea (by omega)) (by rw [(k3 _).2]; exact sTo_t eb (by omega)) (by rw [k4]; exact pk_t ea eb rfl rfl (by omega) (by omega) (by omega) (by omega))).mono (fun v h2 hp => ?_)
      obtain ⟨rfl, ⟨n', S'⟩, f'⟩ := hp
      exact ⟨rfl, ih h2 _ (b + 1) n' (by omega) (by omega) (f.tr f') S'⟩
theorem cl_addTwos {g n : Nat} (hg : g ≤ 12) (S : ShG h sh g 0 n) (ho : teOk g (gf h (sh + 1))) : S_X5_addTwos l D 0 0 [.ref sh] h (QV fun h' => (∃ n', ShG h' sh g 144 n') ∧ FrS sh h h') := Sp.of rfl (Nat.le_of_ble_eq_true rfl) (fun X C _ _ _ _ => V_X5_addTwos_0 C (by
  have key : ∀ (d : Nat) (h' : Hp) (v1 : Int32) (a n : Nat), v1.toInt = a → a + d = g → FrS sh h h' → ShG h' sh g (12 * a) n → Wj X 0 0 (QV fun h' => (∃ n', ShG h' sh g 144 n') ∧ FrS sh h h') 2 [(0, .ref sh), (1, .int v1)] [] h' := by
    intro d
    induction d with
    | zero =>
      intro h' v1 a n ea ha f S
      have g1 : (gi h' sh 1).toInt = g := S.2.1
      refine V_X5_addTwos_2 C ⟨S.1, fun _ => ⟨rfl, ⟨n, S.skip (by omega) (fun t h1 h2 ok => ?_)⟩, f⟩, fun q => ?_⟩
      · obtain ⟨A, B, e, c1, c2, c3⟩ := dig2 (by omega) ok
        omega
      · rw [i32_le, g1] at q; omega
    | succ d ih =>
      intro h' v1 a n ea ha f S
      have g1 : (gi h' sh 1).toInt = g := S.2.1
      obtain ⟨x1, x2⟩ := ix_succ (i := v1) (by omega) (by omega)
      refine V_X5_addTwos_2 C ⟨S.1, fun q => ?_, fun _ => ?_⟩
      · rw [i32_le, g1] at q; omega
      · exact at_in C hg S.1 (by rw [f.te]; exact ho) S.2.1 ea (by omega) (fun h2 n2 f2 S2 => ih h2 _ (a + 1) n2 (by omega) (by omega) (f.tr f2) S2) g h' 0 0 n rfl (by omega) FrS.rf S
  exact key g h 0 0 n rfl (by omega) FrS.rf S))
theorem af_d (C : C_X5_addFours X) {g : Nat} (hg : g ≤ 12) (ho : teOk g (gf h (sh + 1))) {v1 v2 v3 : Int32} {a b c : Nat} (ea : v1.toInt = a) (eb : v2.toInt = b) (ec : v3.toInt = c) (ha : a < g) (hb : b < g) (hc : c < g) (hab : a ≠ b) (hac : a < c)
    (nx : ∀ (h' : Hp) (n : Nat), FrS sh h h' → ShG h' sh g (tM4 a b (c + 1) 0) n → Wj X 0 0 Q 24 [(0, .ref sh), (1, .int v1), (2, .int v2), (3, .int (v3 + Int32.ofInt 1))] [] h') (r : Nat) : ∀ (h' : Hp) (v4 : Int32) (d n : Nat), v4.toInt = d → d + r = g → b < d → FrS sh h h' → ShG h' sh g (tM4 a b c d) n → Wj X 0 0 Q 42 [(0, .ref sh), (1, .int v1), (2, .int v2), (3, .int v3), (4, .int v4)] [] h' := by
  have out : ∀ (h' : Hp) (n d : Nat), d ≤ g → (c = b ∨ d = g) → FrS sh h h' → ShG h' sh g (tM4 a b c d) n → Wj X 0 0 Q 24 [(0, .ref sh), (1, .int v1), (2, .int v2), (3, .int (v3 + Int32.ofInt 1))] [] h' := by
    intro h' n d hd hcd f S
    refine nx h' n f (S.skip (by unfold tM4; omega) (fun t h1 h2 ok => ?_))
    unfold tM4 at h1 h2
    obtain ⟨A, B, C', D', e, c1, c2, c3⟩ := dig4 (by omega) ok
    obtain ⟨y1, y2, y3⟩ := at_c (a := a) (b := b) (c := c) e c1 (by omega) (by omega) (by omega) (by omega)
    omega
  induction r with
  | zero =>
    intro h' v4 d n ed hd hbd f S
    have g1 : (gi h' sh 1).toInt = g := S.2.1
    refine V_X5_addFours_42 C ⟨fun _ => out h' n d (by omega) (Or.inr (by omega)) f S, fun _ => ⟨S.1, fun _ => out h' n d (by omega) (Or.inr (by omega)) f S, fun q => ?_⟩⟩
    rw [i32_le, g1] at q; omega
  | succ r ih =>
    intro h' v4 d n ed hd hbd f S
    have g1 : (gi h' sh 1).toInt = g := S.2.1
    obtain ⟨x1, x2⟩ := ix_succ (i := v4) (by omega) (by omega)
    have one : (d = a ∨ d = c) → Wj X 0 0 Q 42 [(0, .ref sh), (1, .int v1), (2, .int v2), (3, .int v3), (4, .int (v4 + Int32.ofInt 1))] [] h' := by
      intro z
      refine ih h' _ (d + 1) n (by omega) (by omega) (by omega) f (S.skip (by unfold tM4; omega) (fun t h1 h2 ok => ?_))
      unfold tM4 at h1 h2
      obtain ⟨A, B, C', D', e, c1, c2, c3⟩ := dig4 (by omega) ok
      obtain ⟨y1, y2, y3⟩ := at_c (a := a) (b := b) (c := c) e c1 (by omega) (by omega) (by omega) (by omega)
      omega
    refine V_X5_addFours_42 C ⟨fun q => out h' n d (by omega) (Or.inl ?_) f S, fun q0 => ⟨S.1, fun q => ?_, fun _ => ⟨fun q => one (Or.inl ?_), fun q1 => ⟨fun q => one (Or.inr ?_), fun q2 => ?_⟩⟩⟩⟩
    · rw [i32_eq, ec, eb] at q; omega
    · rw [i32_le, g1] at q; omega
    · rw [i32_eq, ed, ea] at q; omega
    · rw [i32_eq, ed, ec] at q; omega
    · rw [i32_eq, ec, eb] at q0
      rw [i32_eq, ed, ea] at q1
      rw [i32_eq, ed, ec] at q2
      obtain ⟨k1, k2, k3, k4⟩ := ok4 (g := g) (a := a) (b := b) (c := c) (d := d) hg ha hb hc (by omega) hab hac hbd (by omega) (by omega) (by omega)
      have te := f.te
      have ta := ho a ha
      have tb := ho b hb
      have tc := ho c hc
      have td := ho d (by omega)
      rw [← te] at ta tb tc td
      have m1 := mul_bd (a := gf h' (sh + 1) a) (b := gf h' (sh + 1) c) (M := 100) (K := 100) (by omega) (by omega) (by omega) (by omega)
      have m2 := mul_bd (a := gf h' (sh + 1) b) (b := gf h' (sh + 1) d) (M := 100) (K := 100) (by omega) (by omega) (by omega) (by omega)
      have sa := sTo_t (h := h') (sh := sh) ea (by omega)
      have sb := sTo_t (h := h') (sh := sh) eb (by omega)
      have sc := sTo_t (h := h') (sh := sh) ec (by omega)
      have sd := sTo_t (h := h') (sh := sh) ed (by omega)
      refine (cl_sadd S k2 k1 (by rw [te]; exact ho) (a := sTo h' sh v1 * sTo h' sh v3) (b := sTo h' sh v2 * sTo h' sh v4) (by rw [(k3 _).1, imul_t] <;> rw [sa, sc] <;> omega) (by rw [(k3 _).2, imul_t] <;> rw [sb, sd] <;> omega) (by rw [k4]; exact pk_t ea eb ec ed (by omega) (by omega) (by omega) (by omega))).mono (fun v h2 hp => ?_)
      obtain ⟨rfl, ⟨n', S'⟩, f'⟩ := hp
      exact ⟨rfl, ih h2 _ (d + 1) n' (by omega) (by omega) (by omega) (f.tr f') S'⟩
theorem af_c (C : C_X5_addFours X) {g : Nat} (hg : g ≤ 12) (ho : teOk g (gf h (sh + 1))) {v1 v2 : Int32} {a b : Nat} (ea : v1.toInt = a) (eb : v2.toInt = b) (ha : a < g) (hb : b < g)
    (nx : ∀ (h' : Hp) (n : Nat), FrS sh h h' → ShG h' sh g (tM4 a (b + 1) 0 0) n → Wj X 0 0 Q 12 [(0, .ref sh), (1, .int v1), (2, .int (v2 + Int32.ofInt 1))] [] h') (r : Nat) : ∀ (h' : Hp) (v3 : Int32) (c n : Nat), v3.toInt = c → c + r = g → a < c → FrS sh h h' → ShG h' sh g (tM4 a b c 0) n → Wj X 0 0 Q 24 [(0, .ref sh), (1, .int v1), (2, .int v2), (3, .int v3)] [] h' := by
  have out : ∀ (h' : Hp) (n c : Nat), c ≤ g → (a = b ∨ c = g) → FrS sh h h' → ShG h' sh g (tM4 a b c 0) n → Wj X 0 0 Q 12 [(0, .ref sh), (1, .int v1), (2, .int (v2 + Int32.ofInt 1))] [] h' := by
    intro h' n c hc hcd f S
    refine nx h' n f (S.skip (by unfold tM4; omega) (fun t h1 h2 ok => ?_))
    unfold tM4 at h1 h2
    obtain ⟨A, B, C', D', e, c1, c2, c3⟩ := dig4 (by omega) ok
    obtain ⟨y1, y2⟩ := at_b (a := a) (b := b) e c1 (by omega) (by omega) (by omega)
    omega
  induction r with
  | zero =>
    intro h' v3 c n ec hc hac f S
    have g1 : (gi h' sh 1).toInt = g := S.2.1
    refine V_X5_addFours_24 C ⟨fun _ => out h' n c (by omega) (Or.inr (by omega)) f S, fun _ => ⟨S.1, fun _ => out h' n c (by omega) (Or.inr (by omega)) f S, fun q => ?_⟩⟩
    rw [i32_le, g1] at q; omega
  | succ r ih =>
    intro h' v3 c n ec hc hac f S
    have g1 : (gi h' sh 1).toInt = g := S.2.1
    obtain ⟨x1, x2⟩ := ix_succ (i := v3) (by omega) (by omega)
    have eb1 : (v2 + 1).toInt = ((b + 1 : Nat) : Int) := by rw [iadd_t] <;> rw [eb, i1_t] <;> omega
    refine V_X5_addFours_24 C ⟨fun q => out h' n c (by omega) (Or.inl ?_) f S, fun q0 => ⟨S.1, fun q => ?_, fun _ => ?_⟩⟩
    · rw [i32_eq, ea, eb] at q; omega
    · rw [i32_le, g1] at q; omega
    · rw [i32_eq, ea, eb] at q0
      refine af_d C hg (by rw [f.te]; exact ho) ea eb ec ha hb (by omega) (by omega) hac (fun h2 n2 f2 S2 => ih h2 _ (c + 1) n2 (by omega) (by omega) (by omega) (f.tr f2) S2) (g - (b + 1)) h' _ (b + 1) n eb1 (by omega) (by omega) FrS.rf (S.skip (by unfold tM4; omega) (fun t h1 h2 ok => ?_))
      unfold tM4 at h1 h2
      obtain ⟨A, B, C', D', e, c1, c2, c3⟩ := dig4 (by omega) ok
      obtain ⟨y1, y2, y3⟩ := at_c (a := a) (b := b) (c := c) e c1 (by omega) (by omega) (by omega) (by omega)
      omega
theorem af_b (C : C_X5_addFours X) {g : Nat} (hg : g ≤ 12) (ho : teOk g (gf h (sh + 1))) {v1 : Int32} {a : Nat} (ea : v1.toInt = a) (ha : a < g)
    (nx : ∀ (h' : Hp) (n : Nat), FrS sh h h' → ShG h' sh g (tM4 (a + 1) 0 0 0) n → Wj X 0 0 Q 2 [(0, .ref sh), (1, .int (v1 + Int32.ofInt 1))] [] h') (r : Nat) : ∀ (h' : Hp) (v2 : Int32) (b n : Nat), v2.toInt = b → b + r = g → FrS sh h h' → ShG h' sh g (tM4 a b 0 0) n → Wj X 0 0 Q 12 [(0, .ref sh), (1, .int v1), (2, .int v2)] [] h' := by
  induction r with
  | zero =>
    intro h' v2 b n eb hb f S
    have g1 : (gi h' sh 1).toInt = g := S.2.1
    refine V_X5_addFours_12 C ⟨S.1, fun _ => nx h' n f (S.skip (by unfold tM4; omega) (fun t h1 h2 ok => ?_)), fun q => ?_⟩
    · unfold tM4 at h1 h2
      obtain ⟨A, B, C', D', e, c1, c2, c3⟩ := dig4 (by omega) ok
      have y1 := at_a (a := a) e c1 (by omega) (by omega)
      omega
    · rw [i32_le, g1] at q; omega
  | succ r ih =>
    intro h' v2 b n eb hb f S
    have g1 : (gi h' sh 1).toInt = g := S.2.1
    obtain ⟨x1, x2⟩ := ix_succ (i := v2) (by omega) (by omega)
    have ea1 : (v1 + 1).toInt = ((a + 1 : Nat) : Int) := by rw [iadd_t] <;> rw [ea, i1_t] <;> omega
    refine V_X5_addFours_12 C ⟨S.1, fun q => ?_, fun _ => ?_⟩
    · rw [i32_le, g1] at q; omega
    · refine af_c C hg (by rw [f.te]; exact ho) ea eb ha (by omega) (fun h2 n2 f2 S2 => ih h2 _ (b + 1) n2 (by omega) (by omega) (f.tr f2) S2) (g - (a + 1)) h' _ (a + 1) n ea1 (by omega) (by omega) FrS.rf (S.skip (by unfold tM4; omega) (fun t h1 h2 ok => ?_))
      unfold tM4 at h1 h2
      obtain ⟨A, B, C', D', e, c1, c2, c3⟩ := dig4 (by omega) ok
      obtain ⟨y1, y2⟩ := at_b (a := a) (b := b) e c1 (by omega) (by omega) (by omega)
      omega
theorem cl_addFours {g n : Nat} (hg : g ≤ 12) (S : ShG h sh g 144 n) (ho : teOk g (gf h (sh + 1))) : S_X5_addFours l D 0 0 [.ref sh] h (QV fun h' => (∃ n', ShG h' sh g 20880 n') ∧ FrS sh h h') := Sp.of rfl (Nat.le_of_ble_eq_true rfl) (fun X C _ _ _ _ => V_X5_addFours_0 C (by
  have key : ∀ (d : Nat) (h' : Hp) (v1 : Int32) (a n : Nat), v1.toInt = a → a + d = g → FrS sh h h' → ShG h' sh g (tM4 a 0 0 0) n → Wj X 0 0 (QV fun h' => (∃ n', ShG h' sh g 20880 n') ∧ FrS sh h h') 2 [(0, .ref sh), (1, .int v1)] [] h' := by
    intro d
    induction d with
    | zero =>
      intro h' v1 a n ea ha f S
      have g1 : (gi h' sh 1).toInt = g := S.2.1
      refine V_X5_addFours_2 C ⟨S.1, fun _ => ⟨rfl, ⟨n, S.skip (by unfold tM4; omega) (fun t h1 h2 ok => ?_)⟩, f⟩, fun q => ?_⟩
      · unfold tM4 at h1
        obtain ⟨A, B, C', D', e, c1, c2, c3⟩ := dig4 (by omega) ok
        omega
      · rw [i32_le, g1] at q; omega
    | succ d ih =>
      intro h' v1 a n ea ha f S
      have g1 : (gi h' sh 1).toInt = g := S.2.1
      obtain ⟨x1, x2⟩ := ix_succ (i := v1) (by omega) (by omega)
      refine V_X5_addFours_2 C ⟨S.1, fun q => ?_, fun _ => ?_⟩
      · rw [i32_le, g1] at q; omega
      · exact af_b C hg (by rw [f.te]; exact ho) ea (by omega) (fun h2 n2 f2 S2 => ih h2 _ (a + 1) n2 (by omega) (by omega) (f.tr f2) S2) g h' 0 0 n rfl (by omega) FrS.rf S
  exact key g h 0 0 n rfl (by omega) FrS.rf S))
end Fit
