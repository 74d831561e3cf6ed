-- slotOf(), add(), find() of the shelf
theorem i8192_t : (8192 : Int32).toInt = 8192 := rfl
def ShG (h : Hp) (sh g K n : Nat) : Prop := St5 h sh ∧ gf h sh 1 = g ∧ gf h sh 0 = n ∧ SHP g (gf h (sh + 1)) K n (gf h (sh + 2)) (gf h (sh + 3)) (gf h (sh + 4)) (gf h (sh + 5))
def sI (sh b j : Nat) : Prop := b = sh ∧ j = 0 ∨ (sh + 2 ≤ b ∧ b ≤ sh + 5)
abbrev FrS (sh : Nat) (h h' : Hp) : Prop := FrW (sI sh) (fun _ _ => False) h h'
theorem FrS.rf {sh : Nat} {h : Hp} : FrS sh h h := FrW.rf (P := sI sh) (R := fun _ _ => False)
theorem FrS.s {sh : Nat} {h h' : Hp} (f : FrS sh h h') {b k : Nat} {v : Int32} (hb : sI sh b k) : FrS sh h (si h' b k v) := FrW.si (P := sI sh) (R := fun _ _ => False) f hb
theorem FrS.te {sh : Nat} {h h' : Hp} (f : FrS sh h h') : gf h' (sh + 1) = gf h (sh + 1) := by
  funext j
  unfold gf
  rw [f.xi (fun q => by unfold sI at q; omega)]
theorem FrS.st5 {sh : Nat} {h h' : Hp} (f : FrS sh h h') (F : St5 h sh) : St5 h' sh := St5_same F f.2.1 f.2.2.1 f.2.2.2.1
section Slt
variable {X : Ctx} {l : Launch} {D : Dt} {h : Hp} {sh : Nat} {Q : Pq}
theorem so_loop (C : C_X5_slotOf X) (F : St5 h sh) {n : Nat} (n1 : n ≤ 3102) (rng : ∀ i, i < 8192 → 0 ≤ gf h (sh + 5) i ∧ gf h (sh + 5) i ≤ n) {a b : Int32} {hs dg : Nat} (ehs : hsh a.toInt b.toInt = hs) (dg1 : dg < 8192) (gap : gf h (sh + 5) ((hs + dg) % 8192) = 0)
    (hq : ∀ (y : Int32) (i : Nat), y.toInt = i → i < 8192 → SlO n (gf h (sh + 2)) (gf h (sh + 3)) (gf h (sh + 5)) a.toInt b.toInt i → Q (some (.int y)) h) (r : Nat) : ∀ (v3 v4 : Int32) (d s : Nat), d + r = dg → v4.toInt = d → v3.toInt = s → s ≤ 8192 → s % 8192 = (hs + d) % 8192 → (∀ d', d' < d → gf h (sh + 5) ((hs + d') % 8192) ≠ 0 ∧ ∀ e : Nat, e < n → gf h (sh + 5) ((hs + d') % 8192) = (e : Int) + 1 → ¬ (gf h (sh + 2) e = a.toInt ∧ gf h (sh + 3) e = b.toInt)) → Wj X 0 0 Q 16 [(0, .ref sh), (1, .int a), (2, .int b), (3, .int v3), (4, .int v4)] [] h := by
  have one : ∀ (v3 v4 : Int32) (d s : Nat), d ≤ dg → v4.toInt = d → v3.toInt = s → s ≤ 8192 → s % 8192 = (hs + d) % 8192 → (∀ d', d' < d → gf h (sh + 5) ((hs + d') % 8192) ≠ 0 ∧ ∀ e : Nat, e < n → gf h (sh + 5) ((hs + d') % 8192) = (e : Int) + 1 → ¬ (gf h (sh + 2) e = a.toInt ∧ gf h (sh + 3) e = b.toInt)) →
      (gf h (sh + 5) ((hs + d) % 8192) ≠ 0 → (∀ e : Nat, e < n → gf h (sh + 5) ((hs + d) % 8192) = (e : Int) + 1 → ¬ (gf h (sh + 2) e = a.toInt ∧ gf h (sh + 3) e = b.toInt)) → Wj X 0 0 Q 16 [(0, .ref sh), (1, .int a), (2, .int b), (3, .int ((v3 &&& 8191) + Int32.ofInt 1)), (4, .int (v4 + Int32.ofInt 1))] [] h) → Wj X 0 0 Q 16 [(0, .ref sh), (1, .int a), (2, .int b), (3, .int v3), (4, .int v4)] [] h := by
    intro v3 v4 d s hd e4 e3 s1 s2 old nx
    have et := and_t e3
    rw [s2] at et
    have xj : ix (v3 &&& 8191) = (hs + d) % 8192 := ix_of et
    have jl : (hs + d) % 8192 < 8192 := Nat.mod_lt _ (by omega)
    have rg := rng _ jl
    have O : ∀ z, (gf h (sh + 5) ((hs + d) % 8192) = 0 ∨ ∃ e, e < n ∧ gf h (sh + 5) ((hs + d) % 8192) = (e : Int) + 1 ∧ gf h (sh + 2) e = a.toInt ∧ gf h (sh + 3) e = b.toInt) → z = (hs + d) % 8192 → SlO n (gf h (sh + 2)) (gf h (sh + 3)) (gf h (sh + 5)) a.toInt b.toInt z := by
      intro z hz ez
      subst ez
      refine ⟨d, by omega, by rw [ehs], ?_, hz⟩
      rw [ehs]; exact old
    have eg : (gi h (sh + 5) (ix (v3 &&& 8191))).toInt = gf h (sh + 5) ((hs + d) % 8192) := by rw [xj]; rfl
    have es : (gi h (sh + 5) (ix (v3 &&& 8191)) - 1).toInt = gf h (sh + 5) ((hs + d) % 8192) - 1 := by rw [isub_t] <;> rw [eg, i1_t] <;> omega
    refine V_X5_slotOf_16 C ⟨fun q => ?_, fun _ => ⟨F, by unfold inb; rw [et]; omega, fun q => hq _ _ et jl (O _ (Or.inl ?_) rfl), fun q => ?_⟩⟩
    · rw [i32_le, i8192_t] at q; omega
    · rw [i32_lt, es, i0_t] at q; omega
    · rw [i32_lt, es, i0_t] at q
      generalize hE : gi h (sh + 5) (ix (v3 &&& 8191)) - 1 = E at *
      obtain ⟨e, he⟩ : ∃ e : Nat, E.toInt = e := ⟨E.toInt.toNat, by omega⟩
      have xe : ix E = e := ix_of he
      have en : e < n := by omega
      have ee : gf h (sh + 5) ((hs + d) % 8192) = (e : Int) + 1 := by omega
      have go : ¬ (gf h (sh + 2) e = a.toInt ∧ gf h (sh + 3) e = b.toInt) → Wj X 0 0 Q 16 [(0, .ref sh), (1, .int a), (2, .int b), (3, .int ((v3 &&& 8191) + Int32.ofInt 1)), (4, .int (v4 + Int32.ofInt 1))] [] h := by
        intro hn
        refine nx (by omega) (fun e' h1 h2 => ?_)
        have : e' = e := by omega
        rw [this]; exact hn
      refine ⟨fun q2 => ?_, fun q2 => ⟨by unfold inb; rw [he]; omega, fun q3 => go ?_, fun q3 => ⟨fun q4 => go ?_, fun q4 => hq _ _ et jl (O _ (Or.inr ⟨e, en, ee, ?_, ?_⟩) rfl)⟩⟩⟩
      · rw [i32_le, i3102_t] at q2; omega
      · rw [i32_eq, xe] at q3; exact fun z => q3 z.1
      · rw [i32_eq, xe] at q4; exact fun z => q4 z.2
      · rw [i32_eq, xe] at q3; exact q3
      · rw [i32_eq, xe] at q4; exact q4
  induction r with
  | zero =>
    intro v3 v4 d s hd e4 e3 s1 s2 old
    refine one v3 v4 d s (by omega) e4 e3 s1 s2 old (fun z _ => ?_)
    have : d = dg := by omega
    rw [this] at z
    exact absurd gap z
  | succ r ih =>
    intro v3 v4 d s hd e4 e3 s1 s2 old
    refine one v3 v4 d s (by omega) e4 e3 s1 s2 old (fun z nm => ?_)
    have et := and_t e3
    have x2 : (v4 + Int32.ofInt 1).toInt = v4.toInt + 1 := (ix_succ (by omega) (by omega)).2
    have x3 : ((v3 &&& 8191) + Int32.ofInt 1).toInt = ((s % 8192 + 1 : Nat) : Int) := by rw [iadd_t] <;> rw [et, ii_1] <;> omega
    refine ih _ _ (d + 1) (s % 8192 + 1) (by omega) (by omega) x3 (by omega) (by omega) (fun d' h1 => ?_)
    by_cases y : d' = d
    · rw [y]; exact ⟨z, nm⟩
    · exact old d' (by omega)
theorem cl_slotOf (F : St5 h sh) {g K n : Nat} {te : Nat → Int} (S : SHP g te K n (gf h (sh + 2)) (gf h (sh + 3)) (gf h (sh + 4)) (gf h (sh + 5))) {a b : Int32} : S_X5_slotOf l D 0 0 [.ref sh, .int a, .int b] h (QI fun y h' => (∃ i : Nat, y.toInt = i ∧ i < 8192 ∧ SlO n (gf h (sh + 2)) (gf h (sh + 3)) (gf h (sh + 5)) a.toInt b.toInt i) ∧ h' = h) := Sp.of rfl (Nat.le_of_ble_eq_true rfl) (fun X C _ _ _ _ => V_X5_slotOf_0 C (by
  have ehs : ix (iushr (a * (-1640531535) + b * (-2048144789)) 19) = hsh a.toInt b.toInt := by
    unfold hsh
    rw [Int32.ofInt_toInt, Int32.ofInt_toInt]
  have rg := ushr_lt (a * (-1640531535) + b * (-2048144789))
  generalize iushr (a * (-1640531535) + b * (-2048144789)) 19 = v3 at *
  have hl := hsh_lt a.toInt b.toInt
  generalize hh : hsh a.toInt b.toInt = hs at *
  obtain ⟨dg, d1, d2⟩ := S.gap hs
  have e3 : v3.toInt = hs := by rw [← ehs, ix_t rg.1]
  exact so_loop C F S.1 S.2.2.2.2.2.1 hh d1 d2 (fun y i e1 e2 O => ⟨y, rfl, ⟨i, e1, e2, O⟩, rfl⟩) dg v3 0 0 hs (by omega) rfl e3 (by omega) (by omega) (fun d' h1 => by omega)))
/-- a number of 32 bits in least terms -/
theorem rd32 {u w : Int32} (u0 : 0 ≤ u.toInt) (w0 : 0 < w.toInt) : (Int64.toInt32 (cm u.toInt64 w.toInt64)).toInt = (Int.gcd u.toInt w.toInt : Int) ∧ 0 < (Int64.toInt32 (cm u.toInt64 w.toInt64)).toInt ∧ (u / Int64.toInt32 (cm u.toInt64 w.toInt64)).toInt = rdU u.toInt w.toInt ∧ (w / Int64.toInt32 (cm u.toInt64 w.toInt64)).toInt = rdL u.toInt w.toInt := by
  have e : (cm u.toInt64 w.toInt64).toInt = (Int.gcd u.toInt w.toInt : Int) := by rw [cm_g (by rw [i2l_t]; exact w0), i2l_t, i2l_t]
  have gp := gcd_pos' (u := u.toInt) w0
  have gl : Int.gcd u.toInt w.toInt ≤ w.toInt.natAbs := Nat.gcd_le_right _ (by omega)
  have bw := b32 w
  have e2 : (Int64.toInt32 (cm u.toInt64 w.toInt64)).toInt = (Int.gcd u.toInt w.toInt : Int) := by rw [l2i_t (by omega) (by omega), e]
  refine ⟨e2, by omega, ?_, ?_⟩
  · rw [idiv_p u0 (by omega), e2]; rfl
  · rw [idiv_p (by omega) (by omega), e2]; rfl
theorem cl_sadd {g K n : Nat} (S : ShG h sh g K n) (hK : K < 20880) (ok : tOk g K) (ho : teOk g (gf h (sh + 1))) {a b c : Int32} (ea : a.toInt = tU (gf h (sh + 1)) K) (eb : b.toInt = tL (gf h (sh + 1)) K) (ec : c.toInt = tP K) : S_X5_add l D 0 0 [.ref sh, .int a, .int b, .int c] h (QV fun h' => (∃ n', ShG h' sh g (K + 1) n') ∧ FrS sh h h') := Sp.of rfl (Nat.le_of_ble_eq_true rfl) (fun X C _ _ _ _ => V_X5_add_0 C (by
  obtain ⟨F, s1, s0, S⟩ := S
  have ub := tU_b ho (tOk_all ok)
  have nl := S.lt hK ok
  obtain ⟨c1, c2, c3, c4⟩ := rd32 (u := a) (w := b) (by omega) (by omega)
  rw [ea, eb] at c3 c4
  generalize hc : Int64.toInt32 (cm a.toInt64 b.toInt64) = cc at *
  have g0 : (gi h sh 0).toInt = n := s0
  refine ⟨by rw [i2l_t]; omega, by rw [i2l_t]; omega, fun q => ?_, fun _ => ⟨F, fun q => ?_, fun _ => ⟨fun _ => ⟨by rw [i32_eq, i0_t]; omega, (cl_slotOf F S (a := a / cc) (b := b / cc)).mono (fun v h5 hp => ?_)⟩, fun q => ?_⟩⟩⟩
  · rw [i32_le, i0_t] at q; omega
  · rw [i32_lt, i0_t] at q; omega
  · obtain ⟨x6, rfl, ⟨i, e6, i1, O⟩, e5⟩ := hp
    rw [e5]
    rw [c3, c4] at O
    have x6i : ix x6 = i := ix_of e6
    have r2 : ∀ (hh : Hp) (k : Nat) (v : Int32), gi (si hh (sh + 2) k v) sh 0 = gi hh sh 0 := fun hh k v => by rw [gi_si, if_neg (by omega)]
    have r3 : ∀ (hh : Hp) (k : Nat) (v : Int32), gi (si hh (sh + 3) k v) sh 0 = gi hh sh 0 := fun hh k v => by rw [gi_si, if_neg (by omega)]
    have r4 : ∀ (hh : Hp) (k : Nat) (v : Int32), gi (si hh (sh + 4) k v) sh 0 = gi hh sh 0 := fun hh k v => by rw [gi_si, if_neg (by omega)]
    have r0 : ∀ (hh : Hp) (v : Int32), gi (si hh sh 0 v) sh 0 = v := fun hh v => by rw [gi_si, if_pos ⟨rfl, rfl⟩]
    simp only [r2, r3, r4, r0]
    have xn : ix (gi h sh 0) = n := ix_of g0
    have ib : inb (gi h sh 0) 3102 := by unfold inb; rw [g0]; omega
    refine ⟨x6, rfl, fun q => ?_, fun _ => ⟨fun q => ?_, fun _ => ⟨F, by unfold inb; omega, fun q => ?_, fun q => ?_⟩⟩⟩
    · rw [i32_lt, i0_t] at q; omega
    · rw [i32_le, i8192_t] at q; omega
    · rw [x6i, i32_eq, i0_t] at q
      rcases O.find S with ⟨z, -⟩ | ⟨e, h1, h2, h3, h4⟩
      · exact absurd z q
      · exact ⟨rfl, ⟨n, F, s1, s0, S.old ok h1 h3 h4⟩, FrS.rf⟩
    · rw [x6i, i32_eq, i0_t] at q
      rw [x6i, xn]
      have ne : (gi h sh 0 + 1).toInt = (n : Int) + 1 := by rw [iadd_t] <;> rw [g0, i1_t] <;> omega
      refine ⟨by rw [i32_eq, i0_t]; omega, ib, ib, ib, ?_⟩
      have f : FrS sh h (si (si (si (si (si h (sh + 2) n (a / cc)) (sh + 3) n (b / cc)) (sh + 4) n c) sh 0 (gi h sh 0 + 1)) (sh + 5) i (gi h sh 0 + 1)) := FrS.s (FrS.s (FrS.s (FrS.s (FrS.s FrS.rf (by unfold sI; omega)) (by unfold sI; omega)) (by unfold sI; omega)) (Or.inl ⟨rfl, rfl⟩)) (by unfold sI; omega)
      refine ⟨rfl, ⟨n + 1, f.st5 F, ?_, ?_, ?_⟩, f⟩
      · unfold gf; rw [f.xi (fun q => by unfold sI at q; omega)]; exact s1
      · unfold gf; rw [gi_si, if_neg (by omega), gi_si, if_pos ⟨rfl, rfl⟩, ne]; rfl
      · rw [f.te]
        refine S.new hK ok O q (fun e => ?_) (fun e => ?_) (fun e => ?_) (fun j => ?_)
        · unfold gf
          rw [gi_si, if_neg (by omega), gi_si, if_neg (by omega), gi_si, if_neg (by omega), gi_si, if_neg (by omega), gi_si]
          by_cases z : e = n
          · rw [if_pos ⟨rfl, z⟩, if_pos z]; exact c3
          · rw [if_neg (fun y => z y.2), if_neg z]
        · unfold gf
          rw [gi_si, if_neg (by omega), gi_si, if_neg (by omega), gi_si, if_neg (by omega), gi_si]
          by_cases z : e = n
          · rw [if_pos ⟨rfl, z⟩, if_pos z]; exact c4
          · rw [if_neg (fun y => z y.2), if_neg z, gi_si, if_neg (by omega)]
        · unfold gf
          rw [gi_si, if_neg (by omega), gi_si, if_neg (by omega), gi_si]
          by_cases z : e = n
          · rw [if_pos ⟨rfl, z⟩, if_pos z]; exact ec
          · rw [if_neg (fun y => z y.2), if_neg z, gi_si, if_neg (by omega), gi_si, if_neg (by omega)]
        · unfold gf
          rw [gi_si]
          by_cases z : j = i
          · rw [if_pos ⟨rfl, z⟩, if_pos z]; exact ne
          · rw [if_neg (fun y => z y.2), if_neg z, gi_si, if_neg (by omega), gi_si, if_neg (by omega), gi_si, if_neg (by omega), gi_si, if_neg (by omega)]
  · rw [i32_lt, i3102_t] at q; omega))
theorem cl_sfind {g K n : Nat} (S : ShG h sh g K n) {p q : Int64} (p0 : 0 ≤ p.toInt) (p1 : p.toInt ≤ 1000000) (q0 : 0 < q.toInt) (q1 : q.toInt ≤ 1000000) : S_X5_find l D 0 0 [.ref sh, .long p, .long q] h (QI fun y h' => ((y.toInt = -1 ∧ ∀ e, e < n → ¬ (gf h (sh + 2) e = rdU p.toInt q.toInt ∧ gf h (sh + 3) e = rdL p.toInt q.toInt)) ∨ ∃ e : Nat, e < n ∧ y.toInt = e ∧ gf h (sh + 2) e = rdU p.toInt q.toInt ∧ gf h (sh + 3) e = rdL p.toInt q.toInt) ∧ h' = h) := Sp.of rfl (Nat.le_of_ble_eq_true rfl) (fun X C _ _ _ _ => V_X5_find_0 C (by
  obtain ⟨F, s1, s0, S⟩ := S
  obtain ⟨r1, r2⟩ := fr_x (u := p) (w := q) q0
  have cz := cm_tp (u := p) (w := q) q0
  have u0 := rdU_nn (u := p.toInt) (w := q.toInt) p0 q0
  have u1 := rdU_le (u := p.toInt) (w := q.toInt) p0
  have l0 := rdL_pos (u := p.toInt) q0
  have l1 := rdL_le (u := p.toInt) q0
  have t1 : (Int64.toInt32 (p / cm p q)).toInt = rdU p.toInt q.toInt := by rw [l2i_t (by omega) (by omega), r1]
  have t2 : (Int64.toInt32 (q / cm p q)).toInt = rdL p.toInt q.toInt := by rw [l2i_t (by omega) (by omega), r2]
  refine ⟨by omega, q0, fun _ => ⟨by rw [i64_eq, l0_t]; omega, F, (cl_slotOf F S).mono (fun v h5 hp => ?_)⟩, fun z => ?_⟩
  · obtain ⟨x6, rfl, ⟨i, e6, i1, O⟩, e5⟩ := hp
    rw [e5]
    rw [t1, t2] at O
    have x6i : ix x6 = i := ix_of e6
    refine ⟨x6, rfl, fun z => ?_, fun _ => ⟨fun z => ?_, fun _ => ⟨F, by unfold inb; omega, _, rfl, ?_, rfl⟩⟩⟩
    · rw [i32_lt, i0_t] at z; omega
    · rw [i32_le, i8192_t] at z; omega
    · rw [x6i]
      have rg := S.2.2.2.2.2.1 i i1
      have nn := S.1
      have et : (gi h (sh + 5) i - 1).toInt = gf h (sh + 5) i - 1 := by
        have : (gi h (sh + 5) i).toInt = gf h (sh + 5) i := rfl
        rw [isub_t] <;> rw [this, i1_t] <;> omega
      rw [et]
      rcases O.find S with ⟨z, y⟩ | ⟨e, h1, h2, h3, h4⟩
      · exact Or.inl ⟨by omega, y⟩
      · exact Or.inr ⟨e, h1, by omega, h3, h4⟩
  · rw [i64_lt, l0_t] at z; omega))
end Slt
