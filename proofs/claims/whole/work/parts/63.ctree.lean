-- steps of the tree: the class
section TreeC
variable {X : Ctx} {l : Launch} {D : Dt} {h : Hp} {x m t : Nat} {s : Sv} {Q : Pq}
theorem i60n : (Int32.ofNat 60).toInt = 60 := rfl
/-- add(), what goes beyond sixty is left out -/
theorem cl_addT {L : List Int} (F : St8 h t) (w : TdC h t (L.take 60)) {v : Int64} {z : Int} (hz : v.toInt = z) : S_X8_add l D 0 0 [.ref t, .long v] h (QV fun h' => TdC h' t ((L ++ [z]).take 60) ∧ FrW (dI t) (dL t) h h') := by
  obtain ⟨k1, k2⟩ := take_add L z
  by_cases q : L.length < 60
  · rw [(k1 q).1] at w
    rw [(k1 q).2]
    exact cl_add F w q hz
  · rw [k2 (by omega)]
    have e : (gi h t 1).toInt = 60 := by
      rw [w.1, List.length_take]; omega
    exact Sp.of rfl (Nat.le_of_ble_eq_true rfl) (fun X C _ _ _ _ => V_X8_add_0 C ⟨F, fun y => ⟨rfl, w, FrW.rf⟩, fun _ => ⟨fun _ => ⟨rfl, w, FrW.rf⟩, fun y => by rw [i32_le, e, i60n] at y; omega⟩⟩)
theorem i800_t : (800 : Int32).toInt = 800 := rfl
theorem ct_loop (C : C_X9_tree X) (F : St9 h x) {T : List Int} (hT : T.length < 800) (hend : ∀ (h' : Hp) (c : Int32), c.toInt = T.length → FrW (dI (x + 3)) (dL (x + 3)) h h' → TdC h' (x + 3) (T.take 60) → Q (some (.int c)) h') (N : Nat) : ∀ (h' : Hp) (a b : Int64) (c i : Int32) (dn : List Int), 0 < a.toInt → 0 < b.toInt → a.toInt ≤ 400 → b.toInt ≤ 400 → a.toInt + b.toInt ≤ N → T = dn ++ trP a.toInt b.toInt → c.toInt = dn.length → i.toInt = dn.length → FrW (dI (x + 3)) (dL (x + 3)) h h' → TdC h' (x + 3) (dn.take 60) → Wj X 0 0 Q 65 [(0, .ref x), (3, .long a), (5, .long b), (7, .int c), (8, .int i)] [] h' := by
  induction N with
  | zero => intro h' a b c i dn h1 h2 _ _ hN; omega
  | succ N ih =>
    intro h' a b c i dn h1 h2 h3 h4 hN hd ec ei f w
    have tq := trP_eq (a := a.toInt) (b := b.toInt) h1 h2
    have hl : dn.length ≤ T.length := by rw [hd, List.length_append]; omega
    have F' : St9 h' x := St9_same F f.2.1 f.2.2.1 f.2.2.2.1
    have ec1 : (c + Int32.ofInt 1).toInt = dn.length + 1 := by rw [iadd_t] <;> rw [ii_1, ec] <;> omega
    have ei1 : (i + Int32.ofInt 1).toInt = dn.length + 1 := by rw [iadd_t] <;> rw [ii_1, ei] <;> omega
    have s1 : (a - b).toInt = a.toInt - b.toInt := lsub_t (by omega) (by omega)
    have s2 : (b - a).toInt = b.toInt - a.toInt := lsub_t (by omega) (by omega)
    refine V_X9_tree_65 C ⟨fun q => ?_, fun _ => ⟨fun q => ?_, fun q => ⟨fun q2 => ⟨F', (cl_addT (St9_s1 F') w (z := 0) rfl).mono (fun y h2' hp => ?_)⟩, fun q2 => ⟨F', (cl_addT (St9_s1 F') w (z := 1) rfl).mono (fun y h2' hp => ?_)⟩⟩⟩⟩
    · rw [i32_le, i800_t, ei] at q; omega
    · rw [i64_eq] at q
      rw [if_pos q] at tq
      rw [tq, List.append_nil] at hd
      rw [← hd] at ec w
      exact hend h' c ec f w
    all_goals rw [i64_eq] at q
    all_goals rw [i64_le] at q2
    · obtain ⟨rfl, w2, f2⟩ := hp
      rw [if_neg q, if_neg (by omega)] at tq
      refine ⟨rfl, ih _ _ _ _ _ (dn ++ [0]) h1 (by omega) h3 (by omega) (by omega) ?_ (by rw [ec1]; simp) (by rw [ei1]; simp) (f.tr f2) w2⟩
      rw [hd, tq, s2, List.append_assoc]; rfl
    · obtain ⟨rfl, w2, f2⟩ := hp
      rw [if_neg q, if_pos (by omega)] at tq
      refine ⟨rfl, ih _ _ _ _ _ (dn ++ [1]) (by omega) h2 (by omega) h4 (by omega) ?_ (by rw [ec1]; simp) (by rw [ei1]; simp) (f.tr f2) w2⟩
      rw [hd, tq, s1, List.append_assoc]; rfl
theorem ca_tree (S : CSt h x m s) {p q : Int32} : S_X9_tree l D 0 0 [.ref x, .int p, .int q] h (QI fun y h' => y.toInt = (treeP s p.toInt q.toInt).1 ∧ CSt h' x m (treeP s p.toInt q.toInt).2 ∧ FrX (inC x m) h h') := Sp.of rfl (Nat.le_of_ble_eq_true rfl) (fun X C _ _ _ _ => V_X9_tree_0 C (by
  unfold treeP
  refine ⟨fun z => ⟨_, rfl, ?_⟩, fun z => ⟨fun z2 => ⟨S.1, by rw [i2l_t]; have := b32 p; omega, ?_, fun z4 e4 z5 e5 => ?_⟩, fun z2 => ⟨_, rfl, ?_⟩⟩⟩
  all_goals rw [bt_0, i1_t, i400_t] at z
  · rw [if_neg (by omega)]; exact ⟨rfl, S, FrX.rf⟩
  all_goals rw [bt_0, i1_t, i400_t] at z2
  · rw [i2l_t]; omega
  · have hz : (1 ≤ p.toInt ∧ p.toInt ≤ 400) ∧ 1 ≤ q.toInt ∧ q.toInt ≤ 400 := by omega
    rw [if_pos hz]
    have q1 : 0 < (q.toInt64).toInt := by rw [i2l_t]; omega
    obtain ⟨g1, g2⟩ := gl_fpt0 h (x + 13) p.toInt64 q.toInt64
    obtain ⟨f1, f2⟩ := fr_x (u := p.toInt64) q1
    rw [i2l_t, i2l_t] at f1 f2
    have e4' : z4.toInt = rdU p.toInt q.toInt := by rw [e4, g1, f1]
    have e5' : z5.toInt = rdL p.toInt q.toInt := by rw [e5, g2, f2]
    have lp := rdL_pos (u := p.toInt) (w := q.toInt) (by omega)
    have ll := rdL_le (u := p.toInt) (w := q.toInt) (by omega)
    have ul := rdU_le (u := p.toInt) (w := q.toInt) (by omega)
    have up : 0 < rdU p.toInt q.toInt := by
      obtain ⟨r1, -⟩ := rd_mul (u := p.toInt) (w := q.toInt) (by omega)
      rcases Int.lt_or_le 0 (rdU p.toInt q.toInt) with y | y
      · exact y
      · have := Int.mul_nonpos_of_nonneg_of_nonpos (a := (Int.gcd p.toInt q.toInt : Int)) (by omega) y; omega
    have tr := trP_rd (p := p.toInt) (q := q.toInt) (by omega) (by omega)
    have tl := trP_len (a := rdU p.toInt q.toInt) (b := rdL p.toInt q.toInt) up lp
    have fg : FrW (fun _ _ => False) (fun b _ => b = x + 13) h (fpt h (x + 13) p.toInt64 q.toInt64) := FrW.sl (P := fun _ _ => False) (R := fun c _ => c = x + 13) (FrW.sl (P := fun _ _ => False) (R := fun c _ => c = x + 13) FrW.rf rfl) rfl
    obtain ⟨S2, p2, x2⟩ := S.scr fg (fun _ _ q => absurd q id) (fun b j (q : b = x + 13) => by omega)
    refine ct_loop C (h := fpt h (x + 13) p.toInt64 q.toInt64) S2.1 (T := trP p.toInt q.toInt) (by rw [tr]; omega) (fun h' c ec f w => ?_) (rdU p.toInt q.toInt + rdL p.toInt q.toInt).toNat _ z4 z5 0 0 [] (by omega) (by omega) (by omega) (by omega) (by omega) (by rw [tr, e4', e5']; rfl) rfl rfl (FrW.rf.tcl) TdC.clr
    obtain ⟨S3, p3, x3⟩ := S2.row f w
    exact ⟨c, rfl, ec, S3, x2.tr x3⟩
  · rw [if_neg (by omega)]; exact ⟨rfl, S, FrX.rf⟩))
end TreeC
