-- train() of the class
theorem hx {a b c d : Nat} (ha : a < 16) (hb : b < 16) (hc : c < 16) (hd : d < 16) : (a + 16 * b + 256 * c + 4096 * d) / 1 % 16 = a ∧ (a + 16 * b + 256 * c + 4096 * d) / 16 % 16 = b ∧ (a + 16 * b + 256 * c + 4096 * d) / 256 % 16 = c ∧ (a + 16 * b + 256 * c + 4096 * d) / 4096 % 16 = d := by
  have h1 : (a + 16 * b + 256 * c + 4096 * d) / 16 = b + 16 * (c + 16 * d) := by omega
  have h2 : (a + 16 * b + 256 * c + 4096 * d) / 256 = c + 16 * d := by omega
  have h3 : (a + 16 * b + 256 * c + 4096 * d) / 4096 = d := by omega
  rw [h1, h2, h3]
  refine ⟨by omega, by omega, by omega, by omega⟩
theorem tP_n {g t : Nat} (hg : g ≤ 12) (ok : tOk g t) : ∃ P : Nat, tP t = P ∧ P < 65536 ∧ ∀ k, k < 4 → ((P / 2 ^ (4 * k) % 16 : Nat) : Int) = if tW t k = -1 then 15 else tW t k := by
  have e0 : (2 : Nat) ^ (4 * 0) = 1 := by decide
  have e1 : (2 : Nat) ^ (4 * 1) = 16 := by decide
  have e2 : (2 : Nat) ^ (4 * 2) = 256 := by decide
  have e3 : (2 : Nat) ^ (4 * 3) = 4096 := by decide
  by_cases q : t < 144
  · obtain ⟨A, B, e, c1, c2, c3⟩ := dig2 q ok
    obtain ⟨d1, d2, d3⟩ := tM2_d (a := A) (b := B) c1.1 c1.2
    rw [← e] at d2 d3
    have ep : tP t = ((A + 16 * B + 256 * 15 + 4096 * 15 : Nat) : Int) := by unfold tP; rw [if_pos q, d2, d3]; omega
    have w0 : tW t 0 = A := by unfold tW; rw [if_pos rfl, d2]
    have w1 : tW t 1 = B := by unfold tW; rw [if_neg (by omega), if_pos rfl, d3]
    have w2 : tW t 2 = -1 := by unfold tW; rw [if_neg (by omega), if_neg (by omega), if_pos q]
    have w3 : tW t 3 = -1 := by unfold tW; rw [if_neg (by omega), if_neg (by omega), if_pos q]
    obtain ⟨x0, x1, x2, x3⟩ := hx (a := A) (b := B) (c := 15) (d := 15) (by omega) (by omega) (by omega) (by omega)
    refine ⟨_, ep, by omega, fun k hk => ?_⟩
    rcases lt4 hk with rfl | rfl | rfl | rfl
    · rw [e0, w0, if_neg (by omega), x0]
    · rw [e1, w1, if_neg (by omega), x1]
    · rw [e2, w2, if_pos rfl, x2]; rfl
    · rw [e3, w3, if_pos rfl, x3]; rfl
  · obtain ⟨A, B, C, D, e, c1, c2, c3⟩ := dig4 (by omega) ok
    obtain ⟨d1, d2, d3, d4, d5, d6⟩ := tM4_d (a := A) (b := B) (c := C) (d := D) c1.1 c1.2.1 c1.2.2.1 c1.2.2.2
    have et : tM4 A B C D = t := by unfold tM4; omega
    rw [et] at d3 d4 d5 d6
    have ep : tP t = ((A + 16 * B + 256 * C + 4096 * D : Nat) : Int) := by unfold tP; rw [if_neg q, d3, d4, d5, d6]; omega
    have w0 : tW t 0 = A := by unfold tW; rw [if_pos rfl, d3]
    have w1 : tW t 1 = B := by unfold tW; rw [if_neg (by omega), if_pos rfl, d4]
    have w2 : tW t 2 = C := by unfold tW; rw [if_neg (by omega), if_neg (by omega), if_neg q, if_pos rfl, d5]
    have w3 : tW t 3 = D := by unfold tW; rw [if_neg (by omega), if_neg (by omega), if_neg q, if_neg (by omega), d6]
    obtain ⟨x0, x1, x2, x3⟩ := hx (a := A) (b := B) (c := C) (d := D) (by omega) (by omega) (by omega) (by omega)
    refine ⟨_, ep, by omega, fun k hk => ?_⟩
    rcases lt4 hk with rfl | rfl | rfl | rfl
    · rw [e0, w0, if_neg (by omega), x0]
    · rw [e1, w1, if_neg (by omega), x1]
    · rw [e2, w2, if_neg (by omega), x2]
    · rw [e3, w3, if_neg (by omega), x3]
theorem tW_b {g t : Nat} (ok : tOk g t) (hg : g ≤ 12) {k : Nat} (hk : k < 4) : -1 ≤ tW t k ∧ tW t k < 12 := by
  obtain ⟨o1, o2, o3, o4, o5⟩ := ok
  unfold tW
  split
  · omega
  · split
    · omega
    · split
      · omega
      · rename_i q
        obtain ⟨p1, p2, -⟩ := o5 (by omega)
        split <;> omega
theorem sWh_t {h : Hp} {sh g t e : Nat} (hg : g ≤ 12) (ok : tOk g t) (ep : gf h (sh + 4) e = tP t) {v i : Int32} {k : Nat} (ev : v.toInt = e) (he : e < 3102) (ei : i.toInt = k) (hk : k < 4) : (sWh h sh v i).toInt = tW t k := by
  obtain ⟨P, p1, p2, p3⟩ := tP_n hg ok
  have wb := tW_b ok hg hk
  have eg : (gi h (sh + 4) (ix v)).toInt = P := by rw [ix_of ev, ← p1]; exact ep
  have u := upk_t eg hk
  rw [← on_of ei, p3 k hk] at u
  have i15 : (15 : Int32).toInt = 15 := rfl
  unfold sWh
  rw [if_pos (by omega)]
  by_cases z : tW t k = -1
  · rw [if_pos z] at u
    rw [if_pos (by rw [i32_eq, u]; rfl), z]; rfl
  · rw [if_neg z] at u
    rw [if_neg (by rw [i32_eq, u, i15]; omega)]; exact u
theorem sWt_t {h : Hp} {sh g t e : Nat} (hg : g ≤ 12) (ok : tOk g t) (ep : gf h (sh + 4) e = tP t) {v : Int32} (ev : v.toInt = e) (he : e < 3102) : (sWt h sh v).toInt = tN t := by
  have w2 := sWh_t hg ok ep ev he (i := 2) (k := 2) rfl (by omega)
  unfold sWt
  by_cases q : t < 144
  · have : tW t 2 = -1 := by unfold tW; rw [if_neg (by omega), if_neg (by omega), if_pos q]
    rw [if_pos (by rw [i32_eq, w2, this]; rfl), tN_2 q]; rfl
  · have : tW t 2 = tC t := by unfold tW; rw [if_neg (by omega), if_neg (by omega), if_neg q, if_pos rfl]
    rw [if_neg (by rw [i32_eq, w2, this, im1_t]; omega), tN_4 (by omega)]; rfl
/-- teeth in the shelf and in the head -/
theorem tU_ext {g t : Nat} {te te' : Nat → Int} (e : ∀ k, k < g → te k = te' k) (ok : tOk g t) : tU te t = tU te' t ∧ tL te t = tL te' t := by
  obtain ⟨o1, o2, o3, o4, o5⟩ := ok
  by_cases q : t < 144
  · rw [(tU_2 te q).1, (tU_2 te q).2, (tU_2 te' q).1, (tU_2 te' q).2, e _ o2, e _ o3]; exact ⟨rfl, rfl⟩
  · obtain ⟨p1, p2, -⟩ := o5 (by omega)
    have q4 : 144 ≤ t := by omega
    rw [(tU_4 te q4).1, (tU_4 te q4).2, (tU_4 te' q4).1, (tU_4 te' q4).2, e _ o2, e _ o3, e _ p1, e _ p2]; exact ⟨rfl, rfl⟩
/-- what a fitted shelf says of the trains -/
def ShE (A : HV) (n : Nat) (u w p : Nat → Int) : Prop := n ≤ 3102 ∧ (∀ e, e < n → ∃ t, tOk (gN A) t ∧ u e = rdU (tU (A 3) t) (tL (A 3) t) ∧ w e = rdL (tU (A 3) t) (tL (A 3) t) ∧ p e = tP t ∧ ∀ t', t' < t → tOk (gN A) t' → ¬ (rdU (tU (A 3) t') (tL (A 3) t') = u e ∧ rdL (tU (A 3) t') (tL (A 3) t') = w e)) ∧ ∀ t, tOk (gN A) t → ∃ e, e < n ∧ u e = rdU (tU (A 3) t) (tL (A 3) t) ∧ w e = rdL (tU (A 3) t) (tL (A 3) t)
theorem ShT.e {h : Hp} {sh : Nat} {A : HV} (V : VA A) (T : ShT h sh A) : ∃ n, ShG h sh (gN A) 20880 n ∧ ShE A n (gf h (sh + 2)) (gf h (sh + 3)) (gf h (sh + 4)) := by
  obtain ⟨n, S, te⟩ := T
  have vg := V.gn
  have ext : ∀ t, tOk (gN A) t → tU (gf h (sh + 1)) t = tU (A 3) t ∧ tL (gf h (sh + 1)) t = tL (A 3) t := fun t ok => tU_ext (fun k hk => by rw [te k (by omega)]; unfold tvA; rw [if_pos hk]) ok
  obtain ⟨-, -, -, s1, s2, s3, -⟩ := id S
  refine ⟨n, S, s1, fun e he => ?_, fun t ok => ?_⟩
  · obtain ⟨t, t1, t2, t3, t4, t5, t6⟩ := s2 e he
    obtain ⟨x1, x2⟩ := ext t t2
    rw [x1, x2] at t3 t4
    refine ⟨t, t2, t3, t4, t5, fun t' h1 h2 => ?_⟩
    obtain ⟨y1, y2⟩ := ext t' h2
    have := t6 t' h1 h2
    rw [y1, y2] at this
    exact this
  · obtain ⟨e, e1, e2, e3⟩ := s3 t ok.1 ok
    obtain ⟨x1, x2⟩ := ext t ok
    rw [x1, x2] at e2 e3
    exact ⟨e, e1, e2, e3⟩
section CTr
variable {X : Ctx} {l : Launch} {D : Dt} {h : Hp} {x m sh : Nat} {Q : Pq} {A : HV} {s : Sv}
theorem cl_tellWheels (F : St9 h x) (F5 : St5 h sh) (dj : x + 17 ≤ sh) (w : TdC h (x + 3) []) {g t e : Nat} (hg : g ≤ 12) (ok : tOk g t) (ep : gf h (sh + 4) e = tP t) {v : Int32} (ev : v.toInt = e) (he : e < 3102) : S_X9_tellWheels l D 0 0 [.ref x, .ref sh, .int v] h (QI fun y h' => y.toInt = tN t ∧ TdC h' (x + 3) (tWl t) ∧ FrW (dI (x + 3)) (dL (x + 3)) h h') := Sp.of rfl (Nat.le_of_ble_eq_true rfl) (fun X C _ _ _ _ => V_X9_tellWheels_0 C (by
  have tn := tN_24 t
  have wt := sWt_t hg ok ep ev he
  generalize hW : sWt h sh v = W at *
  have key : ∀ (d : Nat) (h' : Hp) (i : Int32), 0 ≤ i.toInt → i.toInt + d = tN t → FrW (dI (x + 3)) (dL (x + 3)) h h' → TdC h' (x + 3) ((List.range (ix i)).map (fun i => tW t i)) → Wj X 0 0 (QI fun y h' => y.toInt = tN t ∧ TdC h' (x + 3) (tWl t) ∧ FrW (dI (x + 3)) (dL (x + 3)) h h') 9 [(0, .ref x), (1, .ref sh), (2, .int v), (3, .int W), (4, .int i)] [] h' := by
    intro d
    induction d with
    | zero =>
      intro h' i i0 hd f r
      refine V_X9_tellWheels_9 C ⟨fun _ => ⟨W, rfl, wt, ?_, f⟩, fun q => ?_⟩
      · have : ix i = (tN t).toNat := by unfold ix; omega
        unfold tWl; rw [← this]; exact r
      · rw [i32_le, wt] at q; omega
    | succ d ih =>
      intro h' i i0 hd f r
      obtain ⟨x1, x2⟩ := ix_succ i0 (by omega)
      have hi := ix_t i0
      have F' : St9 h' x := St9_same F f.2.1 f.2.2.1 f.2.2.2.1
      have ep' : gf h' (sh + 4) e = tP t := by unfold gf; rw [f.xi (fun q => by have := q.1; omega)]; exact ep
      refine V_X9_tellWheels_9 C ⟨fun q => ?_, fun _ => ⟨F', St5_same F5 f.2.1 f.2.2.1 f.2.2.2.1, (cl_add (St9_s1 F') r (by rw [List.length_map, List.length_range]; omega) (z := tW t (ix i)) (by rw [i2l_t]; exact sWh_t hg ok ep' ev he hi.symm (by omega))).mono (fun z h3 hp => ?_)⟩⟩
      · rw [i32_le, wt] at q; omega
      · obtain ⟨rfl, r3, f3⟩ := hp
        refine ⟨rfl, ih h3 _ (by omega) (by omega) (f.tr f3) ?_⟩
        rw [x1, map_succ]; exact r3
  refine ⟨F5, key (tN t).toNat h 0 (by decide) (by rw [i0_t]; omega) FrW.rf ?_⟩
  rw [ix_0]; exact w))
/-- the first train of a ratio, by the shelf -/
theorem ShE.train {n : Nat} {u w pp : Nat → Int} (V : VA A) (E : ShE A n u w pp) {p q : Int} (q0 : 0 < q) : ((∀ e, e < n → ¬ (u e = rdU p q ∧ w e = rdL p q)) → trainQ A p q = none) ∧ ∀ e, e < n → u e = rdU p q → w e = rdL p q → ∃ t, tOk (gN A) t ∧ trainQ A p q = some t ∧ pp e = tP t := by
  obtain ⟨s1, s2, s3⟩ := E
  have iff : ∀ t, tOk (gN A) t → (tU (A 3) t * q = tL (A 3) t * p ↔ (rdU (tU (A 3) t) (tL (A 3) t) = rdU p q ∧ rdL (tU (A 3) t) (tL (A 3) t) = rdL p q)) := by
    intro t ok
    have ub := tU_b V.teo (tOk_all ok)
    constructor
    · intro z
      exact rd_unique (by omega) q0 (by rw [z, Int.mul_comm])
    · rintro ⟨z1, z2⟩
      obtain ⟨a1, a2⟩ := rd_mul (u := tU (A 3) t) (w := tL (A 3) t) (by omega)
      obtain ⟨b1, b2⟩ := rd_mul (u := p) (w := q) q0
      rw [z1] at a1
      rw [z2] at a2
      generalize rdU p q = x at *
      generalize rdL p q = y at *
      generalize (Int.gcd (tU (A 3) t) (tL (A 3) t) : Int) = g at *
      generalize (Int.gcd p q : Int) = k at *
      rw [← a1, ← a2, ← b1, ← b2]
      simp only [Int.mul_assoc, Int.mul_left_comm, Int.mul_comm]
  refine ⟨fun no => lsQ_no (fun t ht => ?_), fun e he h1 h2 => ?_⟩
  · obtain ⟨e, e1, e2, e3⟩ := s3 t ht.1
    have := (iff t ht.1).mp ht.2
    exact no e e1 ⟨by rw [e2]; exact this.1, by rw [e3]; exact this.2⟩
  · obtain ⟨t, t1, t2, t3, t4, t5⟩ := s2 e he
    refine ⟨t, t1, lsQ_is ⟨t1, (iff t t1).mpr ⟨by rw [← t2]; exact h1, by rw [← t3]; exact h2⟩⟩ (fun t' h3 h4 => ?_), t4⟩
    have := (iff t' h4.1).mp h4.2
    exact t5 t' h3 h4.1 ⟨by rw [h1]; exact this.1, by rw [h2]; exact this.2⟩
theorem CSt.shx (S : CSt h x m s) {sh : Nat} (e : gr h x 14 = some sh) : x + 17 ≤ sh := by
  have := (S.2.2.2.2.2.2.2.2 sh e).2.1
  have := S.2.1
  omega
theorem ca_train (S : CSt h x m s) {p q : Int32} : S_X9_train l D (shC h x) (shM h x) [.ref x, .int p, .int q] h (QI fun y h' => y.toInt = (trainP s p.toInt q.toInt).1 ∧ CSt h' x m (trainP s p.toInt q.toInt).2 ∧ FrX (inC x m) h h') := Sp.of rfl (Nat.le_of_ble_eq_true rfl) (fun X C _ _ hmc hms => V_X9_train_0 C (by
  have V := S.2.2.2.2.1.1
  have vg := V.gn
  have e400 : (400 : Int32).toInt = 400 := rfl
  unfold trainP
  refine ⟨fun z => ⟨_, rfl, ?_⟩, fun z => ⟨fun z2 => ⟨S.1, shC h x, shM h x, by omega, by omega, (cl_fitted S).mono (fun v h2 hp => ?_)⟩, fun z2 => ⟨_, rfl, ?_⟩⟩⟩
  all_goals rw [bt_0, i1_t, e400] at z
  · rw [if_neg (by omega)]; exact ⟨rfl, S, FrX.rf⟩
  all_goals rw [bt_0, i1_t, e400] at z2
  · rw [if_pos (by omega)]
    obtain ⟨sh, rfl, S2, e2, T2, p2, x2⟩ := hp
    obtain ⟨n, G, E⟩ := T2.e V
    obtain ⟨et1, et2⟩ := E.train V (p := p.toInt) (q := q.toInt) (by omega)
    refine ⟨sh, rfl, G.1, (cl_sfind G (p := p.toInt64) (q := q.toInt64) (by rw [i2l_t]; omega) (by rw [i2l_t]; omega) (by rw [i2l_t]; omega) (by rw [i2l_t]; omega)).mono (fun v h7 hp => ?_)⟩
    obtain ⟨y, rfl, hy, e7⟩ := hp
    rw [i2l_t, i2l_t] at hy
    subst e7
    rcases hy with ⟨y1, no⟩ | ⟨e, e1, y1, u1, w1⟩
    · rw [et1 no]
      exact ⟨y, rfl, fun q => by rw [i32_le, i0_t] at q; omega, fun _ => ⟨_, rfl, rfl, S2, x2⟩⟩
    · obtain ⟨t, t1, t2, t3⟩ := et2 e e1 u1 w1
      rw [t2]
      have en := E.1
      refine ⟨y, rfl, fun _ => ⟨S2.1, ?_⟩, fun q => absurd (by rw [i32_le, i0_t]; omega) q⟩
      have fc : FrW (dI (x + 3)) (dL (x + 3)) h7 (tcl h7 (x + 3)) := FrW.rf.tcl
      have dj := S2.shx e2
      refine (cl_tellWheels (h := tcl h7 (x + 3)) (St9_same S2.1 fc.2.1 fc.2.2.1 fc.2.2.2.1) (St5_same G.1 fc.2.1 fc.2.2.1 fc.2.2.2.1) dj TdC.clr vg.1 t1 (by unfold gf; rw [fc.xi (fun q => by have := q.1; omega)]; exact t3) y1 (by omega)).mono (fun v h10 hp => ?_)
      obtain ⟨w, rfl, ew, t10, f10⟩ := hp
      obtain ⟨S10, p10, x10⟩ := S2.row (fc.tr f10) t10
      exact ⟨w, rfl, w, rfl, ew, S10, x2.tr x10⟩
  · rw [if_neg (by omega)]; exact ⟨rfl, S, FrX.rf⟩))
end CTr
