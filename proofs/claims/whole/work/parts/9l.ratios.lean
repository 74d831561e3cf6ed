-- ratios(): the pure value, the class
theorem rdU_pos {u w : Int} (h0 : 0 < u) (h : 0 < w) : 0 < rdU u w := by
  have n := rdU_nn (u := u) (w := w) (by omega) h
  have e := (rd_mul (u := u) h).1
  rcases Int.lt_or_eq_of_le n with q | q
  · exact q
  · rw [← q, Int.mul_zero] at e; omega
def rp (A : HV) (t : Nat) : Int × Int := (rdU (tU (A 3) t) (tL (A 3) t), rdL (tU (A 3) t) (tL (A 3) t))
def RtE (A : HV) (n : Nat) (f : Nat → Int × Int) : Prop := (∀ e e', e < n → e' < n → f e = f e' → e = e') ∧ (∀ e, e < n → ∃ t, tAll (gN A) t ∧ f e = rp A t) ∧ ∀ t, tAll (gN A) t → ∃ e, e < n ∧ f e = rp A t
theorem cT_all (n : Nat) : cT (fun _ => true) n = n := by
  induction n with
  | zero => rfl
  | succ n ih => unfold cT; rw [ih, if_pos rfl]
theorem inj_le {n n' : Nat} (g : Nat → Nat) (h1 : ∀ e, e < n → g e < n') (h2 : ∀ e e', e < n → e' < n → g e = g e' → e = e') : n ≤ n' := by
  have := cT_inj (fun _ => true) n' n g (fun e he => ⟨h1 e he, rfl⟩) h2
  rw [cT_all] at this; exact this
theorem RtE.le {A : HV} {n n' : Nat} {f f' : Nat → Int × Int} (E : RtE A n f) (E' : RtE A n' f') : n ≤ n' := by
  have ex : ∀ e, ∃ e', e < n → e' < n' ∧ f' e' = f e := fun e => by
    by_cases he : e < n
    · obtain ⟨t, t1, t2⟩ := E.2.1 e he
      obtain ⟨e', a, b⟩ := E'.2.2 t t1
      exact ⟨e', fun _ => ⟨a, by rw [b, t2]⟩⟩
    · exact ⟨0, fun z => absurd z he⟩
  refine inj_le (fun e => Classical.choose (ex e)) (fun e he => (Classical.choose_spec (ex e) he).1) (fun e e' he he' q => E.1 e e' he he' ?_)
  have q : Classical.choose (ex e) = Classical.choose (ex e') := q
  have a := (Classical.choose_spec (ex e) he).2
  have b := (Classical.choose_spec (ex e') he').2
  rw [← a, ← b, q]
abbrev RtV : Type := Int × (Int × Int) × (Int × Int)
def RtS (A : HV) (r : RtV) : Prop := ∃ (n : Nat) (f : Nat → Int × Int), RtE A n f ∧ r.1 = n ∧ ((∃ e, e < n ∧ f e = r.2.1) ∧ ∀ e, e < n → r.2.1.1 * (f e).2 ≤ (f e).1 * r.2.1.2) ∧ (∃ e, e < n ∧ f e = r.2.2) ∧ ∀ e, e < n → (f e).1 * r.2.2.2 ≤ r.2.2.1 * (f e).2
theorem rp_eq {A : HV} (V : VA A) {t t' : Nat} (h : tAll (gN A) t) (h' : tAll (gN A) t') (e : (rp A t).1 * (rp A t').2 = (rp A t').1 * (rp A t).2) : rp A t = rp A t' := by
  have b := (tU_b V.teo h).2.1
  have b' := (tU_b V.teo h').2.1
  have p := rdL_pos (u := tU (A 3) t) b
  have p' := rdL_pos (u := tU (A 3) t') b'
  have e : rdU (tU (A 3) t) (tL (A 3) t) * rdL (tU (A 3) t') (tL (A 3) t') = rdU (tU (A 3) t') (tL (A 3) t') * rdL (tU (A 3) t) (tL (A 3) t) := e
  have u := rd_unique p p' e
  rw [(rd_again b).1, (rd_again b).2, (rd_again b').1, (rd_again b').2] at u
  unfold rp
  rw [u.1, u.2]
theorem RtS.unique {A : HV} (V : VA A) {r r' : RtV} (h : RtS A r) (h' : RtS A r') : r = r' := by
  obtain ⟨n, f, E, e1, ⟨⟨a, a1, a2⟩, a3⟩, ⟨b, b1, b2⟩, b3⟩ := h
  obtain ⟨n', f', E', e1', ⟨⟨a', a1', a2'⟩, a3'⟩, ⟨b', b1', b2'⟩, b3'⟩ := h'
  have en : n = n' := Nat.le_antisymm (E.le E') (E'.le E)
  have at_ : ∀ e, e < n → ∃ t, tAll (gN A) t ∧ f e = rp A t := E.2.1
  obtain ⟨ta, ta1, ta2⟩ := E.2.1 a a1
  obtain ⟨ta', ta1', ta2'⟩ := E'.2.1 a' a1'
  obtain ⟨tb, tb1, tb2⟩ := E.2.1 b b1
  obtain ⟨tb', tb1', tb2'⟩ := E'.2.1 b' b1'
  have x1 : r.2.1 = r'.2.1 := by
    obtain ⟨c, c1, c2⟩ := E.2.2 ta' ta1'
    obtain ⟨c', c1', c2'⟩ := E'.2.2 ta ta1
    have i1 := a3 c c1
    have i2 := a3' c' c1'
    rw [← a2, ta2, c2] at i1
    rw [← a2', ta2', c2'] at i2
    rw [← a2, ← a2', ta2, ta2']
    exact rp_eq V ta1 ta1' (Int.le_antisymm i1 i2)
  have x2 : r.2.2 = r'.2.2 := by
    obtain ⟨c, c1, c2⟩ := E.2.2 tb' tb1'
    obtain ⟨c', c1', c2'⟩ := E'.2.2 tb tb1
    have i1 := b3 c c1
    have i2 := b3' c' c1'
    rw [← b2, tb2, c2] at i1
    rw [← b2', tb2', c2'] at i2
    rw [← b2, ← b2', tb2, tb2']
    exact rp_eq V tb1 tb1' (Int.le_antisymm i2 i1)
  obtain ⟨r1, r2, r3⟩ := r
  obtain ⟨r1', r2', r3'⟩ := r'
  have x0 : r1 = r1' := by
    have z : r1 = (n : Int) := e1
    have z' : r1' = (n' : Int) := e1'
    rw [z, z', en]
  have x1 : r2 = r2' := x1
  have x2 : r3 = r3' := x2
  rw [x0, x1, x2]
noncomputable def rtQ (A : HV) : RtV := Classical.epsilon (RtS A)
theorem rtQ_eq {A : HV} (V : VA A) {r : RtV} (h : RtS A r) : rtQ A = r := RtS.unique V (Classical.epsilon_spec ⟨r, h⟩) h
noncomputable def rtRow (A : HV) : List Int := [(rtQ A).2.1.1, (rtQ A).2.1.2, (rtQ A).2.2.1, (rtQ A).2.2.2]
noncomputable def ratiosP (s : Sv) : Int × Sv := if sA s 0 4 < 2 then (-2, s) else ((rtQ (sA s)).1, rowS s (rtRow (sA s)))
/-- the first train of its ratio is one of those that the class looks at -/
theorem rp_ok {A : HV} (V : VA A) {t : Nat} (h : tAll (gN A) t) : ∃ t', tOk (gN A) t' ∧ rp A t' = rp A t := by
  obtain ⟨o, o1, o2⟩ := ls_ex (fun t' => tAll (gN A) t' ∧ rp A t' = rp A t)
  cases o with
  | none => exact absurd ⟨h, rfl⟩ (o2 rfl t)
  | some t' =>
    obtain ⟨⟨p1, p2⟩, p3⟩ := o1 t' rfl
    exact ⟨t', least_ok V.gn.1 (te := A 3) (P := fun u w => (rdU u w, rdL u w) = rp A t) p1 p2 (fun t'' h1 h2 h3 => p3 t'' h1 ⟨h2, h3⟩), p2⟩
section CRt
variable {X : Ctx} {l : Launch} {D : Dt} {h : Hp} {x m sh : Nat} {Q : Pq} {A : HV} {s : Sv}
theorem cl_extreme (F : St5 h sh) {n : Nat} (hn : gf h sh 0 = n) (n0 : 0 < n) (n1 : n ≤ 3102) (bd : ∀ e, e < n → (0 < gf h (sh + 2) e ∧ gf h (sh + 2) e ≤ 10000) ∧ 0 < gf h (sh + 3) e ∧ gf h (sh + 3) e ≤ 10000) {v : Int32} (hv : v.toInt = 1 ∨ v.toInt = -1) : S_X5_extreme l D 0 0 [.ref sh, .int v] h (QI fun y h' => (∃ e : Nat, y.toInt = e ∧ e < n ∧ ∀ e', e' < n → (v.toInt = 1 → gf h (sh + 2) e' * gf h (sh + 3) e ≤ gf h (sh + 2) e * gf h (sh + 3) e') ∧ (v.toInt = -1 → gf h (sh + 2) e * gf h (sh + 3) e' ≤ gf h (sh + 2) e' * gf h (sh + 3) e)) ∧ h' = h) := Sp.of rfl (Nat.le_of_ble_eq_true rfl) (fun X C _ _ _ _ => V_X5_extreme_0 C (by
  have hn' : (gi h sh 0).toInt = n := hn
  have key : ∀ (d c b : Nat) (vb vc : Int32), c + d = n → vb.toInt = b → vc.toInt = c → b < c → (∀ e', e' < c → (v.toInt = 1 → gf h (sh + 2) e' * gf h (sh + 3) b ≤ gf h (sh + 2) b * gf h (sh + 3) e') ∧ (v.toInt = -1 → gf h (sh + 2) b * gf h (sh + 3) e' ≤ gf h (sh + 2) e' * gf h (sh + 3) b)) → Wj X 0 0 (QI fun y h' => (∃ e : Nat, y.toInt = e ∧ e < n ∧ ∀ e', e' < n → (v.toInt = 1 → gf h (sh + 2) e' * gf h (sh + 3) e ≤ gf h (sh + 2) e * gf h (sh + 3) e') ∧ (v.toInt = -1 → gf h (sh + 2) e * gf h (sh + 3) e' ≤ gf h (sh + 2) e' * gf h (sh + 3) e)) ∧ h' = h) 4 [(0, .ref sh), (1, .int v), (2, .int vb), (3, .int vc)] [] h := by
    intro d
    induction d with
    | zero =>
      intro c b vb vc hc eb ec hb P
      have : c = n := by omega
      subst this
      refine V_X5_extreme_4 C ⟨F, fun _ => ⟨vb, rfl, ⟨b, eb, hb, P⟩, rfl⟩, fun q => ?_⟩
      rw [i32_le] at q; omega
    | succ d ih =>
      intro c b vb vc hc eb ec hb P
      refine V_X5_extreme_4 C ⟨F, fun q => ?_, fun _ z ez => ?_⟩
      · rw [i32_le] at q; omega
      · obtain ⟨⟨b1, b2⟩, b3, b4⟩ := bd b (by omega)
        obtain ⟨⟨c1, c2⟩, c3, c4⟩ := bd c (by omega)
        have xb : ix vb = b := ix_of eb
        have xc : ix vc = c := ix_of ec
        have ub : (sUp h sh vb).toInt = gf h (sh + 2) b := by unfold sUp gf; rw [if_pos (by omega), xb]
        have lb : (sLo h sh vb).toInt = gf h (sh + 3) b := by unfold sLo gf; rw [if_pos (by omega), xb]
        have uc : (sUp h sh vc).toInt = gf h (sh + 2) c := by unfold sUp gf; rw [if_pos (by omega), xc]
        have lc : (sLo h sh vc).toInt = gf h (sh + 3) c := by unfold sLo gf; rw [if_pos (by omega), xc]
        have m1 := mul_bd (a := gf h (sh + 2) c) (b := gf h (sh + 3) b) (M := 10000) (K := 10000) (by omega) (by omega) (by omega) (by omega)
        have m2 := mul_bd (a := gf h (sh + 2) b) (b := gf h (sh + 3) c) (M := 10000) (K := 10000) (by omega) (by omega) (by omega) (by omega)
        have t1 : (sUp h sh vc * sLo h sh vb).toInt = gf h (sh + 2) c * gf h (sh + 3) b := by rw [imul_t] <;> rw [uc, lb] <;> omega
        have t2 : (sUp h sh vb * sLo h sh vc).toInt = gf h (sh + 2) b * gf h (sh + 3) c := by rw [imul_t] <;> rw [ub, lc] <;> omega
        have tz : z.toInt = gf h (sh + 2) c * gf h (sh + 3) b - gf h (sh + 2) b * gf h (sh + 3) c := by rw [ez, isub_t] <;> rw [t1, t2] <;> omega
        have nx : (vc + Int32.ofInt 1).toInt = (c + 1 : Nat) := by rw [iadd_t] <;> rw [ec, show (Int32.ofInt 1).toInt = 1 from rfl] <;> omega
        have tm : (z * v).toInt = z.toInt * v.toInt := by rcases hv with e | e <;> rw [imul_t] <;> rw [e] <;> omega
        clear ez
        refine ⟨fun q => ih (c + 1) b vb _ (by omega) eb nx (by omega) (fun e' he' => ?_), fun q => ih (c + 1) c vc _ (by omega) ec nx (by omega) (fun e' he' => ?_)⟩
        all_goals rw [i32_le, i0_t, tm, tz] at q
        · by_cases z' : e' = c
          · subst z'
            refine ⟨fun e => ?_, fun e => ?_⟩
            all_goals rw [e] at q; omega
          · exact P e' (by omega)
        · by_cases z' : e' = c
          · subst z'
            exact ⟨fun _ => Int.le_refl _, fun _ => Int.le_refl _⟩
          · obtain ⟨⟨d1, d2⟩, d3, d4⟩ := bd e' (by omega)
            obtain ⟨p1, p2⟩ := P e' (by omega)
            refine ⟨fun e => ?_, fun e => ?_⟩
            · have p1 := p1 e
              rw [e] at q
              exact frac_tr d3 b3 c3 p1 (by omega)
            · have p2 := p2 e
              rw [e] at q
              exact frac_tr c3 b3 d3 (by omega) p2
  refine key (n - 1) 1 0 0 1 (by omega) rfl rfl (by omega) (fun e' he' => ?_)
  have : e' = 0 := by omega
  rw [this]
  exact ⟨fun _ => Int.le_refl _, fun _ => Int.le_refl _⟩))
theorem ca_ratios (S : CSt h x m s) : S_X9_ratios l D (shC h x) (shM h x) [.ref x] h (QI fun y h' => y.toInt = (ratiosP s).1 ∧ CSt h' x m (ratiosP s).2 ∧ FrX (inC x m) h h') := Sp.of rfl (Nat.le_of_ble_eq_true rfl) (fun X C _ _ hmc hms => V_X9_ratios_0 C (by
  have V := S.2.2.2.2.1.1
  have vg := V.gn
  unfold ratiosP
  refine ⟨S.1, shC h x, shM h x, by omega, by omega, (cl_fitted S).mono (fun v h2 hp => ?_)⟩
  obtain ⟨sh, rfl, S2, e2, T2, p2, x2⟩ := hp
  obtain ⟨n, G, E⟩ := T2.e V
  have dj := S2.shx e2
  obtain ⟨F5, -, g0, sp⟩ := id G
  have inj := sp.2.2.2.1
  have g0' : (gi h2 sh 0).toInt = n := g0
  have RE : RtE (sA s) n (fun e => (gf h2 (sh + 2) e, gf h2 (sh + 3) e)) := by
    refine ⟨fun e e' he he' q => ?_, fun e he => ?_, fun t ht => ?_⟩
    · have q := Prod.mk.inj q
      exact inj e e' he he' q.1 q.2
    · obtain ⟨t, t1, t2, t3, -⟩ := E.2.1 e he
      exact ⟨t, tOk_all t1, by unfold rp; rw [← t2, ← t3]⟩
    · obtain ⟨t', t1, t2⟩ := rp_ok V ht
      obtain ⟨e, he, a1, a2⟩ := E.2.2 t' t1
      refine ⟨e, he, ?_⟩
      rw [← t2]
      unfold rp
      rw [← a1, ← a2]
  have bd : ∀ e, e < n → (0 < gf h2 (sh + 2) e ∧ gf h2 (sh + 2) e ≤ 10000) ∧ 0 < gf h2 (sh + 3) e ∧ gf h2 (sh + 3) e ≤ 10000 := fun e he => by
    obtain ⟨t, t1, t2, t3, -⟩ := E.2.1 e he
    have b := tU_b V.teo (tOk_all t1)
    have u0 := rdU_pos (u := tU (sA s 3) t) (w := tL (sA s 3) t) b.1.1 b.2.1
    have u1 := rdU_le (u := tU (sA s 3) t) (w := tL (sA s 3) t) (by omega)
    have l0 := rdL_pos (u := tU (sA s 3) t) (w := tL (sA s 3) t) b.2.1
    have l1 := rdL_le (u := tU (sA s 3) t) (w := tL (sA s 3) t) b.2.1
    omega
  refine ⟨sh, rfl, F5, fun q => ?_, fun q => ⟨_, rfl, ?_⟩⟩
  all_goals rw [i32_eq, g0', i0_t] at q
  · have n0 : 0 < n := by omega
    have hg : ¬ sA s 0 4 < 2 := fun z => by
      obtain ⟨t, t1, -⟩ := E.2.1 0 n0
      obtain ⟨-, o1, o2, o3, -⟩ := t1
      omega
    rw [if_neg hg]
    have ft : FrW (dI (x + 3)) (dL (x + 3)) h2 (tcl h2 (x + 3)) := FrW.rf.tcl
    have sT9 : ∀ h', FrW (dI (x + 3)) (dL (x + 3)) h2 h' → St9 h' x := fun h' f => St9_same S2.1 f.2.1 f.2.2.1 f.2.2.2.1
    have sT5 : ∀ h', FrW (dI (x + 3)) (dL (x + 3)) h2 h' → St5 h' sh := fun h' f => St5_same F5 f.2.1 f.2.2.1 f.2.2.2.1
    have gg : ∀ h', FrW (dI (x + 3)) (dL (x + 3)) h2 h' → ∀ j i, j < 6 → gf h' (sh + j) i = gf h2 (sh + j) i := fun h' f j i hj => by unfold gf; rw [f.xi (fun q => by have := q.1; omega)]
    have n1 := E.1
    have ex : ∀ h' {v : Int32}, FrW (dI (x + 3)) (dL (x + 3)) h2 h' → (v.toInt = 1 ∨ v.toInt = -1) → S_X5_extreme (lX X) (dtX X) 0 0 [.ref sh, .int v] h' (QI fun y h'' => (∃ e : Nat, y.toInt = e ∧ e < n ∧ ∀ e', e' < n → (v.toInt = 1 → gf h2 (sh + 2) e' * gf h2 (sh + 3) e ≤ gf h2 (sh + 2) e * gf h2 (sh + 3) e') ∧ (v.toInt = -1 → gf h2 (sh + 2) e * gf h2 (sh + 3) e' ≤ gf h2 (sh + 2) e' * gf h2 (sh + 3) e)) ∧ h'' = h') := fun h' v f hv => by
      refine (cl_extreme (sT5 h' f) (n := n) (by rw [show sh = sh + 0 from rfl, gg h' f 0 0 (by omega)]; exact g0) n0 n1 (fun e he => by rw [gg h' f 2 e (by omega), gg h' f 3 e (by omega)]; exact bd e he) hv).mono (fun r h'' hp => ?_)
      obtain ⟨y, rfl, ⟨e, e1, e2, e3⟩, e4⟩ := hp
      refine ⟨y, rfl, ⟨e, e1, e2, fun e' he' => ?_⟩, e4⟩
      have := e3 e' he'
      rw [gg h' f 2 e (by omega), gg h' f 3 e (by omega), gg h' f 2 e' (by omega), gg h' f 3 e' (by omega)] at this
      exact this
    have up : ∀ h' {k : Int32} {e : Nat}, FrW (dI (x + 3)) (dL (x + 3)) h2 h' → k.toInt = e → e < n → (Int32.toInt64 (sUp h' sh k)).toInt = gf h2 (sh + 2) e ∧ (Int32.toInt64 (sLo h' sh k)).toInt = gf h2 (sh + 3) e := fun h' k e f ek he => by
      rw [i2l_t, i2l_t, ← gg h' f 2 e (by omega), ← gg h' f 3 e (by omega)]
      unfold sUp sLo gf
      rw [if_pos (by omega), if_pos (by omega), ix_of ek]; exact ⟨rfl, rfl⟩
    refine ⟨S2.1, (ex _ (v := -1) ft (Or.inr rfl)).mono (fun r h8 hp => ?_)⟩
    obtain ⟨y1, rfl, ⟨a, a1, a2, a3⟩, e8⟩ := hp
    have f8 : FrW (dI (x + 3)) (dL (x + 3)) h2 h8 := by rw [e8]; exact ft
    have w8 : TdC h8 (x + 3) [] := by rw [e8]; exact TdC.clr
    refine ⟨y1, rfl, sT9 h8 f8, sT5 h8 f8, (cl_add (St9_s1 (sT9 h8 f8)) w8 (by decide) (up h8 f8 a1 a2).1).mono (fun r h12 hp => ?_)⟩
    obtain ⟨rfl, w12, g12⟩ := hp
    have f12 := f8.tr g12
    refine ⟨rfl, sT9 h12 f12, sT5 h12 f12, (cl_add (St9_s1 (sT9 h12 f12)) w12 (by simp) (up h12 f12 a1 a2).2).mono (fun r h15 hp => ?_)⟩
    obtain ⟨rfl, w15, g15⟩ := hp
    have f15 := f12.tr g15
    refine ⟨rfl, sT5 h15 f15, (ex _ (v := 1) f15 (Or.inl rfl)).mono (fun r h17 hp => ?_)⟩
    obtain ⟨y2, rfl, ⟨b, b1, b2, b3⟩, e17⟩ := hp
    rw [e17]
    refine ⟨y2, rfl, sT9 h15 f15, sT5 h15 f15, (cl_add (St9_s1 (sT9 h15 f15)) w15 (by simp) (up h15 f15 b1 b2).1).mono (fun r h21 hp => ?_)⟩
    obtain ⟨rfl, w21, g21⟩ := hp
    have f21 := f15.tr g21
    refine ⟨rfl, sT9 h21 f21, sT5 h21 f21, (cl_add (St9_s1 (sT9 h21 f21)) w21 (by simp) (up h21 f21 b1 b2).2).mono (fun r h24 hp => ?_)⟩
    obtain ⟨rfl, w24, g24⟩ := hp
    have f24 := f21.tr g24
    have RS : RtS (sA s) ((n : Int), (gf h2 (sh + 2) a, gf h2 (sh + 3) a), (gf h2 (sh + 2) b, gf h2 (sh + 3) b)) := ⟨n, _, RE, rfl, ⟨⟨a, a2, rfl⟩, fun e he => (a3 e he).2 rfl⟩, ⟨b, b2, rfl⟩, fun e he => (b3 e he).1 rfl⟩
    have eq := rtQ_eq V RS
    have er : rtRow (sA s) = [] ++ [gf h2 (sh + 2) a] ++ [gf h2 (sh + 3) a] ++ [gf h2 (sh + 2) b] ++ [gf h2 (sh + 3) b] := by unfold rtRow; rw [eq]; rfl
    rw [er, eq]
    obtain ⟨S24, p24, x24⟩ := S2.row f24 w24
    refine ⟨rfl, sT5 h24 f24, _, rfl, ?_, S24, x2.tr x24⟩
    have := gg h24 f24 0 0 (by omega)
    exact this.trans g0
  · have hg : sA s 0 4 < 2 := by
      apply Classical.byContradiction
      intro z
      obtain ⟨e, he, -⟩ := E.2.2 1 (by
        refine ⟨by decide, ?_, ?_, by decide, fun z => absurd z (by decide)⟩
        · have : tA 1 = 0 := by decide
          omega
        · have : tB 1 = 1 := by decide
          omega)
      omega
    rw [if_pos hg]; exact ⟨rfl, S2, x2⟩))
end CRt
