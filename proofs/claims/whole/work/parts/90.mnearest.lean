-- nearest() and lead() of the reference
def vV (pr u l : Int) : Int × Int := if pr = 0 then (u, l) else (pr * l, u)
theorem tV_v (pr : Int) (te : Nat → Int) (t : Nat) : tV pr te t = vV pr (tU te t) (tL te t) := rfl
def rdV (v : Int × Int) : Int × Int := (rdU v.1 v.2, rdL v.1 v.2)
theorem rdV_g {v : Int × Int} (h : 0 < v.2) : ∃ g : Int, 0 < g ∧ v = (g * (rdV v).1, g * (rdV v).2) := by
  obtain ⟨r1, r2⟩ := rd_mul (u := v.1) h
  have gp := gcd_pos' (u := v.1) h
  refine ⟨(Int.gcd v.1 v.2 : Int), by omega, ?_⟩
  show v = ((Int.gcd v.1 v.2 : Int) * rdU v.1 v.2, (Int.gcd v.1 v.2 : Int) * rdL v.1 v.2)
  rw [r1, r2]
theorem rdV_nr {p q : Int} {b c : Int × Int} (hb : 0 < b.2) (hc : 0 < c.2) : nrB p q (rdV b) (rdV c) ↔ nrB p q b c := by
  obtain ⟨g, g0, eb⟩ := rdV_g hb
  obtain ⟨k, k0, ec⟩ := rdV_g hc
  have := nrB_sc (p := p) (q := q) g0 k0 (b := rdV b) (c := rdV c)
  rw [← eb, ← ec] at this
  exact this.symm
/-- what numbers are asked for -/
def nrAsk (pr p q : Int) : Prop := (0 ≤ pr ∧ pr ≤ 12000) ∧ (1 ≤ p ∧ p ≤ 20000) ∧ (1 ≤ q ∧ q ≤ 400) ∧ (pr = 0 ∨ q = 1)
theorem tV_b {A : HV} (V : VA A) {pr p q : Int} (ask : nrAsk pr p q) {t : Nat} (ok : tAll (gN A) t) : 0 < (tV pr (A 3) t).1 ∧ (tV pr (A 3) t).1 ≤ 120000000 ∧ 0 < (tV pr (A 3) t).2 ∧ (tV pr (A 3) t).2 ≤ 10000 ∧ nrOk p q (rdV (tV pr (A 3) t)) ∧ nrOk p q (tV pr (A 3) t) := by
  obtain ⟨⟨a1, a2⟩, ⟨b1, b2⟩, ⟨c1, c2⟩, d⟩ := ask
  have ub := tU_b V.teo ok
  have hv : 0 < (tV pr (A 3) t).1 ∧ (tV pr (A 3) t).1 ≤ 120000000 ∧ 0 < (tV pr (A 3) t).2 ∧ (tV pr (A 3) t).2 ≤ 10000 ∧ (tV pr (A 3) t).1 * q ≤ 120000000 := by
    unfold tV
    by_cases z : pr = 0
    · rw [if_pos z]
      dsimp only
      have := mul_bd (a := tU (A 3) t) (b := q) (M := 10000) (K := 400) (by omega) (by omega) (by omega) (by omega)
      omega
    · rw [if_neg z]
      dsimp only
      have m1 := mul_bd (a := pr) (b := tL (A 3) t) (M := 12000) (K := 10000) (by omega) a2 (by omega) (by omega)
      have m2 : 0 < pr * tL (A 3) t := Int.mul_pos (by omega) (by omega)
      have eq : q = 1 := by omega
      rw [eq, Int.mul_one]
      omega
  obtain ⟨v1, v2, v3, v4, v5⟩ := hv
  generalize tV pr (A 3) t = v at *
  have gen : ∀ w : Int × Int, 0 ≤ w.1 → w.1 ≤ v.1 → 0 < w.2 → w.2 ≤ v.2 → nrOk p q w := by
    intro w w0 w1 w2 w3
    have m1 := mul_bd (a := p) (b := w.2) (M := 20000) (K := 10000) (by omega) (by omega) (by omega) (by omega)
    have m2 : w.1 * q ≤ v.1 * q := Int.mul_le_mul_of_nonneg_right w1 (by omega)
    have m3 : 0 ≤ w.1 * q := Int.mul_nonneg w0 (by omega)
    have m4 := mul_bd (a := w.2) (b := q) (M := 10000) (K := 400) (by omega) (by omega) (by omega) (by omega)
    unfold nrOk farN
    omega
  refine ⟨v1, v2, v3, v4, gen _ (rdU_nn (by omega) v3) (rdU_le (by omega)) (rdL_pos v3) (rdL_le v3), gen v (by omega) (Int.le_refl _) v3 (Int.le_refl _)⟩
def NrI (A : HV) (pr p q : Int) (h : Hp) (m c : Nat) : Prop := (NRm h m p q none ∧ ∀ t, t < c → ¬ tAll (gN A) t) ∨ ∃ tb, tb < c ∧ tAll (gN A) tb ∧ FdH h m tb ∧ NRm h m p q (some (rdV (tV pr (A 3) tb))) ∧ (∀ t, t < c → tAll (gN A) t → ¬ nrB p q (tV pr (A 3) tb) (tV pr (A 3) t)) ∧ ∀ t, t < tb → tAll (gN A) t → nrB p q (tV pr (A 3) t) (tV pr (A 3) tb)
abbrev FrR (m : Nat) (h h' : Hp) : Prop := FrW (ftI m) (nL m) h h'
section NrM
variable {X : Ctx} {l : Launch} {D : Dt} {h : Hp} {m : Nat} {Q : Pq} {A : HV} {s : Sv}
theorem FrT.r {h' : Hp} (f : FrT m h h') : FrR m h h' := f.mono (fun b j q => q) (fun _ _ q => absurd q id)
theorem FrR.md {h' : Hp} (H : MdR h m A) (V : VA A) (f : FrR m h h') : MdR h' m A := H.fr V f (fun j _ q => by unfold ftI at q; omega) (fun j _ q => by unfold nL at q; omega)
theorem FrR.ms {h' : Hp} (S : MSt h m s) (f : FrR m h h') : MSt h' m s ∧ FrO (inM m) h h' :=
  ⟨S.fr f (fun j _ q => by unfold ftI at q; omega) (fun q => by unfold ftI at q; omega) (fun j q => by unfold ftI at q; omega) (fun j _ q => by unfold nL at q; omega) (fun q => by unfold ftI at q; omega) (fun j q => by unfold nL at q; omega) (fun q => by unfold ftI at q; omega) (fun j q => by unfold ftI at q; omega), f.toM (fun b j q => by unfold ftI at q; unfold inM; omega) (fun b j q => by unfold nL at q; unfold inM; omega)⟩
theorem NRm.same {h' : Hp} {p q : Int} {b : Option (Int × Int)} (N : NRm h m p q b) (e : ∀ j, 23 ≤ j → j ≤ 26 → gl h' m j = gl h m j) : NRm h' m p q b := by
  cases b with
  | none => show (gl h' m 24).toInt = 0; rw [e 24 (by omega) (by omega)]; exact N
  | some b =>
    obtain ⟨n1, n2, n3, n4, n5⟩ := N
    exact ⟨by rw [e 23 (by omega) (by omega)]; exact n1, by rw [e 24 (by omega) (by omega)]; exact n2, n3, by rw [e 25 (by omega) (by omega)]; exact n4, by rw [e 26 (by omega) (by omega)]; exact n5⟩
theorem fn_20 (C : C_X10_findsNearest X) (H : MdR h m A) (V : VA A) (hg : 2 ≤ gN A) {p q pr : Int64} (ask : nrAsk pr.toInt p.toInt q.toInt)
    (hq : ∀ h' : Hp, FrR m h h' → (∃ t, nearQ A pr.toInt p.toInt q.toInt = some t ∧ tAll (gN A) t ∧ FdH h' m t ∧ NRm h' m p.toInt q.toInt (some (rdV (tV pr.toInt (A 3) t)))) → Q (some (.int 1)) h') (d : Nat) : ∀ (h' : Hp) (c : Nat), 20881 ≤ c + d → FrR m h h' → NTs h' m (gN A) c → NrI A pr.toInt p.toInt q.toInt h' m c → Wj X 0 0 Q 20 [(0, .ref m), (1, .long p), (3, .long q), (5, .long pr)] [] h' := by
  have vg := V.gn
  obtain ⟨⟨a1, a2⟩, ⟨b1, b2⟩, ⟨c1, c2⟩, d0⟩ := id ask
  induction d with
  | zero =>
    intro h' c hc f N I
    exfalso
    rcases N with ⟨-, z⟩ | ⟨t, z, -, t2⟩
    · omega
    · have := t2.1; omega
  | succ d ih =>
    intro h' c hc f N I
    have H' := FrR.md H V f
    refine V_X10_findsNearest_20 C ⟨H'.1, (ma_nextTrain H' V hg N).mono (fun v h2 hp => ?_)⟩
    obtain ⟨y, rfl, hy, f2⟩ := hp
    have f02 := f.tr f2.t.r
    have H2 := FrR.md H V f02
    have k2 : ∀ j, gl h2 m j = gl h' m j := fun j => f2.xl id
    have kf : ∀ tb, FdH h' m tb → FdH h2 m tb := fun tb F => ⟨by rw [f2.xi (by omega)]; exact F.1, fun j hj => by rw [f2.xi (by omega)]; exact F.2 j hj⟩
    rcases hy with ⟨rfl, no⟩ | ⟨rfl, t, ct, t2, lt, T⟩
    · refine ⟨0, rfl, fun _ => hq h2 f02 ?_, fun z => absurd rfl z⟩
      rcases I with ⟨-, none⟩ | ⟨tb, tb1, tb2, F, Nr, best, first⟩
      · exfalso
        obtain ⟨e1, e2, e3⟩ := tM2_d (a := 0) (b := 1) (by omega) (by omega)
        have ok : tAll (gN A) (12 * 0 + 1) := ⟨by omega, by omega, by omega, by omega, fun z => by omega⟩
        rcases Nat.lt_or_ge (12 * 0 + 1) c with z | z
        · exact none _ z ok
        · exact no _ z ok
      · have bestA : ∀ t, tAll (gN A) t → ¬ nrB p.toInt q.toInt (tV pr.toInt (A 3) tb) (tV pr.toInt (A 3) t) := by
          intro t ht
          rcases Nat.lt_or_ge t c with z | z
          · exact best t z ht
          · exact absurd ht (no t z)
        have ok := least_ok vg.1 (te := A 3) (P := fun u l => ∀ t, tAll (gN A) t → ¬ nrB p.toInt q.toInt (vV pr.toInt u l) (tV pr.toInt (A 3) t)) tb2 bestA (fun t' h1 h3 h4 => h4 tb tb2 (first t' h1 h3))
        exact ⟨tb, lsQ_is ⟨ok, fun t' h' => bestA t' (tOk_all h')⟩ (fun t' h1 h3 => h3.2 tb ok (first t' h1 (tOk_all h3.1))), tb2, kf tb F, Nr.same (fun j _ _ => k2 j)⟩
    · obtain ⟨eu, el, i0, i2, i1, i3⟩ := T.up H2 V t2
      have ub := tU_b V.teo t2
      obtain ⟨v1, v2, v3, v4, okr, okv⟩ := tV_b V ask t2
      have tlt := t2.1
      -- the numbers of the train
      have p68 : ∀ v7 s0 : Int64, v7.toInt = (tV pr.toInt (A 3) t).1 → s0.toInt = (tV pr.toInt (A 3) t).2 → Wj X 0 0 Q 68 [(0, .ref m), (1, .long p), (3, .long q), (5, .long pr), (7, .long v7)] [.long s0] h2 := by
        intro v7 s0 e7 es
        have sp : 0 < s0.toInt := by omega
        obtain ⟨r1, r2⟩ := fr_x (u := v7) (w := s0) sp
        have cz := cm_tp (u := v7) (w := s0) sp
        rw [e7, es] at r1 r2
        have ec : ((v7 / cm v7 s0).toInt, (s0 / cm v7 s0).toInt) = rdV (tV pr.toInt (A 3) t) := by rw [r1, r2]; rfl
        have fin : ∀ (b : Option (Int × Int)), NRm h2 m p.toInt q.toInt b → (∀ b', b = some b' → nrOk p.toInt q.toInt b') → (∀ h5 : Hp, FrW (fun _ _ => False) (nL m) h2 h5 → NRm h5 m p.toInt q.toInt (some (nrO p.toInt q.toInt b (rdV (tV pr.toInt (A 3) t)))) → (¬ nrT p.toInt q.toInt b (rdV (tV pr.toInt (A 3) t)) → NrI A pr.toInt p.toInt q.toInt h5 m (t + 1)) ∧ (nrT p.toInt q.toInt b (rdV (tV pr.toInt (A 3) t)) → ∀ h8 : Hp, FdH h8 m t → NRm h8 m p.toInt q.toInt (some (nrO p.toInt q.toInt b (rdV (tV pr.toInt (A 3) t)))) → NrI A pr.toInt p.toInt q.toInt h8 m (t + 1))) → Wj X 0 0 Q 68 [(0, .ref m), (1, .long p), (3, .long q), (5, .long pr), (7, .long v7)] [.long s0] h2 := by
          intro b Nb Ob K
          refine V_X10_findsNearest_68 C ⟨by omega, sp, by rw [i64_eq, l0_t]; omega, H2.1, (ma_isNearer H2.1 (u := v7 / cm v7 s0) (w := s0 / cm v7 s0) (p := p) (q := q) (b := b) (by omega) (by omega) (by omega) Nb Ob (by rw [ec]; exact okr)).mono (fun w h5 hp => ?_)⟩
          obtain ⟨x6, rfl, hx, N5, f5⟩ := hp
          rw [ec] at hx N5
          obtain ⟨K1, K2⟩ := K h5 f5 N5
          have f05 : FrR m h h5 := f02.tr (f5.mono (fun _ _ q => absurd q id) (fun _ _ q => q))
          have T5 : TrH h5 m t := ⟨by rw [f5.xi id]; exact T.1, fun j hj => by rw [f5.xi id]; exact T.2 j hj⟩
          refine ⟨x6, rfl, fun z => ih h5 (t + 1) (by omega) f05 (Or.inr ⟨t, rfl, T5, t2⟩) (K1 (hx.mp z)), fun z => ⟨f5.st10 H2.1, (ma_finds (f5.st10 H2.1) T5).mono (fun w h8 hp => ?_)⟩⟩
          obtain ⟨rfl, F8, f8⟩ := hp
          have f08 : FrR m h h8 := f05.tr (f8.mono (fun b j q => by unfold fdI' at q; unfold ftI; omega) (fun _ _ q => absurd q id))
          have T8 : TrH h8 m t := ⟨by rw [f8.xi (fun q => by unfold fdI' at q; omega)]; exact T5.1, fun j hj => by rw [f8.xi (fun q => by unfold fdI' at q; omega)]; exact T5.2 j hj⟩
          exact ⟨rfl, ih h8 (t + 1) (by omega) f08 (Or.inr ⟨t, rfl, T8, t2⟩) (K2 (Classical.not_not.mp (fun y => z (hx.mpr y))) h8 F8 (N5.same (fun j _ _ => f8.xl id)))⟩
        rcases I with ⟨Nn, none⟩ | ⟨tb, tb1, tb2, F, Nr, best, first⟩
        · refine fin Option.none (Nn.same (fun j _ _ => k2 j)) (fun b' e => by cases e) (fun h5 f5 N5 => ⟨fun z => absurd trivial z, fun _ h8 F8 N8 => Or.inr ⟨t, by omega, t2, F8, N8, fun t' h1 h3 => ?_, fun t' h1 h3 => ?_⟩⟩)
          · rcases Nat.lt_trichotomy t' t with y | y | y
            · exfalso
              rcases Nat.lt_or_ge t' c with w | w
              · exact none t' w h3
              · exact lt t' w y h3
            · rw [y]; exact fun z => nrB_tot z z
            · omega
          · exfalso
            rcases Nat.lt_or_ge t' c with w | w
            · exact none t' w h3
            · exact lt t' w h1 h3
        · obtain ⟨w1, w2, w3, w4, okb, -⟩ := tV_b V ask tb2
          have cmp := rdV_nr (p := p.toInt) (q := q.toInt) (b := tV pr.toInt (A 3) tb) (c := tV pr.toInt (A 3) t) w3 v3
          have seen : ∀ t', t' < t → tAll (gN A) t' → t' < c := by
            intro t' h1 h3
            rcases Nat.lt_or_ge t' c with w | w
            · exact w
            · exact absurd h3 (lt t' w h1)
          refine fin (some (rdV (tV pr.toInt (A 3) tb))) (Nr.same (fun j _ _ => k2 j)) (fun b' e => by cases e; exact okb) (fun h5 f5 N5 => ⟨fun z => ?_, fun z h8 F8 N8 => ?_⟩)
          · have z' : ¬ nrB p.toInt q.toInt (tV pr.toInt (A 3) tb) (tV pr.toInt (A 3) t) := fun y => z (cmp.mpr y)
            have eO : nrO p.toInt q.toInt (some (rdV (tV pr.toInt (A 3) tb))) (rdV (tV pr.toInt (A 3) t)) = rdV (tV pr.toInt (A 3) tb) := if_neg z
            rw [eO] at N5
            have F5 : FdH h5 m tb := ⟨by rw [f5.xi id]; exact (kf tb F).1, fun j hj => by rw [f5.xi id]; exact (kf tb F).2 j hj⟩
            refine Or.inr ⟨tb, by omega, tb2, F5, N5, fun t' h1 h3 => ?_, first⟩
            rcases Nat.lt_trichotomy t' t with y | y | y
            · exact best t' (seen t' y h3) h3
            · rw [y]; exact z'
            · omega
          · have z' : nrB p.toInt q.toInt (tV pr.toInt (A 3) tb) (tV pr.toInt (A 3) t) := cmp.mp z
            have eO : nrO p.toInt q.toInt (some (rdV (tV pr.toInt (A 3) tb))) (rdV (tV pr.toInt (A 3) t)) = rdV (tV pr.toInt (A 3) t) := if_pos z
            rw [eO] at N8
            have better : ∀ t', t' < t → tAll (gN A) t' → nrB p.toInt q.toInt (tV pr.toInt (A 3) t') (tV pr.toInt (A 3) t) := by
              intro t' h1 h3
              obtain ⟨x1, x2, x3, x4, -⟩ := tV_b V ask h3
              refine Classical.byContradiction (fun y => ?_)
              -- then t' would be at least as near as tb is beaten by t
              exact (nrB_tr w3 x3 v3 (best t' (seen t' h1 h3) h3) y) z'
            refine Or.inr ⟨t, by omega, t2, F8, N8, fun t' h1 h3 => ?_, better⟩
            rcases Nat.lt_trichotomy t' t with y | y | y
            · exact nrB_tot (better t' y h3)
            · rw [y]; exact fun z => nrB_tot z z
            · omega
      have mb := mul_bd (a := pr.toInt) (b := tL (A 3) t) (M := 12000) (K := 10000) (by omega) (by omega) (by omega) (by omega)
      refine ⟨1, rfl, fun z => absurd z p1_ne, fun _ => ⟨fun z => ⟨H2.1, i1, i3, V_X10_findsNearest_48 C ⟨fun _ => ⟨H2.1, i0, i2, p68 _ _ ?_ ?_⟩, fun z2 => absurd z2 z⟩⟩, fun z => ⟨H2.1, i0, i2, V_X10_findsNearest_48 C ⟨fun z2 => absurd z z2, fun _ => ⟨H2.1, i1, i3, p68 _ _ ?_ ?_⟩⟩⟩⟩⟩
      all_goals rw [i64_eq, l0_t] at z
      · unfold tV; rw [if_neg z, lmul_t] <;> rw [el] <;> omega
      · unfold tV; rw [if_neg z]; exact eu
      · unfold tV; rw [if_pos z]; exact eu
      · unfold tV; rw [if_pos z]; exact el
theorem ma_findsNearest (H : MdR h m A) (V : VA A) {p q pr : Int64} (ask : nrAsk pr.toInt p.toInt q.toInt) : S_X10_findsNearest l D 0 0 [.ref m, .long p, .long q, .long pr] h (QI fun y h' => ((y = 0 ∧ nearQ A pr.toInt p.toInt q.toInt = none) ∨ (y = 1 ∧ ∃ t, nearQ A pr.toInt p.toInt q.toInt = some t ∧ tAll (gN A) t ∧ FdH h' m t ∧ NRm h' m p.toInt q.toInt (some (rdV (tV pr.toInt (A 3) t))))) ∧ FrR m h h') := Sp.of rfl (Nat.le_of_ble_eq_true rfl) (fun X C _ _ _ _ => V_X10_findsNearest_0 C (by
  have vg := V.gn
  have e4 := H.n (i := 4) (by omega)
  have i2 : (2 : Int32).toInt = 2 := rfl
  have f1 : FrR m h (sl h m 24 0) := FrW.sl (P := ftI m) (R := nL m) FrW.rf ⟨rfl, by omega, by omega⟩
  refine ⟨H.1, fun z => ?_, fun z => ⟨0, rfl, Or.inl ⟨rfl, lsQ_no (fun t ht => ?_)⟩, f1⟩⟩
  all_goals rw [ix_4, i32_le, e4, i2] at z
  · refine fn_20 C H V (by omega) ask (fun h' f hy => ⟨1, rfl, Or.inr ⟨rfl, hy⟩, f⟩) 20881 _ 0 (by omega) (FrW.si (P := ftI m) (R := nL m) f1 (Or.inl ⟨rfl, Or.inl rfl⟩)) (Or.inl ⟨?_, rfl⟩) (Or.inl ⟨?_, fun t h1 => by omega⟩)
    · rw [gi_si, if_pos ⟨rfl, rfl⟩]; rfl
    · show (gl (si (sl h m 24 0) m 18 0) m 24).toInt = 0
      rw [gl_si, gl_sl, if_pos ⟨rfl, rfl⟩]; rfl
  · exact few (by omega) t ht.1))
theorem ma_entersNear2 (F : St10 h m) {p q : Int} {b : Int × Int} {L : List Int} (hL : L.length < 50) (hq : 0 < q) (N : NRm h m p q (some b)) (hb : 0 ≤ b.1) (w : RwM h m L) : S_X10_entersNear l D 0 0 [.ref m] h (QV fun h' => RwM h' m (L ++ [rdU b.1 b.2, rdL b.1 b.2, rdU (farN p q b) (q * b.2), rdL (farN p q b) (q * b.2)]) ∧ FrW (rI m) (rL m) h h') := Sp.of rfl (Nat.le_of_ble_eq_true rfl) (fun X C _ _ _ _ => V_X10_entersNear_0 C (by
  obtain ⟨n1, n2, n3, n4, n5⟩ := N
  refine ⟨F, (ma_entersPart F w (by omega) n1 n2 (by omega) n3).mono (fun z h2 hp => ?_)⟩
  obtain ⟨rfl, w2, f2⟩ := hp
  have bq : 0 < b.2 * q := Int.mul_pos n3 hq
  have fn := farN_nn p q b
  have u0 := rdU_nn (u := farN p q b) (w := b.2 * q) fn bq
  have l0 := rdL_pos (u := farN p q b) bq
  have g1 : (gl h2 m 25).toInt = rdU (farN p q b) (b.2 * q) := by rw [f2.xl (fun (z : m = m + 1) => by omega)]; exact n4
  have g2 : (gl h2 m 26).toInt = rdL (farN p q b) (b.2 * q) := by rw [f2.xl (fun (z : m = m + 1) => by omega)]; exact n5
  refine ⟨rfl, f2.st10 F, (ma_entersPart (f2.st10 F) w2 (by rw [List.length_append]; simp; omega) g1 g2 (by omega) l0).mono (fun z h4 hp => ?_)⟩
  obtain ⟨rfl, w4, f4⟩ := hp
  rw [(rd_again bq).1, (rd_again bq).2, Int.mul_comm b.2 q, List.append_assoc] at w4
  exact ⟨rfl, rfl, w4, f2.tr f4⟩))
/-- what is told of the nearest train -/
theorem mn_tell (S : MSt h m s) {pr p q : Int} (ask : nrAsk pr p q) {t : Nat} (e : nearQ (sA s) pr p q = some t) (t2 : tAll (gN (sA s)) t) (F : FdH h m t) (N : NRm h m p q (some (rdV (tV pr (sA s 3) t)))) {Q' : Pq} (hQ : ∀ (y : Int32) (h' : Hp), y.toInt = (tellP s pr p q).1 → MSt h' m (tellP s pr p q).2 → FrO (inM m) h h' → Q' (some (.int y)) h') : S_X10_entersFound l D 0 0 [.ref m] (si h m 1 0) (QV fun h5 => St10 h5 m ∧ S_X10_entersNear l D 0 0 [.ref m] h5 (QV fun h7 => St10 h7 m ∧ Q' (some (.int (gi h7 m 20))) h7)) := by
  obtain ⟨v1, v2, v3, v4, -⟩ := tV_b S.1.va ask t2
  have q0 := ask.2.2.1
  have ft : FrW (rI m) (rL m) h (si h m 1 0) := FrW.si (P := rI m) (R := rL m) FrW.rf ⟨rfl, rfl⟩
  have F2 : FdH (si h m 1 0) m t := ⟨by rw [gi_si, if_neg (by omega)]; exact F.1, fun j hj => by rw [gi_si, if_neg (by omega)]; exact F.2 j hj⟩
  refine (ma_entersFound (ft.st10 S.1.1) F2 (RwM.clr 0 rfl)).mono (fun w h5 hp => ?_)
  obtain ⟨rfl, w5, f5⟩ := hp
  have f25 := ft.tr f5
  have tn := tN_24 t
  have N5 : NRm h5 m p q (some (rdV (tV pr (sA s 3) t))) := N.same (fun j _ _ => f25.xl (fun (z : m = m + 1) => by omega))
  refine ⟨rfl, f25.st10 S.1.1, (ma_entersNear2 (f25.st10 S.1.1) (by unfold tWl; rw [List.length_map, List.length_range]; omega) (by omega) N5 (rdU_nn (by omega) v3) w5).mono (fun w h7 hp => ?_)⟩
  obtain ⟨rfl, w7, f7⟩ := hp
  have f27 := f25.tr f7
  have rf := rd_far (p := p) (q := q) (by omega) (c := tV pr (sA s 3) t) v3
  have ra := rd_again (u := (tV pr (sA s 3) t).1) (w := (tV pr (sA s 3) t).2) v3
  have w8 : RwM h7 m (tWl t ++ [rdU (tV pr (sA s 3) t).1 (tV pr (sA s 3) t).2, rdL (tV pr (sA s 3) t).1 (tV pr (sA s 3) t).2, rdU (farN p q (tV pr (sA s 3) t)) (q * (tV pr (sA s 3) t).2), rdL (farN p q (tV pr (sA s 3) t)) (q * (tV pr (sA s 3) t).2)]) := by
    rw [← rf.1, ← rf.2]
    have := w7
    unfold rdV at this
    dsimp only at this
    rw [ra.1, ra.2] at this
    exact this
  obtain ⟨S7, g7⟩ := S.row f27 w8
  refine ⟨rfl, S7.1.1, hQ _ _ ?_ ?_ g7⟩
  · unfold tellP; rw [e]
    show (gi h7 m 20).toInt = tN t
    rw [f27.xi (fun q => by have := q.2; omega)]; exact F.1
  · unfold tellP; rw [e]; exact S7
theorem ma_nearest (S : MSt h m s) {p q : Int32} : S_X10_nearest l D 0 0 [.ref m, .int p, .int q] h (QI fun y h' => y.toInt = (nearestP s p.toInt q.toInt).1 ∧ MSt h' m (nearestP s p.toInt q.toInt).2 ∧ FrO (inM m) h h') := Sp.of rfl (Nat.le_of_ble_eq_true rfl) (fun X C _ _ _ _ => V_X10_nearest_0 C (by
  obtain ⟨S1, f1⟩ := S.t0
  have V := S.1.va
  unfold nearestP
  refine ⟨S.1.1, fun z => ?_, fun z => ⟨_, rfl, ?_⟩⟩
  all_goals rw [iRt_0] at z
  · have hz := Classical.not_not.mp z
    rw [if_pos hz]
    have ask : nrAsk 0 p.toInt q.toInt := ⟨by omega, by omega, by omega, Or.inl rfl⟩
    have l0 : (0 : Int64).toInt = 0 := rfl
    refine (ma_findsNearest S1.1.md V (p := p.toInt64) (q := q.toInt64) (pr := 0) (by rw [i2l_t, i2l_t, l0]; exact ask)).mono (fun w h2 hp => ?_)
    obtain ⟨y, rfl, hy, f2⟩ := hp
    rw [i2l_t, i2l_t, l0] at hy
    obtain ⟨S2, g2⟩ := FrR.ms S1 f2
    rcases hy with ⟨rfl, e⟩ | ⟨rfl, t, e, t2, T, N⟩
    · unfold tellP
      rw [e]
      exact ⟨0, rfl, fun q => absurd rfl q, fun _ => ⟨_, rfl, rfl, S2, f1.tr g2⟩⟩
    · exact ⟨1, rfl, fun _ => ⟨S2.1.1, mn_tell S2 ask e t2 T N (fun y h' e1 S' f' => ⟨y, rfl, e1, S', (f1.tr g2).tr f'⟩)⟩, fun q => absurd q p1_ne⟩
  · rw [if_neg z]; exact ⟨rfl, S1, f1⟩))
theorem l20k_t : (20000 : Int64).toInt = 20000 := rfl
theorem ma_lead (S : MSt h m s) {v : Int32} : S_X10_lead l D 0 0 [.ref m, .int v] h (QI fun y h' => y.toInt = (leadP s v.toInt).1 ∧ MSt h' m (leadP s v.toInt).2 ∧ FrO (inM m) h h') := Sp.of rfl (Nat.le_of_ble_eq_true rfl) (fun X C _ _ _ _ => V_X10_lead_0 C (by
  obtain ⟨S1, f1⟩ := S.t0
  have V := S.1.va
  unfold leadP
  refine ⟨S.1.1, fun z => ?_, fun z => ⟨_, rfl, ?_⟩⟩
  all_goals rw [btL_0, i2l_t, l1_t, l20k_t] at z
  · have hz : 1 ≤ v.toInt ∧ v.toInt ≤ 20000 := by omega
    rw [if_pos hz]
    have w := V.worm
    have pt := V.2.1
    have mb := mul_bd (a := sA s 0 0) (b := sA s 0 1) (M := 120) (K := 100) (by omega) (by omega) (by omega) (by omega)
    have ask : nrAsk (sA s 0 0 * sA s 0 1) v.toInt 1 := ⟨by omega, by omega, by omega, Or.inr rfl⟩
    have e0 : (gi (si h m 0 0) (m + 3) (ix 0)).toInt = sA s 0 0 := by rw [ix_0]; exact S1.1.md.n (by omega)
    have e1 : (gi (si h m 0 0) (m + 3) (ix 1)).toInt = sA s 0 1 := by rw [ix_1]; exact S1.1.md.n (by omega)
    have ep : ((gi (si h m 0 0) (m + 3) (ix 0)).toInt64 * (gi (si h m 0 0) (m + 3) (ix 1)).toInt64).toInt = sA s 0 0 * sA s 0 1 := by rw [lmul_t] <;> rw [i2l_t, i2l_t, e0, e1] <;> omega
    generalize (gi (si h m 0 0) (m + 3) (ix 0)).toInt64 * (gi (si h m 0 0) (m + 3) (ix 1)).toInt64 = pr at *
    refine (ma_findsNearest S1.1.md V (p := v.toInt64) (q := 1) (pr := pr) (by rw [i2l_t, ep, l1_t]; exact ask)).mono (fun w h2 hp => ?_)
    obtain ⟨y, rfl, hy, f2⟩ := hp
    rw [i2l_t, ep, l1_t] at hy
    obtain ⟨S2, g2⟩ := FrR.ms S1 f2
    rcases hy with ⟨rfl, e⟩ | ⟨rfl, t, e, t2, T, N⟩
    · unfold tellP
      rw [e]
      exact ⟨0, rfl, fun q => absurd rfl q, fun _ => ⟨_, rfl, rfl, S2, f1.tr g2⟩⟩
    · exact ⟨1, rfl, fun _ => ⟨S2.1.1, mn_tell S2 ask e t2 T N (fun y h' e1 S' f' => ⟨y, rfl, e1, S', (f1.tr g2).tr f'⟩)⟩, fun q => absurd q p1_ne⟩
  · rw [if_neg (by omega)]; exact ⟨rfl, S1, f1⟩))
end NrM
