-- ratios() of the reference
def tAllB (t : Nat) : Bool := Nat.blt t 20880 && (match Nat.blt t 144 with
  | true => !(Nat.beq (t / 12) (t % 12))
  | false => !(Nat.beq ((t - 144) / 1728) ((t - 144) / 144 % 12)) && (!(Nat.beq ((t - 144) / 12 % 12) ((t - 144) / 1728)) && (!(Nat.beq ((t - 144) / 12 % 12) ((t - 144) / 144 % 12)) && (!(Nat.beq ((t - 144) % 12) ((t - 144) / 1728)) && (!(Nat.beq ((t - 144) % 12) ((t - 144) / 144 % 12)) && !(Nat.beq ((t - 144) % 12) ((t - 144) / 12 % 12)))))))
theorem tAllB_of {g t : Nat} (h : tAll g t) : tAllB t = true := by
  obtain ⟨h1, h2, h3, h4, h5⟩ := h
  unfold tAllB
  rw [blt_t h1]
  by_cases q : t < 144
  · rw [blt_t q]
    unfold tA tB at h4
    rw [if_pos q, if_pos q] at h4
    rw [beq_f h4]; rfl
  · rw [blt_f q]
    obtain ⟨a1, a2, a3, a4, a5, a6, a7⟩ := h5 (by omega)
    unfold tA at h4 a3 a5
    unfold tB at h4 a4 a6
    rw [if_neg q] at h4 a3 a4 a5 a6
    rw [if_neg q] at h4
    unfold tC at a3 a4 a7
    unfold tD at a5 a6 a7
    rw [beq_f h4, beq_f a3, beq_f a4, beq_f a5, beq_f a6, beq_f a7]; rfl
theorem tAll_many : cR tAllB 15 0 ≤ 12099 := by decide +kernel
theorem tAll_cnt : cT tAllB 20880 ≤ 12099 := by
  have h1 := cT_cR tAllB 15 0
  have h2 := tAll_many
  have h3 := cT_mono tAllB (a := 20880) (b := 0 + 2 ^ 15) (by decide)
  have h4 : cT tAllB 0 = 0 := rfl
  omega
/-- a ratio as one number -/
def rv (A : HV) (t : Nat) : Int := (rp A t).1 * 1000000 + (rp A t).2
theorem rp_b {A : HV} (V : VA A) {t : Nat} (h : tAll (gN A) t) : (0 < (rp A t).1 ∧ (rp A t).1 ≤ 10000) ∧ 0 < (rp A t).2 ∧ (rp A t).2 ≤ 10000 := by
  have b := tU_b V.teo h
  have u0 := rdU_pos (u := tU (A 3) t) (w := tL (A 3) t) b.1.1 b.2.1
  have u1 := rdU_le (u := tU (A 3) t) (w := tL (A 3) t) (by omega)
  have l0 := rdL_pos (u := tU (A 3) t) (w := tL (A 3) t) b.2.1
  have l1 := rdL_le (u := tU (A 3) t) (w := tL (A 3) t) b.2.1
  unfold rp
  dsimp only
  omega
def pu (x : Int) : Int := x / 1000000
def pl (x : Int) : Int := x % 1000000
theorem pul {x y : Int} (h1 : pu x = pu y) (h2 : pl x = pl y) : x = y := by unfold pu at h1; unfold pl at h2; omega
theorem rv_d {A : HV} (V : VA A) {t : Nat} (h : tAll (gN A) t) : pu (rv A t) = (rp A t).1 ∧ pl (rv A t) = (rp A t).2 := by
  have b := rp_b V h
  unfold pu pl rv
  generalize (rp A t).1 = a at *
  generalize (rp A t).2 = c at *
  omega
def lef (x y : Int) : Prop := pu x * pl y ≤ pu y * pl x
section MRt
variable {X : Ctx} {l : Launch} {D : Dt} {h : Hp} {m : Nat} {Q : Pq} {A : HV} {s : Sv}
theorem ma_isLess {a b : Int64} (a0 : 0 ≤ a.toInt) (a1 : a.toInt ≤ 20000000000) (b0 : 0 ≤ b.toInt) (b1 : b.toInt ≤ 20000000000) : S_X10_isLess l D 0 0 [.long a, .long b] h (QI fun y h' => (y = 0 ↔ lef b.toInt a.toInt) ∧ h' = h) := Sp.of rfl (Nat.le_of_ble_eq_true rfl) (fun X C _ _ _ _ => V_X10_isLess_0 C (by
  obtain ⟨K, hK, eK⟩ := hide64 1000000
  have eK : K.toInt = 1000000 := eK.trans rfl
  rw [← hK]
  clear hK
  have d1 : (a / K).toInt = pu a.toInt := by rw [ldiv_p a0 (by omega), eK]; rfl
  have d2 : (b / K).toInt = pu b.toInt := by rw [ldiv_p b0 (by omega), eK]; rfl
  have r1 : (a % K).toInt = pl a.toInt := by rw [lrem_p a0, eK]; rfl
  have r2 : (b % K).toInt = pl b.toInt := by rw [lrem_p b0, eK]; rfl
  have q1 : 0 ≤ pu a.toInt ∧ pu a.toInt ≤ 20000 := by unfold pu; omega
  have q2 : 0 ≤ pu b.toInt ∧ pu b.toInt ≤ 20000 := by unfold pu; omega
  have q3 : 0 ≤ pl a.toInt ∧ pl a.toInt ≤ 1000000 := by unfold pl; omega
  have q4 : 0 ≤ pl b.toInt ∧ pl b.toInt ≤ 1000000 := by unfold pl; omega
  have m1 := mul_bd (a := pu b.toInt) (b := pl a.toInt) q2.1 q2.2 q3.1 q3.2
  have m2 := mul_bd (a := pu a.toInt) (b := pl b.toInt) q1.1 q1.2 q4.1 q4.2
  have t1 : (b / K * (a % K)).toInt = pu b.toInt * pl a.toInt := by rw [lmul_t] <;> rw [d2, r1] <;> omega
  have t2 : (a / K * (b % K)).toInt = pu a.toInt * pl b.toInt := by rw [lmul_t] <;> rw [d1, r2] <;> omega
  refine ⟨fun q => ⟨0, rfl, ⟨fun _ => ?_, fun _ => rfl⟩, rfl⟩, fun q => ⟨1, rfl, ⟨fun z => absurd z (by decide), fun z => ?_⟩, rfl⟩⟩
  · rw [i64_le, t1, t2] at q; exact q
  · rw [i64_le, t1, t2] at q; exact absurd z q))
abbrev FrQ (m : Nat) (h h' : Hp) : Prop := FrW (fun b j => b = m ∧ (j = 18 ∨ j = 28) ∨ b = m + 7) (fun b _ => b = m + 9) h h'
theorem FrQ.md {h' : Hp} (H : MdR h m A) (V : VA A) (f : FrQ m h h') : MdR h' m A := H.fr V f (fun j _ q => by omega) (fun j _ (q : m + 4 = m + 9) => by omega)
theorem FrQ.ms {h' : Hp} (S : MSt h m s) (f : FrQ m h h') : MSt h' m s ∧ FrO (inM m) h h' :=
  ⟨S.fr f (fun j _ q => by omega) (fun q => by omega) (fun j q => by omega) (fun j _ (q : m + 4 = m + 9) => by omega) (fun q => by omega) (fun j (q : m + 1 = m + 9) => by omega) (fun q => by omega) (fun j q => by omega),
   f.toM (fun b j q => by unfold inM; omega) (fun b j (q : b = m + 9) => by unfold inM; omega)⟩
/-- the ratios that lie in the row -/
def RtA (h : Hp) (m : Nat) (A : HV) (K c : Nat) : Prop := (∀ j, j < K → ∃ t, tAll (gN A) t ∧ gv h m j = rv A t) ∧ ∀ t, t < c → tAll (gN A) t → ∃ j, j < K ∧ gv h m j = rv A t
theorem rt_26 (C : C_X10_ratios X) (H : MdR h m A) (V : VA A) (hg : 2 ≤ gN A) (fin : ∀ (h5 : Hp) (n : Nat), FrQ m h h5 → (gi h5 m 28).toInt = n → n ≤ 12099 → 0 < n → RtA h5 m A n 20880 → (∀ j, j + 1 < n → gv h5 m j ≤ gv h5 m (j + 1)) → Wj X 0 0 Q 108 [(0, .ref m), (1, .int 0), (2, .long (gl h5 (m + 9) (ix 0))), (4, .long (gl h5 (m + 9) (ix 0))), (6, .int 0)] [] h5) :
    ∀ (d c K : Nat) (h' : Hp), 20880 ≤ c + d → c ≤ 20880 → FrQ m h h' → NTs h' m (gN A) c → (gi h' m 28).toInt = K → K ≤ cT tAllB c → RtA h' m A K c → Wj X 0 0 Q 26 [(0, .ref m)] [] h' := by
  intro d
  induction d with
  | zero =>
    intro c K h' hd hc f N eK hK R
    have H' := FrQ.md H V f
    refine V_X10_ratios_26 C ⟨H'.1, (ma_nextTrain H' V hg N).mono (fun r h2 hp => ?_)⟩
    obtain ⟨y, rfl, no, f2⟩ := hp
    have g2 : FrQ m h' h2 := f2.mono (fun b j q => by omega) (fun _ _ q => absurd q id)
    rcases no with ⟨y0, no⟩ | ⟨y1, t, t1, t2, -⟩
    · refine ⟨y, rfl, fun _ => ⟨(FrQ.md H' V g2).1, ?_⟩, fun q => absurd y0 q⟩
      have e28 : (gi h2 m 28).toInt = K := by rw [f2.xi (fun q => by omega)]; exact eK
      have kb : K ≤ 12099 := by
        have := tAll_cnt
        have := cT_mono tAllB hc
        omega
      refine (ma_sorts (FrQ.md H' V g2).1 e28 (by omega)).mono (fun r h5 hp => ?_)
      obtain ⟨rfl, so, sm, f5⟩ := hp
      have g5 : FrQ m h2 h5 := f5.mono (fun _ _ q => absurd q id) (fun _ _ q => q)
      have f25 := (f.tr g2).tr g5
      have e2 : ∀ j, gv h2 m j = gv h' m j := fun j => by unfold gv; rw [f2.xl id]
      have R5 : RtA h5 m A K 20880 := by
        refine ⟨fun j hj => ?_, fun t ht ok => ?_⟩
        · obtain ⟨i, hi, e⟩ := sm.1 j hj
          rw [e, e2]; exact R.1 i hi
        · have tc : t < c := Classical.byContradiction (fun z => no t (by omega) ok)
          obtain ⟨j, hj, e⟩ := R.2 t tc ok
          obtain ⟨i, hi, e'⟩ := sm.2 j hj
          exact ⟨i, hi, by rw [← e', e2, e]⟩
      refine ⟨rfl, (FrQ.md H V f25).1, fin h5 K f25 ?_ kb ?_ R5 so⟩
      · rw [f5.xi id]; exact e28
      · have t1 : tAll (gN A) 1 := by
          refine ⟨by decide, ?_, ?_, by decide, fun z => absurd z (by decide)⟩
          · have : tA 1 = 0 := by decide
            omega
          · have : tB 1 = 1 := by decide
            omega
        obtain ⟨j, hj, -⟩ := R5.2 1 (by decide) t1
        omega
    · have := t2.1; omega
  | succ d ih =>
    intro c K h' hd hc f N eK hK R
    have H' := FrQ.md H V f
    refine V_X10_ratios_26 C ⟨H'.1, (ma_nextTrain H' V hg N).mono (fun r h2 hp => ?_)⟩
    obtain ⟨y, rfl, no, f2⟩ := hp
    have g2 : FrQ m h' h2 := f2.mono (fun b j q => by omega) (fun _ _ q => absurd q id)
    have e28 : (gi h2 m 28).toInt = K := by rw [f2.xi (fun q => by omega)]; exact eK
    have e2 : ∀ j, gv h2 m j = gv h' m j := fun j => by unfold gv; rw [f2.xl id]
    have H2 := FrQ.md H' V g2
    have cn := tAll_cnt
    rcases no with ⟨y0, no⟩ | ⟨y1, t, t1, t2, t3, T⟩
    · refine ⟨y, rfl, fun _ => ⟨H2.1, ?_⟩, fun q => absurd y0 q⟩
      have kb : K ≤ 12099 := by
        have := cT_mono tAllB hc
        omega
      refine (ma_sorts H2.1 e28 (by omega)).mono (fun r h5 hp => ?_)
      obtain ⟨rfl, so, sm, f5⟩ := hp
      have g5 : FrQ m h2 h5 := f5.mono (fun _ _ q => absurd q id) (fun _ _ q => q)
      have f25 := (f.tr g2).tr g5
      have R5 : RtA h5 m A K 20880 := by
        refine ⟨fun j hj => ?_, fun t ht ok => ?_⟩
        · obtain ⟨i, hi, e⟩ := sm.1 j hj
          rw [e, e2]; exact R.1 i hi
        · have tc : t < c := Classical.byContradiction (fun z => no t (by omega) ok)
          obtain ⟨j, hj, e⟩ := R.2 t tc ok
          obtain ⟨i, hi, e'⟩ := sm.2 j hj
          exact ⟨i, hi, by rw [← e', e2, e]⟩
      refine ⟨rfl, (FrQ.md H V f25).1, fin h5 K f25 ?_ kb ?_ R5 so⟩
      · rw [f5.xi id]; exact e28
      · have t1 : tAll (gN A) 1 := by
          refine ⟨by decide, ?_, ?_, by decide, fun z => absurd z (by decide)⟩
          · have : tA 1 = 0 := by decide
            omega
          · have : tB 1 = 1 := by decide
            omega
        obtain ⟨j, hj, -⟩ := R5.2 1 (by decide) t1
        omega
    · refine ⟨y, rfl, fun q => by rw [y1] at q; exact absurd q (by decide), fun _ => ?_⟩
      obtain ⟨u1, u2, u3, u4, u5, u6⟩ := T.up H2 V t2
      have ub := tU_b V.teo t2
      have rb := rp_b V t2
      have mw : 0 < (mLw h2 m).toInt := by rw [u2]; exact ub.2.1
      have cp := cm_tp (u := mUp h2 m) mw
      obtain ⟨r1, r2⟩ := fr_x (u := mUp h2 m) mw
      rw [u1, u2] at r1 r2
      have tl := t2.1
      have kt : K + 1 ≤ cT tAllB (t + 1) := by
        have c1 := cT_mono tAllB t1
        show K + 1 ≤ cT tAllB t + (if tAllB t then 1 else 0)
        rw [tAllB_of t2, if_pos rfl]; omega
      have kb : K + 1 ≤ 12099 := by
        have := cT_mono tAllB (a := t + 1) (b := 20880) (by omega)
        omega
      have xk : ix (gi h2 m 28) = K := ix_of e28
      obtain ⟨W, hW, eW⟩ := hide64 1000000
      have eW : W.toInt = 1000000 := eW.trans rfl
      refine ⟨H2.1, u3, u4, u5, u6, by omega, mw, fun z => by rw [i64_eq] at z; have : (0 : Int64).toInt = 0 := rfl; omega, by unfold inb; omega, ?_⟩
      rw [← hW, xk]
      have val : (mUp h2 m / cm (mUp h2 m) (mLw h2 m) * W + mLw h2 m / cm (mUp h2 m) (mLw h2 m)).toInt = rv A t := by
        have z1 : (mUp h2 m / cm (mUp h2 m) (mLw h2 m)).toInt = (rp A t).1 := r1
        have z2 : (mLw h2 m / cm (mUp h2 m) (mLw h2 m)).toInt = (rp A t).2 := r2
        have z3 : (mUp h2 m / cm (mUp h2 m) (mLw h2 m) * W).toInt = (rp A t).1 * 1000000 := by rw [lmul_t] <;> rw [z1, eW] <;> omega
        rw [ladd_t] <;> rw [z3, z2]
        · rfl
        · omega
        · omega
      generalize mUp h2 m / cm (mUp h2 m) (mLw h2 m) * W + mLw h2 m / cm (mUp h2 m) (mLw h2 m) = val' at *
      have nk : (gi h2 m 28 + 1).toInt = (K + 1 : Nat) := by rw [iadd_t] <;> rw [e28, i1_t] <;> omega
      generalize gi h2 m 28 + 1 = k' at *
      have g3 : FrQ m h2 (si (sl h2 (m + 9) K val') m 28 k') := FrW.si (P := fun b j => b = m ∧ (j = 18 ∨ j = 28) ∨ b = m + 7) (R := fun b _ => b = m + 9) (FrW.sl (P := fun b j => b = m ∧ (j = 18 ∨ j = 28) ∨ b = m + 7) (R := fun b _ => b = m + 9) FrW.rf rfl) (Or.inl ⟨rfl, Or.inr rfl⟩)
      have gj : ∀ j, gv (si (sl h2 (m + 9) K val') m 28 k') m j = if j = K then rv A t else gv h2 m j := fun j => by
        unfold gv
        rw [gl_si, gl_sl]
        by_cases e : j = K
        · rw [if_pos ⟨rfl, e⟩, if_pos e]; exact val
        · rw [if_neg (fun q => e q.2), if_neg e]
      refine ih (t + 1) (K + 1) _ (by omega) (by omega) ((f.tr g2).tr g3) (Or.inr ⟨t, rfl, ⟨?_, fun j hj => ?_⟩, t2⟩) ?_ kt ⟨fun j hj => ?_, fun t' ht' ok' => ?_⟩
      · rw [gi_si, if_neg (by omega)]; exact T.1
      · rw [gi_si, if_neg (by omega)]; exact T.2 j hj
      · rw [gi_si, if_pos ⟨rfl, rfl⟩]; exact nk
      · rw [gj]
        by_cases e : j = K
        · exact ⟨t, t2, by rw [if_pos e]⟩
        · rw [if_neg e, e2]; exact R.1 j (by omega)
      · by_cases e : t' = t
        · exact ⟨K, by omega, by rw [gj, if_pos rfl, e]⟩
        · have tc : t' < c := Classical.byContradiction (fun z => t3 t' (by omega) (by omega) ok')
          obtain ⟨j, hj, ej⟩ := R.2 t' tc ok'
          exact ⟨j, by omega, by rw [gj, if_neg (by omega), e2]; exact ej⟩
/-- the different ones among the first k -/
def RtD (a : Nat → Int) (k c : Nat) : Prop := ∃ f : Nat → Int, (∀ e e', e < c → e' < c → f e = f e' → e = e') ∧ (∀ e, e < c → ∃ j, j < k ∧ f e = a j) ∧ ∀ j, j < k → ∃ e, e < c ∧ f e = a j
theorem RtD.old {a : Nat → Int} {k c : Nat} (D : RtD a k c) (k0 : 0 < k) (e : a k = a (k - 1)) : RtD a (k + 1) c := by
  obtain ⟨f, f1, f2, f3⟩ := D
  refine ⟨f, f1, fun i hi => ?_, fun j hj => ?_⟩
  · obtain ⟨j, hj, ej⟩ := f2 i hi
    exact ⟨j, by omega, ej⟩
  · by_cases z : j = k
    · rw [z, e]; exact f3 (k - 1) (by omega)
    · exact f3 j (by omega)
theorem RtD.new {a : Nat → Int} {k c : Nat} (D : RtD a k c) (hne : ∀ j, j < k → a j ≠ a k) : RtD a (k + 1) (c + 1) := by
  obtain ⟨f, f1, f2, f3⟩ := D
  refine ⟨fun e => if e = c then a k else f e, fun e e' he he' q => ?_, fun i hi => ?_, fun j hj => ?_⟩
  · have q : (if e = c then a k else f e) = (if e' = c then a k else f e') := q
    by_cases z : e = c
    · by_cases z' : e' = c
      · omega
      · rw [if_pos z, if_neg z'] at q
        obtain ⟨j, hj, ej⟩ := f2 e' (by omega)
        exact absurd (by rw [q, ej]) (hne j hj)
    · by_cases z' : e' = c
      · rw [if_neg z, if_pos z'] at q
        obtain ⟨j, hj, ej⟩ := f2 e (by omega)
        exact absurd (by rw [← q, ej]) (hne j hj)
      · rw [if_neg z, if_neg z'] at q
        exact f1 e e' (by omega) (by omega) q
  · by_cases z : i = c
    · exact ⟨k, by omega, if_pos z⟩
    · obtain ⟨j, hj, ej⟩ := f2 i (by omega)
      exact ⟨j, by omega, by rw [← ej]; exact if_neg z⟩
  · by_cases z : j = k
    · exact ⟨c, by omega, by rw [z]; exact if_pos rfl⟩
    · obtain ⟨e, he, ee⟩ := f3 j (by omega)
      exact ⟨e, by omega, by rw [← ee]; exact if_neg (by omega)⟩
theorem so_lt {a : Nat → Int} {n : Nat} (so : ∀ j, j + 1 < n → a j ≤ a (j + 1)) (k : Nat) : k < n → ∀ j, j ≤ k → a j ≤ a k := by
  induction k with
  | zero => intro _ j hj; rw [show j = 0 by omega]; exact Int.le_refl _
  | succ k ih =>
    intro hk j hj
    by_cases e : j = k + 1
    · rw [e]; exact Int.le_refl _
    · have h1 := ih (by omega) j (by omega)
      have h2 := so k hk
      omega
theorem lef_rf (x : Int) : lef x x := Int.le_refl _
theorem lef_tot {x y : Int} (h : ¬ lef x y) : lef y x := by unfold lef at *; omega
theorem lef_tr {x y z : Int} (hx : 0 < pl x) (hy : 0 < pl y) (hz : 0 < pl z) (h1 : lef x y) (h2 : lef y z) : lef x z := frac_tr hx hy hz h1 h2
theorem ma_ratios (S : MSt h m s) : S_X10_ratios l D 0 0 [.ref m] h (QI fun y h' => y.toInt = (ratiosP s).1 ∧ MSt h' m (ratiosP s).2 ∧ FrO (inM m) h h') := Sp.of rfl (Nat.le_of_ble_eq_true rfl) (fun X C _ _ _ _ => V_X10_ratios_0 C (by
  obtain ⟨S1, f1⟩ := S.t0
  have V := S.1.va
  have vg := V.gn
  have i2 : (2 : Int32).toInt = 2 := rfl
  have e4 := S1.1.md.n (i := 4) (by omega)
  unfold ratiosP
  refine ⟨S.1.1, fun q => ?_, fun q => ⟨_, rfl, ?_⟩⟩
  all_goals rw [ix_4, i32_le, i2, e4] at q
  · rw [if_neg (by omega)]
    have hg : 2 ≤ gN (sA s) := by omega
    have f3 : FrQ m (si h m 0 0) (si (si (si h m 0 0) m 28 0) m 18 0) := FrW.si (P := fun b j => b = m ∧ (j = 18 ∨ j = 28) ∨ b = m + 7) (R := fun b _ => b = m + 9) (FrW.si (P := fun b j => b = m ∧ (j = 18 ∨ j = 28) ∨ b = m + 7) (R := fun b _ => b = m + 9) FrW.rf (Or.inl ⟨rfl, Or.inr rfl⟩)) (Or.inl ⟨rfl, Or.inl rfl⟩)
    refine rt_26 C S1.1.md V hg (fun h5 n f5 en hn n0 R so => ?_) 20880 0 0 _ (by omega) (by omega) f3 (Or.inl ⟨?_, rfl⟩) ?_ (Nat.zero_le _) ⟨fun j hj => by omega, fun t ht => by omega⟩
    · obtain ⟨S5, o5⟩ := FrQ.ms S1 f5
      have F5 := S5.1.1
      generalize ha : gv h5 m = a at *
      obtain ⟨R1, R2⟩ := R
      rw [ha] at R1 R2
      have ga : ∀ j, (gl h5 (m + 9) j).toInt = a j := fun j => by rw [← ha]; rfl
      have ab : ∀ j, j < n → (0 ≤ a j ∧ a j ≤ 20000000000) ∧ 0 < pl (a j) := fun j hj => by
        obtain ⟨t, t1, t2⟩ := R1 j hj
        have b := rp_b V t1
        rw [t2, (rv_d V t1).2]
        refine ⟨?_, b.2.1⟩
        unfold rv; omega
      have fin : ∀ (v1 : Int32) (v2 v4 : Int64) (c b2 b4 : Nat), v1.toInt = c → b2 < n → v2.toInt = a b2 → (∀ j, j < n → lef (a b2) (a j)) → b4 < n → v4.toInt = a b4 → (∀ j, j < n → lef (a j) (a b4)) → RtD a n c → ∀ v6 : Int32, v6.toInt = n → Wj X 0 0 (QI fun y h' => y.toInt = (rtQ (sA s)).1 ∧ MSt h' m (rowS s (rtRow (sA s))) ∧ FrO (inM m) h h') 108 [(0, .ref m), (1, .int v1), (2, .long v2), (4, .long v4), (6, .int v6)] [] h5 := by
        intro v1 v2 v4 c b2 b4 e1 hb2 e2 l2 hb4 e4 l4 DD v6 e6
        obtain ⟨W, hW, eW⟩ := hide64 1000000
        have eW : W.toInt = 1000000 := eW.trans rfl
        obtain ⟨⟨x1, x2⟩, x3⟩ := ab b2 hb2
        obtain ⟨⟨y1, y2⟩, y3⟩ := ab b4 hb4
        obtain ⟨t2, t21, t22⟩ := R1 b2 hb2
        obtain ⟨t4, t41, t42⟩ := R1 b4 hb4
        have d2 : (v2 / W).toInt = pu (a b2) := by rw [ldiv_p (by omega) (by omega), eW, e2]; rfl
        have d4 : (v4 / W).toInt = pu (a b4) := by rw [ldiv_p (by omega) (by omega), eW, e4]; rfl
        have m2 : (v2 % W).toInt = pl (a b2) := by rw [lrem_p (by omega), eW, e2]; rfl
        have m4 : (v4 % W).toInt = pl (a b4) := by rw [lrem_p (by omega), eW, e4]; rfl
        have k2 : 0 ≤ pu (a b2) := by unfold pu; omega
        have k4 : 0 ≤ pu (a b4) := by unfold pu; omega
        have ft : FrW (rI m) (rL m) h5 (si h5 m 1 0) := FrW.si (P := rI m) (R := rL m) FrW.rf ⟨rfl, rfl⟩
        refine V_X10_ratios_108 C ⟨F5, fun _ => ?_, fun q => absurd (by rw [i32_le, en, e6]; omega) q⟩
        rw [← hW]
        clear hW
        refine (ma_entersPart (h := si h5 m 1 0) (L := []) F5 (RwM.clr 0 rfl) (by decide) d2 m2 (by omega) x3).mono (fun r h6 hp => ?_)
        obtain ⟨rfl, w6, f6⟩ := hp
        have g6 := ft.tr f6
        refine ⟨rfl, g6.st10 F5, (ma_entersPart (g6.st10 F5) w6 (by simp) d4 m4 (by omega) y3).mono (fun r h7 hp => ?_)⟩
        obtain ⟨rfl, w7, f7⟩ := hp
        have g7 := g6.tr f7
        obtain ⟨S7, o7⟩ := S5.row g7 w7
        obtain ⟨f, D1, D2, D3⟩ := DD
        have z2 : (rp (sA s) t2) = (pu (a b2), pl (a b2)) := by rw [t22, (rv_d V t21).1, (rv_d V t21).2]
        have z4 : (rp (sA s) t4) = (pu (a b4), pl (a b4)) := by rw [t42, (rv_d V t41).1, (rv_d V t41).2]
        have RS : RtS (sA s) ((c : Int), (pu (a b2), pl (a b2)), (pu (a b4), pl (a b4))) := by
          refine ⟨c, fun e => (pu (f e), pl (f e)), ⟨fun e e' he he' q => ?_, fun e he => ?_, fun t ht => ?_⟩, rfl, ⟨?_, fun e he => ?_⟩, ?_, fun e he => ?_⟩
          · have q := Prod.mk.inj q
            exact D1 e e' he he' (pul q.1 q.2)
          · obtain ⟨j, hj, ej⟩ := D2 e he
            obtain ⟨t, t1, t2⟩ := R1 j hj
            exact ⟨t, t1, by dsimp only; rw [ej, t2, (rv_d V t1).1, (rv_d V t1).2]⟩
          · obtain ⟨j, hj, ej⟩ := R2 t ht.1 ht
            obtain ⟨e, he, ee⟩ := D3 j hj
            exact ⟨e, he, by dsimp only; rw [ee, ej, (rv_d V ht).1, (rv_d V ht).2]⟩
          · obtain ⟨e, he, ee⟩ := D3 b2 hb2
            exact ⟨e, he, by dsimp only; rw [ee]⟩
          · obtain ⟨j, hj, ej⟩ := D2 e he
            dsimp only; rw [ej]; exact l2 j hj
          · obtain ⟨e, he, ee⟩ := D3 b4 hb4
            exact ⟨e, he, by dsimp only; rw [ee]⟩
          · obtain ⟨j, hj, ej⟩ := D2 e he
            dsimp only; rw [ej]; exact l4 j hj
        have eq := rtQ_eq V RS
        have rg : ∀ t b, tAll (gN (sA s)) t → rp (sA s) t = (pu (a b), pl (a b)) → rdU (pu (a b)) (pl (a b)) = pu (a b) ∧ rdL (pu (a b)) (pl (a b)) = pl (a b) := fun t b ht e => by
          have bb := (tU_b V.teo ht).2.1
          have e1 : rdU (tU (sA s 3) t) (tL (sA s 3) t) = pu (a b) := congrArg Prod.fst e
          have e2 : rdL (tU (sA s 3) t) (tL (sA s 3) t) = pl (a b) := congrArg Prod.snd e
          rw [← e1, ← e2]; exact rd_again bb
        have er : rtRow (sA s) = [] ++ [rdU (pu (a b2)) (pl (a b2)), rdL (pu (a b2)) (pl (a b2))] ++ [rdU (pu (a b4)) (pl (a b4)), rdL (pu (a b4)) (pl (a b4))] := by
          unfold rtRow
          rw [eq, (rg t2 b2 t21 z2).1, (rg t2 b2 t21 z2).2, (rg t4 b4 t41 z4).1, (rg t4 b4 t41 z4).2]; rfl
        rw [er, eq]
        exact ⟨rfl, _, rfl, e1, S7, (f1.tr o5).tr o7⟩
      have key : ∀ (d k c b2 b4 : Nat) (v1 v6 : Int32) (v2 v4 : Int64), k + d = n → v6.toInt = k → v1.toInt = c → c ≤ k → b2 < n → v2.toInt = a b2 → (∀ j, j < k → lef (a b2) (a j)) → b4 < n → v4.toInt = a b4 → (∀ j, j < k → lef (a j) (a b4)) → RtD a k c → Wj X 0 0 (QI fun y h' => y.toInt = (rtQ (sA s)).1 ∧ MSt h' m (rowS s (rtRow (sA s))) ∧ FrO (inM m) h h') 108 [(0, .ref m), (1, .int v1), (2, .long v2), (4, .long v4), (6, .int v6)] [] h5 := by
        intro d
        induction d with
        | zero =>
          intro k c b2 b4 v1 v6 v2 v4 hk e6 e1 hck hb2 e2 l2 hb4 e4 l4 DD
          have : k = n := by omega
          subst this
          exact fin v1 v2 v4 c b2 b4 e1 hb2 e2 l2 hb4 e4 l4 DD v6 e6
        | succ d ih =>
          intro k c b2 b4 v1 v6 v2 v4 hk e6 e1 hck hb2 e2 l2 hb4 e4 l4 DD
          have x6 : ix v6 = k := ix_of e6
          have ib : inb v6 12100 := by unfold inb; omega
          have nx : (v6 + Int32.ofInt 1).toInt = (k + 1 : Nat) := by rw [iadd_t] <;> rw [e6, show (Int32.ofInt 1).toInt = 1 from rfl] <;> omega
          have bk := ab k (by omega)
          have bb2 := ab b2 hb2
          have bb4 := ab b4 hb4
          -- the greatest one
          have p178 : ∀ (w1 : Int32) (c' : Nat), w1.toInt = c' → c' ≤ k + 1 → RtD a (k + 1) c' → ∀ (b : Nat) (u : Int64), b < n → u.toInt = a b → (∀ j, j < k + 1 → lef (a b) (a j)) → Wj X 0 0 (QI fun y h' => y.toInt = (rtQ (sA s)).1 ∧ MSt h' m (rowS s (rtRow (sA s))) ∧ FrO (inM m) h h') 178 [(0, .ref m), (1, .int w1), (4, .long v4), (6, .int v6)] [.long u] h5 := by
            intro w1 c' ew hc' DD' b u hb eu lu
            refine V_X10_ratios_178 C ⟨F5, ib, ?_⟩
            rw [x6]
            refine (ma_isLess (h := h5) (a := v4) (b := gl h5 (m + 9) k) (by omega) (by omega) (by rw [ga]; omega) (by rw [ga]; omega)).mono (fun r h3 hp => ?_)
            obtain ⟨y, rfl, hy, e3⟩ := hp
            rw [ga, e4] at hy
            rw [e3]
            refine ⟨y, rfl, fun q => ?_, fun q => ⟨F5, ib, ?_⟩⟩
            · have hl := hy.mp q
              refine ih (k + 1) c' b b4 w1 _ u v4 (by omega) nx ew hc' hb eu lu hb4 e4 (fun j hj => ?_) DD'
              by_cases z : j = k
              · rw [z]; exact hl
              · exact l4 j (by omega)
            · have hl := lef_tot (fun z => q (hy.mpr z))
              refine ih (k + 1) c' b k w1 _ u _ (by omega) nx ew hc' hb eu lu (by omega) (ga k) (fun j hj => ?_) DD'
              by_cases z : j = k
              · rw [z]; exact lef_rf _
              · exact lef_tr (ab j (by omega)).2 bb4.2 bk.2 (l4 j (by omega)) hl
          have p148 : ∀ (s1 : Int32) (c' : Nat), (c : Int) + (flg s1).toInt = c' → c' ≤ k + 1 → RtD a (k + 1) c' → Wj X 0 0 (QI fun y h' => y.toInt = (rtQ (sA s)).1 ∧ MSt h' m (rowS s (rtRow (sA s))) ∧ FrO (inM m) h h') 148 [(0, .ref m), (2, .long v2), (4, .long v4), (6, .int v6)] [.int s1, .int v1] h5 := by
            intro s1 c' ec hc' DD'
            have ew : (v1 + flg s1).toInt = c' := by rw [iadd_t] <;> rw [e1] <;> omega
            refine V_X10_ratios_148 C ⟨F5, ib, ?_⟩
            rw [x6]
            refine (ma_isLess (h := h5) (a := gl h5 (m + 9) k) (b := v2) (by rw [ga]; omega) (by rw [ga]; omega) (by omega) (by omega)).mono (fun r h3 hp => ?_)
            obtain ⟨y, rfl, hy, e3⟩ := hp
            rw [ga, e2] at hy
            rw [e3]
            refine ⟨y, rfl, fun q => ?_, fun q => ⟨F5, ib, ?_⟩⟩
            · have hl := hy.mp q
              refine p178 _ c' ew hc' DD' b2 v2 hb2 e2 (fun j hj => ?_)
              by_cases z : j = k
              · rw [z]; exact hl
              · exact l2 j (by omega)
            · have hl := lef_tot (fun z => q (hy.mpr z))
              refine p178 _ c' ew hc' DD' k _ (by omega) (ga k) (fun j hj => ?_)
              by_cases z : j = k
              · rw [z]; exact lef_rf _
              · exact lef_tr bk.2 bb2.2 (ab j (by omega)).2 hl (l2 j (by omega))
          refine V_X10_ratios_108 C ⟨F5, fun q => ?_, fun _ => ⟨fun q => ?_, fun q => ⟨ib, ?_, fun q2 => ?_, fun q2 => ?_⟩⟩⟩
          · exfalso
            rw [i32_le, en, e6] at q; omega
          · rw [i32_eq, e6, i0_t] at q
            refine p148 1 (c + 1) (by rw [flg1, i1_t]; omega) (by omega) (DD.new (fun j hj => by omega))
          all_goals rw [i32_eq, e6, i0_t] at q
          all_goals have em : (v6 - 1).toInt = (k - 1 : Nat) := by rw [isub_t] <;> rw [e6, i1_t] <;> omega
          · unfold inb; omega
          all_goals rw [x6, ix_of em, i64_eq, ga, ga] at q2
          · exact p148 0 c (by rw [flg0, i0_t]; omega) (by omega) (DD.old (by omega) q2)
          · refine p148 1 (c + 1) (by rw [flg1, i1_t]; omega) (by omega) (DD.new (fun j hj z => ?_))
            have h1 := so_lt so (k - 1) (by omega) j (by omega)
            have h2 := so (k - 1) (by omega)
            rw [show k - 1 + 1 = k by omega] at h2
            omega
      rw [ix_0]
      exact key n 0 0 0 0 0 0 _ _ (by omega) rfl rfl (by omega) n0 (ga 0) (fun j hj => by omega) n0 (ga 0) (fun j hj => by omega) ⟨fun _ => 0, fun e _ he => by omega, fun e he => by omega, fun j hj => by omega⟩
    · rw [gi_si, if_pos ⟨rfl, rfl⟩]; rfl
    · rw [gi_si, if_neg (by omega), gi_si, if_pos ⟨rfl, rfl⟩]; rfl
  · rw [if_pos (by omega)]; exact ⟨rfl, S1, f1⟩))
end MRt
