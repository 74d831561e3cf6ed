-- trains: plain facts
/-- the least number of which P holds -/
theorem ls_min (P : Nat → Prop) (n : Nat) : (∃ t, t ≤ n ∧ P t) → ∃ t, P t ∧ ∀ t', t' < t → ¬ P t' := by
  induction n with
  | zero =>
    rintro ⟨t, h1, h2⟩
    have : t = 0 := by omega
    subst this
    exact ⟨0, h2, fun t' h => by omega⟩
  | succ n ih =>
    intro h
    by_cases c : ∃ t, t ≤ n ∧ P t
    · exact ih c
    · obtain ⟨t, h1, h2⟩ := h
      refine ⟨t, h2, fun t' h3 h4 => c ⟨t', by omega, h4⟩⟩
theorem ls_ex (P : Nat → Prop) : ∃ o : Option Nat, (∀ t, o = some t → P t ∧ ∀ t', t' < t → ¬ P t') ∧ (o = none → ∀ t, ¬ P t) := by
  by_cases h : ∃ t, P t
  · obtain ⟨t, ht⟩ := h
    obtain ⟨u, h1, h2⟩ := ls_min P t ⟨t, Nat.le_refl _, ht⟩
    exact ⟨some u, fun q e => (by cases e; exact ⟨h1, h2⟩), fun e => (by cases e)⟩
  · exact ⟨none, fun q e => (by cases e), fun _ t ht => h ⟨t, ht⟩⟩
noncomputable def lsQ (P : Nat → Prop) : Option Nat := Classical.choose (ls_ex P)
theorem lsQ_s (P : Nat → Prop) : (∀ t, lsQ P = some t → P t ∧ ∀ t', t' < t → ¬ P t') ∧ (lsQ P = none → ∀ t, ¬ P t) := Classical.choose_spec (ls_ex P)
theorem lsQ_is {P : Nat → Prop} {t : Nat} (h1 : P t) (h2 : ∀ t', t' < t → ¬ P t') : lsQ P = some t := by
  obtain ⟨q1, q2⟩ := lsQ_s P
  cases e : lsQ P with
  | none => exact absurd h1 (q2 e t)
  | some u =>
    obtain ⟨a1, a2⟩ := q1 u e
    rcases Nat.lt_trichotomy u t with z | z | z
    · exact absurd a1 (h2 u z)
    · rw [z]
    · exact absurd h1 (a2 t z)
theorem lsQ_no {P : Nat → Prop} (h : ∀ t, ¬ P t) : lsQ P = none := by
  obtain ⟨q1, -⟩ := lsQ_s P
  cases e : lsQ P with
  | none => rfl
  | some u => exact absurd (q1 u e).1 (h u)
/-- all trains, in whatever order their gears stand -/
def tAll (g t : Nat) : Prop := t < 20880 ∧ tA t < g ∧ tB t < g ∧ tA t ≠ tB t ∧ (144 ≤ t → tC t < g ∧ tD t < g ∧ tC t ≠ tA t ∧ tC t ≠ tB t ∧ tD t ≠ tA t ∧ tD t ≠ tB t ∧ tD t ≠ tC t)
theorem tOk_all {g t : Nat} (h : tOk g t) : tAll g t := by
  obtain ⟨h1, h2, h3, h4, h5⟩ := h
  refine ⟨h1, h2, h3, h4, fun q => ?_⟩
  obtain ⟨a1, a2, a3, a4, a5, a6, a7⟩ := h5 q
  exact ⟨a1, a2, by omega, a5, a6, by omega, a7⟩
def tM4 (a b c d : Nat) : Nat := 144 + ((a * 12 + b) * 12 + c) * 12 + d
theorem tM4_d {a b c d : Nat} (ha : a < 12) (hb : b < 12) (hc : c < 12) (hd : d < 12) : 144 ≤ tM4 a b c d ∧ tM4 a b c d < 20880 ∧ tA (tM4 a b c d) = a ∧ tB (tM4 a b c d) = b ∧ tC (tM4 a b c d) = c ∧ tD (tM4 a b c d) = d := by
  have e : tM4 a b c d = 144 + (1728 * a + 144 * b + 12 * c + d) := by unfold tM4; omega
  rw [e]
  unfold tA tB tC tD
  rw [if_neg (by omega), if_neg (by omega)]
  refine ⟨by omega, by omega, ?_, ?_, ?_, ?_⟩ <;> omega
theorem tM4_self {t : Nat} (h1 : 144 ≤ t) (h2 : t < 20880) : t = tM4 (tA t) (tB t) (tC t) (tD t) ∧ tA t < 12 ∧ tB t < 12 ∧ tC t < 12 ∧ tD t < 12 := by
  unfold tM4 tA tB tC tD
  rw [if_neg (by omega), if_neg (by omega)]
  refine ⟨?_, ?_, ?_, ?_, ?_⟩ <;> omega
theorem tM2_self {t : Nat} (h1 : t < 144) : t = 12 * tA t + tB t ∧ tA t < 12 ∧ tB t < 12 := by
  unfold tA tB
  rw [if_pos h1, if_pos h1]
  refine ⟨?_, ?_, ?_⟩ <;> omega
theorem tM2_d {a b : Nat} (ha : a < 12) (hb : b < 12) : 12 * a + b < 144 ∧ tA (12 * a + b) = a ∧ tB (12 * a + b) = b := by
  unfold tA tB
  rw [if_pos (by omega), if_pos (by omega)]
  refine ⟨?_, ?_, ?_⟩ <;> omega
theorem tU_4 (te : Nat → Int) {t : Nat} (h : 144 ≤ t) : tU te t = te (tA t) * te (tC t) ∧ tL te t = te (tB t) * te (tD t) := by
  unfold tU tL
  rw [if_neg (by omega), if_neg (by omega)]
  exact ⟨rfl, rfl⟩
theorem tU_2 (te : Nat → Int) {t : Nat} (h : t < 144) : tU te t = te (tA t) ∧ tL te t = te (tB t) := by
  unfold tU tL
  rw [if_pos h, if_pos h]
  exact ⟨rfl, rfl⟩
/-- the first train with something that only its ratio decides has its gears in order -/
theorem least_ok {g : Nat} (hg : g ≤ 12) {te : Nat → Int} {P : Int → Int → Prop} {t : Nat} (h : tAll g t) (hp : P (tU te t) (tL te t)) (hl : ∀ t', t' < t → tAll g t' → ¬ P (tU te t') (tL te t')) : tOk g t := by
  obtain ⟨h1, h2, h3, h4, h5⟩ := id h
  refine ⟨h1, h2, h3, h4, fun q => ?_⟩
  obtain ⟨a1, a2, a3, a4, a5, a6, a7⟩ := h5 q
  obtain ⟨e, d1, d2, d3, d4⟩ := tM4_self q h1
  obtain ⟨u1, u2⟩ := tU_4 te q
  refine ⟨a1, a2, ?_, ?_, a4, a5, a7⟩
  · rcases Nat.lt_or_ge (tA t) (tC t) with z | z
    · exact z
    · exfalso
      obtain ⟨b1, b2, b3, b4, b5, b6⟩ := tM4_d (a := tC t) (b := tB t) (c := tA t) (d := tD t) d3 d2 d1 d4
      obtain ⟨w1, w2⟩ := tU_4 te b1
      rw [b3, b5] at w1
      rw [b4, b6] at w2
      refine hl (tM4 (tC t) (tB t) (tA t) (tD t)) ?_ ?_ ?_
      · have e' : t = 144 + ((tA t * 12 + tB t) * 12 + tC t) * 12 + tD t := e
        show 144 + ((tC t * 12 + tB t) * 12 + tA t) * 12 + tD t < t
        omega
      · unfold tAll
        rw [b3, b4, b5, b6]
        exact ⟨b2, a1, h3, a4, fun _ => ⟨h2, a2, by omega, h4, by omega, a6, a5⟩⟩
      · rw [w1, w2, Int.mul_comm (te (tC t)), ← u1, ← u2]; exact hp
  · rcases Nat.lt_or_ge (tB t) (tD t) with z | z
    · exact z
    · exfalso
      obtain ⟨b1, b2, b3, b4, b5, b6⟩ := tM4_d (a := tA t) (b := tD t) (c := tC t) (d := tB t) d1 d4 d3 d2
      obtain ⟨w1, w2⟩ := tU_4 te b1
      rw [b3, b5] at w1
      rw [b4, b6] at w2
      refine hl (tM4 (tA t) (tD t) (tC t) (tB t)) ?_ ?_ ?_
      · have e' : t = 144 + ((tA t * 12 + tB t) * 12 + tC t) * 12 + tD t := e
        show 144 + ((tA t * 12 + tD t) * 12 + tC t) * 12 + tB t < t
        omega
      · unfold tAll
        rw [b3, b4, b5, b6]
        exact ⟨b2, h2, a2, by omega, fun _ => ⟨a1, h3, a3, by omega, by omega, by omega, by omega⟩⟩
      · rw [w1, w2, Int.mul_comm (te (tD t)), ← u1, ← u2]; exact hp
/-- whatever a train's ratio has, one with its gears in order has it too -/
theorem all_ok {g : Nat} (hg : g ≤ 12) {te : Nat → Int} {P : Int → Int → Prop} {t : Nat} (h : tAll g t) (hp : P (tU te t) (tL te t)) : ∃ t', t' ≤ t ∧ tOk g t' ∧ P (tU te t') (tL te t') := by
  obtain ⟨u, ⟨u1, u2⟩, u3⟩ := ls_min (fun t => tAll g t ∧ P (tU te t) (tL te t)) t ⟨t, Nat.le_refl _, h, hp⟩
  refine ⟨u, ?_, least_ok hg u1 u2 (fun t' h1 h2 h3 => u3 t' h1 ⟨h2, h3⟩), u2⟩
  rcases Nat.lt_or_ge t u with z | z
  · exact absurd ⟨h, hp⟩ (u3 t z)
  · exact z
/-- what teeth keep to -/
def teOk (g : Nat) (te : Nat → Int) : Prop := ∀ k, k < g → 20 ≤ te k ∧ te k ≤ 100
theorem tU_b {g : Nat} {te : Nat → Int} (ho : teOk g te) {t : Nat} (h : tAll g t) : (0 < tU te t ∧ tU te t ≤ 10000) ∧ (0 < tL te t ∧ tL te t ≤ 10000) := by
  obtain ⟨h1, h2, h3, h4, h5⟩ := h
  have ba := ho _ h2
  have bb := ho _ h3
  by_cases q : t < 144
  · obtain ⟨u1, u2⟩ := tU_2 te q
    rw [u1, u2]; omega
  · obtain ⟨u1, u2⟩ := tU_4 te (t := t) (by omega)
    obtain ⟨a1, a2, -⟩ := h5 (by omega)
    have bc := ho _ a1
    have bd := ho _ a2
    rw [u1, u2]
    have m1 := mul_bd (a := te (tA t)) (b := te (tC t)) (M := 100) (K := 100) (by omega) (by omega) (by omega) (by omega)
    have m2 := mul_bd (a := te (tB t)) (b := te (tD t)) (M := 100) (K := 100) (by omega) (by omega) (by omega) (by omega)
    have m3 : 0 < te (tA t) * te (tC t) := Int.mul_pos (by omega) (by omega)
    have m4 : 0 < te (tB t) * te (tD t) := Int.mul_pos (by omega) (by omega)
    omega
abbrev gN (A : HV) : Nat := (A 0 4).toNat
theorem VA.teo {A : HV} (V : VA A) : teOk (gN A) (A 3) := fun k hk => V.2.2.2.2.2.2.2.2.2.2.2.2.2.2.2.1 k (by have := V.2.2.2.2.1; unfold gN at hk; omega)
theorem VA.gn {A : HV} (V : VA A) : gN A ≤ 12 ∧ ((gN A : Nat) : Int) = A 0 4 := by have := V.2.2.2.2.1; unfold gN; omega
/-- the first train of a ratio -/
noncomputable def trainQ (A : HV) (p q : Int) : Option Nat := lsQ (fun t => tOk (gN A) t ∧ tU (A 3) t * q = tL (A 3) t * p)
def tN (t : Nat) : Int := if t < 144 then 2 else 4
/-- wheel i, or none -/
def tW (t i : Nat) : Int := if i = 0 then tA t else if i = 1 then tB t else if t < 144 then -1 else if i = 2 then tC t else tD t
def tWl (t : Nat) : List Int := (List.range (tN t).toNat).map (fun i => tW t i)
noncomputable def trainP (s : Sv) (p q : Int) : Int × Sv := if (1 ≤ p ∧ p ≤ 400) ∧ (1 ≤ q ∧ q ≤ 400) then (match trainQ (sA s) p q with
    | none => (-2, s)
    | some t => (tN t, rowS s (tWl t))) else (-1, s)
-- nearest: the order of being nearer
theorem frac_tr {a b c d e f : Int} (hb : 0 < b) (hd : 0 < d) (hf : 0 < f) (h1 : a * d ≤ c * b) (h2 : c * f ≤ e * d) : a * f ≤ e * b := by
  have e1 : a * d * f ≤ c * b * f := Int.mul_le_mul_of_nonneg_right h1 (by omega)
  have e2 : c * f * b ≤ e * d * b := Int.mul_le_mul_of_nonneg_right h2 (by omega)
  have q : (a * f) * d ≤ (e * b) * d := by
    have q1 : a * d * f = (a * f) * d := by rw [Int.mul_assoc, Int.mul_comm d, ← Int.mul_assoc]
    have q2 : c * b * f = c * f * b := by rw [Int.mul_assoc, Int.mul_comm b, ← Int.mul_assoc]
    have q3 : e * d * b = (e * b) * d := by rw [Int.mul_assoc, Int.mul_comm d, ← Int.mul_assoc]
    omega
  exact Int.le_of_mul_le_mul_right q (by omega)
theorem nrB_le {p q : Int} {b c : Int × Int} (h : ¬ nrB p q b c) : farN p q b * c.2 ≤ farN p q c * b.2 ∧ (farN p q b * c.2 = farN p q c * b.2 → b.1 * c.2 ≤ c.1 * b.2) := by
  have h' : ¬ (farN p q c * b.2 < farN p q b * c.2 ∨ (farN p q c * b.2 = farN p q b * c.2 ∧ c.1 * b.2 < b.1 * c.2)) := h
  constructor
  · omega
  · intro e; omega
theorem nrB_of {p q : Int} {b c : Int × Int} (h1 : farN p q b * c.2 ≤ farN p q c * b.2) (h2 : farN p q b * c.2 = farN p q c * b.2 → b.1 * c.2 ≤ c.1 * b.2) : ¬ nrB p q b c := by
  show ¬ (farN p q c * b.2 < farN p q b * c.2 ∨ (farN p q c * b.2 = farN p q b * c.2 ∧ c.1 * b.2 < b.1 * c.2))
  rintro (z | ⟨z1, z2⟩)
  · omega
  · have := h2 z1.symm; omega
theorem nrB_tr {p q : Int} {a b c : Int × Int} (ha : 0 < a.2) (hb : 0 < b.2) (hc : 0 < c.2) (h1 : ¬ nrB p q a b) (h2 : ¬ nrB p q b c) : ¬ nrB p q a c := by
  obtain ⟨a1, a2⟩ := nrB_le h1
  obtain ⟨b1, b2⟩ := nrB_le h2
  have t1 := frac_tr ha hb hc a1 b1
  refine nrB_of t1 (fun e => ?_)
  have r1 : farN p q b * a.2 ≤ farN p q a * b.2 := frac_tr hb hc ha b1 (by omega)
  have r2 : farN p q c * b.2 ≤ farN p q b * c.2 := frac_tr hc ha hb (by omega) a1
  exact frac_tr ha hb hc (a2 (by omega)) (b2 (by omega))
theorem nrB_tot {p q : Int} {b c : Int × Int} (h : nrB p q b c) : ¬ nrB p q c b := by
  have h' : farN p q c * b.2 < farN p q b * c.2 ∨ (farN p q c * b.2 = farN p q b * c.2 ∧ c.1 * b.2 < b.1 * c.2) := h
  exact nrB_of (by omega) (fun e => by omega)
/-- equally near: the same number -/
theorem nrB_eq {p q : Int} {b c : Int × Int} (h1 : ¬ nrB p q b c) (h2 : ¬ nrB p q c b) : b.1 * c.2 = c.1 * b.2 := by
  obtain ⟨a1, a2⟩ := nrB_le h1
  obtain ⟨b1, b2⟩ := nrB_le h2
  have e : farN p q b * c.2 = farN p q c * b.2 := by omega
  have := a2 e
  have := b2 e.symm
  omega
theorem farN_sc {p q g : Int} (hg : 0 < g) {b : Int × Int} : farN p q (g * b.1, g * b.2) = g * farN p q b := by
  have e1 : p * (g * b.2) - g * b.1 * q = g * (p * b.2 - b.1 * q) := by grind
  unfold farN
  dsimp only
  rw [e1, Int.natAbs_mul, Int.natCast_mul]
  congr 1
  omega
/-- nearness doesn't ask how a number is written -/
theorem nrB_sc {p q g k : Int} (hg : 0 < g) (hk : 0 < k) {b c : Int × Int} : nrB p q (g * b.1, g * b.2) (k * c.1, k * c.2) ↔ nrB p q b c := by
  have gk : 0 < g * k := Int.mul_pos hg hk
  show (farN p q (k * c.1, k * c.2) * (g * b.2) < farN p q (g * b.1, g * b.2) * (k * c.2) ∨ (farN p q (k * c.1, k * c.2) * (g * b.2) = farN p q (g * b.1, g * b.2) * (k * c.2) ∧ k * c.1 * (g * b.2) < g * b.1 * (k * c.2))) ↔ (farN p q c * b.2 < farN p q b * c.2 ∨ (farN p q c * b.2 = farN p q b * c.2 ∧ c.1 * b.2 < b.1 * c.2))
  rw [farN_sc hg, farN_sc hk]
  generalize farN p q b = x
  generalize farN p q c = y
  have e1 : k * y * (g * b.2) = g * k * (y * b.2) := by grind
  have e2 : g * x * (k * c.2) = g * k * (x * c.2) := by grind
  have e3 : k * c.1 * (g * b.2) = g * k * (c.1 * b.2) := by grind
  have e4 : g * b.1 * (k * c.2) = g * k * (b.1 * c.2) := by grind
  rw [e1, e2, e3, e4, ← lt_sc gk, ← eq_sc gk, ← lt_sc gk]
/-- the number of a train: its ratio, or what a product is by it -/
def tV (pr : Int) (te : Nat → Int) (t : Nat) : Int × Int := if pr = 0 then (tU te t, tL te t) else (pr * tL te t, tU te t)
/-- no train is nearer -/
def tBest (A : HV) (pr p q : Int) (t : Nat) : Prop := tOk (gN A) t ∧ ∀ t', tOk (gN A) t' → ¬ nrB p q (tV pr (A 3) t) (tV pr (A 3) t')
noncomputable def nearQ (A : HV) (pr p q : Int) : Option Nat := lsQ (tBest A pr p q)
noncomputable def tellP (s : Sv) (pr p q : Int) : Int × Sv := match nearQ (sA s) pr p q with
  | none => (-2, s)
  | some t => (tN t, rowS s (tWl t ++ [rdU (tV pr (sA s 3) t).1 (tV pr (sA s 3) t).2, rdL (tV pr (sA s 3) t).1 (tV pr (sA s 3) t).2, rdU (farN p q (tV pr (sA s 3) t)) (q * (tV pr (sA s 3) t).2), rdL (farN p q (tV pr (sA s 3) t)) (q * (tV pr (sA s 3) t).2)]))
noncomputable def nearestP (s : Sv) (p q : Int) : Int × Sv := if (1 ≤ p ∧ p ≤ 400) ∧ (1 ≤ q ∧ q ≤ 400) then tellP s 0 p q else (-1, s)
noncomputable def leadP (s : Sv) (l : Int) : Int × Sv := if 1 ≤ l ∧ l ≤ 20000 then tellP s (sA s 0 0 * sA s 0 1) l 1 else (-1, s)
