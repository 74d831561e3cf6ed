-- texts read: signs, digits, numbers; the leaves of both
def tsg (T : List Int) (p : Nat) : Int := T.getD p (-1)
theorem tsg_in {T : List Int} {p : Nat} (h : p < T.length) : tsg T p = T.getD p 0 := by
  unfold tsg
  rw [List.getD_eq_getElem?_getD, List.getD_eq_getElem?_getD, List.getElem?_eq_getElem h]; rfl
theorem tsg_out {T : List Int} {p : Nat} (h : T.length ≤ p) : tsg T p = -1 := by
  unfold tsg
  rw [List.getD_eq_getElem?_getD, List.getElem?_eq_none h]; rfl
def dg (T : List Int) (p : Nat) : Prop := 48 ≤ tsg T p ∧ tsg T p ≤ 57
theorem dg_lt {T : List Int} {p : Nat} (h : dg T p) : p < T.length := by
  apply Classical.byContradiction
  intro q
  have := tsg_out (T := T) (p := p) (by omega)
  unfold dg at h; omega
/-- what a sign is in a text of the reference -/
def tkI (i : Nat) (v : Int) : Int := if i = 0 then (if 48 ≤ v ∧ v ≤ 57 then v - 48 else -1) else if i = 1 then (if v = 117 then 0 else if v = 116 then 1 else if v = 98 then 2 else if v = 99 then 3 else if v = 119 then 4 else if v = 103 then 5 else if v = 111 then 6 else -1) else (if v = 43 then 0 else if v = 45 then 1 else -1)
theorem tkI_at : ∀ i, i < 3 → ∀ k, k < txLen.getD i 0 → tkI i (txC i k).toInt = k := by decide
theorem tkI_no {i : Nat} (hi : i < 3) {v : Int} (h : ∀ k, k < txLen.getD i 0 → v ≠ (txC i k).toInt) : tkI i v = -1 := by
  match i, hi with
  | 0, _ =>
    have a0 : v ≠ 48 := h 0 (by decide)
    have a1 : v ≠ 49 := h 1 (by decide)
    have a2 : v ≠ 50 := h 2 (by decide)
    have a3 : v ≠ 51 := h 3 (by decide)
    have a4 : v ≠ 52 := h 4 (by decide)
    have a5 : v ≠ 53 := h 5 (by decide)
    have a6 : v ≠ 54 := h 6 (by decide)
    have a7 : v ≠ 55 := h 7 (by decide)
    have a8 : v ≠ 56 := h 8 (by decide)
    have a9 : v ≠ 57 := h 9 (by decide)
    unfold tkI
    rw [if_pos rfl, if_neg (by omega)]
  | 1, _ =>
    have a0 : v ≠ 117 := h 0 (by decide)
    have a1 : v ≠ 116 := h 1 (by decide)
    have a2 : v ≠ 98 := h 2 (by decide)
    have a3 : v ≠ 99 := h 3 (by decide)
    have a4 : v ≠ 119 := h 4 (by decide)
    have a5 : v ≠ 103 := h 5 (by decide)
    have a6 : v ≠ 111 := h 6 (by decide)
    unfold tkI
    rw [if_neg (by decide), if_pos rfl, if_neg a0, if_neg a1, if_neg a2, if_neg a3, if_neg a4, if_neg a5, if_neg a6]
  | 2, _ =>
    have a0 : v ≠ 43 := h 0 (by decide)
    have a1 : v ≠ 45 := h 1 (by decide)
    unfold tkI
    rw [if_neg (by decide), if_neg (by decide), if_neg a0, if_neg a1]
theorem tkI_end {i : Nat} (hi : i < 3) : tkI i (-1) = -1 := by
  match i, hi with
  | 0, _ => decide
  | 1, _ => decide
  | 2, _ => decide
theorem tkI_lo {i : Nat} {v : Int} : -1 ≤ tkI i v := by
  unfold tkI
  repeat' split
  all_goals omega
theorem tkI_0 {v : Int} : (tkI 0 v < 0 ↔ ¬ (48 ≤ v ∧ v ≤ 57)) ∧ ((48 ≤ v ∧ v ≤ 57) → tkI 0 v = v - 48) := by
  unfold tkI
  rw [if_pos rfl]
  by_cases q : 48 ≤ v ∧ v ≤ 57
  · rw [if_pos q]; exact ⟨⟨fun z => by omega, fun z => absurd q z⟩, fun _ => rfl⟩
  · rw [if_neg q]; exact ⟨⟨fun _ => q, fun _ => by omega⟩, fun z => absurd z q⟩
/-- two digits -/
def nm2 (T : List Int) (p : Nat) : Int := 10 * (tsg T p - 48) + (tsg T (p + 1) - 48)
def nm3 (T : List Int) (p : Nat) : Int := 10 * nm2 T p + (tsg T (p + 2) - 48)
theorem nm2_b {T : List Int} {p : Nat} (h1 : dg T p) (h2 : dg T (p + 1)) : 0 ≤ nm2 T p ∧ nm2 T p ≤ 99 := by unfold dg at h1 h2; unfold nm2; omega
/-- the first of n signs from p on that is no digit -/
def nod (T : List Int) : Nat → Nat → Option Nat
  | 0, _ => none
  | n + 1, p => if 48 ≤ tsg T p ∧ tsg T p ≤ 57 then nod T n (p + 1) else some p
def nodV (o : Option Nat) : Int := match o with
  | none => -1
  | some z => z
theorem nod_b {T : List Int} : ∀ n p q, nod T n p = some q → p ≤ q ∧ q < p + n ∧ q ≤ max p T.length := by
  intro n
  induction n with
  | zero => intro p q h; cases h
  | succ n ih =>
    intro p q h
    unfold nod at h
    by_cases c : 48 ≤ tsg T p ∧ tsg T p ≤ 57
    · rw [if_pos c] at h
      have l := dg_lt (T := T) (p := p) c
      have := ih (p + 1) q h
      omega
    · rw [if_neg c] at h
      have : p = q := Option.some.inj h
      omega
section RdM
variable {X : Ctx} {l : Launch} {D : Dt} {h : Hp} {m : Nat} {Q : Pq} {A : HV} {s : Sv} {T : List Int}
/-- the reference reads T, and stands at a -/
def Rd (h : Hp) (m : Nat) (T : List Int) (a : Nat) : Prop := (gi h m 5).toInt = a ∧ (gi h m 6).toInt = T.length ∧ T.length ≤ 80 ∧ (∀ i, i < T.length → (gi h (m + 2) i).toInt = T.getD i 0) ∧ a ≤ T.length
abbrev FrD5 (m : Nat) (h h' : Hp) : Prop := FrW (fun b j => b = m ∧ j = 5) (fun _ _ => False) h h'
theorem FrD5.rf : FrD5 m h h := FrW.rf (P := fun b j => b = m ∧ j = 5) (R := fun _ _ => False)
theorem Rd.at5 {a b : Nat} (r : Rd h m T a) {v : Int32} (e : v.toInt = b) (hb : b ≤ T.length) : Rd (si h m 5 v) m T b ∧ FrD5 m h (si h m 5 v) := by
  obtain ⟨r1, r2, r3, r4, r5⟩ := r
  refine ⟨⟨by rw [gi_si, if_pos ⟨rfl, rfl⟩]; exact e, by rw [gi_si, if_neg (by omega)]; exact r2, r3, fun i hi => by rw [gi_si, if_neg (by omega)]; exact r4 i hi, hb⟩, FrW.si (P := fun b j => b = m ∧ j = 5) (R := fun _ _ => False) FrW.rf ⟨rfl, rfl⟩⟩
theorem Rd.sgn {a : Nat} (r : Rd h m T a) (ha : a < T.length) : (gi h (m + 2) a).toInt = tsg T a := by rw [tsg_in ha]; exact r.2.2.2.1 a ha
theorem Rd.fr {a : Nat} {P R : Nat → Nat → Prop} {h' : Hp} (r : Rd h m T a) (f : FrW P R h h') (p5 : ¬ P m 5) (p6 : ¬ P m 6) (p2 : ∀ j, ¬ P (m + 2) j) : Rd h' m T a := by
  obtain ⟨r1, r2, r3, r4, r5⟩ := r
  exact ⟨by rw [f.xi p5]; exact r1, by rw [f.xi p6]; exact r2, r3, fun i hi => by rw [f.xi (p2 i)]; exact r4 i hi, r5⟩
theorem ma_takesOf (F : St10 h m) {a i : Nat} (hi : i < 3) (r : Rd h m T a) : S_X10_takesOf l D 0 0 [.ref m, .ref (txK D i)] h (QI fun y h' => y.toInt = tkI i (tsg T a) ∧ Rd h' m T (if tkI i (tsg T a) < 0 then a else a + 1) ∧ FrD5 m h h') := Sp.of rfl (Nat.le_of_ble_eq_true rfl) (fun X C el eD _ _ => by
  subst eD
  refine V_X10_takesOf_0 C ?_
  have tl := tx_len i hi
  have lt : (Int32.ofNat (txLen.getD i 0)).toInt = (txLen.getD i 0 : Nat) := by
    match i, hi with
    | 0, _ => rfl
    | 1, _ => rfl
    | 2, _ => rfl
  obtain ⟨r1, r2, r3, r4, r5⟩ := id r
  have none_ : tkI i (tsg T a) = -1 → ((QI fun y h' => y.toInt = tkI i (tsg T a) ∧ Rd h' m T (if tkI i (tsg T a) < 0 then a else a + 1) ∧ FrD5 m h h') (some (.int (-1))) h) := fun e => ⟨_, rfl, by rw [e]; rfl, by rw [e, if_pos (by omega)]; exact r, FrD5.rf⟩
  have key : ∀ (d k : Nat) (v : Int32), k + d = txLen.getD i 0 → v.toInt = k → (∀ k', k' < k → tsg T a ≠ (txC i k').toInt) → Wj X 0 0 (QI fun y h' => y.toInt = tkI i (tsg T a) ∧ Rd h' m T (if tkI i (tsg T a) < 0 then a else a + 1) ∧ FrD5 m h h') 2 [(0, .ref m), (1, .ref (txK (dtX X) i)), (2, .int v)] [] h := by
    intro d
    induction d with
    | zero =>
      intro k v hk ev no
      refine V_X10_takesOf_2 C ⟨hi, (sf_J0_length hi).mono (fun w h2 hp => ?_)⟩
      obtain ⟨rfl, eh⟩ := hp
      rw [eh]
      refine ⟨_, rfl, fun _ => none_ (tkI_no hi (fun k' hk' => no k' (by omega))), fun q => ?_⟩
      rw [i32_le, lt] at q; omega
    | succ d ih =>
      intro k v hk ev no
      refine V_X10_takesOf_2 C ⟨hi, (sf_J0_length hi).mono (fun w h2 hp => ?_)⟩
      obtain ⟨rfl, eh⟩ := hp
      rw [eh]
      refine ⟨_, rfl, fun q => ?_, fun _ => ⟨F, fun q => ?_, fun q => ⟨hi, ?_⟩⟩⟩
      · exfalso
        rw [i32_le, lt] at q; omega
      · rw [i32_le, r1, r2] at q
        refine none_ ?_
        rw [tsg_out (by omega)]; exact tkI_end hi
      · rw [i32_le, r1, r2] at q
        have al : a < T.length := by omega
        have xv : ix v = k := ix_of ev
        have xa : ix (gi h m 5) = a := ix_of r1
        refine (sf_J0_charAt hi (a := v) ⟨by omega, by omega⟩).mono (fun w h6 hp => ?_)
        obtain ⟨rfl, eh⟩ := hp
        rw [eh]
        refine ⟨_, rfl, F, ⟨by omega, by omega⟩, ?_⟩
        rw [xa, xv]
        have es := r.sgn al
        have ne : (v + Int32.ofInt 1).toInt = (k + 1 : Nat) := by rw [iadd_t] <;> rw [ev, show (Int32.ofInt 1).toInt = 1 from rfl] <;> omega
        refine ⟨fun z => ih (k + 1) _ (by omega) ne (fun k' hk' => ?_), fun z => ⟨v, rfl, ?_⟩⟩
        · by_cases e : k' = k
          · rw [i32_eq, es] at z
            rw [e]; exact fun y => z y.symm
          · exact no k' (by omega)
        · rw [i32_eq, es] at z
          have tk : tkI i (tsg T a) = k := by rw [← z]; exact tkI_at i hi k (by omega)
          have e5 : (gi h m 5 + 1).toInt = (a + 1 : Nat) := by rw [iadd_t] <;> rw [r1, i1_t] <;> omega
          obtain ⟨r', f'⟩ := r.at5 e5 (by omega)
          rw [tk, if_neg (by omega)]
          exact ⟨ev, r', f'⟩
  exact key (txLen.getD i 0) 0 0 (by omega) rfl (fun k' hk' => by omega))
theorem ma_digit (F : St10 h m) {a : Nat} (r : Rd h m T a) : S_X10_digit l D 0 0 [.ref m] h (QI fun y h' => y.toInt = tkI 0 (tsg T a) ∧ Rd h' m T (if tkI 0 (tsg T a) < 0 then a else a + 1) ∧ FrD5 m h h') := Sp.of rfl (Nat.le_of_ble_eq_true rfl) (fun X C _ _ _ _ => V_X10_digit_0 C ⟨F, 0, 0, Nat.zero_le _, Nat.zero_le _, (ma_takesOf F (by decide) r).mono (fun w h2 hp => by
  obtain ⟨y, rfl, hp⟩ := hp
  exact ⟨y, rfl, y, rfl, hp⟩)⟩)
/-- two digits read: the number or -1; where the reference stands then -/
def twQ (T : List Int) (a : Nat) : Int × Nat := if 48 ≤ tsg T a ∧ tsg T a ≤ 57 then (if 48 ≤ tsg T (a + 1) ∧ tsg T (a + 1) ≤ 57 then (nm2 T a, a + 2) else (-1, a + 1)) else (-1, a)
theorem ma_two (F : St10 h m) {a : Nat} (r : Rd h m T a) : S_X10_two l D 0 0 [.ref m] h (QI fun y h' => y.toInt = (twQ T a).1 ∧ Rd h' m T (twQ T a).2 ∧ FrD5 m h h') := Sp.of rfl (Nat.le_of_ble_eq_true rfl) (fun X C _ _ _ _ => V_X10_two_0 C ⟨F, 0, 0, Nat.zero_le _, Nat.zero_le _, (ma_digit F r).mono (fun w h2 hp => by
  obtain ⟨y, rfl, ey, r2, f2⟩ := hp
  have t0 := tkI_0 (v := tsg T a)
  refine ⟨y, rfl, fun q => ⟨f2.st10 F, 0, 0, Nat.zero_le _, Nat.zero_le _, ?_⟩, fun q => V_X10_two_17 C ⟨fun z => absurd z (by decide), fun _ => ⟨_, rfl, ?_⟩⟩⟩
  · rw [i32_le, i0_t, ey] at q
    have c : 48 ≤ tsg T a ∧ tsg T a ≤ 57 := Classical.byContradiction (fun z => by have := t0.1.mpr z; omega)
    rw [if_neg (by omega)] at r2
    have e0 := t0.2 c
    refine (ma_digit (f2.st10 F) r2).mono (fun w h7 hp => ?_)
    obtain ⟨y7, rfl, ey7, r7, f7⟩ := hp
    have t1 := tkI_0 (v := tsg T (a + 1))
    unfold twQ
    rw [if_pos c]
    refine ⟨y7, rfl, V_X10_two_17 C ⟨fun z => ⟨_, rfl, ?_⟩, fun z => ⟨_, rfl, ?_⟩⟩⟩
    · rw [i32_le, i0_t, ey7] at z
      have c1 : 48 ≤ tsg T (a + 1) ∧ tsg T (a + 1) ≤ 57 := Classical.byContradiction (fun z' => by have := t1.1.mpr z'; omega)
      rw [if_neg (by omega)] at r7
      rw [if_pos c1]
      have e1 := t1.2 c1
      refine ⟨?_, r7, f2.tr f7⟩
      have i10 : (10 : Int32).toInt = 10 := rfl
      have m1 : (10 * y).toInt = 10 * (tsg T a - 48) := by rw [imul_t] <;> rw [i10, ey, e0] <;> omega
      unfold nm2
      dsimp only
      rw [iadd_t] <;> rw [m1, ey7, e1] <;> omega
    · rw [i32_le, i0_t, ey7] at z
      have c1 : ¬ (48 ≤ tsg T (a + 1) ∧ tsg T (a + 1) ≤ 57) := fun z' => by have := t1.2 z'; omega
      rw [if_pos (by omega)] at r7
      rw [if_neg c1]
      exact ⟨rfl, r7, f2.tr f7⟩
  · rw [i32_le, i0_t, ey] at q
    have c : ¬ (48 ≤ tsg T a ∧ tsg T a ≤ 57) := fun z => by have := t0.2 z; omega
    rw [if_pos (by omega)] at r2
    unfold twQ
    rw [if_neg c]
    exact ⟨rfl, r2, f2⟩)⟩)
theorem ma_takes (F : St10 h m) {a : Nat} (r : Rd h m T a) {v : Int32} (v0 : 0 ≤ v.toInt) : S_X10_takes l D 0 0 [.ref m, .int v] h (QI fun y h' => (y = 0 ∧ tsg T a ≠ v.toInt ∧ Rd h' m T a ∨ y ≠ 0 ∧ tsg T a = v.toInt ∧ a < T.length ∧ Rd h' m T (a + 1)) ∧ FrD5 m h h') := Sp.of rfl (Nat.le_of_ble_eq_true rfl) (fun X C _ _ _ _ => V_X10_takes_0 C (by
  obtain ⟨r1, r2, r3, r4, r5⟩ := id r
  have no : tsg T a ≠ v.toInt → Wj X 0 0 (QI fun y h' => (y = 0 ∧ tsg T a ≠ v.toInt ∧ Rd h' m T a ∨ y ≠ 0 ∧ tsg T a = v.toInt ∧ a < T.length ∧ Rd h' m T (a + 1)) ∧ FrD5 m h h') 29 [(0, .ref m)] [.int 0] h := fun e => by
    have e5 : (gi h m 5 + flg 0).toInt = a := by rw [flg0, iadd_t] <;> rw [r1, i0_t] <;> omega
    obtain ⟨r', f'⟩ := r.at5 e5 r5
    exact V_X10_takes_29 C ⟨F, Or.inl rfl, _, rfl, Or.inl ⟨rfl, e, r'⟩, f'⟩
  refine ⟨F, fun q => no ?_, fun q => ?_⟩
  all_goals rw [i32_le, r1, r2] at q
  · rw [tsg_out (by omega)]; omega
  · have al : a < T.length := by omega
    have xa : ix (gi h m 5) = a := ix_of r1
    have es := r.sgn al
    refine ⟨⟨by omega, by omega⟩, ?_⟩
    rw [xa]
    refine ⟨fun z => no ?_, fun z => ?_⟩
    all_goals rw [i32_eq, es] at z
    · exact z
    · have e5 : (gi h m 5 + flg 1).toInt = (a + 1 : Nat) := by rw [flg1, iadd_t] <;> rw [r1, i1_t] <;> omega
      obtain ⟨r', f'⟩ := r.at5 e5 (by omega)
      exact V_X10_takes_29 C ⟨F, Or.inr rfl, _, rfl, Or.inr ⟨by decide, z, al, r'⟩, f'⟩))
end RdM
section RdC
variable {X : Ctx} {l : Launch} {D : Dt} {h : Hp} {t : Nat} {T : List Int}
theorem TxC.sgn (F : TxC h t T) {p : Int32} {q : Nat} (e : p.toInt = q) : (tAt h t p).toInt = tsg T q := by
  obtain ⟨f1, f2, f3⟩ := F
  unfold tAt
  by_cases c : q < T.length
  · rw [if_pos (by omega), ix_of e, f3 q c, tsg_in c]
  · rw [if_neg (by omega), tsg_out (by omega)]; rfl
theorem TxC.dig (F : TxC h t T) {p : Int32} {q : Nat} (e : p.toInt = q) : (tDg h t p = 0 ↔ ¬ dg T q) := by
  have a := F.sgn e
  unfold tDg dg
  rw [a]
  by_cases c : 48 ≤ tsg T q ∧ tsg T q ≤ 57
  · rw [if_pos c]; exact ⟨fun z => absurd z (by decide), fun z => absurd c z⟩
  · rw [if_neg c]; exact ⟨fun _ => c, fun _ => rfl⟩
theorem cl_noDigit (F7 : St7 h t) (F : TxC h t T) {p v : Int32} {q n : Nat} (ep : p.toInt = q) (ev : v.toInt = n) (hq : q ≤ 90) (hn : n ≤ 4) : S_X7_firstNoDigit l D 0 0 [.ref t, .int p, .int v] h (QI fun y h' => y.toInt = nodV (nod T n q) ∧ h' = h) := Sp.of rfl (Nat.le_of_ble_eq_true rfl) (fun X C _ _ _ _ => V_X7_firstNoDigit_0 C (by
  have key : ∀ (d k : Nat) (w : Int32), k + d = n → w.toInt = k → nod T n q = nod T d (q + k) → Wj X 0 0 (QI fun y h' => y.toInt = nodV (nod T n q) ∧ h' = h) 2 [(0, .ref t), (1, .int p), (2, .int v), (3, .int w)] [] h := by
    intro d
    induction d with
    | zero =>
      intro k w hk ew e
      refine V_X7_firstNoDigit_2 C ⟨fun _ => ⟨_, rfl, ?_, rfl⟩, fun z => ?_⟩
      · rw [e]; rfl
      · rw [i32_le] at z; omega
    | succ d ih =>
      intro k w hk ew e
      have ea : (p + w).toInt = (q + k : Nat) := by rw [iadd_t] <;> rw [ep, ew] <;> omega
      have nx : (w + Int32.ofInt 1).toInt = (k + 1 : Nat) := by rw [iadd_t] <;> rw [ew, show (Int32.ofInt 1).toInt = 1 from rfl] <;> omega
      have dd := F.dig ea
      unfold dg at dd
      refine V_X7_firstNoDigit_2 C ⟨fun z => ?_, fun _ => ⟨F7, fun z => ?_, fun z => ?_⟩⟩
      · exfalso
        rw [i32_le] at z; omega
      · refine ih (k + 1) _ (by omega) nx ?_
        rw [e]
        have c : 48 ≤ tsg T (q + k) ∧ tsg T (q + k) ≤ 57 := Classical.byContradiction (fun y => z (dd.mpr y))
        show (if 48 ≤ tsg T (q + k) ∧ tsg T (q + k) ≤ 57 then nod T d (q + k + 1) else some (q + k)) = nod T d (q + (k + 1))
        rw [if_pos c]; rfl
      · refine ⟨_, rfl, ?_, rfl⟩
        have c := dd.mp z
        have e2 : nod T (d + 1) (q + k) = some (q + k) := by
          show (if 48 ≤ tsg T (q + k) ∧ tsg T (q + k) ≤ 57 then nod T d (q + k + 1) else some (q + k)) = some (q + k)
          rw [if_neg c]
        rw [e, e2]; exact ea
  exact key n 0 0 (by omega) rfl rfl))
/-- the number of n signs -/
def nmN (T : List Int) (p : Nat) : Nat → Int
  | 0 => 0
  | n + 1 => 10 * nmN T p n + tsg T (p + n) - 48
theorem nmN_2 {T : List Int} {p : Nat} : nmN T p 2 = nm2 T p := by unfold nmN nmN nmN nm2; rw [Nat.add_zero]; omega
theorem nmN_3 {T : List Int} {p : Nat} : nmN T p 3 = nm3 T p := by unfold nm3; rw [← nmN_2]; show 10 * nmN T p 2 + tsg T (p + 2) - 48 = _; omega
theorem cl_number (F7 : St7 h t) (F : TxC h t T) {p v : Int32} {q n : Nat} (ep : p.toInt = q) (ev : v.toInt = n) (hq : q ≤ 90) (hn : n ≤ 4) (hd : ∀ i, i < n → dg T (q + i)) : S_X7_number l D 0 0 [.ref t, .int p, .int v] h (QI fun y h' => y.toInt = nmN T q n ∧ h' = h) := Sp.of rfl (Nat.le_of_ble_eq_true rfl) (fun X C _ _ _ _ => V_X7_number_0 C (by
  have i10 : (10 : Int32).toInt = 10 := rfl
  have i48 : (48 : Int32).toInt = 48 := rfl
  have key : ∀ (d k : Nat) (u w : Int32), k + d = n → w.toInt = k → u.toInt = nmN T q k → 0 ≤ nmN T q k → nmN T q k < 10 ^ k → Wj X 0 0 (QI fun y h' => y.toInt = nmN T q n ∧ h' = h) 5 [(0, .ref t), (1, .int p), (2, .int v), (3, .int u), (4, .int w)] [] h := by
    intro d
    induction d with
    | zero =>
      intro k u w hk ew eu u0 u1
      have : k = n := by omega
      subst this
      refine V_X7_number_5 C ⟨fun _ => ⟨_, rfl, eu, rfl⟩, fun z => ?_⟩
      rw [i32_le] at z; omega
    | succ d ih =>
      intro k u w hk ew eu u0 u1
      have ea : (p + w).toInt = (q + k : Nat) := by rw [iadd_t] <;> rw [ep, ew] <;> omega
      have nx : (w + Int32.ofInt 1).toInt = (k + 1 : Nat) := by rw [iadd_t] <;> rw [ew, show (Int32.ofInt 1).toInt = 1 from rfl] <;> omega
      have dk := hd k (by omega)
      unfold dg at dk
      have es := F.sgn ea
      have k4 : nmN T q k < 10000 := by
        have : k = 0 ∨ k = 1 ∨ k = 2 ∨ k = 3 := by omega
        rcases this with e | e | e | e <;> rw [e] at u1 ⊢ <;> simp at u1 <;> omega
      have t1 : (10 * u).toInt = 10 * nmN T q k := by rw [imul_t] <;> rw [i10, eu] <;> omega
      have t2 : (10 * u + tAt h t (p + w)).toInt = 10 * nmN T q k + tsg T (q + k) := by rw [iadd_t] <;> rw [t1, es] <;> omega
      have t3 : (10 * u + tAt h t (p + w) - 48).toInt = nmN T q (k + 1) := by rw [isub_t] <;> rw [t2, i48] <;> first | rfl | omega
      have b3 : nmN T q (k + 1) = 10 * nmN T q k + tsg T (q + k) - 48 := rfl
      refine V_X7_number_5 C ⟨fun z => ?_, fun _ => ⟨F7, ?_⟩⟩
      · exfalso
        rw [i32_le] at z; omega
      · first
          | exact ih (k + 1) _ _ (by omega) nx t3 (by omega) (by rw [Int.pow_succ]; omega)
          | (intro z ez; exact ih (k + 1) _ _ (by omega) nx (by rw [ez]; exact t3) (by omega) (by rw [Int.pow_succ]; omega))
  exact key n 0 0 0 (by omega) rfl rfl (Int.le_refl _) (by show (0 : Int) < 10 ^ 0; decide)))
end RdC
