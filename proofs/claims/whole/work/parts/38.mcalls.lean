-- the reference's calls: what it holds as one value
abbrev Sv : Type := HV × Nat × (Nat → HV) × (Nat → Option HV) × List Int × List Int
abbrev sA (s : Sv) : HV := s.1
abbrev sN (s : Sv) : Nat := s.2.1
abbrev sB (s : Sv) : Nat → HV := s.2.2.1
abbrev sK (s : Sv) : Nat → Option HV := s.2.2.2.1
abbrev sR (s : Sv) : List Int := s.2.2.2.2.1
abbrev sT (s : Sv) : List Int := s.2.2.2.2.2
/-- another head, what was can be undone -/
def pushS (s : Sv) (A : HV) : Sv := (A, pushN (sN s), pushB (sN s) (sB s) (sA s), sK s, sR s, sT s)
def rowS (s : Sv) (R : List Int) : Sv := (sA s, sN s, sB s, sK s, R, sT s)
def txtS (s : Sv) (T : List Int) : Sv := (sA s, sN s, sB s, sK s, sR s, T)
def actP (f : HV → Int × HV) (s : Sv) : Int × Sv := ((f (sA s)).1, if 0 ≤ (f (sA s)).1 then pushS s (f (sA s)).2 else s)
def inM (m b : Nat) : Prop := m ≤ b ∧ b < m + 17
def RwM (h : Hp) (m : Nat) (R : List Int) : Prop := (gi h m 1).toInt = R.length ∧ R.length ≤ 60 ∧ ∀ i, i < R.length → (gl h (m + 1) i).toInt = R.getD i 0
def TxM (h : Hp) (m : Nat) (T : List Int) : Prop := (gi h m 4).toInt = T.length ∧ T.length ≤ 80 ∧ ∀ i, i < T.length → (gi h (m + 2) i).toInt = T.getD i 0
def MSt (h : Hp) (m : Nat) (s : Sv) : Prop := MdS h m (sA s) (sN s) (sB s) (sK s) ∧ RwM h m (sR s) ∧ TxM h m (sT s)
section Ms
variable {h h' h2 h4 : Hp} {m : Nat} {P R : Nat → Nat → Prop} {s : Sv}
theorem FrW.toM (f : FrW P R h h') (p : ∀ b j, P b j → inM m b) (r : ∀ b j, R b j → inM m b) : FrO (inM m) h h' := by
  obtain ⟨f1, f2, f3, f4, f5, f6⟩ := f
  exact ⟨f1, f2, f3, f4, fun b hb j => ⟨f5 b j (fun q => hb (p b j q)), f6 b j (fun q => hb (r b j q))⟩⟩
theorem RwM.fr {L : List Int} (w : RwM h m L) (f : FrW P R h h') (p : ¬ P m 1) (r : ∀ j, ¬ R (m + 1) j) : RwM h' m L := by
  unfold RwM at *
  rw [f.xi p]
  exact ⟨w.1, w.2.1, fun i hi => by rw [f.xl (r i)]; exact w.2.2 i hi⟩
theorem TxM.fr {L : List Int} (w : TxM h m L) (f : FrW P R h h') (p : ¬ P m 4) (r : ∀ j, ¬ P (m + 2) j) : TxM h' m L := by
  unfold TxM at *
  rw [f.xi p]
  exact ⟨w.1, w.2.1, fun i hi => by rw [f.xi (r i)]; exact w.2.2 i hi⟩
theorem RwM.clr (v : Int32) (hv : v.toInt = 0) : RwM (si h m 1 v) m [] := ⟨by rw [gi_si, if_pos ⟨rfl, rfl⟩, hv]; rfl, by simp, fun i hi => by simp at hi⟩
theorem getD_app (L : List Int) (x : Int) (i : Nat) (hi : i < L.length + 1) : (L ++ [x]).getD i 0 = if i = L.length then x else L.getD i 0 := by
  by_cases e : i = L.length
  · rw [if_pos e, e]; simp
  · rw [if_neg e]
    simp only [List.getD_eq_getElem?_getD]
    rw [List.getElem?_append_left (by omega)]
theorem men_gi (h : Hp) (m : Nat) (v : Int64) (b j : Nat) : gi (men h m v) b j = if b = m ∧ j = 1 then gi h m 1 + 1 else gi h b j := by
  unfold men; rw [gi_si, gi_sl]
theorem men_gl (h : Hp) (m : Nat) (v : Int64) (b j : Nat) : gl (men h m v) b j = if b = m + 1 ∧ j = ix (gi h m 1) then v else gl h b j := by
  unfold men; rw [gl_si, gl_sl]
theorem RwM.men {L : List Int} (w : RwM h m L) (hl : L.length < 60) {v : Int64} {z : Int} (hz : v.toInt = z) : RwM (men h m v) m (L ++ [z]) := by
  obtain ⟨w1, w2, w3⟩ := w
  have e : (gi h m 1 + 1).toInt = L.length + 1 := by rw [iadd_t] <;> rw [i1_t, w1] <;> omega
  have ei : ix (gi h m 1) = L.length := by unfold ix; omega
  refine ⟨?_, by simp; omega, fun i hi => ?_⟩
  · rw [men_gi, if_pos ⟨rfl, rfl⟩, e]; simp
  · rw [List.length_append] at hi
    rw [men_gl, ei, getD_app L z i hi]
    by_cases q : i = L.length
    · rw [if_pos ⟨rfl, q⟩, if_pos q, hz]
    · rw [if_neg (fun z => q z.2), if_neg q]
      exact w3 i (by have : ([z] : List Int).length = 1 := rfl; omega)
theorem RwM.ib {L : List Int} (w : RwM h m L) (hl : L.length ≤ 60) : inb (gi h m 1) 64 ∧ (L.length ≤ 59 → inb (gi h m 1) 63) := by
  unfold inb
  rw [w.1]
  omega
/-- where a row is written -/
def rI (m b j : Nat) : Prop := b = m ∧ j = 1
def rL (m b j : Nat) : Prop := b = m + 1
theorem FrW.men (f : FrW P R h h') (hp : P m 1) (hr : ∀ j, R (m + 1) j) {v : Int64} : FrW P R h (men h' m v) := (f.sl (hr _)).si hp
theorem MSt.fr (S : MSt h m s) (f : FrW P R h h') (p1 : ∀ j, j < 183 ∨ 305 ≤ j → ¬ P (m + 3) j) (p2 : ¬ P m 9) (p3 : ∀ j, ¬ P (m + 16) j) (r1 : ∀ j, j < 366 ∨ 610 ≤ j → ¬ R (m + 4) j) (q1 : ¬ P m 1) (q2 : ∀ j, ¬ R (m + 1) j) (q3 : ¬ P m 4) (q4 : ∀ j, ¬ P (m + 2) j) : MSt h' m s :=
  ⟨S.1.fr f p1 p2 p3 r1, S.2.1.fr f q1 q2, S.2.2.fr f q3 q4⟩
theorem MSt.t0 (S : MSt h m s) : MSt (si h m 0 0) m s ∧ FrO (inM m) h (si h m 0 0) := by
  have f : FrW (fun b j => b = m ∧ j = 0) (fun _ _ => False) h (si h m 0 0) := FrW.rf.si ⟨rfl, rfl⟩
  exact ⟨S.fr f (fun j _ q => by have := q.1; omega) (fun q => by have := q.2; omega) (fun j q => by have := q.1; omega) (fun _ _ => id) (fun q => by have := q.2; omega) (fun _ => id) (fun q => by have := q.2; omega) (fun j q => by have := q.1; omega), f.toM (fun b j q => ⟨by have := q.1; omega, by have := q.1; omega⟩) (fun _ _ q => absurd q id)⟩
/-- the row told anew -/
theorem MSt.row (S : MSt h m s) (f : FrW (rI m) (rL m) h h') {L : List Int} (w : RwM h' m L) : MSt h' m (rowS s L) ∧ FrO (inM m) h h' := by
  refine ⟨⟨S.1.fr f (fun j _ q => by have := q.1; omega) (fun q => by have := q.2; omega) (fun j q => by have := q.1; omega) (fun j _ q => by have : m + 4 = m + 1 := q; omega), w, S.2.2.fr f (fun q => by have := q.2; omega) (fun j q => by have := q.1; omega)⟩, f.toM (fun b j q => ⟨by have := q.1; omega, by have := q.1; omega⟩) (fun b j q => by have : b = m + 1 := q; exact ⟨by omega, by omega⟩)⟩
/-- laid aside, then another head: all that is known ahead of 'done' -/
theorem act_mid (S : MSt h m s) (c : Cpd (si h m 0 0) h2 m 0 3) : MdR h2 m (sA s) ∧ MSt h2 m s ∧ MK h2 m 3 (sA s) ∧ FrO (inM m) h h2 := by
  obtain ⟨S1, f1⟩ := S.t0
  have S2 : MSt h2 m s := S1.fr c.1 (fun j hj q => by have := q.2; omega) (fun q => by have := q.1; omega) (fun j q => by have := q.1; omega) (fun j hj q => by have := q.2; omega) (fun q => by have := q.1; omega) (fun j q => by have := q.1; omega) (fun q => by have := q.1; omega) (fun j q => by have := q.1; omega)
  exact ⟨S2.1.md, S2, MK.cpd S1.1.2.1 S1.1.va c, f1.tr (c.1.toM (fun b j q => ⟨by have := q.1; omega, by have := q.1; omega⟩) (fun b j q => ⟨by have := q.1; omega, by have := q.1; omega⟩))⟩
theorem act_end (S : MSt h2 m s) (H3 : MK h2 m 3 (sA s)) {A' : HV} (f : FrA m h2 h4) (H4 : MdR h4 m A') (V' : VA A') : MSt h4 m (A', sN s, sB s, sK s, sR s, sT s) ∧ MK h4 m 3 (sA s) ∧ FrO (inM m) h2 h4 := by
  refine ⟨⟨S.1.now f (fun j hj q => ?_) (fun q => ?_) (fun j q => ?_) (fun j hj q => ?_) H4.2 V', S.2.1.fr f (fun q => ?_) (fun j q => ?_), S.2.2.fr f (fun q => ?_) (fun j q => ?_)⟩, H3.fr S.1.va f (fun j h1 h2 q => ?_) (fun j h1 h2 q => ?_), f.toM (fun b j q => ?_) (fun b j q => ?_)⟩
  all_goals first | (unfold aI at q; omega) | (unfold aL at q; omega) | (unfold aI at q; unfold inM; omega) | (unfold aL at q; unfold inM; omega)
theorem done_end {n : Nat} {B : Nat → HV} {K : Nat → Option HV} {A' : HV} {Rr Tt : List Int} (S : MSt h4 m (A', n, B, K, Rr, Tt)) {h7 : Hp} (f : FrW (uI m) (uL m) h4 h7) {n' : Nat} {B' : Nat → HV} (D : MdS h7 m A' n' B' K) : MSt h7 m (A', n', B', K, Rr, Tt) ∧ FrO (inM m) h4 h7 := by
  refine ⟨⟨D, S.2.1.fr f (fun q => ?_) (fun j q => ?_), S.2.2.fr f (fun q => ?_) (fun j q => ?_)⟩, f.toM (fun b j q => ?_) (fun b j q => ?_)⟩
  all_goals first | (unfold uI at q; omega) | (unfold uL at q; omega) | (unfold uI at q; unfold inM; omega) | (unfold uL at q; unfold inM; omega)
end Ms
section Calls
variable {l : Launch} {D : Dt} {h : Hp} {m : Nat} {s : Sv}
theorem ma_enters {L : List Int} (F : St10 h m) (w : RwM h m L) (hl : L.length < 60) {v : Int64} {z : Int} (hz : v.toInt = z) : S_X10_enters l D 0 0 [.ref m, .long v] h (QV fun h' => RwM h' m (L ++ [z]) ∧ FrW (rI m) (rL m) h h') :=
  (sf_X10_enters F (w.ib (by omega)).1).mono (fun x h' hp => by
    obtain ⟨rfl, rfl⟩ := hp
    exact ⟨rfl, w.men hl hz, FrW.rf.men ⟨rfl, by omega⟩ (fun j => rfl)⟩)
theorem ma_entersPart {L : List Int} (F : St10 h m) (w : RwM h m L) (hl : L.length < 59) {u v : Int64} {x y : Int} (hu : u.toInt = x) (hv : v.toInt = y) (hx : -9000000000000000000 ≤ x) (hy : 0 < y) : S_X10_entersPart l D 0 0 [.ref m, .long u, .long v] h (QV fun h' => RwM h' m (L ++ [rdU x y, rdL x y]) ∧ FrW (rI m) (rL m) h h') :=
  (sf_X10_entersPart F (by omega) (by omega) ((w.ib (by omega)).2 (by omega))).mono (fun z h' hp => by
    obtain ⟨rfl, rfl⟩ := hp
    obtain ⟨e1, e2⟩ := fr_x (u := u) (w := v) (by omega)
    rw [hu, hv] at e1 e2
    have w1 := w.men (by omega) e1
    have w2 := w1.men (by simp; omega) e2
    rw [List.append_assoc] at w2
    exact ⟨rfl, w2, (FrW.rf.men ⟨rfl, by omega⟩ (fun j => rfl)).men ⟨rfl, by omega⟩ (fun j => rfl)⟩)
/-- 'done' at the end of an act -/
theorem act_done {f : HV → Int × HV} (hneg : ∀ A, VA A → (f A).1 < 0 → (f A).2 = A) {h4 : Hp} (S : MSt h4 m ((f (sA s)).2, sN s, sB s, sK s, sR s, sT s)) (H3 : MK h4 m 3 (sA s)) (V : VA (sA s)) (f0 : FrO (inM m) h h4) {x : Int32} (ex : x.toInt = (f (sA s)).1) : S_X10_done l D 0 0 [.ref m, .int x] h4 (QI fun x8 h7 => (QI fun y h' => y.toInt = (actP f s).1 ∧ MSt h' m (actP f s).2 ∧ FrO (inM m) h h') (some (.int x8)) h7) := by
  refine (ma_done S.1 H3 V).mono (fun w h7 hp => ?_)
  obtain ⟨y, rfl, rfl, hd, f7⟩ := hp
  refine ⟨y, rfl, y, rfl, ex, ?_⟩
  unfold actP
  rw [ex] at hd
  by_cases q : 0 ≤ (f (sA s)).1
  · rw [if_pos q] at hd
    have e := done_end S f7 hd
    dsimp only
    rw [if_pos q]
    exact ⟨e.1, f0.tr e.2⟩
  · rw [if_neg q] at hd
    have e := done_end S f7 hd
    dsimp only
    rw [if_neg q]
    rw [hneg _ V (by omega)] at e
    exact ⟨e.1, f0.tr e.2⟩
theorem chooseP_neg (k : Int) (A : HV) (V : VA A) (h : (chooseP A k).1 < 0) : (chooseP A k).2 = A := by
  have vc := V.circ
  unfold chooseP at *
  by_cases h1 : 0 ≤ k ∧ k < A 0 3
  · rw [if_pos h1] at h ⊢
    by_cases h2 : k = A 0 5
    · rw [if_pos h2]
    · rw [if_neg h2] at h
      dsimp only at h; omega
  · rw [if_neg h1]
theorem takeOutP_neg (A : HV) (V : VA A) (h : (takeOutP A).1 < 0) : (takeOutP A).2 = A := by
  have vc := V.wheels
  unfold takeOutP at *
  by_cases h2 : A 0 6 = 0
  · rw [if_pos h2]
  · rw [if_neg h2] at h
    dsimp only at h; omega
theorem wipeP_neg (A : HV) (V : VA A) (h : (wipeP A).1 < 0) : (wipeP A).2 = A := by
  have vc := V.marks
  have : (wipeP A).1 = A 0 7 := rfl
  omega
theorem scribeP_neg (A : HV) (V : VA A) (h : (scribeP A).1 < 0) : (scribeP A).2 = A := by
  have vc := V.marks
  unfold scribeP at *
  split at h
  · rename_i q; rw [if_pos q]
  · rename_i q
    split at h
    · dsimp only at h; omega
    · rename_i q2; rw [if_neg q, if_neg q2]
theorem windQ_neg (A : HV) (q : Int) (h : (windQ A q).1 < 0) : (windQ A q).2 = A := by
  unfold windQ at *
  split at h
  · dsimp only at h; omega
  · rename_i q2; rw [if_neg q2]
theorem windP_01 (A : HV) (t c b : Int) : (windP A t c b).1 = 0 ∨ (windP A t c b).1 < 0 := by
  unfold windP
  split
  · generalize (if b = 1 then -(t * Hc A + c) else t * Hc A + c) = q
    unfold windQ
    split
    · exact Or.inl rfl
    · exact Or.inr (show (-4 : Int) < 0 by decide)
  · exact Or.inr (show (-1 : Int) < 0 by decide)
theorem windP_neg (t c b : Int) (A : HV) (V : VA A) (h : (windP A t c b).1 < 0) : (windP A t c b).2 = A := by
  unfold windP at *
  split at h
  · rename_i q; rw [if_pos q]; exact windQ_neg A _ h
  · rename_i q; rw [if_neg q]
theorem putInP_neg (a b c d e : Int) (A : HV) (V : VA A) (h : (putInP A a b c d e).1 < 0) : (putInP A a b c d e).2 = A := by
  unfold putInP at *
  split at h
  · rename_i q
    rw [if_pos q]
    split at h
    · rename_i q2; rw [if_pos q2]
    · dsimp only at h
      split at h <;> omega
  · rename_i q; rw [if_neg q]
theorem ma_act {x : Int32} {h2 h4 : Hp} {f : HV → Int × HV} (hneg : ∀ A, VA A → (f A).1 < 0 → (f A).2 = A) (hva : ∀ A, VA A → VA (f A).2) (S2 : MSt h2 m s) (K2 : MK h2 m 3 (sA s)) (f2 : FrO (inM m) h h2) (ex : x.toInt = (f (sA s)).1) (H4 : MdR h4 m (f (sA s)).2) (f4 : FrA m h2 h4) : S_X10_done l D 0 0 [.ref m, .int x] h4 (QI fun x8 h7 => (QI fun y h' => y.toInt = (actP f s).1 ∧ MSt h' m (actP f s).2 ∧ FrO (inM m) h h') (some (.int x8)) h7) := by
  obtain ⟨e1, e2, e3⟩ := act_end S2 K2 f4 H4 (hva _ S2.1.va)
  exact act_done hneg e1 e2 S2.1.va (f2.tr e3) ex
theorem ma_uses (S : MSt h m s) {k : Int32} : S_X10_uses l D 0 0 [.ref m, .int k] h (QI fun y h' => y.toInt = (actP (chooseP · k.toInt) s).1 ∧ MSt h' m (actP (chooseP · k.toInt) s).2 ∧ FrO (inM m) h h') := Sp.of rfl (Nat.le_of_ble_eq_true rfl) (fun X C _ _ _ _ => V_X10_uses_0 C (by
  refine ⟨S.1.1, (ma_copies (h := si h m 0 0) (a := 0) (b := 3) S.1.1 rfl rfl (by omega) (by omega) (by omega)).mono (fun w h2 hp => ?_)⟩
  obtain ⟨rfl, c⟩ := hp
  obtain ⟨H2, S2, K2, f2⟩ := act_mid S c
  refine ⟨rfl, H2.1, (ma_usesOne H2 S2.1.va).mono (fun w h4 hp => ?_)⟩
  obtain ⟨x, rfl, ex, H4, f4⟩ := hp
  exact ⟨x, rfl, H4.1, ma_act (f := (chooseP · k.toInt)) (chooseP_neg k.toInt) (fun A V => V.choose _) S2 K2 f2 ex H4 f4⟩))
theorem ma_ungeared (S : MSt h m s) : S_X10_ungeared l D 0 0 [.ref m] h (QI fun y h' => y.toInt = (actP takeOutP s).1 ∧ MSt h' m (actP takeOutP s).2 ∧ FrO (inM m) h h') := Sp.of rfl (Nat.le_of_ble_eq_true rfl) (fun X C _ _ _ _ => V_X10_ungeared_0 C (by
  refine ⟨S.1.1, (ma_copies (h := si h m 0 0) (a := 0) (b := 3) S.1.1 rfl rfl (by omega) (by omega) (by omega)).mono (fun w h2 hp => ?_)⟩
  obtain ⟨rfl, c⟩ := hp
  obtain ⟨H2, S2, K2, f2⟩ := act_mid S c
  refine ⟨rfl, H2.1, (ma_ungearedOne H2 S2.1.va).mono (fun w h4 hp => ?_)⟩
  obtain ⟨x, rfl, ex, H4, f4⟩ := hp
  exact ⟨x, rfl, H4.1, ma_act (f := takeOutP) takeOutP_neg (fun A V => V.takeOut) S2 K2 f2 ex H4 f4⟩))
theorem ma_cuts (S : MSt h m s) : S_X10_cuts l D 0 0 [.ref m] h (QI fun y h' => y.toInt = (actP scribeP s).1 ∧ MSt h' m (actP scribeP s).2 ∧ FrO (inM m) h h') := Sp.of rfl (Nat.le_of_ble_eq_true rfl) (fun X C _ _ _ _ => V_X10_cuts_0 C (by
  refine ⟨S.1.1, (ma_copies (h := si h m 0 0) (a := 0) (b := 3) S.1.1 rfl rfl (by omega) (by omega) (by omega)).mono (fun w h2 hp => ?_)⟩
  obtain ⟨rfl, c⟩ := hp
  obtain ⟨H2, S2, K2, f2⟩ := act_mid S c
  refine ⟨rfl, H2.1, (ma_cutsOne H2 S2.1.va).mono (fun w h4 hp => ?_)⟩
  obtain ⟨x, rfl, ex, H4, f4⟩ := hp
  exact ⟨x, rfl, H4.1, ma_act (f := scribeP) scribeP_neg (fun A V => V.scribe) S2 K2 f2 ex H4 f4⟩))
theorem ma_wipes (S : MSt h m s) : S_X10_wipes l D 0 0 [.ref m] h (QI fun y h' => y.toInt = (actP wipeP s).1 ∧ MSt h' m (actP wipeP s).2 ∧ FrO (inM m) h h') := Sp.of rfl (Nat.le_of_ble_eq_true rfl) (fun X C _ _ _ _ => V_X10_wipes_0 C (by
  refine ⟨S.1.1, (ma_copies (h := si h m 0 0) (a := 0) (b := 3) S.1.1 rfl rfl (by omega) (by omega) (by omega)).mono (fun w h2 hp => ?_)⟩
  obtain ⟨rfl, c⟩ := hp
  obtain ⟨H2, S2, K2, f2⟩ := act_mid S c
  refine ⟨rfl, H2.1, (ma_wipesOne H2 S2.1.va).mono (fun w h4 hp => ?_)⟩
  obtain ⟨x, rfl, ex, H4, f4⟩ := hp
  exact ⟨x, rfl, H4.1, ma_act (f := wipeP) wipeP_neg (fun A V => V.wipe) S2 K2 f2 ex H4 f4⟩))
/-- an act that tells two numbers of the head, if it is done -/
def act2P (f : HV → Int × HV) (i j : Nat) (s : Sv) : Int × Sv := ((f (sA s)).1, if 0 ≤ (f (sA s)).1 then rowS (pushS s (f (sA s)).2) [(f (sA s)).2 0 i, (f (sA s)).2 0 j] else s)
theorem act2_of {f : HV → Int × HV} {i j : Nat} {s : Sv} {a b : Int} (q : 0 ≤ (f (sA s)).1) (e1 : a = (f (sA s)).2 0 i) (e2 : b = (f (sA s)).2 0 j) : act2P f i j s = actP f (rowS s [a, b]) := by
  unfold act2P actP
  have : sA (rowS s [a, b]) = sA s := rfl
  rw [this, if_pos q, if_pos q, e1, e2]
  rfl
theorem act2_no {f : HV → Int × HV} {i j : Nat} {s : Sv} (q : ¬ 0 ≤ (f (sA s)).1) : act2P f i j s = actP f s := by
  unfold act2P actP
  rw [if_neg q, if_neg q]
theorem act_row {A' : HV} {n : Nat} {B : Nat → HV} {K : Nat → Option HV} {R T : List Int} {h4 h9 : Hp} (S : MSt h4 m (A', n, B, K, R, T)) (H3 : MK h4 m 3 (sA s)) (V : VA (sA s)) (f : FrW (rI m) (rL m) h4 h9) {L : List Int} (w : RwM h9 m L) : MSt h9 m (A', n, B, K, L, T) ∧ MK h9 m 3 (sA s) ∧ FrO (inM m) h4 h9 := by
  obtain ⟨e1, e2⟩ := S.row f w
  exact ⟨e1, H3.fr V f (fun j _ _ q => by have := q.1; omega) (fun j _ _ q => by have : m + 4 = m + 1 := q; omega), e2⟩
theorem ma_cranks (S : MSt h m s) {t c b : Int32} : S_X10_cranks l D 0 0 [.ref m, .int t, .int c, .int b] h (QI fun y h' => y.toInt = (act2P (windP · t.toInt c.toInt b.toInt) 10 11 s).1 ∧ MSt h' m (act2P (windP · t.toInt c.toInt b.toInt) 10 11 s).2 ∧ FrO (inM m) h h') := Sp.of rfl (Nat.le_of_ble_eq_true rfl) (fun X C _ _ _ _ => V_X10_cranks_0 C (by
  refine ⟨S.1.1, (ma_copies (h := si h m 0 0) (a := 0) (b := 3) S.1.1 rfl rfl (by omega) (by omega) (by omega)).mono (fun w h2 hp => ?_)⟩
  obtain ⟨rfl, cc⟩ := hp
  obtain ⟨H2, S2, K2, f2⟩ := act_mid S cc
  refine ⟨rfl, H2.1, (ma_turnsOne H2 S2.1.va).mono (fun w h4 hp => ?_)⟩
  obtain ⟨x, rfl, ex, H4, f4⟩ := hp
  have Vw := S2.1.va.wind t.toInt c.toInt b.toInt
  obtain ⟨e1, e2, e3⟩ := act_end S2 K2 f4 H4 Vw
  refine ⟨x, rfl, fun q => V_X10_cranks_50 C ⟨H4.1, ?_⟩, fun q => ⟨H4.1, ?_⟩⟩
  · have q2 : ¬ 0 ≤ (windP (sA s) t.toInt c.toInt b.toInt).1 := by
      rw [i32_eq, i0_t, ex] at q
      rcases windP_01 (sA s) t.toInt c.toInt b.toInt with z | z <;> omega
    rw [act2_no (f := (windP · t.toInt c.toInt b.toInt)) q2]
    exact act_done (f := (windP · t.toInt c.toInt b.toInt)) (windP_neg _ _ _) e1 e2 S2.1.va (f2.tr e3) ex
  · have q2 : 0 ≤ (windP (sA s) t.toInt c.toInt b.toInt).1 := by rw [i32_eq, i0_t, ex] at q; omega
    refine (ma_enters (h := si h4 m 1 0) (L := []) H4.1 (RwM.clr 0 rfl) (by decide) (v := gl h4 (m + 4) (ix 0)) (z := (windP (sA s) t.toInt c.toInt b.toInt).2 0 10) (by rw [ix_0]; exact H4.up)).mono (fun w h7 hp => ?_)
    obtain ⟨rfl, w7, f7⟩ := hp
    have f47 : FrW (rI m) (rL m) h4 h7 := (FrW.rf.si (v := 0) ⟨rfl, by omega⟩).tr f7
    have F7 := f47.st10 H4.1
    have g7 : (gl h7 (m + 4) (ix 1)).toInt = (windP (sA s) t.toInt c.toInt b.toInt).2 0 11 := by rw [ix_1, f47.xl (fun q => by have : m + 4 = m + 1 := q; omega)]; exact H4.low
    refine ⟨rfl, F7, (ma_enters F7 w7 (by simp) g7).mono (fun w h9 hp => ?_)⟩
    obtain ⟨rfl, w9, f9⟩ := hp
    obtain ⟨r1, r2, r3⟩ := act_row e1 e2 S2.1.va (f47.tr f9) w9
    refine ⟨rfl, V_X10_cranks_50 C ⟨r1.1.1, ?_⟩⟩
    rw [act2_of (f := (windP · t.toInt c.toInt b.toInt)) q2 rfl rfl]
    exact act_done (s := rowS s [(windP (sA s) t.toInt c.toInt b.toInt).2 0 10, (windP (sA s) t.toInt c.toInt b.toInt).2 0 11]) (f := (windP · t.toInt c.toInt b.toInt)) (windP_neg _ _ _) r1 r2 S2.1.va ((f2.tr e3).tr r3) ex))
theorem ma_geared (S : MSt h m s) {a b c d e : Int32} : S_X10_geared l D 0 0 [.ref m, .int a, .int b, .int c, .int d, .int e] h (QI fun y h' => y.toInt = (act2P (putInP · a.toInt b.toInt c.toInt d.toInt e.toInt) 8 9 s).1 ∧ MSt h' m (act2P (putInP · a.toInt b.toInt c.toInt d.toInt e.toInt) 8 9 s).2 ∧ FrO (inM m) h h') := Sp.of rfl (Nat.le_of_ble_eq_true rfl) (fun X C _ _ _ _ => V_X10_geared_0 C (by
  refine ⟨S.1.1, (ma_copies (h := si h m 0 0) (a := 0) (b := 3) S.1.1 rfl rfl (by omega) (by omega) (by omega)).mono (fun w h2 hp => ?_)⟩
  obtain ⟨rfl, cc⟩ := hp
  obtain ⟨H2, S2, K2, f2⟩ := act_mid S cc
  refine ⟨rfl, H2.1, (ma_gearedOne H2 S2.1.va).mono (fun w h4 hp => ?_)⟩
  obtain ⟨x, rfl, ex, H4, f4, lf⟩ := hp
  have Vw := S2.1.va.putIn a.toInt b.toInt c.toInt d.toInt e.toInt
  obtain ⟨e1, e2, e3⟩ := act_end S2 K2 f4 H4 Vw
  refine ⟨x, rfl, fun q => V_X10_geared_46 C ⟨H4.1, ?_⟩, fun q => ⟨H4.1, ?_⟩⟩
  · rw [i32_lt, i0_t, ex] at q
    rw [act2_no (f := (putInP · a.toInt b.toInt c.toInt d.toInt e.toInt)) (by omega)]
    exact act_done (f := (putInP · a.toInt b.toInt c.toInt d.toInt e.toInt)) (putInP_neg _ _ _ _ _) e1 e2 S2.1.va (f2.tr e3) ex
  · rw [i32_lt, i0_t] at q
    obtain ⟨l1, l2, l3, l4, l5, l6⟩ := lf (by omega)
    rw [ex] at q
    have q2 : 0 ≤ (putInP (sA s) a.toInt b.toInt c.toInt d.toInt e.toInt).1 := by omega
    have hok : okPut (sA s) a.toInt b.toInt c.toInt d.toInt e.toInt := Classical.not_not.mp (fun z => by
      unfold putInP at q2
      rw [if_neg z] at q2
      exact absurd q2 (show ¬ (0 : Int) ≤ -1 by decide))
    have hne : ¬ rdU (gupP (sA s) a.toInt c.toInt d.toInt) (glwP (sA s) b.toInt c.toInt d.toInt) * e.toInt = (sA s) 0 0 * rdL (gupP (sA s) a.toInt c.toInt d.toInt) (glwP (sA s) b.toInt c.toInt d.toInt) := fun z => by
      unfold putInP at q2
      rw [if_pos hok, if_pos z] at q2
      exact absurd q2 (show ¬ (0 : Int) ≤ -4 by decide)
    have eB : (putInP (sA s) a.toInt b.toInt c.toInt d.toInt e.toInt).2 = putInV (sA s) (gupP (sA s) a.toInt c.toInt d.toInt) (glwP (sA s) b.toInt c.toInt d.toInt) e.toInt (if twoP c.toInt d.toInt then 2 else 4) := by
      unfold putInP
      rw [if_pos hok, if_neg hne]
    obtain ⟨⟨u1, u2⟩, w1, w2⟩ := S2.1.va.prods hok
    have mu : mUp (si h4 m 1 0) m = mUp h4 m := by
      unfold mUp
      simp only [gi_si]
      simp
    have ml : mLw (si h4 m 1 0) m = mLw h4 m := by
      unfold mLw
      simp only [gi_si]
      simp
    have g7 : ∀ j, gi (si h4 m 1 0) (m + 7) j = gi h4 (m + 7) j := fun j => by rw [gi_si, if_neg (by omega)]
    have g18 : gi (si h4 m 1 0) m 18 = gi h4 m 18 := by rw [gi_si, if_neg (by omega)]
    rw [g7, g7, g7, g7, g18, mu, ml]
    refine ⟨l3, l4, l5, l6, (ma_entersPart (h := si h4 m 1 0) (L := []) H4.1 (RwM.clr 0 rfl) (by decide) l1 l2 (by omega) w1).mono (fun w h7 hp => ?_)⟩
    obtain ⟨rfl, w7, f7⟩ := hp
    obtain ⟨r1, r2, r3⟩ := act_row e1 e2 S2.1.va ((FrW.rf.si (v := 0) ⟨rfl, by omega⟩).tr f7) w7
    refine ⟨rfl, V_X10_geared_46 C ⟨r1.1.1, ?_⟩⟩
    rw [act2_of (f := (putInP · a.toInt b.toInt c.toInt d.toInt e.toInt)) q2 (a := rdU (gupP (sA s) a.toInt c.toInt d.toInt) (glwP (sA s) b.toInt c.toInt d.toInt)) (b := rdL (gupP (sA s) a.toInt c.toInt d.toInt) (glwP (sA s) b.toInt c.toInt d.toInt)) (by rw [eB]; rfl) (by rw [eB]; rfl)]
    exact act_done (s := rowS s [rdU (gupP (sA s) a.toInt c.toInt d.toInt) (glwP (sA s) b.toInt c.toInt d.toInt), rdL (gupP (sA s) a.toInt c.toInt d.toInt) (glwP (sA s) b.toInt c.toInt d.toInt)]) (f := (putInP · a.toInt b.toInt c.toInt d.toInt e.toInt)) (putInP_neg _ _ _ _ _) r1 r2 S2.1.va ((f2.tr e3).tr r3) ex))
end Calls
