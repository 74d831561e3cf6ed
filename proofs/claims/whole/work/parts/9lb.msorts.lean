-- the reference's heap sort
def chd (c i : Nat) : Prop := c = 2 * i + 1 ∨ c = 2 * i + 2
def HpF (a : Nat → Int) (f n : Nat) : Prop := ∀ i c, f ≤ i → chd c i → c < n → a c ≤ a i
def SmV (a b : Nat → Int) (n : Nat) : Prop := (∀ j, j < n → ∃ i, i < n ∧ b j = a i) ∧ ∀ j, j < n → ∃ i, i < n ∧ a j = b i
def swp (a : Nat → Int) (i j : Nat) : Nat → Int := fun k => if k = j then a i else if k = i then a j else a k
theorem swp_j {a : Nat → Int} {i j : Nat} : swp a i j j = a i := by unfold swp; rw [if_pos rfl]
theorem swp_i {a : Nat → Int} {i j : Nat} (h : i ≠ j) : swp a i j i = a j := by unfold swp; rw [if_neg h, if_pos rfl]
theorem swp_o {a : Nat → Int} {i j k : Nat} (h : k ≠ i) (h' : k ≠ j) : swp a i j k = a k := by unfold swp; rw [if_neg h', if_neg h]
theorem SmV.rf {a : Nat → Int} {n : Nat} : SmV a a n := ⟨fun j hj => ⟨j, hj, rfl⟩, fun j hj => ⟨j, hj, rfl⟩⟩
theorem SmV.tr {a b c : Nat → Int} {n : Nat} (p : SmV a b n) (q : SmV b c n) : SmV a c n := by
  refine ⟨fun j hj => ?_, fun j hj => ?_⟩
  · obtain ⟨i, hi, e⟩ := q.1 j hj
    obtain ⟨i', hi', e'⟩ := p.1 i hi
    exact ⟨i', hi', by rw [e, e']⟩
  · obtain ⟨i, hi, e⟩ := p.2 j hj
    obtain ⟨i', hi', e'⟩ := q.2 i hi
    exact ⟨i', hi', by rw [e, e']⟩
theorem smv_swp {a : Nat → Int} {n i j : Nat} (hi : i < n) (hj : j < n) : SmV a (swp a i j) n := by
  by_cases e : i = j
  · subst e
    refine ⟨fun k hk => ⟨k, hk, ?_⟩, fun k hk => ⟨k, hk, ?_⟩⟩
    all_goals
      by_cases z : k = i
      · rw [z, swp_j]
      · rw [swp_o z z]
  · refine ⟨fun k hk => ?_, fun k hk => ?_⟩
    · by_cases z : k = j
      · exact ⟨i, hi, by rw [z, swp_j]⟩
      · by_cases z' : k = i
        · exact ⟨j, hj, by rw [z', swp_i e]⟩
        · exact ⟨k, hk, swp_o z' z⟩
    · by_cases z : k = j
      · exact ⟨i, hi, by rw [z, swp_i e]⟩
      · by_cases z' : k = i
        · exact ⟨j, hj, by rw [z', swp_j]⟩
        · exact ⟨k, hk, (swp_o z' z).symm⟩
theorem SmV.more {a b : Nat → Int} {n N : Nat} (p : SmV a b n) (h : ∀ j, n ≤ j → b j = a j) (hN : n ≤ N) : SmV a b N := by
  refine ⟨fun j hj => ?_, fun j hj => ?_⟩
  · by_cases c : j < n
    · obtain ⟨i, hi, e⟩ := p.1 j c
      exact ⟨i, by omega, e⟩
    · exact ⟨j, hj, h j (by omega)⟩
  · by_cases c : j < n
    · obtain ⟨i, hi, e⟩ := p.2 j c
      exact ⟨i, by omega, e⟩
    · exact ⟨j, hj, (h j (by omega)).symm⟩
theorem heap_top {a : Nat → Int} {n : Nat} (H : HpF a 0 n) (j : Nat) (hj : j < n) : a j ≤ a 0 := by
  induction j using Nat.strongRecOn with
  | ind j ih =>
    by_cases z : j = 0
    · rw [z]; exact Int.le_refl _
    · have h1 := H ((j - 1) / 2) j (by omega) (by unfold chd; omega) hj
      have h2 := ih ((j - 1) / 2) (by omega) (by omega)
      omega
theorem sink_step {b : Nat → Int} {f n k ch : Nat} (hf : f ≤ k) (hc : chd ch k) (I1 : ∀ i c, f ≤ i → i ≠ k → chd c i → c < n → b c ≤ b i) (I2 : ∀ p c, f ≤ p → chd k p → chd c k → c < n → b c ≤ b p) (mx : ∀ c, chd c k → c < n → b c ≤ b ch) (hn : ch < n) (lt : b k < b ch) : (∀ i c, f ≤ i → i ≠ ch → chd c i → c < n → swp b k ch c ≤ swp b k ch i) ∧ (∀ p c, f ≤ p → chd ch p → chd c ch → c < n → swp b k ch c ≤ swp b k ch p) := by
  have hk : k < ch := by unfold chd at hc; omega
  refine ⟨fun i c hi hne hci hcn => ?_, fun p c hp hpc hcc hcn => ?_⟩
  · have hic : i < c := by unfold chd at hci; omega
    by_cases e : i = k
    · subst e
      rw [swp_i (by omega)]
      by_cases e2 : c = ch
      · rw [e2, swp_j]; omega
      · rw [swp_o (by omega) e2]; exact mx c hci hcn
    · rw [swp_o e hne]
      have e2 : c ≠ ch := fun z => by
        rw [z] at hci; unfold chd at hci hc; omega
      by_cases e3 : c = k
      · rw [e3, swp_i (by omega)]
        rw [e3] at hci
        exact I2 i ch hi hci hc hn
      · rw [swp_o e3 e2]; exact I1 i c hi e hci hcn
  · have ep : p = k := by unfold chd at hpc hc; omega
    have h1 : ch < c := by unfold chd at hcc; omega
    rw [ep, swp_i (by omega), swp_o (by omega) (by omega)]
    exact I1 ch c (by omega) (by omega) hcc hcn
def gv (h : Hp) (m : Nat) (k : Nat) : Int := (gl h (m + 9) k).toInt
abbrev FrZ (m : Nat) (h h' : Hp) : Prop := FrW (fun _ _ => False) (fun b _ => b = m + 9) h h'
theorem gv_swp {h : Hp} {m i j : Nat} : gv (sl (sl h (m + 9) i (gl h (m + 9) j)) (m + 9) j (gl h (m + 9) i)) m = swp (gv h m) i j := by
  funext k
  unfold swp gv
  rw [gl_sl]
  by_cases e : k = j
  · rw [if_pos ⟨rfl, e⟩, if_pos e]
  · rw [if_neg (fun q => e q.2), if_neg e, gl_sl]
    by_cases e2 : k = i
    · rw [if_pos ⟨rfl, e2⟩, if_pos e2]
    · rw [if_neg (fun q => e2 q.2), if_neg e2]
section MSo
variable {X : Ctx} {l : Launch} {D : Dt} {h : Hp} {m : Nat} {Q : Pq} {A : HV} {s : Sv}
theorem FrZ.sw (i j : Nat) : FrZ m h (sl (sl h (m + 9) i (gl h (m + 9) j)) (m + 9) j (gl h (m + 9) i)) :=
  FrW.sl (P := fun _ _ => False) (R := fun b _ => b = m + 9) (FrW.sl (P := fun _ _ => False) (R := fun b _ => b = m + 9) FrW.rf rfl) rfl
theorem ma_sinks (F : St10 h m) {v1 v2 : Int32} {f n : Nat} (e1 : v1.toInt = f) (e2 : v2.toInt = n) (hn : n ≤ 12100) (hf : f ≤ n) (H : HpF (gv h m) (f + 1) n) : S_X10_sinks l D 0 0 [.ref m, .int v1, .int v2] h (QV fun h' => HpF (gv h' m) f n ∧ SmV (gv h m) (gv h' m) n ∧ (∀ j, n ≤ j → gv h' m j = gv h m j) ∧ FrZ m h h') := Sp.of rfl (Nat.le_of_ble_eq_true rfl) (fun X C _ _ _ _ => V_X10_sinks_0 C (by
  have i2 : (2 : Int32).toInt = 2 := rfl
  have o1 : (Int32.ofInt 1).toInt = 1 := rfl
  have key : ∀ (d k : Nat) (h1 : Hp) (v3 : Int32), n ≤ k + d → v3.toInt = k → f ≤ k → k ≤ n → (∀ i c, f ≤ i → i ≠ k → chd c i → c < n → gv h1 m c ≤ gv h1 m i) → (∀ p c, f ≤ p → chd k p → chd c k → c < n → gv h1 m c ≤ gv h1 m p) → SmV (gv h m) (gv h1 m) n → (∀ j, n ≤ j → gv h1 m j = gv h m j) → FrZ m h h1 → Wj X 0 0 (QV fun h' => HpF (gv h' m) f n ∧ SmV (gv h m) (gv h' m) n ∧ (∀ j, n ≤ j → gv h' m j = gv h m j) ∧ FrZ m h h') 2 [(0, .ref m), (2, .int v2), (3, .int v3)] [] h1 := by
    intro d
    induction d with
    | zero =>
      intro k h1 v3 hd e3 hk hkn I1 I2 sm un fr
      have m1 : (2 * v3).toInt = 2 * k := by rw [imul_t] <;> rw [i2, e3] <;> omega
      have a1 : (2 * v3 + 1).toInt = 2 * k + 1 := by rw [iadd_t] <;> rw [m1, i1_t] <;> omega
      refine V_X10_sinks_2 C ⟨fun _ => ⟨rfl, fun i c hi hc hcn => ?_, sm, un, fr⟩, fun q => ?_⟩
      · exact I1 i c hi (fun z => by rw [z] at hc; unfold chd at hc; omega) hc hcn
      · rw [i32_le, e2, a1] at q; omega
    | succ d ih =>
      intro k h1 v3 hd e3 hk hkn I1 I2 sm un fr
      have m1 : (2 * v3).toInt = 2 * k := by rw [imul_t] <;> rw [i2, e3] <;> omega
      have a1 : (2 * v3 + 1).toInt = 2 * k + 1 := by rw [iadd_t] <;> rw [m1, i1_t] <;> omega
      have F1 : St10 h1 m := fr.st10 F
      have p49 : ∀ (ch : Nat) (v4 : Int32), v4.toInt = ch → chd ch k → ch < n → (∀ c, chd c k → c < n → gv h1 m c ≤ gv h1 m ch) → Wj X 0 0 (QV fun h' => HpF (gv h' m) f n ∧ SmV (gv h m) (gv h' m) n ∧ (∀ j, n ≤ j → gv h' m j = gv h m j) ∧ FrZ m h h') 49 [(0, .ref m), (2, .int v2), (3, .int v3), (4, .int v4)] [] h1 := by
        intro ch v4 e4 hc hcn mx
        have hlt : k < ch := by unfold chd at hc; omega
        have x3 : ix v3 = k := ix_of e3
        have x4 : ix v4 = ch := ix_of e4
        refine V_X10_sinks_49 C ⟨F1, by unfold inb; omega, by unfold inb; omega, fun q => ?_, fun q => ?_⟩
        all_goals rw [x3, x4] at q
        · rw [x3, x4]
          rw [i64_lt] at q
          have st := sink_step hk hc I1 I2 mx hcn q
          have f2 : FrZ m h1 (sl (sl h1 (m + 9) k (gl h1 (m + 9) ch)) (m + 9) ch (gl h1 (m + 9) k)) := FrZ.sw k ch
          refine ih ch _ v4 (by omega) e4 (by omega) (by omega) ?_ ?_ ?_ ?_ (fr.tr f2)
          · rw [gv_swp]; exact st.1
          · rw [gv_swp]; exact st.2
          · rw [gv_swp]; exact sm.tr (smv_swp (by omega) (by omega))
          · rw [gv_swp]; intro j hj; rw [swp_o (by omega) (by omega)]; exact un j hj
        · rw [i64_lt] at q
          have q : ¬ gv h1 m k < gv h1 m ch := q
          refine ⟨rfl, fun i c hi hci hcn2 => ?_, sm, un, fr⟩
          by_cases z : i = k
          · subst z
            have := mx c hci hcn2
            omega
          · exact I1 i c hi z hci hcn2
      refine V_X10_sinks_2 C ⟨fun q => ⟨rfl, fun i c hi hc hcn => ?_, sm, un, fr⟩, fun q => ?_⟩
      all_goals rw [i32_le, e2, a1] at q
      · exact I1 i c hi (fun z => by rw [z] at hc; unfold chd at hc; omega) hc hcn
      · generalize 2 * v3 + 1 = w at *
        have b1 : (w + 1).toInt = 2 * k + 2 := by rw [iadd_t] <;> rw [a1, i1_t] <;> omega
        have b2 : (w + Int32.ofInt 1).toInt = 2 * k + 2 := by rw [iadd_t] <;> rw [a1, o1] <;> omega
        have y1 : ix w = 2 * k + 1 := by unfold ix; omega
        have y2 : ix (w + 1) = 2 * k + 2 := by unfold ix; omega
        refine ⟨fun q2 => ?_, fun q2 => ⟨F1, (by rw [i32_le, e2, b1] at q2; unfold inb; omega), (by unfold inb; omega), fun q3 => ?_, fun q3 => ?_⟩⟩
        all_goals rw [i32_le, e2, b1] at q2
        · refine p49 (2 * k + 1) w (by omega) (Or.inl rfl) (by omega) (fun c hc hcn => ?_)
          have : c = 2 * k + 1 := by unfold chd at hc; omega
          rw [this]; exact Int.le_refl _
        all_goals
          rw [y1, y2, i64_le] at q3
        · have q3 : gv h1 m (2 * k + 2) ≤ gv h1 m (2 * k + 1) := q3
          refine p49 (2 * k + 1) w (by omega) (Or.inl rfl) (by omega) (fun c hc hcn => ?_)
          rcases hc with e | e
          · rw [e]; exact Int.le_refl _
          · rw [e]; exact q3
        · have q3 : ¬ gv h1 m (2 * k + 2) ≤ gv h1 m (2 * k + 1) := q3
          refine p49 (2 * k + 2) _ (by omega) (Or.inr rfl) (by omega) (fun c hc hcn => ?_)
          rcases hc with e | e
          · rw [e]; omega
          · rw [e]; exact Int.le_refl _
  refine key (n + 1) f h v1 (by omega) e1 (Nat.le_refl _) hf (fun i c hi hne hc hcn => H i c (by omega) hc hcn) (fun p c hp hpk hc hcn => ?_) SmV.rf (fun _ _ => rfl) FrW.rf
  unfold chd at hpk; omega))
theorem ma_sorts (F : St10 h m) {n : Nat} (en : (gi h m 28).toInt = n) (hn : n ≤ 12100) : S_X10_sorts l D 0 0 [.ref m] h (QV fun h' => (∀ j, j + 1 < n → gv h' m j ≤ gv h' m (j + 1)) ∧ SmV (gv h m) (gv h' m) n ∧ FrZ m h h') := Sp.of rfl (Nat.le_of_ble_eq_true rfl) (fun X C _ _ _ _ => V_X10_sorts_0 C (by
  have i2 : (2 : Int32).toInt = 2 := rfl
  have om1 : (Int32.ofInt (-1)).toInt = -1 := rfl
  have nx : ∀ (v : Int32) (k : Nat), v.toInt = k → k ≤ 12100 → ∃ p, v + Int32.ofInt (-1) = p ∧ p.toInt = (k : Int) - 1 := fun v k e hk => by
    refine ⟨_, rfl, ?_⟩
    rw [iadd_t] <;> rw [e, om1] <;> omega
  have last : ∀ (c : Nat) (h1 : Hp) (v1 : Int32), v1.toInt = (c : Int) - 1 → c ≤ n → HpF (gv h1 m) 0 c → (∀ j, c ≤ j → j + 1 < n → gv h1 m j ≤ gv h1 m (j + 1)) → (∀ i j, i < c → c ≤ j → j < n → gv h1 m i ≤ gv h1 m j) → SmV (gv h m) (gv h1 m) n → FrZ m h h1 → Wj X 0 0 (QV fun h' => (∀ j, j + 1 < n → gv h' m j ≤ gv h' m (j + 1)) ∧ SmV (gv h m) (gv h' m) n ∧ FrZ m h h') 35 [(0, .ref m), (1, .int v1)] [] h1 := by
    intro c
    induction c with
    | zero =>
      intro h1 v1 ev hc H1 H2 H3 sm fr
      refine V_X10_sorts_35 C ⟨fun _ => ⟨rfl, fun j hj => H2 j (by omega) hj, sm, fr⟩, fun q => ?_⟩
      rw [i32_le, i0_t] at q; omega
    | succ q ih =>
      intro h1 v1 ev hc H1 H2 H3 sm fr
      have ev : v1.toInt = q := by omega
      have F1 : St10 h1 m := fr.st10 F
      refine V_X10_sorts_35 C ⟨fun z => ⟨rfl, fun j hj => ?_, sm, fr⟩, fun z => ⟨F1, by unfold inb; omega, ?_⟩⟩
      all_goals rw [i32_le, i0_t] at z
      · by_cases c1 : q + 1 ≤ j
        · exact H2 j c1 hj
        · exact H3 j (j + 1) (by omega) (by omega) (by omega)
      · have xq : ix v1 = q := ix_of ev
        obtain ⟨p, ep, tp⟩ := nx v1 q ev (by omega)
        rw [ix_0, xq, ep]
        have f2 : FrZ m h1 (sl (sl h1 (m + 9) 0 (gl h1 (m + 9) q)) (m + 9) q (gl h1 (m + 9) 0)) := FrZ.sw 0 q
        have g2 : gv (sl (sl h1 (m + 9) 0 (gl h1 (m + 9) q)) (m + 9) q (gl h1 (m + 9) 0)) m = swp (gv h1 m) 0 q := gv_swp
        generalize sl (sl h1 (m + 9) 0 (gl h1 (m + 9) q)) (m + 9) q (gl h1 (m + 9) 0) = h2 at *
        refine (ma_sinks (f2.st10 F1) (v1 := 0) (v2 := v1) (f := 0) (n := q) rfl ev (by omega) (by omega) (fun i c hi hci hcn => ?_)).mono (fun r h3 hp => ?_)
        · have : i < c := by unfold chd at hci; omega
          rw [g2, swp_o (by omega) (by omega), swp_o (by omega) (by omega)]
          exact H1 i c (by omega) hci (by omega)
        · obtain ⟨rfl, s1, s2, s3, s4⟩ := hp
          rw [g2] at s2 s3
          have top := heap_top H1
          refine ⟨rfl, ih h3 p tp (by omega) s1 (fun j hj hjn => ?_) (fun i j hi hj hjn => ?_) ?_ ((fr.tr f2).tr s4)⟩
          · rw [s3 j hj, s3 (j + 1) (by omega)]
            rw [swp_o (k := j + 1) (by omega) (by omega)]
            by_cases e : j = q
            · rw [e, swp_j]; exact H3 0 (q + 1) (by omega) (by omega) (by omega)
            · rw [swp_o (by omega) e]; exact H2 j (by omega) hjn
          · obtain ⟨i', hi', ei⟩ := s2.1 i hi
            rw [ei, s3 j hj]
            have up : ∃ i'', i'' < q + 1 ∧ swp (gv h1 m) 0 q i' = gv h1 m i'' := by
              by_cases e : i' = 0
              · exact ⟨q, by omega, by rw [e, swp_i (by omega)]⟩
              · exact ⟨i', by omega, swp_o e (by omega)⟩
            obtain ⟨i'', hi'', e''⟩ := up
            rw [e'']
            by_cases e : j = q
            · rw [e, swp_j]; exact top i'' hi''
            · rw [swp_o (by omega) e]; exact H3 i'' j hi'' (by omega) hjn
          · exact (sm.tr (smv_swp (i := 0) (j := q) (by omega) (by omega))).tr (s2.more s3 (by omega))
  have first : ∀ (k : Nat) (h1 : Hp) (v1 : Int32), v1.toInt = (k : Int) - 1 → k ≤ n → HpF (gv h1 m) k n → SmV (gv h m) (gv h1 m) n → FrZ m h h1 → Wj X 0 0 (QV fun h' => (∀ j, j + 1 < n → gv h' m j ≤ gv h' m (j + 1)) ∧ SmV (gv h m) (gv h' m) n ∧ FrZ m h h') 9 [(0, .ref m), (1, .int v1)] [] h1 := by
    intro k
    induction k with
    | zero =>
      intro h1 v1 ev hk H1 sm fr
      have e28 : (gi h1 m 28).toInt = n := by rw [fr.xi id]; exact en
      refine V_X10_sorts_9 C ⟨fun _ => ⟨fr.st10 F, last n h1 _ ?_ (Nat.le_refl _) H1 (fun j hj hjn => by omega) (fun i j _ hj hjn => by omega) sm fr⟩, fun q => ?_⟩
      · rw [isub_t] <;> rw [e28, i1_t] <;> omega
      · rw [i32_lt, i0_t] at q; omega
    | succ k ih =>
      intro h1 v1 ev hk H1 sm fr
      have ev : v1.toInt = k := by omega
      have F1 : St10 h1 m := fr.st10 F
      have e28 : (gi h1 m 28).toInt = n := by rw [fr.xi id]; exact en
      refine V_X10_sorts_9 C ⟨fun q => ?_, fun _ => ⟨F1, ?_⟩⟩
      · rw [i32_lt, i0_t] at q; omega
      · obtain ⟨p, ep, tp⟩ := nx v1 k ev (by omega)
        rw [ep]
        refine (ma_sinks F1 ev e28 hn (by omega) H1).mono (fun r h3 hp => ?_)
        obtain ⟨rfl, s1, s2, s3, s4⟩ := hp
        exact ⟨rfl, ih h3 p tp (by omega) s1 (sm.tr s2) (fr.tr s4)⟩
  have d2 : (gi h m 28 / 2).toInt = (n / 2 : Nat) := by
    rw [idiv_p (by omega) (by rw [i2]; omega), en, i2]; omega
  refine ⟨F, first (n / 2) h _ ?_ (by omega) (fun i c hi hc hcn => ?_) SmV.rf FrW.rf⟩
  · rw [isub_t] <;> rw [d2, i1_t] <;> omega
  · unfold chd at hc; omega))
end MSo
