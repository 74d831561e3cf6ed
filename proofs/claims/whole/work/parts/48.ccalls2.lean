-- the class's calls: undone, kept, counted, signs
section Build
variable {X : Ctx} {l : Launch} {D : Dt} {h h' : Hp} {x m : Nat} {s s' : Sv} {Z : Nat → Prop}
theorem CSt.build (S : CSt h x m s) (f : FrX Z h h') (hx : ∀ b, x < b → b < x + 15 → ¬ Z b) (gx : ∀ j, j < 10 ∨ j = 14 → gr h' x j = gr h x j) (P' : PtsOK h' x m (ptr h' x)) (hd : Heads h' (ptr h' x) s') (hva : VAs s') (g10 : (gi h' x 10).toInt = sN s' ∧ sN s' ≤ 7) (hR : sR s' = sR s) (hT : sT s' = sT s) (hsh : ∀ z b, gr h x 14 = some z → z ≤ b → b < z + 6 → ¬ Z b) (hdis : ∀ z i a, gr h x 14 = some z → i < 11 → ptr h' x i = some a → a + 9 ≤ z ∨ z + 6 ≤ a) (hC : ∀ b, b < hn h → Z b → inC x m b) : CSt h' x m s' ∧ FrX (inC x m) h h' := by
  obtain ⟨F, hm, pt, -, -, sn, td, tx, sh⟩ := id S
  have oth : ∀ b j, x < b → b < x + 15 → gi h' b j = gi h b j ∧ gl h' b j = gl h b j ∧ gr h' b j = gr h b j := fun b j h1 h2 => (f.2 b (by omega)).2 (hx b h1 h2) j
  refine ⟨⟨St9_ext F (fun b h1 h2 => (f.2 b (by omega)).1) (fun b j h1 h2 h3 => ?_), ⟨hm.1, by have := f.1; omega, hm.2.2.fx f (fun q => by have c := hC 0 (by omega) q; have := hm.2.2.1; unfold inC at c; omega) (by omega) (gx 14 (Or.inr rfl))⟩, P', hd, hva, g10, ?_, ?_, fun z ez => ?_⟩, f.mono hC⟩
  · by_cases q : b = x
    · subst q; exact gx j (Or.inl (h3 rfl))
    · exact (oth b j (by omega) (by omega)).2.2
  · rw [hR]
    unfold TdC at *
    rw [(oth (x + 3) 1 (by omega) (by omega)).1]
    exact ⟨td.1, td.2.1, fun i hi => by rw [(oth (x + 3 + 1) i (by omega) (by omega)).2.1]; exact td.2.2 i hi⟩
  · rw [hT]
    unfold TxC at *
    rw [(oth (x + 1) 1 (by omega) (by omega)).1]
    exact ⟨tx.1, tx.2.1, fun i hi => by rw [(oth (x + 1 + 1) i (by omega) (by omega)).1]; exact tx.2.2 i hi⟩
  · rw [gx 14 (Or.inr rfl)] at ez
    obtain ⟨q1, q2, q3, q4⟩ := sh z ez
    exact ⟨q1.frX f (fun b h1 h2 => hsh z b ez h1 h2) q3, q2, by have := f.1; omega, fun i b hi e => hdis z i b ez hi e⟩
def sw (k i : Nat) : Nat := if i = 0 then 2 + k else if i = 2 + k then 0 else i
theorem sw_inj {k i j : Nat} (hij : i ≠ j) : sw k i ≠ sw k j := by
  unfold sw
  by_cases a : i = 0
  · rw [if_pos a, if_neg (by omega)]
    by_cases b : j = 2 + k
    · rw [if_pos b]; omega
    · rw [if_neg b]; omega
  · rw [if_neg a]
    by_cases a2 : i = 2 + k
    · rw [if_pos a2]
      by_cases b : j = 0
      · rw [if_pos b]; omega
      · rw [if_neg b, if_neg (by omega)]; omega
    · rw [if_neg a2]
      by_cases b : j = 0
      · rw [if_pos b]; omega
      · rw [if_neg b]
        by_cases b2 : j = 2 + k
        · rw [if_pos b2]; omega
        · rw [if_neg b2]; omega
theorem sw_lt {k i : Nat} (hk : k < 7) (hi : i < 11) : sw k i < 11 := by
  unfold sw
  by_cases a : i = 0
  · rw [if_pos a]; omega
  · rw [if_neg a]
    by_cases a2 : i = 2 + k
    · rw [if_pos a2]; omega
    · rw [if_neg a2]; exact hi
theorem ca_undo (S : CSt h x m s) : S_X9_undo l D 0 0 [.ref x] h (QI fun y h' => y.toInt = (undoP s).1 ∧ CSt h' x m (undoP s).2 ∧ FrX (inC x m) h h') := Sp.of rfl (Nat.le_of_ble_eq_true rfl) (fun X C _ _ _ _ => V_X9_undo_0 C (by
  obtain ⟨F, hm, pt, hd, va, sn, td, tx, sh⟩ := id S
  unfold undoP
  refine ⟨F, fun q => ⟨_, rfl, ?_⟩, fun q => ⟨fun q1 => ?_, fun q1 => ?_⟩⟩
  all_goals rw [i32_le, i0_t, sn.1] at q
  · rw [if_pos (by omega)]; exact ⟨rfl, S, FrX.rf⟩
  · rw [if_neg (by omega)]
    have em : (gi h x 10 - 1).toInt = ((sN s - 1 : Nat) : Int) := by rw [isub_t] <;> rw [i1_t, sn.1] <;> omega
    have ei : ix (gi h x 10 - 1) = sN s - 1 := ix_of em
    have eg : gi (si h x 10 (gi h x 10 - 1)) x 10 = gi h x 10 - 1 := by rw [gi_si, if_pos ⟨rfl, rfl⟩]
    rw [eg, ei]
    have ib : inb (gi h x 10 - 1) 7 := ⟨by omega, by omega⟩
    obtain ⟨b, eb, Hb⟩ := hd.2.2.1 (sN s - 1) (by omega)
    have eb' : gr h (x + 15) (sN s - 1) = some b := by rw [← ptr_past _ _ (by omega)]; exact eb
    obtain ⟨a, ea, Ha, -⟩ := S.now
    obtain ⟨n12, g12⟩ := nn_of ea
    rw [g12]
    refine ⟨ib, (fun z => by rw [eb'] at z; cases z), fun b3 z => ?_⟩
    have e3 : b3 = b := by rw [eb'] at z; cases z; rfl
    subst e3
    have F1 : St9 (sr h (x + 15) (sN s - 1) (some a)) x := St9_ext F (fun b _ _ => ⟨rfl, rfl⟩) (fun b j h1 h2 h3 => by rw [gr_sr, if_neg (by omega)])
    refine ⟨n12, ib, Ha.1, F1, St9_ext F1 (fun b _ _ => ⟨rfl, rfl⟩) (fun b j h1 h2 h3 => by rw [gr_sr, if_neg (by omega)]), _, rfl, em, ?_⟩
    have ff : FrX (fun b => b = x ∨ b = x + 15) h (sr (sr (si h x 10 (gi h x 10 - 1)) (x + 15) (sN s - 1) (some a)) x 12 (some b3)) := ((FrX.rf.si (Or.inl (Or.inl rfl))).sr (Or.inl (Or.inr rfl))).sr (Or.inl (Or.inl rfl))
    refine S.turn (s' := (sB s (sN s - 1), sN s - 1, sB s, sK s, sR s, sT s)) ff (fun j hj => by rw [gr_sr, if_neg (by omega), gr_sr, if_neg (by omega), gr_si]) (sw (sN s - 1)) (fun i hi => sw_lt (by omega) hi) (fun i j _ _ => sw_inj) (fun i hi => ?_) ⟨by rw [gi_sr, gi_sr, eg]; exact em, by show sN s - 1 ≤ 7; omega⟩ ⟨⟨b3, ?_, Hb⟩, ?_, fun i hi => ?_, fun i hi => ?_⟩ ⟨va.2.1 _ (by omega), fun i hi => va.2.1 i (by have : i < sN s - 1 := hi; omega), va.2.2⟩ rfl rfl
    · unfold sw
      by_cases i0 : i = 0
      · rw [if_pos i0, i0, eb]
        show gr _ x 12 = _
        rw [gr_sr, if_pos ⟨rfl, rfl⟩]
      · rw [if_neg i0]
        by_cases i2 : i = 2 + (sN s - 1)
        · rw [if_pos i2, i2, ptr_past _ _ (by omega), gr_sr, if_neg (by omega), gr_sr, if_pos ⟨rfl, rfl⟩]
          exact ea.symm
        · rw [if_neg i2]
          unfold ptr
          rw [if_neg i0, if_neg i0]
          by_cases i1 : i = 1
          · rw [if_pos i1, if_pos i1, gr_sr, if_neg (by omega), gr_sr, if_neg (by omega), gr_si]
          · rw [if_neg i1, if_neg i1]
            by_cases i9 : i < 9
            · rw [if_pos i9, if_pos i9, gr_sr, if_neg (by omega), gr_sr, if_neg (by omega), gr_si]
            · rw [if_neg i9, if_neg i9, gr_sr, if_neg (by omega), gr_sr, if_neg (by omega), gr_si]
    · have : sw (sN s - 1) 0 = 2 + (sN s - 1) := by unfold sw; rw [if_pos rfl]
      dsimp only
      rw [this]; exact eb
    · have : sw (sN s - 1) 1 = 1 := by unfold sw; rw [if_neg (by omega), if_neg (by omega)]
      dsimp only
      rw [this]; exact hd.2.1
    · have hi2 : i < sN s - 1 := hi
      have : sw (sN s - 1) (2 + i) = 2 + i := by unfold sw; rw [if_neg (by omega), if_neg (by omega)]
      show ∃ b, ptr h x (sw (sN s - 1) (2 + i)) = some b ∧ HdR h b (sB s i)
      rw [this]; exact hd.2.2.1 i (by omega)
    · have : sw (sN s - 1) (9 + i) = 9 + i := by unfold sw; rw [if_neg (by omega), if_neg (by omega)]
      show (sK s i = none → ptr h x (sw (sN s - 1) (9 + i)) = none) ∧ ∀ E, sK s i = some E → ∃ b, ptr h x (sw (sN s - 1) (9 + i)) = some b ∧ HdR h b E
      rw [this]; exact hd.2.2.2 i hi
  · rw [i32_le, sn.1, i7n] at q1; omega))
theorem i2n : (Int32.ofNat 2).toInt = 2 := rfl
theorem ca_again (S : CSt h x m s) {i : Int32} : S_X9_again l D 0 0 [.ref x, .int i] h (QI fun y h' => y.toInt = (againP s i.toInt).1 ∧ CSt h' x m (againP s i.toInt).2 ∧ FrX (inC x m) h h') := Sp.of rfl (Nat.le_of_ble_eq_true rfl) (fun X C _ _ _ _ => V_X9_again_0 C (by
  obtain ⟨F, hm, pt, hd, va, sn, td, tx, sh⟩ := id S
  unfold againP
  refine ⟨fun q => ⟨_, rfl, ?_⟩, fun q => ⟨F, fun q1 => ?_, fun q1 => ⟨_, rfl, ?_⟩⟩⟩
  all_goals rw [i32_lt, i0_t] at q
  · rw [if_neg (by omega)]; exact ⟨rfl, S, FrX.rf⟩
  all_goals rw [i32_lt, i2n] at q1
  · have hk := ix_t (i := i) (by omega)
    rw [if_pos (by omega), show i.toInt.toNat = ix i from rfl]
    have ek : ptr h x (9 + ix i) = gr h (x + 16) (ix i) := by
      unfold ptr
      rw [if_neg (by omega), if_neg (by omega), if_neg (by omega), Nat.add_sub_cancel_left]
    refine ⟨⟨by omega, by omega⟩, fun z => ⟨_, rfl, ?_⟩, fun b z => ?_⟩
    · cases hK : sK s (ix i) with
      | none => exact ⟨rfl, S, FrX.rf⟩
      | some E =>
        obtain ⟨b, eb, -⟩ := (hd.2.2.2 (ix i) (by omega)).2 E hK
        rw [ek, z] at eb; cases eb
    · cases hK : sK s (ix i) with
      | none =>
        have := (hd.2.2.2 (ix i) (by omega)).1 hK
        rw [ek, z] at this; cases this
      | some E =>
        obtain ⟨b', eb, HE⟩ := (hd.2.2.2 (ix i) (by omega)).2 E hK
        have e3 : b' = b := by rw [ek, z] at eb; cases eb; rfl
        subst e3
        have VE := va.2.2 (ix i) E (by omega) hK
        obtain ⟨a, ea, Ha, ba⟩ := S.now
        obtain ⟨n12, g12⟩ := nn_of ea
        rw [g12]
        have dj := pt.2 0 (9 + ix i) a b' (by omega) (by omega) (by omega) ea eb
        refine ⟨n12, Ha.1, (sp_copyFrom Ha.1 HE VE dj).mono (fun w h7 hp => ?_)⟩
        obtain ⟨rfl, H7, f7⟩ := hp
        have ff : FrX (fun b => b = x ∨ inH a b) h (si h7 x 10 0) := (f7.x.mono (fun b _ q => Or.inr q)).si (Or.inl (Or.inl rfl))
        have ep : ptr (si h7 x 10 0) x = ptr h x := by unfold ptr; simp only [gr_si]; rw [f7.2.2.2.1]
        have nS : ∀ j c b, j < 11 → j ≠ 0 → ptr h x j = some c → inH c b → ¬ (b = x ∨ inH a b) := fun j c b hj h0 e hb => by
          have q1 := pt.2 0 j a c (by omega) hj (by omega) ea e
          have q2 := (pt.1 j c hj e).2.1
          unfold inH at *
          omega
        have H7' : HdR (si h7 x 10 0) a E := H7.fr (FrO.rf.si (S := fun b => b = x) rfl) (fun b hb (q : b = x) => by unfold inH at hb; omega)
        have R := S.build (s' := (E, 0, sB s, sK s, sR s, sT s)) ff (fun b h1 h2 q => by unfold inH at q; omega) (fun j _ => by rw [gr_si, f7.2.2.2.1]) ?_ ?_ ⟨VE, fun j hj => by have : j < 0 := hj; omega, va.2.2⟩ ⟨by rw [gi_si, if_pos ⟨rfl, rfl⟩]; rfl, by show 0 ≤ 7; omega⟩ rfl rfl (fun z b ez h1 h2 q => ?_) (fun z j c ez hj e => ?_) (fun b hb q => ?_)
        · exact ⟨rfl, St9_same F f7.2.1 f7.2.2.1 f7.2.2.2.1, _, rfl, rfl, R.1, R.2⟩
        · rw [ep]
          exact ⟨fun j c hj e => ⟨St4_same (pt.1 j c hj e).1 f7.2.1 f7.2.2.1 f7.2.2.2.1, (pt.1 j c hj e).2.1, (pt.1 j c hj e).2.2.1, by have := (pt.1 j c hj e).2.2.2; have := f7.1; show c + 9 ≤ hn h7; omega⟩, pt.2⟩
        · rw [ep]
          refine ⟨⟨a, ea, H7'⟩, hd.2.1, fun j hj => by have : j < 0 := hj; omega, fun j hj => ⟨(hd.2.2.2 j hj).1, fun G q => ?_⟩⟩
          obtain ⟨c, ec, HG⟩ := (hd.2.2.2 j hj).2 G q
          exact ⟨c, ec, HG.frX ff (fun b hb => nS (9 + j) c b (by omega) (by omega) ec hb) (pt.1 _ c (by omega) ec).2.2.2⟩
        · have q1 := (sh z ez).2.2.2 0 a (by omega) ea
          have q2 := (sh z ez).2.1
          unfold inH at q
          omega
        · rw [ep] at e
          exact (sh z ez).2.2.2 j c hj e
        · unfold inC
          unfold inH at q
          omega
  · rw [if_neg (by omega)]; exact ⟨rfl, S, FrX.rf⟩))
theorem ca_count (S : CSt h x m s) {w : Int32} : S_X9_count l D 0 0 [.ref x, .int w] h (QI fun y h' => y.toInt = countP s w.toInt ∧ h' = h) := Sp.of rfl (Nat.le_of_ble_eq_true rfl) (fun X C _ _ _ _ => V_X9_count_0 C (by
  obtain ⟨F, hm, pt, hd, va, sn, td, tx, sh⟩ := id S
  obtain ⟨a, ea, Ha, -⟩ := S.now
  obtain ⟨n12, g12⟩ := nn_of ea
  rw [g12]
  have H := Ha.2.1
  unfold countP
  refine ⟨fun q => ⟨F, n12, Ha.1, _, rfl, ?_, rfl⟩, fun q => ⟨F, n12, Ha.1, _, rfl, ?_, rfl⟩, fun q => ⟨F, n12, Ha.1, _, rfl, ?_, rfl⟩, fun q => ⟨F, n12, Ha.1, _, rfl, ?_, rfl⟩, fun q => ⟨F, n12, Ha.1, _, rfl, ?_, rfl⟩, fun q => ⟨F, n12, Ha.1, _, rfl, ?_, rfl⟩, fun q => ⟨F, n12, Ha.1, _, rfl, ?_, rfl⟩, fun q => ⟨F, _, rfl, ?_, rfl⟩, fun q => ⟨F, _, rfl, ?_, rfl⟩, fun q => ⟨F, _, rfl, ?_, rfl⟩, fun q => ⟨F, n12, Ha.1, _, rfl, ?_, rfl⟩, fun n0 n1 n2 n3 n4 n5 n6 n7 n8 n9 n10 => ⟨_, rfl, ?_, rfl⟩⟩
  · subst q; exact H 0 (by omega)
  · subst q; exact H 1 (by omega)
  · subst q; exact H 3 (by omega)
  · subst q; exact H 4 (by omega)
  · subst q; exact H 5 (by omega)
  · subst q; exact H 6 (by omega)
  · subst q; exact H 7 (by omega)
  · subst q; exact sn.1
  · subst q; exact td.1
  · subst q; exact tx.1
  · subst q; exact H 2 (by omega)
  · rw [i32_eq] at n0 n1 n2 n3 n4 n5 n6 n7 n8 n9 n10
    rw [if_neg (show ¬ w.toInt = 0 from n0), if_neg (show ¬ w.toInt = 1 from n1), if_neg (show ¬ w.toInt = 2 from n2), if_neg (show ¬ w.toInt = 3 from n3), if_neg (show ¬ w.toInt = 4 from n4), if_neg (show ¬ w.toInt = 5 from n5), if_neg (show ¬ w.toInt = 6 from n6), if_neg (show ¬ w.toInt = 7 from n7), if_neg (show ¬ w.toInt = 8 from n8), if_neg (show ¬ w.toInt = 9 from n9), if_neg (show ¬ w.toInt = 10 from n10)]
    rfl))
theorem CSt.txt (S : CSt h x m s) (f : FrW (fun b j => b = x + 1 ∧ j = 1 ∨ b = x + 2) (fun _ _ => False) h h') {T : List Int} (t : TxC h' (x + 1) T) : CSt h' x m (txtS s T) ∧ ptr h' x = ptr h x ∧ FrX (inC x m) h h' :=
  S.own f (fun q => by omega) (fun b j q => by omega) (fun _ _ q => absurd q id) (S.2.2.2.2.2.2.1.fr f (fun q => by omega) (fun _ => id)) t
theorem TxC.take {T : List Int} {t : Nat} (tx : TxC h t T) {v : Int32} (h0 : 0 ≤ v.toInt) (h1 : v.toInt ≤ T.length) : TxC (si h t 1 v) t (T.take v.toInt.toNat) := by
  obtain ⟨t1, t2, t3⟩ := tx
  refine ⟨?_, by rw [List.length_take]; omega, fun i hi => ?_⟩
  · rw [gi_si, if_pos ⟨rfl, rfl⟩, List.length_take]; omega
  · rw [List.length_take] at hi
    rw [gi_si, if_neg (by omega), t3 i (by omega)]
    simp only [List.getD_eq_getElem?_getD]
    rw [List.getElem?_take_of_lt (by omega)]
theorem ca_end (S : CSt h x m s) {n : Int32} : S_X9_end l D 0 0 [.ref x, .int n] h (QI fun y h' => y.toInt = (endP s n.toInt).1 ∧ CSt h' x m (endP s n.toInt).2 ∧ FrX (inC x m) h h') := Sp.of rfl (Nat.le_of_ble_eq_true rfl) (fun X C _ _ _ _ => V_X9_end_0 C (by
  have tx := S.2.2.2.2.2.2.2.1
  unfold endP
  refine ⟨fun q => ⟨_, rfl, ?_⟩, fun q => ⟨S.1, fun q1 => ⟨_, rfl, ?_⟩, fun q1 => ⟨_, rfl, ?_⟩⟩⟩
  all_goals rw [i32_lt, i0_t] at q
  · rw [if_neg (by omega)]; exact ⟨rfl, S, FrX.rf⟩
  all_goals rw [i32_le, tx.1] at q1
  · rw [if_pos (by omega)]
    obtain ⟨r1, -, r3⟩ := S.txt (FrW.rf.si (Or.inl ⟨rfl, rfl⟩)) (tx.take (v := n) (by omega) q1)
    exact ⟨rfl, r1, r3⟩
  · rw [if_neg (by omega)]; exact ⟨rfl, S, FrX.rf⟩))
end Build
