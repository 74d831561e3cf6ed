-- the class's keep()
section Keep
variable {X : Ctx} {l : Launch} {D : Dt} {h : Hp} {x m : Nat} {s : Sv}
/-- once a head c stands at place i of what is kept -/
theorem keep_fin (S : CSt h x m s) {i c : Nat} (hi : i < 2) {h8 h4 : Hp} (f8 : FrX (fun b => b = x + 16) h h8) (g16 : ∀ j, gr h8 (x + 16) j = if j = i then some c else gr h (x + 16) j) (P8 : PtsOK h8 x m (ptr h8 x)) (hc : ptr h x (9 + i) = some c ∨ hn h ≤ c) (f4 : FrO (inH c) h8 h4) (Hc : HdR h4 c (sA s)) : CSt h4 x m (sA s, sN s, sB s, fun j => if j = i then some (sA s) else sK s j, sR s, sT s) ∧ FrX (inC x m) h h4 := by
  obtain ⟨F, hm, pt, hd, va, sn, td, tx, sh⟩ := id S
  have o8 : ∀ b j, b < hn h → b ≠ x + 16 → gi h8 b j = gi h b j ∧ gl h8 b j = gl h b j ∧ gr h8 b j = gr h b j := fun b j h1 h2 => (f8.2 b h1).2 h2 j
  have ff : FrX (fun b => b = x + 16 ∨ inH c b) h h4 := (f8.mono (fun _ _ q => Or.inl q)).tr (f4.x.mono (fun _ _ q => Or.inr q))
  have ep4 : ptr h4 x = ptr h8 x := by unfold ptr; rw [f4.2.2.2.1]
  have ep : ∀ k, k < 11 → k ≠ 9 + i → ptr h8 x k = ptr h x k := fun k hk hne => by
    unfold ptr
    by_cases k0 : k = 0
    · rw [if_pos k0, if_pos k0]; exact (o8 x 12 (by omega) (by omega)).2.2
    · rw [if_neg k0, if_neg k0]
      by_cases k1 : k = 1
      · rw [if_pos k1, if_pos k1]; exact (o8 x 13 (by omega) (by omega)).2.2
      · rw [if_neg k1, if_neg k1]
        by_cases k9 : k < 9
        · rw [if_pos k9, if_pos k9]; exact (o8 (x + 15) _ (by omega) (by omega)).2.2
        · rw [if_neg k9, if_neg k9, g16, if_neg (by omega)]
  have epi : ptr h8 x (9 + i) = some c := by
    unfold ptr
    rw [if_neg (by omega), if_neg (by omega), if_neg (by omega), g16, if_pos (by omega)]
  have cx := (P8.1 (9 + i) c (by omega) epi).2
  -- the other heads
  have hf : ∀ {b : Nat} {A : HV} {k : Nat}, k < 11 → k ≠ 9 + i → ptr h x k = some b → HdR h b A → HdR h4 b A := fun {b A k} hk hne e H => by
    refine H.frX ff (fun d hd2 q => ?_) (pt.1 k b hk e).2.2.2
    have q1 := (pt.1 k b hk e).2
    have q2 := P8.2 k (9 + i) b c hk (by omega) hne (by rw [ep k hk hne]; exact e) epi
    unfold inH at *
    omega
  obtain ⟨⟨a, e0, H0⟩, tr, pa, ke⟩ := hd
  refine S.build ff (fun b h1 h2 q => by unfold inH at q; omega) (fun j hj => by rw [f4.2.2.2.1]; exact (o8 x j (by omega) (by omega)).2.2) ?_ ?_ ⟨va.1, va.2.1, fun j E hj q => ?_⟩ ⟨?_, sn.2⟩ rfl rfl (fun z b ez h1 h2 q => ?_) (fun z k d ez hk e => ?_) (fun b hb q => ?_)
  · rw [ep4]
    exact ⟨fun k d hk e => ⟨St4_same (P8.1 k d hk e).1 f4.2.1 f4.2.2.1 f4.2.2.2.1, (P8.1 k d hk e).2.1, (P8.1 k d hk e).2.2.1, by rw [f4.1]; exact (P8.1 k d hk e).2.2.2⟩, P8.2⟩
  · rw [ep4]
    refine ⟨⟨a, by rw [ep 0 (by omega) (by omega)]; exact e0, hf (by omega) (by omega) e0 H0⟩, by rw [ep 1 (by omega) (by omega)]; exact tr, fun j hj => ?_, fun j hj => ⟨fun q => ?_, fun E q => ?_⟩⟩
    · have hj2 : j < sN s := hj
      obtain ⟨b, eb, Hb⟩ := pa j hj
      exact ⟨b, by rw [ep _ (by omega) (by omega)]; exact eb, hf (by omega) (by omega) eb Hb⟩
    · have q' : (if j = i then some (sA s) else sK s j) = none := q
      by_cases e : j = i
      · rw [if_pos e] at q'; cases q'
      · rw [if_neg e] at q'
        rw [ep _ (by omega) (by omega)]; exact (ke j hj).1 q'
    · have q' : (if j = i then some (sA s) else sK s j) = some E := q
      by_cases e : j = i
      · rw [if_pos e] at q'
        cases q'
        rw [e]
        exact ⟨c, epi, Hc⟩
      · rw [if_neg e] at q'
        obtain ⟨b, eb, Hb⟩ := (ke j hj).2 E q'
        exact ⟨b, by rw [ep _ (by omega) (by omega)]; exact eb, hf (by omega) (by omega) eb Hb⟩
  · have q' : (if j = i then some (sA s) else sK s j) = some E := q
    by_cases e : j = i
    · rw [if_pos e] at q'; cases q'; exact va.1
    · rw [if_neg e] at q'; exact va.2.2 j E hj q'
  · have := (f4.2.2.2.2 x (fun q => by unfold inH at q; omega) 10).1
    rw [this, (o8 x 10 (by omega) (by omega)).1]; exact sn.1
  · have q1 := (sh z ez).2.1
    have q2 := (sh z ez).2.2.1
    rcases hc with hc | hc
    · have q3 := (sh z ez).2.2.2 _ _ (by omega) hc
      unfold inH at q; omega
    · unfold inH at q; omega
  · rw [ep4] at e
    by_cases hne : k = 9 + i
    · rw [hne, epi] at e
      cases e
      rcases hc with hc | hc
      · exact (sh z ez).2.2.2 _ _ (by omega) hc
      · have := (sh z ez).2.2.1
        right; omega
    · rw [ep k hk hne] at e
      exact (sh z ez).2.2.2 k d hk e
  · unfold inC
    unfold inH at q
    omega
theorem ca_keep (S : CSt h x m s) {i : Int32} : S_X9_keep l D 9 191 [.ref x, .int i] h (QI fun y h' => y.toInt = (keepP s i.toInt).1 ∧ CSt h' x m (keepP s i.toInt).2 ∧ FrX (inC x m) h h') := Sp.of rfl (Nat.le_of_ble_eq_true rfl) (fun X C _ _ hmc hms => V_X9_keep_0 C (by
  obtain ⟨F, hm, pt, hd, va, sn, td, tx, sh⟩ := id S
  unfold keepP
  refine ⟨fun q => ⟨_, rfl, ?_⟩, fun q => ⟨F, fun q1 => ?_, fun q1 => ⟨_, rfl, ?_⟩⟩⟩
  all_goals rw [i32_lt, i0_t] at q
  · rw [if_neg (by omega)]; exact ⟨rfl, S, FrX.rf⟩
  all_goals rw [i32_lt, i2n] at q1
  · have hk := ix_t (i := i) (by omega)
    rw [if_pos (by omega), show i.toInt.toNat = ix i from rfl]
    have ek : ptr h x (9 + ix i) = gr h (x + 16) (ix i) := by
      unfold ptr
      rw [if_neg (by omega), if_neg (by omega), if_neg (by omega), Nat.add_sub_cancel_left]
    obtain ⟨a, ea, Ha, ba⟩ := S.now
    -- from 41 on
    have p41 : ∀ (k n : Nat) (h8 : Hp) (c : Nat), FrX (fun b => b = x + 16) h h8 → (∀ j, gr h8 (x + 16) j = if j = ix i then some c else gr h (x + 16) j) → PtsOK h8 x m (ptr h8 x) → (ptr h x (9 + ix i) = some c ∨ hn h ≤ c) → St4 h8 c → (a + 9 ≤ c ∨ c + 9 ≤ a) → Wj X k n (QI fun y h' => y.toInt = 1 ∧ CSt h' x m (sA s, sN s, sB s, fun j => if j = ix i then some (sA s) else sK s j, sR s, sT s) ∧ FrX (inC x m) h h') 41 [(0, .ref x), (2, .ref c)] [] h8 := by
      intro k n h8 c f8 g16 P8 hc F4 dj
      have e12 : gr h8 x 12 = some a := by rw [((f8.2 x (by omega)).2 (by omega) 12).2.2]; exact ea
      obtain ⟨n12, g12⟩ := nn_of e12
      have F8 : St9 h8 x := St9_ext F (fun b h1 h2 => (f8.2 b (by omega)).1) (fun b j h1 h2 h3 => ((f8.2 b (by omega)).2 (by omega) j).2.2)
      have H8 : HdR h8 a (sA s) := Ha.frX f8 (fun b hb q => by unfold inH at hb; omega) ba.2.2
      refine V_X9_keep_41 C ⟨F8, n12, F4, ?_⟩
      rw [g12]
      refine (sp_copyFrom F4 H8 va.1 (by omega)).mono (fun w h4 hp => ?_)
      obtain ⟨rfl, Hc, f4⟩ := hp
      obtain ⟨r1, r2⟩ := keep_fin S (by omega) f8 g16 P8 hc f4 Hc
      exact ⟨rfl, _, rfl, rfl, r1, r2⟩
    refine ⟨⟨by omega, by omega⟩, fun z => ⟨by omega, by omega, 8, 174, by omega, by omega, sp_init4.mono (fun w h7 hp => ?_)⟩, fun b z => ?_⟩
    · obtain ⟨rfl, H7, n7, f7⟩ := hp
      have F7 : St9 h7 x := St9_ext F (fun b h1 h2 => (f7.2 b (by omega)).1) (fun b j h1 h2 h3 => ((f7.2 b (by omega)).2 id j).2.2)
      refine ⟨rfl, F7, ⟨by omega, by omega⟩, H7.1, p41 _ _ _ _ ?_ (fun j => ?_) ?_ (Or.inr (Nat.le_refl _)) ?_ (by omega)⟩
      · exact (f7.mono (fun _ _ q => absurd q id)).sr (Or.inl rfl)
      · rw [gr_sr]
        by_cases e : j = ix i
        · rw [if_pos ⟨rfl, e⟩, if_pos e]
        · rw [if_neg (fun z => e z.2), if_neg e]; exact ((f7.2 (x + 16) (by omega)).2 id j).2.2
      · have F4 : St4 (sr h7 (x + 16) (ix i) (some (hn h))) (hn h) := St4_ext H7.1 (fun _ _ _ => ⟨rfl, rfl⟩) (fun j => by rw [gr_sr, if_neg (by omega)])
        have p7 : PtsOK (sr h7 (x + 16) (ix i) (some (hn h))) x m (ptr h x) := by
          have ff : FrX (fun b => b = x + 16) h (sr h7 (x + 16) (ix i) (some (hn h))) := (f7.mono (fun _ _ q => absurd q id)).sr (Or.inl rfl)
          exact pt.frX ff (fun k d b hk e hb q => by have := (pt.1 k d hk e).2.1; unfold inH at hb; omega)
        have pa := p7.add (k := 9 + ix i) (c := hn h) (z := hn h) F4 (by omega) (by omega) (by show hn h + 9 ≤ hn h7; omega) (fun k d hk e => (pt.1 k d hk e).2.2.2) (Nat.le_refl _)
        refine pa.perm id (fun _ h => h) (fun _ _ _ _ h => h) (fun k hk => ?_)
        show ptr _ x k = if k = 9 + ix i then some (hn h) else ptr h x k
        by_cases e : k = 9 + ix i
        · rw [if_pos e, e]
          unfold ptr
          rw [if_neg (by omega), if_neg (by omega), if_neg (by omega), gr_sr, if_pos ⟨rfl, by omega⟩]
        · rw [if_neg e]
          unfold ptr
          simp only [gr_sr]
          by_cases k0 : k = 0
          · rw [if_pos k0, if_pos k0, if_neg (by omega)]; exact ((f7.2 x (by omega)).2 id 12).2.2
          · rw [if_neg k0, if_neg k0]
            by_cases k1 : k = 1
            · rw [if_pos k1, if_pos k1, if_neg (by omega)]; exact ((f7.2 x (by omega)).2 id 13).2.2
            · rw [if_neg k1, if_neg k1]
              by_cases k9 : k < 9
              · rw [if_pos k9, if_pos k9, if_neg (by omega)]; exact ((f7.2 (x + 15) (by omega)).2 id _).2.2
              · rw [if_neg k9, if_neg k9, if_neg (by omega)]; exact ((f7.2 (x + 16) (by omega)).2 id _).2.2
      · exact St4_ext H7.1 (fun _ _ _ => ⟨rfl, rfl⟩) (fun j => by rw [gr_sr, if_neg (by omega)])
    · refine p41 _ _ h b FrX.rf (fun j => ?_) pt (Or.inl (by rw [ek]; exact z)) (pt.1 (9 + ix i) b (by omega) (by rw [ek]; exact z)).1 ?_
      · by_cases e : j = ix i
        · rw [if_pos e, e]; exact z
        · rw [if_neg e]
      · exact pt.2 0 (9 + ix i) a b (by omega) (by omega) (by omega) ea (by rw [ek]; exact z)
  · rw [if_neg (by omega)]; exact ⟨rfl, S, FrX.rf⟩))
end Keep
