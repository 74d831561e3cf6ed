-- the shelf as it grows
def rdT (te : Nat → Int) (t : Nat) : Int × Int := (rdU (tU te t) (tL te t), rdL (tU te t) (tL te t))
section Shp
variable {g : Nat} {te : Nat → Int} {K n : Nat} {u w p sl : Nat → Int}
theorem SHP.skip (S : SHP g te K n u w p sl) {K' : Nat} (hK : K ≤ K') (no : ∀ t, K ≤ t → t < K' → ¬ tOk g t) : SHP g te K' n u w p sl := by
  obtain ⟨s1, s2, s3, s4, s5, s6, s7⟩ := S
  refine ⟨s1, fun e he => ?_, fun t ht ok => ?_, s4, s5, s6, s7⟩
  · obtain ⟨t, t1, t2⟩ := s2 e he
    exact ⟨t, by omega, t2⟩
  · rcases Nat.lt_or_ge t K with z | z
    · exact s3 t z ok
    · exact absurd ok (no t z ht)
theorem SHP.lt (S : SHP g te K n u w p sl) (hK : K < 20880) (ok : tOk g K) : n < 3102 := by
  obtain ⟨s1, s2, s3, s4, s5, s6, s7⟩ := S
  have ch : ∀ e, ∃ t, e < n → (t < K ∧ tOk g t ∧ u e = rdU (tU te t) (tL te t) ∧ w e = rdL (tU te t) (tL te t)) := by
    intro e
    by_cases he : e < n
    · obtain ⟨t, t1, t2, t3, t4, -⟩ := s2 e he
      exact ⟨t, fun _ => ⟨t1, t2, t3, t4⟩⟩
    · exact ⟨0, fun z => absurd z he⟩
  have hf : ∃ f : Nat → Nat, ∀ e, e < n → (f e < K ∧ tOk g (f e) ∧ u e = rdU (tU te (f e)) (tL te (f e)) ∧ w e = rdL (tU te (f e)) (tL te (f e))) := ⟨fun e => Classical.choose (ch e), fun e he => Classical.choose_spec (ch e) he⟩
  obtain ⟨f, hf⟩ := hf
  have le := cT_inj tOkB K n f (fun e he => ⟨(hf e he).1, tOkB_of (hf e he).2.1⟩) (fun e e' he he' q => by
    obtain ⟨-, -, a1, a2⟩ := hf e he
    obtain ⟨-, -, b1, b2⟩ := hf e' he'
    exact s4 e e' he he' (by rw [a1, b1, q]) (by rw [a2, b2, q]))
  have e1 : cT tOkB (K + 1) = cT tOkB K + 1 := by
    show cT tOkB K + (if tOkB K then 1 else 0) = _
    rw [tOkB_of ok, if_pos rfl]
  have e2 := cT_mono tOkB (a := K + 1) (b := 20880) (by omega)
  have := tOk_cnt
  omega
/-- where slotOf() stops -/
def SlO (n : Nat) (u w sl : Nat → Int) (a b : Int) (i : Nat) : Prop := ∃ d, d < 8192 ∧ i = (hsh a b + d) % 8192 ∧ (∀ d', d' < d → sl ((hsh a b + d') % 8192) ≠ 0 ∧ ∀ e, e < n → sl ((hsh a b + d') % 8192) = e + 1 → ¬ (u e = a ∧ w e = b)) ∧ (sl i = 0 ∨ ∃ e, e < n ∧ sl i = e + 1 ∧ u e = a ∧ w e = b)
/-- the entry of a ratio, or none -/
theorem SlO.find (S : SHP g te K n u w p sl) {a b : Int} {i : Nat} (O : SlO n u w sl a b i) : (sl i = 0 ∧ ∀ e, e < n → ¬ (u e = a ∧ w e = b)) ∨ ∃ e, e < n ∧ sl i = e + 1 ∧ u e = a ∧ w e = b := by
  obtain ⟨s1, s2, s3, s4, s5, s6, s7⟩ := S
  obtain ⟨d, d1, d2, d3, d4⟩ := O
  rcases d4 with z | z
  · refine Or.inl ⟨z, fun e he hab => ?_⟩
    obtain ⟨de, x1, x2, x3⟩ := s5 e he
    rw [hab.1, hab.2] at x2 x3
    rcases Nat.lt_trichotomy de d with y | y | y
    · exact (d3 de y).2 e he x2 hab
    · rw [y, ← d2, z] at x2; omega
    · exact x3 d y (by rw [← d2]; exact z)
  · exact Or.inr z
theorem SHP.old (S : SHP g te K n u w p sl) (ok : tOk g K) {e : Nat} (he : e < n) (h1 : u e = rdU (tU te K) (tL te K)) (h2 : w e = rdL (tU te K) (tL te K)) : SHP g te (K + 1) n u w p sl := by
  obtain ⟨s1, s2, s3, s4, s5, s6, s7⟩ := S
  refine ⟨s1, fun e he => ?_, fun t ht ok => ?_, s4, s5, s6, s7⟩
  · obtain ⟨t, t1, t2⟩ := s2 e he
    exact ⟨t, by omega, t2⟩
  · by_cases z : t = K
    · rw [z]; exact ⟨e, he, h1, h2⟩
    · exact s3 t (by omega) ok
theorem SHP.new (S : SHP g te K n u w p sl) (hK : K < 20880) (ok : tOk g K) {i : Nat} (O : SlO n u w sl (rdU (tU te K) (tL te K)) (rdL (tU te K) (tL te K)) i) (z : sl i = 0) {u' w' p' sl' : Nat → Int} (eu : ∀ e, u' e = if e = n then rdU (tU te K) (tL te K) else u e) (ew : ∀ e, w' e = if e = n then rdL (tU te K) (tL te K) else w e) (ep : ∀ e, p' e = if e = n then tP K else p e) (es : ∀ j, sl' j = if j = i then (n : Int) + 1 else sl j) : SHP g te (K + 1) (n + 1) u' w' p' sl' := by
  have nl := S.lt hK ok
  have none : ∀ e, e < n → ¬ (u e = rdU (tU te K) (tL te K) ∧ w e = rdL (tU te K) (tL te K)) := by
    rcases O.find S with ⟨-, y⟩ | ⟨e, -, y, -⟩
    · exact y
    · rw [z] at y; omega
  obtain ⟨s1, s2, s3, s4, s5, s6, s7⟩ := S
  obtain ⟨d, d1, d2, d3, d4⟩ := O
  have un : u' n = rdU (tU te K) (tL te K) := by rw [eu, if_pos rfl]
  have wn : w' n = rdL (tU te K) (tL te K) := by rw [ew, if_pos rfl]
  have ue : ∀ e, e < n → u' e = u e ∧ w' e = w e ∧ p' e = p e := fun e he => ⟨by rw [eu, if_neg (by omega)], by rw [ew, if_neg (by omega)], by rw [ep, if_neg (by omega)]⟩
  refine ⟨by omega, fun e he => ?_, fun t ht ok' => ?_, fun e e' he he' h1 h2 => ?_, fun e he => ?_, fun j hj => ?_, ?_⟩
  · by_cases q : e = n
    · rw [q]
      refine ⟨K, by omega, ok, un, wn, by rw [ep, if_pos rfl], fun t' h1 h2 h3 => ?_⟩
      obtain ⟨e2, x1, x2, x3⟩ := s3 t' h1 h2
      rw [un, wn] at h3
      exact none e2 x1 ⟨by rw [x2]; exact h3.1, by rw [x3]; exact h3.2⟩
    · obtain ⟨a1, a2, a3⟩ := ue e (by omega)
      obtain ⟨t, t1, t2, t3, t4, t5, t6⟩ := s2 e (by omega)
      rw [a1, a2, a3]
      exact ⟨t, by omega, t2, t3, t4, t5, t6⟩
  · by_cases q : t = K
    · rw [q]; exact ⟨n, by omega, un, wn⟩
    · obtain ⟨e, x1, x2, x3⟩ := s3 t (by omega) ok'
      obtain ⟨a1, a2, -⟩ := ue e x1
      exact ⟨e, by omega, by rw [a1]; exact x2, by rw [a2]; exact x3⟩
  · by_cases q : e = n <;> by_cases q' : e' = n
    · omega
    · obtain ⟨b1, b2, -⟩ := ue e' (by omega)
      rw [q, un, b1] at h1
      rw [q, wn, b2] at h2
      exact absurd ⟨h1.symm, h2.symm⟩ (none e' (by omega))
    · obtain ⟨b1, b2, -⟩ := ue e (by omega)
      rw [q', un, b1] at h1
      rw [q', wn, b2] at h2
      exact absurd ⟨h1, h2⟩ (none e (by omega))
    · obtain ⟨b1, b2, -⟩ := ue e (by omega)
      obtain ⟨c1, c2, -⟩ := ue e' (by omega)
      rw [b1, c1] at h1
      rw [b2, c2] at h2
      exact s4 e e' (by omega) (by omega) h1 h2
  · by_cases q : e = n
    · rw [q, un, wn]
      refine ⟨d, d1, ?_, fun d' h1 => ?_⟩
      · rw [es, if_pos d2.symm]
      · rw [es]
        split
        · omega
        · exact (d3 d' h1).1
    · obtain ⟨b1, b2, -⟩ := ue e (by omega)
      rw [b1, b2]
      obtain ⟨de, x1, x2, x3⟩ := s5 e (by omega)
      refine ⟨de, x1, ?_, fun d' h1 => ?_⟩
      · rw [es, if_neg (fun y => by rw [y, z] at x2; omega)]; exact x2
      · rw [es]
        split
        · omega
        · exact x3 d' h1
  · rw [es]
    split
    · omega
    · have := s6 j hj; omega
  · have i1 : i < 8192 := by rw [d2]; exact Nat.mod_lt _ (by omega)
    rw [cntNz_set (f := sl) (g := sl') (i := i) z (by rw [es, if_pos rfl]; omega) (fun j hj => by rw [es, if_neg hj]) 8192 i1, s7]
/-- an empty slot is met -/
theorem SHP.gap (S : SHP g te K n u w p sl) (s : Nat) : ∃ d, d < 8192 ∧ sl ((s + d) % 8192) = 0 := by
  obtain ⟨s1, s2, s3, s4, s5, s6, s7⟩ := S
  obtain ⟨i, i1, i2⟩ := cntNz_lt (f := sl) 8192 (by omega)
  refine ⟨(i + 8192 - s % 8192) % 8192, by omega, ?_⟩
  have : (s + (i + 8192 - s % 8192) % 8192) % 8192 = i := by omega
  rw [this]; exact i2
end Shp
