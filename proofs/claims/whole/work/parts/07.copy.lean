section Copy
variable {X : Ctx} {k n : Nat} {Q : Pq} {pc : Nat} {lv : List (Nat × Value)} {st : List Value} {h : Hp} {own : String} {cc : ByteArray} {nL : Nat} {ret : Option FieldType} {nm : String} {fr lo : Nat} {idx : Nat}
theorem w_acopyI {a0 a : Nat} {sp dp z : Int32} (C : Cx X own cc nL ret nm fr lo) (w1 : Cond.methodLink own idx arraycopyName ∈ gwd) (w2 : Cond.native arraycopyName ∈ gwd) (w3 : Cond.static arraycopyName ∈ gwd) (w4 : Cond.initialized "java/lang/System" ∈ gwd) (d : decode cc pc = .ok (.invokestatic idx, 3)) (hfr : 1 ≤ fr) (hlo : (st.map fun v => v.category).sum + 18 ≤ lo) (hk0 : kd h a0 = 20) (hk : kd h a = 20) (q1 : ¬ sp < 0) (q2 : ¬ dp < 0) (q3 : ¬ z < 0) (q4 : ix sp + ix z ≤ ln h a0) (q5 : ix dp + ix z ≤ ln h a)
    (K : Wj X k n Q (pc + 3) lv st (siA h a (va_cpy (fun j => gi h a0 j) (fun j => gi h a j) (ix sp) (ix dp) (ix z)))) : Wj X k n Q pc lv (.int z :: .int dp :: .ref a :: .int sp :: .ref a0 :: st) h := by
  obtain ⟨p, l, e, R, s, m, args, below, meth, c0, D, mc, ms⟩ := X
  intro h1 h2 ls H locs hl hR hL
  obtain ⟨hx, hb, hml, hown, hts, hK, hr, hlk, hnm, g1, g2, g3, g4⟩ := C
  have nn : ∀ z : Int32, ¬ z < 0 → z.toInt = (z.toNatClampNeg : Int) := by
    intro z hz
    have hz0 : (0 : Int) ≤ z.toInt := by
      have := Int32.not_lt.mp hz
      simpa using Int32.le_iff_toInt_le.mp this
    show z.toInt = ((z.toInt.toNat : Nat) : Int)
    omega
  have hc0 : H[a0]? = some (arrV (D.2.1 0) (ln h a0) (fun j => .int (gi h a0 j))) := hR.arr 0 hk0 (by omega)
  have hc1 : H[a]? = some (arrV (D.2.1 0) (ln h a) (fun j => .int (gi h a j))) := hR.arr 0 hk (by omega)
  obtain ⟨-, k0, hkk0, cm0, hkc0⟩ := (hK.1.2 0 _ rfl).1 (ln h a0) (fun j => .int (gi h a0 j))
  intro T hT X
  obtain ⟨vm', X', step⟩ := X.arraycopy hx hown (hts _ w1) (hts _ w2) (hts _ w3) (hts _ w4) (src := a0) (dst := a) (cs := arrV (D.2.1 0) (ln h a0) (fun j => .int (gi h a0 j))) (cd := arrV (D.2.1 0) (ln h a) (fun j => .int (gi h a j))) (srcPos := sp) (destPos := dp) (n := z) (by rw [hT]; exact hc0) (by rw [hT]; exact hc1)
    (fun _ h => by cases h) (fun _ h => by cases h) (fun h => by cases h) (fun h => by cases h) hkk0 hkk0 hkc0 hkc0 (by simp [refKind]) q1 q2 q3
    (by rw [nn sp q1, nn z q3, arrV_size]; show ¬ _ > _; have := q4; rw [← ix_clamp, ← ix_clamp] at this; omega)
    (by rw [nn dp q2, nn z q3, arrV_size]; show ¬ _ > _; have := q5; rw [← ix_clamp, ← ix_clamp] at this; omega)
    (fun vm₁ _ i hi => by
      have e : (arrV (D.2.1 0) (ln h a0) (fun j => .int (gi h a0 j))).slots.getD (sp.toNatClampNeg + i) .null = .int (gi h a0 (sp.toNatClampNeg + i)) := by
        rw [Array.getD_eq_getD_getElem?, arrV_read _ _ (by have := q4; rw [← ix_clamp, ← ix_clamp] at this; omega)]
        rfl
      refine ⟨?_, ?_⟩
      · rw [e]; rfl
      · rw [e]
        exact trivial)
    (g := F0 m pc ls (.int z :: .int dp :: .ref a :: .int sp :: .ref a0 :: st)) rfl hl.1 (rest := st) rfl (by rw [hb]; exact d) (by rw [g1]; exact hfr) (by rw [g2]; show 2 * 0 + _ + (7 + 11) ≤ lo; omega)
  have e1 : copied (arrV (D.2.1 0) (ln h a0) (fun j => .int (gi h a0 j))) (arrV (D.2.1 0) (ln h a) (fun j => .int (gi h a j))) sp dp z = arrV (D.2.1 0) (ln h a) (fun j => .int (va_cpy (fun j => gi h a0 j) (fun j => gi h a j) sp.toNatClampNeg dp.toNatClampNeg z.toNatClampNeg j)) := va_copied (fun z => .int z) _ _ _ _ (by have := q4; rw [← ix_clamp, ← ix_clamp] at this; exact this)
  rw [e1] at X' step
  have hlt : a < H.size := (Array.getElem?_eq_some_iff.mp hc1).1
  generalize hcn : arrV (D.2.1 0) (ln h a) (fun j => .int (va_cpy (fun j => gi h a0 j) (fun j => gi h a j) sp.toNatClampNeg dp.toNatClampNeg z.toNatClampNeg j)) = cn at X' step
  have hheap : ((T.setVm vm').setCell a cn).heap = H.setIfInBounds a cn := by rw [← hT]; rfl
  have oq : ∀ q : Nat, q ≠ a → (H.setIfInBounds a cn)[q]? = H[q]? := fun q hq => by simp [Array.getElem?_setIfInBounds, Ne.symm hq]
  have oa : (H.setIfInBounds a cn)[a]? = some cn := by simp [Array.getElem?_setIfInBounds, hlt]
  have hRel : RelH D (siA h a (va_cpy (fun j => gi h a0 j) (fun j => gi h a j) (ix sp) (ix dp) (ix z))) (H.setIfInBounds a cn) := by
    refine hR.off (a := a) (by omega) (by simp) oq rfl (fun _ => rfl) (fun _ _ => rfl) (fun b hb j => ?_) (cellR.arr (t := 0) hk (by omega) ?_)
    · exact ⟨by rw [gi_siA, if_neg hb], rfl, rfl⟩
    · rw [oa, ← hcn]
      congr 2
      funext j
      show Value.int _ = Value.int (gi (siA h a _) a j)
      rw [gi_siA, if_pos rfl]; rfl
  obtain ⟨t, a1, b1⟩ := K h1 h2 ls (H.setIfInBounds a cn) _ hl hRel (locs_app hL (fun q hq => by
    obtain ⟨z9, -, hz⟩ := List.mem_map.mp hq
    rw [← hz]
    exact (hR.2.2.2 a (by omega)).1)) _ hheap X'
  exact ⟨t, step t a1, b1⟩
theorem w_acopyL {a0 a : Nat} {sp dp z : Int32} (C : Cx X own cc nL ret nm fr lo) (w1 : Cond.methodLink own idx arraycopyName ∈ gwd) (w2 : Cond.native arraycopyName ∈ gwd) (w3 : Cond.static arraycopyName ∈ gwd) (w4 : Cond.initialized "java/lang/System" ∈ gwd) (d : decode cc pc = .ok (.invokestatic idx, 3)) (hfr : 1 ≤ fr) (hlo : (st.map fun v => v.category).sum + 18 ≤ lo) (hk0 : kd h a0 = 21) (hk : kd h a = 21) (q1 : ¬ sp < 0) (q2 : ¬ dp < 0) (q3 : ¬ z < 0) (q4 : ix sp + ix z ≤ ln h a0) (q5 : ix dp + ix z ≤ ln h a)
    (K : Wj X k n Q (pc + 3) lv st (slA h a (va_cpy (fun j => gl h a0 j) (fun j => gl h a j) (ix sp) (ix dp) (ix z)))) : Wj X k n Q pc lv (.int z :: .int dp :: .ref a :: .int sp :: .ref a0 :: st) h := by
  obtain ⟨p, l, e, R, s, m, args, below, meth, c0, D, mc, ms⟩ := X
  intro h1 h2 ls H locs hl hR hL
  obtain ⟨hx, hb, hml, hown, hts, hK, hr, hlk, hnm, g1, g2, g3, g4⟩ := C
  have nn : ∀ z : Int32, ¬ z < 0 → z.toInt = (z.toNatClampNeg : Int) := by
    intro z hz
    have hz0 : (0 : Int) ≤ z.toInt := by
      have := Int32.not_lt.mp hz
      simpa using Int32.le_iff_toInt_le.mp this
    show z.toInt = ((z.toInt.toNat : Nat) : Int)
    omega
  have hc0 : H[a0]? = some (arrV (D.2.1 1) (ln h a0) (fun j => .long (gl h a0 j))) := hR.arr 1 hk0 (by omega)
  have hc1 : H[a]? = some (arrV (D.2.1 1) (ln h a) (fun j => .long (gl h a j))) := hR.arr 1 hk (by omega)
  obtain ⟨-, k0, hkk0, cm0, hkc0⟩ := (hK.1.2 1 _ rfl).1 (ln h a0) (fun j => .long (gl h a0 j))
  intro T hT X
  obtain ⟨vm', X', step⟩ := X.arraycopy hx hown (hts _ w1) (hts _ w2) (hts _ w3) (hts _ w4) (src := a0) (dst := a) (cs := arrV (D.2.1 1) (ln h a0) (fun j => .long (gl h a0 j))) (cd := arrV (D.2.1 1) (ln h a) (fun j => .long (gl h a j))) (srcPos := sp) (destPos := dp) (n := z) (by rw [hT]; exact hc0) (by rw [hT]; exact hc1)
    (fun _ h => by cases h) (fun _ h => by cases h) (fun h => by cases h) (fun h => by cases h) hkk0 hkk0 hkc0 hkc0 (by simp [refKind]) q1 q2 q3
    (by rw [nn sp q1, nn z q3, arrV_size]; show ¬ _ > _; have := q4; rw [← ix_clamp, ← ix_clamp] at this; omega)
    (by rw [nn dp q2, nn z q3, arrV_size]; show ¬ _ > _; have := q5; rw [← ix_clamp, ← ix_clamp] at this; omega)
    (fun vm₁ _ i hi => by
      have e : (arrV (D.2.1 1) (ln h a0) (fun j => .long (gl h a0 j))).slots.getD (sp.toNatClampNeg + i) .null = .long (gl h a0 (sp.toNatClampNeg + i)) := by
        rw [Array.getD_eq_getD_getElem?, arrV_read _ _ (by have := q4; rw [← ix_clamp, ← ix_clamp] at this; omega)]
        rfl
      refine ⟨?_, ?_⟩
      · rw [e]; rfl
      · rw [e]
        exact trivial)
    (g := F0 m pc ls (.int z :: .int dp :: .ref a :: .int sp :: .ref a0 :: st)) rfl hl.1 (rest := st) rfl (by rw [hb]; exact d) (by rw [g1]; exact hfr) (by rw [g2]; show 2 * 0 + _ + (7 + 11) ≤ lo; omega)
  have e1 : copied (arrV (D.2.1 1) (ln h a0) (fun j => .long (gl h a0 j))) (arrV (D.2.1 1) (ln h a) (fun j => .long (gl h a j))) sp dp z = arrV (D.2.1 1) (ln h a) (fun j => .long (va_cpy (fun j => gl h a0 j) (fun j => gl h a j) sp.toNatClampNeg dp.toNatClampNeg z.toNatClampNeg j)) := va_copied (fun z => .long z) _ _ _ _ (by have := q4; rw [← ix_clamp, ← ix_clamp] at this; exact this)
  rw [e1] at X' step
  have hlt : a < H.size := (Array.getElem?_eq_some_iff.mp hc1).1
  generalize hcn : arrV (D.2.1 1) (ln h a) (fun j => .long (va_cpy (fun j => gl h a0 j) (fun j => gl h a j) sp.toNatClampNeg dp.toNatClampNeg z.toNatClampNeg j)) = cn at X' step
  have hheap : ((T.setVm vm').setCell a cn).heap = H.setIfInBounds a cn := by rw [← hT]; rfl
  have oq : ∀ q : Nat, q ≠ a → (H.setIfInBounds a cn)[q]? = H[q]? := fun q hq => by simp [Array.getElem?_setIfInBounds, Ne.symm hq]
  have oa : (H.setIfInBounds a cn)[a]? = some cn := by simp [Array.getElem?_setIfInBounds, hlt]
  have hRel : RelH D (slA h a (va_cpy (fun j => gl h a0 j) (fun j => gl h a j) (ix sp) (ix dp) (ix z))) (H.setIfInBounds a cn) := by
    refine hR.off (a := a) (by omega) (by simp) oq rfl (fun _ => rfl) (fun _ _ => rfl) (fun b hb j => ?_) (cellR.arr (t := 1) hk (by omega) ?_)
    · exact ⟨rfl, by rw [gl_slA, if_neg hb], rfl⟩
    · rw [oa, ← hcn]
      congr 2
      funext j
      show Value.long _ = Value.long (gl (slA h a _) a j)
      rw [gl_slA, if_pos rfl]; rfl
  obtain ⟨t, a1, b1⟩ := K h1 h2 ls (H.setIfInBounds a cn) _ hl hRel (locs_app hL (fun q hq => by
    obtain ⟨z9, -, hz⟩ := List.mem_map.mp hq
    rw [← hz]
    exact (hR.2.2.2 a (by omega)).1)) _ hheap X'
  exact ⟨t, step t a1, b1⟩
end Copy
