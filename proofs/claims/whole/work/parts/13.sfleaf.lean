-- contracts of the leaves
def PF (x : Value) (h : Hp) : Pq := fun v h' => v = some x ∧ h' = h
def PV (h : Hp) : Pq := fun v h' => v = none ∧ h' = h
theorem Met.ofWF {l : Launch} {y : MethodName} {ws ws' : List Cond} {rm : Room} {Pc : Array Value → State → Prop} {Qc : Array Value → State → Outcome → State → Prop} {mc ms : Nat} {free : Addr → Prop} {cc : ByteArray} {maxL : Nat} {ret : Option FieldType}
    (hy : plainFor y = true) (hw : ws = Cond.code y cc maxL ret :: ws')
    (body : ∀ p e s m args below meth c s₁, BodyLoose p l y (headSpec ws rm) cc maxL ret e s m args below meth c s₁ → c.maxLocals = maxL → Pc args s →
      W p l e (headSpec ws rm).room s m args below meth c s.heap [] 0 0 (MQ below Qc args s mc ms free) (entryFrame m args maxL)) : Met l y ws rm Pc Qc mc ms free := by
  refine MetFree.of_bodySF (code := cc) (maxLocals := maxL) (ret := ret) hy ?_ ?_
  · intro args s m h hn
    obtain ⟨meth, c, h1, h2, h3, h4, h5, h6, -, -⟩ := Cond.code_spec hn (atoms_spec (ws := ws) h _ (by rw [hw]; exact List.mem_cons_self))
    exact ⟨meth, c, h1, h2, h3, h4, h5, h6⟩
  · intro p e s m args below meth c s₁ B hml hP _
    have hh0 : s₁.heap = s.heap := by rw [B.state]; rfl
    obtain ⟨t, a1, o, b1, b2, b3⟩ := body p e s m args below meth c s₁ B hml hP s₁ hh0 (Stand.of_body B)
    exact ⟨t, o, a1, b1, b2, ⟨b3.1, b3.2⟩⟩
theorem Sp.ofF {l : Launch} {D : Dt} {y : MethodName} {cc : ByteArray} {nL : Nat} {ret : Option FieldType} {fr lo mc ms : Nat} {av : List Value} {h : Hp} {Q : Pq} (hy : plainFor y = true) (hl : (lg_sl av).length ≤ nL)
    (body : ∀ X : Ctx, Cx X y.cls cc nL ret y.name fr lo → lX X = l → dtX X = D → mcX X = mc → msX X = ms → Wj X 0 0 Q 0 (lv_args 0 av) [] h) : Sp l D y cc nL ret fr lo mc ms av h Q := by
  refine Met.ofWF (cc := cc) (maxL := nL) (ret := ret) hy rfl ?_
  intro p e s m args below meth c s₁ B hml hv
  obtain ⟨rfl, hR, hK⟩ := hv
  have hts := atoms_spec (ws := .code y cc nL ret :: gwd) B.pre
  have C : Cx (p, l, e, { frames := fr, cells := mc, slots := ms, locals := lo }, s, m, av.toArray, below, meth, c, D, mc, ms) y.cls cc nL ret y.name fr lo :=
    ⟨B.exec, B.bytes, hml, findClass_of_methodNamed B.named, fun w hw => hts w (List.mem_cons_of_mem _ hw), hK, B.returns, B.notSynchronized, (name_of_methodNamed B.named B.method).1, rfl, rfl, rfl, rfl⟩
  have hle := lv_entry av hl
  rw [lg_entry_eq]
  exact body _ C rfl rfl rfl rfl (Nat.zero_le _) (Nat.zero_le _) _ _ [] (by rw [hml]; exact hle) hR (fun _ h => by cases h)
section SfLeaf
variable {l : Launch} {D : Dt} {h : Hp}
theorem sf_J13_compare_74951 {a b : Int64} : S_J13_compare_74951 l D 0 0 [.long a, .long b] h (PF (.int (cmpL a b)) h) := Sp.of rfl (Nat.le_of_ble_eq_true rfl) (fun X C _ _ _ _ => V_J13_compare_74951_0 C (by
  unfold cmpL PF
  refine ⟨fun h1 => ⟨fun h2 => ⟨?_, rfl⟩, fun h2 => ⟨?_, rfl⟩⟩, fun h1 => ⟨?_, rfl⟩⟩
  · rw [if_neg (by rw [i64_lt]; rw [i64_le] at h1; omega), if_neg h2]
  · rw [if_neg (by rw [i64_lt]; rw [i64_le] at h1; omega), if_pos h2]
  · rw [if_pos (by rw [i64_lt]; rw [i64_le] at h1; omega)]))
theorem sf_X9_isBetween {x a b : Int32} : S_X9_isBetween l D 0 0 [.int x, .int a, .int b] h (PF (.int (bt x a b)) h) := Sp.of rfl (Nat.le_of_ble_eq_true rfl) (fun X C _ _ _ _ => V_X9_isBetween_0 C (by
  unfold bt PF
  simp only [i32_lt, i32_le]
  refine ⟨fun h1 => ⟨?_, trivial⟩, fun h1 => ⟨fun h2 => ⟨?_, trivial⟩, fun h2 => ⟨?_, trivial⟩⟩⟩
  · rw [if_neg (by omega)]
  · rw [if_neg (by omega)]
  · rw [if_pos (by omega)]))
theorem sf_X9_isParts {x : Int32} : S_X9_isParts l D 0 0 [.int x] h (PF (.int (bt x 2 400)) h) := Sp.of rfl (Nat.le_of_ble_eq_true rfl) (fun X C _ _ _ _ => V_X9_isParts_0 C (by
  unfold bt PF
  simp only [i32_lt, i32_le]
  refine ⟨fun h1 => ⟨?_, trivial⟩, fun h1 => ⟨fun h2 => ⟨?_, trivial⟩, fun h2 => ⟨?_, trivial⟩⟩⟩
  · rw [if_neg (by omega)]
  · rw [if_neg (by omega)]
  · rw [if_pos (by omega)]))
theorem sf_X10_in {x a b : Int64} : S_X10_in l D 0 0 [.long x, .long a, .long b] h (PF (.int (btL x a b)) h) := Sp.of rfl (Nat.le_of_ble_eq_true rfl) (fun X C _ _ _ _ => V_X10_in_0 C (by
  unfold btL PF
  simp only [i64_lt, i64_le]
  refine ⟨fun h1 => ⟨?_, trivial⟩, fun h1 => ⟨fun h2 => ⟨?_, trivial⟩, fun h2 => ⟨?_, trivial⟩⟩⟩
  · rw [if_neg (by omega)]
  · rw [if_neg (by omega)]
  · rw [if_pos (by omega)]))
theorem sf_X10_flag {x : Int32} : S_X10_flag l D 0 0 [.int x] h (PF (.int (flg x)) h) := Sp.of rfl (Nat.le_of_ble_eq_true rfl) (fun X C _ _ _ _ => V_X10_flag_0 C (by
  unfold flg PF
  exact ⟨fun h1 => ⟨by rw [if_pos h1], rfl⟩, fun h1 => ⟨by rw [if_neg h1], rfl⟩⟩))
theorem sf_J9_abs_0f7a4 {x : Int32} : S_J9_abs_0f7a4 l D 0 0 [.int x] h (PF (.int (abI x)) h) := Sp.ofF (by decide +kernel) (Nat.le_of_ble_eq_true rfl) (fun X C _ _ _ _ => V_J9_abs_0f7a4_0 C (by
  unfold abI PF
  exact ⟨fun h1 => ⟨by rw [if_pos h1], rfl⟩, fun h1 => ⟨by rw [if_neg h1], rfl⟩⟩))
theorem sf_X10_size {x : Int32} : S_X10_size l D 0 0 [.int x] h (PF (.int (abI x)) h) := Sp.of rfl (Nat.le_of_ble_eq_true rfl) (fun X C _ _ _ _ => V_X10_size_0 C (by
  unfold abI PF
  exact ⟨fun h1 => ⟨by rw [if_pos h1], rfl⟩, fun h1 => ⟨by rw [if_neg h1], rfl⟩⟩))
theorem sf_J9_abs_067f4 {x : Int64} : S_J9_abs_067f4 l D 0 0 [.long x] h (PF (.long (abL x)) h) := Sp.ofF (by decide +kernel) (Nat.le_of_ble_eq_true rfl) (fun X C _ _ _ _ => V_J9_abs_067f4_0 C (by
  unfold abL PF
  exact ⟨fun h1 => ⟨by rw [if_pos h1], rfl⟩, fun h1 => ⟨by rw [if_neg h1], rfl⟩⟩))
theorem Int32.xor_nonneg' {a b : Int32} (hb : 0 < b.toInt) : 0 ≤ (a ^^^ b) ↔ 0 ≤ a.toInt := by
  have e : (a ^^^ b) < 0 ↔ a < 0 := by
    have hbn : ¬ b < 0 := by rw [i32_lt]; simp; omega
    simp only [Int32.lt_iff_toBitVec_slt] at *
    simp only [BitVec.slt_zero_eq_msb, Int32.toBitVec_zero, Int32.toBitVec_xor, BitVec.msb_xor] at *
    cases h1 : a.toBitVec.msb <;> cases h2 : b.toBitVec.msb <;> simp_all
  rw [i32_lt, i32_lt] at e
  rw [i32_le]
  simp at e ⊢
  omega
theorem Int64.xor_nonneg' {a b : Int64} (hb : 0 < b.toInt) : 0 ≤ (a ^^^ b) ↔ 0 ≤ a.toInt := by
  have e : (a ^^^ b) < 0 ↔ a < 0 := by
    have hbn : ¬ b < 0 := by rw [i64_lt]; simp; omega
    simp only [Int64.lt_iff_toBitVec_slt] at *
    simp only [BitVec.slt_zero_eq_msb, Int64.toBitVec_zero, Int64.toBitVec_xor, BitVec.msb_xor] at *
    cases h1 : a.toBitVec.msb <;> cases h2 : b.toBitVec.msb <;> simp_all
  rw [i64_lt, i64_lt] at e
  rw [i64_le]
  simp at e ⊢
  omega
/-- of a negative number: the remainder by a positive one -/
theorem tmod_neg {a b : Int} (ha : ¬ 0 ≤ a) (hb : 0 < b) : (a.tmod b = 0 → a % b = 0) ∧ (¬ a.tmod b = 0 → a % b = a.tmod b + b) ∧ a.tmod b ≤ 0 ∧ -b < a.tmod b := by
  have h1 : a.tmod b = -((-a).tmod b) := by rw [Int.neg_tmod]; omega
  have h2 : (-a).tmod b = (-a) % b := Int.tmod_eq_emod_of_nonneg (by omega)
  have h3 := Int.emod_nonneg (-a) (Int.ne_of_gt hb)
  have h4 := Int.emod_lt_of_pos (-a) hb
  have h5 := Int.emod_add_mul_ediv (-a) b
  rw [h1, h2]
  refine ⟨fun h => ?_, fun h => ?_, by omega, by omega⟩
  · have e : a = b * (-((-a) / b)) := by rw [Int.mul_neg]; omega
    rw [e, Int.mul_emod_right]
  · have e : a = (b - (-a) % b) + b * (-((-a) / b) - 1) := by rw [Int.mul_sub, Int.mul_neg]; omega
    have : (b - (-a) % b) % b = b - (-a) % b := Int.emod_eq_of_lt (by omega) (by omega)
    have e2 : ((b - (-a) % b) + b * (-((-a) / b) - 1)) % b = b - (-a) % b := by rw [Int.add_mul_emod_self_left, this]
    rw [← e] at e2; omega
theorem sf_J9_floorMod_7cf53 {a b : Int32} (hb : 0 < b.toInt) : S_J9_floorMod_7cf53 l D 0 0 [.int a, .int b] h (PF (.int (fmI a b)) h) := Sp.ofF (by decide +kernel) (Nat.le_of_ble_eq_true rfl) (fun X C _ _ _ _ => V_J9_floorMod_7cf53_0 C (by
  have hbb := b32 b
  refine ⟨by rw [i32_eq]; simp; omega, fun h1 => ⟨?_, rfl⟩, fun h1 => ⟨fun h2 => ⟨?_, rfl⟩, fun h2 => ⟨?_, rfl⟩⟩⟩
  · rw [Int32.xor_nonneg' hb] at h1
    have e : a % b = fmI a b := by rw [i32_eq, irem_p h1, fmI_t hb]
    rw [e]
  · rw [Int32.xor_nonneg' hb] at h1
    obtain ⟨t1, t2, t3, t4⟩ := tmod_neg h1 hb
    rw [i32_eq, irem_t] at h2
    have e : a % b = fmI a b := by rw [i32_eq, irem_t, fmI_t hb, h2, t1 h2]; rfl
    rw [e]
  · rw [Int32.xor_nonneg' hb] at h1
    obtain ⟨t1, t2, t3, t4⟩ := tmod_neg h1 hb
    rw [i32_eq, irem_t] at h2
    have e : a % b + b = fmI a b := by
      rw [i32_eq, iadd_t (by rw [irem_t]; omega) (by rw [irem_t]; omega), irem_t, fmI_t hb, t2 h2]
    rw [e]))
theorem sf_J9_floorMod_f86c9 {a b : Int64} (hb : 0 < b.toInt) : S_J9_floorMod_f86c9 l D 0 0 [.long a, .long b] h (PF (.long (fmL a b)) h) := Sp.ofF (by decide +kernel) (Nat.le_of_ble_eq_true rfl) (fun X C _ _ _ _ => V_J9_floorMod_f86c9_0 C (by
  have hbb := b64 b
  refine ⟨by rw [i64_eq]; simp; omega, fun h1 => ⟨?_, rfl⟩, fun h1 => ⟨fun h2 => ⟨?_, rfl⟩, fun h2 => ⟨?_, rfl⟩⟩⟩
  · rw [Int64.xor_nonneg' hb] at h1
    have e : a % b = fmL a b := by rw [i64_eq, lrem_p h1, fmL_t hb]
    rw [e]
  · rw [Int64.xor_nonneg' hb] at h1
    obtain ⟨t1, t2, t3, t4⟩ := tmod_neg h1 hb
    rw [i64_eq, lrem_t] at h2
    have e : a % b = fmL a b := by rw [i64_eq, lrem_t, fmL_t hb, h2, t1 h2]; rfl
    rw [e]
  · rw [Int64.xor_nonneg' hb] at h1
    obtain ⟨t1, t2, t3, t4⟩ := tmod_neg h1 hb
    rw [i64_eq, lrem_t] at h2
    have e : a % b + b = fmL a b := by
      rw [i64_eq, ladd_t (by rw [lrem_t]; omega) (by rw [lrem_t]; omega), lrem_t, fmL_t hb, t2 h2]
    rw [e]))
theorem tdiv_neg' {a b : Int} (ha : ¬ 0 ≤ a) (hb : 0 < b) : (a.tdiv b * b = a → a / b = a.tdiv b) ∧ (¬ a.tdiv b * b = a → a / b = a.tdiv b - 1) ∧ a ≤ a.tdiv b ∧ a.tdiv b ≤ 0 := by
  have h1 : a.tdiv b = -((-a).tdiv b) := by rw [Int.neg_tdiv]; omega
  have h2 : (-a).tdiv b = (-a) / b := Int.tdiv_eq_ediv_of_nonneg (by omega)
  have h3 := Int.emod_nonneg (-a) (Int.ne_of_gt hb)
  have h4 := Int.emod_lt_of_pos (-a) hb
  have h5 := Int.emod_add_mul_ediv (-a) b
  have h6 : (-a) / b ≤ -a := Int.ediv_le_self _ (by omega)
  have h7 : 0 ≤ (-a) / b := Int.ediv_nonneg (by omega) (by omega)
  have h8 : -((-a) / b) * b = -(b * ((-a) / b)) := by rw [Int.neg_mul, Int.mul_comm]
  rw [h1, h2, h8]
  refine ⟨fun h => ?_, fun h => ?_, by omega, by omega⟩
  · have e : a = b * (-((-a) / b)) := by rw [Int.mul_neg]; omega
    have e2 : b * (-((-a) / b)) / b = -((-a) / b) := Int.mul_ediv_cancel_left _ (by omega)
    rw [← e] at e2; exact e2
  · have e : a = (b - (-a) % b) + b * (-((-a) / b) - 1) := by rw [Int.mul_sub, Int.mul_neg]; omega
    have e3 : (b - (-a) % b) / b = 0 := Int.ediv_eq_zero_of_lt (by omega) (by omega)
    have e2 : ((b - (-a) % b) + b * (-((-a) / b) - 1)) / b = -((-a) / b) - 1 := by rw [Int.add_mul_ediv_left _ _ (by omega), e3]; omega
    rw [← e] at e2; exact e2
theorem sf_J9_floorDiv_7cf53 {a b : Int32} (hb : 0 < b.toInt) : S_J9_floorDiv_7cf53 l D 0 0 [.int a, .int b] h (PF (.int (fdI a b)) h) := Sp.ofF (by decide +kernel) (Nat.le_of_ble_eq_true rfl) (fun X C _ _ _ _ => V_J9_floorDiv_7cf53_0 C (by
  have hbb := b32 b
  have haa := b32 a
  have hdv : ¬ 0 ≤ a.toInt → (a / b).toInt = a.toInt.tdiv b.toInt := fun h1 => by
    obtain ⟨t1, t2, t3, t4⟩ := tdiv_neg' h1 hb
    rw [Int32.toInt_div, bm32 (by omega) (by omega)]
  refine ⟨by rw [i32_eq]; simp; omega, fun h1 => ⟨?_, rfl⟩, fun h1 => ⟨fun h2 => ⟨?_, rfl⟩, fun h2 => ⟨?_, rfl⟩⟩⟩
  · rw [Int32.xor_nonneg' hb] at h1
    have e : a / b = fdI a b := by rw [i32_eq, idiv_p h1 (by omega), fdI_t hb]
    rw [e]
  · rw [Int32.xor_nonneg' hb] at h1
    obtain ⟨t1, t2, t3, t4⟩ := tdiv_neg' h1 hb
    have hm : a.toInt ≤ a.toInt.tdiv b.toInt * b.toInt ∧ a.toInt.tdiv b.toInt * b.toInt ≤ 0 := by
      have := Int.tmod_add_mul_tdiv a.toInt b.toInt
      have t5 := tmod_neg h1 hb
      rw [Int.mul_comm] at this
      have h0 : a.toInt.tdiv b.toInt * b.toInt ≤ 0 := Int.mul_nonpos_of_nonpos_of_nonneg t4 (by omega)
      omega
    rw [i32_eq, imul_t (by rw [hdv h1]; omega) (by rw [hdv h1]; omega), hdv h1] at h2
    have e : a / b = fdI a b := by rw [i32_eq, hdv h1, fdI_t hb, t1 h2]
    rw [e]
  · rw [Int32.xor_nonneg' hb] at h1
    obtain ⟨t1, t2, t3, t4⟩ := tdiv_neg' h1 hb
    have hm : a.toInt ≤ a.toInt.tdiv b.toInt * b.toInt ∧ a.toInt.tdiv b.toInt * b.toInt ≤ 0 := by
      have := Int.tmod_add_mul_tdiv a.toInt b.toInt
      have t5 := tmod_neg h1 hb
      rw [Int.mul_comm] at this
      have h0 : a.toInt.tdiv b.toInt * b.toInt ≤ 0 := Int.mul_nonpos_of_nonpos_of_nonneg t4 (by omega)
      omega
    rw [i32_eq, imul_t (by rw [hdv h1]; omega) (by rw [hdv h1]; omega), hdv h1] at h2
    have hne : -2147483648 ≤ a.toInt.tdiv b.toInt - 1 := by
      have : a.toInt ≠ a.toInt.tdiv b.toInt := fun q => by
        have hb1 : b.toInt = 1 ∨ 2 ≤ b.toInt := by omega
        rcases hb1 with hb1 | hb1
        · rw [hb1] at h2; simp at h2
        · have : a.toInt.tdiv b.toInt * b.toInt ≤ a.toInt.tdiv b.toInt * 2 := Int.mul_le_mul_of_nonpos_left t4 hb1
          omega
      omega
    have e : a / b - 1 = fdI a b := by
      have h1' : (1 : Int32).toInt = 1 := rfl
      rw [i32_eq, isub_t (by rw [hdv h1, h1']; omega) (by rw [hdv h1, h1']; omega), hdv h1, fdI_t hb, t2 h2]; rfl
    rw [e]))
end SfLeaf
