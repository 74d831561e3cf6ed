-- ways() and hard(): which ways there are
noncomputable def hw (A : HV) (n : Int) (k : Nat) : Int := if k = 0 then (if (fS A n : Int) < A 0 3 then 1 else 0) else if k = 1 then (if (cwQ A n).1 = 0 then 0 else 1) else (match difQ A n with
  | none => 0
  | some _ => 1)
theorem hw_01 {A : HV} {n : Int} {k : Nat} : hw A n k = 0 ∨ hw A n k = 1 := by
  unfold hw
  by_cases c : k = 0
  · rw [if_pos c]; by_cases d : (fS A n : Int) < A 0 3
    · rw [if_pos d]; exact Or.inr rfl
    · rw [if_neg d]; exact Or.inl rfl
  · rw [if_neg c]
    by_cases c1 : k = 1
    · rw [if_pos c1]; by_cases d : (cwQ A n).1 = 0
      · rw [if_pos d]; exact Or.inl rfl
      · rw [if_neg d]; exact Or.inr rfl
    · rw [if_neg c1]
      cases difQ A n with
      | none => exact Or.inl rfl
      | some d => exact Or.inr rfl
theorem hw_0 {A : HV} {n : Int} : hw A n 0 = if (fS A n : Int) < A 0 3 then 1 else 0 := rfl
theorem hw_1 {A : HV} {n : Int} : hw A n 1 = if (cwQ A n).1 = 0 then 0 else 1 := rfl
theorem hw_2 {A : HV} {n : Int} : hw A n 2 = (match difQ A n with | none => 0 | some _ => 1) := by
  unfold hw
  rw [if_neg (by decide), if_neg (by decide)]
noncomputable def waysP (s : Sv) (n : Int) : Int × Sv := if 2 ≤ n ∧ n ≤ 400 then (hw (sA s) n 0 + 2 * hw (sA s) n 1 + 4 * hw (sA s) n 2, rowS s [hw (sA s) n 0 + hw (sA s) n 1 + hw (sA s) n 2]) else (-1, s)
/-- sums over a run of numbers -/
def sumN (f : Int → Int) (lo : Int) : Nat → Int
  | 0 => 0
  | c + 1 => sumN f lo c + f (lo + c)
theorem sumN_c (f : Int → Int) (lo : Int) (c : Nat) : sumN f lo (c + 1) = f lo + sumN f (lo + 1) c := by
  induction c with
  | zero => show 0 + f (lo + (0 : Nat)) = f lo + 0; rw [show lo + ((0 : Nat) : Int) = lo by omega]; omega
  | succ c ih =>
    show sumN f lo (c + 1) + f (lo + ((c + 1 : Nat) : Int)) = f lo + (sumN f (lo + 1) c + f (lo + 1 + (c : Int)))
    rw [ih, show lo + ((c + 1 : Nat) : Int) = lo + 1 + (c : Int) by omega]; omega
theorem sumN_b {f : Int → Int} (hf : ∀ n, 0 ≤ f n ∧ f n ≤ 1) (lo : Int) (c : Nat) : 0 ≤ sumN f lo c ∧ sumN f lo c ≤ c := by
  induction c with
  | zero => exact ⟨Int.le_refl 0, Int.le_refl 0⟩
  | succ c ih =>
    have e : sumN f lo (c + 1) = sumN f lo c + f (lo + c) := rfl
    have := hf (lo + c)
    rw [e]; omega
noncomputable def hdH (A : HV) (n : Int) : Int := if hw A n 0 = 0 then 1 else 0
noncomputable def hdC (A : HV) (n : Int) : Int := if hw A n 0 = 0 then hw A n 1 else 0
noncomputable def hdD (A : HV) (n : Int) : Int := if hw A n 0 = 0 then hw A n 2 else 0
noncomputable def hdN (A : HV) (n : Int) : Int := if hw A n 0 = 0 ∧ hw A n 1 = 0 ∧ hw A n 2 = 0 then 1 else 0
theorem hd_b {A : HV} (n : Int) : (0 ≤ hdH A n ∧ hdH A n ≤ 1) ∧ (0 ≤ hdC A n ∧ hdC A n ≤ 1) ∧ (0 ≤ hdD A n ∧ hdD A n ≤ 1) ∧ (0 ≤ hdN A n ∧ hdN A n ≤ 1) := by
  have h0 := hw_01 (A := A) (n := n) (k := 0)
  have h1 := hw_01 (A := A) (n := n) (k := 1)
  have h2 := hw_01 (A := A) (n := n) (k := 2)
  unfold hdH hdC hdD hdN
  generalize hw A n 0 = a at *
  generalize hw A n 1 = b at *
  generalize hw A n 2 = c at *
  rcases h0 with rfl | rfl <;> rcases h1 with rfl | rfl <;> rcases h2 with rfl | rfl <;> decide
theorem hd_no {A : HV} {n : Int} (h : hw A n 0 ≠ 0) : hdH A n = 0 ∧ hdC A n = 0 ∧ hdD A n = 0 ∧ hdN A n = 0 := by
  unfold hdH hdC hdD hdN
  rw [if_neg h, if_neg h, if_neg h, if_neg (fun q => h q.1)]; exact ⟨rfl, rfl, rfl, rfl⟩
theorem hd_yes {A : HV} {n : Int} (h : hw A n 0 = 0) : hdH A n = 1 ∧ hdC A n = hw A n 1 ∧ hdD A n = hw A n 2 ∧ hdN A n = if hw A n 1 = 0 ∧ hw A n 2 = 0 then 1 else 0 := by
  unfold hdH hdC hdD hdN
  rw [if_pos h, if_pos h, if_pos h]
  refine ⟨rfl, rfl, rfl, ?_⟩
  by_cases c : hw A n 1 = 0 ∧ hw A n 2 = 0
  · rw [if_pos c, if_pos ⟨h, c⟩]
  · rw [if_neg c, if_neg (fun q => c q.2)]
/-- the first number with no simple way -/
noncomputable def hdF (A : HV) (lo : Int) : Nat → Int
  | 0 => -1
  | c + 1 => if hw A lo 0 = 0 then lo else hdF A (lo + 1) c
theorem hdF_z {A : HV} {c : Nat} : ∀ {lo : Int}, sumN (hdH A) lo c = 0 → hdF A lo c = -1 := by
  induction c with
  | zero => intro lo _; rfl
  | succ c ih =>
    intro lo h
    rw [sumN_c] at h
    have b1 := (hd_b (A := A) lo).1
    have b2 := (sumN_b (f := hdH A) (fun n => (hd_b n).1) (lo + 1) c)
    have n0 : hw A lo 0 ≠ 0 := fun q => by have := (hd_yes q).1; omega
    show (if hw A lo 0 = 0 then lo else hdF A (lo + 1) c) = -1
    rw [if_neg n0]; exact ih (by omega)
theorem hdF_s {A : HV} {c : Nat} : ∀ {lo : Int}, hdF A lo (c + 1) = if sumN (hdH A) lo c = 0 then (if hw A (lo + c) 0 = 0 then lo + c else -1) else hdF A lo c := by
  induction c with
  | zero =>
    intro lo
    have e : lo + ((0 : Nat) : Int) = lo := by omega
    show (if hw A lo 0 = 0 then lo else -1) = if (0 : Int) = 0 then (if hw A (lo + ((0 : Nat) : Int)) 0 = 0 then lo + ((0 : Nat) : Int) else -1) else -1
    rw [if_pos rfl, e]
  | succ c ih =>
    intro lo
    show (if hw A lo 0 = 0 then lo else hdF A (lo + 1) (c + 1)) = if sumN (hdH A) lo (c + 1) = 0 then (if hw A (lo + ((c + 1 : Nat) : Int)) 0 = 0 then lo + ((c + 1 : Nat) : Int) else -1) else (if hw A lo 0 = 0 then lo else hdF A (lo + 1) c)
    rw [sumN_c]
    have e : lo + ((c + 1 : Nat) : Int) = lo + 1 + (c : Int) := by omega
    have b2 := (sumN_b (f := hdH A) (fun n => (hd_b n).1) (lo + 1) c)
    by_cases z : hw A lo 0 = 0
    · have := (hd_yes z).1
      rw [if_pos z, if_pos z, if_neg (by omega)]
    · have := (hd_no z).1
      rw [if_neg z, if_neg z, this, Int.zero_add, ih, e]
noncomputable def hardP (s : Sv) (lo hi : Int) : Int × Sv := if (2 ≤ lo ∧ lo ≤ 400) ∧ (2 ≤ hi ∧ hi ≤ 400) ∧ lo ≤ hi ∧ hi - lo < 60 then (sumN (hdH (sA s)) lo (hi - lo + 1).toNat, rowS s [hdF (sA s) lo (hi - lo + 1).toNat, sumN (hdC (sA s)) lo (hi - lo + 1).toNat, sumN (hdD (sA s)) lo (hi - lo + 1).toNat, sumN (hdN (sA s)) lo (hi - lo + 1).toNat]) else (-1, s)
section Wys
variable {X : Ctx} {l : Launch} {D : Dt} {h : Hp} {x m : Nat} {Q : Pq} {A : HV} {s : Sv}
theorem cl_bitCount {v : Int32} (h0 : 0 ≤ v.toInt) (h7 : v.toInt ≤ 7) : S_J6_bitCount_0f7a4 l D 0 0 [.int v] h (QI fun y h' => y.toInt = v.toInt % 2 + v.toInt / 2 % 2 + v.toInt / 4 ∧ h' = h) := Sp.of rfl (Nat.le_of_ble_eq_true rfl) (fun X C _ _ _ _ => V_J6_bitCount_0f7a4_0 C ⟨_, rfl, (by
  have c : v = 0 ∨ v = 1 ∨ v = 2 ∨ v = 3 ∨ v = 4 ∨ v = 5 ∨ v = 6 ∨ v = 7 := by
    simp only [i32_eq]
    have e0 : (0 : Int32).toInt = 0 := rfl
    have e1 : (1 : Int32).toInt = 1 := rfl
    have e2 : (2 : Int32).toInt = 2 := rfl
    have e3 : (3 : Int32).toInt = 3 := rfl
    have e4 : (4 : Int32).toInt = 4 := rfl
    have e5 : (5 : Int32).toInt = 5 := rfl
    have e6 : (6 : Int32).toInt = 6 := rfl
    have e7 : (7 : Int32).toInt = 7 := rfl
    rw [e0, e1, e2, e3, e4, e5, e6, e7]; omega
  clear h0 h7
  rcases c with c | c | c | c | c | c | c | c <;> subst c <;> decide +kernel), rfl⟩)
/-- the way that was looked for stays -/
def WyH (h : Hp) (x : Nat) (A : HV) (n : Int) (k : Nat) : Prop := if k = 0 then SWP h (x + 5) A n else if k = 1 then CWh h (x + 6) (cwQ A n) else ∃ sh, gr h x 14 = some sh ∧ ShT h sh A ∧ DfH h (x + 7) sh A (difQ A n)
theorem cl_hasWay0 (S : CSt h x m s) {n : Int32} (n1 : 2 ≤ n.toInt) : S_X9_hasWay l D 0 0 [.ref x, .int n, .int 0] h (QI fun y h' => y.toInt = hw (sA s) n.toInt 0 ∧ WyH h' x (sA s) n.toInt 0 ∧ CSt h' x m s ∧ ptr h' x = ptr h x ∧ gr h' x 14 = gr h x 14 ∧ FrX (inC x m) h h') := Sp.of rfl (Nat.le_of_ble_eq_true rfl) (fun X C _ _ _ _ => V_X9_hasWay_0 C (by
  obtain ⟨a, ea, Ha, ba⟩ := S.now
  obtain ⟨n12, g12⟩ := nn_of ea
  have V := S.2.2.2.2.1.1
  rw [g12, hw_0]
  refine ⟨fun q => absurd rfl q, fun _ => ⟨S.1, n12, (cl_look6 (w := x + 5) Ha V (St9_k2 S.1) (fun z => by unfold inH at z; omega) (n := n) (by omega)).mono (fun w h3 hp => ?_)⟩⟩
  obtain ⟨rfl, R3, f3⟩ := hp
  obtain ⟨S3, p3, x3⟩ := S.scr f3 (fun b j (q : b = x + 5) => Or.inl (by omega)) (fun _ _ q => absurd q id)
  have cf := cntS_f V (n := n.toInt)
  have c0 : (gi h3 (x + 5) 0).toInt = (cntS (sA s) n.toInt (sA s 0 3).toNat : Nat) := R3.1
  refine ⟨rfl, S3.1, fun q => ⟨_, rfl, ?_, R3, S3, p3, by rw [f3.2.2.2.1], x3⟩, fun q => ⟨_, rfl, ?_, R3, S3, p3, by rw [f3.2.2.2.1], x3⟩⟩
  all_goals rw [i32_le, c0, i0_t] at q
  · rw [if_neg (cf.mp (by omega))]; rfl
  · rw [if_pos (Classical.not_not.mp (fun z => by have := cf.mpr z; omega))]; rfl))
theorem cl_hasWay1 (S : CSt h x m s) {n : Int32} (n1 : 2 ≤ n.toInt) : S_X9_hasWay l D 0 0 [.ref x, .int n, .int 1] h (QI fun y h' => y.toInt = hw (sA s) n.toInt 1 ∧ WyH h' x (sA s) n.toInt 1 ∧ CSt h' x m s ∧ ptr h' x = ptr h x ∧ gr h' x 14 = gr h x 14 ∧ FrX (inC x m) h h') := Sp.of rfl (Nat.le_of_ble_eq_true rfl) (fun X C _ _ _ _ => V_X9_hasWay_0 C (by
  obtain ⟨a, ea, Ha, ba⟩ := S.now
  obtain ⟨n12, g12⟩ := nn_of ea
  have V := S.2.2.2.2.1.1
  rw [g12, hw_1]
  refine ⟨fun _ => ⟨fun q => absurd rfl q, fun _ => ⟨S.1, n12, (cl_look0 (w := x + 6) (St9_k3 S.1) Ha V (fun z => by unfold inH at z; omega) n1).mono (fun w h3 hp => ?_)⟩⟩, fun q => absurd q p1_ne⟩
  obtain ⟨rfl, R3, f3⟩ := hp
  obtain ⟨S3, p3, x3⟩ := S.scr f3 (fun b j (q : b = x + 6) => Or.inl (by omega)) (fun _ _ q => absurd q id)
  have ok := (cwQ_ok V n1).1
  have c0 : (gi h3 (x + 6) 0).toInt = (cwQ (sA s) n.toInt).1 := R3.1.1
  refine ⟨rfl, S3.1, fun q => ⟨_, rfl, ?_, R3, S3, p3, by rw [f3.2.2.2.1], x3⟩, fun q => ⟨_, rfl, ?_, R3, S3, p3, by rw [f3.2.2.2.1], x3⟩⟩
  all_goals rw [i32_le, c0, i0_t] at q
  · rw [if_pos (by omega)]; rfl
  · rw [if_neg (by omega)]; rfl))
theorem shC_some {sh : Nat} (e : gr h x 14 = some sh) : shC h x = 0 ∧ shM h x = 0 := by
  unfold shC shM
  rw [e, if_neg (fun q => by cases q), if_neg (fun q => by cases q)]; exact ⟨rfl, rfl⟩
theorem shC_same {h' : Hp} (e : gr h' x 14 = gr h x 14) : shC h' x = shC h x ∧ shM h' x = shM h x := by
  unfold shC shM
  rw [e]; exact ⟨rfl, rfl⟩
theorem cl_hasWay2 (S : CSt h x m s) {n : Int32} (n1 : 2 ≤ n.toInt) (n2 : n.toInt ≤ 400) : S_X9_hasWay l D (shC h x) (shM h x) [.ref x, .int n, .int 2] h (QI fun y h' => y.toInt = hw (sA s) n.toInt 2 ∧ WyH h' x (sA s) n.toInt 2 ∧ CSt h' x m s ∧ ptr h' x = ptr h x ∧ FrX (inC x m) h h') := Sp.of rfl (Nat.le_of_ble_eq_true rfl) (fun X C _ _ hmc hms => V_X9_hasWay_0 C (by
  obtain ⟨a, ea, Ha, ba⟩ := S.now
  obtain ⟨n12, g12⟩ := nn_of ea
  have i2 : (2 : Int32).toInt = 2 := rfl
  rw [g12]
  refine ⟨fun _ => ⟨fun _ => ⟨S.1, n12, shC h x, shM h x, by omega, by omega, (cl_fitted S).mono (fun v h2 hp => ?_)⟩, fun q => by rw [i32_eq, i2, i1_t] at q; omega⟩, fun q => by rw [i32_eq, i2, i0_t] at q; omega⟩
  obtain ⟨sh, rfl, S2, e14, T2, p2, x2⟩ := hp
  obtain ⟨a2, ea2, -, -⟩ := S2.now
  have e12 : a2 = a := by
    have t1 : gr h2 x 12 = gr h x 12 := congrFun p2 0
    rw [ea2, ea] at t1; injection t1
  subst e12
  refine ⟨sh, rfl, St9_s4 S2.1, (cl_look1C S2 ea2 e14 T2 n1 n2).mono (fun w h8 hp => ?_)⟩
  obtain ⟨rfl, R8, S8, p8, e8, T8, f8, x8⟩ := hp
  have W : WyH h8 x (sA s) n.toInt 2 := ⟨sh, e8, T8, R8⟩
  refine ⟨rfl, S8.1, fun q => ⟨_, rfl, ?_, W, S8, p8.trans p2, x2.tr x8⟩, fun q => ⟨_, rfl, ?_, W, S8, p8.trans p2, x2.tr x8⟩⟩
  all_goals
    rw [hw_2]
    cases eq : difQ (sA s) n.toInt with
    | none =>
      rw [eq] at R8
      have g1 : (gi h8 (x + 7) 1).toInt = 0 := R8
      rw [i32_le, g1, i0_t] at q
      first
        | rfl
        | omega
    | some d =>
      rw [eq] at R8
      have d1 := (difQ_b n2 eq).1
      have g1 : (gi h8 (x + 7) 1).toInt = d.1 := R8.1
      rw [i32_le, g1, i0_t] at q
      first
        | rfl
        | omega))
end Wys
