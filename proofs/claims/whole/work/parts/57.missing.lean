-- which parts have no mark
abbrev cdM (A : HV) (n : Int) (j : Nat) : Prop := n % A 5 j = 0
def kjM (A : HV) (n : Int) (j : Nat) : Int := A 4 j * (n / A 5 j)
def msM (A : HV) (n : Int) : Nat → Nat
  | 0 => 0
  | j + 1 => msM A n j + if cdM A n j then 1 else 0
def msO (A : HV) (n : Int) : Nat → Nat
  | 0 => 0
  | j + 1 => msO A n j + if cdM A n j ∧ kjM A n j = msO A n j then 1 else 0
def msRow (A : HV) (n : Int) : List Int := (if (msM A n (A 0 7).toNat : Int) < n then [(msO A n (A 0 7).toNat : Int)] else []) ++ [A 0 7 - (msM A n (A 0 7).toNat : Int)]
def missingP (s : Sv) (n : Int) : Int × Sv := if 1 ≤ n ∧ n ≤ 400 then (n - (msM (sA s) n (sA s 0 7).toNat : Int), rowS s (msRow (sA s) n)) else (-1, s)
def hitB (A : HV) (n : Int) : Nat → Nat → Bool
  | 0, _ => false
  | j + 1, k => hitB A n j k || (decide (cdM A n j) && decide (kjM A n j = (k : Int)))
def cntB (f : Nat → Bool) : Nat → Nat
  | 0 => 0
  | n + 1 => cntB f n + if f n = true then 1 else 0
theorem hitB_iff (A : HV) (n : Int) (N k : Nat) : hitB A n N k = true ↔ ∃ j, j < N ∧ cdM A n j ∧ kjM A n j = (k : Int) := by
  induction N with
  | zero => exact ⟨(fun q => by cases q), fun ⟨j, hj, _⟩ => by omega⟩
  | succ N ih =>
    unfold hitB
    rw [Bool.or_eq_true, ih, Bool.and_eq_true, decide_eq_true_eq, decide_eq_true_eq]
    constructor
    · rintro (⟨j, h1, h2⟩ | ⟨h1, h2⟩)
      · exact ⟨j, by omega, h2⟩
      · exact ⟨N, by omega, h1, h2⟩
    · rintro ⟨j, h1, h2⟩
      by_cases e : j = N
      · rw [e] at h2; exact Or.inr h2
      · exact Or.inl ⟨j, by omega, h2⟩
theorem cntB_same {f g : Nat → Bool} {n : Nat} (h : ∀ k, k < n → g k = f k) : cntB g n = cntB f n := by
  induction n with
  | zero => rfl
  | succ n ih => unfold cntB; rw [ih (fun k hk => h k (by omega)), h n (by omega)]
theorem cntB_one {f g : Nat → Bool} {n c : Nat} (hc : c < n) (h1 : f c = false) (h2 : g c = true) (h : ∀ k, k < n → k ≠ c → g k = f k) : cntB g n = cntB f n + 1 := by
  induction n with
  | zero => omega
  | succ n ih =>
    unfold cntB
    by_cases e : c = n
    · subst e
      rw [cntB_same (fun k hk => h k (by omega) (by omega)), h1, h2]; simp
    · rw [ih (by omega) (fun k hk hne => h k (by omega) hne), h n (by omega) (by omega)]
      omega
theorem cntB_le (f : Nat → Bool) (n : Nat) : cntB f n ≤ n := by
  induction n with
  | zero => exact Nat.le_refl _
  | succ n ih => unfold cntB; split <;> omega
theorem cntB_all {f : Nat → Bool} {n : Nat} (h : cntB f n = n) : ∀ k, k < n → f k = true := by
  induction n with
  | zero => intro k hk; omega
  | succ n ih =>
    unfold cntB at h
    have := cntB_le f n
    by_cases q : f n = true
    · rw [if_pos q] at h
      intro k hk
      by_cases e : k = n
      · rw [e]; exact q
      · exact ih (by omega) k (by omega)
    · rw [if_neg q] at h; omega
theorem cntB_full {f : Nat → Bool} {n : Nat} (h : ∀ k, k < n → f k = true) : cntB f n = n := by
  induction n with
  | zero => rfl
  | succ n ih => unfold cntB; rw [ih (fun k hk => h k (by omega)), if_pos (h n (by omega))]
section Miss
variable {A : HV} {n : Int}
theorem kj_n (V : VA A) {j : Nat} (hj : (j : Int) < A 0 7) (hc : cdM A n j) : n = A 5 j * (n / A 5 j) := by
  have := Int.emod_add_mul_ediv n (A 5 j)
  rw [hc] at this; omega
theorem kj_b (V : VA A) (hn : 0 < n) {j : Nat} (hj : (j : Int) < A 0 7) (hc : cdM A n j) : 0 < n / A 5 j ∧ 0 ≤ kjM A n j ∧ kjM A n j < n := by
  have mk := V.mk hj
  have e := kj_n V hj hc
  have q : 0 < n / A 5 j := by
    rcases Int.lt_or_le 0 (n / A 5 j) with z | z
    · exact z
    · have := Int.mul_nonpos_of_nonneg_of_nonpos (a := A 5 j) (by omega) z; omega
  refine ⟨q, Int.mul_nonneg mk.1 (by omega), ?_⟩
  have : A 4 j * (n / A 5 j) < A 5 j * (n / A 5 j) := Int.mul_lt_mul_of_pos_right mk.2.1 q
  unfold kjM; omega
theorem kj_mono (V : VA A) (hn : 0 < n) {i j : Nat} (hij : i < j) (hj : (j : Int) < A 0 7) (hci : cdM A n i) (hcj : cdM A n j) : kjM A n i < kjM A n j := by
  have mi := V.mk (k := i) (by omega)
  have mj := V.mk hj
  have ei := kj_n V (j := i) (by omega) hci
  have ej := kj_n V hj hcj
  have hs := V.srt hij hj
  have h1 : A 4 i * A 5 j * n < A 4 j * A 5 i * n := Int.mul_lt_mul_of_pos_right hs hn
  have pp : 0 < A 5 i * A 5 j := Int.mul_pos (by omega) (by omega)
  have e1 : kjM A n i * (A 5 i * A 5 j) = A 4 i * A 5 j * n := by
    have : kjM A n i * (A 5 i * A 5 j) = A 4 i * A 5 j * (A 5 i * (n / A 5 i)) := by unfold kjM; simp only [Int.mul_assoc, Int.mul_left_comm, Int.mul_comm]
    rw [this, ← ei]
  have e2 : kjM A n j * (A 5 i * A 5 j) = A 4 j * A 5 i * n := by
    have : kjM A n j * (A 5 i * A 5 j) = A 4 j * A 5 i * (A 5 j * (n / A 5 j)) := by unfold kjM; simp only [Int.mul_assoc, Int.mul_left_comm, Int.mul_comm]
    rw [this, ← ej]
  rw [← e1, ← e2] at h1
  exact Int.lt_of_mul_lt_mul_right h1 (by omega)
theorem ms_cnt (V : VA A) (hn : 0 < n) (N : Nat) (hN : (N : Int) ≤ A 0 7) : cntB (hitB A n N) n.toNat = msM A n N := by
  induction N with
  | zero =>
    unfold msM
    have : ∀ m, cntB (hitB A n 0) m = 0 := by
      intro m
      induction m with
      | zero => rfl
      | succ m ih => unfold cntB; rw [ih, if_neg (by unfold hitB; decide)]
    exact this _
  | succ N ih =>
    unfold msM
    by_cases q : cdM A n N
    · rw [if_pos q]
      obtain ⟨b1, b2, b3⟩ := kj_b V hn (j := N) (by omega) q
      rw [← ih (by omega)]
      refine cntB_one (c := (kjM A n N).toNat) (by omega) ?_ ?_ (fun k hk hne => ?_)
      · rw [Bool.eq_false_iff]
        intro z
        rw [hitB_iff] at z
        obtain ⟨j, j1, j2, j3⟩ := z
        have := kj_mono V hn j1 (by omega) j2 q
        omega
      · rw [hitB_iff]; exact ⟨N, by omega, q, by omega⟩
      · rw [Bool.eq_iff_iff, hitB_iff, hitB_iff]
        constructor
        · rintro ⟨j, j1, j2, j3⟩
          by_cases e : j = N
          · subst e; omega
          · exact ⟨j, by omega, j2, j3⟩
        · rintro ⟨j, j1, j2⟩; exact ⟨j, by omega, j2⟩
    · rw [if_neg q, ← ih (by omega)]
      refine cntB_same (fun k hk => ?_)
      rw [Bool.eq_iff_iff, hitB_iff, hitB_iff]
      constructor
      · rintro ⟨j, j1, j2, j3⟩
        by_cases e : j = N
        · subst e; exact absurd j2 q
        · exact ⟨j, by omega, j2, j3⟩
      · rintro ⟨j, j1, j2⟩; exact ⟨j, by omega, j2⟩
/-- msO is the first that isn't met -/
theorem ms_mex (V : VA A) (hn : 0 < n) (N : Nat) (hN : (N : Int) ≤ A 0 7) : (∀ k, k < msO A n N → hitB A n N k = true) ∧ hitB A n N (msO A n N) = false := by
  induction N with
  | zero => exact ⟨fun k hk => by unfold msO at hk; omega, rfl⟩
  | succ N ih =>
    obtain ⟨h1, h2⟩ := ih (by omega)
    have up : ∀ k, hitB A n N k = true → hitB A n (N + 1) k = true := fun k hk => by
      rw [hitB_iff] at hk ⊢
      obtain ⟨j, j1, j2⟩ := hk
      exact ⟨j, by omega, j2⟩
    unfold msO
    by_cases q : cdM A n N ∧ kjM A n N = msO A n N
    · rw [if_pos q]
      refine ⟨fun k hk => ?_, ?_⟩
      · by_cases e : k = msO A n N
        · rw [hitB_iff]; exact ⟨N, by omega, q.1, by rw [q.2, e]⟩
        · exact up k (h1 k (by omega))
      · rw [Bool.eq_false_iff]
        intro z
        rw [hitB_iff] at z
        obtain ⟨j, j1, j2, j3⟩ := z
        by_cases e : j = N
        · subst e; omega
        · have := kj_mono V hn (i := j) (j := N) (by omega) (by omega) j2 q.1
          omega
    · rw [if_neg q]
      refine ⟨fun k hk => up k (h1 k (by omega)), ?_⟩
      rw [Bool.eq_false_iff]
      intro z
      rw [hitB_iff] at z
      obtain ⟨j, j1, j2, j3⟩ := z
      by_cases e : j = N
      · subst e; exact q ⟨j2, by omega⟩
      · have : hitB A n N (msO A n N) = true := by rw [hitB_iff]; exact ⟨j, by omega, j2, by omega⟩
        rw [h2] at this; cases this
theorem msO_le (A : HV) (n : Int) (N : Nat) : msO A n N ≤ N := by
  induction N with
  | zero => exact Nat.le_refl _
  | succ N ih => unfold msO; split <;> omega
theorem msM_le (A : HV) (n : Int) (N : Nat) : msM A n N ≤ N := by
  induction N with
  | zero => exact Nat.le_refl _
  | succ N ih => unfold msM; split <;> omega
/-- a mark is k by n -/
theorem mk_is (V : VA A) (hn : 0 < n) {j : Nat} (hj : (j : Int) < A 0 7) {k : Nat} : (A 4 j = rdU k n ∧ A 5 j = rdL k n) ↔ (cdM A n j ∧ kjM A n j = (k : Int)) := by
  have mk := V.mk hj
  constructor
  · rintro ⟨e1, e2⟩
    obtain ⟨r1, r2⟩ := rd_mul (u := (k : Int)) hn
    rw [← e1] at r1
    rw [← e2] at r2
    have gp := gcd_pos' (u := (k : Int)) hn
    generalize (Int.gcd (k : Int) n : Int) = g at *
    have ec : cdM A n j := by
      show n % A 5 j = 0
      rw [← r2, Int.mul_emod_left]
    refine ⟨ec, ?_⟩
    have : n / A 5 j = g := by rw [← r2]; exact Int.mul_ediv_cancel _ (by omega)
    unfold kjM
    rw [this, Int.mul_comm]; exact r1
  · rintro ⟨ec, ek⟩
    have en := kj_n V hj ec
    obtain ⟨b1, b2, b3⟩ := kj_b V hn hj ec
    have u := rd_unique (u := (k : Int)) (w := n) (u' := A 4 j) (w' := A 5 j) hn (by omega) (by
      rw [← ek]
      unfold kjM
      have : A 4 j * n = A 4 j * (A 5 j * (n / A 5 j)) := by rw [← en]
      rw [this]; simp only [Int.mul_assoc, Int.mul_left_comm, Int.mul_comm])
    obtain ⟨s1, s2⟩ := rd_self mk.2.2.2
    rw [u.1, u.2, s1, s2]
    exact ⟨rfl, rfl⟩
end Miss
