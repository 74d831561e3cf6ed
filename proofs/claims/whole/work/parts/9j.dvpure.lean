-- divides(): the steps of the way as the reference goes them
/-- the same worm, the same circles -/
def SmB (A B : HV) : Prop := B 0 0 = A 0 0 ∧ B 0 3 = A 0 3 ∧ ∀ k, B 1 k = A 1 k
theorem uv_i {A : HV} {i j : Nat} {v : Int} {a b : Nat} : uv A i j v a b = if a = i ∧ b = j then v else A a b := rfl
theorem SmB.uv {A B : HV} (S : SmB A B) {j : Nat} (hj : 4 ≤ j) (v : Int) : SmB A (uv B 0 j v) := by
  refine ⟨?_, ?_, fun k => ?_⟩
  · rw [uv_i, if_neg (by omega)]; exact S.1
  · rw [uv_i, if_neg (by omega)]; exact S.2.1
  · rw [uv_i, if_neg (by omega)]; exact S.2.2 k
theorem chooseP_2 {B : HV} {f : Int} (h1 : 0 ≤ f) (h2 : f < B 0 3) : (chooseP B f).2 = atC B f := by
  unfold chooseP
  rw [if_pos ⟨h1, h2⟩]
  by_cases c : f = B 0 5
  · rw [if_pos c, c]; exact (atC_self B).symm
  · rw [if_neg c]
theorem uv_uv {B : HV} {i j : Nat} {v w : Int} : uv (uv B i j v) i j w = uv B i j w := by
  funext a b
  rw [uv_i, uv_i, uv_i]
  by_cases c : a = i ∧ b = j
  · rw [if_pos c, if_pos c]
  · rw [if_neg c, if_neg c, if_neg c]
theorem goQ_at {B : HV} {i q : Int} : (windQ (atC B i) q).2 = atC (goQ B i q).2 i := by
  unfold windQ goQ nxU nxL
  by_cases c : rdL (wdU (atC B i) q) (wdL (atC B i)) ≤ 1000000000
  · rw [if_pos c, if_pos c]
    funext a b
    simp only [uv_i]
    by_cases d : a = 0 ∧ b = 5
    · rw [if_neg (by omega), if_neg (by omega), if_pos d, if_pos d]
    · rw [if_neg d, if_neg d]
  · rw [if_neg c, if_neg c]
theorem fS_same {A B : HV} (S : SmB A B) {k : Int} (hf : (fS A k : Int) < A 0 3) : fS B k = fS A k := by
  refine fS_eq (by rw [S.2.1]; exact hf) ?_ (fun j hj => ?_)
  · show (B 0 0 * B 1 (fS A k)) % k = 0
    rw [S.1, S.2.2]; exact fS_is hf
  · show ¬ (B 0 0 * B 1 j) % k = 0
    rw [S.1, S.2.2]; exact fS_no hj
theorem atC_5 {B : HV} {f : Int} : atC B f 0 5 = f := by
  show uv B 0 5 f 0 5 = f
  rw [uv_i, if_pos ⟨rfl, rfl⟩]
theorem atC_1 {B : HV} {f : Int} {k : Nat} : atC B f 1 k = B 1 k := by
  show uv B 0 5 f 1 k = B 1 k
  rw [uv_i, if_neg (by omega)]
theorem Hc_at {B : HV} {f : Nat} : Hc (atC B f) = B 1 f := by
  unfold Hc
  rw [atC_5, atC_1]; rfl
theorem dvSm_go {A B : HV} (V : VA A) (S : SmB A B) {k : Int} (k1 : 2 ≤ k) (hf : (fS A k : Int) < A 0 3) : dvSm A k B = (goQ (atC B (fS A k)) (fS A k) (smH A k (fS A k))).2 := by
  obtain ⟨s1, s2, s3, s4⟩ := sm_div V (n := k) (by omega) hf (fS_is hf)
  have v13 := (V.2.2.2.2.2.2.2.2.2.2.2.2.2.1 _ hf)
  have wm := V.worm
  have m0 := Int.emod_nonneg (smH A k (fS A k)) (b := A 1 (fS A k)) (by omega)
  have m1 := Int.emod_lt_of_pos (smH A k (fS A k)) (b := A 1 (fS A k)) (by omega)
  have t0 : 0 ≤ A 0 0 / k := Int.ediv_nonneg (by omega) (by omega)
  have t1 : A 0 0 / k ≤ 60 := by
    have : A 0 0 / k ≤ 120 / k := Int.ediv_le_ediv (by omega) (by omega)
    have h2 : 120 / k ≤ 60 := Int.ediv_le_of_le_mul (by omega) (by omega)
    omega
  have eh : Hc (atC B (fS A k)) = A 1 (fS A k) := by rw [Hc_at]; exact S.2.2 _
  have gs : goQ (atC B (fS A k)) (fS A k) (smH A k (fS A k)) = windQ (atC B (fS A k)) (smH A k (fS A k)) := by
    have := goQ_self (atC B (fS A k)) (smH A k (fS A k))
    rw [atC_5] at this
    exact this
  rw [gs]
  unfold dvSm
  rw [chooseP_2 (by omega) (by rw [S.2.1]; exact hf)]
  unfold windP
  rw [eh, if_pos ⟨⟨t0, by omega⟩, ⟨m0, by omega⟩, by decide⟩, if_neg (by decide)]
  rw [show A 0 0 / k * A 1 (fS A k) + smH A k (fS A k) % A 1 (fS A k) = smH A k (fS A k) by omega]
