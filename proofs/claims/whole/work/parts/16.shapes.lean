-- the objects' shapes (by program: gen_struct.py)
theorem inbd {i : Int32} {N : Nat} (h : 0 ≤ i.toInt ∧ i.toInt < N) : inb i N := h
theorem inbl {i : Int32} {N M : Nat} (e : M = N) (h : inb i N) : inb i M := e ▸ h
def St1 (h : Hp) (a : Nat) : Prop := kd h a = 2 ∧ gr h a 0 = some (a + 1) ∧ kd h (a + 1) = 7
theorem St1_k {h : Hp} {a : Nat} (F : St1 h a) : kd h a = 2 := F.1
theorem St1_r0 {h : Hp} {a : Nat} (F : St1 h a) : gr h a 0 = some (a + 1) := F.2.1
theorem St1_k0 {h : Hp} {a : Nat} (F : St1 h a) : kd h (a + 1) = 7 := F.2.2
theorem St1_same {h h' : Hp} {a : Nat} (F : St1 h a) (e1 : kd h' = kd h) (e2 : ln h' = ln h) (e3 : gr h' = gr h) : St1 h' a := by
  unfold St1 at *
  simp only [e1, e2, e3]
  exact F
def St3 (h : Hp) (a : Nat) : Prop := kd h a = 4 ∧ gr h a 1 = some (a + 1) ∧ kd h (a + 1) = 3 ∧ gr h a 2 = some (a + 2) ∧ kd h (a + 2) = 21 ∧ ln h (a + 2) = 60 ∧ gr h a 3 = some (a + 3) ∧ kd h (a + 3) = 21 ∧ ln h (a + 3) = 60
theorem St3_k {h : Hp} {a : Nat} (F : St3 h a) : kd h a = 4 := F.1
theorem St3_r1 {h : Hp} {a : Nat} (F : St3 h a) : gr h a 1 = some (a + 1) := F.2.1
theorem St3_k1 {h : Hp} {a : Nat} (F : St3 h a) : kd h (a + 1) = 3 := F.2.2.1
theorem St3_r2 {h : Hp} {a : Nat} (F : St3 h a) : gr h a 2 = some (a + 2) := F.2.2.2.1
theorem St3_k2 {h : Hp} {a : Nat} (F : St3 h a) : kd h (a + 2) = 21 := F.2.2.2.2.1
theorem St3_l2 {h : Hp} {a : Nat} (F : St3 h a) : ln h (a + 2) = 60 := F.2.2.2.2.2.1
theorem St3_r3 {h : Hp} {a : Nat} (F : St3 h a) : gr h a 3 = some (a + 3) := F.2.2.2.2.2.2.1
theorem St3_k3 {h : Hp} {a : Nat} (F : St3 h a) : kd h (a + 3) = 21 := F.2.2.2.2.2.2.2.1
theorem St3_l3 {h : Hp} {a : Nat} (F : St3 h a) : ln h (a + 3) = 60 := F.2.2.2.2.2.2.2.2
theorem St3_same {h h' : Hp} {a : Nat} (F : St3 h a) (e1 : kd h' = kd h) (e2 : ln h' = ln h) (e3 : gr h' = gr h) : St3 h' a := by
  unfold St3 at *
  simp only [e1, e2, e3]
  exact F
def St4 (h : Hp) (a : Nat) : Prop := kd h a = 5 ∧ gr h a 8 = some (a + 1) ∧ kd h (a + 1) = 3 ∧ gr h a 9 = some (a + 2) ∧ kd h (a + 2) = 3 ∧ gr h a 10 = some (a + 3) ∧ kd h (a + 3) = 3 ∧ gr h a 11 = some (a + 4) ∧ kd h (a + 4) = 20 ∧ ln h (a + 4) = 18 ∧ gr h a 12 = some (a + 5) ∧ kd h (a + 5) = 20 ∧ ln h (a + 5) = 18 ∧ gr h a 13 = some (a + 6) ∧ kd h (a + 6) = 20 ∧ ln h (a + 6) = 12 ∧ gr h a 14 = some (a + 7) ∧ kd h (a + 7) = 21 ∧ ln h (a + 7) = 60 ∧ gr h a 15 = some (a + 8) ∧ kd h (a + 8) = 21 ∧ ln h (a + 8) = 60
theorem St4_k {h : Hp} {a : Nat} (F : St4 h a) : kd h a = 5 := F.1
theorem St4_r8 {h : Hp} {a : Nat} (F : St4 h a) : gr h a 8 = some (a + 1) := F.2.1
theorem St4_k8 {h : Hp} {a : Nat} (F : St4 h a) : kd h (a + 1) = 3 := F.2.2.1
theorem St4_r9 {h : Hp} {a : Nat} (F : St4 h a) : gr h a 9 = some (a + 2) := F.2.2.2.1
theorem St4_k9 {h : Hp} {a : Nat} (F : St4 h a) : kd h (a + 2) = 3 := F.2.2.2.2.1
theorem St4_r10 {h : Hp} {a : Nat} (F : St4 h a) : gr h a 10 = some (a + 3) := F.2.2.2.2.2.1
theorem St4_k10 {h : Hp} {a : Nat} (F : St4 h a) : kd h (a + 3) = 3 := F.2.2.2.2.2.2.1
theorem St4_r11 {h : Hp} {a : Nat} (F : St4 h a) : gr h a 11 = some (a + 4) := F.2.2.2.2.2.2.2.1
theorem St4_k11 {h : Hp} {a : Nat} (F : St4 h a) : kd h (a + 4) = 20 := F.2.2.2.2.2.2.2.2.1
theorem St4_l11 {h : Hp} {a : Nat} (F : St4 h a) : ln h (a + 4) = 18 := F.2.2.2.2.2.2.2.2.2.1
theorem St4_r12 {h : Hp} {a : Nat} (F : St4 h a) : gr h a 12 = some (a + 5) := F.2.2.2.2.2.2.2.2.2.2.1
theorem St4_k12 {h : Hp} {a : Nat} (F : St4 h a) : kd h (a + 5) = 20 := F.2.2.2.2.2.2.2.2.2.2.2.1
theorem St4_l12 {h : Hp} {a : Nat} (F : St4 h a) : ln h (a + 5) = 18 := F.2.2.2.2.2.2.2.2.2.2.2.2.1
theorem St4_r13 {h : Hp} {a : Nat} (F : St4 h a) : gr h a 13 = some (a + 6) := F.2.2.2.2.2.2.2.2.2.2.2.2.2.1
theorem St4_k13 {h : Hp} {a : Nat} (F : St4 h a) : kd h (a + 6) = 20 := F.2.2.2.2.2.2.2.2.2.2.2.2.2.2.1
theorem St4_l13 {h : Hp} {a : Nat} (F : St4 h a) : ln h (a + 6) = 12 := F.2.2.2.2.2.2.2.2.2.2.2.2.2.2.2.1
theorem St4_r14 {h : Hp} {a : Nat} (F : St4 h a) : gr h a 14 = some (a + 7) := F.2.2.2.2.2.2.2.2.2.2.2.2.2.2.2.2.1
theorem St4_k14 {h : Hp} {a : Nat} (F : St4 h a) : kd h (a + 7) = 21 := F.2.2.2.2.2.2.2.2.2.2.2.2.2.2.2.2.2.1
theorem St4_l14 {h : Hp} {a : Nat} (F : St4 h a) : ln h (a + 7) = 60 := F.2.2.2.2.2.2.2.2.2.2.2.2.2.2.2.2.2.2.1
theorem St4_r15 {h : Hp} {a : Nat} (F : St4 h a) : gr h a 15 = some (a + 8) := F.2.2.2.2.2.2.2.2.2.2.2.2.2.2.2.2.2.2.2.1
theorem St4_k15 {h : Hp} {a : Nat} (F : St4 h a) : kd h (a + 8) = 21 := F.2.2.2.2.2.2.2.2.2.2.2.2.2.2.2.2.2.2.2.2.1
theorem St4_l15 {h : Hp} {a : Nat} (F : St4 h a) : ln h (a + 8) = 60 := F.2.2.2.2.2.2.2.2.2.2.2.2.2.2.2.2.2.2.2.2.2
theorem St4_same {h h' : Hp} {a : Nat} (F : St4 h a) (e1 : kd h' = kd h) (e2 : ln h' = ln h) (e3 : gr h' = gr h) : St4 h' a := by
  unfold St4 at *
  simp only [e1, e2, e3]
  exact F
def St5 (h : Hp) (a : Nat) : Prop := kd h a = 6 ∧ gr h a 2 = some (a + 1) ∧ kd h (a + 1) = 20 ∧ ln h (a + 1) = 12 ∧ gr h a 3 = some (a + 2) ∧ kd h (a + 2) = 20 ∧ ln h (a + 2) = 3102 ∧ gr h a 4 = some (a + 3) ∧ kd h (a + 3) = 20 ∧ ln h (a + 3) = 3102 ∧ gr h a 5 = some (a + 4) ∧ kd h (a + 4) = 20 ∧ ln h (a + 4) = 3102 ∧ gr h a 6 = some (a + 5) ∧ kd h (a + 5) = 20 ∧ ln h (a + 5) = 8192
theorem St5_k {h : Hp} {a : Nat} (F : St5 h a) : kd h a = 6 := F.1
theorem St5_r2 {h : Hp} {a : Nat} (F : St5 h a) : gr h a 2 = some (a + 1) := F.2.1
theorem St5_k2 {h : Hp} {a : Nat} (F : St5 h a) : kd h (a + 1) = 20 := F.2.2.1
theorem St5_l2 {h : Hp} {a : Nat} (F : St5 h a) : ln h (a + 1) = 12 := F.2.2.2.1
theorem St5_r3 {h : Hp} {a : Nat} (F : St5 h a) : gr h a 3 = some (a + 2) := F.2.2.2.2.1
theorem St5_k3 {h : Hp} {a : Nat} (F : St5 h a) : kd h (a + 2) = 20 := F.2.2.2.2.2.1
theorem St5_l3 {h : Hp} {a : Nat} (F : St5 h a) : ln h (a + 2) = 3102 := F.2.2.2.2.2.2.1
theorem St5_r4 {h : Hp} {a : Nat} (F : St5 h a) : gr h a 4 = some (a + 3) := F.2.2.2.2.2.2.2.1
theorem St5_k4 {h : Hp} {a : Nat} (F : St5 h a) : kd h (a + 3) = 20 := F.2.2.2.2.2.2.2.2.1
theorem St5_l4 {h : Hp} {a : Nat} (F : St5 h a) : ln h (a + 3) = 3102 := F.2.2.2.2.2.2.2.2.2.1
theorem St5_r5 {h : Hp} {a : Nat} (F : St5 h a) : gr h a 5 = some (a + 4) := F.2.2.2.2.2.2.2.2.2.2.1
theorem St5_k5 {h : Hp} {a : Nat} (F : St5 h a) : kd h (a + 4) = 20 := F.2.2.2.2.2.2.2.2.2.2.2.1
theorem St5_l5 {h : Hp} {a : Nat} (F : St5 h a) : ln h (a + 4) = 3102 := F.2.2.2.2.2.2.2.2.2.2.2.2.1
theorem St5_r6 {h : Hp} {a : Nat} (F : St5 h a) : gr h a 6 = some (a + 5) := F.2.2.2.2.2.2.2.2.2.2.2.2.2.1
theorem St5_k6 {h : Hp} {a : Nat} (F : St5 h a) : kd h (a + 5) = 20 := F.2.2.2.2.2.2.2.2.2.2.2.2.2.2.1
theorem St5_l6 {h : Hp} {a : Nat} (F : St5 h a) : ln h (a + 5) = 8192 := F.2.2.2.2.2.2.2.2.2.2.2.2.2.2.2
theorem St5_same {h h' : Hp} {a : Nat} (F : St5 h a) (e1 : kd h' = kd h) (e2 : ln h' = ln h) (e3 : gr h' = gr h) : St5 h' a := by
  unfold St5 at *
  simp only [e1, e2, e3]
  exact F
def St7 (h : Hp) (a : Nat) : Prop := kd h a = 8 ∧ gr h a 0 = some (a + 1) ∧ kd h (a + 1) = 22 ∧ ln h (a + 1) = 80
theorem St7_k {h : Hp} {a : Nat} (F : St7 h a) : kd h a = 8 := F.1
theorem St7_r0 {h : Hp} {a : Nat} (F : St7 h a) : gr h a 0 = some (a + 1) := F.2.1
theorem St7_k0 {h : Hp} {a : Nat} (F : St7 h a) : kd h (a + 1) = 22 := F.2.2.1
theorem St7_l0 {h : Hp} {a : Nat} (F : St7 h a) : ln h (a + 1) = 80 := F.2.2.2
theorem St7_same {h h' : Hp} {a : Nat} (F : St7 h a) (e1 : kd h' = kd h) (e2 : ln h' = ln h) (e3 : gr h' = gr h) : St7 h' a := by
  unfold St7 at *
  simp only [e1, e2, e3]
  exact F
def St8 (h : Hp) (a : Nat) : Prop := kd h a = 9 ∧ gr h a 0 = some (a + 1) ∧ kd h (a + 1) = 21 ∧ ln h (a + 1) = 60
theorem St8_k {h : Hp} {a : Nat} (F : St8 h a) : kd h a = 9 := F.1
theorem St8_r0 {h : Hp} {a : Nat} (F : St8 h a) : gr h a 0 = some (a + 1) := F.2.1
theorem St8_k0 {h : Hp} {a : Nat} (F : St8 h a) : kd h (a + 1) = 21 := F.2.2.1
theorem St8_l0 {h : Hp} {a : Nat} (F : St8 h a) : ln h (a + 1) = 60 := F.2.2.2
theorem St8_same {h h' : Hp} {a : Nat} (F : St8 h a) (e1 : kd h' = kd h) (e2 : ln h' = ln h) (e3 : gr h' = gr h) : St8 h' a := by
  unfold St8 at *
  simp only [e1, e2, e3]
  exact F
def St9 (h : Hp) (a : Nat) : Prop := kd h a = 10 ∧ gr h a 0 = some (a + 1) ∧ St7 h (a + 1) ∧ gr h a 1 = some (a + 3) ∧ St8 h (a + 3) ∧ gr h a 2 = some (a + 5) ∧ kd h (a + 5) = 7 ∧ gr h a 3 = some (a + 6) ∧ kd h (a + 6) = 1 ∧ gr h a 4 = some (a + 7) ∧ St1 h (a + 7) ∧ gr h a 5 = some (a + 9) ∧ St3 h (a + 9) ∧ gr h a 6 = some (a + 13) ∧ kd h (a + 13) = 3 ∧ gr h a 7 = some (a + 14) ∧ kd h (a + 14) = 3 ∧ gr h a 8 = some (a + 15) ∧ kd h (a + 15) = 24 ∧ ln h (a + 15) = 7 ∧ gr h a 9 = some (a + 16) ∧ kd h (a + 16) = 24 ∧ ln h (a + 16) = 2
theorem St9_k {h : Hp} {a : Nat} (F : St9 h a) : kd h a = 10 := F.1
theorem St9_r0 {h : Hp} {a : Nat} (F : St9 h a) : gr h a 0 = some (a + 1) := F.2.1
theorem St9_s0 {h : Hp} {a : Nat} (F : St9 h a) : St7 h (a + 1) := F.2.2.1
theorem St9_r1 {h : Hp} {a : Nat} (F : St9 h a) : gr h a 1 = some (a + 3) := F.2.2.2.1
theorem St9_s1 {h : Hp} {a : Nat} (F : St9 h a) : St8 h (a + 3) := F.2.2.2.2.1
theorem St9_r2 {h : Hp} {a : Nat} (F : St9 h a) : gr h a 2 = some (a + 5) := F.2.2.2.2.2.1
theorem St9_k2 {h : Hp} {a : Nat} (F : St9 h a) : kd h (a + 5) = 7 := F.2.2.2.2.2.2.1
theorem St9_r3 {h : Hp} {a : Nat} (F : St9 h a) : gr h a 3 = some (a + 6) := F.2.2.2.2.2.2.2.1
theorem St9_k3 {h : Hp} {a : Nat} (F : St9 h a) : kd h (a + 6) = 1 := F.2.2.2.2.2.2.2.2.1
theorem St9_r4 {h : Hp} {a : Nat} (F : St9 h a) : gr h a 4 = some (a + 7) := F.2.2.2.2.2.2.2.2.2.1
theorem St9_s4 {h : Hp} {a : Nat} (F : St9 h a) : St1 h (a + 7) := F.2.2.2.2.2.2.2.2.2.2.1
theorem St9_r5 {h : Hp} {a : Nat} (F : St9 h a) : gr h a 5 = some (a + 9) := F.2.2.2.2.2.2.2.2.2.2.2.1
theorem St9_s5 {h : Hp} {a : Nat} (F : St9 h a) : St3 h (a + 9) := F.2.2.2.2.2.2.2.2.2.2.2.2.1
theorem St9_r6 {h : Hp} {a : Nat} (F : St9 h a) : gr h a 6 = some (a + 13) := F.2.2.2.2.2.2.2.2.2.2.2.2.2.1
theorem St9_k6 {h : Hp} {a : Nat} (F : St9 h a) : kd h (a + 13) = 3 := F.2.2.2.2.2.2.2.2.2.2.2.2.2.2.1
theorem St9_r7 {h : Hp} {a : Nat} (F : St9 h a) : gr h a 7 = some (a + 14) := F.2.2.2.2.2.2.2.2.2.2.2.2.2.2.2.1
theorem St9_k7 {h : Hp} {a : Nat} (F : St9 h a) : kd h (a + 14) = 3 := F.2.2.2.2.2.2.2.2.2.2.2.2.2.2.2.2.1
theorem St9_r8 {h : Hp} {a : Nat} (F : St9 h a) : gr h a 8 = some (a + 15) := F.2.2.2.2.2.2.2.2.2.2.2.2.2.2.2.2.2.1
theorem St9_k8 {h : Hp} {a : Nat} (F : St9 h a) : kd h (a + 15) = 24 := F.2.2.2.2.2.2.2.2.2.2.2.2.2.2.2.2.2.2.1
theorem St9_l8 {h : Hp} {a : Nat} (F : St9 h a) : ln h (a + 15) = 7 := F.2.2.2.2.2.2.2.2.2.2.2.2.2.2.2.2.2.2.2.1
theorem St9_r9 {h : Hp} {a : Nat} (F : St9 h a) : gr h a 9 = some (a + 16) := F.2.2.2.2.2.2.2.2.2.2.2.2.2.2.2.2.2.2.2.2.1
theorem St9_k9 {h : Hp} {a : Nat} (F : St9 h a) : kd h (a + 16) = 24 := F.2.2.2.2.2.2.2.2.2.2.2.2.2.2.2.2.2.2.2.2.2.1
theorem St9_l9 {h : Hp} {a : Nat} (F : St9 h a) : ln h (a + 16) = 2 := F.2.2.2.2.2.2.2.2.2.2.2.2.2.2.2.2.2.2.2.2.2.2
theorem St9_same {h h' : Hp} {a : Nat} (F : St9 h a) (e1 : kd h' = kd h) (e2 : ln h' = ln h) (e3 : gr h' = gr h) : St9 h' a := by
  unfold St9 St7 St8 St1 St3 at *
  simp only [e1, e2, e3]
  exact F
def St10 (h : Hp) (a : Nat) : Prop := kd h a = 11 ∧ gr h a 2 = some (a + 1) ∧ kd h (a + 1) = 21 ∧ ln h (a + 1) = 64 ∧ gr h a 3 = some (a + 2) ∧ kd h (a + 2) = 20 ∧ ln h (a + 2) = 80 ∧ gr h a 7 = some (a + 3) ∧ kd h (a + 3) = 20 ∧ ln h (a + 3) = 732 ∧ gr h a 8 = some (a + 4) ∧ kd h (a + 4) = 21 ∧ ln h (a + 4) = 1464 ∧ gr h a 10 = some (a + 5) ∧ kd h (a + 5) = 20 ∧ ln h (a + 5) = 18 ∧ gr h a 11 = some (a + 6) ∧ kd h (a + 6) = 20 ∧ ln h (a + 6) = 12 ∧ gr h a 17 = some (a + 7) ∧ kd h (a + 7) = 20 ∧ ln h (a + 7) = 4 ∧ gr h a 19 = some (a + 8) ∧ kd h (a + 8) = 20 ∧ ln h (a + 8) = 4 ∧ gr h a 27 = some (a + 9) ∧ kd h (a + 9) = 21 ∧ ln h (a + 9) = 12100 ∧ gr h a 35 = some (a + 10) ∧ kd h (a + 10) = 21 ∧ ln h (a + 10) = 120 ∧ gr h a 36 = some (a + 11) ∧ kd h (a + 11) = 21 ∧ ln h (a + 11) = 60 ∧ gr h a 37 = some (a + 12) ∧ kd h (a + 12) = 20 ∧ ln h (a + 12) = 80 ∧ gr h a 38 = some (a + 13) ∧ kd h (a + 13) = 20 ∧ ln h (a + 13) = 80 ∧ gr h a 39 = some (a + 14) ∧ kd h (a + 14) = 20 ∧ ln h (a + 14) = 80 ∧ gr h a 40 = some (a + 15) ∧ kd h (a + 15) = 20 ∧ ln h (a + 15) = 80 ∧ gr h a 42 = some (a + 16) ∧ kd h (a + 16) = 23 ∧ ln h (a + 16) = 2
theorem St10_k {h : Hp} {a : Nat} (F : St10 h a) : kd h a = 11 := F.1
theorem St10_r2 {h : Hp} {a : Nat} (F : St10 h a) : gr h a 2 = some (a + 1) := F.2.1
theorem St10_k2 {h : Hp} {a : Nat} (F : St10 h a) : kd h (a + 1) = 21 := F.2.2.1
theorem St10_l2 {h : Hp} {a : Nat} (F : St10 h a) : ln h (a + 1) = 64 := F.2.2.2.1
theorem St10_r3 {h : Hp} {a : Nat} (F : St10 h a) : gr h a 3 = some (a + 2) := F.2.2.2.2.1
theorem St10_k3 {h : Hp} {a : Nat} (F : St10 h a) : kd h (a + 2) = 20 := F.2.2.2.2.2.1
theorem St10_l3 {h : Hp} {a : Nat} (F : St10 h a) : ln h (a + 2) = 80 := F.2.2.2.2.2.2.1
theorem St10_r7 {h : Hp} {a : Nat} (F : St10 h a) : gr h a 7 = some (a + 3) := F.2.2.2.2.2.2.2.1
theorem St10_k7 {h : Hp} {a : Nat} (F : St10 h a) : kd h (a + 3) = 20 := F.2.2.2.2.2.2.2.2.1
theorem St10_l7 {h : Hp} {a : Nat} (F : St10 h a) : ln h (a + 3) = 732 := F.2.2.2.2.2.2.2.2.2.1
theorem St10_r8 {h : Hp} {a : Nat} (F : St10 h a) : gr h a 8 = some (a + 4) := F.2.2.2.2.2.2.2.2.2.2.1
theorem St10_k8 {h : Hp} {a : Nat} (F : St10 h a) : kd h (a + 4) = 21 := F.2.2.2.2.2.2.2.2.2.2.2.1
theorem St10_l8 {h : Hp} {a : Nat} (F : St10 h a) : ln h (a + 4) = 1464 := F.2.2.2.2.2.2.2.2.2.2.2.2.1
theorem St10_r10 {h : Hp} {a : Nat} (F : St10 h a) : gr h a 10 = some (a + 5) := F.2.2.2.2.2.2.2.2.2.2.2.2.2.1
theorem St10_k10 {h : Hp} {a : Nat} (F : St10 h a) : kd h (a + 5) = 20 := F.2.2.2.2.2.2.2.2.2.2.2.2.2.2.1
theorem St10_l10 {h : Hp} {a : Nat} (F : St10 h a) : ln h (a + 5) = 18 := F.2.2.2.2.2.2.2.2.2.2.2.2.2.2.2.1
theorem St10_r11 {h : Hp} {a : Nat} (F : St10 h a) : gr h a 11 = some (a + 6) := F.2.2.2.2.2.2.2.2.2.2.2.2.2.2.2.2.1
theorem St10_k11 {h : Hp} {a : Nat} (F : St10 h a) : kd h (a + 6) = 20 := F.2.2.2.2.2.2.2.2.2.2.2.2.2.2.2.2.2.1
theorem St10_l11 {h : Hp} {a : Nat} (F : St10 h a) : ln h (a + 6) = 12 := F.2.2.2.2.2.2.2.2.2.2.2.2.2.2.2.2.2.2.1
theorem St10_r17 {h : Hp} {a : Nat} (F : St10 h a) : gr h a 17 = some (a + 7) := F.2.2.2.2.2.2.2.2.2.2.2.2.2.2.2.2.2.2.2.1
theorem St10_k17 {h : Hp} {a : Nat} (F : St10 h a) : kd h (a + 7) = 20 := F.2.2.2.2.2.2.2.2.2.2.2.2.2.2.2.2.2.2.2.2.1
theorem St10_l17 {h : Hp} {a : Nat} (F : St10 h a) : ln h (a + 7) = 4 := F.2.2.2.2.2.2.2.2.2.2.2.2.2.2.2.2.2.2.2.2.2.1
theorem St10_r19 {h : Hp} {a : Nat} (F : St10 h a) : gr h a 19 = some (a + 8) := F.2.2.2.2.2.2.2.2.2.2.2.2.2.2.2.2.2.2.2.2.2.2.1
theorem St10_k19 {h : Hp} {a : Nat} (F : St10 h a) : kd h (a + 8) = 20 := F.2.2.2.2.2.2.2.2.2.2.2.2.2.2.2.2.2.2.2.2.2.2.2.1
theorem St10_l19 {h : Hp} {a : Nat} (F : St10 h a) : ln h (a + 8) = 4 := F.2.2.2.2.2.2.2.2.2.2.2.2.2.2.2.2.2.2.2.2.2.2.2.2.1
theorem St10_r27 {h : Hp} {a : Nat} (F : St10 h a) : gr h a 27 = some (a + 9) := F.2.2.2.2.2.2.2.2.2.2.2.2.2.2.2.2.2.2.2.2.2.2.2.2.2.1
theorem St10_k27 {h : Hp} {a : Nat} (F : St10 h a) : kd h (a + 9) = 21 := F.2.2.2.2.2.2.2.2.2.2.2.2.2.2.2.2.2.2.2.2.2.2.2.2.2.2.1
theorem St10_l27 {h : Hp} {a : Nat} (F : St10 h a) : ln h (a + 9) = 12100 := F.2.2.2.2.2.2.2.2.2.2.2.2.2.2.2.2.2.2.2.2.2.2.2.2.2.2.2.1
theorem St10_r35 {h : Hp} {a : Nat} (F : St10 h a) : gr h a 35 = some (a + 10) := F.2.2.2.2.2.2.2.2.2.2.2.2.2.2.2.2.2.2.2.2.2.2.2.2.2.2.2.2.1
theorem St10_k35 {h : Hp} {a : Nat} (F : St10 h a) : kd h (a + 10) = 21 := F.2.2.2.2.2.2.2.2.2.2.2.2.2.2.2.2.2.2.2.2.2.2.2.2.2.2.2.2.2.1
theorem St10_l35 {h : Hp} {a : Nat} (F : St10 h a) : ln h (a + 10) = 120 := F.2.2.2.2.2.2.2.2.2.2.2.2.2.2.2.2.2.2.2.2.2.2.2.2.2.2.2.2.2.2.1
theorem St10_r36 {h : Hp} {a : Nat} (F : St10 h a) : gr h a 36 = some (a + 11) := F.2.2.2.2.2.2.2.2.2.2.2.2.2.2.2.2.2.2.2.2.2.2.2.2.2.2.2.2.2.2.2.1
theorem St10_k36 {h : Hp} {a : Nat} (F : St10 h a) : kd h (a + 11) = 21 := F.2.2.2.2.2.2.2.2.2.2.2.2.2.2.2.2.2.2.2.2.2.2.2.2.2.2.2.2.2.2.2.2.1
theorem St10_l36 {h : Hp} {a : Nat} (F : St10 h a) : ln h (a + 11) = 60 := F.2.2.2.2.2.2.2.2.2.2.2.2.2.2.2.2.2.2.2.2.2.2.2.2.2.2.2.2.2.2.2.2.2.1
theorem St10_r37 {h : Hp} {a : Nat} (F : St10 h a) : gr h a 37 = some (a + 12) := F.2.2.2.2.2.2.2.2.2.2.2.2.2.2.2.2.2.2.2.2.2.2.2.2.2.2.2.2.2.2.2.2.2.2.1
theorem St10_k37 {h : Hp} {a : Nat} (F : St10 h a) : kd h (a + 12) = 20 := F.2.2.2.2.2.2.2.2.2.2.2.2.2.2.2.2.2.2.2.2.2.2.2.2.2.2.2.2.2.2.2.2.2.2.2.1
theorem St10_l37 {h : Hp} {a : Nat} (F : St10 h a) : ln h (a + 12) = 80 := F.2.2.2.2.2.2.2.2.2.2.2.2.2.2.2.2.2.2.2.2.2.2.2.2.2.2.2.2.2.2.2.2.2.2.2.2.1
theorem St10_r38 {h : Hp} {a : Nat} (F : St10 h a) : gr h a 38 = some (a + 13) := F.2.2.2.2.2.2.2.2.2.2.2.2.2.2.2.2.2.2.2.2.2.2.2.2.2.2.2.2.2.2.2.2.2.2.2.2.2.1
theorem St10_k38 {h : Hp} {a : Nat} (F : St10 h a) : kd h (a + 13) = 20 := F.2.2.2.2.2.2.2.2.2.2.2.2.2.2.2.2.2.2.2.2.2.2.2.2.2.2.2.2.2.2.2.2.2.2.2.2.2.2.1
theorem St10_l38 {h : Hp} {a : Nat} (F : St10 h a) : ln h (a + 13) = 80 := F.2.2.2.2.2.2.2.2.2.2.2.2.2.2.2.2.2.2.2.2.2.2.2.2.2.2.2.2.2.2.2.2.2.2.2.2.2.2.2.1
theorem St10_r39 {h : Hp} {a : Nat} (F : St10 h a) : gr h a 39 = some (a + 14) := F.2.2.2.2.2.2.2.2.2.2.2.2.2.2.2.2.2.2.2.2.2.2.2.2.2.2.2.2.2.2.2.2.2.2.2.2.2.2.2.2.1
theorem St10_k39 {h : Hp} {a : Nat} (F : St10 h a) : kd h (a + 14) = 20 := F.2.2.2.2.2.2.2.2.2.2.2.2.2.2.2.2.2.2.2.2.2.2.2.2.2.2.2.2.2.2.2.2.2.2.2.2.2.2.2.2.2.1
theorem St10_l39 {h : Hp} {a : Nat} (F : St10 h a) : ln h (a + 14) = 80 := F.2.2.2.2.2.2.2.2.2.2.2.2.2.2.2.2.2.2.2.2.2.2.2.2.2.2.2.2.2.2.2.2.2.2.2.2.2.2.2.2.2.2.1
theorem St10_r40 {h : Hp} {a : Nat} (F : St10 h a) : gr h a 40 = some (a + 15) := F.2.2.2.2.2.2.2.2.2.2.2.2.2.2.2.2.2.2.2.2.2.2.2.2.2.2.2.2.2.2.2.2.2.2.2.2.2.2.2.2.2.2.2.1
theorem St10_k40 {h : Hp} {a : Nat} (F : St10 h a) : kd h (a + 15) = 20 := F.2.2.2.2.2.2.2.2.2.2.2.2.2.2.2.2.2.2.2.2.2.2.2.2.2.2.2.2.2.2.2.2.2.2.2.2.2.2.2.2.2.2.2.2.1
theorem St10_l40 {h : Hp} {a : Nat} (F : St10 h a) : ln h (a + 15) = 80 := F.2.2.2.2.2.2.2.2.2.2.2.2.2.2.2.2.2.2.2.2.2.2.2.2.2.2.2.2.2.2.2.2.2.2.2.2.2.2.2.2.2.2.2.2.2.1
theorem St10_r42 {h : Hp} {a : Nat} (F : St10 h a) : gr h a 42 = some (a + 16) := F.2.2.2.2.2.2.2.2.2.2.2.2.2.2.2.2.2.2.2.2.2.2.2.2.2.2.2.2.2.2.2.2.2.2.2.2.2.2.2.2.2.2.2.2.2.2.1
theorem St10_k42 {h : Hp} {a : Nat} (F : St10 h a) : kd h (a + 16) = 23 := F.2.2.2.2.2.2.2.2.2.2.2.2.2.2.2.2.2.2.2.2.2.2.2.2.2.2.2.2.2.2.2.2.2.2.2.2.2.2.2.2.2.2.2.2.2.2.2.1
theorem St10_l42 {h : Hp} {a : Nat} (F : St10 h a) : ln h (a + 16) = 2 := F.2.2.2.2.2.2.2.2.2.2.2.2.2.2.2.2.2.2.2.2.2.2.2.2.2.2.2.2.2.2.2.2.2.2.2.2.2.2.2.2.2.2.2.2.2.2.2.2
theorem St10_same {h h' : Hp} {a : Nat} (F : St10 h a) (e1 : kd h' = kd h) (e2 : ln h' = ln h) (e3 : gr h' = gr h) : St10 h' a := by
  unfold St10 at *
  simp only [e1, e2, e3]
  exact F
