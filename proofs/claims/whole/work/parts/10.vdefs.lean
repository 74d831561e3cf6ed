-- words of the printed conditions
def iushr (x y : Int32) : Int32 := (x.toUInt32 >>> (y.toUInt32 &&& Int32.toUInt32 31)).toInt32
def i2c (x : Int32) : Int32 := (x.toUInt32 % 65536).toInt32
theorem le_ix {z0 z : Int32} {m N : Nat} (h0 : ix z0 = 0) (hz : ix z = m) (h : m ≤ N) : ix z0 + ix z ≤ N := by omega
theorem w_aaldR {X : Ctx} {k n : Nat} {Q : Pq} {pc : Nat} {lv : List (Nat × Value)} {st : List Value} {h : Hp} {own : String} {cc : ByteArray} {nL : Nat} {ret : Option FieldType} {nm : String} {fr lo a b : Nat} {i : Int32} (C : Cx X own cc nL ret nm fr lo) (d : decode cc pc = .ok (.aaload, 1)) (hk : kd h a = 24) (hi : inb i (ln h a)) (hb : gr h a (ix i) = some b) (K : Wj X k n Q (pc + 1) lv (.ref b :: st) h) : Wj X k n Q pc lv (.int i :: .ref a :: st) h :=
  w_aald C d hk hi ⟨fun e => (by rw [hb] at e; cases e), fun b2 e => (by rw [hb] at e; cases e; exact K)⟩
