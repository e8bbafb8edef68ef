/-! how many bits a word has: the whole -/
def dB : Nat → Nat → List Nat
  | 0, _ => []
  | k + 1, n => n % 256 :: dB k (n / 256)
theorem dB_v : ∀ (k n : Nat), n < 256 ^ k → vB (dB k n) = n
  | 0, n, h => by simp at h; simp [dB, vB, h]
  | k + 1, n, h => by
    have hk : n / 256 < 256 ^ k := by rw [Nat.pow_succ] at h; exact Nat.div_lt_of_lt_mul (by rw [Nat.mul_comm]; exact h)
    simp only [dB, vB]
    rw [dB_v k (n / 256) hk]
    omega
theorem dB_ok : ∀ (k n : Nat), okB (dB k n)
  | 0, _ => fun r hr => absurd hr (by simp [dB])
  | k + 1, n => fun r hr => by
    simp only [dB, List.mem_cons] at hr
    rcases hr with h | h
    · omega
    · exact dB_ok k _ r h
def pcL : List Nat → Nat
  | [] => 0
  | r :: l => pc8 r + pcL l
theorem n_sub (a b : Int64) (h : b.toBitVec.toNat ≤ a.toBitVec.toNat) : (a - b).toBitVec.toNat = a.toBitVec.toNat - b.toBitVec.toNat := by
  have e : (a - b).toBitVec = a.toBitVec - b.toBitVec := rfl
  rw [e, BitVec.toNat_sub]
  have := a.toBitVec.isLt
  have := b.toBitVec.isLt
  generalize a.toBitVec.toNat = x at *
  generalize b.toBitVec.toNat = y at *
  omega
theorem n_add (a b : Int64) (h : a.toBitVec.toNat + b.toBitVec.toNat < 256 ^ 8) : (a + b).toBitVec.toNat = a.toBitVec.toNat + b.toBitVec.toNat := by
  have e : (a + b).toBitVec = a.toBitVec + b.toBitVec := rfl
  rw [e, BitVec.toNat_add]
  exact Nat.mod_eq_of_lt h
theorem n_and (a b : Int64) : (a &&& b).toBitVec.toNat = a.toBitVec.toNat &&& b.toBitVec.toNat := by
  have e : (a &&& b).toBitVec = a.toBitVec &&& b.toBitVec := rfl
  rw [e, BitVec.toNat_and]
theorem n_shr (x : Int64) (k : Int32) (c : Nat) (hk : ((Int32.toInt64 k).toUInt64 &&& Int64.toUInt64 63).toNat = c) (hc : c < 64) : ((Int64.toUInt64 x >>> ((Int32.toInt64 k).toUInt64 &&& Int64.toUInt64 63)).toInt64).toBitVec.toNat = x.toBitVec.toNat / 2 ^ c := by
  have e : ((Int64.toUInt64 x >>> ((Int32.toInt64 k).toUInt64 &&& Int64.toUInt64 63)).toInt64).toBitVec.toNat = (Int64.toUInt64 x >>> ((Int32.toInt64 k).toUInt64 &&& Int64.toUInt64 63)).toNat := rfl
  rw [e, UInt64.toNat_shiftRight, hk, Nat.mod_eq_of_lt hc, Nat.shiftRight_eq_div_pow]
  rfl
