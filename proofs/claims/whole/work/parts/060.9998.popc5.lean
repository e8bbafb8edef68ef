/-! how many bits a word has: one by one -/
def sumN (f : Nat → Nat) : Nat → Nat
  | 0 => 0
  | n + 1 => sumN f n + f n
theorem sumN_add (f : Nat → Nat) (a : Nat) : ∀ b, sumN f (a + b) = sumN f a + sumN (fun i => f (a + i)) b
  | 0 => rfl
  | b + 1 => by
    rw [show a + (b + 1) = (a + b) + 1 from rfl, sumN, sumN, sumN_add f a b, Nat.add_assoc]
theorem sumN_cg {f g : Nat → Nat} : ∀ n, (∀ i, i < n → f i = g i) → sumN f n = sumN g n
  | 0, _ => rfl
  | n + 1, h => by rw [sumN, sumN, sumN_cg n (fun i hi => h i (by omega)), h n (by omega)]
theorem pc8_sum (n : Nat) : pc8 (n % 256) = sumN (fun i => n / 2 ^ i % 2) 8 := by
  simp only [sumN, pc8]
  have h0 : n % 256 % 2 = n / 2 ^ 0 % 2 := by simp
  have h1 : n % 256 / 2 % 2 = n / 2 ^ 1 % 2 := by simp; omega
  have h2 : n % 256 / 4 % 2 = n / 2 ^ 2 % 2 := by simp; omega
  have h3 : n % 256 / 8 % 2 = n / 2 ^ 3 % 2 := by simp; omega
  have h4 : n % 256 / 16 % 2 = n / 2 ^ 4 % 2 := by simp; omega
  have h5 : n % 256 / 32 % 2 = n / 2 ^ 5 % 2 := by simp; omega
  have h6 : n % 256 / 64 % 2 = n / 2 ^ 6 % 2 := by simp; omega
  have h7 : n % 256 / 128 % 2 = n / 2 ^ 7 % 2 := by simp; omega
  rw [h0, h1, h2, h3, h4, h5, h6, h7, Nat.zero_add]
theorem pcL_sum : ∀ k n : Nat, pcL (dB k n) = sumN (fun i => n / 2 ^ i % 2) (8 * k)
  | 0, _ => rfl
  | k + 1, n => by
    rw [dB, pcL, pcL_sum k (n / 256), show 8 * (k + 1) = 8 + 8 * k by omega, sumN_add, ← pc8_sum]
    congr 1
    refine sumN_cg _ (fun i _ => ?_)
    show n / 256 / 2 ^ i % 2 = n / 2 ^ (8 + i) % 2
    rw [Nat.pow_add, ← Nat.div_div_eq_div_mul]
theorem lb_nat (x : Int64) (i : Nat) : x.toBitVec.toNat / 2 ^ i % 2 = if lb x i = true then 1 else 0 := by
  have e : lb x i = x.toBitVec.toNat.testBit i := rfl
  rw [e, Nat.testBit_eq_decide_div_mod_eq]
  have : x.toBitVec.toNat / 2 ^ i % 2 = 0 ∨ x.toBitVec.toNat / 2 ^ i % 2 = 1 := by omega
  rcases this with h | h <;> simp [h]
/-- bitCount, bit by bit -/
theorem bcF_sum (x : Int64) : bcF x = zi ((sumN (fun i => if lb x i = true then 1 else 0) 64 : Nat) : Int) := by
  rw [bcF_pc, pcL_sum]
  congr 2
  exact sumN_cg _ (fun i _ => lb_nat x i)
