/-! longs as Int (zl); tens and common -/
def zl (z : Int) : Int64 := Int64.ofInt z
theorem zl_lit (n : Nat) : (OfNat.ofNat n : Int64) = zl (OfNat.ofNat n) := rfl
theorem zl_add (a b : Int) : zl a + zl b = zl (a + b) := (Int64.ofInt_add a b).symm
theorem zl_sub (a b : Int) : zl a - zl b = zl (a - b) := (Int64.ofInt_sub a b).symm
theorem zl_mul (a b : Int) : zl a * zl b = zl (a * b) := (Int64.ofInt_mul a b).symm
abbrev i64 (a : Int) : Prop := -9223372036854775808 ≤ a ∧ a < 9223372036854775808
theorem zl_toInt {a : Int} (h : i64 a) : (zl a).toInt = a := Int64.toInt_ofInt_of_le (by simpa [i64] using h.1) (by simpa [i64] using h.2)
theorem zl_self (x : Int64) : zl x.toInt = x := Int64.ofInt_toInt x
theorem zl_rng (x : Int64) : i64 x.toInt := ⟨by simpa using x.le_toInt, by simpa using x.toInt_lt⟩
theorem zl_lt {a b : Int} (ha : i64 a) (hb : i64 b) : (zl a < zl b) = (a < b) := by
  rw [Int64.lt_iff_toInt_lt, zl_toInt ha, zl_toInt hb]
theorem zl_eq {a b : Int} (ha : i64 a) (hb : i64 b) : (zl a = zl b) = (a = b) := by
  rw [← Int64.toInt_inj, zl_toInt ha, zl_toInt hb]
theorem cmp_lt {a b : Int} (ha : i64 a) (hb : i64 b) : (lg_cmp (zl a) (zl b) < 0) = (a < b) := by
  have e1 := zl_lt hb ha
  have e2 := zl_eq ha hb
  rw [lg_cmp]
  show ((if zl b < zl a then (1 : Int32) else if zl a = zl b then 0 else -1) < 0) = _
  simp only [e1, e2]
  by_cases h1 : b < a
  · rw [if_pos h1, eq_iff_iff]; exact ⟨fun z => absurd z (by decide), fun z => by omega⟩
  · rw [if_neg h1]
    by_cases h2 : a = b
    · rw [if_pos h2, eq_iff_iff]; exact ⟨fun z => absurd z (by decide), fun z => by omega⟩
    · rw [if_neg h2, eq_iff_iff]; exact ⟨fun _ => by omega, fun _ => by decide⟩
theorem cmp_ge {a b : Int} (ha : i64 a) (hb : i64 b) : (0 ≤ lg_cmp (zl a) (zl b)) = (b ≤ a) := by
  have h := cmp_lt ha hb
  have e : ∀ x : Int32, (0 ≤ x) = ¬ (x < 0) := fun x => by
    rw [eq_iff_iff, Int32.le_iff_toInt_le, Int32.lt_iff_toInt_lt]
    omega
  rw [e, h, eq_iff_iff]
  omega
theorem cmp_gez {a b : Int} (ha : i64 a) (hb : i64 b) : (zi 0 ≤ lg_cmp (zl a) (zl b)) = (b ≤ a) := cmp_ge ha hb
theorem cmp_ltz {a b : Int} (ha : i64 a) (hb : i64 b) : (lg_cmp (zl a) (zl b) < zi 0) = (a < b) := cmp_lt ha hb
theorem cmp_eq {a b : Int} (ha : i64 a) (hb : i64 b) : (lg_cmp (zl a) (zl b) = 0) = (a = b) := by
  have e1 := zl_lt hb ha
  have e2 := zl_eq ha hb
  rw [lg_cmp]
  show ((if zl b < zl a then (1 : Int32) else if zl a = zl b then 0 else -1) = 0) = _
  simp only [e1, e2]
  by_cases h1 : b < a
  · rw [if_pos h1, eq_iff_iff]; exact ⟨fun z => absurd z (by decide), fun z => by omega⟩
  · rw [if_neg h1]
    by_cases h2 : a = b
    · rw [if_pos h2, eq_iff_iff]; exact ⟨fun _ => h2, fun _ => rfl⟩
    · rw [if_neg h2, eq_iff_iff]; exact ⟨fun z => absurd z (by decide), fun z => absurd z h2⟩
theorem zl_wide {a : Int} (h : -2147483648 ≤ a ∧ a < 2147483648) : Int32.toInt64 (zi a) = zl a := by
  rw [← Int64.toInt_inj, zl_toInt (by simp only [i64]; omega), Int32.toInt_toInt64, zi_toInt h]
theorem lN_zl (n : Nat) : lN n = zl n := rfl
theorem zl_div {a b : Nat} (ha : a < 9223372036854775808) (h0 : 0 < b) (hb : b < 9223372036854775808) : zl a / zl b = zl ((a / b : Nat) : Int) := pk_lDiv ha h0 hb
theorem zl_rem {a b : Nat} (ha : a < 9223372036854775808) (h0 : 0 < b) (hb : b < 9223372036854775808) : jremL (zl a) (zl b) = zl ((a % b : Nat) : Int) := pk_lRem ha h0 hb
def zL (f : Int → Int) : Nat → Int64 := fun k => zl (f k)
theorem zL_ex (t : Nat → Int64) : ∃ f : Int → Int, t = zL f := by
  refine ⟨fun k => (t k.toNat).toInt, ?_⟩
  funext k
  simp only [zL, Int.toNat_natCast, zl_self]
theorem zL_get {f : Int → Int} {a : Int} (h : 0 ≤ a ∧ a < 2147483648) : zL f (Int32.toNatClampNeg (zi a)) = zl (f a) := by
  rw [zi_cl h, zL, Int.toNat_of_nonneg h.1]
theorem zL_upd {f : Int → Int} {a v : Int} (h : 0 ≤ a ∧ a < 2147483648) : vp_updL (zL f) (Int32.toNatClampNeg (zi a)) (zl v) = zL (upI f a v) := by
  funext k
  rw [zi_cl h]
  by_cases hk : k = a.toNat
  · subst hk
    rw [pk_uLs, zL, Int.toNat_of_nonneg h.1, upI_s]
  · rw [pk_uLn hk, zL, zL, upI_n (by omega)]
def p10 (n : Int) : Int := 10 ^ n.toNat
theorem p10_0 {n : Int} (h : n ≤ 0) : p10 n = 1 := by rw [p10, show n.toNat = 0 by omega]; rfl
theorem p10_s {n : Int} (h : 0 ≤ n) : p10 (n + 1) = p10 n * 10 := by rw [p10, p10, show (n + 1).toNat = n.toNat + 1 by omega, Int.pow_succ]
theorem p10_add {a b : Int} (ha : 0 ≤ a) (hb : 0 ≤ b) : p10 a * p10 b = p10 (a + b) := by rw [p10, p10, p10, show (a + b).toNat = a.toNat + b.toNat by omega, Int.pow_add]
theorem p10_pos (n : Int) : 0 < p10 n := Int.pow_pos (by decide)
theorem p10_le {n : Int} (h : n ≤ 12) : p10 n ≤ 1000000000000 := by
  have : ∀ k : Nat, k ≤ 12 → (10 : Int) ^ k ≤ 1000000000000 := by decide
  exact this n.toNat (by omega)
theorem p_tens {n : Int} (hn : -1000 ≤ n ∧ n ≤ 1000) {post : Int64 → Prop} (h : post (zl (p10 n))) : wp_X12_tens (zi n) post := by
  simp only [wp_X12_tens]
  refine lp_for0 (fun i => (zi n, zl (10 ^ i), zi i)) n.toNat rfl (fun kb => ?_) (fun i hi kb hkb => ?_)
  · simp only [wp_X12_tens_L4]
    rw [zi_le (by omega)]
    exact ⟨fun _ => h, fun z => by omega⟩
  · simp only [wp_X12_tens_L4]
    rw [zi_le (by omega)]
    refine ⟨fun z => by omega, fun _ => ?_⟩
    simp only [forall_eq, zi_lit, zi_add, zl_lit, zl_mul]
    have hni : ((i + 1 : Nat) : Int) = (i : Int) + 1 := by omega
    rw [Int.pow_succ, hni] at hkb
    exact hkb
theorem p_common {x y : Nat} (hx : x < 9223372036854775808) (hy : y < 9223372036854775808) {post : Int64 → Prop} (h : post (zl ((Nat.gcd x y : Nat) : Int))) : wp_X12_common (zl x) (zl y) post := by
  have main : ∃ n, lp (wp_X12_common_L28 (fun l4 => post l4) post) n (zl x, zl y) := by
    refine lp_ex (fun s => ∃ a b : Nat, s = (zl a, zl b) ∧ a < 9223372036854775808 ∧ b < 9223372036854775808 ∧ Nat.gcd a b = Nat.gcd x y) (fun s => s.2.toInt.toNat) ?_ ⟨x, y, rfl, hx, hy, rfl⟩
    rintro kb s ⟨a, b, rfl, ha, hb, hg⟩ hk
    have ib : i64 (b : Int) := by simp only [i64]; omega
    simp only [wp_X12_common_L28, zl_lit]
    rw [cmp_eq ib (by decide)]
    refine ⟨fun z => ?_, fun z => ⟨?_, fun x40 e => ?_⟩⟩
    · have hb0 : b = 0 := by have : (b : Int) = 0 := z; omega
      rw [hb0, Nat.gcd_zero_right] at hg
      rw [hg]; exact h
    · rw [zl_eq ib (by decide)]; exact z
    · have hb0 : 0 < b := by have : ¬ (b : Int) = 0 := z; omega
      rw [e, zl_rem ha hb0 hb]
      have hm : a % b < b := Nat.mod_lt _ hb0
      refine hk _ ⟨b, a % b, rfl, hb, by omega, ?_⟩ ?_
      · rw [← hg, Nat.gcd_comm a b, Nat.gcd_rec b a, Nat.gcd_comm]
      · show (zl ((a % b : Nat) : Int)).toInt.toNat < (zl (b : Int)).toInt.toNat
        rw [zl_toInt ib, zl_toInt (by simp only [i64]; omega)]
        omega
  simp only [wp_X12_common, wp_X12_common_b12, zl_lit]
  rw [cmp_ge (by simp only [i64]; omega) (by decide), cmp_ge (by simp only [i64]; omega) (by decide)]
  exact ⟨fun _ => ⟨fun _ => main, fun z => absurd (show (0 : Int) ≤ (y : Int) by omega) z⟩, fun z => absurd (show (0 : Int) ≤ (x : Int) by omega) z⟩
