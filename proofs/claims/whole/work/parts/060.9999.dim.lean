/-! dim: both sides -/
section DI
variable {pl : Pool} {tw : Int → Int} {vf : Int → Int → Int → Int32} {sl : Int} {kd hg : Int → Int} {wks : Nat → Option Nat} {shw : Nat → Int64} {ex nt : Int → Int} {ww sw gw : Nat → Int64} {op arg : Nat → Int32}
theorem lb_and2 (a b : Int64) (i : Nat) : lb (a &&& b) i = (lb a i && lb b i) := by
  have e : lb (a &&& b) i = (a.toBitVec &&& b.toBitVec).getLsbD i := rfl
  rw [e, BitVec.getLsbD_and]
  rfl
theorem sum_cnt {P : Int → Prop} {F : Nat → Nat} : ∀ n : Nat, (∀ s : Nat, s < n → (P s → F s = 1) ∧ (¬ P s → F s = 0)) → ((sumN F n : Nat) : Int) = cntC P n
  | 0, _ => rfl
  | n + 1, h => by
    have ih := sum_cnt n (fun s hs => h s (by omega))
    have q := h n (by omega)
    rw [sumN, cntC, ← ih]
    by_cases x : P n
    · rw [if_pos x, q.1 x]; omega
    · rw [if_neg x, q.2 x]; omega
theorem sumN_0 {F : Nat → Nat} : ∀ n : Nat, (∀ s, s < n → F s = 0) → sumN F n = 0
  | 0, _ => rfl
  | n + 1, h => by rw [sumN, sumN_0 n (fun s hs => h s (by omega)), h n (by omega)]
/-- a square in the shade on which one may be -/
def dmP (tw : Int → Int) (vf : Int → Int → Int → Int32) (d m s : Int) : Prop := tw s ≠ 1 ∧ dimP tw vf d m s
theorem p_howDim (C : CS pl tw vf sl kd hg wks shw ex nt ww sw gw) {d m : Int} (hd : 0 ≤ d ∧ d < 4) (hm : 0 ≤ m ∧ m < 120) {post : Int32 → Prop} (h : post (zi (cntC (dmP tw vf d m) 100))) : wp_X6_howDim shw gw (zi (120 * d + m)) post := by
  have gr := C.2.2.2.2.2.2.2.2
  have key : ∀ s : Nat, s < 128 → ((hb shw (120 * d + m) s && hb gw 0 s) = true ↔ ((s : Int) < 100 ∧ dmP tw vf d m s)) := by
    intro s hs
    have a := C.2.1 (120 * d + m) s (by omega) (by omega) (by omega) (by omega)
    have a' : hb shw (120 * d + m) s = true ↔ (s : Int) < 100 ∧ dimP tw vf ((120 * d + m) / 120) ((120 * d + m) % 120) s := a
    rw [show (120 * d + m) / 120 = d by omega, show (120 * d + m) % 120 = m by omega] at a'
    rw [Bool.and_eq_true, a', gr s (by omega) (by omega), Bool.and_eq_true, decide_eq_true_eq, decide_eq_true_eq]
    exact ⟨fun z => ⟨z.1.1, z.2.2, z.1.2⟩, fun z => ⟨⟨z.1, z.2.2⟩, z.1, z.2.1⟩⟩
  have tot : sumN (fun i => if lb (shw (2 * (120 * d + m)).toNat &&& gw 0) i = true then 1 else 0) 64 + sumN (fun i => if lb (shw (2 * (120 * d + m) + 1).toNat &&& gw 1) i = true then 1 else 0) 64 = sumN (fun s => if (hb shw (120 * d + m) (s : Int) && hb gw 0 (s : Int)) = true then 1 else 0) 128 := by
    rw [show 128 = 64 + 64 from rfl, sumN_add]
    congr 1
    · refine sumN_cg _ (fun i hi => ?_)
      have e1 : hb shw (120 * d + m) (i : Int) = lb (shw (2 * (120 * d + m)).toNat) i := by
        rw [hb, show ((i : Int) % 64).toNat = i by omega, show 2 * (120 * d + m) + (i : Int) / 64 = 2 * (120 * d + m) by omega]
      have e2 : hb gw 0 (i : Int) = lb (gw 0) i := by
        rw [hb, show ((i : Int) % 64).toNat = i by omega, show (2 * 0 + (i : Int) / 64).toNat = 0 by omega]
      rw [lb_and2, e1, e2]
    · refine sumN_cg _ (fun i hi => ?_)
      have e1 : hb shw (120 * d + m) ((64 + i : Nat) : Int) = lb (shw (2 * (120 * d + m) + 1).toNat) i := by
        rw [hb, show (((64 + i : Nat) : Int) % 64).toNat = i by omega, show 2 * (120 * d + m) + ((64 + i : Nat) : Int) / 64 = 2 * (120 * d + m) + 1 by omega]
      have e2 : hb gw 0 ((64 + i : Nat) : Int) = lb (gw 1) i := by
        rw [hb, show (((64 + i : Nat) : Int) % 64).toNat = i by omega, show (2 * 0 + ((64 + i : Nat) : Int) / 64).toNat = 1 by omega]
      rw [lb_and2, e1, e2]
  have cnt : ((sumN (fun s => if (hb shw (120 * d + m) (s : Int) && hb gw 0 (s : Int)) = true then 1 else 0) 128 : Nat) : Int) = cntC (dmP tw vf d m) 100 := by
    rw [show 128 = 100 + 28 from rfl, sumN_add, sumN_0 28 (fun s hs => by rw [if_neg (fun z => by have := ((key (100 + s) (by omega)).mp z).1; omega)]), Nat.add_zero]
    refine sum_cnt 100 (fun s hs => ⟨fun z => if_pos ((key s (by omega)).mpr ⟨by omega, z⟩), fun z => if_neg (fun y => z ((key s (by omega)).mp y).2)⟩)
  rw [← cnt, ← tot] at h
  simp only [wp_X6_howDim, wp_X5_howMany]
  refine p_holds (by decide) (by omega) (fun _ => ⟨fun z => absurd z (by decide), fun _ => ?_⟩) (fun z => absurd (by omega) z)
  rw [show (0 : Int32) = zi 0 from rfl]
  refine p_holds (by decide) (by omega) (fun _ => ⟨fun _ => ?_, fun z => absurd z (by decide)⟩) (fun z => absurd (by omega) z)
  have z0 : Int32.toNatClampNeg (zi 0) = 0 := by decide
  have z1 : Int32.toNatClampNeg (1 : Int32) = 1 := by decide
  simp (disch := omega) only [forall_eq, zi_lit, zi_mul, zi_add, zi_in, zi_cl]
  refine ⟨by omega, by omega, p_bitCount ⟨by omega, by omega, p_bitCount ?_⟩⟩
  rw [bcF_sum, bcF_sum, zi_add]
  have h' := h
  rw [Int.natCast_add] at h'
  exact h'
end DI
