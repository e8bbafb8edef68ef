/-! feed: both sides -/
section FE
/-- the byte of a word at a shift, as the reference takes it -/
def btI (x : Int64) (k : Int) : Int := (Int64.toInt32 (x >>> ((Int32.toInt64 (zi k)) &&& 63)) &&& 255).toInt
theorem bt_bits (x : Int64) (k : Nat) (hk : k ≤ 56) : Int64.toInt32 ((Int64.toUInt64 x >>> ((Int32.toInt64 (nI k)).toUInt64 &&& Int64.toUInt64 63)).toInt64) &&& 255 = Int64.toInt32 (x >>> ((Int32.toInt64 (nI k)) &&& 63)) &&& 255 := by
  have wcu : ∀ k, k < 64 → ((nI k).toInt64.toUInt64 &&& Int64.toUInt64 63) = UInt64.ofNat k := by decide +kernel
  have wcs : ∀ k, k < 64 → ((((nI k).toInt64 &&& 63).toBitVec.smod 64).toNat = k) := by decide +kernel
  have hs : (UInt64.ofNat k).toNat = k := by rw [UInt64.toNat_ofNat']; omega
  have e : (x.toUInt64 >>> UInt64.ofNat k).toInt64.toBitVec = x.toBitVec >>> k := by
    apply BitVec.eq_of_toNat_eq
    show (x.toUInt64 >>> UInt64.ofNat k).toNat = _
    rw [UInt64.toNat_shiftRight, hs, Nat.mod_eq_of_lt (by omega), BitVec.toNat_ushiftRight]
    rfl
  have e2 : (x >>> ((Int32.toInt64 (nI k)) &&& 63)).toBitVec = x.toBitVec.sshiftRight k := by
    show x.toBitVec.sshiftRight' (((nI k).toInt64 &&& 63).toBitVec.smod 64) = _
    rw [BitVec.sshiftRight', wcs k (by omega)]
  rw [wcu k (by omega), ← Int32.toBitVec_inj, Int32.toBitVec_and, Int32.toBitVec_and]
  apply BitVec.eq_of_getLsbD_eq
  intro i hi
  rw [BitVec.getLsbD_and, BitVec.getLsbD_and]
  by_cases h8 : i < 8
  · congr 1
    show ((x.toUInt64 >>> UInt64.ofNat k).toInt64.toBitVec.signExtend 32).getLsbD i = ((x >>> ((Int32.toInt64 (nI k)) &&& 63)).toBitVec.signExtend 32).getLsbD i
    rw [e, e2, BitVec.getLsbD_signExtend, BitVec.getLsbD_signExtend, BitVec.getLsbD_ushiftRight, BitVec.getLsbD_sshiftRight]
    simp only [hi, show i < 64 by omega, decide_true, Bool.true_and, if_true]
    have : k + i < 64 := by omega
    simp [this, show ¬ 64 ≤ i by omega]
  · have : (255 : Int32).toBitVec.getLsbD i = false := by
      have h2 : ∀ i : Fin 32, 8 ≤ i.val → (255 : Int32).toBitVec.getLsbD i.val = false := by decide
      exact h2 ⟨i, hi⟩ (by show 8 ≤ i; omega)
    rw [this, Bool.and_false, Bool.and_false]
theorem bt_rng (x : Int64) (k : Int) : 0 ≤ btI x k ∧ btI x k ≤ 255 := by
  have h := pk_and (Int64.toInt32 (x >>> ((Int32.toInt64 (zi k)) &&& 63))) (m := 255) 8 (by decide)
  rw [btI, h]
  have l : (Int64.toInt32 (x >>> ((Int32.toInt64 (zi k)) &&& 63))).toBitVec.toNat % 2 ^ 8 < 2 ^ 8 := Nat.mod_lt _ (by decide)
  rw [nI_toInt (by omega)]
  omega
def laySt (x : Int64) (z : Int) (f : Int → Int) (k : Int) : Int × (Int → Int) := if (btI x k = 10 ∨ (32 ≤ btI x k ∧ btI x k ≤ 126)) ∧ z < 1000 then (z + 1, upI f z (btI x k)) else (z, f)
def layN (x : Int64) (z : Int) (f : Int → Int) : Nat → Int × (Int → Int)
  | 0 => (z, f)
  | n + 1 => laySt x (layN x z f n).1 (layN x z f n).2 (56 - 8 * n)
theorem layN_rng {x : Int64} {z : Int} {f : Int → Int} (hz : 0 ≤ z ∧ z ≤ 1000) : ∀ n, 0 ≤ (layN x z f n).1 ∧ (layN x z f n).1 ≤ 1000
  | 0 => hz
  | n + 1 => by
    have ih := layN_rng (x := x) (f := f) hz n
    simp only [layN, laySt]
    split <;> omega
def tokB (f : Int → Int) (z : Int) : Prop := ∀ k, 0 ≤ k → k < z → f k = 10 ∨ (32 ≤ f k ∧ f k ≤ 126)
theorem layN_ok {x : Int64} {z : Int} {f : Int → Int} (hf : i32 f) (ht : tokB f z) (h0 : 0 ≤ z) : ∀ n, i32 (layN x z f n).2 ∧ tokB (layN x z f n).2 (layN x z f n).1 ∧ 0 ≤ (layN x z f n).1
  | 0 => ⟨hf, ht, h0⟩
  | n + 1 => by
    have ih := layN_ok (x := x) hf ht h0 n
    have br := bt_rng x (56 - 8 * n)
    simp only [layN, laySt]
    split
    next q =>
      refine ⟨i32_up ih.1 (by omega), fun k a b => ?_, by show 0 ≤ _ + 1; omega⟩
      by_cases hk : k = (layN x z f n).1
      · show upI _ _ _ k = 10 ∨ (32 ≤ upI _ _ _ k ∧ upI _ _ _ k ≤ 126)
        rw [hk, upI_s]; exact q.1
      · show upI _ _ _ k = 10 ∨ (32 ≤ upI _ _ _ k ∧ upI _ _ _ k ≤ 126)
        rw [upI_n hk]; exact ih.2.1 k a (by have : k < (layN x z f n).1 + 1 := b; omega)
    next => exact ih
theorem p_feedSigns {x : Int64} {z : Int} {f : Int → Int} (hz : 0 ≤ z ∧ z ≤ 1000) {post : Int32 → (Nat → Int32) → Prop} (h : post (zi (layN x z f 8).1) (zA (layN x z f 8).2)) : wp_X11_feedSigns (zi z) (zA f) x post := by
  simp only [wp_X11_feedSigns]
  refine lp_for0 (fun n => (zi (layN x z f n).1, zA (layN x z f n).2, x, zi (56 - 8 * n))) 8 rfl (fun kb => ?_) (fun i hi kb hkb => ?_)
  · simp (disch := omega) only [wp_X11_feedSigns_L3, zi_lit, zi_lt]
    exact ⟨fun _ => h, fun u => absurd (by decide) u⟩
  · have hni : ((i + 1 : Nat) : Int) = (i : Int) + 1 := by omega
    have br := bt_rng x (56 - 8 * i)
    have rg := layN_rng (x := x) (f := f) hz i
    have e0 : zi (56 - 8 * (i : Int)) = nI (56 - 8 * i) := by rw [nI_zi]; congr 1; omega
    have e : Int64.toInt32 ((Int64.toUInt64 x >>> ((Int32.toInt64 (zi (56 - 8 * (i : Int)))).toUInt64 &&& Int64.toUInt64 63)).toInt64) &&& 255 = zi (btI x (56 - 8 * i)) := by
      rw [btI, zi_self, e0]
      exact bt_bits x _ (by omega)
    have add : (btI x (56 - 8 * i) = 10 ∨ (32 ≤ btI x (56 - 8 * i) ∧ btI x (56 - 8 * i) ≤ 126)) → wp_X11_feedSigns_b38 (fun a b => post a b) kb post (zi (layN x z f i).1) (zA (layN x z f i).2) x (zi (56 - 8 * (i : Int))) (zi (btI x (56 - 8 * i))) := by
      intro q
      simp only [wp_X11_feedSigns_b38]
      refine p_add (by decide) rg (fun y => ?_) (fun y => ?_)
      · rw [layN, laySt, if_pos ⟨q, by omega⟩, hni] at hkb
        simp only [forall_eq, zi_lit, zi_neg, zi_add]
        rw [show 56 - 8 * (i : Int) + -8 = 56 - 8 * (i + 1) by omega]
        exact hkb
      · rw [layN, laySt, if_neg (fun u => by have := u.2; have y2 : (layN x z f i).1 = (1000 : Int) := y; omega), hni] at hkb
        simp only [forall_eq, zi_lit, zi_neg, zi_add]
        rw [show 56 - 8 * (i : Int) + -8 = 56 - 8 * (i + 1) by omega]
        exact hkb
    have no : ¬ (btI x (56 - 8 * i) = 10 ∨ (32 ≤ btI x (56 - 8 * i) ∧ btI x (56 - 8 * i) ≤ 126)) → kb (zi (layN x z f i).1, zA (layN x z f i).2, x, zi (56 - 8 * (i : Int) + -8)) := by
      intro q
      rw [layN, laySt, if_neg (fun u => q u.1), hni] at hkb
      rw [show 56 - 8 * (i : Int) + -8 = 56 - 8 * (i + 1) by omega]
      exact hkb
    simp only [wp_X11_feedSigns_L3, forall_eq, e]
    simp (disch := omega) only [zi_lit, zi_neg, zi_lt, zi_eq, zi_add]
    refine ⟨fun u => by omega, fun _ => ⟨fun q => add (Or.inl q), fun q => ⟨fun r => no (by omega), fun r => ⟨fun s => no (by omega), fun s => add (by omega)⟩⟩⟩⟩
theorem p_lay {x : Int64} {z : Int} {f : Int → Int} (hz : 0 ≤ z ∧ z ≤ 1000) {post : Int32 → (Nat → Int32) → Prop} (h : post (zi (layN x z f 8).1) (zA (layN x z f 8).2)) : wp_X12_lay (zi z) (zA f) x post := by
  simp only [wp_X12_lay]
  refine lp_for0 (fun n => (zi (layN x z f n).1, zA (layN x z f n).2, x, zi (56 - 8 * n))) 8 rfl (fun kb => ?_) (fun i hi kb hkb => ?_)
  · simp (disch := omega) only [wp_X12_lay_L3, zi_lit, zi_lt]
    exact ⟨fun _ => h, fun u => absurd (by decide) u⟩
  · have hni : ((i + 1 : Nat) : Int) = (i : Int) + 1 := by omega
    have br := bt_rng x (56 - 8 * i)
    have rg := layN_rng (x := x) (f := f) hz i
    have e : Int64.toInt32 (x >>> ((Int32.toInt64 (zi (56 - 8 * (i : Int)))) &&& 63)) &&& 255 = zi (btI x (56 - 8 * i)) := by rw [btI, zi_self]
    have add : (btI x (56 - 8 * i) = 10 ∨ (32 ≤ btI x (56 - 8 * i) ∧ btI x (56 - 8 * i) ≤ 126)) → wp_X12_lay_b38 (fun a b => post a b) kb post (zi (layN x z f i).1) (zA (layN x z f i).2) x (zi (56 - 8 * (i : Int))) (zi (btI x (56 - 8 * i))) := by
      intro q
      simp (disch := omega) only [wp_X12_lay_b38, forall_eq, zi_lit, zi_neg, zi_le, zi_in, zA_upd, zi_add]
      rw [show 56 - 8 * (i : Int) + -8 = 56 - 8 * (i + 1) by omega]
      refine ⟨fun y => ?_, fun y => ⟨by omega, ?_⟩⟩
      · rw [layN, laySt, if_neg (fun u => by omega), hni] at hkb
        exact hkb
      · rw [layN, laySt, if_pos ⟨q, by omega⟩, hni] at hkb
        exact hkb
    have no : ¬ (btI x (56 - 8 * i) = 10 ∨ (32 ≤ btI x (56 - 8 * i) ∧ btI x (56 - 8 * i) ≤ 126)) → kb (zi (layN x z f i).1, zA (layN x z f i).2, x, zi (56 - 8 * (i : Int) + -8)) := by
      intro q
      rw [layN, laySt, if_neg (fun u => q u.1), hni] at hkb
      rw [show 56 - 8 * (i : Int) + -8 = 56 - 8 * (i + 1) by omega]
      exact hkb
    simp only [wp_X12_lay_L3, forall_eq, e]
    simp (disch := omega) only [zi_lit, zi_neg, zi_lt, zi_eq, zi_add]
    refine ⟨fun u => by omega, fun _ => ⟨fun q => add (Or.inl q), fun q => ⟨fun r => no (by omega), fun r => ⟨fun s => no (by omega), fun s => add (by omega)⟩⟩⟩⟩
def fedT (a b c : Int64) (z : Int) (f : Int → Int) : Int × (Int → Int) := layN c (layN b (layN a z f 8).1 (layN a z f 8).2 8).1 (layN b (layN a z f 8).1 (layN a z f 8).2 8).2 8
theorem p_feedC {a b c : Int64} {z : Int} {f : Int → Int} (hz : 0 ≤ z ∧ z ≤ 1000) {post : Int32 → Int32 → (Nat → Int32) → Prop} (h : post (zi (fedT a b c z f).1) (zi (fedT a b c z f).1) (zA (fedT a b c z f).2)) : wp_X11_feed (zi z) (zA f) a b c post := by
  simp only [wp_X11_feed]
  exact p_feedSigns hz (p_feedSigns (layN_rng hz 8) (p_feedSigns (layN_rng (layN_rng hz 8) 8) h))
theorem p_feedR {a b c : Int64} {z : Int} {f : Int → Int} (hz : 0 ≤ z ∧ z ≤ 1000) {th : Int32} {post : Int32 → Int32 → Int32 → (Nat → Int32) → Prop} (h : post (zi (fedT a b c z f).1) 0 (zi (fedT a b c z f).1) (zA (fedT a b c z f).2)) : wp_X12_feed th (zi z) (zA f) a b c post := by
  simp only [wp_X12_feed]
  exact p_lay hz (p_lay (layN_rng hz 8) (p_lay (layN_rng (layN_rng hz 8) 8) h))
end FE
