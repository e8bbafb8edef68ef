/-! bits of longs, rows of squares -/
def lb (x : Int64) (i : Nat) : Bool := x.toBitVec.getLsbD i
theorem lb_or (x y : Int64) (i : Nat) : lb (x ||| y) i = (lb x i || lb y i) := by simp only [lb, Int64.toBitVec_or, BitVec.getLsbD_or]
theorem lb_and (x y : Int64) (i : Nat) : lb (x &&& y) i = (lb x i && lb y i) := by simp only [lb, Int64.toBitVec_and, BitVec.getLsbD_and]
theorem lb_xor (x y : Int64) (i : Nat) : lb (x ^^^ y) i = (lb x i ^^ lb y i) := by simp only [lb, Int64.toBitVec_xor, BitVec.getLsbD_xor]
theorem lb_0 (i : Nat) : lb 0 i = false := by
  show (0#64).getLsbD i = false
  simp
theorem lb_m1 {i : Nat} (h : i < 64) : lb (-1) i = true := by
  show (BitVec.allOnes 64).getLsbD i = true
  rw [BitVec.getLsbD_allOnes, decide_eq_true h]
theorem lb_big {x : Int64} {i : Nat} (h : 64 ≤ i) : lb x i = false := BitVec.getLsbD_of_ge _ _ h
theorem lb_ext {x y : Int64} (h : ∀ i, i < 64 → lb x i = lb y i) : x = y := Int64.toBitVec_inj.mp (BitVec.eq_of_getLsbD_eq (fun i hi => h i hi))
theorem lb_neg (x : Int64) (i : Nat) : lb (-x) i = (lb x i ^^ (decide (i < 64) && decide (∃ j, j < i ∧ lb x j = true))) := by
  simp only [lb, Int64.toBitVec_neg, BitVec.getLsbD_neg]
  congr
theorem lb_pred (x : Int64) {i : Nat} (hi : i < 64) : lb (x - 1) i = !(lb x i ^^ decide (∃ j, j < i ∧ lb x j = true)) := by
  have e : x - 1 = (-x) ^^^ (-1) := by
    apply Int64.toBitVec_inj.mp
    rw [Int64.toBitVec_sub, Int64.toBitVec_xor, Int64.toBitVec_neg]
    show x.toBitVec - 1#64 = -x.toBitVec ^^^ BitVec.allOnes 64
    rw [BitVec.xor_allOnes, BitVec.not_neg]
  rw [e, lb_xor, lb_neg, lb_m1 hi]
  simp [hi]
/-- the lowest bit of what is not 0 -/
theorem lb_low {x : Int64} (h : x ≠ 0) : ∃ j, j < 64 ∧ lb x j = true ∧ ∀ i, i < j → lb x i = false := by
  have hx : ∃ j, lb x j = true := by
    refine Classical.byContradiction (fun hn => h (lb_ext (fun i hi => ?_)))
    rw [lb_0]
    cases hb : lb x i with
    | false => rfl
    | true => exact absurd ⟨i, hb⟩ hn
  obtain ⟨j, h1, h2⟩ := pk_least (fun j => lb x j = true) hx
  refine ⟨j, ?_, h1, fun i hi => ?_⟩
  · refine Classical.byContradiction (fun hn => ?_)
    rw [lb_big (by omega)] at h1
    exact absurd h1 (by decide)
  · cases hb : lb x i with
    | false => rfl
    | true => exact absurd hb (h2 i hi)
theorem lb_drop {x : Int64} {j : Nat} (hl : ∀ i, i < j → lb x i = false) {i : Nat} (hi : i < 64) (hj : lb x j = true) : lb (x &&& (x - 1)) i = (lb x i && decide (i ≠ j)) := by
  rw [lb_and, lb_pred x hi]
  cases hb : lb x i with
  | false => rfl
  | true =>
    have e : (∃ q, q < i ∧ lb x q = true) ↔ i ≠ j := by
      constructor
      · rintro ⟨q, q1, q2⟩ rfl
        rw [hl q q1] at q2
        exact absurd q2 (by decide)
      · intro hn
        refine ⟨j, ?_, hj⟩
        refine Classical.byContradiction (fun hq => ?_)
        rw [hl i (by omega)] at hb
        exact absurd hb (by decide)
    simp only [e, Bool.true_bne, Bool.not_not, Bool.true_and]
theorem lb_iso {x : Int64} {j : Nat} (hj64 : j < 64) (hl : ∀ i, i < j → lb x i = false) (hj : lb x j = true) : x &&& (-x) = Int64.ofBitVec (BitVec.twoPow 64 j) := by
  refine lb_ext (fun i hi => ?_)
  have e2 : lb (Int64.ofBitVec (BitVec.twoPow 64 j)) i = decide (i = j) := by
    show (BitVec.twoPow 64 j).getLsbD i = _
    rw [BitVec.getLsbD_twoPow]
    by_cases hij : i = j
    · subst hij; simp [hi]
    · have : ¬ j = i := fun z => hij z.symm
      simp [hij, this]
  rw [lb_and, lb_neg, e2]
  cases hb : lb x i with
  | false =>
    have : i ≠ j := by intro z; subst z; rw [hj] at hb; exact absurd hb (by decide)
    simp [this]
  | true =>
    have e : (∃ q, q < i ∧ lb x q = true) ↔ i ≠ j := by
      constructor
      · rintro ⟨q, q1, q2⟩ rfl
        rw [hl q q1] at q2
        exact absurd q2 (by decide)
      · intro hn
        refine ⟨j, ?_, hj⟩
        refine Classical.byContradiction (fun hq => ?_)
        rw [hl i (by omega)] at hb
        exact absurd hb (by decide)
    simp [e, hi]
def bcF (p0 : Int64) : Int32 :=
  let x9 := p0 - (((Int64.toUInt64 p0 >>> ((Int32.toInt64 (1 : Int32)).toUInt64 &&& Int64.toUInt64 63)).toInt64) &&& 6148914691236517205)
  let x23 := (x9 &&& 3689348814741910323) + (((Int64.toUInt64 x9 >>> ((Int32.toInt64 (2 : Int32)).toUInt64 &&& Int64.toUInt64 63)).toInt64) &&& 3689348814741910323)
  let x33 := (x23 + ((Int64.toUInt64 x23 >>> ((Int32.toInt64 (4 : Int32)).toUInt64 &&& Int64.toUInt64 63)).toInt64)) &&& 1085102592571150095
  let x40 := x33 + ((Int64.toUInt64 x33 >>> ((Int32.toInt64 (8 : Int32)).toUInt64 &&& Int64.toUInt64 63)).toInt64)
  let x47 := x40 + ((Int64.toUInt64 x40 >>> ((Int32.toInt64 (16 : Int32)).toUInt64 &&& Int64.toUInt64 63)).toInt64)
  let x54 := x47 + ((Int64.toUInt64 x47 >>> ((Int32.toInt64 (32 : Int32)).toUInt64 &&& Int64.toUInt64 63)).toInt64)
  x54.toInt32 &&& 127
theorem p_bitCount {x : Int64} {post : Int32 → Prop} (h : post (bcF x)) : wp_J13_bitCount_95d88 x post := by
  simp only [wp_J13_bitCount_95d88, forall_eq]
  exact h
theorem bcF_low : ∀ j : Fin 64, bcF (Int64.ofBitVec (BitVec.twoPow 64 j.val) - 1) = nI j.val := by decide +kernel
theorem p_lowest {x : Int64} {j : Nat} (hj64 : j < 64) (hl : ∀ i, i < j → lb x i = false) (hj : lb x j = true) {post : Int32 → Prop} (h : post (zi j)) : wp_X5_lowest x post := by
  simp only [wp_X5_lowest]
  refine p_bitCount ?_
  rw [lb_iso hj64 hl hj, bcF_low ⟨j, hj64⟩]
  exact h
/-- a square in a row -/
def hb (w : Nat → Int64) (r s : Int) : Bool := lb (w (2 * r + s / 64).toNat) (s % 64).toNat
theorem zi_sh6 {s : Int} (h : 0 ≤ s ∧ s < 2147483648) : zi s >>> ((6 : Int32) &&& 31) = zi (s / 64) := by
  rw [zi_nI h.1, pk_shrN (by omega) _ 6 (by decide), nI_zi]
  congr 1
  omega
theorem zi_a63 {s : Int} (h : 0 ≤ s ∧ s < 2147483648) : zi s &&& 63 = nI (s % 64).toNat := by
  rw [zi_nI h.1, pk_andN (by omega) 6 (by decide)]
  congr 1
  omega
theorem lb_tst {x : Int64} {j : Nat} (hj : j < 64) : (lg_cmp (((Int64.toUInt64 x >>> ((Int32.toInt64 (nI j)).toUInt64 &&& Int64.toUInt64 63)).toInt64) &&& 1) 0 = 0) ↔ lb x j = false := by
  have wcu : ∀ k, k < 64 → ((nI k).toInt64.toUInt64 &&& Int64.toUInt64 63) = UInt64.ofNat k := by decide +kernel
  have hs : (UInt64.ofNat j).toNat = j := by rw [UInt64.toNat_ofNat']; omega
  rw [lg_cmp_eq, wcu j hj]
  have e : (x.toUInt64 >>> UInt64.ofNat j).toInt64.toBitVec = x.toBitVec >>> j := by
    apply BitVec.eq_of_toNat_eq
    show (x.toUInt64 >>> UInt64.ofNat j).toNat = _
    rw [UInt64.toNat_shiftRight, hs, Nat.mod_eq_of_lt hj, BitVec.toNat_ushiftRight]
    rfl
  rw [← Int64.toBitVec_inj, Int64.toBitVec_and, e]
  show x.toBitVec >>> j &&& 1#64 = 0#64 ↔ _
  constructor
  · intro h
    have t := congrArg (fun x => x.getLsbD 0) h
    have t2 : x.toBitVec.getLsbD j = false := by simpa using t
    exact t2
  · intro h
    apply BitVec.eq_of_getLsbD_eq
    intro i hi
    rw [BitVec.getLsbD_and, BitVec.getLsbD_ushiftRight]
    by_cases h0 : i = 0
    · subst h0
      have h2 : x.toBitVec.getLsbD j = false := h
      simp [h2]
    · simp [h0]
/-- a square of a row, rows and squares that aren't there being empty -/
def hbs (n : Nat) (w : Nat → Int64) (r s : Int) : Bool := decide (0 ≤ r ∧ 2 * r + 1 < (n : Int) ∧ 0 ≤ s ∧ s < 100) && hb w r s
theorem hbs_in {n : Nat} {w : Nat → Int64} {r s : Int} (h : 0 ≤ r ∧ 2 * r + 1 < (n : Int) ∧ 0 ≤ s ∧ s < 100) : hbs n w r s = hb w r s := by
  simp [hbs, h]
theorem p_has {n : Nat} (hn : n < 100000 ∧ n % 2 = 0) {w : Nat → Int64} {r s : Int} (hr : -1000000 ≤ r ∧ r < 1000000) (hs : -2147483648 ≤ s ∧ s < 2147483648) {post : Int32 → Prop} (h : post (if hbs n w r s = true then 1 else 0)) : wp_X5_has n w (zi r) (zi s) post := by
  simp only [wp_X5_has, forall_eq]
  by_cases h0 : 0 ≤ s ∧ s < 100
  · rw [zi_sh6 (by omega), zi_a63 (by omega)]
    simp (disch := omega) only [nI_zi n, zi_lit, zi_add, zi_sub, zi_mul, zi_neg, zi_lt, zi_le, zi_eq, zi_div, zi_rem, zi_in, zA_get, zA_upd]
    have hf : ¬ (0 ≤ r ∧ 2 * r + 1 < (n : Int) ∧ 0 ≤ s ∧ s < 100) → post 0 := by
      intro q
      have e : hbs n w r s = false := by simp only [hbs]; rw [decide_eq_false q]; rfl
      rw [e] at h; exact h
    refine ⟨fun z => by omega, fun _ => ⟨fun z => by omega, fun _ => ⟨fun z => ?_, fun z => ⟨fun y => ?_, fun y => ⟨by omega, ?_⟩⟩⟩⟩⟩
    · exact hf (by omega)
    · exact hf (by omega)
    · rw [hbs_in (by omega)] at h
      rw [zi_cl (by omega), show zi 0 = (0 : Int32) from rfl, lb_tst (j := (s % 64).toNat) (by omega)]
      refine ⟨fun q => ?_, fun q => ?_⟩
      · have e : hb w r s = false := q
        rw [e] at h; exact h
      · have e : hb w r s = true := by rw [hb]; simpa using q
        rw [e] at h; exact h
  · have hz : hbs n w r s = false := by simp only [hbs]; rw [decide_eq_false (by omega)]; rfl
    rw [hz] at h
    have h' : post 0 := h
    clear h
    have a : zi s < 0 ∨ 100 ≤ zi s := by
      simp (disch := omega) only [zi_lit, zi_add, zi_sub, zi_mul, zi_neg, zi_lt, zi_le, zi_eq, zi_div, zi_rem, zi_in, zA_get, zA_upd]
      omega
    refine ⟨fun _ => h', fun z => ⟨fun _ => h', fun y => ?_⟩⟩
    rcases a with a | a
    · exact absurd a z
    · exact absurd a y
/-- setting a square -/
def hbp (w : Nat → Int64) (r s : Int) : Nat → Int64 := vp_updL w (2 * r + s / 64).toNat (w (2 * r + s / 64).toNat ||| ((1 : Int64) <<< ((Int32.toInt64 (nI (s % 64).toNat)) &&& 63)))
theorem lb_one : ∀ k : Fin 64, ∀ i : Fin 64, lb ((1 : Int64) <<< ((Int32.toInt64 (nI k.val)) &&& 63)) i.val = decide (i.val = k.val) := by decide +kernel
theorem hb_p {w : Nat → Int64} {r s r' s' : Int} (hr : 0 ≤ r) (hs : 0 ≤ s ∧ s < 128) (hr' : 0 ≤ r') (hs' : 0 ≤ s' ∧ s' < 128) : hb (hbp w r s) r' s' = (hb w r' s' || decide (r' = r ∧ s' = s)) := by
  simp only [hb, hbp]
  by_cases he : (2 * r' + s' / 64).toNat = (2 * r + s / 64).toNat
  · rw [he, pk_uLs, lb_or, lb_one ⟨(s % 64).toNat, by omega⟩ ⟨(s' % 64).toNat, by omega⟩]
    congr 1
    rw [decide_eq_decide]
    show (s' % 64).toNat = (s % 64).toNat ↔ _
    omega
  · rw [pk_uLn he, decide_eq_false (by omega), Bool.or_false]
theorem p_put {n : Nat} (hn : n < 100000 ∧ n % 2 = 0) {w : Nat → Int64} {r s : Int} (hr : 0 ≤ r ∧ 2 * r + 1 < (n : Int)) (hs : 0 ≤ s ∧ s < 100) {post : (Nat → Int64) → Prop} (h : post (hbp w r s)) : wp_X5_put n w (zi r) (zi s) post := by
  simp only [wp_X5_put, forall_eq]
  rw [zi_sh6 (by omega), zi_a63 (by omega)]
  simp (disch := omega) only [nI_zi n, zi_lit, zi_mul, zi_add, zi_lt, zi_le, zi_in, zi_cl]
  exact ⟨fun z => by omega, fun _ => ⟨fun z => by omega, fun _ => ⟨fun z => by omega, fun z => ⟨fun y => by omega, fun y => ⟨by omega, by omega, h⟩⟩⟩⟩⟩
/-- a square that isn't there is not put -/
theorem p_put_no {n : Nat} {w : Nat → Int64} {r : Int32} {post : (Nat → Int64) → Prop} (h : post w) : wp_X5_put n w r (-1) post := by
  simp only [wp_X5_put, forall_eq]
  exact ⟨fun _ => h, fun z => absurd (by decide) z⟩
theorem p_holds {n : Nat} (hn : n < 100000 ∧ n % 2 = 0) {w : Nat → Int64} {r : Int} (hr : -1000000 ≤ r ∧ r < 1000000) {post : Int32 → Prop} (h1 : 0 ≤ r ∧ 2 * r + 1 < (n : Int) → post 1) (h0 : ¬ (0 ≤ r ∧ 2 * r + 1 < (n : Int)) → post 0) : wp_X5_holds n w (zi r) post := by
  simp (disch := omega) only [wp_X5_holds, nI_zi n, zi_lit, zi_add, zi_sub, zi_mul, zi_neg, zi_lt, zi_le, zi_eq, zi_div, zi_rem, zi_in, zA_get, zA_upd]
  exact ⟨fun z => h0 (by omega), fun z => ⟨fun y => h0 (by omega), fun y => h1 (by omega)⟩⟩
/-- a half of a row; nothing of a row that isn't there -/
def wrd (n : Nat) (w : Nat → Int64) (r q : Int) : Int64 := if 0 ≤ r ∧ 2 * r + 1 < (n : Int) ∧ 0 ≤ q ∧ q < 2 then w (2 * r + q).toNat else 0
theorem p_word {n : Nat} (hn : n < 100000 ∧ n % 2 = 0) {w : Nat → Int64} {r q : Int} (hr : -1000000 ≤ r ∧ r < 1000000) (hq : 0 ≤ q ∧ q < 2) {post : Int64 → Prop} (h : post (wrd n w r q)) : wp_X5_word n w (zi r) (zi q) post := by
  simp only [wp_X5_word]
  refine p_holds hn hr (fun z => ?_) (fun z => ?_)
  · refine ⟨fun y => absurd y (by decide), fun _ => ?_⟩
    rw [wrd, if_pos (by omega)] at h
    simp (disch := omega) only [forall_eq, zi_lit, zi_mul, zi_add, zi_lt, zi_le, zi_in, zi_cl]
    exact ⟨fun z => by omega, fun _ => ⟨fun z => by omega, fun _ => ⟨by omega, h⟩⟩⟩
  · rw [wrd, if_neg (by omega)] at h
    exact ⟨fun _ => h, fun y => absurd rfl y⟩
theorem lb_wrd {n : Nat} {w : Nat → Int64} {r q : Int} (hq : 0 ≤ q ∧ q < 2) (hr : 0 ≤ r ∧ 2 * r + 1 < (n : Int)) {i : Nat} (hi : i < 64) : lb (wrd n w r q) i = hb w r (64 * q + i) := by
  rw [wrd, if_pos (by omega), hb]
  have e1 : (2 * r + (64 * q + (i : Int)) / 64).toNat = (2 * r + q).toNat := by omega
  have e2 : ((64 * q + (i : Int)) % 64).toNat = i := by omega
  rw [e1, e2]
