/-! PURE LAYER, base: numbers as Int (zi), rows as functions of Int (zA), loops -/
def zi (z : Int) : Int32 := Int32.ofInt z
theorem zi_lit (n : Nat) : (OfNat.ofNat n : Int32) = zi (OfNat.ofNat n) := rfl
theorem zi_add (a b : Int) : zi a + zi b = zi (a + b) := (Int32.ofInt_add a b).symm
theorem zi_sub (a b : Int) : zi a - zi b = zi (a - b) := (Int32.ofInt_sub a b).symm
theorem zi_mul (a b : Int) : zi a * zi b = zi (a * b) := (Int32.ofInt_mul a b).symm
theorem zi_neg (a : Int) : -zi a = zi (-a) := (Int32.ofInt_neg a).symm
theorem zi_toInt {a : Int} (h : -2147483648 ≤ a ∧ a < 2147483648) : (zi a).toInt = a := Int32.toInt_ofInt_of_le (by simpa using h.1) (by simpa using h.2)
theorem zi_self (x : Int32) : zi x.toInt = x := Int32.ofInt_toInt x
theorem zi_rng (x : Int32) : -2147483648 ≤ x.toInt ∧ x.toInt < 2147483648 := ⟨by simpa using x.le_toInt, by simpa using x.toInt_lt⟩
theorem zi_ex (x : Int32) : ∃ z : Int, x = zi z ∧ -2147483648 ≤ z ∧ z < 2147483648 := ⟨x.toInt, (zi_self x).symm, zi_rng x⟩
theorem zi_lt {a b : Int} (h : (-2147483648 ≤ a ∧ a < 2147483648) ∧ -2147483648 ≤ b ∧ b < 2147483648) : (zi a < zi b) = (a < b) := by
  rw [Int32.lt_iff_toInt_lt, zi_toInt h.1, zi_toInt h.2]
theorem zi_le {a b : Int} (h : (-2147483648 ≤ a ∧ a < 2147483648) ∧ -2147483648 ≤ b ∧ b < 2147483648) : (zi a ≤ zi b) = (a ≤ b) := by
  rw [Int32.le_iff_toInt_le, zi_toInt h.1, zi_toInt h.2]
theorem zi_eq {a b : Int} (h : (-2147483648 ≤ a ∧ a < 2147483648) ∧ -2147483648 ≤ b ∧ b < 2147483648) : (zi a = zi b) = (a = b) := by
  rw [← Int32.toInt_inj, zi_toInt h.1, zi_toInt h.2]
theorem zi_nI {a : Int} (h : 0 ≤ a) : zi a = nI a.toNat := by
  obtain ⟨n, rfl⟩ := Int.eq_ofNat_of_zero_le h
  rfl
theorem nI_zi (n : Nat) : nI n = zi n := rfl
theorem zi_cl {a : Int} (h : 0 ≤ a ∧ a < 2147483648) : Int32.toNatClampNeg (zi a) = a.toNat := by
  rw [zi_nI h.1, nI_clamp (by omega)]
theorem zi_div {a b : Int} (h : (0 ≤ a ∧ a < 2147483648) ∧ 0 < b ∧ b < 2147483648) : zi a / zi b = zi (a / b) := by
  obtain ⟨m, rfl⟩ := Int.eq_ofNat_of_zero_le h.1.1
  obtain ⟨n, rfl⟩ := Int.eq_ofNat_of_zero_le (show 0 ≤ b by omega)
  rw [← nI_zi, ← nI_zi, pk_div (by omega) (by omega) (by omega), nI_zi]
  rfl
theorem zi_rem {a b : Int} (h : (0 ≤ a ∧ a < 2147483648) ∧ 0 < b ∧ b < 2147483648) : jrem (zi a) (zi b) = zi (a % b) := by
  obtain ⟨m, rfl⟩ := Int.eq_ofNat_of_zero_le h.1.1
  obtain ⟨n, rfl⟩ := Int.eq_ofNat_of_zero_le (show 0 ≤ b by omega)
  rw [jrem, ← nI_zi, ← nI_zi, pk_rem (by omega) (by omega) (by omega), nI_zi]
  rfl
theorem zi_in {a : Int} {N : Nat} (h : -2147483648 ≤ a ∧ a < 2147483648) : vp_in (zi a) N = (0 ≤ a ∧ a < (N : Int)) := by
  rw [eq_iff_iff, vp_in_iff, zi_toInt h]
/-- a row of ints, as a function of Int -/
def zA (f : Int → Int) : Nat → Int32 := fun k => zi (f k)
theorem zA_ex (t : Nat → Int32) : ∃ f : Int → Int, t = zA f ∧ ∀ k, -2147483648 ≤ f k ∧ f k < 2147483648 := by
  refine ⟨fun k => (t k.toNat).toInt, ?_, fun k => zi_rng _⟩
  funext k
  simp only [zA, Int.toNat_natCast, zi_self]
theorem zA_get {f : Int → Int} {a : Int} (h : 0 ≤ a ∧ a < 2147483648) : zA f (Int32.toNatClampNeg (zi a)) = zi (f a) := by
  rw [zi_cl h, zA, Int.toNat_of_nonneg h.1]
def upI {α : Type} (f : Int → α) (i : Int) (v : α) : Int → α := fun j => if j = i then v else f j
theorem upI_s {α : Type} (f : Int → α) (i : Int) (v : α) : upI f i v i = v := if_pos rfl
theorem upI_n {α : Type} {f : Int → α} {i j : Int} {v : α} (h : j ≠ i) : upI f i v j = f j := if_neg h
theorem upI_same {α : Type} (f : Int → α) (i : Int) : upI f i (f i) = f := by
  funext j
  by_cases h : j = i
  · subst h; exact upI_s _ _ _
  · exact upI_n h
theorem upI_twice {α : Type} (f : Int → α) (i : Int) (v w : α) : upI (upI f i v) i w = upI f i w := by
  funext j
  by_cases h : j = i
  · subst h; rw [upI_s, upI_s]
  · rw [upI_n h, upI_n h, upI_n h]
theorem upI_le {f : Int → Int} {i v : Int} (h : v ≤ f i) (j : Int) : upI f i v j ≤ f j := by
  by_cases hj : j = i
  · subst hj; rw [upI_s]; exact h
  · rw [upI_n hj]; exact Int.le_refl _
theorem zA_upd {f : Int → Int} {a v : Int} (h : 0 ≤ a ∧ a < 2147483648) : upd (zA f) (Int32.toNatClampNeg (zi a)) (zi v) = zA (upI f a v) := by
  funext k
  rw [zi_cl h]
  by_cases hk : k = a.toNat
  · subst hk
    rw [pk_us, zA, Int.toNat_of_nonneg h.1, upI_s]
  · rw [pk_un hk, zA, zA, upI_n (by omega)]
/-- loops whose state is known at each turn -/
theorem lp_for {S : Type} {body : (S → Prop) → S → Prop} (st : Nat → S) (e : Nat) (hx : ∀ k, body k (st e)) (hs : ∀ i, i < e → ∀ k : S → Prop, k (st (i + 1)) → body k (st i)) (i : Nat) (hi : i ≤ e) : ∃ n, lp body n (st i) := by
  have h : ∀ d i, i + d = e → lp body (d + 1) (st i) := by
    intro d
    induction d with
    | zero => intro i h; have : i = e := by omega
              subst this; exact hx _
    | succ d ih => intro i h; exact hs i (by omega) _ (ih (i + 1) (by omega))
  exact ⟨e - i + 1, h (e - i) i (by omega)⟩
theorem lp_for0 {S : Type} {body : (S → Prop) → S → Prop} (st : Nat → S) (e : Nat) {s : S} (h0 : s = st 0) (hx : ∀ k, body k (st e)) (hs : ∀ i, i < e → ∀ k : S → Prop, k (st (i + 1)) → body k (st i)) : ∃ n, lp body n s := by
  subst h0
  exact lp_for st e hx hs 0 (Nat.zero_le _)
/-- counted loops with an invariant -/
theorem lp_inv {S : Type} {body : (S → Prop) → S → Prop} (I : Nat → S → Prop) (e : Nat) (hx : ∀ s, I e s → ∀ k, body k s) (hs : ∀ i, i < e → ∀ s, I i s → ∀ k : S → Prop, (∀ s', I (i + 1) s' → k s') → body k s) {s : S} (i0 : Nat) (hi : i0 ≤ e) (h0 : I i0 s) : ∃ n, lp body n s := by
  have h : ∀ d i s, i + d = e → I i s → lp body (d + 1) s := by
    intro d
    induction d with
    | zero => intro i s h hI; have : i = e := by omega
              subst this; exact hx _ hI _
    | succ d ih => intro i s h hI; exact hs i (by omega) s hI _ (fun s' hs' => ih (i + 1) s' (by omega) hs')
  exact ⟨e - i0 + 1, h (e - i0) i0 s (by omega) h0⟩
