/-! the class's search: one node -/
theorem p_row {d m : Int} {post : Int32 → Prop} (h : post (zi (120 * d + m))) : wp_X11_row (zi d) (zi m) post := by
  simp only [wp_X11_row, forall_eq, zi_lit, zi_mul, zi_add]
  rw [show d * 120 + m = 120 * d + m by omega]
  exact h
theorem p_isSquare {s : Int} (hs : -2147483648 ≤ s ∧ s < 2147483648) {post : Int32 → Prop} (h1 : 0 ≤ s ∧ s < 100 → post 1) (h0 : ¬ (0 ≤ s ∧ s < 100) → post 0) : wp_X11_isSquare (zi s) post := by
  simp (disch := omega) only [wp_X11_isSquare, zi_lit, zi_add, zi_sub, zi_mul, zi_neg, zi_lt, zi_le, zi_eq, zi_div, zi_rem, zi_in, zA_get, zA_upd]
  exact ⟨fun z => h0 (by omega), fun z => ⟨fun y => h0 (by omega), fun y => h1 (by omega)⟩⟩
theorem p_isMinute {s : Int} (hs : -2147483648 ≤ s ∧ s < 2147483648) {post : Int32 → Prop} (h1 : 0 ≤ s ∧ s < 120 → post 1) (h0 : ¬ (0 ≤ s ∧ s < 120) → post 0) : wp_X11_isMinute (zi s) post := by
  simp (disch := omega) only [wp_X11_isMinute, zi_lit, zi_add, zi_sub, zi_mul, zi_neg, zi_lt, zi_le, zi_eq, zi_div, zi_rem, zi_in, zA_get, zA_upd]
  exact ⟨fun z => h0 (by omega), fun z => ⟨fun y => h0 (by omega), fun y => h1 (by omega)⟩⟩
def b2i (b : Bool) : Int := if b = true then 1 else 0
theorem b2i_zi (b : Bool) : (if b = true then (1 : Int32) else 0) = zi (b2i b) := by cases b <;> rfl
theorem b2i_0 (b : Bool) : (zi (b2i b) = zi 0) = (b = false) := by cases b <;> simp [b2i, zi_eq]
theorem b2i_0' (b : Bool) : (zi (b2i b) = 0) = (b = false) := by cases b <;> simp [b2i, zi_eq] <;> decide
def dkF (dw : Nat → Int64) (k : Int) : Bool := hbs 240 dw (k / 100) (k % 100)
def costF (eb : Bool) (hot cool : Int) (dw : Nat → Int64) (ex : Int → Int) (k : Int) : Int := (if dkF dw k = true then cool else hot) + (if eb = true ∧ 0 ≤ k ∧ k < 12000 then ex k else 0)
def heatF (bears mends : Int) (dw : Nat → Int64) (v k : Int) : Int :=
  let h := if dkF dw k = true then (if 0 < v - mends then v - mends else 0) else v + 1
  if h ≤ bears then h else 268435456
def aftF (eb : Bool) (hot cool aims : Int) (dw : Nat → Int64) (ex : Int → Int) (bears mends v k : Int) : Int := if aims = 3 then heatF bears mends dw v k else v + costF eb hot cool dw ex k
section GO
variable {eb : Bool} {day to hot cool wt aims : Int} {dw : Nat → Int64} {ex nt : Int → Int} {sl : Int} {ww sw : Nat → Int64} {p bears mends : Int}
theorem p_after (hh : 0 ≤ hot ∧ hot ≤ 99) (hc : 0 ≤ cool ∧ cool ≤ 99) (ha : 0 ≤ aims ∧ aims ≤ 3) (hex : ∀ k, 0 ≤ k → k < 12000 → -1000 ≤ ex k ∧ ex k ≤ 1000) (hb : 0 ≤ bears ∧ bears ≤ 99) (hme : 0 ≤ mends ∧ mends ≤ 99) {v m s : Int} (hv : 0 ≤ v ∧ v ≤ 300000000) (hm : 0 ≤ m ∧ m < 1000) (hs : 0 ≤ s ∧ s < 100) {post : Int32 → Prop} (h : post (zi (aftF eb hot cool aims dw ex bears mends v (100 * m + s)))) : wp_X9_after eb (zi hot) (zi cool) (zi aims) dw (zA ex) (zi bears) (zi mends) (zi v) (zi m) (zi s) post := by
  simp only [wp_X9_after]
  refine p_has (by decide) (by omega) (by omega) ?_
  have hd : dkF dw (100 * m + s) = hbs 240 dw m s := by rw [dkF, show (100 * m + s) / 100 = m by omega, show (100 * m + s) % 100 = s by omega]
  rw [← hd, b2i_zi]
  have hk : m * 100 + s = 100 * m + s := by omega
  generalize hkg : 100 * m + s = k at *
  have hk0 : 0 ≤ k := by omega
  have hexk := hex k
  simp (disch := omega) only [wp_X9_after_b95, wp_X9_after_b106, wp_X9_after_b43, forall_eq, zi_lit, zi_mul, zi_add, zi_sub, hk, zi_eq, zi_lt, b2i_0, nI_zi 12000, zi_in, zA_get]
  have k12 : ((12000 : Nat) : Int) = 12000 := rfl
  simp only [k12]
  refine ⟨fun a3 => ⟨fun e0 => ⟨fun d => ?_, fun d => ?_⟩, fun e1 => ⟨fun z => by omega, fun _ => ⟨fun z => ⟨by omega, fun d => ?_, fun d => ?_⟩, fun z => ⟨fun d => ?_, fun d => ?_⟩⟩⟩⟩, fun a3 => ⟨fun d => ?_, fun d => ?_⟩⟩
  · have : aftF eb hot cool aims dw ex bears mends v k = v + hot + 0 := by simp [aftF, a3, costF, d, e0]
    rwa [this] at h
  · have : aftF eb hot cool aims dw ex bears mends v k = v + cool + 0 := by simp [aftF, a3, costF, d, e0]
    rwa [this] at h
  · have : aftF eb hot cool aims dw ex bears mends v k = v + hot + ex k := by simp [aftF, a3, costF, d, e1, hk0, z]; omega
    rwa [this] at h
  · have : aftF eb hot cool aims dw ex bears mends v k = v + cool + ex k := by simp [aftF, a3, costF, d, e1, hk0, z]; omega
    rwa [this] at h
  · have : aftF eb hot cool aims dw ex bears mends v k = v + hot + 0 := by simp [aftF, a3, costF, d, z]
    rwa [this] at h
  · have : aftF eb hot cool aims dw ex bears mends v k = v + cool + 0 := by simp [aftF, a3, costF, d, z]
    rwa [this] at h
  · have e : aftF eb hot cool aims dw ex bears mends v k = if v + 1 ≤ bears then v + 1 else 268435456 := by simp [aftF, a3, heatF, d]
    rw [e] at h
    rw [zi_le (by omega)]
    exact ⟨fun z => by rwa [if_pos z] at h, fun z => by rwa [if_neg z] at h⟩
  · have d' : dkF dw k = true := by simpa using d
    have e : aftF eb hot cool aims dw ex bears mends v k = if (if 0 < v - mends then v - mends else 0) ≤ bears then (if 0 < v - mends then v - mends else 0) else 268435456 := by simp [aftF, a3, heatF, d']
    rw [e] at h
    have e2 : (if 0 < v - mends then zi (v - mends) else zi 0) = zi (if 0 < v - mends then v - mends else 0) := by split <;> rfl
    rw [e2]
    generalize hg : (if 0 < v - mends then v - mends else 0) = u at *
    have hu : 0 ≤ u ∧ u ≤ 300000000 := by rw [← hg]; split <;> omega
    rw [zi_le (by omega)]
    exact ⟨fun z => by rwa [if_pos z] at h, fun z => by rwa [if_neg z] at h⟩
end GO
/-- the search's state: most, cost, arrival, reach, live -/
abbrev Sst : Type := Int × Int × Int × (Int → Int) × (Int → Bool)
def ofr (aims to : Int) (st : Sst) (k v : Int) : Sst :=
  if v ≤ st.1 ∧ v < st.2.2.2.1 k then
    (if k % 100 = to then (if aims = 0 then st.1 else if aims = 1 then v - 1 else -1) else st.1, if k % 100 = to then v else st.2.1, if k % 100 = to then k / 100 else st.2.2.1, upI st.2.2.2.1 k v, upI st.2.2.2.2 k true)
  else st
/-- the live squares as words -/
def LR (lw : Nat → Int64) (L : Int → Bool) : Prop := ∀ m s, 0 ≤ m → m < 120 → 0 ≤ s → s < 128 → hb lw m s = (decide (s < 100) && L (100 * m + s))
theorem LR_put {lw : Nat → Int64} {L : Int → Bool} (h : LR lw L) {m s : Int} (hm : 0 ≤ m ∧ m < 120) (hs : 0 ≤ s ∧ s < 100) : LR (hbp lw m s) (upI L (100 * m + s) true) := by
  intro m' s' a1 a2 a3 a4
  rw [hb_p hm.1 (by omega) a1 (by omega), h m' s' a1 a2 a3 a4]
  by_cases he : m' = m ∧ s' = s
  · obtain ⟨rfl, rfl⟩ := he
    rw [upI_s, decide_eq_true (show s' < 100 by omega)]
    simp
  · rw [decide_eq_false he]
    by_cases h100 : s' < 100
    · rw [upI_n (by omega), Bool.or_false]
    · simp [h100]
/-- a state as the class holds it -/
def SR (post : Int32 → Int32 → Int32 → (Nat → Int32) → (Nat → Int64) → Prop) (st : Sst) : Prop := ∀ lw, LR lw st.2.2.2.2 → post (zi st.1) (zi st.2.1) (zi st.2.2.1) (zA st.2.2.2.1) lw
def Sok (st : Sst) : Prop := (-1 ≤ st.1 ∧ st.1 ≤ 268435455) ∧ (∀ k, 0 ≤ k → k < 12000 → 0 ≤ st.2.2.2.1 k ∧ st.2.2.2.1 k ≤ 268435456) ∧ (-2147483648 ≤ st.2.1 ∧ st.2.1 < 2147483648) ∧ (-2147483648 ≤ st.2.2.1 ∧ st.2.2.1 < 2147483648)
theorem ofr_ok {aims to k v : Int} {st : Sst} (h : Sok st) (hv : 0 ≤ v ∧ v ≤ 300000000) (hk : 0 ≤ k ∧ k < 12000) : Sok (ofr aims to st k v) := by
  obtain ⟨h1, h2, h3, h4⟩ := h
  simp only [ofr]
  split
  · next hh =>
    refine ⟨?_, fun j j0 j1 => ?_, ?_, ?_⟩
    · show -1 ≤ (if k % 100 = to then _ else st.1) ∧ (if k % 100 = to then _ else st.1) ≤ 268435455
      repeat' split
      all_goals omega
    · show 0 ≤ upI st.2.2.2.1 k v j ∧ upI st.2.2.2.1 k v j ≤ 268435456
      by_cases hj : j = k
      · subst hj; rw [upI_s]; omega
      · rw [upI_n hj]; exact h2 j j0 j1
    · show -2147483648 ≤ (if k % 100 = to then v else st.2.1) ∧ (if k % 100 = to then v else st.2.1) < 2147483648
      split <;> omega
    · show -2147483648 ≤ (if k % 100 = to then k / 100 else st.2.2.1) ∧ (if k % 100 = to then k / 100 else st.2.2.1) < 2147483648
      split <;> omega
  · exact ⟨h1, h2, h3, h4⟩
theorem p_offer {aims to : Int} (ha : 0 ≤ aims ∧ aims ≤ 3) (hto : -1 ≤ to ∧ to < 100) {st : Sst} (hS : Sok st) {lw : Nat → Int64} (hL : LR lw st.2.2.2.2) {m s v : Int} (hm : 0 ≤ m ∧ m < 120) (hs : 0 ≤ s ∧ s < 100) (hv : 0 ≤ v ∧ v ≤ 300000000) {post : Int32 → Int32 → Int32 → (Nat → Int32) → (Nat → Int64) → Prop} (h : SR post (ofr aims to st (100 * m + s) v)) : wp_X9_offer (zi to) (zi aims) (zi st.1) (zi st.2.1) (zi st.2.2.1) (zA st.2.2.2.1) lw (zi m) (zi s) (zi v) post := by
  obtain ⟨most, cost, arr, R, L⟩ := st
  have hk : m * 100 + s = 100 * m + s := by omega
  have hS1 := hS.1
  have hS2 := hS.2.1 (100 * m + s) (by omega) (by omega)
  simp only at hL hS1 hS2 ⊢
  simp only [ofr] at h
  simp (disch := omega) only [wp_X9_offer, forall_eq, zi_lit, zi_mul, zi_add, zi_sub, zi_neg, hk, zi_lt, zi_le, nI_zi 12000, zi_in, zA_get, zA_upd]
  refine ⟨fun a1 => ?_, fun a1 => ⟨fun z => by omega, fun _ => ⟨fun z => by omega, fun _ => ⟨by omega, fun a2 => ⟨by omega, ?_⟩, fun a2 => ?_⟩⟩⟩⟩
  · rw [if_neg (by omega)] at h; exact h lw hL
  · rw [if_pos (by omega)] at h
    refine p_put (by decide) (by omega) hs ?_
    have hL' := LR_put hL hm hs
    have := h _ hL'
    simp only [show (100 * m + s) % 100 = s by omega, show (100 * m + s) / 100 = m by omega] at this
    simp (disch := omega) only [zi_eq]
    refine ⟨fun b => ?_, fun b => ⟨fun c0 => ⟨fun c1 => ?_, fun c1 => ?_⟩, fun c0 => ?_⟩⟩
    · simp only [b, if_false] at this; exact this
    · simp only [if_pos b, if_neg c0, if_neg c1] at this; exact this
    · simp only [if_pos b, if_neg c0, if_pos c1] at this; exact this
    · simp only [if_pos b, if_pos c0] at this; exact this
  · rw [if_neg (by omega)] at h; exact h lw hL
