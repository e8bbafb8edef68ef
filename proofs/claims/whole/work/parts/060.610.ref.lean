/-! the reference's small methods -/
def inB2 (v a b : Int) : Prop := a ≤ v ∧ v ≤ b
theorem p_within {v a b : Int} (hv : -2147483648 ≤ v ∧ v < 2147483648) (ha : -2147483648 ≤ a ∧ a < 2147483648) (hb : -2147483648 ≤ b ∧ b < 2147483648) {post : Int32 → Prop} (h1 : a ≤ v ∧ v ≤ b → post 1) (h0 : ¬ (a ≤ v ∧ v ≤ b) → post 0) : wp_X12_within (zi v) (zi a) (zi b) post := by
  simp (disch := omega) only [wp_X12_within, zi_lit, zi_add, zi_sub, zi_mul, zi_neg, zi_lt, zi_le, zi_eq, zi_div, zi_rem, zi_in, zA_get, zA_upd]
  refine ⟨fun h => h0 (by omega), fun h => ⟨fun h2 => h0 (by omega), fun h2 => h1 (by omega)⟩⟩
/-- a step -/
def stp (s w : Int) : Int :=
  let x := s % 10 + (if w = 1 then 1 else if w = 3 then -1 else 0)
  let y := s / 10 + (if w = 2 then 1 else if w = 0 then -1 else 0)
  if 0 ≤ x ∧ x ≤ 9 ∧ 0 ≤ y ∧ y ≤ 9 then 10 * y + x else -1
theorem stp_rng {s w : Int} (hs : 0 ≤ s ∧ s < 100) : stp s w = -1 ∨ (0 ≤ stp s w ∧ stp s w < 100) := by
  simp only [stp]
  split <;> omega
theorem p_stepTo_b47 {x y d : Int} (hx : -100 ≤ x ∧ x < 100) (hy : -100 ≤ y ∧ y < 100) (hd : -100 ≤ d ∧ d < 100) {post : Int32 → Prop} (h : post (zi (if 0 ≤ x ∧ x ≤ 9 ∧ 0 ≤ y + d ∧ y + d ≤ 9 then 10 * (y + d) + x else -1))) : wp_X12_stepTo_b47 post (zi x) (zi d) (zi y) := by
  simp only [wp_X12_stepTo_b47, forall_eq, zi_lit, zi_add]
  refine p_within (by omega) (by omega) (by omega) (fun h1 => ⟨fun h2 => ?_, fun h2 => ?_⟩) (fun h1 => ⟨fun h2 => ?_, fun h2 => ?_⟩)
  · exact absurd h2 (by decide)
  · refine p_within (by omega) (by omega) (by omega) (fun h3 => ⟨fun h4 => ?_, fun h4 => ?_⟩) (fun h3 => ⟨fun h4 => ?_, fun h4 => ?_⟩)
    · exact absurd h4 (by decide)
    · rw [if_pos (by omega)] at h
      simp only [zi_lit, zi_mul, zi_add]
      exact h
    · rw [if_neg (by omega)] at h
      exact h
    · exact absurd rfl h4
  · rw [if_neg (by omega)] at h
    exact h
  · exact absurd rfl h2
theorem p_stepTo {s w : Int} (hs : 0 ≤ s ∧ s < 100) (hw : 0 ≤ w ∧ w < 100) {post : Int32 → Prop} (h : post (zi (stp s w))) : wp_X12_stepTo (zi s) (zi w) post := by
  simp (disch := omega) only [wp_X12_stepTo, wp_X12_stepTo_b23, forall_eq, zi_lit, zi_add, zi_sub, zi_mul, zi_neg, zi_lt, zi_le, zi_eq, zi_div, zi_rem, zi_in, zA_get, zA_upd]
  simp only [stp] at h
  refine ⟨fun h1 => ⟨fun h3 => ⟨fun h2 => ⟨fun h0 => ?_, fun h0 => ?_⟩, fun h2 => ?_⟩, fun h3 => ⟨fun h2 => ⟨fun h0 => ?_, fun h0 => ?_⟩, fun h2 => ?_⟩⟩, fun h1 => ⟨fun h2 => ⟨fun h0 => ?_, fun h0 => ?_⟩, fun h2 => ?_⟩⟩ <;>
  (first | (exfalso; omega) | (refine p_stepTo_b47 (by omega) (by omega) (by omega) ?_; simp only [*, if_true, if_false] at h; exact h))
def plen (w p : Int) : Int := if w = 4 then 1 else p
/-- where a piece leads: a node 100 * minute + square, or -1 -/
def bhd (tw sh : Int → Int) (p m s w : Int) : Int :=
  let t := m + plen w p
  let r := if w = 4 then s else stp s w
  if t > 119 ∨ r = -1 ∨ tw r = 1 ∨ (w ≠ 4 ∧ sh (100 * t + r) ≠ 0) then -1 else 100 * t + r
theorem p_behind {tw sh : Int → Int} {p m s w : Int} (htw : ∀ k, -2147483648 ≤ tw k ∧ tw k < 2147483648) (hsh : ∀ k, -2147483648 ≤ sh k ∧ sh k < 2147483648) (hp : 1 ≤ p ∧ p ≤ 3) (hm : 0 ≤ m ∧ m < 120) (hs : 0 ≤ s ∧ s < 100) (hw : 0 ≤ w ∧ w < 100) {post : Int32 → Prop} (h : post (zi (bhd tw sh p m s w))) : wp_X12_behind (zA tw) (zA sh) (zi m) (zi s) (zi w) (zi p) post := by
  have hb29 : ∀ r : Int, r = (if w = 4 then s else stp s w) → wp_X12_behind_b29 (zA tw) (zA sh) post (zi w) (zi (m + plen w p)) (zi r) := by
    intro r hr
    have hr2 : r = -1 ∨ (0 ≤ r ∧ r < 100) := by
      rw [hr]; split
      · exact Or.inr hs
      · exact stp_rng hs
    have hl : 1 ≤ plen w p ∧ plen w p ≤ 3 := by simp only [plen]; split <;> omega
    have ht := htw r
    simp only [bhd, ← hr] at h
    generalize plen w p = l at *
    simp (disch := omega) only [wp_X12_behind_b29, forall_eq, zi_lit, zi_add, zi_sub, zi_mul, zi_neg, zi_lt, zi_le, zi_eq, zi_div, zi_rem, zi_in, zA_get, zA_upd]
    refine ⟨fun h1 => ?_, fun h1 => ⟨fun h2 => ?_, fun h2 => ⟨by omega, ?_⟩⟩⟩
    · rw [if_pos (by omega)] at h; exact h
    · rw [if_pos (by omega)] at h; exact h
    · simp (disch := omega) only [zi_lit, zi_add, zi_sub, zi_mul, zi_neg, zi_lt, zi_le, zi_eq, zi_div, zi_rem, zi_in, zA_get, zA_upd]
      refine ⟨fun h3 => ?_, fun h3 => ⟨fun h4 => ?_, fun h4 => ⟨by omega, ?_⟩⟩⟩
      · rw [if_pos (by omega)] at h; exact h
      · rw [if_neg (by omega)] at h; exact h
      · have hs2 := hsh (100 * (m + l) + r)
        simp (disch := omega) only [zi_lit, zi_add, zi_sub, zi_mul, zi_neg, zi_lt, zi_le, zi_eq, zi_div, zi_rem, zi_in, zA_get, zA_upd]
        refine ⟨fun h5 => ?_, fun h5 => ?_⟩
        · rw [if_neg (by omega)] at h; exact h
        · rw [if_pos (by omega)] at h; exact h
  simp (disch := omega) only [wp_X12_behind, wp_X12_behind_b12, forall_eq, zi_lit, zi_add, zi_sub, zi_mul, zi_neg, zi_lt, zi_le, zi_eq, zi_div, zi_rem, zi_in, zA_get, zA_upd]
  refine ⟨fun h1 => ⟨fun h2 => ?_, fun h2 => ?_⟩, fun h1 => ⟨fun h2 => ?_, fun h2 => ?_⟩⟩
  · refine p_stepTo hs hw ?_
    have := hb29 (stp s w) (by rw [if_neg h1])
    simpa only [plen, if_neg h1] using this
  · omega
  · omega
  · have := hb29 s (by rw [if_pos h1])
    simpa only [plen, if_pos h1] using this
theorem bhd_rng {tw sh : Int → Int} {p m s w : Int} (hp : 1 ≤ p ∧ p ≤ 3) (hm : 0 ≤ m ∧ m < 120) (hs : 0 ≤ s ∧ s < 100) : bhd tw sh p m s w = -1 ∨ (0 ≤ bhd tw sh p m s w ∧ bhd tw sh p m s w < 12000 ∧ bhd tw sh p m s w / 100 = m + plen w p ∧ bhd tw sh p m s w % 100 = (if w = 4 then s else stp s w) ∧ tw (bhd tw sh p m s w % 100) ≠ 1) := by
  simp only [bhd]
  have hl : 1 ≤ plen w p ∧ plen w p ≤ 3 := by simp only [plen]; split <;> omega
  generalize plen w p = l at *
  have hr2 : (if w = 4 then s else stp s w) = -1 ∨ (0 ≤ (if w = 4 then s else stp s w) ∧ (if w = 4 then s else stp s w) < 100) := by
    split
    · exact Or.inr hs
    · exact stp_rng hs
  generalize (if w = 4 then s else stp s w) = r at *
  split
  · exact Or.inl rfl
  · next h =>
    have e1 : (100 * (m + l) + r) / 100 = m + l := by omega
    have e2 : (100 * (m + l) + r) % 100 = r := by omega
    rw [e1, e2]
    refine Or.inr ⟨by omega, by omega, rfl, rfl, ?_⟩
    intro h2
    exact h (Or.inr (Or.inr (Or.inl h2)))
/-- what some minutes on a square cost -/
def csm (c : Int → Int) (m s : Int) : Nat → Int
  | 0 => 0
  | n + 1 => csm c m s n + c (100 * (m + n) + s)
def cst (c : Int → Int) (p m s w : Int) : Int := csm c m s (plen w p).toNat
def cB (c : Int → Int) : Prop := ∀ k, 0 ≤ k → k < 12000 → 0 ≤ c k ∧ c k ≤ 1000
theorem csm_rng {c : Int → Int} {m s : Int} (hc : cB c) (hm : 0 ≤ m) (hs : 0 ≤ s ∧ s < 100) : ∀ n : Nat, m + n ≤ 120 → 0 ≤ csm c m s n ∧ csm c m s n ≤ 1000 * n
  | 0, _ => by simp [csm]
  | n + 1, hn => by
    have h := csm_rng hc hm hs n (by omega)
    have h2 := hc (100 * (m + n) + s) (by omega) (by omega)
    simp only [csm]
    omega
theorem p_costOf {c : Int → Int} {p m s w : Int} (hc : cB c) (hp : 1 ≤ p ∧ p ≤ 3) (hm : 0 ≤ m ∧ m + plen w p ≤ 120) (hs : 0 ≤ s ∧ s < 100) (hw : 0 ≤ w ∧ w < 100) {post : Int32 → Prop} (h : post (zi (cst c p m s w))) : wp_X12_costOf (zA c) (zi m) (zi s) (zi w) (zi p) post := by
  have hl : 1 ≤ plen w p ∧ plen w p ≤ 3 := by simp only [plen]; split <;> omega
  have hlw : (w = 4 → plen w p = 1) ∧ (¬ w = 4 → plen w p = p) := by simp only [plen]; split <;> simp [*]
  simp only [cst] at h
  simp only [wp_X12_costOf]
  generalize hlg : plen w p = l at *
  refine lp_for0 (fun i => (zi m, zi s, zi w, zi p, zi (csm c m s i), zi (m + i))) l.toNat ?_ (fun k => ?_) (fun i hi k hk => ?_)
  · simp [csm, zi_lit]
  · simp (disch := omega) only [wp_X12_costOf_L6, wp_X12_costOf_b20, forall_eq, zi_lit, zi_add, zi_sub, zi_mul, zi_neg, zi_lt, zi_le, zi_eq, zi_div, zi_rem, zi_in, zA_get, zA_upd]
    refine ⟨fun h1 => ⟨fun h2 => h, fun h2 => by omega⟩, fun h1 => ⟨fun h2 => h, fun h2 => by omega⟩⟩
  · have hr := csm_rng hc hm.1 hs i (by omega)
    have hc1 := hc (100 * (m + i) + s) (by omega) (by omega)
    simp (disch := omega) only [wp_X12_costOf_L6, wp_X12_costOf_b20, forall_eq, zi_lit, zi_add, zi_sub, zi_mul, zi_neg, zi_lt, zi_le, zi_eq, zi_div, zi_rem, zi_in, zA_get, zA_upd]
    have hk2 : k (zi m, zi s, zi w, zi p, zi (csm c m s i + c (100 * (m + i) + s)), zi (m + i + 1)) := by
      have e : m + ((i + 1 : Nat) : Int) = m + i + 1 := by omega
      simpa only [csm, e] using hk
    refine ⟨fun h1 => ⟨fun h2 => by omega, fun h2 => ⟨by omega, ?_⟩⟩, fun h1 => ⟨fun h2 => by omega, fun h2 => ⟨by omega, ?_⟩⟩⟩
    · exact hk2
    · exact hk2
