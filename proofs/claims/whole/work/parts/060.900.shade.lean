/-! shade: what the reference's rows say -/
def lnN (tw : Int → Int) (d m : Int) : Nat → Int
  | 0 => -1
  | n + 1 => if tw (262 + 5 * n) = d ∧ tw (263 + 5 * n) ≤ m then (n : Int) else lnN tw d m n
def lnT (tw : Int → Int) (d m : Int) : Int := lnN tw d m (tw 261).toNat
def dxF (t : Int) : Int := if 1 ≤ t ∧ t ≤ 3 then 1 else if t > 4 then -1 else 0
def dyF (t : Int) : Int := if t = 7 ∨ t < 2 then -1 else if 3 ≤ t ∧ t ≤ 5 then 1 else 0
def bhA (tw : Int → Int) (s i k : Int) : Prop := (0 ≤ s % 10 + k * dxF (tw (264 + 5 * i)) ∧ s % 10 + k * dxF (tw (264 + 5 * i)) ≤ 9) ∧ (0 ≤ s / 10 + k * dyF (tw (264 + 5 * i)) ∧ s / 10 + k * dyF (tw (264 + 5 * i)) ≤ 9) ∧ k * tw (265 + 5 * i) < tw (100 + 10 * (s / 10 + k * dyF (tw (264 + 5 * i))) + (s % 10 + k * dxF (tw (264 + 5 * i)))) * tw (266 + 5 * i)
def bhP (tw : Int → Int) (s i : Int) : Prop := ∃ k, 1 ≤ k ∧ k ≤ 9 ∧ bhA tw s i k
/-- what a line's E is worth -/
def clW (op arg : Nat → Int32) (c d m : Int) (v : Int32) : Prop := ∀ (facts pile : Nat → Int32) (post : Int32 → (Nat → Int32) → Prop), facts 0 = zi m → facts 1 = zi d → (∀ pile', post v pile') → wp_X12_worthAt op facts arg pile (zi c) post
/-- a town in the reference's rows -/
def twR (tw : Int → Int) : Prop := i32 tw ∧ (∀ s, 0 ≤ s → s < 100 → (0 ≤ tw s ∧ tw s ≤ 3) ∧ 0 ≤ tw (100 + s) ∧ tw (100 + s) ≤ 99) ∧ (0 ≤ tw 261 ∧ tw 261 ≤ 24) ∧ (∀ i, 0 ≤ i → i < tw 261 → (0 ≤ tw (262 + 5 * i) ∧ tw (262 + 5 * i) < 4) ∧ (0 ≤ tw (263 + 5 * i) ∧ tw (263 + 5 * i) < 120) ∧ (0 ≤ tw (264 + 5 * i) ∧ tw (264 + 5 * i) < 8) ∧ (1 ≤ tw (265 + 5 * i) ∧ tw (265 + 5 * i) ≤ 99) ∧ (1 ≤ tw (266 + 5 * i) ∧ tw (266 + 5 * i) ≤ 99)) ∧ (0 ≤ tw 200 ∧ tw 200 ≤ 20) ∧ (∀ i, 0 ≤ i → i < tw 200 → (0 ≤ tw (201 + 3 * i) ∧ tw (201 + 3 * i) < 100) ∧ (tw (202 + 3 * i) = 3 ∨ tw (202 + 3 * i) = 4))
def clR (tw : Int → Int) (op arg : Nat → Int32) (vf : Int → Int → Int → Int32) : Prop := ∀ i d m, 0 ≤ i → i < tw 200 → 0 ≤ d → d < 4 → 0 ≤ m → m < 120 → clW op arg (tw (203 + 3 * i)) d m (vf i d m)
def clP (tw : Int → Int) (vf : Int → Int → Int → Int32) (what d m s : Int) (n : Int) : Prop := ∃ i, 0 ≤ i ∧ i < n ∧ tw (201 + 3 * i) = s ∧ tw (202 + 3 * i) = what ∧ vf i d m ≠ 0
def dimP (tw : Int → Int) (vf : Int → Int → Int → Int32) (d m s : Int) : Prop := lnT tw d m < 0 ∨ (2 ≤ tw s ∧ tw s ≤ 3) ∨ clP tw vf 3 d m s (tw 200) ∨ bhP tw s (lnT tw d m)
theorem lnN_rng {tw : Int → Int} {d m : Int} : ∀ n : Nat, -1 ≤ lnN tw d m n ∧ lnN tw d m n < n
  | 0 => by simp [lnN]
  | n + 1 => by
    have := lnN_rng (tw := tw) (d := d) (m := m) n
    simp only [lnN]
    split <;> omega
theorem lnT_rng {tw : Int → Int} (h : twR tw) {d m : Int} : -1 ≤ lnT tw d m ∧ lnT tw d m < tw 261 := by
  have := lnN_rng (tw := tw) (d := d) (m := m) (tw 261).toNat
  have h2 := h.2.2.1
  simp only [lnT]
  omega
theorem vp_zi {a : Int} {N : Nat} (h : 0 ≤ a ∧ a < (N : Int)) (hN : N < 1000000) : vp_in (zi a) N := by rw [zi_in (by omega)]; exact h
section SH
variable {tw : Int → Int} {vf : Int → Int → Int → Int32}
theorem p_sunLine (h : twR tw) {d m : Int} (hd : 0 ≤ d ∧ d < 4) (hm : 0 ≤ m ∧ m < 120) {post : Int32 → Prop} (hp : post (zi (if lnT tw d m < 0 then -1 else 262 + 5 * lnT tw d m))) : wp_X12_sunLine (zA tw) (zi d) (zi m) post := by
  obtain ⟨hi, h1, h2, h3, h4, h5⟩ := h
  have e261 : zA tw (Int32.toNatClampNeg 261) = zi (tw 261) := zA_get (a := 261) (by omega)
  have v261 : vp_in 261 2640 := vp_zi (a := 261) (by omega) (by decide)
  simp only [wp_X12_sunLine]
  refine lp_for0 (fun i => (zi d, zi m, zi (if lnN tw d m i < 0 then -1 else 262 + 5 * lnN tw d m i), zi i)) (tw 261).toNat rfl (fun kb => ?_) (fun i hi2 kb hkb => ?_)
  · simp only [wp_X12_sunLine_L5, e261]
    rw [zi_le (by omega)]
    exact ⟨v261, fun _ => hp, fun z => by omega⟩
  · have q := h3 i (by omega) (by omega)
    have hni : ((i + 1 : Nat) : Int) = (i : Int) + 1 := by omega
    simp only [wp_X12_sunLine_L5, e261]
    rw [zi_le (by omega)]
    refine ⟨v261, fun z => by omega, fun _ => ?_⟩
    have e263 : 262 + 5 * (i : Int) + 1 = 263 + 5 * i := by omega
    simp (disch := omega) only [forall_eq, zi_lit, zi_mul, zi_add, zi_in, zA_get, zi_eq, zi_lt, e263]
    refine ⟨by omega, fun z => ?_, fun z => ⟨by omega, fun y => ?_, fun y => ?_⟩⟩
    · have e1 : lnN tw d m (i + 1) = lnN tw d m i := by simp only [lnN]; rw [if_neg (fun x => z x.1)]
      simp only [e1, hni] at hkb; exact hkb
    · have e1 : lnN tw d m (i + 1) = lnN tw d m i := by simp only [lnN]; rw [if_neg (fun x => by omega)]
      simp only [e1, hni] at hkb; exact hkb
    · have e1 : lnN tw d m (i + 1) = i := by simp only [lnN]; rw [if_pos ⟨z, by omega⟩]
      simp only [e1, hni] at hkb
      rw [if_neg (by omega)] at hkb; exact hkb
theorem p_bh71 (h : twR tw) {s i : Int} (hs : 0 ≤ s ∧ s < 100) (hi : 0 ≤ i ∧ i < tw 261) {post : Int32 → Prop} (h1 : bhP tw s i → post 1) (h0 : ¬ bhP tw s i → post 0) : ∃ n, lp (wp_X12_isBehind_L71 (fun l6 => b01 l6 ∧ (post l6)) (zA tw) post) n (zi s, zi (262 + 5 * i), zi (dyF (tw (264 + 5 * i))), zi (dxF (tw (264 + 5 * i))), 0, 1) := by
  obtain ⟨hi32, t1, t2, t3, t4, t5⟩ := h
  have q := t3 i hi.1 hi.2
  have hdx : dxF (tw (264 + 5 * i)) = -1 ∨ dxF (tw (264 + 5 * i)) = 0 ∨ dxF (tw (264 + 5 * i)) = 1 := by simp only [dxF]; split; omega; split <;> omega
  have hdy : dyF (tw (264 + 5 * i)) = -1 ∨ dyF (tw (264 + 5 * i)) = 0 ∨ dyF (tw (264 + 5 * i)) = 1 := by simp only [dyF]; split; omega; split <;> omega
  have hex : ∀ k : Int, bhA tw s i k ↔ ((0 ≤ s % 10 + k * dxF (tw (264 + 5 * i)) ∧ s % 10 + k * dxF (tw (264 + 5 * i)) ≤ 9) ∧ (0 ≤ s / 10 + k * dyF (tw (264 + 5 * i)) ∧ s / 10 + k * dyF (tw (264 + 5 * i)) ≤ 9) ∧ k * tw (265 + 5 * i) < tw (100 + 10 * (s / 10 + k * dyF (tw (264 + 5 * i))) + (s % 10 + k * dxF (tw (264 + 5 * i)))) * tw (266 + 5 * i)) := fun k => Iff.rfl
  generalize dxF (tw (264 + 5 * i)) = dx at *
  generalize dyF (tw (264 + 5 * i)) = dy at *
  refine lp_inv (fun j st => ∃ b : Bool, st = (zi s, zi (262 + 5 * i), zi dy, zi dx, zi (b2i b), zi (1 + j)) ∧ (b = true ↔ ∃ k, 1 ≤ k ∧ k < 1 + (j : Int) ∧ bhA tw s i k)) 9 ?_ ?_ 0 (Nat.zero_le _) ⟨false, rfl, ⟨fun z => absurd z (by decide), fun ⟨k, a, b, _⟩ => by omega⟩⟩
  · rintro st ⟨b, rfl, hb⟩ kb
    simp (disch := omega) only [wp_X12_isBehind_L71, zi_lit, zi_le]
    refine ⟨fun _ => ?_, fun z => absurd (by decide) z⟩
    cases hbb : b with
    | true =>
      obtain ⟨k, a, c, d⟩ := hb.mp hbb
      exact ⟨Or.inr rfl, h1 ⟨k, a, by omega, d⟩⟩
    | false =>
      refine ⟨Or.inl rfl, h0 (fun ⟨k, a, c, d⟩ => ?_)⟩
      have := hb.mpr ⟨k, a, by omega, d⟩
      rw [hbb] at this; exact absurd this (by decide)
  · rintro j hj st ⟨b, rfl, hb⟩ kb hkb
    have hni : (1 : Int) + ((j + 1 : Nat) : Int) = 1 + (j : Int) + 1 := by omega
    have hmul : ∀ d : Int, d = -1 ∨ d = 0 ∨ d = 1 → -9 ≤ (1 + (j : Int)) * d ∧ (1 + (j : Int)) * d ≤ 9 := by
      intro d hd
      rcases hd with rfl | rfl | rfl <;> omega
    have mx := hmul dx hdx
    have my := hmul dy hdy
    have hexk := hex (1 + j)
    simp (disch := omega) only [wp_X12_isBehind_L71, zi_lit, zi_le, b2i_0]
    refine ⟨fun z => by omega, fun _ => ⟨fun z => ?_, fun z => ?_⟩⟩
    · have hbt : b = true := by simpa using z
      obtain ⟨k, a, c, d⟩ := hb.mp hbt
      rw [hbt]
      exact ⟨Or.inr rfl, h1 ⟨k, a, by omega, d⟩⟩
    · have next0 : ¬ bhA tw s i (1 + j) → kb (zi s, zi (262 + 5 * i), zi dy, zi dx, zi 0, zi (1 + (j : Int) + 1)) := by
        intro nq
        refine hkb _ ⟨false, by rw [hni]; rfl, ⟨fun x => absurd x (by decide), fun ⟨k, a, c, d⟩ => ?_⟩⟩
        by_cases hk : k = 1 + j
        · subst hk; exact absurd d nq
        · have := hb.mpr ⟨k, a, by omega, d⟩
          rw [z] at this; exact this
      simp only [forall_eq, zi_mul, zi_add]
      simp (disch := omega) only [zi_rem, zi_div, zi_add]
      generalize hX : s % 10 + (1 + (j : Int)) * dx = X at *
      generalize hY : s / 10 + (1 + (j : Int)) * dy = Y at *
      refine p_within (by omega) (by omega) (by omega) (fun hx => ⟨fun y => absurd y (by decide), fun _ => ?_⟩) (fun hx => ⟨fun _ => next0 (fun a => hx (hexk.mp a).1), fun y => absurd rfl y⟩)
      refine p_within (by omega) (by omega) (by omega) (fun hy => ⟨fun y => absurd y (by decide), fun _ => ?_⟩) (fun hy => ⟨fun _ => next0 (fun a => hy (hexk.mp a).2.1), fun y => absurd rfl y⟩)
      have th := t1 (10 * Y + X) (by omega) (by omega)
      rw [show 100 + (10 * Y + X) = 100 + 10 * Y + X by omega] at th
      have p1 : 0 ≤ tw (100 + 10 * Y + X) * tw (266 + 5 * i) ∧ tw (100 + 10 * Y + X) * tw (266 + 5 * i) ≤ 99 * 99 := ⟨Int.mul_nonneg (by omega) (by omega), Int.mul_le_mul (by omega) (by omega) (by omega) (by omega)⟩
      have p2 : 0 ≤ (1 + (j : Int)) * tw (265 + 5 * i) ∧ (1 + (j : Int)) * tw (265 + 5 * i) ≤ 9 * 99 := ⟨Int.mul_nonneg (by omega) (by omega), Int.mul_le_mul (by omega) (by omega) (by omega) (by omega)⟩
      simp (disch := omega) only [zi_mul, zi_add, zi_in, zA_get]
      rw [show 262 + 5 * i + 4 = 266 + 5 * i by omega, show 262 + 5 * i + 3 = 265 + 5 * i by omega]
      rw [zi_le (by omega)]
      refine ⟨by omega, by omega, by omega, fun w => next0 (fun a => ?_), fun w => ?_⟩
      · have := (hexk.mp a).2.2; omega
      · exact hkb _ ⟨true, by rw [hni]; rfl, ⟨fun _ => ⟨1 + j, by omega, by omega, hexk.mpr ⟨hx, hy, by omega⟩⟩, fun _ => rfl⟩⟩
theorem p_isBehind (h : twR tw) {s i : Int} (hs : 0 ≤ s ∧ s < 100) (hi : 0 ≤ i ∧ i < tw 261) {post : Int32 → Prop} (h1 : bhP tw s i → post 1) (h0 : ¬ bhP tw s i → post 0) : wp_X12_isBehind (zA tw) (zi s) (zi (262 + 5 * i)) post := by
  have main := p_bh71 h hs hi h1 h0
  obtain ⟨hi32, t1, t2, t3, t4, t5⟩ := h
  have q := t3 i hi.1 hi.2
  have e2 : 262 + 5 * i + 2 = 264 + 5 * i := by omega
  simp (disch := omega) only [wp_X12_isBehind, forall_eq, zi_lit, zi_add, zi_in, zA_get, e2]
  generalize hT : tw (264 + 5 * i) = t at *
  have b38 : ∀ y : Int, dyF t = y → wp_X12_isBehind_b38 (zA tw) post (zi s) (zi (262 + 5 * i)) (zi t) (zi y) := by
    intro y hy
    rw [hy] at main
    simp only [wp_X12_isBehind_b38, zi_lit]
    refine p_within (by omega) (by omega) (by omega) (fun a => ⟨fun z => absurd z (by decide), fun _ => ?_⟩) (fun a => ⟨fun _ => ?_, fun z => absurd rfl z⟩)
    · rw [dxF, if_pos a] at main; exact main
    · rw [dxF, if_neg a] at main
      rw [zi_le (by omega)]
      refine ⟨fun z => ?_, fun z => ?_⟩
      · rw [if_neg (by omega)] at main; exact main
      · rw [if_pos (by omega)] at main; exact main
  refine ⟨by omega, ?_⟩
  simp (disch := omega) only [zi_eq, zi_le, wp_X12_isBehind_b20, zi_lit, zi_neg]
  refine ⟨fun z => b38 (-1) (by rw [dyF, if_pos (Or.inl z)]), fun z => ⟨fun y => ?_, fun y => b38 (-1) (by rw [dyF, if_pos (Or.inr (by omega))])⟩⟩
  refine p_within (by omega) (by omega) (by omega) (fun a => ⟨fun x => absurd x (by decide), fun _ => b38 1 (by rw [dyF, if_neg (by omega), if_pos a])⟩) (fun a => ⟨fun _ => b38 0 (by rw [dyF, if_neg (by omega), if_neg a]), fun x => absurd rfl x⟩)
end SH
