/-! rows of squares: joins, fills; steps away -/
theorem p_joinHalf {n : Nat} (hn : n < 100000 ∧ n % 2 = 0) {w : Nat → Int64} {r q : Int} (hr : 0 ≤ r ∧ 2 * r + 1 < (n : Int)) (hq : 0 ≤ q ∧ q < 2) {x : Int64} {post : (Nat → Int64) → Prop} (h : post (vp_updL w (2 * r + q).toNat (w (2 * r + q).toNat ||| x))) : wp_X5_joinHalf n w (zi r) (zi q) x post := by
  simp only [wp_X5_joinHalf]
  refine p_holds hn (by omega) (fun _ => ⟨fun z => absurd z (by decide), fun _ => ?_⟩) (fun z => absurd hr z)
  simp (disch := omega) only [forall_eq, zi_lit, zi_mul, zi_add, zi_lt, zi_le, zi_in, zi_cl]
  exact ⟨fun z => by omega, fun _ => ⟨fun z => by omega, fun _ => ⟨by omega, by omega, h⟩⟩⟩
theorem hb_half {w : Nat → Int64} {r q r' s' : Int} (hr : 0 ≤ r) (hq : 0 ≤ q ∧ q < 2) (hr' : 0 ≤ r') (hs' : 0 ≤ s' ∧ s' < 128) (x : Int64) : hb (vp_updL w (2 * r + q).toNat (w (2 * r + q).toNat ||| x)) r' s' = (hb w r' s' || (decide (r' = r ∧ s' / 64 = q) && lb x (s' % 64).toNat)) := by
  simp only [hb]
  by_cases he : (2 * r' + s' / 64).toNat = (2 * r + q).toNat
  · rw [he, pk_uLs, lb_or, decide_eq_true (show r' = r ∧ s' / 64 = q by omega), Bool.true_and]
  · rw [pk_uLn he, decide_eq_false (show ¬ (r' = r ∧ s' / 64 = q) by omega), Bool.false_and, Bool.or_false]
/-- two rows of other words are joined to a row -/
theorem p_join {n n2 : Nat} (hn : n < 100000 ∧ n % 2 = 0) (hn2 : n2 < 100000 ∧ n2 % 2 = 0) {a w : Nat → Int64} {r r2 : Int} (hr : 0 ≤ r ∧ 2 * r + 1 < (n : Int)) (hr2 : -1000000 ≤ r2 ∧ r2 < 1000000) {post : (Nat → Int64) → Prop} (h : ∀ w' : Nat → Int64, (∀ r' s', 0 ≤ r' → 0 ≤ s' → s' < 128 → hb w' r' s' = (hb w r' s' || (decide (r' = r) && (decide (0 ≤ r2 ∧ 2 * r2 + 1 < (n2 : Int)) && hb a r2 s')))) → post w') : wp_X5_join n2 n a w (zi r) (zi r2) post := by
  simp only [wp_X5_join]
  refine p_word (q := 0) hn2 hr2 (by omega) ?_
  refine p_joinHalf (q := 0) hn hr (by omega) ?_
  refine p_word (q := 1) hn2 hr2 (by omega) ?_
  refine p_joinHalf (q := 1) hn hr (by omega) ?_
  refine h _ (fun r' s' a1 a2 a3 => ?_)
  rw [hb_half hr.1 (by omega) a1 ⟨a2, a3⟩, hb_half hr.1 (by omega) a1 ⟨a2, a3⟩, Bool.or_assoc]
  congr 1
  have hw : ∀ q, 0 ≤ q ∧ q < 2 → s' / 64 = q → lb (wrd n2 a r2 q) (s' % 64).toNat = (decide (0 ≤ r2 ∧ 2 * r2 + 1 < (n2 : Int)) && hb a r2 s') := by
    intro q hq hs
    by_cases hc : 0 ≤ r2 ∧ 2 * r2 + 1 < (n2 : Int)
    · rw [lb_wrd hq hc (by omega), decide_eq_true hc, Bool.true_and]
      congr 1
      omega
    · rw [wrd, if_neg (by omega), lb_0, decide_eq_false hc, Bool.false_and]
  by_cases hrr : r' = r
  · by_cases h0 : s' / 64 = 0
    · rw [decide_eq_true (show r' = r ∧ s' / 64 = 0 from ⟨hrr, h0⟩), decide_eq_false (show ¬ (r' = r ∧ s' / 64 = 1) by omega), decide_eq_true hrr, hw 0 (by omega) h0]
      simp
    · have h1 : s' / 64 = 1 := by omega
      rw [decide_eq_false (show ¬ (r' = r ∧ s' / 64 = 0) by omega), decide_eq_true (show r' = r ∧ s' / 64 = 1 from ⟨hrr, h1⟩), decide_eq_true hrr, hw 1 (by omega) h1]
      simp
  · rw [decide_eq_false (show ¬ (r' = r ∧ s' / 64 = 0) by omega), decide_eq_false (show ¬ (r' = r ∧ s' / 64 = 1) by omega), decide_eq_false hrr]
    simp
theorem lb_full : ∀ i : Fin 64, lb 68719476735 i.val = decide (i.val < 36) := by decide +kernel
theorem p_fillRow {n : Nat} (hn : n < 100000 ∧ n % 2 = 0) {w : Nat → Int64} {r : Int} (hr : 0 ≤ r ∧ 2 * r + 1 < (n : Int)) {post : (Nat → Int64) → Prop} (h : ∀ w' : Nat → Int64, (∀ r' s', 0 ≤ r' → 0 ≤ s' → s' < 128 → hb w' r' s' = if r' = r then decide (s' < 100) else hb w r' s') → post w') : wp_X5_fillRow n w (zi r) post := by
  simp only [wp_X5_fillRow]
  refine p_holds hn (by omega) (fun _ => ⟨fun z => absurd z (by decide), fun _ => ?_⟩) (fun z => absurd hr z)
  rw [show (2 : Int32) = zi 2 from rfl, show (1 : Int32) = zi 1 from rfl]
  simp (disch := omega) only [forall_eq, zi_mul, zi_add, zi_in, zi_cl]
  refine ⟨by omega, by omega, h _ (fun r' s' a1 a2 a3 => ?_)⟩
  simp only [hb]
  by_cases hrr : r' = r
  · rw [if_pos hrr]
    by_cases h0 : s' / 64 = 0
    · rw [pk_uLn (by omega), show (2 * r' + s' / 64).toNat = (2 * r).toNat by omega, pk_uLs, lb_m1 (by omega), decide_eq_true (by omega)]
    · rw [show (2 * r' + s' / 64).toNat = (2 * r + 1).toNat by omega, pk_uLs, lb_full ⟨(s' % 64).toNat, by omega⟩, decide_eq_decide]
      show (s' % 64).toNat < 36 ↔ _
      omega
  · rw [if_neg hrr, pk_uLn (by omega), pk_uLn (by omega)]
theorem p_emptyRow {n : Nat} (hn : n < 100000 ∧ n % 2 = 0) {w : Nat → Int64} {r : Int} (hr : 0 ≤ r ∧ 2 * r + 1 < (n : Int)) {post : (Nat → Int64) → Prop} (h : ∀ w' : Nat → Int64, (∀ r' s', 0 ≤ r' → 0 ≤ s' → s' < 128 → hb w' r' s' = if r' = r then false else hb w r' s') → post w') : wp_X5_emptyRow n w (zi r) post := by
  simp only [wp_X5_emptyRow]
  refine p_holds hn (by omega) (fun _ => ⟨fun z => absurd z (by decide), fun _ => ?_⟩) (fun z => absurd hr z)
  rw [show (2 : Int32) = zi 2 from rfl, show (1 : Int32) = zi 1 from rfl]
  simp (disch := omega) only [forall_eq, zi_mul, zi_add, zi_in, zi_cl]
  refine ⟨by omega, by omega, h _ (fun r' s' a1 a2 a3 => ?_)⟩
  simp only [hb]
  by_cases hrr : r' = r
  · rw [if_pos hrr]
    by_cases h0 : s' / 64 = 0
    · rw [pk_uLn (by omega), show (2 * r' + s' / 64).toNat = (2 * r).toNat by omega, pk_uLs, lb_0]
    · rw [show (2 * r' + s' / 64).toNat = (2 * r + 1).toNat by omega, pk_uLs, lb_0]
  · rw [if_neg hrr, pk_uLn (by omega), pk_uLn (by omega)]
theorem hb_empty {n : Nat} {w : Nat → Int64} {r s : Int} (hr : 0 ≤ r ∧ 2 * r + 1 < (n : Int)) (hs : 0 ≤ s ∧ s < 128) : hb (fun k => if k < n then 0 else w k) r s = false := by
  rw [hb, if_pos (by omega), lb_0]
/-- so many steps away in one of the eight directions -/
def awy (s t k : Int) : Int := if (0 ≤ s % 10 + dxF t * k ∧ s % 10 + dxF t * k ≤ 9) ∧ (0 ≤ s / 10 + dyF t * k ∧ s / 10 + dyF t * k ≤ 9) then 10 * (s / 10 + dyF t * k) + (s % 10 + dxF t * k) else -1
theorem east_z {t : Int} (ht : 0 ≤ t ∧ t < 8) : eastF (Int32.toNatClampNeg (zi t)) = zi (dxF t) ∧ southF (Int32.toNatClampNeg (zi t)) = zi (dyF t) := by
  have : t = 0 ∨ t = 1 ∨ t = 2 ∨ t = 3 ∨ t = 4 ∨ t = 5 ∨ t = 6 ∨ t = 7 := by omega
  rcases this with rfl | rfl | rfl | rfl | rfl | rfl | rfl | rfl <;> decide
theorem dxy_rng (t : Int) : (dxF t = -1 ∨ dxF t = 0 ∨ dxF t = 1) ∧ (dyF t = -1 ∨ dyF t = 0 ∨ dyF t = 1) := by
  constructor
  · simp only [dxF]; split; omega; split <;> omega
  · simp only [dyF]; split; omega; split <;> omega
theorem mul1 {d k : Int} (hd : d = -1 ∨ d = 0 ∨ d = 1) (hk : 0 ≤ k ∧ k < 100) : -100 < d * k ∧ d * k < 100 := by
  rcases hd with rfl | rfl | rfl <;> omega
theorem awy_rng {s t k : Int} (hs : 0 ≤ s ∧ s < 100) : awy s t k = -1 ∨ (0 ≤ awy s t k ∧ awy s t k < 100) := by
  rw [awy]; split <;> omega
theorem p_away {s t k : Int} (hs : 0 ≤ s ∧ s < 100) (ht : 0 ≤ t ∧ t < 8) (hk : 0 ≤ k ∧ k < 100) {post : Int32 → Prop} (h : post (zi (awy s t k))) : wp_X11_away (zi s) (zi t) (zi k) post := by
  simp only [wp_X11_away]
  refine p_isSquare (by omega) (fun _ => ⟨fun z => absurd z (by decide), fun _ => ?_⟩) (fun z => absurd hs z)
  obtain ⟨e1, e2⟩ := east_z ht
  obtain ⟨d1, d2⟩ := dxy_rng t
  have m1 := mul1 d1 hk
  have m2 := mul1 d2 hk
  simp only [e1, e2]
  rw [awy] at h
  simp (disch := omega) only [forall_eq, zi_lit, zi_neg, zi_mul, zi_rem, zi_div, zi_add, zi_lt, zi_le, zi_in]
  generalize s % 10 + dxF t * k = x at *
  generalize s / 10 + dyF t * k = y at *
  refine ⟨fun z => by omega, fun _ => ⟨fun _ => ⟨by omega, by omega, fun z => ?_, fun z => ⟨fun u => ?_, fun u => ⟨fun v => ?_, fun v => ⟨fun w => ?_, fun w => ?_⟩⟩⟩⟩, fun z => by omega⟩⟩
  · rw [if_neg (by omega)] at h; exact h
  · rw [if_neg (by omega)] at h; exact h
  · rw [if_neg (by omega)] at h; exact h
  · rw [if_pos (by omega), show 10 * y + x = y * 10 + x by omega] at h; exact h
  · rw [if_neg (by omega)] at h; exact h
theorem awy_stp {s w : Int} (hw : 0 ≤ w ∧ w < 4) : awy s (2 * w) 1 = stp s w := by
  have hx : dxF (2 * w) * 1 = if w = 1 then 1 else if w = 3 then -1 else 0 := by
    simp only [dxF]
    repeat' split
    all_goals omega
  have hy : dyF (2 * w) * 1 = if w = 2 then 1 else if w = 0 then -1 else 0 := by
    simp only [dyF]
    repeat' split
    all_goals omega
  simp only [awy, stp, hx, hy]
  generalize s % 10 + (if w = 1 then 1 else if w = 3 then -1 else 0) = x
  generalize s / 10 + (if w = 2 then 1 else if w = 0 then -1 else 0) = y
  by_cases hc : 0 ≤ x ∧ x ≤ 9 ∧ 0 ≤ y ∧ y ≤ 9
  · rw [if_pos hc, if_pos (by omega)]
  · rw [if_neg hc, if_neg (by omega)]
