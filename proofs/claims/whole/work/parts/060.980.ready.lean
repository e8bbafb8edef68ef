/-! trips: what both sides look at first -/
def tripP (tw : Int → Int) (wk d m fr to : Int) : Prop := ((0 ≤ wk ∧ wk < 6) ∧ 0 < tw (382 + 7 * wk)) ∧ (0 ≤ d ∧ d < 4) ∧ (0 ≤ m ∧ m < 120) ∧ ((0 ≤ fr ∧ fr < 100) ∧ tw fr ≠ 1) ∧ ((0 ≤ to ∧ to < 100) ∧ tw to ≠ 1)
def wkOk (tw : Int → Int) : Prop := ∀ wk, 0 ≤ wk → wk < 6 → 0 < tw (382 + 7 * wk) → (1 ≤ tw (383 + 7 * wk) ∧ tw (383 + 7 * wk) ≤ 3) ∧ (1 ≤ tw (384 + 7 * wk) ∧ tw (384 + 7 * wk) ≤ 99) ∧ (1 ≤ tw (385 + 7 * wk) ∧ tw (385 + 7 * wk) ≤ 99) ∧ (0 ≤ tw (386 + 7 * wk) ∧ tw (386 + 7 * wk) ≤ 9999) ∧ (0 ≤ tw (387 + 7 * wk) ∧ tw (387 + 7 * wk) ≤ 99) ∧ (0 ≤ tw (388 + 7 * wk) ∧ tw (388 + 7 * wk) ≤ 99)
def ir (a : Int) : Prop := -2147483648 ≤ a ∧ a < 2147483648
/-- the least costs and ends of a town's day -/
def rowsB (tw : Int → Int) (vf : Int → Int → Int → Int32) (d p to bym : Int) (lc le : Int → Int) : Prop := ∀ k, 0 ≤ k → k < 12000 → tw (k % 100) ≠ 1 → Bst (nxT tw (shC tw vf d) p) (csT (snC tw vf d) p) 5 to bym k (lc k) (le k)
section RF
variable {tw : Int → Int} {vf : Int → Int → Int → Int32} {op arg : Nat → Int32}
theorem p_isDayR {d : Int} (hd : ir d) {post : Int32 → Prop} (h1 : 0 ≤ d ∧ d < 4 → post 1) (h0 : ¬ (0 ≤ d ∧ d < 4) → post 0) : wp_X12_isDay (zi d) post := by
  simp only [wp_X12_isDay, zi_lit]
  exact p_within hd (by omega) (by omega) (fun a => ⟨Or.inr rfl, h1 (by omega)⟩) (fun a => ⟨Or.inl rfl, h0 (by omega)⟩)
theorem p_isMinuteR {d : Int} (hd : ir d) {post : Int32 → Prop} (h1 : 0 ≤ d ∧ d < 120 → post 1) (h0 : ¬ (0 ≤ d ∧ d < 120) → post 0) : wp_X12_isMinute (zi d) post := by
  simp only [wp_X12_isMinute, zi_lit]
  exact p_within hd (by omega) (by omega) (fun a => ⟨Or.inr rfl, h1 (by omega)⟩) (fun a => ⟨Or.inl rfl, h0 (by omega)⟩)
theorem p_isSquareR {d : Int} (hd : ir d) {post : Int32 → Prop} (h1 : 0 ≤ d ∧ d < 100 → post 1) (h0 : ¬ (0 ≤ d ∧ d < 100) → post 0) : wp_X12_isSquare (zi d) post := by
  simp only [wp_X12_isSquare, zi_lit]
  exact p_within hd (by omega) (by omega) (fun a => ⟨Or.inr rfl, h1 (by omega)⟩) (fun a => ⟨Or.inl rfl, h0 (by omega)⟩)
theorem p_isPlaceR (hi : i32 tw) {s : Int} (hs : ir s) {post : Int32 → Prop} (h1 : (0 ≤ s ∧ s < 100) ∧ tw s ≠ 1 → post 1) (h0 : ¬ ((0 ≤ s ∧ s < 100) ∧ tw s ≠ 1) → post 0) : wp_X12_isPlace (zA tw) (zi s) post := by
  simp only [wp_X12_isPlace]
  refine p_isSquareR hs (fun a => ⟨fun z => absurd z (by decide), fun _ => ?_⟩) (fun a => ⟨fun _ => h0 (fun z => a z.1), fun z => absurd rfl z⟩)
  have := hi s
  simp (disch := omega) only [zi_lit, zi_in, zA_get, zi_eq]
  exact ⟨by omega, fun z => h0 (fun y => y.2 z), fun z => h1 ⟨a, z⟩⟩
theorem p_isWalkerR (hi : i32 tw) {w : Int} (hw : ir w) {post : Int32 → Prop} (h1 : (0 ≤ w ∧ w < 6) ∧ 0 < tw (382 + 7 * w) → post 1) (h0 : ¬ ((0 ≤ w ∧ w < 6) ∧ 0 < tw (382 + 7 * w)) → post 0) : wp_X12_isWalker (zA tw) (zi w) post := by
  simp only [wp_X12_isWalker, zi_lit]
  refine p_within hw (by omega) (by omega) (fun a => ⟨fun z => absurd z (by decide), fun _ => ?_⟩) (fun a => ⟨fun _ => h0 (fun z => a (by omega)), fun z => absurd rfl z⟩)
  have := hi (382 + 7 * w)
  simp (disch := omega) only [forall_eq, zi_mul, zi_add, zi_in, zA_get, zi_le]
  exact ⟨by omega, fun z => h0 (fun y => by omega), fun z => h1 ⟨by omega, by omega⟩⟩
theorem p_isTrip (hi : i32 tw) {wk d m fr to : Int} (a1 : ir wk) (a2 : ir d) (a3 : ir m) (a4 : ir fr) (a5 : ir to) {post : Int32 → Prop} (h1 : tripP tw wk d m fr to → post 1) (h0 : ¬ tripP tw wk d m fr to → post 0) : wp_X12_isTrip (zA tw) (zi wk) (zi d) (zi m) (zi fr) (zi to) post := by
  simp only [wp_X12_isTrip]
  refine p_isWalkerR hi a1 (fun b1 => ⟨fun z => absurd z (by decide), fun _ => ?_⟩) (fun b1 => ⟨fun _ => h0 (fun t => b1 t.1), fun z => absurd rfl z⟩)
  refine p_isDayR a2 (fun b2 => ⟨fun z => absurd z (by decide), fun _ => ?_⟩) (fun b2 => ⟨fun _ => h0 (fun t => b2 t.2.1), fun z => absurd rfl z⟩)
  refine p_isMinuteR a3 (fun b3 => ⟨fun z => absurd z (by decide), fun _ => ?_⟩) (fun b3 => ⟨fun _ => h0 (fun t => b3 t.2.2.1), fun z => absurd rfl z⟩)
  refine p_isPlaceR hi a4 (fun b4 => ⟨fun z => absurd z (by decide), fun _ => ?_⟩) (fun b4 => ⟨fun _ => h0 (fun t => b4 t.2.2.2.1), fun z => absurd rfl z⟩)
  exact p_isPlaceR hi a5 (fun b5 => ⟨fun z => absurd z (by decide), fun _ => h1 ⟨b1, b2, b3, b4, b5⟩⟩) (fun b5 => ⟨fun _ => h0 (fun t => b5 t.2.2.2.2), fun z => absurd rfl z⟩)
theorem p_costsSun {sn c0 : Int → Int} (hs : i32 sn) (hc : i32 c0) {post : (Nat → Int32) → Prop} (h : ∀ c : Int → Int, i32 c → (∀ k, 0 ≤ k → k < 12000 → c k = sn k) → post (zA c)) : wp_X12_costsSun (zA sn) (zA c0) post := by
  simp only [wp_X12_costsSun]
  refine lp_inv (fun i st => ∃ c : Int → Int, st = (zA c, zi i) ∧ i32 c ∧ ∀ k, 0 ≤ k → k < (i : Int) → c k = sn k) 12000 ?_ ?_ 0 (Nat.zero_le _) ⟨c0, rfl, hc, fun k a b => by omega⟩
  · rintro st ⟨c, rfl, j1, j2⟩ kb
    simp (disch := omega) only [wp_X12_costsSun_L2, zi_lit, zi_le]
    exact ⟨fun _ => h c j1 j2, fun z => absurd (by decide) z⟩
  · rintro i hi st ⟨c, rfl, j1, j2⟩ kb hkb
    have hni : ((i + 1 : Nat) : Int) = (i : Int) + 1 := by omega
    have hsi := hs i
    simp (disch := omega) only [wp_X12_costsSun_L2, forall_eq, zi_lit, zi_add, zi_sub, zi_mul, zi_neg, zi_lt, zi_le, zi_eq, zi_div, zi_rem, zi_in, zA_get, zA_upd]
    refine ⟨fun z => by omega, fun _ => ⟨by omega, by omega, hkb _ ⟨upI c i (sn i), by rw [hni], i32_up j1 hsi, fun k a b => ?_⟩⟩⟩
    by_cases hk : k = i
    · subst hk; rw [upI_s]
    · rw [upI_n hk]; exact j2 k a (by omega)
/-- the reference's day: kept in order between the calls -/
def dayI (tw : Int → Int) (vf : Int → Int → Int → Int32) (sd : Int) (sy sn shA : Int → Int) : Prop := (-1 ≤ sd ∧ sd < 4) ∧ i32 sy ∧ i32 sn ∧ i32 shA ∧ (0 ≤ sd → dayR tw vf sd sn shA)
theorem p_findSun (hT : twR tw) (hW : wkOk tw) (hC : clR tw op arg vf) {sd : Int} {sy sn shA c0 : Int → Int} (hD : dayI tw vf sd sy sn shA) (hc0 : i32 c0) {wk d m fr to : Int} (ht : tripP tw wk d m fr to) {facts pile t1 t2 : Nat → Int32} {post : Int32 → (Nat → Int32) → (Nat → Int32) → (Nat → Int32) → (Nat → Int32) → (Nat → Int32) → (Nat → Int32) → (Nat → Int32) → (Nat → Int32) → Prop}
    (h : ∀ (sy' sn' shA' c lc le : Int → Int) (f p : Nat → Int32), dayI tw vf d sy' sn' shA' → i32 c → (∀ k, 0 ≤ k → k < 12000 → c k = snC tw vf d k ∧ shA' k = shC tw vf d k) → i32 lc → i32 le → (∀ k, 0 ≤ k → k < 12000 → tw (k % 100) ≠ 1 → Bst (nxT tw shA' (tw (383 + 7 * wk))) (csT c (tw (383 + 7 * wk))) 5 to 119 k (lc k) (le k)) → post (zi d) (zA sy') (zA sn') (zA shA') f p (zA c) (zA lc) (zA le)) :
    wp_X12_findSun (zA tw) op arg (zi sd) (zA sy) (zA sn) (zA shA) facts pile (zA c0) t1 t2 (zi wk) (zi d) (zi to) post := by
  obtain ⟨⟨h1, h1'⟩, h2, h3, h4, h5⟩ := ht
  have w := hW wk h1.1 h1.2 h1'
  simp only [wp_X12_findSun]
  refine p_laysDay hT hC h2 hD.1 hD.2.2.1 hD.2.2.2.1 hD.2.2.2.2 hD.2.1 (fun sy' sn' shA' f p i1 i2 dr => ?_)
  obtain ⟨syf, rfl, i3⟩ := zA_ex sy'
  refine p_costsSun i1 hc0 (fun c hc hcs => ?_)
  refine p_walkerOf (i := 0) h1 (by omega) ?_
  rw [show 383 + 7 * wk + 0 = 383 + 7 * wk by omega]
  have hcs2 : ∀ k, 0 ≤ k → k < 12000 → c k = snC tw vf d k ∧ shA' k = shC tw vf d k := fun k a b => ⟨by rw [hcs k a b]; exact (dayR_C dr a b).1, (dayR_C dr a b).2⟩
  have hcB : cB c := fun k a b => by rw [(hcs2 k a b).1]; exact snC_cB tw vf d k a b
  refine p_findLeast (wt := 1) (bym := 119) (nw := 5) w.1 h5.1 (by omega) hT.1 i2 hcB (Or.inr rfl) (by decide) (fun lc le j1 j2 _ jB => ?_)
  exact h syf sn' shA' c lc le f p ⟨by omega, i3, i1, i2, fun _ => dr⟩ hc hcs2 j1 j2 jB
end RF
section RC
variable {tw kd hg : Int → Int} {vf : Int → Int → Int → Int32} {pl : Pool}
def wkR2 (pl : Pool) (tw : Int → Int) (wks : Nat → Option Nat) : Prop := ∀ wk, 0 ≤ wk → wk < 6 → (¬ 0 < tw (382 + 7 * wk) → wks wk.toNat = none) ∧ (0 < tw (382 + 7 * wk) → ∃ q, wks wk.toNat = some q ∧ (q, ob 10 [.int (zi (tw (383 + 7 * wk))), .int (zi (tw (384 + 7 * wk))), .int (zi (tw (385 + 7 * wk))), .int (zi (tw (386 + 7 * wk))), .int (zi (tw (387 + 7 * wk))), .int (zi (tw (388 + 7 * wk)))]) ∈ pl)
theorem p_copyW {n n2 : Nat} (hn : n < 100000 ∧ n % 2 = 0) (hn2 : n2 < 100000) {a w : Nat → Int64} {r : Int} (hr : 0 ≤ r ∧ 2 * r + (n : Int) ≤ (n2 : Int)) (h0 : 0 < n) {post : (Nat → Int64) → Prop} (h : post (va_cpy a w (2 * r).toNat 0 n)) : wp_X5_copy n n2 a w (zi r) post := by
  simp only [wp_X5_copy, forall_eq, nI_zi, zi_lit, zi_mul, zi_sub]
  have e : (if zi ((n2 : Int) - 2 * r) < zi n then zi ((n2 : Int) - 2 * r) else zi n) = zi n := by
    by_cases q : (n2 : Int) - 2 * r < n
    · omega
    · rw [if_neg (by rw [zi_lt (by omega)]; exact q)]
  rw [e]
  have z0 : Int32.toNatClampNeg (zi 0) = 0 := by decide
  simp (disch := omega) only [zi_lt, zi_le, zi_cl, z0, Int.toNat_natCast]
  refine ⟨fun z => by omega, fun _ => ⟨fun z => by omega, fun _ => ⟨⟨by omega, by omega, by omega, by omega, by omega⟩, h⟩⟩⟩
/-- the shade of a day, taken -/
def dwR (shw dw : Nat → Int64) (d : Int) : Prop := ∀ m s, 0 ≤ m → m < 120 → 0 ≤ s → s < 128 → hb dw m s = hb shw (120 * d + m) s
theorem p_takeShade {shw dw0 : Nat → Int64} {d : Int} (hd : 0 ≤ d ∧ d < 4) {post : (Nat → Int64) → Prop} (h : ∀ dw, dwR shw dw d → post dw) : wp_X9_takeShade (zi d) shw dw0 post := by
  simp only [wp_X9_takeShade]
  rw [show (0 : Int32) = zi 0 from rfl]
  refine p_row ?_
  refine p_copyW (by decide) (by decide) (by omega) (by decide) (h _ (fun m s a b c e => ?_))
  simp only [hb]
  rw [pk_cpy_in (by omega) (by omega)]
  congr 2
  omega
theorem p_ready (hT : twR tw) (hK : kdR tw kd hg) {wks : Nat → Option Nat} (hW : wkR2 pl tw wks) {shw : Nat → Int64} {wk d m fr to : Int} (a1 : ir wk) (a2 : ir d) (a3 : ir m) (a4 : ir fr) (a5 : ir to) {o1 : Nat} {o2 o3 o4 o5 o6 o7 o8 o9 : Int32} {dw0 : Nat → Int64} {post : Int32 → Nat → Int32 → Int32 → Int32 → Int32 → Int32 → Int32 → Int32 → Int32 → (Nat → Int64) → Prop}
    (h1 : tripP tw wk d m fr to → ∀ (q : Nat) (dw : Nat → Int64), (q, ob 10 [.int (zi (tw (383 + 7 * wk))), .int (zi (tw (384 + 7 * wk))), .int (zi (tw (385 + 7 * wk))), .int (zi (tw (386 + 7 * wk))), .int (zi (tw (387 + 7 * wk))), .int (zi (tw (388 + 7 * wk)))]) ∈ pl → dwR shw dw d → post 1 q (zi d) (zi m) (zi fr) (zi to) 1 0 1 0 dw)
    (h0 : ¬ tripP tw wk d m fr to → post 0 o1 o2 o3 o4 o5 o6 o7 o8 o9 dw0) : wp_X11_ready pl (zA kd) wks shw o1 o2 o3 o4 o5 o6 o7 o8 o9 dw0 (zi wk) (zi d) (zi m) (zi fr) (zi to) post := by
  have b1 := a1
  have b2 := a2
  have b3 := a3
  have b4 := a4
  have b5 := a5
  simp only [ir] at b1 b2 b3 b4 b5
  simp only [wp_X11_ready]
  rw [show (6 : Int32) = zi 6 from rfl]
  have e0 : ∀ x : Int32, (x < 0) = (x < zi 0) := fun x => rfl
  rw [e0, zi_lt (by omega), zi_le (by omega)]
  refine ⟨fun z => h0 (fun t => by have := t.1.1; omega), fun z => ⟨fun y => h0 (fun t => by have := t.1.1; omega), fun y => ?_⟩⟩
  refine p_isTime b2 b3 (fun c => ⟨fun x => absurd x (by decide), fun _ => ?_⟩) (fun c => ⟨fun _ => h0 (fun t => c ⟨t.2.1, t.2.2.1⟩), fun x => absurd rfl x⟩)
  refine p_isOpen hK b4 (fun e => ⟨fun x => absurd x (by decide), fun _ => ?_⟩) (fun e => ⟨fun _ => h0 (fun t => e t.2.2.2.1), fun x => absurd rfl x⟩)
  refine p_isOpen hK b5 (fun f => ⟨fun _ => ?_, fun x => absurd x (by decide)⟩) (fun f => ⟨fun x => absurd rfl x, fun _ => h0 (fun t => f t.2.2.2.2)⟩)
  refine ⟨vp_zi (by omega) (by decide), ?_⟩
  have w := hW wk (by omega) (by omega)
  simp only [forall_eq]
  rw [zi_cl (by omega)]
  by_cases hw : 0 < tw (382 + 7 * wk)
  · obtain ⟨q, e1, e2⟩ := w.2 hw
    rw [e1]
    refine ⟨fun x => absurd x (by simp), fun q' eq => ?_⟩
    cases eq
    refine ⟨_, _, _, _, _, _, e2, ?_⟩
    simp only [wp_X9_set]
    refine p_takeShade c.1 (fun dw hdw => ?_)
    simp only [wp_X9_aim, forall_eq]
    have em : (if (0 : Int32) < zi m then zi m else 0) = zi m := by
      by_cases qq : 0 < m
      · rw [if_pos (by rw [zi_lit, zi_lt (by omega)]; exact qq)]
      · rw [if_neg (by rw [zi_lit, zi_lt (by omega)]; exact qq), show m = 0 by omega]; rfl
    rw [em]
    exact h1 ⟨⟨by omega, hw⟩, c.1, c.2, e, f⟩ q dw e2 hdw
  · rw [w.1 hw]
    exact ⟨fun _ => h0 (fun t => hw t.1.2), fun q' eq => absurd eq (by simp)⟩
end RC
