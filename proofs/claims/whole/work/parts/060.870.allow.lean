/-! the class's allowHeat -/
def ahd (dw : Nat → Int64) (bears mends a k : Int) : Int := if a < 0 then -1 else if dkF dw k = true then (if a + mends < bears then a + mends else bears) else a - 1
def bkN (dw : Nat → Int64) (bears mends : Int) (a k : Int) : Nat → Int
  | 0 => a
  | n + 1 => bkN dw bears mends (ahd dw bears mends a (k + 100 * n)) k n
/-- the squares without a house -/
def gR (gw : Nat → Int64) (tw : Int → Int) : Prop := ∀ s, 0 ≤ s → s < 128 → hb gw 0 s = (decide (s < 100) && decide (tw s ≠ 1))
def hq (nx : Int → Int → Int) (val : Int → Int → Int → Int) (to lim : Int) : List Int → Int → Int → Int → Int → Prop
  | [], k, h, k', h' => k = k' ∧ h = h'
  | w :: ws, k, h, k', h' => k % 100 ≠ to ∧ 0 ≤ w ∧ w < 5 ∧ 0 ≤ nx k w ∧ val k w h ≤ lim ∧ hq nx val to lim ws (nx k w) (val k w h) k' h'
section AH
variable {eb : Bool} {day to hot cool wt aims : Int} {dw : Nat → Int64} {ex nt tw sh : Int → Int} {sl : Int} {ww sw gw lw : Nat → Int64} {p bears mends en nw lim k0 : Int}
theorem hq_app {nx : Int → Int → Int} {val : Int → Int → Int → Int} : ∀ (a b : List Int) (k h k' h' : Int), hq nx val to lim (a ++ b) k h k' h' ↔ ∃ k1 h1, hq nx val to lim a k h k1 h1 ∧ hq nx val to lim b k1 h1 k' h'
  | [], b, k, h, k', h' => ⟨fun z => ⟨k, h, ⟨rfl, rfl⟩, z⟩, fun ⟨k1, h1, ⟨e1, e2⟩, z⟩ => by subst e1; subst e2; exact z⟩
  | w :: a, b, k, h, k', h' => by
    simp only [List.cons_append, hq]
    constructor
    · rintro ⟨h1, h2, h3, h4, h5, h6⟩
      obtain ⟨k1, v1, q1, q2⟩ := (hq_app a b _ _ _ _).mp h6
      exact ⟨k1, v1, ⟨h1, h2, h3, h4, h5, q1⟩, q2⟩
    · rintro ⟨k1, v1, ⟨h1, h2, h3, h4, h5, q1⟩, q2⟩
      exact ⟨h1, h2, h3, h4, h5, (hq_app a b _ _ _ _).mpr ⟨k1, v1, q1, q2⟩⟩
theorem qv_hq {nx : Int → Int → Int} {val : Int → Int → Int → Int} : ∀ (n : Nat) (k v : Int), qv nx val 5 to k0 lim 119 n k v → ∃ ws, hq nx val to lim ws k0 0 k v
  | 0, k, v, h => ⟨[], h.1.symm, h.2.symm⟩
  | n + 1, k, v, h => by
    obtain ⟨j, u, w, hj, ht, w0, w1, hn, rfl, rfl, hl, he⟩ := h
    obtain ⟨ws, hw⟩ := qv_hq n j u hj
    exact ⟨ws ++ [w], (hq_app _ _ _ _ _ _).mpr ⟨j, u, hw, ht, w0, w1, hn, hl, rfl, rfl⟩⟩
theorem hq_qv {nx : Int → Int → Int} {val : Int → Int → Int → Int} (G : Gv nx 5 to p) (h0 : 0 ≤ k0) (h1 : k0 < 12000) : ∀ (n : Nat) (ws : List Int) (k v : Int), ws.length = n → hq nx val to lim ws k0 0 k v → qv nx val 5 to k0 lim 119 n k v ∧ 0 ≤ k ∧ k < 12000
  | 0, ws, k, v, hl, h => by
    have : ws = [] := List.length_eq_zero_iff.mp hl
    subst this
    obtain ⟨rfl, rfl⟩ := h
    exact ⟨⟨rfl, rfl⟩, h0, h1⟩
  | n + 1, ws, k, v, hl, h => by
    have hne : ws ≠ [] := by intro z; subst z; simp at hl
    obtain ⟨a, w, rfl⟩ : ∃ a w, ws = a ++ [w] := ⟨ws.dropLast, ws.getLast hne, (List.dropLast_concat_getLast hne).symm⟩
    obtain ⟨j, u, q1, q2, q3, q4, q5, q6, rfl, rfl⟩ := (hq_app _ _ _ _ _ _).mp h
    have ih := hq_qv G h0 h1 n a j u (by simpa using hl) q1
    have g := G j w ih.2.1 ih.2.2 q3 q4 q5
    exact ⟨⟨j, u, w, ih.1, q2, q3, q4, q5, rfl, rfl, q6, by omega⟩, q5, g.1⟩
theorem ahd_rng (hb : 0 ≤ bears ∧ bears ≤ 99) (hm : 0 ≤ mends ∧ mends ≤ 99) {a k : Int} (ha : -1 ≤ a ∧ a ≤ bears) : -1 ≤ ahd dw bears mends a k ∧ ahd dw bears mends a k ≤ bears := by
  simp only [ahd]
  split
  · omega
  · split
    · split <;> omega
    · omega
theorem ahd_iff (hb : 0 ≤ bears ∧ bears ≤ 99) (hm : 0 ≤ mends ∧ mends ≤ 99) {a u k : Int} (ha : -1 ≤ a ∧ a ≤ bears) (hu : 0 ≤ u ∧ (u ≤ bears ∨ u = 268435456)) : heatF bears mends dw u k ≤ a ↔ u ≤ ahd dw bears mends a k := by
  simp only [heatF, ahd]
  by_cases hn : a < 0
  · rw [if_pos hn]
    have := heatF_rng (dw := dw) (k := k) hb hm.1 hu.1
    simp only [heatF] at this
    omega
  · rw [if_neg hn]
    by_cases hd : dkF dw k = true
    · rw [if_pos hd, if_pos hd]
      by_cases q : 0 < u - mends
      · rw [if_pos q]
        by_cases r : u - mends ≤ bears
        · rw [if_pos r]; split <;> omega
        · rw [if_neg r]; split <;> omega
      · rw [if_neg q, if_pos (show (0 : Int) ≤ bears by omega)]; split <;> omega
    · rw [if_neg hd, if_neg hd]
      by_cases r : u + 1 ≤ bears
      · rw [if_pos r]; omega
      · rw [if_neg r]; omega
theorem bk_iff (hb : 0 ≤ bears ∧ bears ≤ 99) (hm : 0 ≤ mends ∧ mends ≤ 99) {h k : Int} (hh : 0 ≤ h ∧ h ≤ bears) : ∀ (n : Nat) (a : Int), -1 ≤ a ∧ a ≤ bears → ((htN bears mends dw h k n ≤ a ↔ h ≤ bkN dw bears mends a k n) ∧ -1 ≤ bkN dw bears mends a k n ∧ bkN dw bears mends a k n ≤ bears)
  | 0, a, ha => ⟨Iff.rfl, ha⟩
  | n + 1, a, ha => by
    have hr := htN_rng (dw := dw) (k := k) hb hm.1 ⟨hh.1, Or.inl hh.2⟩ n
    have r := ahd_rng (dw := dw) (k := k + 100 * (n : Int)) hb hm ha
    have ih := bk_iff (k := k) hb hm hh n (ahd dw bears mends a (k + 100 * n)) r
    simp only [htN, bkN]
    rw [ahd_iff hb hm ha hr]
    exact ih
/-- what an allowed heat says -/
def aOk (nx : Int → Int → Int) (val : Int → Int → Int → Int) (to bears : Int) (La : Int → Int) (k : Int) : Prop := (-1 ≤ La k ∧ La k ≤ bears) ∧ ∀ h, 0 ≤ h → h ≤ bears → (h ≤ La k ↔ ∃ ws k' h', hq nx val to bears ws k h k' h' ∧ k' % 100 = to)
def alB (ww : Nat → Int64) (nx : Int → Int → Int) (bears : Int) (La : Int → Int) (k w : Int) : Int := if 0 ≤ nx k w then (if La (nx k w) < 0 then -1 else if watF ww (nx k w % 100) = true then bears else La (nx k w)) else -1
def al4 (ww : Nat → Int64) (nx : Int → Int → Int) (bears : Int) (La : Int → Int) (k : Int) : Nat → Int
  | 0 => -1
  | n + 1 => if al4 ww nx bears La k n < alB ww nx bears La k n then alB ww nx bears La k n else al4 ww nx bears La k n
def alV (dw ww : Nat → Int64) (nx : Int → Int → Int) (p bears mends : Int) (La : Int → Int) (k : Int) : Int :=
  let b := if k / 100 + p ≤ 119 then bkN dw bears mends (al4 ww nx bears La k 4) k p.toNat else -1
  if k / 100 < 119 then (if b < ahd dw bears mends (La (k + 100)) k then ahd dw bears mends (La (k + 100)) k else b) else b
theorem alB_rng {nx : Int → Int → Int} (hb : 0 ≤ bears ∧ bears ≤ 99) {La : Int → Int} {k w : Int} (hL : ∀ j, 0 ≤ j → j < 12000 → k / 100 < j / 100 → -1 ≤ La j ∧ La j ≤ bears) (hn : 0 ≤ nx k w → nx k w < 12000 ∧ k / 100 < nx k w / 100) : -1 ≤ alB ww nx bears La k w ∧ alB ww nx bears La k w ≤ bears := by
  simp only [alB]
  split
  · next z =>
    have g := hn z
    have := hL _ z g.1 g.2
    split
    · omega
    · split <;> omega
  · omega
theorem al4_rng {nx : Int → Int → Int} (hb : 0 ≤ bears ∧ bears ≤ 99) {La : Int → Int} {k : Int} (hL : ∀ j, 0 ≤ j → j < 12000 → k / 100 < j / 100 → -1 ≤ La j ∧ La j ≤ bears) (hn : ∀ w, 0 ≤ nx k w → nx k w < 12000 ∧ k / 100 < nx k w / 100) : ∀ n, -1 ≤ al4 ww nx bears La k n ∧ al4 ww nx bears La k n ≤ bears
  | 0 => by simp only [al4]; omega
  | n + 1 => by
    have ih := al4_rng hb hL hn n
    have b := alB_rng (ww := ww) (w := n) hb hL (hn n)
    simp only [al4]
    split <;> omega
theorem al4_iff {nx : Int → Int → Int} {La : Int → Int} {k u : Int} (hu : 0 ≤ u) : ∀ n : Nat, (u ≤ al4 ww nx bears La k n ↔ ∃ w : Int, 0 ≤ w ∧ w < n ∧ u ≤ alB ww nx bears La k w)
  | 0 => by
    simp only [al4]
    constructor
    · intro z; omega
    · rintro ⟨w, a, b, _⟩; omega
  | n + 1 => by
    have ih := al4_iff (nx := nx) (La := La) (k := k) hu n
    simp only [al4]
    constructor
    · intro z
      by_cases hc : al4 ww nx bears La k n < alB ww nx bears La k n
      · rw [if_pos hc] at z; exact ⟨n, by omega, by omega, z⟩
      · rw [if_neg hc] at z
        obtain ⟨w, a, b, c⟩ := ih.mp z
        exact ⟨w, a, by omega, c⟩
    · rintro ⟨w, a, b, c⟩
      by_cases hw : w = n
      · subst hw; split <;> omega
      · have := ih.mpr ⟨w, a, by omega, c⟩
        split <;> omega
theorem alV_ok (hp : 1 ≤ p ∧ p ≤ 3) (hb : 0 ≤ bears ∧ bears ≤ 99) (hm : 0 ≤ mends ∧ mends ≤ 99) {La : Int → Int} {k : Int} (h0 : 0 ≤ k) (h1 : k < 12000) (ht : k % 100 ≠ to) (hk1 : tw (k % 100) ≠ 1)
    (hL : ∀ j, 0 ≤ j → j < 12000 → k / 100 < j / 100 → -1 ≤ La j ∧ La j ≤ bears) (hA : ∀ j, 0 ≤ j → j < 12000 → k / 100 < j / 100 → tw (j % 100) ≠ 1 → aOk (nxT tw sh p) (fun k w v => hV dw bears mends ww (nxT tw sh p) p k w v) to bears La j) {v : Int} (hv : v = alV dw ww (nxT tw sh p) p bears mends La k) : (-1 ≤ v ∧ v ≤ bears) ∧ ∀ h, 0 ≤ h → h ≤ bears → (h ≤ v ↔ ∃ ws k' h', hq (nxT tw sh p) (fun k w v => hV dw bears mends ww (nxT tw sh p) p k w v) to bears ws k h k' h' ∧ k' % 100 = to) := by
  have hn : ∀ w, 0 ≤ nxT tw sh p k w → nxT tw sh p k w < 12000 ∧ k / 100 < nxT tw sh p k w / 100 := fun w z => by have := nxT_ok hp h0 h1 z; exact ⟨this.1, this.2.1⟩
  have r4 := al4_rng (ww := ww) hb hL hn 4
  have e4 : nxT tw sh p k 4 = if k / 100 < 119 then k + 100 else -1 := by
    simp only [nxT, bhd, plen, if_true]
    by_cases q : k / 100 < 119
    · rw [if_pos q, if_neg (by intro r; rcases r with r | r | r | r; omega; omega; exact hk1 r; exact r.1 rfl)]; omega
    · rw [if_neg q, if_pos (Or.inl (by omega))]
  have nn : ∀ (h : Int) (w : Int), 0 ≤ h → 0 ≤ hV dw bears mends ww (nxT tw sh p) p k w h := fun h w hh => (hV_mono hb hm.1 hh (Int.le_refl h)).1
  -- a way from here: its first piece
  have first : ∀ h, 0 ≤ h → h ≤ bears → ((∃ ws k' h', hq (nxT tw sh p) (fun k w v => hV dw bears mends ww (nxT tw sh p) p k w v) to bears ws k h k' h' ∧ k' % 100 = to) ↔ ∃ w, 0 ≤ w ∧ w < 5 ∧ 0 ≤ nxT tw sh p k w ∧ hV dw bears mends ww (nxT tw sh p) p k w h ≤ La (nxT tw sh p k w)) := by
    intro h hh0 hh1
    constructor
    · rintro ⟨ws, k', h', hq1, hq2⟩
      match ws, hq1 with
      | [], hq1 => obtain ⟨rfl, _⟩ := hq1; exact absurd hq2 ht
      | w :: ws, hq1 =>
        obtain ⟨_, w0, w1, w2, w3, w4⟩ := hq1
        have g := nxT_ok hp h0 h1 w2
        have a := hA _ w2 g.1 g.2.1 g.2.2.1
        exact ⟨w, w0, w1, w2, (a.2 _ (nn h w hh0) w3).mpr ⟨ws, k', h', w4, hq2⟩⟩
    · rintro ⟨w, w0, w1, w2, w3⟩
      have g := nxT_ok hp h0 h1 w2
      have a := hA _ w2 g.1 g.2.1 g.2.2.1
      have hle : hV dw bears mends ww (nxT tw sh p) p k w h ≤ bears := by have := a.1; omega
      obtain ⟨ws, k', h', q1, q2⟩ := (a.2 _ (nn h w hh0) hle).mp w3
      exact ⟨w :: ws, k', h', ⟨ht, w0, w1, w2, hle, q1⟩, q2⟩
  -- by a step
  have step : ∀ h, 0 ≤ h → h ≤ bears → (h ≤ (if k / 100 + p ≤ 119 then bkN dw bears mends (al4 ww (nxT tw sh p) bears La k 4) k p.toNat else -1) ↔ ∃ w, 0 ≤ w ∧ w < 4 ∧ 0 ≤ nxT tw sh p k w ∧ hV dw bears mends ww (nxT tw sh p) p k w h ≤ La (nxT tw sh p k w)) := by
    intro h hh0 hh1
    by_cases hlate : k / 100 + p ≤ 119
    · rw [if_pos hlate, ← (bk_iff hb hm ⟨hh0, hh1⟩ p.toNat _ r4).1]
      have hr := htN_rng (dw := dw) (k := k) hb hm.1 ⟨hh0, Or.inl hh1⟩ p.toNat
      rw [al4_iff hr.1]
      constructor
      · rintro ⟨w, w0, w1, w2⟩
        rw [alB] at w2
        by_cases hz : 0 ≤ nxT tw sh p k w
        · rw [if_pos hz] at w2
          refine ⟨w, w0, by omega, hz, ?_⟩
          rw [hV, if_neg (by omega)]
          by_cases hneg : La (nxT tw sh p k w) < 0
          · rw [if_pos hneg] at w2; omega
          · rw [if_neg hneg] at w2
            by_cases hw : watF ww (nxT tw sh p k w % 100) = true
            · rw [if_pos hw] at w2; rw [if_pos ⟨hw, w2⟩]; omega
            · rw [if_neg hw] at w2; rw [if_neg (fun y => hw y.1)]; exact w2
        · rw [if_neg hz] at w2; omega
      · rintro ⟨w, w0, w1, w2, w3⟩
        have g := nxT_ok hp h0 h1 w2
        have lr := hL _ w2 g.1 g.2.1
        have hnn := nn h w hh0
        refine ⟨w, w0, by omega, ?_⟩
        rw [alB, if_pos w2]
        rw [hV, if_neg (by omega)] at w3 hnn
        rw [if_neg (by omega)]
        by_cases hw : watF ww (nxT tw sh p k w % 100) = true
        · rw [if_pos hw]
          by_cases hle : htN bears mends dw h k p.toNat ≤ bears
          · exact hle
          · rw [if_neg (fun y => hle y.2)] at w3; omega
        · rw [if_neg hw]
          rw [if_neg (fun y => hw y.1)] at w3
          exact w3
    · rw [if_neg hlate]
      constructor
      · intro z; omega
      · rintro ⟨w, w0, w1, w2, w3⟩
        have g := nxT_ok hp h0 h1 w2
        have : plen w p = p := by rw [plen, if_neg (by omega)]
        omega
  have rb : -1 ≤ (if k / 100 + p ≤ 119 then bkN dw bears mends (al4 ww (nxT tw sh p) bears La k 4) k p.toNat else -1) ∧ (if k / 100 + p ≤ 119 then bkN dw bears mends (al4 ww (nxT tw sh p) bears La k 4) k p.toNat else -1) ≤ bears := by
    split
    · exact (bk_iff (h := 0) hb hm ⟨by omega, by omega⟩ p.toNat _ r4).2
    · omega
  have hv2 : v = if k / 100 < 119 then (if (if k / 100 + p ≤ 119 then bkN dw bears mends (al4 ww (nxT tw sh p) bears La k 4) k p.toNat else -1) < ahd dw bears mends (La (k + 100)) k then ahd dw bears mends (La (k + 100)) k else (if k / 100 + p ≤ 119 then bkN dw bears mends (al4 ww (nxT tw sh p) bears La k 4) k p.toNat else -1)) else (if k / 100 + p ≤ 119 then bkN dw bears mends (al4 ww (nxT tw sh p) bears La k 4) k p.toNat else -1) := by
    rw [hv]; rfl
  generalize (if k / 100 + p ≤ 119 then bkN dw bears mends (al4 ww (nxT tw sh p) bears La k 4) k p.toNat else -1) = b at *
  by_cases hq : k / 100 < 119
  · rw [if_pos hq] at hv2 e4
    have lr := hL (k + 100) (by omega) (by omega) (by omega)
    have ar := ahd_rng (dw := dw) (k := k) hb hm lr
    refine ⟨by rw [hv2]; split <;> omega, fun h hh0 hh1 => ?_⟩
    have w4 : hV dw bears mends ww (nxT tw sh p) p k 4 h = heatF bears mends dw h k := by rw [hV, if_pos rfl]
    have ai := ahd_iff (dw := dw) (k := k) (u := h) hb hm lr ⟨hh0, Or.inl hh1⟩
    rw [first h hh0 hh1]
    have hor : h ≤ v ↔ h ≤ b ∨ h ≤ ahd dw bears mends (La (k + 100)) k := by rw [hv2]; split <;> omega
    rw [hor, step h hh0 hh1, ← ai]
    constructor
    · rintro (⟨w, w0, w1, w2, w3⟩ | z)
      · exact ⟨w, w0, by omega, w2, w3⟩
      · exact ⟨4, by omega, by omega, by omega, by rw [w4, e4]; exact z⟩
    · rintro ⟨w, w0, w1, w2, w3⟩
      by_cases h4 : w = 4
      · subst h4; rw [w4, e4] at w3; exact Or.inr w3
      · exact Or.inl ⟨w, w0, by omega, w2, w3⟩
  · rw [if_neg hq] at hv2 e4
    refine ⟨by omega, fun h hh0 hh1 => ?_⟩
    rw [first h hh0 hh1, hv2, step h hh0 hh1]
    constructor
    · rintro ⟨w, w0, w1, w2, w3⟩; exact ⟨w, w0, by omega, w2, w3⟩
    · rintro ⟨w, w0, w1, w2, w3⟩
      by_cases h4 : w = 4
      · subst h4; omega
      · exact ⟨w, w0, by omega, w2, w3⟩
theorem p_allowedAhead (hb : 0 ≤ bears ∧ bears ≤ 99) (hm : 0 ≤ mends ∧ mends ≤ 99) {a m s : Int} (ha : -1 ≤ a ∧ a ≤ bears) (hmm : 0 ≤ m ∧ m < 130) (hs : 0 ≤ s ∧ s < 100) {post : Int32 → Prop} (h : post (zi (ahd dw bears mends a (100 * m + s)))) : wp_X9_allowedAhead dw (zi bears) (zi mends) (zi a) (zi m) (zi s) post := by
  simp only [wp_X9_allowedAhead]
  have hd : dkF dw (100 * m + s) = hbs 240 dw m s := by rw [dkF, show (100 * m + s) / 100 = m by omega, show (100 * m + s) % 100 = s by omega]
  rw [zi_lit, zi_le (by omega)]
  refine ⟨fun z => p_has (by decide) (by omega) (by omega) ?_, fun z => ?_⟩
  · rw [← hd, b2i_zi]
    simp only [b2i_0, zi_lit, zi_sub, zi_add]
    rw [ahd, if_neg (by omega)] at h
    refine ⟨fun y => ?_, fun y => ?_⟩
    · rw [y] at h; exact h
    · rw [if_pos (by simpa using y)] at h
      by_cases q : a + mends < bears
      · rw [if_pos q] at h; rw [if_pos (by rw [zi_lt (by omega)]; exact q)]; exact h
      · rw [if_neg q] at h; rw [if_neg (by rw [zi_lt (by omega)]; exact q)]; exact h
  · rw [ahd, if_pos (by omega)] at h; exact h
theorem p_allowedBehind (A : Ask day to hot cool wt aims ex nt tw sh sl sw p bears mends en) {La : Int → Int} {k m s w : Int} (hk : k = 100 * m + s) (hm : 0 ≤ m ∧ m + p ≤ 119) (hs : 0 ≤ s ∧ s < 100) (hw : 0 ≤ w ∧ w < 4) (hL : ∀ j, 0 ≤ j → j < 12000 → k / 100 < j / 100 → -1 ≤ La j ∧ La j ≤ bears) {post : Int32 → Prop} (h : post (zi (alB ww (nxT tw sh p) bears La k w))) : wp_X9_allowedBehind (zi day) sw (zA La) ww (zi bears) (zi (m + p)) (zi (if stp s w = -1 ∨ tw (stp s w) = 1 then -1 else stp s w)) post := by
  obtain ⟨hd, hto, hh, hc, hwt, ha2, hex, hnti, hnt, hsl, hsh, hp, hbz, hme, hen⟩ := A
  have hkd : (100 * m + s) / 100 = m := by omega
  have hkm : (100 * m + s) % 100 = s := by omega
  have hw4 : w ≠ 4 := by omega
  have hpl : plen w p = p := by rw [plen, if_neg hw4]
  have hsr := stp_rng (s := s) (w := w) hs
  subst hk
  have hnxe : nxT tw sh p (100 * m + s) w = if stp s w = -1 ∨ tw (stp s w) = 1 ∨ sh (100 * (m + p) + stp s w) ≠ 0 then -1 else 100 * (m + p) + stp s w := by
    simp only [nxT, bhd, hkd, hkm, hpl, if_neg hw4]
    by_cases q : stp s w = -1 ∨ tw (stp s w) = 1 ∨ sh (100 * (m + p) + stp s w) ≠ 0
    · rw [if_pos q, if_pos (by rcases q with q | q | q; exact Or.inr (Or.inl q); exact Or.inr (Or.inr (Or.inl q)); exact Or.inr (Or.inr (Or.inr ⟨hw4, q⟩)))]
    · rw [if_neg q, if_neg (by intro r; rcases r with r | r | r | r; omega; exact q (Or.inl r); exact q (Or.inr (Or.inl r)); exact q (Or.inr (Or.inr r.2)))]
  have hno : nxT tw sh p (100 * m + s) w = -1 → post (-1) := by
    intro q
    rw [alB, if_neg (by omega)] at h; exact h
  simp only [wp_X9_allowedBehind]
  by_cases q : stp s w = -1 ∨ tw (stp s w) = 1
  · rw [if_pos q]
    exact ⟨fun _ => hno (by rw [hnxe, if_pos (by rcases q with q | q; exact Or.inl q; exact Or.inr (Or.inl q))]), fun z => absurd (by decide) z⟩
  · rw [if_neg q]
    have hg : 0 ≤ stp s w ∧ stp s w < 100 := by
      rcases hsr with z | z
      · exact absurd (Or.inl z) q
      · exact z
    rw [zi_lit, zi_lt (by omega)]
    refine ⟨fun z => by omega, fun _ => ?_⟩
    refine p_isShut hsh hd (by omega) hg ?_
    have hiff := hsh.1 (m + p) (stp s w) (by omega) (by omega) hg.1 hg.2
    simp only [b2i_0]
    refine ⟨fun b => ?_, fun b => ?_⟩
    · have : hb sw (120 * day + (m + p)) (stp s w) = true := by simpa using b
      exact hno (by rw [hnxe, if_pos (Or.inr (Or.inr (hiff.mp this)))])
    · have hsz : sh (100 * (m + p) + stp s w) = 0 := by
        refine Classical.byContradiction (fun r => ?_)
        rw [hiff.mpr r] at b
        exact absurd b (by decide)
      have hnx2 : nxT tw sh p (100 * m + s) w = 100 * (m + p) + stp s w := by
        rw [hnxe, if_neg]
        intro r
        rcases r with r | r | r
        · exact q (Or.inl r)
        · exact q (Or.inr r)
        · exact r hsz
      have lr := hL (100 * (m + p) + stp s w) (by omega) (by omega) (by omega)
      rw [alB, if_pos (by omega), hnx2, show (100 * (m + p) + stp s w) % 100 = stp s w by omega] at h
      refine p_labelled (by omega) (by omega) ?_
      rw [if_pos (by omega), zi_le (by omega)]
      refine ⟨fun z => ?_, fun z => ?_⟩
      · rw [if_neg (by omega)] at h
        refine p_has (r := 0) (by decide) (by omega) (by omega) ?_
        rw [b2i_zi]
        simp only [b2i_0]
        refine ⟨fun y => ?_, fun y => ?_⟩
        · rw [if_neg (by rw [watF, y]; decide)] at h
          refine p_labelled (by omega) (by omega) ?_
          rw [if_pos (by omega)]
          exact h
        · rw [if_pos (by rw [watF]; simpa using y)] at h
          exact h
      · rw [if_pos (by omega)] at h; exact h
end AH
