/-! labels: all nodes, from the last minute back -/
section LK
variable {eb : Bool} {day to hot cool wt aims : Int} {dw : Nat → Int64} {ex nt tw sh : Int → Int} {sl : Int} {ww sw : Nat → Int64} {p bears mends en nw lim : Int}
/-- pieces among the nodes of a set, by a minute -/
def nxD (nx : Int → Int → Int) (D : Int → Bool) (hi k w : Int) : Int := if D (nx k w) = true ∧ 0 ≤ nx k w ∧ nx k w / 100 ≤ hi then nx k w else -1
theorem Gok_D {nx cs : Int → Int → Int} {D : Int → Bool} {hi : Int} (G : Gok nx cs nw) : Gok (nxD nx D hi) cs nw := by
  intro k w h0 h1 w0 w1 hn
  simp only [nxD] at hn ⊢
  by_cases hc : D (nx k w) = true ∧ 0 ≤ nx k w ∧ nx k w / 100 ≤ hi
  · rw [if_pos hc] at hn ⊢; exact G k w h0 h1 w0 w1 hn
  · rw [if_neg hc] at hn; omega
/-- a label says the best rest of a way -/
def laO (nx cs : Int → Int → Int) (D : Int → Bool) (to hi : Int) (La : Int → Int) (k : Int) : Prop :=
  (La k = 268435456 ∧ Bst (nxD nx D hi) cs 5 to hi k 1000000 0) ∨ ∃ C E, La k = 128 * C + E ∧ C < 1000000 ∧ Bst (nxD nx D hi) cs 5 to hi k C E
theorem laO_rng {nx cs : Int → Int → Int} {D : Int → Bool} {hi : Int} {La : Int → Int} {k : Int} (G : Gok nx cs 5) (h0 : 0 ≤ k) (h1 : k < 12000) (h : laO nx cs D to hi La k) : 0 ≤ La k ∧ (La k = 268435456 ∨ La k ≤ 100000000) := by
  rcases h with z | ⟨C, E, e, hC, hB⟩
  · omega
  · have := Bst_nn (Gok_D (D := D) (hi := hi) G) h0 h1 hB hC
    omega
theorem laO_up {nx cs : Int → Int → Int} {D : Int → Bool} {hi : Int} {La : Int → Int} {k j v : Int} (hj : k ≠ j) (h : laO nx cs D to hi La k) : laO nx cs D to hi (upI La j v) k := by
  unfold laO
  rw [upI_n hj]
  exact h
/-- one node -/
theorem labV_ok {nx : Int → Int → Int} {c : Int → Int} (hp : 1 ≤ p ∧ p ≤ 3) (G : Gok nx (csT c p) 5) {D : Int → Bool} {hi : Int} (hhi : hi ≤ 119) {La : Int → Int} {k : Int} (h0 : 0 ≤ k) (h1 : k < 12000) (hk : k / 100 ≤ hi)
    (hn4 : k / 100 < hi → nx k 4 = k + 100) (hl4 : ¬ k / 100 < hi → ¬ (0 ≤ nx k 4 ∧ nx k 4 / 100 ≤ hi))
    (hd : ∀ j, k / 100 < j / 100 → j / 100 ≤ hi → 0 ≤ j → j < 12000 → (D j = true → laO nx (csT c p) D to hi La j) ∧ (D j = false → La j = 268435456)) : laO nx (csT c p) D to hi (upI La k (labV nx c p to hi La k)) k := by
  have GD := Gok_D (D := D) (hi := hi) G
  unfold laO
  rw [upI_s]
  by_cases ht : k % 100 = to
  · refine Or.inr ⟨0, k / 100, ?_, by omega, Bst_at GD h0 h1 ht hk⟩
    rw [labV, if_pos ht]; omega
  -- each piece: its label
  have hlb : ∀ w, 0 ≤ w → w < 5 → (nxD nx D hi k w = -1 ∧ lbh nx hi La k w = 268435456) ∨ (0 ≤ nxD nx D hi k w ∧ nxD nx D hi k w = nx k w ∧ lbh nx hi La k w = La (nx k w) ∧ laO nx (csT c p) D to hi La (nx k w) ∧ nx k w < 12000) := by
    intro w w0 w1
    simp only [nxD, lbh]
    by_cases hc : 0 ≤ nx k w ∧ nx k w / 100 ≤ hi
    · have g := G k w h0 h1 w0 w1 hc.1
      have dd := hd (nx k w) g.2.1 hc.2 hc.1 g.1
      by_cases hD : D (nx k w) = true
      · refine Or.inr ?_
        rw [if_pos ⟨hD, hc⟩, if_pos hc]
        exact ⟨hc.1, rfl, rfl, dd.1 hD, g.1⟩
      · refine Or.inl ?_
        rw [if_neg (fun z => hD z.1), if_pos hc]
        exact ⟨rfl, dd.2 (by simpa using hD)⟩
    · refine Or.inl ?_
      rw [if_neg (fun z => hc z.2), if_neg hc]
      exact ⟨rfl, rfl⟩
  -- best of each next node, as a row
  have hrow : ∃ lc le : Int → Int, ∀ w, 0 ≤ w → w < 5 → 0 ≤ nxD nx D hi k w → Bst (nxD nx D hi) (csT c p) 5 to hi (nxD nx D hi k w) (lc (nxD nx D hi k w)) (le (nxD nx D hi k w)) ∧ ((lbh nx hi La k w = 268435456 ∧ lc (nxD nx D hi k w) = 1000000) ∨ (lbh nx hi La k w = 128 * lc (nxD nx D hi k w) + le (nxD nx D hi k w) ∧ 0 ≤ le (nxD nx D hi k w) ∧ le (nxD nx D hi k w) < 128 ∧ 0 ≤ lc (nxD nx D hi k w) ∧ lc (nxD nx D hi k w) < 1000000)) := by
    refine ⟨fun j => if La j = 268435456 then 1000000 else La j / 128, fun j => if La j = 268435456 then 0 else La j % 128, fun w w0 w1 hw => ?_⟩
    rcases hlb w w0 w1 with z | ⟨z1, z2, z3, z4, z5⟩
    · omega
    · rw [z2] at hw ⊢
      rw [z3]
      rcases z4 with y | ⟨C, E, y1, y2, y3⟩
      · simp only [y.1, if_true]
        exact ⟨y.2, Or.inl ⟨trivial, trivial⟩⟩
      · have r := Bst_nn GD (by omega) z5 y3 y2
        have e0 : La (nx k w) ≠ 268435456 := by omega
        have e1 : La (nx k w) / 128 = C := by omega
        have e2 : La (nx k w) % 128 = E := by omega
        simp only [if_neg e0, e1, e2]
        exact ⟨y3, Or.inr ⟨y1, by omega, by omega, by omega, by omega⟩⟩
  obtain ⟨lc, le, hrow⟩ := hrow
  have hcs4 : ∀ w, w ≠ 4 → csT c p k w = csm c (k / 100) (k % 100) p.toNat := fun w hw => by rw [csT, cst, plen, if_neg hw]
  have hcs5 : csT c p k 4 = c k := by
    rw [csT, cst, plen, if_pos rfl, show (1 : Int).toNat = 1 from rfl]
    simp only [csm]
    rw [show 100 * (k / 100 + ((0 : Nat) : Int)) + k % 100 = k by omega]
    omega
  -- the least of the four
  have h4 : ∀ n : Nat, n ≤ 4 → (∀ w : Int, 0 ≤ w → w < n → lb4 nx hi La k n ≤ lbh nx hi La k w) ∧ (lb4 nx hi La k n = 268435456 ∨ ∃ w : Int, 0 ≤ w ∧ w < n ∧ lb4 nx hi La k n = lbh nx hi La k w) ∧ lb4 nx hi La k n ≤ 268435456 := by
    intro n hn
    induction n with
    | zero => exact ⟨fun w a b => by omega, Or.inl rfl, by simp [lb4]⟩
    | succ n ih =>
      obtain ⟨i1, i2, i3⟩ := ih (by omega)
      simp only [lb4]
      by_cases hc : lbh nx hi La k n < lb4 nx hi La k n
      · rw [if_pos hc]
        refine ⟨fun w a b => ?_, Or.inr ⟨n, by omega, by omega, rfl⟩, by omega⟩
        by_cases hw : w = n
        · subst hw; exact Int.le_refl _
        · have := i1 w a (by omega); omega
      · rw [if_neg hc]
        refine ⟨fun w a b => ?_, ?_, i3⟩
        · by_cases hw : w = n
          · subst hw; omega
          · exact i1 w a (by omega)
        · rcases i2 with z | ⟨w, a, b, z⟩
          · exact Or.inl z
          · exact Or.inr ⟨w, a, by omega, z⟩
  obtain ⟨m1, m2, m3⟩ := h4 4 (Nat.le_refl _)
  have hw4 : lbh nx hi La k 4 = if k / 100 < hi then La (k + 100) else 268435456 := by
    rw [lbh]
    by_cases hc : k / 100 < hi
    · rw [if_pos hc, hn4 hc, if_pos (by omega)]
    · rw [if_neg hc, if_neg (hl4 hc)]
  -- costs of the pieces
  have hcw : ∀ w, 0 ≤ w → w < 5 → 0 ≤ nxD nx D hi k w → lc (nxD nx D hi k w) < 1000000 → 0 ≤ csT c p k w ∧ csT c p k w + lc (nxD nx D hi k w) ≤ 119000 := by
    intro w w0 w1 hw q
    have g := GD k w h0 h1 w0 w1 hw
    have b := (hrow w w0 w1 hw).1
    have r := Bst_nn GD hw g.1 b q
    omega
  generalize hb : lb4 nx hi La k 4 = b at *
  generalize hS : csm c (k / 100) (k % 100) p.toNat = S at *
  generalize hW : lbh nx hi La k 4 = W at *
  obtain ⟨v, hv⟩ : ∃ v, v = labV nx c p to hi La k := ⟨_, rfl⟩
  have hv2 : v = if W < 268435456 then (if W + 128 * c k < (if b < 268435456 then b + 128 * S else b) then W + 128 * c k else (if b < 268435456 then b + 128 * S else b)) else (if b < 268435456 then b + 128 * S else b) := by
    rw [hv, labV, if_neg ht]
    simp only [hb, hS]
    by_cases hc : k / 100 < hi
    · rw [if_pos hc] at hw4
      rw [hw4]
      by_cases hq : La (k + 100) < 268435456
      · rw [if_pos ⟨hc, hq⟩, if_pos hq]
      · rw [if_neg (fun z => hq z.2), if_neg hq]
    · rw [if_neg hc] at hw4
      rw [hw4, if_neg (fun z => hc z.1), if_neg (show ¬ (268435456 : Int) < 268435456 by decide)]
  rw [← hv]
  clear hv hw4
  -- every piece costs as much at least
  have all : ∀ w, 0 ≤ w → w < 5 → 0 ≤ nxD nx D hi k w → lc (nxD nx D hi k w) < 1000000 → v ≤ 128 * (csT c p k w + lc (nxD nx D hi k w)) + le (nxD nx D hi k w) ∧ 0 ≤ le (nxD nx D hi k w) ∧ le (nxD nx D hi k w) < 128 := by
    intro w w0 w1 hw q
    obtain ⟨_, z⟩ := hrow w w0 w1 hw
    rcases z with z | ⟨z1, z2, z3, z4, z5⟩
    · omega
    have cw := hcw w w0 w1 hw q
    refine ⟨?_, z2, z3⟩
    by_cases h4w : w = 4
    · subst h4w
      rw [hcs5] at cw ⊢
      rw [hW] at z1
      rw [hv2, if_pos (by omega)]
      by_cases hq : W + 128 * c k < (if b < 268435456 then b + 128 * S else b)
      · rw [if_pos hq]; omega
      · rw [if_neg hq]; omega
    · rw [hcs4 w h4w] at cw ⊢
      have := m1 w w0 (by omega)
      rw [hv2, if_pos (show b < 268435456 by omega)]
      by_cases hq : W < 268435456
      · rw [if_pos hq]
        by_cases hr : W + 128 * c k < b + 128 * S
        · rw [if_pos hr]; omega
        · rw [if_neg hr]; omega
      · rw [if_neg hq]; omega
  -- and one costs just this
  have one : v = 268435456 ∨ ∃ w, 0 ≤ w ∧ w < 5 ∧ 0 ≤ nxD nx D hi k w ∧ lc (nxD nx D hi k w) < 1000000 ∧ v = 128 * (csT c p k w + lc (nxD nx D hi k w)) + le (nxD nx D hi k w) := by
    have step : b < 268435456 → ∃ w, 0 ≤ w ∧ w < 5 ∧ 0 ≤ nxD nx D hi k w ∧ lc (nxD nx D hi k w) < 1000000 ∧ b + 128 * S = 128 * (csT c p k w + lc (nxD nx D hi k w)) + le (nxD nx D hi k w) := by
      intro hlt
      rcases m2 with z | ⟨w, w0, w1, z⟩
      · omega
      · have w4 : w ≠ 4 := by omega
        rcases hlb w w0 (by omega) with y | ⟨y1, _⟩
        · omega
        · obtain ⟨_, x⟩ := hrow w w0 (by omega) y1
          rcases x with x | ⟨x1, x2, x3, x4, x5⟩
          · omega
          · exact ⟨w, w0, by omega, y1, x5, by rw [hcs4 w w4]; omega⟩
    have wait : W < 268435456 → ∃ w, 0 ≤ w ∧ w < 5 ∧ 0 ≤ nxD nx D hi k w ∧ lc (nxD nx D hi k w) < 1000000 ∧ W + 128 * c k = 128 * (csT c p k w + lc (nxD nx D hi k w)) + le (nxD nx D hi k w) := by
      intro hlt
      rcases hlb 4 (by omega) (by omega) with y | ⟨y1, _⟩
      · rw [hW] at y; omega
      · obtain ⟨_, x⟩ := hrow 4 (by omega) (by omega) y1
        rw [hW] at x
        rcases x with x | ⟨x1, x2, x3, x4, x5⟩
        · omega
        · exact ⟨4, by omega, by omega, y1, x5, by rw [hcs5]; omega⟩
    rw [hv2]
    by_cases hq : W < 268435456
    · rw [if_pos hq]
      by_cases hr : W + 128 * c k < (if b < 268435456 then b + 128 * S else b)
      · rw [if_pos hr]; exact Or.inr (wait hq)
      · rw [if_neg hr]
        by_cases hb2 : b < 268435456
        · rw [if_pos hb2]; exact Or.inr (step hb2)
        · rw [if_neg hb2]; exact Or.inl (by omega)
    · rw [if_neg hq]
      by_cases hb2 : b < 268435456
      · rw [if_pos hb2]; exact Or.inr (step hb2)
      · rw [if_neg hb2]; exact Or.inl (by omega)
  have hnB : ∀ w, 0 ≤ w → w < 5 → 0 ≤ nxD nx D hi k w → Bst (nxD nx D hi) (csT c p) 5 to hi (nxD nx D hi k w) (lc (nxD nx D hi k w)) (le (nxD nx D hi k w)) := fun w w0 w1 hw => (hrow w w0 w1 hw).1
  by_cases hvf : ∃ w, 0 ≤ w ∧ w < 5 ∧ 0 ≤ nxD nx D hi k w ∧ lc (nxD nx D hi k w) < 1000000 ∧ v = 128 * (csT c p k w + lc (nxD nx D hi k w)) + le (nxD nx D hi k w)
  · obtain ⟨w, w0, w1, hw, hl, e⟩ := hvf
    have cw := hcw w w0 w1 hw hl
    refine Or.inr ⟨csT c p k w + lc (nxD nx D hi k w), le (nxD nx D hi k w), e, by omega, ?_⟩
    refine Bst_back GD (lc := lc) (le := le) h0 h1 ht hnB (by omega) (fun _ => ⟨w, w0, w1, hw, hl, rfl, rfl⟩) (fun u u0 u1 hu hlu => ?_)
    have a1 := all w w0 w1 hw hl
    have a2 := all u u0 u1 hu hlu
    omega
  · have vf : v = 268435456 := one.resolve_right hvf
    refine Or.inl ⟨vf, Bst_back GD (lc := lc) (le := le) h0 h1 ht hnB (Int.le_refl _) (fun z => by omega) (fun u u0 u1 hu hlu => ?_)⟩
    have a2 := all u u0 u1 hu hlu
    have cw := hcw u u0 u1 hu hlu
    omega
/-- labels so far: those of later minutes, and of this minute's squares below one -/
def laI (nx cs : Int → Int → Int) (D : Int → Bool) (to lo hi : Int) (La0 La : Int → Int) (m t : Int) : Prop :=
  (∀ j, 0 ≤ j → j < 12000 → lo ≤ j / 100 → j / 100 ≤ hi → (m < j / 100 ∨ (j / 100 = m ∧ j % 100 < t) → (D j = true → laO nx cs D to hi La j) ∧ (D j = false → La j = 268435456)) ∧ (¬ (m < j / 100 ∨ (j / 100 = m ∧ j % 100 < t)) → La j = 268435456)) ∧ (∀ j, ¬ (lo ≤ j / 100 ∧ j / 100 ≤ hi ∧ 0 ≤ j ∧ j < 12000) → La j = La0 j)
theorem laI_R {nx cs : Int → Int → Int} {D : Int → Bool} {lo hi : Int} {La0 La : Int → Int} {m t : Int} (G : Gok nx cs 5) (h00 : 0 ≤ lo) (h11 : hi ≤ 119) (h : laI nx cs D to lo hi La0 La m t) : laR lo hi La := by
  intro j a' b'
  have a : 0 ≤ j := by omega
  have b : j < 12000 := by omega
  by_cases hc : lo ≤ j / 100 ∧ j / 100 ≤ hi
  · have := h.1 j a b hc.1 hc.2
    by_cases hd : m < j / 100 ∨ (j / 100 = m ∧ j % 100 < t)
    · have q := this.1 hd
      by_cases hD : D j = true
      · exact laO_rng G a b (q.1 hD)
      · have := q.2 (by simpa using hD); omega
    · have := this.2 hd; omega
  · omega
theorem laI_skip {nx cs : Int → Int → Int} {D : Int → Bool} {lo hi : Int} {La0 La : Int → Int} {m t t' : Int} (h : laI nx cs D to lo hi La0 La m t) (htt : t ≤ t') (hD : ∀ s, t ≤ s → s < t' → s < 100 → 0 ≤ s → D (100 * m + s) = false) : laI nx cs D to lo hi La0 La m t' := by
  refine ⟨fun j a b c d => ?_, h.2⟩
  have q := h.1 j a b c d
  refine ⟨fun z => ?_, fun z => q.2 (by omega)⟩
  by_cases hd : m < j / 100 ∨ (j / 100 = m ∧ j % 100 < t)
  · exact q.1 hd
  · have hj := hD (j % 100) (by omega) (by omega) (by omega) (by omega)
    rw [show 100 * m + j % 100 = j by omega] at hj
    exact ⟨fun y => by rw [hj] at y; exact absurd y (by decide), fun _ => q.2 hd⟩
theorem laI_node {nx : Int → Int → Int} {c : Int → Int} {D : Int → Bool} {lo hi : Int} {La0 La : Int → Int} {m s : Int} (hp : 1 ≤ p ∧ p ≤ 3) (G : Gok nx (csT c p) 5) (hlo : 0 ≤ lo) (hhi : hi ≤ 119) (hm : lo ≤ m ∧ m ≤ hi) (hs : 0 ≤ s ∧ s < 100) (hn4 : m < hi → nx (100 * m + s) 4 = 100 * m + s + 100) (hl4 : ¬ m < hi → ¬ (0 ≤ nx (100 * m + s) 4 ∧ nx (100 * m + s) 4 / 100 ≤ hi)) (hDk : D (100 * m + s) = true) (h : laI nx (csT c p) D to lo hi La0 La m s) : laI nx (csT c p) D to lo hi La0 (upI La (100 * m + s) (labV nx c p to hi La (100 * m + s))) m (s + 1) := by
  have hkd : (100 * m + s) / 100 = m := by omega
  have ok := labV_ok (to := to) (D := D) (hi := hi) (La := La) (k := 100 * m + s) hp G hhi (by omega) (by omega) (by omega) (by rw [hkd]; exact hn4) (by rw [hkd]; exact hl4) (fun j a b j0 j1 => (h.1 j j0 j1 (by omega) b).1 (Or.inl (by omega)))
  refine ⟨fun j a b c d => ?_, fun j hj => ?_⟩
  · by_cases hj : j = 100 * m + s
    · subst hj
      exact ⟨fun _ => ⟨fun _ => ok, fun z => by rw [hDk] at z; exact absurd z (by decide)⟩, fun z => by omega⟩
    · have q := h.1 j a b c d
      refine ⟨fun z => ?_, fun z => ?_⟩
      · have q2 := q.1 (by omega)
        exact ⟨fun y => laO_up hj (q2.1 y), fun y => by rw [upI_n hj]; exact q2.2 y⟩
      · rw [upI_n hj]; exact q.2 (by omega)
  · rw [upI_n (by omega)]; exact h.2 j hj
end LK
