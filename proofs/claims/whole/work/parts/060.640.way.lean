/-! the first way of those that are best -/
def gdp (nx cs : Int → Int → Int) (nw : Int) (lc le : Int → Int) (k w : Int) : Prop := 0 ≤ w ∧ w < nw ∧ 0 ≤ nx k w ∧ le (nx k w) = le k ∧ cs k w + lc (nx k w) = lc k
def fwy (nx cs : Int → Int → Int) (nw to : Int) (lc le : Int → Int) : List Int → Int → Prop
  | [], k => k % 100 = to
  | w :: ws, k => k % 100 ≠ to ∧ gdp nx cs nw lc le k w ∧ (∀ v, 0 ≤ v → v < w → ¬ gdp nx cs nw lc le k v) ∧ fwy nx cs nw to lc le ws (nx k w)
def nod (nx : Int → Int → Int) : List Int → Int → Nat → Int
  | [], k, _ => k
  | _ :: _, k, 0 => k
  | w :: ws, k, i + 1 => nod nx ws (nx k w) i
/-- where one is in a minute of a way, -1 where one isn't on it -/
def pth (nx : Int → Int → Int) : List Int → Int → Int → Int
  | [], _, _ => -1
  | w :: ws, k, m => if k / 100 ≤ m ∧ m < nx k w / 100 then k % 100 else pth nx ws (nx k w) m
section WY
variable {nx cs : Int → Int → Int} {nw to bym : Int} {lc le : Int → Int}
theorem fwy_uni : ∀ (ws ws' : List Int) (k : Int), fwy nx cs nw to lc le ws k → fwy nx cs nw to lc le ws' k → ws = ws'
  | [], [], _, _, _ => rfl
  | [], _ :: _, _, h, h' => absurd h h'.1
  | _ :: _, [], _, h, h' => absurd h' h.1
  | w :: ws, v :: vs, k, h, h' => by
    have e : w = v := by
      rcases Int.lt_trichotomy w v with z | z | z
      · exact absurd h.2.1 (h'.2.2.1 w h.2.1.1 z)
      · exact z
      · exact absurd h'.2.1 (h.2.2.1 v h'.2.1.1 z)
    subst e
    rw [fwy_uni ws vs _ h.2.2.2 h'.2.2.2]
theorem Bst_good (G : Gok nx cs nw) {k : Int} (h0 : 0 ≤ k) (h1 : k < 12000) (ht : k % 100 ≠ to) (hk : Bst nx cs nw to bym k (lc k) (le k)) (hc : lc k < 1000000) (hn : ∀ w, 0 ≤ w → w < nw → 0 ≤ nx k w → Bst nx cs nw to bym (nx k w) (lc (nx k w)) (le (nx k w))) : ∃ w, gdp nx cs nw lc le k w ∧ lc (nx k w) < 1000000 := by
  obtain ⟨ws, k', p1, p2, p3, p4⟩ := hk.1 hc
  match ws, p1 with
  | [], p1 => obtain ⟨rfl, _⟩ := p1; exact absurd p2 ht
  | w :: ws, p1 =>
    obtain ⟨_, w0, w1, w2, p1⟩ := p1
    have g := G k w h0 h1 w0 w1 w2
    have b := hn w w0 w1 w2
    have b2 := b.2.1 ws k' _ p1 p2 (by omega)
    have hl : lc (nx k w) < 1000000 := by omega
    obtain ⟨vs, k'', q1, q2, q3, q4⟩ := b.1 hl
    have d := hk.2.1 (w :: vs) k'' (cs k w + lc (nx k w)) ⟨ht, w0, w1, w2, by rwa [show cs k w + lc (nx k w) - cs k w = lc (nx k w) by omega]⟩ q2 (by omega)
    exact ⟨w, ⟨w0, w1, w2, by omega, by omega⟩, hl⟩
/-- nodes whose best is known, and where pieces lead from them -/
def okN (nx cs : Int → Int → Int) (nw to bym : Int) (lc le : Int → Int) (nd : Int → Prop) : Prop := (∀ k, nd k → 0 ≤ k ∧ k < 12000 ∧ Bst nx cs nw to bym k (lc k) (le k)) ∧ ∀ k w, nd k → 0 ≤ w → w < nw → 0 ≤ nx k w → nd (nx k w)
theorem gd_first {P : Int → Prop} (h : ∃ w, 0 ≤ w ∧ P w) : ∃ w, (0 ≤ w ∧ P w) ∧ ∀ v, 0 ≤ v → v < w → ¬ P v := by
  obtain ⟨w, w0, hw⟩ := h
  obtain ⟨k, hk, hk2⟩ := pk_least (fun n : Nat => P (n : Int)) ⟨w.toNat, by show P ((w.toNat : Nat) : Int); rwa [Int.toNat_of_nonneg w0]⟩
  refine ⟨k, ⟨by omega, hk⟩, fun v v0 v1 hv => hk2 v.toNat (by omega) ?_⟩
  show P ((v.toNat : Nat) : Int)
  rwa [Int.toNat_of_nonneg v0]
theorem fwy_ex (G : Gok nx cs nw) {nd : Int → Prop} (O : okN nx cs nw to bym lc le nd) : ∀ (d : Nat) (k : Int), nd k → lc k < 1000000 → 120 - k / 100 ≤ d → ∃ ws, fwy nx cs nw to lc le ws k ∧ (ws.length : Int) ≤ 119 - k / 100
  | 0, k, hk, hc, hd => by have := O.1 k hk; omega
  | d + 1, k, hk, hc, hd => by
    obtain ⟨k0, k1, kb⟩ := O.1 k hk
    by_cases ht : k % 100 = to
    · exact ⟨[], ht, by simp; omega⟩
    obtain ⟨w, gw, gl⟩ := Bst_good G k0 k1 ht kb hc (fun w w0 w1 w2 => (O.1 _ (O.2 k w hk w0 w1 w2)).2.2)
    obtain ⟨v, ⟨v0, vg⟩, vf⟩ := gd_first (P := gdp nx cs nw lc le k) ⟨w, gw.1, gw⟩
    have g := G k v k0 k1 v0 vg.2.1 vg.2.2.1
    have hl : lc (nx k v) < 1000000 := by have := vg.2.2.2.2; omega
    obtain ⟨ws, hw, hlen⟩ := fwy_ex G O d (nx k v) (O.2 k v hk v0 vg.2.1 vg.2.2.1) hl (by omega)
    exact ⟨v :: ws, ⟨ht, vg, vf, hw⟩, by simp only [List.length_cons]; omega⟩
theorem nod_0 (ws : List Int) (k : Int) : nod nx ws k 0 = k := by cases ws <;> rfl
/-- along a way: the node, its piece, the next one -/
theorem fwy_at {nd : Int → Prop} (O : okN nx cs nw to bym lc le nd) : ∀ (ws : List Int) (k : Int) (i : Nat), nd k → fwy nx cs nw to lc le ws k → i < ws.length → nd (nod nx ws k i) ∧ nod nx ws k i % 100 ≠ to ∧ gdp nx cs nw lc le (nod nx ws k i) (ws.getD i 0) ∧ (∀ v, 0 ≤ v → v < ws.getD i 0 → ¬ gdp nx cs nw lc le (nod nx ws k i) v) ∧ nod nx ws k (i + 1) = nx (nod nx ws k i) (ws.getD i 0)
  | [], _, _, _, _, hi => absurd hi (Nat.not_lt_zero _)
  | w :: ws, k, 0, hk, h, _ => ⟨hk, h.1, h.2.1, h.2.2.1, nod_0 ws _⟩
  | w :: ws, k, i + 1, hk, h, hi => fwy_at O ws (nx k w) i (O.2 k w hk h.2.1.1 h.2.1.2.1 h.2.1.2.2.1) h.2.2.2 (by simpa using hi)
theorem fwy_end : ∀ (ws : List Int) (k : Int), fwy nx cs nw to lc le ws k → nod nx ws k ws.length % 100 = to
  | [], _, h => h
  | w :: ws, k, h => fwy_end ws (nx k w) h.2.2.2
theorem pth_early (G : Gok nx cs nw) {nd : Int → Prop} (O : okN nx cs nw to bym lc le nd) : ∀ (ws : List Int) (k m : Int), nd k → fwy nx cs nw to lc le ws k → m < k / 100 → pth nx ws k m = -1
  | [], _, _, _, _, _ => rfl
  | w :: ws, k, m, hk, h, hm => by
    have k0 := O.1 k hk
    have g := G k w k0.1 k0.2.1 h.2.1.1 h.2.1.2.1 h.2.1.2.2.1
    simp only [pth]
    rw [if_neg (by omega)]
    exact pth_early G O ws _ m (O.2 k w hk h.2.1.1 h.2.1.2.1 h.2.1.2.2.1) h.2.2.2 (by omega)
theorem pth_late (G : Gok nx cs nw) {nd : Int → Prop} (O : okN nx cs nw to bym lc le nd) : ∀ (ws : List Int) (k m : Int), nd k → fwy nx cs nw to lc le ws k → nod nx ws k ws.length / 100 ≤ m → pth nx ws k m = -1 ∧ k / 100 ≤ nod nx ws k ws.length / 100
  | [], _, _, _, _, _ => ⟨rfl, Int.le_refl _⟩
  | w :: ws, k, m, hk, h, hm => by
    have k0 := O.1 k hk
    have g := G k w k0.1 k0.2.1 h.2.1.1 h.2.1.2.1 h.2.1.2.2.1
    have ih := pth_late G O ws _ m (O.2 k w hk h.2.1.1 h.2.1.2.1 h.2.1.2.2.1) h.2.2.2 hm
    have e : nod nx (w :: ws) k (w :: ws).length = nod nx ws (nx k w) ws.length := rfl
    rw [e] at hm ⊢
    simp only [pth]
    rw [if_neg (by omega)]
    exact ⟨ih.1, by omega⟩
theorem pth_at (G : Gok nx cs nw) {nd : Int → Prop} (O : okN nx cs nw to bym lc le nd) : ∀ (ws : List Int) (k m : Int) (i : Nat), nd k → fwy nx cs nw to lc le ws k → i < ws.length → nod nx ws k i / 100 ≤ m → m < nod nx ws k (i + 1) / 100 → pth nx ws k m = nod nx ws k i % 100
  | [], _, _, _, _, _, hi, _, _ => absurd hi (Nat.not_lt_zero _)
  | w :: ws, k, m, 0, hk, h, hi, h1, h2 => by
    have e : nod nx (w :: ws) k (0 + 1) = nx k w := nod_0 ws _
    rw [e] at h2
    rw [nod_0] at h1 ⊢
    simp only [pth]
    rw [if_pos ⟨h1, h2⟩]
  | w :: ws, k, m, i + 1, hk, h, hi, h1, h2 => by
    have e1 : nod nx (w :: ws) k (i + 1) = nod nx ws (nx k w) i := rfl
    have e2 : nod nx (w :: ws) k (i + 1 + 1) = nod nx ws (nx k w) (i + 1) := rfl
    rw [e1] at h1 ⊢
    rw [e2] at h2
    have hn := O.2 k w hk h.2.1.1 h.2.1.2.1 h.2.1.2.2.1
    have mono : nx k w / 100 ≤ nod nx ws (nx k w) i / 100 := by
      clear h1 h2
      have hx := h.2.2.2
      clear e1 e2 h
      revert hx hn
      have hi2 : i ≤ ws.length := by simp at hi; omega
      clear hi
      revert hi2
      generalize nx k w = j
      clear hk
      induction ws generalizing i j with
      | nil => intro _ _ _; exact Int.le_refl _
      | cons v vs ih =>
        intro hi2 hn hx
        cases i with
        | zero => exact Int.le_refl _
        | succ i =>
          have j0 := O.1 j hn
          have g := G j v j0.1 j0.2.1 hx.2.1.1 hx.2.1.2.1 hx.2.1.2.2.1
          have := ih i (nx j v) (by simpa using hi2) (O.2 j v hn hx.2.1.1 hx.2.1.2.1 hx.2.1.2.2.1) hx.2.2.2
          show j / 100 ≤ nod nx vs (nx j v) i / 100
          omega
    simp only [pth]
    rw [if_neg (by omega)]
    exact pth_at G O ws _ m i hn h.2.2.2 (by simpa using hi) h1 h2
end WY
