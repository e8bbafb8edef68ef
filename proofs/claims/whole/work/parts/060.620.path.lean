/-! ways: pieces from node to node (100 * minute + square), none but the last at the target -/
def pt (nx cs : Int → Int → Int) (nw to : Int) : List Int → Int → Int → Int → Prop
  | [], k, k', c => k = k' ∧ c = 0
  | w :: ws, k, k', c => k % 100 ≠ to ∧ 0 ≤ w ∧ w < nw ∧ 0 ≤ nx k w ∧ pt nx cs nw to ws (nx k w) k' (c - cs k w)
def Gok (nx cs : Int → Int → Int) (nw : Int) : Prop := ∀ k w, 0 ≤ k → k < 12000 → 0 ≤ w → w < nw → 0 ≤ nx k w → nx k w < 12000 ∧ k / 100 < nx k w / 100 ∧ 0 ≤ cs k w ∧ cs k w ≤ 1000 * (nx k w / 100 - k / 100)
section PT
variable {nx cs : Int → Int → Int} {nw to bym : Int}
theorem pt_rng (G : Gok nx cs nw) : ∀ (ws : List Int) (k k' c : Int), 0 ≤ k → k < 12000 → pt nx cs nw to ws k k' c → 0 ≤ k' ∧ k' < 12000 ∧ k / 100 ≤ k' / 100 ∧ 0 ≤ c ∧ c ≤ 1000 * (k' / 100 - k / 100) ∧ (k / 100 = k' / 100 → k = k')
  | [], k, k', c, h0, h1, h => by
    obtain ⟨rfl, rfl⟩ := h
    omega
  | w :: ws, k, k', c, h0, h1, h => by
    obtain ⟨h2, h3, h4, h5, h6⟩ := h
    have g := G k w h0 h1 h3 h4 h5
    have ih := pt_rng G ws (nx k w) k' _ h5 g.1 h6
    omega
theorem pt_app : ∀ (a b : List Int) (k k' c : Int), pt nx cs nw to (a ++ b) k k' c ↔ ∃ k1 c1, pt nx cs nw to a k k1 c1 ∧ pt nx cs nw to b k1 k' (c - c1)
  | [], b, k, k', c => by
    constructor
    · intro h; exact ⟨k, 0, ⟨rfl, rfl⟩, by simpa using h⟩
    · rintro ⟨k1, c1, ⟨rfl, rfl⟩, h⟩; simpa using h
  | w :: a, b, k, k', c => by
    simp only [List.cons_append, pt]
    constructor
    · rintro ⟨h1, h2, h3, h4, h5⟩
      obtain ⟨k1, c1, h6, h7⟩ := (pt_app a b _ _ _).mp h5
      exact ⟨k1, c1 + cs k w, ⟨h1, h2, h3, h4, by rwa [Int.add_sub_cancel]⟩, by rwa [show c - (c1 + cs k w) = c - cs k w - c1 by omega]⟩
    · rintro ⟨k1, c1, ⟨h1, h2, h3, h4, h5⟩, h6⟩
      exact ⟨h1, h2, h3, h4, (pt_app a b _ _ _).mpr ⟨k1, c1 - cs k w, h5, by rwa [show c - cs k w - (c1 - cs k w) = c - c1 by omega]⟩⟩
theorem pt_snoc (a : List Int) (w k k' c : Int) : pt nx cs nw to (a ++ [w]) k k' c ↔ ∃ k1 c1, pt nx cs nw to a k k1 c1 ∧ k1 % 100 ≠ to ∧ 0 ≤ w ∧ w < nw ∧ 0 ≤ nx k1 w ∧ k' = nx k1 w ∧ c = c1 + cs k1 w := by
  rw [pt_app]
  constructor
  · rintro ⟨k1, c1, h1, h2, h3, h4, h5, h6, h7⟩
    exact ⟨k1, c1, h1, h2, h3, h4, h5, h6.symm, by omega⟩
  · rintro ⟨k1, c1, h1, h2, h3, h4, h5, h6, h7⟩
    exact ⟨k1, c1, h1, h2, h3, h4, h5, h6.symm, by omega⟩
/-- the least cost from a node to the target by a minute, with it the soonest end; 1000000 where there is no way -/
def Bst (nx cs : Int → Int → Int) (nw to bym k c e : Int) : Prop :=
  (c < 1000000 → ∃ ws k', pt nx cs nw to ws k k' c ∧ k' % 100 = to ∧ k' / 100 = e ∧ e ≤ bym) ∧ (∀ ws k' c', pt nx cs nw to ws k k' c' → k' % 100 = to → k' / 100 ≤ bym → c < c' ∨ (c = c' ∧ e ≤ k' / 100)) ∧ c ≤ 1000000
theorem Bst_uni {k c e c' e' : Int} (h : Bst nx cs nw to bym k c e) (h' : Bst nx cs nw to bym k c' e') : c = c' ∧ (c < 1000000 → e = e') := by
  obtain ⟨h1, h2, h3⟩ := h
  obtain ⟨g1, g2, g3⟩ := h'
  by_cases hc : c < 1000000
  · obtain ⟨ws, k', p1, p2, p3, p4⟩ := h1 hc
    have a := g2 ws k' c p1 p2 (by omega)
    have hc' : c' < 1000000 := by omega
    obtain ⟨ws', k'', q1, q2, q3, q4⟩ := g1 hc'
    have b := h2 ws' k'' c' q1 q2 (by omega)
    omega
  · by_cases hc' : c' < 1000000
    · obtain ⟨ws', k'', q1, q2, q3, q4⟩ := g1 hc'
      have b := h2 ws' k'' c' q1 q2 (by omega)
      omega
    · omega
theorem Bst_nn (G : Gok nx cs nw) {k c e : Int} (h0 : 0 ≤ k) (h1 : k < 12000) (h : Bst nx cs nw to bym k c e) (hc : c < 1000000) : 0 ≤ c ∧ c ≤ 1000 * (119 - k / 100) ∧ k / 100 ≤ e ∧ e ≤ 119 ∧ e ≤ bym := by
  obtain ⟨ws, k', p1, p2, p3, p4⟩ := h.1 hc
  have := pt_rng G ws k k' c h0 h1 p1
  omega
theorem Bst_none (G : Gok nx cs nw) {k c e : Int} (h0 : 0 ≤ k) (h1 : k < 12000) (h : Bst nx cs nw to bym k c e) (hc : ¬ c < 1000000) {ws : List Int} {k' c' : Int} (hp : pt nx cs nw to ws k k' c') (ht : k' % 100 = to) : ¬ k' / 100 ≤ bym := by
  intro hb
  have a := h.2.1 ws k' c' hp ht hb
  have := pt_rng G ws k k' c' h0 h1 hp
  omega
/-- at the target -/
theorem Bst_at (G : Gok nx cs nw) {k : Int} (h0 : 0 ≤ k) (h1 : k < 12000) (ht : k % 100 = to) (hb : k / 100 ≤ bym) : Bst nx cs nw to bym k 0 (k / 100) := by
  refine ⟨fun _ => ⟨[], k, ⟨rfl, rfl⟩, ht, rfl, hb⟩, fun ws k' c' hp ht' hb' => ?_, by omega⟩
  have := pt_rng G ws k k' c' h0 h1 hp
  omega
/-- behind the last minute -/
theorem Bst_late (G : Gok nx cs nw) {k e : Int} (h0 : 0 ≤ k) (h1 : k < 12000) (hb : ¬ k / 100 ≤ bym) : Bst nx cs nw to bym k 1000000 e := by
  refine ⟨fun h => absurd h (by omega), fun ws k' c' hp ht' hb' => ?_, by omega⟩
  have := pt_rng G ws k k' c' h0 h1 hp
  omega
/-- one step back: the best of all pieces -/
theorem Bst_back (G : Gok nx cs nw) {k C E : Int} {lc le : Int → Int} (h0 : 0 ≤ k) (h1 : k < 12000) (ht : k % 100 ≠ to) (hn : ∀ w, 0 ≤ w → w < nw → 0 ≤ nx k w → Bst nx cs nw to bym (nx k w) (lc (nx k w)) (le (nx k w))) (hC : C ≤ 1000000) (hex : C < 1000000 → ∃ v, 0 ≤ v ∧ v < nw ∧ 0 ≤ nx k v ∧ lc (nx k v) < 1000000 ∧ C = cs k v + lc (nx k v) ∧ E = le (nx k v)) (hall : ∀ v, 0 ≤ v → v < nw → 0 ≤ nx k v → lc (nx k v) < 1000000 → C < cs k v + lc (nx k v) ∨ (C = cs k v + lc (nx k v) ∧ E ≤ le (nx k v))) : Bst nx cs nw to bym k C E := by
  refine ⟨fun hc => ?_, fun ws k' c' hp ht' hb' => ?_, hC⟩
  · obtain ⟨v, v0, v1, v2, v3, v4, v5⟩ := hex hc
    obtain ⟨ws, k', p1, p2, p3, p4⟩ := (hn v v0 v1 v2).1 v3
    refine ⟨v :: ws, k', ⟨ht, v0, v1, v2, ?_⟩, p2, by omega, by omega⟩
    rwa [show C - cs k v = lc (nx k v) by omega]
  · match ws, hp with
    | [], hp => obtain ⟨rfl, rfl⟩ := hp; exact absurd ht' ht
    | w :: ws, hp =>
      obtain ⟨_, w0, w1, w2, hp⟩ := hp
      have g := G k w h0 h1 w0 w1 w2
      have b := (hn w w0 w1 w2).2.1 ws k' _ hp ht' hb'
      have r := pt_rng G ws _ k' _ w2 g.1 hp
      have d := hall w w0 w1 w2
      by_cases hl : lc (nx k w) < 1000000
      · have := d hl
        omega
      · omega
end PT
/-- the town's graph -/
def nxT (tw sh : Int → Int) (p k w : Int) : Int := bhd tw sh p (k / 100) (k % 100) w
def csT (c : Int → Int) (p k w : Int) : Int := cst c p (k / 100) (k % 100) w
theorem plen_rng {w p : Int} (hp : 1 ≤ p ∧ p ≤ 3) : 1 ≤ plen w p ∧ plen w p ≤ 3 := by simp only [plen]; split <;> omega
theorem Gok_T {tw sh c : Int → Int} {p nw : Int} (hp : 1 ≤ p ∧ p ≤ 3) (hc : cB c) : Gok (nxT tw sh p) (csT c p) nw := by
  intro k w h0 h1 w0 w1 hn
  have hb := bhd_rng (tw := tw) (sh := sh) (w := w) hp (show 0 ≤ k / 100 ∧ k / 100 < 120 by omega) (show 0 ≤ k % 100 ∧ k % 100 < 100 by omega)
  have hl := plen_rng (w := w) hp
  simp only [nxT] at hn ⊢
  have hr := csm_rng (c := c) (m := k / 100) (s := k % 100) hc (by omega) (by omega) (plen w p).toNat (by omega)
  simp only [csT, cst]
  generalize bhd tw sh p (k / 100) (k % 100) w = b at *
  omega
