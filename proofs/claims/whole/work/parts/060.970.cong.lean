/-! the same graph on both sides -/
noncomputable def snC (tw : Int → Int) (vf : Int → Int → Int → Int32) (d k : Int) : Int := @ite Int (dimP tw vf d (k / 100) (k % 100)) (Classical.propDecidable _) 0 1
noncomputable def shC (tw : Int → Int) (vf : Int → Int → Int → Int32) (d k : Int) : Int := @ite Int (clP tw vf 4 d (k / 100) (k % 100) (tw 200)) (Classical.propDecidable _) 1 0
theorem snC_01 (tw : Int → Int) (vf : Int → Int → Int → Int32) (d k : Int) : (snC tw vf d k = 0 ∧ dimP tw vf d (k / 100) (k % 100)) ∨ (snC tw vf d k = 1 ∧ ¬ dimP tw vf d (k / 100) (k % 100)) := by
  rw [snC]
  by_cases h : dimP tw vf d (k / 100) (k % 100)
  · exact Or.inl ⟨if_pos h, h⟩
  · exact Or.inr ⟨if_neg h, h⟩
theorem shC_01 (tw : Int → Int) (vf : Int → Int → Int → Int32) (d k : Int) : (shC tw vf d k = 1 ∧ clP tw vf 4 d (k / 100) (k % 100) (tw 200)) ∨ (shC tw vf d k = 0 ∧ ¬ clP tw vf 4 d (k / 100) (k % 100) (tw 200)) := by
  rw [shC]
  by_cases h : clP tw vf 4 d (k / 100) (k % 100) (tw 200)
  · exact Or.inl ⟨if_pos h, h⟩
  · exact Or.inr ⟨if_neg h, h⟩
theorem shC_i32 (tw : Int → Int) (vf : Int → Int → Int → Int32) (d : Int) : i32 (shC tw vf d) := fun k => by have := shC_01 tw vf d k; omega
theorem snC_cB (tw : Int → Int) (vf : Int → Int → Int → Int32) (d : Int) : cB (snC tw vf d) := fun k _ _ => by have := snC_01 tw vf d k; omega
theorem dayR_C {tw : Int → Int} {vf : Int → Int → Int → Int32} {d : Int} {sn shA : Int → Int} (h : dayR tw vf d sn shA) {k : Int} (h0 : 0 ≤ k) (h1 : k < 12000) : sn k = snC tw vf d k ∧ shA k = shC tw vf d k := by
  have a := snC_01 tw vf d k
  have b := shC_01 tw vf d k
  obtain ⟨c, e⟩ := h k h0 h1
  constructor
  · rcases a with a | a <;> rcases c with c | c
    · omega
    · exact absurd a.2 c.2
    · exact absurd c.2 a.2
    · omega
  · rcases b with b | b <;> rcases e with e | e
    · omega
    · exact absurd b.2 e.2
    · exact absurd e.2 b.2
    · omega
section CG
variable {nx nx' cs cs' : Int → Int → Int} {nw to : Int}
/-- two graphs that agree -/
def Agr (nx cs nx' cs' : Int → Int → Int) (nw : Int) : Prop := ∀ k w, 0 ≤ k → k < 12000 → 0 ≤ w → w < nw → nx k w = nx' k w ∧ (0 ≤ nx k w → cs k w = cs' k w)
theorem Agr_symm (h : Agr nx cs nx' cs' nw) : Agr nx' cs' nx cs nw := fun k w a b c d => ⟨(h k w a b c d).1.symm, fun z => ((h k w a b c d).2 (by rw [(h k w a b c d).1]; exact z)).symm⟩
theorem Gok_agr (h : Agr nx cs nx' cs' nw) (G : Gok nx cs nw) : Gok nx' cs' nw := by
  intro k w a b c d e
  have q := h k w a b c d
  rw [← q.1] at e ⊢
  rw [← q.2 e]
  exact G k w a b c d e
theorem pt_agr (h : Agr nx cs nx' cs' nw) (G : Gok nx cs nw) : ∀ (ws : List Int) (k k' c : Int), 0 ≤ k → k < 12000 → pt nx cs nw to ws k k' c → pt nx' cs' nw to ws k k' c
  | [], _, _, _, _, _, z => z
  | w :: ws, k, k', c, a, b, z => by
    obtain ⟨z1, z2, z3, z4, z5⟩ := z
    have q := h k w a b z2 z3
    have g := G k w a b z2 z3 z4
    have ih := pt_agr h G ws _ k' _ z4 g.1 z5
    refine ⟨z1, z2, z3, by rw [← q.1]; exact z4, ?_⟩
    rw [← q.1, ← q.2 z4]
    exact ih
theorem Bst_agr (h : Agr nx cs nx' cs' nw) (G : Gok nx cs nw) {bym k c e : Int} (a : 0 ≤ k) (b : k < 12000) (hB : Bst nx cs nw to bym k c e) : Bst nx' cs' nw to bym k c e := by
  have h' := Agr_symm h
  have G' := Gok_agr h G
  refine ⟨fun z => ?_, fun ws k' c' z z1 z2 => hB.2.1 ws k' c' (pt_agr h' G' ws k k' c' a b z) z1 z2, hB.2.2⟩
  obtain ⟨ws, k', p1, p2⟩ := hB.1 z
  exact ⟨ws, k', pt_agr h G ws k k' c a b p1, p2⟩
theorem Rch_agr (h : Agr nx cs nx' cs' nw) (G : Gok nx cs nw) {k0 k r : Int} (a : 0 ≤ k0) (b : k0 < 12000) (hB : Rch nx cs nw to k0 k r) : Rch nx' cs' nw to k0 k r := by
  have h' := Agr_symm h
  have G' := Gok_agr h G
  refine ⟨fun z => ?_, fun ws c z => hB.2.1 ws c (pt_agr h' G' ws k0 k c a b z), hB.2.2⟩
  obtain ⟨ws, p1⟩ := hB.1 z
  exact ⟨ws, pt_agr h G ws k0 k r a b p1⟩
theorem gdp_agr (h : Agr nx cs nx' cs' nw) {lc le lc' le' : Int → Int} {nd : Int → Prop} (hn : ∀ k, nd k → 0 ≤ k ∧ k < 12000) (hl : ∀ k, nd k → lc k = lc' k ∧ (lc k < 1000000 → le k = le' k)) (hnx : ∀ k w, nd k → 0 ≤ w → w < nw → 0 ≤ nx k w → nd (nx k w)) {k w : Int} (hk : nd k) (hc : lc k < 1000000) (hp : ∀ w, 0 ≤ w → w < nw → 0 ≤ nx k w → 0 ≤ cs k w) : gdp nx cs nw lc le k w ↔ gdp nx' cs' nw lc' le' k w := by
  have r := hn k hk
  have lk := hl k hk
  constructor
  · rintro ⟨w0, w1, w2, w3, w4⟩
    have q := h k w r.1 r.2 w0 w1
    have c0 := hp w w0 w1 w2
    have n2 := hl _ (hnx k w hk w0 w1 w2)
    refine ⟨w0, w1, by rw [← q.1]; exact w2, ?_, ?_⟩
    · rw [← q.1, ← n2.2 (by omega), ← lk.2 hc]; exact w3
    · rw [← q.1, ← q.2 w2, ← n2.1, ← lk.1]; exact w4
  · rintro ⟨w0, w1, w2, w3, w4⟩
    have q := h k w r.1 r.2 w0 w1
    rw [← q.1] at w2 w3 w4
    have c0 := hp w w0 w1 w2
    have n2 := hl _ (hnx k w hk w0 w1 w2)
    rw [← q.2 w2, ← n2.1, ← lk.1] at w4
    refine ⟨w0, w1, w2, ?_, w4⟩
    rw [n2.2 (by omega), lk.2 hc]; exact w3
/-- the first best way is the same -/
theorem fwy_agr (h : Agr nx cs nx' cs' nw) (G : Gok nx cs nw) {lc le lc' le' : Int → Int} {nd : Int → Prop} (hn : ∀ k, nd k → 0 ≤ k ∧ k < 12000) (hl : ∀ k, nd k → lc k = lc' k ∧ (lc k < 1000000 → le k = le' k)) (hnx : ∀ k w, nd k → 0 ≤ w → w < nw → 0 ≤ nx k w → nd (nx k w)) : ∀ (ws : List Int) (k : Int), nd k → lc k < 1000000 → fwy nx cs nw to lc le ws k → fwy nx' cs' nw to lc' le' ws k ∧ ∀ m, pth nx ws k m = pth nx' ws k m
  | [], _, _, _, z => ⟨z, fun _ => rfl⟩
  | w :: ws, k, hk, hc, z => by
    obtain ⟨z1, z2, z3, z4⟩ := z
    have r := hn k hk
    have hp : ∀ w, 0 ≤ w → w < nw → 0 ≤ nx k w → 0 ≤ cs k w := fun w a b c => (G k w r.1 r.2 a b c).2.2.1
    have e := fun v => gdp_agr (w := v) h hn hl hnx hk hc hp
    have q := h k w r.1 r.2 z2.1 z2.2.1
    have c0 := hp w z2.1 z2.2.1 z2.2.2.1
    have ih := fwy_agr h G hn hl hnx ws (nx k w) (hnx k w hk z2.1 z2.2.1 z2.2.2.1) (by have := z2.2.2.2.2; omega) z4
    refine ⟨⟨z1, (e w).mp z2, fun v v0 v1 y => z3 v v0 v1 ((e v).mpr y), by rw [← q.1]; exact ih.1⟩, fun m => ?_⟩
    simp only [pth]
    rw [← q.1, ih.2 m]
end CG
theorem nxT_agr {tw sh sh' : Int → Int} {p : Int} (hp : 1 ≤ p ∧ p ≤ 3) (h : ∀ k, 0 ≤ k → k < 12000 → sh k = sh' k) {k w : Int} (h0 : 0 ≤ k) (h1 : k < 12000) : nxT tw sh p k w = nxT tw sh' p k w := by
  simp only [nxT, bhd]
  have hl := plen_rng (w := w) hp
  have hs := stp_rng (s := k % 100) (w := w) (show 0 ≤ k % 100 ∧ k % 100 < 100 by omega)
  by_cases hc : k / 100 + plen w p > 119 ∨ (if w = 4 then k % 100 else stp (k % 100) w) = -1
  · rw [if_pos (by rcases hc with z | z; exact Or.inl z; exact Or.inr (Or.inl z)), if_pos (by rcases hc with z | z; exact Or.inl z; exact Or.inr (Or.inl z))]
  · have hr : 0 ≤ (if w = 4 then k % 100 else stp (k % 100) w) ∧ (if w = 4 then k % 100 else stp (k % 100) w) < 100 := by
      split
      · omega
      · next z =>
        rw [if_neg z] at hc
        rcases hs with y | y
        · exact absurd (Or.inr y) hc
        · exact y
    rw [h (100 * (k / 100 + plen w p) + (if w = 4 then k % 100 else stp (k % 100) w)) (by omega) (by omega)]
theorem csT_agr {tw sh c c' : Int → Int} {p : Int} (hp : 1 ≤ p ∧ p ≤ 3) (h : ∀ k, 0 ≤ k → k < 12000 → c k = c' k) {k w : Int} (h0 : 0 ≤ k) (h1 : k < 12000) (hn : 0 ≤ nxT tw sh p k w) : csT c p k w = csT c' p k w := by
  have a := nxT_ok hp h0 h1 hn
  refine csm_same _ (fun i hi => ?_)
  have hl := plen_rng (w := w) hp
  exact (h _ (by omega) (by omega))
theorem Agr_T {tw sh sh' c c' : Int → Int} {p nw : Int} (hp : 1 ≤ p ∧ p ≤ 3) (hs : ∀ k, 0 ≤ k → k < 12000 → sh k = sh' k) (hc : ∀ k, 0 ≤ k → k < 12000 → c k = c' k) : Agr (nxT tw sh p) (csT c p) (nxT tw sh' p) (csT c' p) nw := fun _ _ a b _ _ => ⟨nxT_agr hp hs a b, fun z => csT_agr hp hc a b z⟩
