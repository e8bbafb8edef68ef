/-! the best costs and ends, and the first best way, as functions -/
theorem least_nat {P : Nat → Prop} : ∀ n, P n → ∃ m, P m ∧ ∀ j, P j → m ≤ j := by
  intro n
  induction n using Nat.strongRecOn with
  | _ n ih =>
    intro hn
    by_cases h : ∃ j, j < n ∧ P j
    · obtain ⟨j, h1, h2⟩ := h; exact ih j h1 h2
    · exact ⟨n, hn, fun j hj => Classical.byContradiction (fun z => h ⟨j, by omega, hj⟩)⟩
section CA
variable {nx cs : Int → Int → Int} {nw to bym : Int}
theorem Bst_ex (G : Gok nx cs nw) {k : Int} (h0 : 0 ≤ k) (h1 : k < 12000) : ∃ ce : Int × Int, Bst nx cs nw to bym k ce.1 ce.2 := by
  by_cases h : ∃ ws k' c, pt nx cs nw to ws k k' c ∧ k' % 100 = to ∧ k' / 100 ≤ bym
  · obtain ⟨ws, k', c, a, b, d⟩ := h
    have key : ∀ ws k' c, pt nx cs nw to ws k k' c → 0 ≤ c ∧ c ≤ 119000 ∧ 0 ≤ k' / 100 ∧ k' / 100 < 120 := fun ws k' c q => by have := pt_rng G ws k k' c h0 h1 q; omega
    obtain ⟨m, ⟨ws1, k1, c1, a1, a2, a3, a4⟩, hm⟩ := least_nat (P := fun n => ∃ ws k' c, pt nx cs nw to ws k k' c ∧ k' % 100 = to ∧ k' / 100 ≤ bym ∧ (n : Int) = 120 * c + k' / 100) (120 * c + k' / 100).toNat ⟨ws, k', c, a, b, d, by have := key _ _ _ a; omega⟩
    have r := key _ _ _ a1
    refine ⟨(c1, k1 / 100), fun _ => ⟨ws1, k1, a1, a2, rfl, a3⟩, fun ws2 k2 c2 b1 b2 b3 => ?_, by show c1 ≤ 1000000; omega⟩
    have r2 := key _ _ _ b1
    have := hm (120 * c2 + k2 / 100).toNat ⟨ws2, k2, c2, b1, b2, b3, by omega⟩
    show c1 < c2 ∨ (c1 = c2 ∧ k1 / 100 ≤ k2 / 100)
    omega
  · exact ⟨(1000000, 0), fun z => absurd z (by decide), fun ws k' c a b d => absurd ⟨ws, k', c, a, b, d⟩ h, by decide⟩
noncomputable def bC (nx cs : Int → Int → Int) (nw to bym k : Int) : Int × Int := @dite _ (∃ ce : Int × Int, Bst nx cs nw to bym k ce.1 ce.2) (Classical.propDecidable _) (fun h => Classical.choose h) (fun _ => (1000000, 0))
theorem bC_ok (G : Gok nx cs nw) {k : Int} (h0 : 0 ≤ k) (h1 : k < 12000) : Bst nx cs nw to bym k (bC nx cs nw to bym k).1 (bC nx cs nw to bym k).2 := by
  have h := Bst_ex (to := to) (bym := bym) G h0 h1
  rw [bC, dif_pos h]
  exact Classical.choose_spec h
/-- the first best way -/
noncomputable def wC (nx cs : Int → Int → Int) (nw to bym k : Int) : List Int := @dite _ (∃ ws, fwy nx cs nw to (fun k => (bC nx cs nw to bym k).1) (fun k => (bC nx cs nw to bym k).2) ws k) (Classical.propDecidable _) (fun h => Classical.choose h) (fun _ => [])
theorem wC_eq {k : Int} {ws : List Int} (h : fwy nx cs nw to (fun k => (bC nx cs nw to bym k).1) (fun k => (bC nx cs nw to bym k).2) ws k) : wC nx cs nw to bym k = ws := by
  have h2 : ∃ ws, fwy nx cs nw to (fun k => (bC nx cs nw to bym k).1) (fun k => (bC nx cs nw to bym k).2) ws k := ⟨ws, h⟩
  rw [wC, dif_pos h2]
  exact fwy_uni _ _ _ (Classical.choose_spec h2) h
end CA
/-- a town's day: least sun from a minute and a square, the minute when one is there, the way -/
noncomputable def lsC (tw : Int → Int) (vf : Int → Int → Int → Int32) (d p to bym k : Int) : Int := (bC (nxT tw (shC tw vf d) p) (csT (snC tw vf d) p) 5 to bym k).1
noncomputable def enC (tw : Int → Int) (vf : Int → Int → Int → Int32) (d p to bym k : Int) : Int := (bC (nxT tw (shC tw vf d) p) (csT (snC tw vf d) p) 5 to bym k).2
noncomputable def wyC (tw : Int → Int) (vf : Int → Int → Int → Int32) (d p to bym k : Int) : List Int := wC (nxT tw (shC tw vf d) p) (csT (snC tw vf d) p) 5 to bym k
section CB
variable {tw : Int → Int} {vf : Int → Int → Int → Int32} {d p to bym : Int}
theorem lsC_ok (hp : 1 ≤ p ∧ p ≤ 3) {k : Int} (h0 : 0 ≤ k) (h1 : k < 12000) : Bst (nxT tw (shC tw vf d) p) (csT (snC tw vf d) p) 5 to bym k (lsC tw vf d p to bym k) (enC tw vf d p to bym k) := bC_ok (Gok_T hp (snC_cB tw vf d)) h0 h1
theorem lsC_eq {sh c : Int → Int} (hp : 1 ≤ p ∧ p ≤ 3) (hs : ∀ k, 0 ≤ k → k < 12000 → sh k = shC tw vf d k) (hcB : cB c) (hc : ∀ k, 0 ≤ k → k < 12000 → c k = snC tw vf d k) {k C E : Int} (h0 : 0 ≤ k) (h1 : k < 12000) (hB : Bst (nxT tw sh p) (csT c p) 5 to bym k C E) : C = lsC tw vf d p to bym k ∧ (C < 1000000 → E = enC tw vf d p to bym k) :=
  Bst_uni (Bst_agr (Agr_T hp hs hc) (Gok_T hp hcB) h0 h1 hB) (lsC_ok hp h0 h1)
theorem wyC_eq {sh c lc le : Int → Int} (hp : 1 ≤ p ∧ p ≤ 3) (hs : ∀ k, 0 ≤ k → k < 12000 → sh k = shC tw vf d k) (hcB : cB c) (hc : ∀ k, 0 ≤ k → k < 12000 → c k = snC tw vf d k) (hB : ∀ k, 0 ≤ k → k < 12000 → tw (k % 100) ≠ 1 → Bst (nxT tw sh p) (csT c p) 5 to bym k (lc k) (le k)) {k : Int} {ws : List Int} (hk : ndT tw k) (hl : lc k < 1000000) (hw : fwy (nxT tw sh p) (csT c p) 5 to lc le ws k) : wyC tw vf d p to bym k = ws ∧ ∀ m, pth (nxT tw sh p) ws k m = pth (nxT tw (shC tw vf d) p) ws k m := by
  have key := fwy_agr (nd := ndT tw) (Agr_T hp hs hc) (Gok_T hp hcB) (fun k h => ⟨h.1, h.2.1⟩) (fun k h => lsC_eq hp hs hcB hc h.1 h.2.1 (hB k h.1 h.2.1 h.2.2)) (fun k w h _ _ hn => ⟨hn, (nxT_ok hp h.1 h.2.1 hn).1, (nxT_ok hp h.1 h.2.1 hn).2.2.1⟩) ws k hk hl hw
  exact ⟨wC_eq key.1, key.2⟩
theorem lsC_rng (hp : 1 ≤ p ∧ p ≤ 3) {k : Int} (h0 : 0 ≤ k) (h1 : k < 12000) (hl : lsC tw vf d p to bym k < 1000000) : 0 ≤ lsC tw vf d p to bym k ∧ lsC tw vf d p to bym k ≤ 1000 * (119 - k / 100) ∧ k / 100 ≤ enC tw vf d p to bym k ∧ enC tw vf d p to bym k ≤ 119 ∧ enC tw vf d p to bym k ≤ bym := Bst_nn (Gok_T hp (snC_cB tw vf d)) h0 h1 (lsC_ok hp h0 h1) hl
end CB
