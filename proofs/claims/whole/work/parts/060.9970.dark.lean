/-! dark: the reference's rows -/
section DK
variable {nx cs : Int → Int → Int} {to : Int}
/-- the first minute when one is there all the way in the shade -/
def Dk (nx cs : Int → Int → Int) (to k r : Int) : Prop := (r < 1000000 → ∃ ws k', pt nx cs 5 to ws k k' 0 ∧ k' % 100 = to ∧ k' / 100 = r) ∧ (∀ ws k', pt nx cs 5 to ws k k' 0 → k' % 100 = to → r ≤ k' / 100) ∧ 0 ≤ r ∧ r ≤ 1000000
theorem Dk_Bst (G : Gok nx cs 5) {k C E r : Int} (h0 : 0 ≤ k) (h1 : k < 12000) (hB : Bst nx cs 5 to 119 k C E) (h : Dk nx cs to k r) : r = if C = 0 then E else 1000000 := by
  obtain ⟨d1, d2, d3, d4⟩ := h
  by_cases hc : C = 0
  · rw [if_pos hc]
    obtain ⟨ws, k', a, b, c, e⟩ := hB.1 (by omega)
    rw [hc] at a
    have := d2 ws k' a b
    obtain ⟨ws2, k2, a2, b2, c2⟩ := d1 (by have := pt_rng G ws k k' 0 h0 h1 a; omega)
    have r2 := pt_rng G ws2 k k2 0 h0 h1 a2
    have := hB.2.1 ws2 k2 0 a2 b2 (by omega)
    omega
  · rw [if_neg hc]
    by_cases hr : r < 1000000
    · obtain ⟨ws2, k2, a2, b2, c2⟩ := d1 hr
      have r2 := pt_rng G ws2 k k2 0 h0 h1 a2
      have q := hB.2.1 ws2 k2 0 a2 b2 (by omega)
      have := Bst_nn G h0 h1 hB (by omega)
      omega
    · omega
theorem Dk_at {k : Int} (h0 : 0 ≤ k) (h1 : k < 12000) (ht : k % 100 = to) : Dk nx cs to k (k / 100) := by
  refine ⟨fun _ => ⟨[], k, ⟨rfl, rfl⟩, ht, rfl⟩, fun ws k' h _ => ?_, by omega, by omega⟩
  cases ws with
  | nil => rw [h.1]; exact Int.le_refl _
  | cons w ws => exact absurd ht h.1
/-- so many ways looked at -/
def dkW (nx cs : Int → Int → Int) (R : Int → Int) (k n r : Int) : Prop := (r < 1000000 → ∃ w, 0 ≤ w ∧ w < n ∧ 0 ≤ nx k w ∧ cs k w = 0 ∧ R (nx k w) = r) ∧ (∀ w, 0 ≤ w → w < n → 0 ≤ nx k w → cs k w = 0 → r ≤ R (nx k w)) ∧ 0 ≤ r ∧ r ≤ 1000000
theorem Dk_back (G : Gok nx cs 5) {R : Int → Int} {k r : Int} (h0 : 0 ≤ k) (h1 : k < 12000) (ht : k % 100 ≠ to) (hn : ∀ w, 0 ≤ w → w < 5 → 0 ≤ nx k w → Dk nx cs to (nx k w) (R (nx k w))) (h : dkW nx cs R k 5 r) : Dk nx cs to k r := by
  obtain ⟨d1, d2, d3, d4⟩ := h
  refine ⟨fun z => ?_, fun ws k' q e => ?_, d3, d4⟩
  · obtain ⟨w, a, b, c, e, f⟩ := d1 z
    obtain ⟨ws, k', x, y, u⟩ := (hn w a b c).1 (by omega)
    exact ⟨w :: ws, k', ⟨ht, a, b, c, by rw [e]; exact x⟩, y, by omega⟩
  · cases ws with
    | nil => rw [← q.1] at e; exact absurd e ht
    | cons w ws =>
      obtain ⟨q1, q2, q3, q4, q5⟩ := q
      have g := G k w h0 h1 q2 q3 q4
      have r5 := pt_rng G ws _ k' _ q4 g.1 q5
      have e0 : cs k w = 0 := by omega
      rw [e0] at q5
      have := (hn w q2 q3 q4).2.1 ws k' q5 e
      have := d2 w q2 q3 q4 e0
      omega
theorem dkW_0 {R : Int → Int} {k : Int} : dkW nx cs R k 0 1000000 := ⟨fun z => absurd z (by decide), fun w a b => by omega, by decide, by decide⟩
theorem dkW_step {R : Int → Int} {k n r r' : Int} (hn : 0 ≤ n) (h : dkW nx cs R k n r) (hR : 0 ≤ nx k n → 0 ≤ R (nx k n) ∧ R (nx k n) ≤ 1000000) (h1 : 0 ≤ nx k n → cs k n = 0 → r' = if R (nx k n) < r then R (nx k n) else r) (h2 : ¬ (0 ≤ nx k n ∧ cs k n = 0) → r' = r) : dkW nx cs R k (n + 1) r' := by
  obtain ⟨d1, d2, d3, d4⟩ := h
  by_cases hg : 0 ≤ nx k n ∧ cs k n = 0
  · have e := h1 hg.1 hg.2
    have rr := hR hg.1
    by_cases q : R (nx k n) < r
    · rw [if_pos q] at e
      refine ⟨fun _ => ⟨n, hn, by omega, hg.1, hg.2, e.symm⟩, fun w a b c f => ?_, by omega, by omega⟩
      by_cases w_ : w = n
      · subst w_; omega
      · have := d2 w a (by omega) c f; omega
    · rw [if_neg q] at e
      refine ⟨fun z => ?_, fun w a b c f => ?_, by omega, by omega⟩
      · obtain ⟨w, x⟩ := d1 (by omega); exact ⟨w, x.1, by have := x.2.1; omega, x.2.2.1, x.2.2.2.1, by rw [e]; exact x.2.2.2.2⟩
      · by_cases w_ : w = n
        · subst w_; omega
        · have := d2 w a (by omega) c f; omega
  · have e := h2 hg
    refine ⟨fun z => ?_, fun w a b c f => ?_, by omega, by omega⟩
    · obtain ⟨w, x⟩ := d1 (by omega); exact ⟨w, x.1, by have := x.2.1; omega, x.2.2.1, x.2.2.2.1, by rw [e]; exact x.2.2.2.2⟩
    · by_cases w_ : w = n
      · subst w_; exact absurd ⟨c, f⟩ hg
      · have := d2 w a (by omega) c f; omega
end DK
theorem csm_le {c : Int → Int} {m s : Int} (hc : cB c) (hm : 0 ≤ m) (hs : 0 ≤ s ∧ s < 100) (a : Nat) : ∀ b : Nat, m + (a + b : Nat) ≤ 120 → csm c m s a ≤ csm c m s (a + b)
  | 0, _ => Int.le_refl _
  | b + 1, h => by
    have ih := csm_le hc hm hs a b (by omega)
    have := hc (100 * (m + (a + b : Nat)) + s) (by omega) (by omega)
    rw [show a + (b + 1) = (a + b) + 1 from rfl, csm]
    omega
section D2
variable {tw sn sh : Int → Int} {p k w : Int}
/-- whether all of a piece is in the shade -/
theorem p_dkin (hp : 1 ≤ p ∧ p ≤ 3) (hsn : cB sn) (h0 : 0 ≤ k) (h1 : k < 12000) (hn : 0 ≤ nxT tw sh p k w) {X : Int32 → Int32 → (Nat → Int32) → (Nat → Int32) → (Nat → Int32) → (Nat → Int32) → (Nat → Int32) → (Nat → Int32) → Int32 → Int32 → Int32 → Int32 → Int32 → Int32 → Int32 → Int32 → Prop} {towns op arg : Nat → Int32} {post : Int32 → Int32 → Int32 → (Nat → Int32) → (Nat → Int32) → (Nat → Int32) → (Nat → Int32) → (Nat → Int32) → (Nat → Int32) → Prop} {x1 x2 y1 y2 y3 y4 y5 : Int32} {z1 z2 z3 z4 z5 : Nat → Int32}
    (hX1 : csT sn p k w = 0 → X x1 x2 z1 (zA sn) z2 z3 z4 z5 y1 y2 y3 y4 (zi k) y5 (zi (nxT tw sh p k w)) 1) (hX0 : csT sn p k w ≠ 0 → X x1 x2 z1 (zA sn) z2 z3 z4 z5 y1 y2 y3 y4 (zi k) y5 (zi (nxT tw sh p k w)) 0) :
    ∃ n, lp (wp_X12_dark_L149 X towns op arg post) n (x1, x2, z1, zA sn, z2, z3, z4, z5, y1, y2, y3, y4, zi k, y5, zi (nxT tw sh p k w), 1, zi (k / 100)) := by
  have nk := nxT_ok hp h0 h1 hn
  have pl := plen_rng (w := w) hp
  have eL : csT sn p k w = csm sn (k / 100) (k % 100) (plen w p).toNat := rfl
  rw [eL] at hX1 hX0
  refine lp_inv (fun i s' => s' = (x1, x2, z1, zA sn, z2, z3, z4, z5, y1, y2, y3, y4, zi k, y5, zi (nxT tw sh p k w), (if csm sn (k / 100) (k % 100) i = 0 then 1 else 0), zi (k / 100 + i))) (plen w p).toNat ?_ ?_ 0 (Nat.zero_le _) (by simp [csm])
  · rintro s' rfl kb
    simp (disch := omega) only [wp_X12_dark_L149, zi_lit, zi_div, zi_le]
    by_cases q : csm sn (k / 100) (k % 100) (plen w p).toNat = 0
    · simp only [if_pos q]
      exact ⟨fun z => absurd z (by decide), fun _ => ⟨fun _ => hX1 q, fun z => by omega⟩⟩
    · simp only [if_neg q]
      exact ⟨fun _ => hX0 q, fun z => absurd trivial z⟩
  · rintro i hi s' rfl kb hkb
    have hle := csm_le hsn (m := k / 100) (s := k % 100) (by omega) (by omega) i ((plen w p).toNat - i) (by omega)
    rw [show i + ((plen w p).toNat - i) = (plen w p).toNat by omega] at hle
    have hci := csm_rng hsn (m := k / 100) (s := k % 100) (by omega) (by omega) i (by omega)
    have hsi := hsn (100 * (k / 100 + i) + k % 100) (by omega) (by omega)
    have hni : k / 100 + ((i + 1 : Nat) : Int) = k / 100 + i + 1 := by omega
    have kb' := hkb _ rfl
    rw [hni, csm] at kb'
    by_cases q : csm sn (k / 100) (k % 100) i = 0
    · simp (disch := omega) only [wp_X12_dark_L149, if_pos q, forall_eq, zi_lit, zi_div, zi_rem, zi_mul, zi_add, zi_le, zi_in, zA_get, zi_eq]
      refine ⟨fun z => absurd z (by decide), fun _ => ⟨fun z => by omega, fun _ => ⟨by omega, fun z => ?_, fun z => ?_⟩⟩⟩
      · rw [if_neg (by omega)] at kb'; exact kb'
      · rw [if_pos (by omega)] at kb'; exact kb'
    · simp only [wp_X12_dark_L149, if_neg q]
      exact ⟨fun _ => hX0 (by omega), fun z => absurd trivial z⟩
end D2
