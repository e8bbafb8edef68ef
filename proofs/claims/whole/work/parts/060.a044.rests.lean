/-! rests: what is counted on a way -/
section RS
variable {tw : Int → Int} {vf : Int → Int → Int → Int32} {d p to bym : Int}
theorem wyC_ok (hp : 1 ≤ p ∧ p ≤ 3) {k : Int} (hk : ndT tw k) (hl : lsC tw vf d p to bym k < 1000000) : fwy (nxT tw (shC tw vf d) p) (csT (snC tw vf d) p) 5 to (fun k => lsC tw vf d p to bym k) (fun k => enC tw vf d p to bym k) (wyC tw vf d p to bym k) k ∧ ((wyC tw vf d p to bym k).length : Int) ≤ 119 - k / 100 := by
  have O := okN_T (tw := tw) (sh := shC tw vf d) (c := snC tw vf d) (to := to) (bym := bym) (nw := 5) (lc := fun k => lsC tw vf d p to bym k) (le := fun k => enC tw vf d p to bym k) hp (fun k a b _ => lsC_ok hp a b)
  obtain ⟨ws, hw, hlen⟩ := fwy_ex (Gok_T hp (snC_cB tw vf d)) O (120 - k / 100).toNat k hk hl (by have := hk.1; have := hk.2.1; omega)
  have e : wyC tw vf d p to bym k = ws := wC_eq hw
  rw [e]
  exact ⟨hw, hlen⟩
/-- the pieces of the way -/
theorem wyC_at (hp : 1 ≤ p ∧ p ≤ 3) {k : Int} (hk : ndT tw k) (hl : lsC tw vf d p to bym k < 1000000) {i : Nat} (hi : i < (wyC tw vf d p to bym k).length) : ndT tw (nod (nxT tw (shC tw vf d) p) (wyC tw vf d p to bym k) k i) ∧ (0 ≤ (wyC tw vf d p to bym k).getD i 0 ∧ (wyC tw vf d p to bym k).getD i 0 < 5) ∧ ndT tw (nod (nxT tw (shC tw vf d) p) (wyC tw vf d p to bym k) k (i + 1)) ∧ nod (nxT tw (shC tw vf d) p) (wyC tw vf d p to bym k) k (i + 1) / 100 = nod (nxT tw (shC tw vf d) p) (wyC tw vf d p to bym k) k i / 100 + plen ((wyC tw vf d p to bym k).getD i 0) p ∧ nod (nxT tw (shC tw vf d) p) (wyC tw vf d p to bym k) k (i + 1) % 100 = (if (wyC tw vf d p to bym k).getD i 0 = 4 then nod (nxT tw (shC tw vf d) p) (wyC tw vf d p to bym k) k i % 100 else stp (nod (nxT tw (shC tw vf d) p) (wyC tw vf d p to bym k) k i % 100) ((wyC tw vf d p to bym k).getD i 0)) := by
  have O := okN_T (tw := tw) (sh := shC tw vf d) (c := snC tw vf d) (to := to) (bym := bym) (nw := 5) (lc := fun k => lsC tw vf d p to bym k) (le := fun k => enC tw vf d p to bym k) hp (fun k a b _ => lsC_ok hp a b)
  have f := wyC_ok hp hk hl
  generalize wyC tw vf d p to bym k = ws at *
  obtain ⟨x1, x2, x3, x4, x5⟩ := fwy_at O ws k i hk f.1 hi
  obtain ⟨g1, g2, g3, g4, g5⟩ := x3
  have hn : ndT tw (nod (nxT tw (shC tw vf d) p) ws k (i + 1)) := by rw [x5]; exact O.2 _ _ x1 g1 g2 g3
  have b := bhd_rng (tw := tw) (sh := shC tw vf d) (w := ws.getD i 0) hp (show 0 ≤ nod (nxT tw (shC tw vf d) p) ws k i / 100 ∧ nod (nxT tw (shC tw vf d) p) ws k i / 100 < 120 by have := x1.1; have := x1.2.1; omega) (show 0 ≤ nod (nxT tw (shC tw vf d) p) ws k i % 100 ∧ nod (nxT tw (shC tw vf d) p) ws k i % 100 < 100 by omega)
  have e : bhd tw (shC tw vf d) p (nod (nxT tw (shC tw vf d) p) ws k i / 100) (nod (nxT tw (shC tw vf d) p) ws k i % 100) (ws.getD i 0) = nxT tw (shC tw vf d) p (nod (nxT tw (shC tw vf d) p) ws k i) (ws.getD i 0) := rfl
  rw [e, ← x5] at b
  have h0 := hn.1
  rcases b with b | b
  · omega
  · exact ⟨x1, ⟨g1, g2⟩, hn, b.2.2.1, b.2.2.2.1⟩
theorem pt_sp {fr : Int} (hp : 1 ≤ p ∧ p ≤ 3) {sh c : Int → Int} : ∀ (ws : List Int) (k k' v : Int) (n : Nat), 0 ≤ k → k < 12000 → spN tw fr n (k % 100) → pt (nxT tw sh p) (csT c p) 5 to ws k k' v → ∃ n', spN tw fr n' (k' % 100)
  | [], k, k', v, n, _, _, hn, h => ⟨n, by rw [← h.1]; exact hn⟩
  | w :: ws, k, k', v, n, h0, h1, hn, h => by
    obtain ⟨e1, w0, w1, e2, e3⟩ := h
    have b := bhd_rng (tw := tw) (sh := sh) (w := w) hp (show 0 ≤ k / 100 ∧ k / 100 < 120 by omega) (show 0 ≤ k % 100 ∧ k % 100 < 100 by omega)
    have e : bhd tw sh p (k / 100) (k % 100) w = nxT tw sh p k w := rfl
    rw [e] at b
    rcases b with b | b
    · omega
    · by_cases q : w = 4
      · rw [if_pos q] at b
        exact pt_sp hp ws _ k' _ n b.1 b.2.1 (by rw [b.2.2.2.1]; exact hn) e3
      · rw [if_neg q] at b
        exact pt_sp hp ws _ k' _ (n + 1) b.1 b.2.1 ⟨k % 100, hn, w, w0, by omega, b.2.2.2.1.symm, by omega, b.2.2.2.2⟩ e3
noncomputable def hpC (tw : Int → Int) (fr to : Int) : Int := @dite Int (∃ e, hopP tw fr to e) (Classical.propDecidable _) (fun h => Classical.choose h) (fun _ => 0)
theorem hpC_ok {fr : Int} (h : ∃ e, hopP tw fr to e) : hopP tw fr to (hpC tw fr to) := by
  rw [hpC, dif_pos h]
  exact Classical.choose_spec h
theorem hpC_trip (hp : 1 ≤ p ∧ p ≤ 3) {m fr : Int} (hm : 0 ≤ m ∧ m < 120) (hf : 0 ≤ fr ∧ fr < 100) (hl : lsC tw vf d p to bym (100 * m + fr) < 1000000) : hopP tw fr to (hpC tw fr to) := by
  obtain ⟨ws, k', h1, h2, -, -⟩ := (lsC_ok (tw := tw) (vf := vf) (d := d) (to := to) (bym := bym) (k := 100 * m + fr) hp (by omega) (by omega)).1 hl
  obtain ⟨n, hn⟩ := pt_sp (fr := fr) hp ws _ k' _ 0 (by omega) (by omega) (by show (100 * m + fr) % 100 = fr; omega) h1
  rw [h2] at hn
  exact hpC_ok (hop_ex hn)
/-- waits, the row of waits, the longest, where it is -/
def rsF (ws : List Int) (sq : Nat → Int) : Nat → Int × Int × Int × Int
  | 0 => (0, 0, 0, -1)
  | n + 1 => if ws.getD n 0 = 4 then ((rsF ws sq n).1 + 1, (rsF ws sq n).2.1 + 1, if (rsF ws sq n).2.1 + 1 ≤ (rsF ws sq n).2.2.1 then (rsF ws sq n).2.2.1 else (rsF ws sq n).2.1 + 1, if (rsF ws sq n).2.1 + 1 ≤ (rsF ws sq n).2.2.1 then (rsF ws sq n).2.2.2 else sq n) else ((rsF ws sq n).1, 0, (rsF ws sq n).2.2.1, (rsF ws sq n).2.2.2)
theorem rsF_rng (ws : List Int) (sq : Nat → Int) : ∀ n : Nat, (0 ≤ (rsF ws sq n).1 ∧ (rsF ws sq n).1 ≤ n) ∧ (0 ≤ (rsF ws sq n).2.1 ∧ (rsF ws sq n).2.1 ≤ n) ∧ (0 ≤ (rsF ws sq n).2.2.1 ∧ (rsF ws sq n).2.2.1 ≤ n)
  | 0 => ⟨⟨Int.le_refl _, Int.le_refl _⟩, ⟨Int.le_refl _, Int.le_refl _⟩, ⟨Int.le_refl _, Int.le_refl _⟩⟩
  | n + 1 => by
    have ih := rsF_rng ws sq n
    rw [rsF]
    split
    · dsimp only
      refine ⟨by omega, by omega, ?_⟩
      split <;> omega
    · dsimp only
      omega
/-- the place is that of the first row as long as the longest -/
theorem rsF_wh (ws : List Int) (sq : Nat → Int) : ∀ n : Nat, (rsF ws sq n).2.1 ≤ (rsF ws sq n).2.2.1 ∧ (∀ j : Nat, j < n → (rsF ws sq (j + 1)).2.1 ≤ (rsF ws sq n).2.2.1) ∧ (((rsF ws sq n).2.2.1 = 0 ∧ (rsF ws sq n).2.2.2 = -1) ∨ (0 < (rsF ws sq n).2.2.1 ∧ ∃ i : Nat, i < n ∧ (rsF ws sq (i + 1)).2.1 = (rsF ws sq n).2.2.1 ∧ (rsF ws sq n).2.2.2 = sq i ∧ ∀ j : Nat, j < i → (rsF ws sq (j + 1)).2.1 ≠ (rsF ws sq n).2.2.1))
  | 0 => ⟨Int.le_refl _, fun j hj => absurd hj (Nat.not_lt_zero _), Or.inl ⟨rfl, rfl⟩⟩
  | n + 1 => by
    obtain ⟨h1, h2, h3⟩ := rsF_wh ws sq n
    have rg := rsF_rng ws sq n
    by_cases q : ws.getD n 0 = 4
    · by_cases q2 : (rsF ws sq n).2.1 + 1 ≤ (rsF ws sq n).2.2.1
      · have e : rsF ws sq (n + 1) = ((rsF ws sq n).1 + 1, (rsF ws sq n).2.1 + 1, (rsF ws sq n).2.2.1, (rsF ws sq n).2.2.2) := by rw [rsF, if_pos q, if_pos q2, if_pos q2]
        have e1 : (rsF ws sq (n + 1)).2.1 = (rsF ws sq n).2.1 + 1 := by rw [e]
        have e2 : (rsF ws sq (n + 1)).2.2.1 = (rsF ws sq n).2.2.1 := by rw [e]
        have e3 : (rsF ws sq (n + 1)).2.2.2 = (rsF ws sq n).2.2.2 := by rw [e]
        rw [e2, e3]
        refine ⟨by omega, fun j hj => ?_, ?_⟩
        · by_cases z : j = n
          · rw [z]; omega
          · exact h2 j (by omega)
        · rcases h3 with h3 | ⟨a, i, i0, i1, i2, i3⟩
          · exact Or.inl h3
          · exact Or.inr ⟨a, i, by omega, i1, i2, i3⟩
      · have e : rsF ws sq (n + 1) = ((rsF ws sq n).1 + 1, (rsF ws sq n).2.1 + 1, (rsF ws sq n).2.1 + 1, sq n) := by rw [rsF, if_pos q, if_neg q2, if_neg q2]
        have e1 : (rsF ws sq (n + 1)).2.1 = (rsF ws sq n).2.1 + 1 := by rw [e]
        have e2 : (rsF ws sq (n + 1)).2.2.1 = (rsF ws sq n).2.1 + 1 := by rw [e]
        have e3 : (rsF ws sq (n + 1)).2.2.2 = sq n := by rw [e]
        rw [e2, e3]
        refine ⟨by omega, fun j hj => ?_, Or.inr ⟨by omega, n, by omega, e1, rfl, fun j hj => ?_⟩⟩
        · by_cases z : j = n
          · rw [z]; omega
          · have := h2 j (by omega); omega
        · have := h2 j hj; omega
    · have e : rsF ws sq (n + 1) = ((rsF ws sq n).1, 0, (rsF ws sq n).2.2.1, (rsF ws sq n).2.2.2) := by rw [rsF, if_neg q]
      have e1 : (rsF ws sq (n + 1)).2.1 = 0 := by rw [e]
      have e2 : (rsF ws sq (n + 1)).2.2.1 = (rsF ws sq n).2.2.1 := by rw [e]
      have e3 : (rsF ws sq (n + 1)).2.2.2 = (rsF ws sq n).2.2.2 := by rw [e]
      rw [e2, e3]
      refine ⟨by omega, fun j hj => ?_, ?_⟩
      · by_cases z : j = n
        · rw [z]; omega
        · exact h2 j (by omega)
      · rcases h3 with h3 | ⟨a, i, i0, i1, i2, i3⟩
        · exact Or.inl h3
        · exact Or.inr ⟨a, i, by omega, i1, i2, i3⟩
/-- the class's counting -/
theorem p_waitsOn {ws : List Int} {sq : Nat → Int} {g : Int → Int} (hg : ∀ j, 0 ≤ j → j < (ws.length : Int) → g j = ws.getD j.toNat 0) (i2 : i32 g) (hl : ws.length < 120) {post : Int32 → Prop} (h : post (zi (rsF ws sq ws.length).1)) : wp_X9_waitsOnWay (zi ws.length) (zA g) post := by
  simp only [wp_X9_waitsOnWay]
  refine lp_for0 (fun n => (zi (rsF ws sq n).1, zi n)) ws.length rfl (fun kb => ?_) (fun i hi kb hkb => ?_)
  · simp (disch := omega) only [wp_X9_waitsOnWay_L4, zi_le]
    exact ⟨fun _ => h, fun u => absurd (Int.le_refl _) u⟩
  · have hni : ((i + 1 : Nat) : Int) = (i : Int) + 1 := by omega
    have gi := hg i (by omega) (by omega)
    rw [Int.toNat_natCast] at gi
    have g2 := i2 i
    rw [hni, rsF] at hkb
    simp (disch := omega) only [wp_X9_waitsOnWay_L4, zi_le]
    refine ⟨fun u => by omega, fun _ => ?_⟩
    refine p_at (by decide) (by omega) (by omega) (fun _ _ => ?_) (fun q => by omega)
    simp (disch := omega) only [forall_eq, zi_lit, zi_add, zi_eq]
    refine ⟨fun q => ?_, fun q => ?_⟩
    · rw [if_neg (by rw [← gi]; exact q)] at hkb; exact hkb
    · rw [if_pos (by rw [← gi]; exact q)] at hkb; exact hkb
theorem p_longest {ws : List Int} {sq : Nat → Int} {g : Int → Int} (hg : ∀ j, 0 ≤ j → j < (ws.length : Int) → g j = ws.getD j.toNat 0) (i2 : i32 g) (hl : ws.length < 120) {post : Int32 → Prop} (h : post (zi (rsF ws sq ws.length).2.2.1)) : wp_X9_longestRest (zi ws.length) (zA g) post := by
  simp only [wp_X9_longestRest]
  refine lp_for0 (fun n => (zi (rsF ws sq n).2.2.1, zi (rsF ws sq n).2.1, zi n)) ws.length rfl (fun kb => ?_) (fun i hi kb hkb => ?_)
  · simp (disch := omega) only [wp_X9_longestRest_L6, zi_le]
    exact ⟨fun _ => h, fun u => absurd (Int.le_refl _) u⟩
  · have hni : ((i + 1 : Nat) : Int) = (i : Int) + 1 := by omega
    have gi := hg i (by omega) (by omega)
    rw [Int.toNat_natCast] at gi
    have g2 := i2 i
    have rg := rsF_rng ws sq i
    rw [hni, rsF] at hkb
    simp (disch := omega) only [wp_X9_longestRest_L6, zi_le]
    refine ⟨fun u => by omega, fun _ => ?_⟩
    refine p_at (by decide) (by omega) (by omega) (fun _ _ => ?_) (fun q => by omega)
    have go : ∀ v : Int, 0 ≤ v → v ≤ 200 → kb (zi (if (rsF ws sq i).2.2.1 < v then v else (rsF ws sq i).2.2.1), zi v, zi ((i : Int) + 1)) → wp_X9_longestRest_b36 (fun l1 => post l1) kb (zi ws.length) (zA g) post (zi (rsF ws sq i).2.2.1) (zi i) (zi v) := by
      intro v v0 v1 z
      simp only [wp_X9_longestRest_b36, forall_eq]
      rw [show zi (i : Int) + 1 = zi ((i : Int) + 1) from zi_add i 1]
      by_cases y : (rsF ws sq i).2.2.1 < v
      · rw [if_pos (by rw [zi_lt (by omega)]; exact y)]
        rw [if_pos y] at z
        exact z
      · rw [if_neg (by rw [zi_lt (by omega)]; exact y)]
        rw [if_neg y] at z
        exact z
    rw [show (4 : Int32) = zi 4 from rfl, zi_eq (by omega)]
    refine ⟨fun q => go 0 (by omega) (by omega) ?_, fun q => ?_⟩
    · rw [if_neg (by rw [← gi]; exact q)] at hkb
      rw [if_neg (by omega)]
      exact hkb
    · rw [if_pos (by rw [← gi]; exact q)] at hkb
      dsimp only at hkb
      rw [show (1 : Int32) = zi 1 from rfl, zi_add]
      refine go _ (by omega) (by omega) ?_
      by_cases z : (rsF ws sq i).2.1 + 1 ≤ (rsF ws sq i).2.2.1
      · rw [if_pos z] at hkb
        rw [if_neg (by omega)]
        exact hkb
      · rw [if_neg z] at hkb
        rw [if_pos (by omega)]
        exact hkb
theorem p_restPlace {ws : List Int} {sq : Nat → Int} {g f : Int → Int} {mi : Nat → Int} (hg : ∀ j, 0 ≤ j → j < (ws.length : Int) → g j = ws.getD j.toNat 0) (i2 : i32 g) (hl : ws.length < 120) {p m : Int} (hp : 1 ≤ p ∧ p ≤ 3) (hm0 : mi 0 = m) (hmi : ∀ i : Nat, i < ws.length → (0 ≤ mi i ∧ mi i < 120) ∧ mi (i + 1) = mi i + plen (ws.getD i 0) p ∧ f (mi i) = sq i) {post : Int32 → Prop} (h : post (zi (rsF ws sq ws.length).2.2.2)) : wp_X9_restPlace (zi m) (zi ws.length) (zA g) (zA f) (zi p) (zi (rsF ws sq ws.length).2.2.1) post := by
  obtain ⟨x1, x2, x3⟩ := rsF_wh ws sq ws.length
  have rL := rsF_rng ws sq ws.length
  have h' : post (zi (rsF ws sq ws.length).2.2.2) := h
  generalize (rsF ws sq ws.length).2.2.2 = WH at *
  generalize eL : (rsF ws sq ws.length).2.2.1 = LO at *
  simp only [wp_X9_restPlace]
  refine lp_inv (fun n s' => s' = (zi LO, zi (mi n), zi (rsF ws sq n).2.1, zi n) ∧ (0 < LO → ∀ j : Nat, j < n → (rsF ws sq (j + 1)).2.1 ≠ LO)) ws.length ?_ ?_ 0 (Nat.zero_le _) ⟨by rw [hm0]; rfl, fun _ j hj => absurd hj (Nat.not_lt_zero _)⟩
  · rintro s' ⟨rfl, hno⟩ kb
    simp (disch := omega) only [wp_X9_restPlace_L10, zi_le]
    refine ⟨fun _ => ?_, fun u => absurd (Int.le_refl _) u⟩
    rcases x3 with x3 | ⟨y, i, y1, y2, -⟩
    · rw [x3.2] at h'; exact h'
    · exact absurd y2 (hno y i y1)
  · rintro i hi s' ⟨rfl, hno⟩ kb hkb
    have hni : ((i + 1 : Nat) : Int) = (i : Int) + 1 := by omega
    have gi := hg i (by omega) (by omega)
    rw [Int.toNat_natCast] at gi
    have g2 := i2 i
    have rg := rsF_rng ws sq i
    have mm := hmi i hi
    have pl := plen_rng (w := ws.getD i 0) hp
    simp (disch := omega) only [wp_X9_restPlace_L10, zi_lit, zi_le]
    refine ⟨fun u => by omega, fun _ => ⟨fun u => ?_, fun u => ?_⟩⟩
    · rcases x3 with x3 | ⟨y, -⟩
      · rw [x3.2] at h'; exact h'
      · omega
    refine p_at (by decide) (by omega) (by omega) (fun _ _ => ?_) (fun q => by omega)
    have go : ∀ v : Int, v = (rsF ws sq (i + 1)).2.1 → v ≠ LO → wp_X9_restPlace_b66 (post (-1)) (fun l2 => vp_in l2 120 ∧ (post (zA f (Int32.toNatClampNeg l2)))) kb (zi m) (zi ws.length) (zA g) (zA f) (zi p) post (zi LO) (zi (mi i)) (zi v) (zi i) := by
      intro v hv hne
      simp only [wp_X9_restPlace_b66]
      refine p_at (by decide) (by omega) (by omega) (fun _ _ => ?_) (fun q => by omega)
      refine p_lengthOf (p := p) (by omega) ?_
      simp only [forall_eq, zi_lit, zi_add]
      refine hkb _ ⟨by rw [mm.2.1, ← gi, hni, hv], fun y j hj => ?_⟩
      by_cases z : j = i
      · rw [z, ← hv]; exact hne
      · exact hno y j (by omega)
    have at' : ∀ v : Int, v = (rsF ws sq (i + 1)).2.1 → 0 ≤ v → v ≤ 200 → wp_X9_restPlace_b46 (post (-1)) (fun l2 => vp_in l2 120 ∧ (post (zA f (Int32.toNatClampNeg l2)))) kb (zi m) (zi ws.length) (zA g) (zA f) (zi p) post (zi LO) (zi (mi i)) (zi i) (zi v) := by
      intro v hv v0 v1
      simp only [wp_X9_restPlace_b46]
      rw [zi_eq (by omega)]
      refine ⟨fun q => go v hv q, fun q => ?_⟩
      refine p_isMinute (by omega) (fun _ => ⟨fun z => absurd z (by decide), fun _ => ?_⟩) (fun z => absurd mm.1 z)
      rw [zi_in (by omega), zA_get (by omega), mm.2.2]
      refine ⟨by omega, ?_⟩
      rcases x3 with x3 | ⟨y, k, k1, k2, k3, k4⟩
      · omega
      · have : k = i := by
          rcases Nat.lt_trichotomy k i with z | z | z
          · exact absurd k2 (hno y k z)
          · exact z
          · exact absurd (by rw [← hv]; exact q) (k4 i z)
        rw [← this, ← k3]
        exact h'
    rw [zi_eq (by omega)]
    refine ⟨fun q => at' 0 (by rw [rsF, if_neg (by rw [← gi]; exact q)]) (by omega) (by omega), fun q => ?_⟩
    rw [zi_add]
    exact at' _ (by rw [rsF, if_pos (by rw [← gi]; exact q)]) (by omega) (by omega)
end RS
