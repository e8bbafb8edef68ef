/-! plant and cover: the reference -/
section PR
variable {tw : Int → Int} {vf : Int → Int → Int → Int32} {op arg : Nat → Int32}
theorem put_trip {wk d m fr to s k h : Int} (hs : 0 ≤ s ∧ s < 100) (h0 : tw s = 0) (hk : 2 ≤ k ∧ k ≤ 3) (t : tripP tw wk d m fr to) : tripP (putT tw s k h) wk d m fr to := by
  have e := put_same (h := h) hs h0 hk
  refine tripP_ag (putT_ag hs) (fun z y => ?_) (fun z y => ?_) t
  · exact z ((e fr t.2.2.2.1.1.1 t.2.2.2.1.1.2).mp y)
  · exact z ((e to t.2.2.2.2.1.1 t.2.2.2.2.1.2).mp y)
theorem p_findHelp (hT : twR tw) (hW : wkOk tw) (hC : clR tw op arg vf) (hb' : brR tw) {sy sn shA c0 : Int → Int} (j1 : i32 sy) (j2 : i32 sn) (j3 : i32 shA) (hc0 : i32 c0) {wk d m fr to h K : Int} (hh : 0 ≤ h ∧ h ≤ 99) (hK : K = if h ≤ 0 then 3 else 2) (t : tripP tw wk d m fr to) (hls : lsC tw vf d (tw (383 + 7 * wk)) to 119 (100 * m + fr) < 1000000) {sd x1 x2 : Int32} {facts pile t1 t2 : Nat → Int32} {post : Int32 → Int32 → Int32 → (Nat → Int32) → (Nat → Int32) → (Nat → Int32) → (Nat → Int32) → (Nat → Int32) → (Nat → Int32) → (Nat → Int32) → (Nat → Int32) → (Nat → Int32) → Prop}
    (hp : ∀ (sy' sn' shA' c' : Int → Int) (f p lc le : Nat → Int32), i32 sy' → i32 sn' → i32 shA' → i32 c' → post (-1) (zi (gdB tw vf d (tw (383 + 7 * wk)) to (100 * m + fr) K h 100).1) (zi (gdB tw vf d (tw (383 + 7 * wk)) to (100 * m + fr) K h 100).2) (zA tw) (zA sy') (zA sn') (zA shA') f p (zA c') lc le) :
    wp_X12_findHelp op arg sd x1 x2 (zA tw) (zA sy) (zA sn) (zA shA) facts pile (zA c0) t1 t2 (zi wk) (zi d) (zi m) (zi fr) (zi to) (zi h) (zi (lsC tw vf d (tw (383 + 7 * wk)) to 119 (100 * m + fr))) post := by
  have t' := t
  obtain ⟨t1', t2', t3', t4', t5'⟩ := t'
  have w := hW wk t1'.1.1 t1'.1.2 t1'.2
  have hK2 : 2 ≤ K ∧ K ≤ 3 := by rw [hK]; split <;> omega
  have gf : ∀ s, 0 ≤ gdF tw vf d (tw (383 + 7 * wk)) to (100 * m + fr) K h s := fun s => lsC_nn w.1 (by omega) (by omega)
  have gr : ∀ s, gdF tw vf d (tw (383 + 7 * wk)) to (100 * m + fr) K h s ≤ 1000000 := fun s => (lsC_ok (tw := putT tw s K h) (vf := vf) (d := d) (to := to) (bym := 119) (k := 100 * m + fr) w.1 (by omega) (by omega)).2.2
  have n0 : 0 ≤ lsC tw vf d (tw (383 + 7 * wk)) to 119 (100 * m + fr) := lsC_nn w.1 (by omega) (by omega)
  have rg : ∀ n, (-1 ≤ (gdB tw vf d (tw (383 + 7 * wk)) to (100 * m + fr) K h n).1 ∧ (gdB tw vf d (tw (383 + 7 * wk)) to (100 * m + fr) K h n).1 < n) ∧ 0 ≤ (gdB tw vf d (tw (383 + 7 * wk)) to (100 * m + fr) K h n).2 ∧ (gdB tw vf d (tw (383 + 7 * wk)) to (100 * m + fr) K h n).2 ≤ lsC tw vf d (tw (383 + 7 * wk)) to 119 (100 * m + fr) := fun n => hpN_rng gf n0 n
  simp only [wp_X12_findHelp]
  generalize hnow : lsC tw vf d (tw (383 + 7 * wk)) to 119 (100 * m + fr) = now at *
  refine lp_inv (fun i st => ∃ (z1 : Int32) (sy' sn' shA' c' : Int → Int) (f p lc le : Nat → Int32), (i32 sy' ∧ i32 sn' ∧ i32 shA' ∧ i32 c') ∧ st = (z1, zi (gdB tw vf d (tw (383 + 7 * wk)) to (100 * m + fr) K h i).1, zi (gdB tw vf d (tw (383 + 7 * wk)) to (100 * m + fr) K h i).2, zA tw, zA sy', zA sn', zA shA', f, p, zA c', lc, le, zi wk, zi d, zi m, zi fr, zi to, zi h, zi now, zi i)) 100 ?_ ?_ 0 (Nat.zero_le _) ⟨sd, sy, sn, shA, c0, facts, pile, t1, t2, ⟨j1, j2, j3, hc0⟩, rfl⟩
  · rintro st ⟨z1, sy', sn', shA', c', f, p, lc, le, ⟨k1, k2, k3, k4⟩, rfl⟩ kb
    simp (disch := omega) only [wp_X12_findHelp_L13, zi_lit, zi_le]
    exact ⟨fun _ => hp sy' sn' shA' c' f p lc le k1 k2 k3 k4, fun z => absurd (by decide) z⟩
  · rintro i hi st ⟨z1, sy', sn', shA', c', f, p, lc, le, ⟨k1, k2, k3, k4⟩, rfl⟩ kb hkb
    have hni : ((i + 1 : Nat) : Int) = (i : Int) + 1 := by omega
    have ri := rg i
    have ti := hT.1 i
    have gri := gr i
    have gfi := gf i
    have hstep : gdB tw vf d (tw (383 + 7 * wk)) to (100 * m + fr) K h (i + 1) = if tw i = 0 ∧ (gdB tw vf d (tw (383 + 7 * wk)) to (100 * m + fr) K h i).2 < now - gdF tw vf d (tw (383 + 7 * wk)) to (100 * m + fr) K h i then ((i : Int), now - gdF tw vf d (tw (383 + 7 * wk)) to (100 * m + fr) K h i) else gdB tw vf d (tw (383 + 7 * wk)) to (100 * m + fr) K h i := by
      rw [← hnow]; rfl
    simp (disch := omega) only [wp_X12_findHelp_L13, zi_lit, zi_le, zi_in, zA_get, zi_eq]
    refine ⟨fun z => by omega, fun _ => ⟨by omega, fun z => ?_, fun z => ?_⟩⟩
    · simp only [forall_eq, zi_add]
      refine hkb _ ⟨z1, sy', sn', shA', c', f, p, lc, le, ⟨k1, k2, k3, k4⟩, ?_⟩
      rw [hstep, if_neg (fun y => z y.1), hni]
    · have hs : 0 ≤ (i : Int) ∧ (i : Int) < 100 := by omega
      have hth := hb' i hs.1 hs.2 z
      have key : wp_X12_findHelp_b46 (fun t_shadeDay t_bestSquare t_bestBy t_towns t_sunny t_sun t_isShut t_facts t_pile t_cost t_leastCost t_leastEnd => post (-1) t_bestSquare t_bestBy t_towns t_sunny t_sun t_isShut t_facts t_pile t_cost t_leastCost t_leastEnd) kb op arg post z1 (zi (gdB tw vf d (tw (383 + 7 * wk)) to (100 * m + fr) K h i).1) (zi (gdB tw vf d (tw (383 + 7 * wk)) to (100 * m + fr) K h i).2) (zA tw) (zA sy') (zA sn') (zA shA') f p (zA c') lc le (zi wk) (zi d) (zi m) (zi fr) (zi to) (zi h) (zi now) (zi i) (zi K) (zi i) := by
        simp only [wp_X12_findHelp_b46]
        simp (disch := omega) only [forall_eq, zi_lit, zi_add, zi_in, zA_upd]
        refine ⟨by omega, by omega, ?_⟩
        have tv : tripP (putT tw i K h) wk d m fr to := put_trip hs z hK2 t
        have ep : putT tw i K h (383 + 7 * wk) = tw (383 + 7 * wk) := putT_ag hs _ (by omega)
        have et : upI (upI tw i K) (100 + i) h = putT tw i K h := rfl
        rw [et, zi_neg]
        refine p_sunOf (sd := -1) (sy := sy') (sn := sn') (shA := shA') (putT_R hT hs (by omega) hh) (wkOk_ag hW (putT_ag hs)) (clR_ag hC (putT_ag hs)) ⟨by omega, k1, k2, k3, fun y => absurd y (by decide)⟩ k4 tv (fun sy2 sn2 shA2 c2 lc2 le2 f2 p2 hD2 hc2 hcs2 u1 u2 hB2 e2 => ?_)
        rw [ep]
        have eg : lsC (putT tw i K h) vf d (tw (383 + 7 * wk)) to 119 (100 * m + fr) = gdF tw vf d (tw (383 + 7 * wk)) to (100 * m + fr) K h i := rfl
        rw [eg]
        have eb : upI (upI (putT tw i K h) i 0) (100 + i) 0 = tw := by
          have := putT_back (tw := tw) (k := K) (h := h) hs
          rw [z, hth] at this
          exact this
        simp (disch := omega) only [zi_sub, zA_upd, zi_le, eb]
        refine ⟨by omega, by omega, fun y => ?_, fun y => ?_⟩
        · refine hkb _ ⟨zi d, sy2, sn2, shA2, c2, f2, p2, zA lc2, zA le2, ⟨hD2.2.1, hD2.2.2.1, hD2.2.2.2.1, hc2⟩, ?_⟩
          rw [hstep, if_neg (fun x => by have := x.2; omega), hni]
        · refine hkb _ ⟨zi d, sy2, sn2, shA2, c2, f2, p2, zA lc2, zA le2, ⟨hD2.2.1, hD2.2.2.1, hD2.2.2.2.1, hc2⟩, ?_⟩
          rw [hstep, if_pos ⟨z, by omega⟩, hni]
      refine ⟨fun y => ?_, fun y => ?_⟩
      · rw [show zi K = 3 by rw [hK, if_pos y]; rfl] at key; exact key
      · rw [show zi K = 2 by rw [hK, if_neg y]; rfl] at key; exact key
theorem p_plantR (hT : twR tw) (hW : wkOk tw) (hC : clR tw op arg vf) (hb' : brR tw) {sd : Int} {sy sn shA c0 : Int → Int} (hD : dayI tw vf sd sy sn shA) (hc0 : i32 c0) {wk d m fr to h w : Int} (a1 : ir wk) (a2 : ir d) (a3 : ir m) (a4 : ir fr) (a5 : ir to) (a6 : ir h) (a7 : ir w) {th x1 x2 : Int32} {facts pile t1 t2 : Nat → Int32} {post : Int32 → Int32 → Int32 → Int32 → Int32 → (Nat → Int32) → (Nat → Int32) → (Nat → Int32) → (Nat → Int32) → (Nat → Int32) → (Nat → Int32) → (Nat → Int32) → (Nat → Int32) → (Nat → Int32) → Prop}
    (h1 : ∀ v, plantO tw vf wk d m fr to h w = some v → ∀ (sd' : Int) (sy' sn' shA' c' : Int → Int) (y1 y2 : Int32) (f p lc le : Nat → Int32), dayI tw vf sd' sy' sn' shA' → i32 c' → post (zi v) 0 (zi sd') y1 y2 (zA tw) (zA sy') (zA sn') (zA shA') f p (zA c') lc le)
    (h0 : plantO tw vf wk d m fr to h w = none → ∀ (sd' : Int) (sy' sn' shA' c' : Int → Int) (y1 y2 : Int32) (f p lc le : Nat → Int32), dayI tw vf sd' sy' sn' shA' → i32 c' → post 0 1 (zi sd') y1 y2 (zA tw) (zA sy') (zA sn') (zA shA') f p (zA c') lc le) :
    wp_X12_plant op arg th (zi sd) x1 x2 (zA tw) (zA sy) (zA sn) (zA shA) facts pile (zA c0) t1 t2 (zi wk) (zi d) (zi m) (zi fr) (zi to) (zi h) (zi w) post := by
  have b7 := a7
  simp only [ir] at b7
  have no : plantO tw vf wk d m fr to h w = none → wp_X12_plant_b39 op arg post th (zi sd) x1 x2 (zA tw) (zA sy) (zA sn) (zA shA) facts pile (zA c0) t1 t2 (zi wk) (zi d) (zi m) (zi fr) (zi to) (zi h) (zi w) := by
    intro z
    simp only [wp_X12_plant_b39, wp_X12_plant_b40, wp_X12_plant_b64, wp_X12_plant_b80]
    exact ⟨fun _ => ⟨fun _ => ⟨fun y => absurd y (by decide), fun _ => h0 z _ _ _ _ _ _ _ _ _ _ _ hD hc0⟩, fun y => absurd (by decide) y⟩, fun y => absurd trivial y⟩
  simp only [wp_X12_plant]
  refine p_isTrip hT.1 a1 a2 a3 a4 a5 (fun t => ⟨fun z => absurd z (by decide), fun _ => ?_⟩) (fun t => ⟨fun _ => no (by rw [plantO, if_neg (fun y => t y.1)]), fun z => absurd rfl z⟩)
  rw [show (1 : Int32) = zi 1 from rfl, show (99 : Int32) = zi 99 from rfl, show (0 : Int32) = zi 0 from rfl]
  refine p_within a6 (by omega) (by omega) (fun q1 => ⟨fun z => absurd z (by decide), fun _ => ?_⟩) (fun q1 => ⟨fun _ => no (by rw [plantO, if_neg (fun y => q1 y.2.1)]), fun z => absurd rfl z⟩)
  refine p_within a7 (by omega) (by omega) (fun q2 => ⟨fun z => absurd z (by decide), fun _ => ?_⟩) (fun q2 => ⟨fun _ => no (by rw [plantO, if_neg (fun y => q2 y.2.2.1)]), fun z => absurd rfl z⟩)
  simp only [wp_X12_plant_b40]
  refine ⟨fun z => absurd z (by decide), fun _ => ?_⟩
  refine p_sunOf hT hW hC hD hc0 t (fun sy' sn' shA' c lc le f p hD' hc hcs i1 i2 hB e => ?_)
  have lr := i1 (100 * m + fr)
  rw [e] at lr
  simp only [wp_X12_plant_b64, wp_X12_plant_b80]
  rw [show (1000000 : Int32) = zi 1000000 from rfl, zi_le (by omega)]
  refine ⟨fun hl => ⟨fun y => absurd y (by decide), fun _ => h0 (by rw [plantO, if_neg (fun y => by have := y.2.2.2; omega)]) _ _ _ _ _ _ _ _ _ _ _ hD' hc⟩, fun hl => ⟨fun _ => ?_, fun y => absurd (by decide) y⟩⟩
  refine p_findHelp (K := 2) hT hW hC hb' hD'.2.1 hD'.2.2.1 hD'.2.2.2.1 hc (by omega) (by rw [if_neg (by omega)]) t (by omega) (fun sy2 sn2 shA2 c2 f2 p2 lc2 le2 k1 k2 k3 k4 => ?_)
  rw [show (0 : Int32) = zi 0 from rfl, zi_eq (by omega)]
  refine ⟨fun w0 => h1 _ (by rw [plantO, if_pos ⟨t, q1, q2, by omega⟩, if_neg w0]) (-1) _ _ _ _ _ _ _ _ _ _ ⟨by omega, k1, k2, k3, fun z => absurd z (by decide)⟩ k4, fun w0 => h1 _ (by rw [plantO, if_pos ⟨t, q1, q2, by omega⟩, if_pos w0]) (-1) _ _ _ _ _ _ _ _ _ _ ⟨by omega, k1, k2, k3, fun z => absurd z (by decide)⟩ k4⟩
theorem p_coverR (hT : twR tw) (hW : wkOk tw) (hC : clR tw op arg vf) (hb' : brR tw) {sd : Int} {sy sn shA c0 : Int → Int} (hD : dayI tw vf sd sy sn shA) (hc0 : i32 c0) {wk d m fr to w : Int} (a1 : ir wk) (a2 : ir d) (a3 : ir m) (a4 : ir fr) (a5 : ir to) (a7 : ir w) {th x1 x2 : Int32} {facts pile t1 t2 : Nat → Int32} {post : Int32 → Int32 → Int32 → Int32 → Int32 → (Nat → Int32) → (Nat → Int32) → (Nat → Int32) → (Nat → Int32) → (Nat → Int32) → (Nat → Int32) → (Nat → Int32) → (Nat → Int32) → (Nat → Int32) → Prop}
    (h1 : ∀ v, coverO tw vf wk d m fr to w = some v → ∀ (sd' : Int) (sy' sn' shA' c' : Int → Int) (y1 y2 : Int32) (f p lc le : Nat → Int32), dayI tw vf sd' sy' sn' shA' → i32 c' → post (zi v) 0 (zi sd') y1 y2 (zA tw) (zA sy') (zA sn') (zA shA') f p (zA c') lc le)
    (h0 : coverO tw vf wk d m fr to w = none → ∀ (sd' : Int) (sy' sn' shA' c' : Int → Int) (y1 y2 : Int32) (f p lc le : Nat → Int32), dayI tw vf sd' sy' sn' shA' → i32 c' → post 0 1 (zi sd') y1 y2 (zA tw) (zA sy') (zA sn') (zA shA') f p (zA c') lc le) :
    wp_X12_cover op arg th (zi sd) x1 x2 (zA tw) (zA sy) (zA sn) (zA shA) facts pile (zA c0) t1 t2 (zi wk) (zi d) (zi m) (zi fr) (zi to) (zi w) post := by
  have b7 := a7
  simp only [ir] at b7
  have no : coverO tw vf wk d m fr to w = none → wp_X12_cover_b28 op arg post th (zi sd) x1 x2 (zA tw) (zA sy) (zA sn) (zA shA) facts pile (zA c0) t1 t2 (zi wk) (zi d) (zi m) (zi fr) (zi to) (zi w) := by
    intro z
    simp only [wp_X12_cover_b28, wp_X12_cover_b29, wp_X12_cover_b53, wp_X12_cover_b69]
    exact ⟨fun _ => ⟨fun _ => ⟨fun y => absurd y (by decide), fun _ => h0 z _ _ _ _ _ _ _ _ _ _ _ hD hc0⟩, fun y => absurd (by decide) y⟩, fun y => absurd trivial y⟩
  simp only [wp_X12_cover]
  refine p_isTrip hT.1 a1 a2 a3 a4 a5 (fun t => ⟨fun z => absurd z (by decide), fun _ => ?_⟩) (fun t => ⟨fun _ => no (by rw [coverO, if_neg (fun y => t y.1)]), fun z => absurd rfl z⟩)
  rw [show (1 : Int32) = zi 1 from rfl, show (0 : Int32) = zi 0 from rfl]
  refine p_within a7 (by omega) (by omega) (fun q2 => ⟨fun z => absurd z (by decide), fun _ => ?_⟩) (fun q2 => ⟨fun _ => no (by rw [coverO, if_neg (fun y => q2 y.2.1)]), fun z => absurd rfl z⟩)
  simp only [wp_X12_cover_b29]
  refine ⟨fun z => absurd z (by decide), fun _ => ?_⟩
  refine p_sunOf hT hW hC hD hc0 t (fun sy' sn' shA' c lc le f p hD' hc hcs i1 i2 hB e => ?_)
  have lr := i1 (100 * m + fr)
  rw [e] at lr
  simp only [wp_X12_cover_b53, wp_X12_cover_b69]
  rw [show (1000000 : Int32) = zi 1000000 from rfl, zi_le (by omega)]
  refine ⟨fun hl => ⟨fun y => absurd y (by decide), fun _ => h0 (by rw [coverO, if_neg (fun y => by have := y.2.2; omega)]) _ _ _ _ _ _ _ _ _ _ _ hD' hc⟩, fun hl => ⟨fun _ => ?_, fun y => absurd (by decide) y⟩⟩
  rw [show (0 : Int32) = zi 0 from rfl]
  refine p_findHelp (h := 0) (K := 3) hT hW hC hb' hD'.2.1 hD'.2.2.1 hD'.2.2.2.1 hc (by omega) rfl t (by omega) (fun sy2 sn2 shA2 c2 f2 p2 lc2 le2 k1 k2 k3 k4 => ?_)
  rw [zi_eq (by omega)]
  refine ⟨fun w0 => h1 _ (by rw [coverO, if_pos ⟨t, q2, by omega⟩, if_neg w0]) (-1) _ _ _ _ _ _ _ _ _ _ ⟨by omega, k1, k2, k3, fun z => absurd z (by decide)⟩ k4, fun w0 => h1 _ (by rw [coverO, if_pos ⟨t, q2, by omega⟩, if_pos w0]) (-1) _ _ _ _ _ _ _ _ _ _ ⟨by omega, k1, k2, k3, fun z => absurd z (by decide)⟩ k4⟩
end PR
