/-! rests: the reference -/
section RU
variable {tw : Int → Int} {vf : Int → Int → Int → Int32} {op arg : Nat → Int32}
theorem p_restsR (hT : twR tw) (hW : wkOk tw) (hC : clR tw op arg vf) {sd : Int} {sy sn shA c0 : Int → Int} (hD : dayI tw vf sd sy sn shA) (hc0 : i32 c0) {wk d m fr to w : Int} (a1 : ir wk) (a2 : ir d) (a3 : ir m) (a4 : ir fr) (a5 : ir to) (a6 : ir w) {th wm : Int32} {facts pile u1 u2 u3 u4 u5 : Nat → Int32} {post : Int32 → Int32 → Int32 → Int32 → (Nat → Int32) → (Nat → Int32) → (Nat → Int32) → (Nat → Int32) → (Nat → Int32) → (Nat → Int32) → (Nat → Int32) → (Nat → Int32) → (Nat → Int32) → (Nat → Int32) → (Nat → Int32) → Prop}
    (h1 : ∀ v, restsO tw vf wk d m fr to w = some v → ∀ (sd' : Int) (sy' sn' shA' c' : Int → Int) (wm' : Int32) (f p lc le wa wo st : Nat → Int32), dayI tw vf sd' sy' sn' shA' → i32 c' → post (zi v) 0 (zi sd') wm' wa (zA shA') le (zA c') lc wo st (zA sy') (zA sn') f p)
    (h0 : restsO tw vf wk d m fr to w = none → ∀ (sd' : Int) (sy' sn' shA' c' : Int → Int) (wm' : Int32) (f p lc le wa wo st : Nat → Int32), dayI tw vf sd' sy' sn' shA' → i32 c' → post 0 1 (zi sd') wm' wa (zA shA') le (zA c') lc wo st (zA sy') (zA sn') f p) :
    wp_X12_rests (zA tw) op arg th (zi sd) wm u1 (zA shA) u2 (zA c0) u3 u4 u5 (zA sy) (zA sn) facts pile (zi wk) (zi d) (zi m) (zi fr) (zi to) (zi w) post := by
  have b6 := a6
  simp only [ir] at b6
  have no : restsO tw vf wk d m fr to w = none → wp_X12_rests_b28 (zA tw) op arg post th (zi sd) wm u1 (zA shA) u2 (zA c0) u3 u4 u5 (zA sy) (zA sn) facts pile (zi wk) (zi d) (zi m) (zi fr) (zi to) (zi w) := by
    intro z
    simp only [wp_X12_rests_b28, wp_X12_rests_b29, wp_X12_rests_b53, wp_X12_rests_b69]
    exact ⟨fun _ => ⟨fun _ => ⟨fun y => absurd y (by decide), fun _ => h0 z _ _ _ _ _ _ _ _ _ _ _ _ _ hD hc0⟩, fun y => absurd (by decide) y⟩, fun y => absurd trivial y⟩
  simp only [wp_X12_rests]
  refine p_isTrip hT.1 a1 a2 a3 a4 a5 (fun t => ⟨fun z => absurd z (by decide), fun _ => ?_⟩) (fun t => ⟨fun _ => no (by rw [restsO, if_neg (fun y => t y.1)]), fun z => absurd rfl z⟩)
  rw [show (0 : Int32) = zi 0 from rfl, show (3 : Int32) = zi 3 from rfl]
  refine p_within a6 (by omega) (by omega) (fun q2 => ⟨fun z => absurd z (by decide), fun _ => ?_⟩) (fun q2 => ⟨fun _ => no (by rw [restsO, if_neg (fun y => q2 y.2.1)]), fun z => absurd rfl z⟩)
  simp only [wp_X12_rests_b29]
  refine ⟨fun z => absurd z (by decide), fun _ => ?_⟩
  refine p_sunOf hT hW hC hD hc0 t (fun sy' sn' shA' c lc le f p hD' hc hcs i1 i2 hB e => ?_)
  have t' := t
  obtain ⟨t1', t2', t3', t4', t5'⟩ := t'
  have wo := hW wk t1'.1.1 t1'.1.2 t1'.2
  have hk : ndT tw (100 * m + fr) := ⟨by omega, by omega, by rw [show (100 * m + fr) % 100 = fr by omega]; exact t4'.2⟩
  have hcB : cB c := fun k a b => by rw [(hcs k a b).1]; exact snC_cB tw vf d k a b
  have lr := i1 (100 * m + fr)
  rw [e] at lr
  simp only [wp_X12_rests_b53, wp_X12_rests_b69]
  rw [show (1000000 : Int32) = zi 1000000 from rfl, zi_le (by omega)]
  refine ⟨fun hl => ⟨fun y => absurd y (by decide), fun _ => h0 (by rw [restsO, if_neg (fun y => by have := y.2.2; omega)]) _ _ _ _ _ _ _ _ _ _ _ _ _ hD' hc⟩, fun hl => ⟨fun _ => ?_, fun y => absurd (by decide) y⟩⟩
  refine p_walkerOf (i := 0) t1'.1 (by omega) ?_
  rw [show 383 + 7 * wk + 0 = 383 + 7 * wk by omega]
  refine p_findWay wo.1 t5'.1 hT.1 hD'.2.2.2.1 hcB i1 i2 hB t3' t4'.1 t4'.2 (by omega) (fun ws fa ga hw hlen i3 i4 h5 h6 => ?_)
  have e2 := wyC_eq (tw := tw) (vf := vf) (d := d) wo.1 (fun k a b => (hcs k a b).2) hcB (fun k a b => (hcs k a b).1) hB (k := 100 * m + fr) hk (by omega) hw
  have e2' := e2.1
  subst e2'
  have hl' : lsC tw vf d (tw (383 + 7 * wk)) to 119 (100 * m + fr) < 1000000 := by omega
  have hop := hpC_trip (tw := tw) (vf := vf) (d := d) (to := to) (bym := 119) wo.1 t3' t4'.1 hl'
  have lt100 := hop_lt t4'.1 hop
  have hop0 := hop.1
  have rV : rsV tw vf d (tw (383 + 7 * wk)) to m fr = rsF (wyC tw vf d (tw (383 + 7 * wk)) to 119 (100 * m + fr)) (fun i => nod (nxT tw (shC tw vf d) (tw (383 + 7 * wk))) (wyC tw vf d (tw (383 + 7 * wk)) to 119 (100 * m + fr)) (100 * m + fr) i % 100) (wyC tw vf d (tw (383 + 7 * wk)) to 119 (100 * m + fr)).length := rfl
  have V : ∀ v, v = (if w = 0 then (rsV tw vf d (tw (383 + 7 * wk)) to m fr).1 else if w = 1 then (rsV tw vf d (tw (383 + 7 * wk)) to m fr).2.2.1 else if w = 2 then (rsV tw vf d (tw (383 + 7 * wk)) to m fr).2.2.2 else ((wyC tw vf d (tw (383 + 7 * wk)) to 119 (100 * m + fr)).length : Int) - (rsV tw vf d (tw (383 + 7 * wk)) to m fr).1 - hpC tw fr to) → restsO tw vf wk d m fr to w = some v := fun v hv => by rw [restsO, if_pos ⟨t, q2, hl'⟩, hv]
  have at' := fun (i : Nat) (hi : i < (wyC tw vf d (tw (383 + 7 * wk)) to 119 (100 * m + fr)).length) => wyC_at (tw := tw) (vf := vf) (d := d) (to := to) (bym := 119) wo.1 hk hl' hi
  have n0 := nod_0 (nx := nxT tw (shC tw vf d) (tw (383 + 7 * wk))) (wyC tw vf d (tw (383 + 7 * wk)) to 119 (100 * m + fr)) (100 * m + fr)
  generalize wyC tw vf d (tw (383 + 7 * wk)) to 119 (100 * m + fr) = ws at *
  generalize eS : (fun i => nod (nxT tw (shC tw vf d) (tw (383 + 7 * wk))) ws (100 * m + fr) i % 100) = sq at *
  have sq0 : sq 0 = fr := by rw [← eS]; show nod _ ws _ 0 % 100 = fr; rw [n0]; omega
  have sqs : ∀ i : Nat, i < ws.length → (0 ≤ sq i ∧ sq i < 100) ∧ (0 ≤ ws.getD i 0 ∧ ws.getD i 0 < 5) ∧ sq (i + 1) = (if ws.getD i 0 = 4 then sq i else stp (sq i) (ws.getD i 0)) := fun i hi => by
    have x := at' i hi
    rw [← eS]
    exact ⟨by show 0 ≤ nod _ ws _ i % 100 ∧ nod _ ws _ i % 100 < 100; omega, x.2.1, x.2.2.2.2⟩
  refine lp_for0 (fun n => (zi 0, zi d, zi ws.length, zA fa, zA shA', zA le, zA c, zA lc, zA ga, u5, zA sy', zA sn', f, p, zi fr, zi to, zi w, zi (rsF ws sq n).1, zi (rsF ws sq n).2.1, zi (rsF ws sq n).2.2.1, zi (rsF ws sq n).2.2.2, zi (sq n), zi n)) ws.length (by rw [sq0]; rfl) (fun kb => ?_) (fun i hi kb hkb => ?_)
  · simp (disch := omega) only [wp_X12_rests_L115, zi_le]
    refine ⟨fun _ => ?_, fun u => absurd (Int.le_refl _) u⟩
    rw [← rV, show (zi w = 0) = (zi w = zi 0) from rfl, show (zi w = 1) = (zi w = zi 1) from rfl, show (zi w = 2) = (zi w = zi 2) from rfl, zi_eq (by omega), zi_eq (by omega), zi_eq (by omega)]
    refine ⟨fun w0 => ⟨fun w1 => ⟨fun w2 => ?_, fun w2 => h1 _ (V _ (by rw [if_neg w0, if_neg w1, if_pos w2])) _ _ _ _ _ _ _ _ _ _ _ _ _ hD' hc⟩, fun w1 => h1 _ (V _ (by rw [if_neg w0, if_pos w1])) _ _ _ _ _ _ _ _ _ _ _ _ _ hD' hc⟩, fun w0 => h1 _ (V _ (by rw [if_pos w0])) _ _ _ _ _ _ _ _ _ _ _ _ _ hD' hc⟩
    refine p_fewR hT t4'.1 t5'.1 hop (fun T => ?_)
    rw [zi_sub, zi_sub]
    exact h1 _ (V _ (by rw [if_neg w0, if_neg w1, if_neg w2])) _ _ _ _ _ _ _ _ _ _ _ _ _ hD' hc
  · have hni : ((i + 1 : Nat) : Int) = (i : Int) + 1 := by omega
    have gi := h6 i (by omega) (by omega)
    rw [Int.toNat_natCast] at gi
    have g2 := i4 i
    have rg := rsF_rng ws sq i
    have ss := sqs i hi
    rw [hni] at hkb
    have b202 : ∀ (wt wv ro lo wh : Int), (wt = 1 ↔ ws.getD i 0 = 4) → (wt = 0 ∨ wt = 1) → rsF ws sq (i + 1) = (wv, ro, lo, wh) → wp_X12_rests_b202 (fun t_thrown t_shadeDay t_wayMany t_whereAt t_isShut t_leastEnd t_cost t_leastCost t_wayOf t_stepsTo t_sunny t_sun t_facts t_pile l4 l5 l6 l9 l11 l12 => (¬ l6 = zi 0 → ((¬ l6 = 1 → ((¬ l6 = 2 → (wp_X12_fewestSteps (zA tw) t_stepsTo l4 l5 (fun r278 t_stepsTo_278 => post ((t_wayMany - l9) - r278) t_thrown t_shadeDay t_wayMany t_whereAt t_isShut t_leastEnd t_cost t_leastCost t_wayOf t_stepsTo_278 t_sunny t_sun t_facts t_pile))) ∧ (l6 = 2 → (post l12 t_thrown t_shadeDay t_wayMany t_whereAt t_isShut t_leastEnd t_cost t_leastCost t_wayOf t_stepsTo t_sunny t_sun t_facts t_pile)))) ∧ (l6 = 1 → (post l11 t_thrown t_shadeDay t_wayMany t_whereAt t_isShut t_leastEnd t_cost t_leastCost t_wayOf t_stepsTo t_sunny t_sun t_facts t_pile)))) ∧ (l6 = zi 0 → (post l9 t_thrown t_shadeDay t_wayMany t_whereAt t_isShut t_leastEnd t_cost t_leastCost t_wayOf t_stepsTo t_sunny t_sun t_facts t_pile))) kb (zA tw) op arg post (zi 0) (zi d) (zi ws.length) (zA fa) (zA shA') (zA le) (zA c) (zA lc) (zA ga) u5 (zA sy') (zA sn') f p (zi fr) (zi to) (zi w) (zi wv) (zi ro) (zi wh) (zi (sq i)) (zi i) (zi wt) (zi lo) := by
      intro wt wv ro lo wh hwt w01 hr
      rw [hr] at hkb
      dsimp only at hkb
      simp (disch := omega) only [wp_X12_rests_b202, forall_eq, zi_lit, zi_eq, zi_add, zi_in, zA_get]
      refine ⟨fun q => ⟨by omega, ?_⟩, fun q => ?_⟩
      · have n4 : ws.getD i 0 ≠ 4 := fun y => by have := hwt.mpr y; omega
        rw [gi]
        refine p_stepTo ss.1 (by omega) ?_
        rw [ss.2.2, if_neg n4] at hkb
        exact hkb
      · rw [ss.2.2, if_pos (hwt.mp (by omega))] at hkb
        exact hkb
    simp (disch := omega) only [wp_X12_rests_L115, wp_X12_rests_b140, wp_X12_rests_b154, wp_X12_rests_b170, wp_X12_rests_b186, forall_eq, zi_lit, zi_le, zi_eq, zi_add, zi_in, zA_get]
    refine ⟨fun u => by omega, fun _ => ⟨by omega, fun q => ⟨fun _ => ⟨fun _ => ?_, fun y => absurd trivial y⟩, fun y => absurd trivial y⟩, fun q => ⟨fun y => absurd y (by decide), fun _ => ⟨fun y => absurd y (by decide), fun _ => ?_⟩⟩⟩⟩
    · rw [gi] at q
      refine ⟨fun _ => ⟨fun _ => ?_, fun y => absurd (by omega) y⟩, fun y => absurd (by omega) y⟩
      rw [Int.add_zero]
      exact b202 0 _ 0 _ _ ⟨fun y => absurd y (by decide), fun y => absurd y q⟩ (Or.inl rfl) (by rw [rsF, if_neg q])
    · rw [gi] at q
      refine ⟨fun z => ⟨fun _ => ?_, fun y => absurd z y⟩, fun z => ⟨fun y => absurd y z, fun _ => ?_⟩⟩
      · exact b202 1 _ _ _ _ ⟨fun _ => q, fun _ => rfl⟩ (Or.inr rfl) (by rw [rsF, if_pos q, if_pos z, if_pos z])
      · exact b202 1 _ _ _ _ ⟨fun _ => q, fun _ => rfl⟩ (Or.inr rfl) (by rw [rsF, if_pos q, if_neg z, if_neg z])
end RU
