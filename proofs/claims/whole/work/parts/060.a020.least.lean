/-! least: both sides -/
section LE
variable {pl : Pool} {tw : Int → Int} {vf : Int → Int → Int → Int32} {sl : Int} {kd hg : Int → Int} {wks : Nat → Option Nat} {shw : Nat → Int64} {ex nt : Int → Int} {ww sw gw : Nat → Int64} {op arg : Nat → Int32}
/-- the search of the least sun by a minute, its two ends -/
theorem p_seekL (C : CS pl tw vf sl kd hg wks shw ex nt ww sw gw) {wk d m fr to bym B : Int} (t : tripP tw wk d m fr to) (hby : 0 ≤ bym ∧ bym < 2147483648) (hBb : B = if 119 < bym then 119 else bym) {dw : Nat → Int64} (hdw : dwR shw dw d) {x1 x2 x3 x4 : Int32} {lw : Nat → Int64} {t1 : Nat → Int32} {post : Int32 → Int32 → Int32 → Int32 → Int32 → (Nat → Int64) → (Nat → Int32) → Prop}
    (h1 : lsC tw vf d (tw (383 + 7 * wk)) to B (100 * m + fr) < 1000000 → 0 ≤ lsC tw vf d (tw (383 + 7 * wk)) to B (100 * m + fr) → ∀ (q : Sst) (lw' : Nat → Int64), Fnd tw (nxT tw (shC tw vf d) (tw (383 + 7 * wk))) (csT (costF false 1 0 dw ex) (tw (383 + 7 * wk))) 5 to B (100 * m + fr) 268435455 (tw (383 + 7 * wk)) q → LR lw' q.2.2.2.2 → q.2.2.1 ≠ -1 → q.2.1 = lsC tw vf d (tw (383 + 7 * wk)) to B (100 * m + fr) → q.2.2.1 = enC tw vf d (tw (383 + 7 * wk)) to B (100 * m + fr) → post 1 1 (zi q.1) (zi q.2.1) (zi q.2.2.1) lw' (zA q.2.2.2.1))
    (h0 : ¬ lsC tw vf d (tw (383 + 7 * wk)) to B (100 * m + fr) < 1000000 → ∀ (q : Sst) (lw' : Nat → Int64), post 0 1 (zi q.1) (zi q.2.1) (zi q.2.2.1) lw' (zA q.2.2.2.1)) :
    wp_X9_seekLeast false (zi d) (zi m) (zi fr) (zi to) 1 0 1 dw (zA ex) (zA nt) (zi sl) ww sw (zi (tw (383 + 7 * wk))) (zi (tw (384 + 7 * wk))) (zi (tw (385 + 7 * wk))) x1 x2 x4 x3 lw t1 (zi bym) post := by
  obtain ⟨c0, rfl, hc0⟩ := zi_ex x4
  refine p_seekLeast C t hby hdw hc0 (fun q' lw' hF hL => ?_)
  rw [← hBb] at hF
  have t' := t
  obtain ⟨t1', t2', t3', t4', t5'⟩ := t'
  have w := C.1.2.1 wk t1'.1.1 t1'.1.2 t1'.2
  have A := CS_ask C (wk := wk) (to := to) (aims := 1) (hot := 1) (cool := 0) (wt := 1) (en := 119) t2' (by omega) (by omega) t1' (by omega) (by omega) (by omega) (by omega)
  have hcB : cB (costF false 1 0 dw ex) := cB_cost A.2.2.1 A.2.2.2.1 A.2.2.2.2.2.2.1
  have hB := Bst_agr (CS_agr C (nw := 5) w.1 t2' hdw) (Gok_T w.1 (snC_cB tw vf d)) (k := 100 * m + fr) (by omega) (by omega) (lsC_ok (to := to) (bym := B) w.1 (by omega) (by omega))
  have cb := Chp_Bst (Gok_T w.1 hcB) (by omega) (by omega) t5'.1 hF.1 hB
  by_cases har : q'.2.2.1 = -1
  · have cb1 := cb.1 har
    rw [if_pos har]
    exact h0 (fun y => by have := cb1 y; omega) q' lw'
  · have cb2 := cb.2 har
    have rg := lsC_rng (tw := tw) (vf := vf) (d := d) (to := to) (bym := B) (k := 100 * m + fr) w.1 (by omega) (by omega) (by omega)
    rw [if_neg har]
    exact h1 (by omega) rg.1 q' lw' hF hL har cb2.1.symm cb2.2.1.symm
noncomputable def leastO (tw : Int → Int) (vf : Int → Int → Int → Int32) (wk d m fr to w : Int) : Option Int := @ite (Option Int) (tripP tw wk d m fr to ∧ (0 ≤ w ∧ w ≤ 2) ∧ lsC tw vf d (tw (383 + 7 * wk)) to 119 (100 * m + fr) < 1000000) (Classical.propDecidable _) (some (if w = 0 then lsC tw vf d (tw (383 + 7 * wk)) to 119 (100 * m + fr) else if w = 1 then enC tw vf d (tw (383 + 7 * wk)) to 119 (100 * m + fr) else ((wyC tw vf d (tw (383 + 7 * wk)) to 119 (100 * m + fr)).length : Int))) none
theorem p_leastC (C : CS pl tw vf sl kd hg wks shw ex nt ww sw gw) {wk d m fr to w : Int} (a1 : ir wk) (a2 : ir d) (a3 : ir m) (a4 : ir fr) (a5 : ir to) (a6 : ir w) {o1 : Nat} {o2 o3 o4 o5 o6 o7 o8 o9 o10 o11 o12 o13 o14 : Int32} {dw0 lw0 : Nat → Int64} {t1 t2 t3 t4 : Nat → Int32} {post : Option Int32 → Nat → Int32 → Int32 → Int32 → Int32 → Int32 → Int32 → Int32 → Int32 → Int32 → Int32 → Int32 → Int32 → (Nat → Int64) → (Nat → Int64) → (Nat → Int32) → (Nat → Int32) → Int32 → (Nat → Int32) → (Nat → Int32) → Prop}
    (h1 : ∀ v, leastO tw vf wk d m fr to w = some v → ∀ (q1 : Nat) (y2 y3 y4 y5 y6 y7 y8 y9 y10 y11 y12 y13 y14 : Int32) (dw lw : Nat → Int64) (s1 s2 s3 s4 : Nat → Int32), post (some (zi v)) q1 y2 y3 y4 y5 y6 y7 y8 y9 y10 y11 y12 y13 dw lw s1 s2 y14 s3 s4)
    (h0 : leastO tw vf wk d m fr to w = none → ∀ (q1 : Nat) (y2 y3 y4 y5 y6 y7 y8 y9 y10 y11 y12 y13 y14 : Int32) (dw lw : Nat → Int64) (s1 s2 s3 s4 : Nat → Int32), post none q1 y2 y3 y4 y5 y6 y7 y8 y9 y10 y11 y12 y13 dw lw s1 s2 y14 s3 s4) :
    wp_X11_least pl (zi sl) (zA kd) wks false shw (zA ex) (zA nt) ww sw gw o1 o2 o3 o4 o5 o6 o7 o8 o9 o10 o11 o12 o13 dw0 lw0 t1 t2 o14 t3 t4 (zi wk) (zi d) (zi m) (zi fr) (zi to) (zi w) post := by
  have b6 := a6
  simp only [ir] at b6
  simp only [wp_X11_least, wp_X11_least_b37]
  rw [show (zi w < 0) = (zi w < zi 0) from rfl, show (2 < zi w) = (zi 2 < zi w) from rfl, zi_lt (by omega), zi_lt (by omega)]
  refine ⟨fun z => h0 (by rw [leastO, if_neg (fun y => by have := y.2.1; omega)]) .., fun z => ⟨fun z2 => h0 (by rw [leastO, if_neg (fun y => by have := y.2.1; omega)]) .., fun z2 => ?_⟩⟩
  refine p_ready C.1.1 C.1.2.2.1 C.1.2.2.2 a1 a2 a3 a4 a5 (fun t q dw hq hdw => ⟨fun z => absurd z (by decide), fun _ => ⟨_, _, _, _, _, _, hq, ?_⟩⟩) (fun t => ⟨fun _ => h0 (by rw [leastO, if_neg (fun y => t y.1)]) .., fun z => absurd rfl z⟩)
  refine p_seekL (bym := 119) (B := 119) C t (by omega) rfl hdw (fun hl _ q' lw' hF hL har e1 e2 => ⟨fun _ => ?_, fun z => absurd z (by decide)⟩) (fun hl q' lw' => ⟨fun z => absurd rfl z, fun _ => h0 (by rw [leastO, if_neg (fun y => hl y.2.2)]) ..⟩)
  rw [show (zi w = 0) = (zi w = zi 0) from rfl, show (zi w = 1) = (zi w = zi 1) from rfl, zi_eq (by omega), zi_eq (by omega)]
  refine ⟨fun w0 => ⟨fun w1 => ?_, fun w1 => ?_⟩, fun w0 => ?_⟩
  · refine p_takeWay C t (by omega) hdw hq hF hL har (fun La f g i1 i2 hlen h5 h6 => ?_)
    exact h1 _ (by rw [leastO, if_pos ⟨t, by omega, hl⟩, if_neg w0, if_neg w1]) ..
  · rw [e2]
    exact h1 _ (by rw [leastO, if_pos ⟨t, by omega, hl⟩, if_neg w0, if_pos w1]) ..
  · rw [e1]
    exact h1 _ (by rw [leastO, if_pos ⟨t, by omega, hl⟩, if_pos w0]) ..
theorem p_leastR (hT : twR tw) (hW : wkOk tw) (hC : clR tw op arg vf) {sd : Int} {sy sn shA c0 : Int → Int} (hD : dayI tw vf sd sy sn shA) (hc0 : i32 c0) {wk d m fr to w : Int} (a1 : ir wk) (a2 : ir d) (a3 : ir m) (a4 : ir fr) (a5 : ir to) (a6 : ir w) {th wm : Int32} {facts pile t1 t2 t3 t4 : Nat → Int32} {post : Int32 → Int32 → Int32 → Int32 → (Nat → Int32) → (Nat → Int32) → (Nat → Int32) → (Nat → Int32) → (Nat → Int32) → (Nat → Int32) → (Nat → Int32) → (Nat → Int32) → (Nat → Int32) → (Nat → Int32) → Prop}
    (h1 : ∀ v, leastO tw vf wk d m fr to w = some v → ∀ (sd' : Int) (sy' sn' shA' c' : Int → Int) (wm' : Int32) (f p lc le wa wo : Nat → Int32), dayI tw vf sd' sy' sn' shA' → i32 c' → post (zi v) 0 (zi sd') wm' (zA sy') (zA sn') (zA shA') f p (zA c') lc le wa wo)
    (h0 : leastO tw vf wk d m fr to w = none → ∀ (sd' : Int) (sy' sn' shA' c' : Int → Int) (wm' : Int32) (f p lc le wa wo : Nat → Int32), dayI tw vf sd' sy' sn' shA' → i32 c' → post 0 1 (zi sd') wm' (zA sy') (zA sn') (zA shA') f p (zA c') lc le wa wo) :
    wp_X12_least (zA tw) op arg th (zi sd) wm (zA sy) (zA sn) (zA shA) facts pile (zA c0) t1 t2 t3 t4 (zi wk) (zi d) (zi m) (zi fr) (zi to) (zi w) post := by
  have b6 := a6
  simp only [ir] at b6
  have no : leastO tw vf wk d m fr to w = none → wp_X12_least_b29 (zA tw) op arg post th (zi sd) wm (zA sy) (zA sn) (zA shA) facts pile (zA c0) t1 t2 t3 t4 (zi wk) (zi d) (zi m) (zi fr) (zi to) (zi w) := by
    intro z
    simp only [wp_X12_least_b29, wp_X12_least_b30]
    exact ⟨fun y => absurd y (by decide), fun _ => h0 z sd sy sn shA c0 wm facts pile t1 t2 t3 t4 hD hc0⟩
  simp only [wp_X12_least]
  refine p_isTrip hT.1 a1 a2 a3 a4 a5 (fun t => ⟨fun z => absurd z (by decide), fun _ => ?_⟩) (fun t => ⟨fun _ => no (by rw [leastO, if_neg (fun y => t y.1)]), fun z => absurd rfl z⟩)
  rw [show (0 : Int32) = zi 0 from rfl, show (2 : Int32) = zi 2 from rfl]
  refine p_within a6 (by omega) (by omega) (fun q2 => ⟨fun z => absurd z (by decide), fun _ => ?_⟩) (fun q2 => ⟨fun _ => no (by rw [leastO, if_neg (fun y => q2 y.2.1)]), fun z => absurd rfl z⟩)
  simp only [wp_X12_least_b30]
  refine ⟨fun _ => ?_, fun z => absurd (by decide) z⟩
  refine p_findSun hT hW hC hD hc0 t (fun sy' sn' shA' c lc le f p hD' hc hcs i1 i2 hB => ?_)
  have t' := t
  obtain ⟨t1', t2', t3', t4', t5'⟩ := t'
  have wo := hW wk t1'.1.1 t1'.1.2 t1'.2
  have hk : tw ((100 * m + fr) % 100) ≠ 1 := by rw [show (100 * m + fr) % 100 = fr by omega]; exact t4'.2
  have hcB : cB c := fun k a b => by rw [(hcs k a b).1]; exact snC_cB tw vf d k a b
  have e := lsC_eq (tw := tw) (vf := vf) (d := d) wo.1 (fun k a b => (hcs k a b).2) hcB (fun k a b => (hcs k a b).1) (k := 100 * m + fr) (by omega) (by omega) (hB _ (by omega) (by omega) hk)
  have hlr := i1 (100 * m + fr)
  simp (disch := omega) only [forall_eq, zi_lit, zi_mul, zi_add, zi_in, zA_get, zi_le]
  refine ⟨by omega, fun hl => ?_, fun hl => ?_⟩
  · simp only [wp_X12_least_b78]
    exact ⟨fun y => absurd y (by decide), fun _ => h0 (by rw [leastO, if_neg (fun z => by have := z.2.2; omega)]) d sy' sn' shA' c wm f p (zA lc) (zA le) t3 t4 hD' hc⟩
  simp only [wp_X12_least_b78]
  refine ⟨fun _ => ?_, fun z => absurd (by decide) z⟩
  refine p_walkerOf (i := 0) t1'.1 (by omega) ?_
  rw [show 383 + 7 * wk + 0 = 383 + 7 * wk by omega]
  refine p_findWay wo.1 t5'.1 hT.1 hD'.2.2.2.1 hcB i1 i2 hB t3' t4'.1 t4'.2 (by omega) (fun ws fa ga hw hlen i3 i4 h5 h6 => ?_)
  have e2 := wyC_eq (tw := tw) (vf := vf) (d := d) wo.1 (fun k a b => (hcs k a b).2) hcB (fun k a b => (hcs k a b).1) hB (k := 100 * m + fr) ⟨by omega, by omega, hk⟩ (by omega) hw
  have ler := i2 (100 * m + fr)
  simp (disch := omega) only [zi_lit, zi_eq, zi_in, zA_get]
  refine ⟨fun w0 => ⟨fun w1 => ?_, fun w1 => ⟨by omega, ?_⟩⟩, fun w0 => ⟨by omega, ?_⟩⟩
  · exact h1 _ (by rw [leastO, if_pos ⟨t, q2, by omega⟩, if_neg w0, if_neg w1, e2.1]) d sy' sn' shA' c _ f p (zA lc) (zA le) (zA fa) (zA ga) hD' hc
  · rw [e.2 (by omega)]
    exact h1 _ (by rw [leastO, if_pos ⟨t, q2, by omega⟩, if_neg w0, if_pos w1]) d sy' sn' shA' c _ f p (zA lc) (zA le) (zA fa) (zA ga) hD' hc
  · rw [e.1]
    exact h1 _ (by rw [leastO, if_pos ⟨t, q2, by omega⟩, if_pos w0]) d sy' sn' shA' c _ f p (zA lc) (zA le) (zA fa) (zA ga) hD' hc
end LE
