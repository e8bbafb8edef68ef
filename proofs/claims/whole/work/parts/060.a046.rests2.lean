/-! rests: both sides -/
section RT
variable {pl : Pool} {tw : Int → Int} {vf : Int → Int → Int → Int32} {sl : Int} {kd hg : Int → Int} {wks : Nat → Option Nat} {shw : Nat → Int64} {ex nt : Int → Int} {ww sw gw : Nat → Int64} {op arg : Nat → Int32}
noncomputable def rsV (tw : Int → Int) (vf : Int → Int → Int → Int32) (d p to m fr : Int) : Int × Int × Int × Int := rsF (wyC tw vf d p to 119 (100 * m + fr)) (fun i => nod (nxT tw (shC tw vf d) p) (wyC tw vf d p to 119 (100 * m + fr)) (100 * m + fr) i % 100) (wyC tw vf d p to 119 (100 * m + fr)).length
noncomputable def restsO (tw : Int → Int) (vf : Int → Int → Int → Int32) (wk d m fr to w : Int) : Option Int := @ite (Option Int) (tripP tw wk d m fr to ∧ (0 ≤ w ∧ w ≤ 3) ∧ lsC tw vf d (tw (383 + 7 * wk)) to 119 (100 * m + fr) < 1000000) (Classical.propDecidable _) (some (if w = 0 then (rsV tw vf d (tw (383 + 7 * wk)) to m fr).1 else if w = 1 then (rsV tw vf d (tw (383 + 7 * wk)) to m fr).2.2.1 else if w = 2 then (rsV tw vf d (tw (383 + 7 * wk)) to m fr).2.2.2 else ((wyC tw vf d (tw (383 + 7 * wk)) to 119 (100 * m + fr)).length : Int) - (rsV tw vf d (tw (383 + 7 * wk)) to m fr).1 - hpC tw fr to)) none
theorem p_restsC (C : CS pl tw vf sl kd hg wks shw ex nt ww sw gw) {wk d m fr to w : Int} (a1 : ir wk) (a2 : ir d) (a3 : ir m) (a4 : ir fr) (a5 : ir to) (a6 : ir w) {o1 : Nat} {o2 o3 o4 o5 o6 o7 o8 o9 o10 o11 o12 o13 o14 : Int32} {dw0 lw0 : Nat → Int64} {t1 t2 t3 t4 t5 t6 : Nat → Int32} {post : Option Int32 → Nat → Int32 → Int32 → Int32 → Int32 → Int32 → Int32 → Int32 → Int32 → Int32 → Int32 → Int32 → Int32 → (Nat → Int64) → (Nat → Int64) → (Nat → Int32) → (Nat → Int32) → Int32 → (Nat → Int32) → (Nat → Int32) → (Nat → Int32) → (Nat → Int32) → Prop}
    (h1 : ∀ v, restsO tw vf wk d m fr to w = some v → ∀ (q1 : Nat) (y2 y3 y4 y5 y6 y7 y8 y9 y10 y11 y12 y13 y14 : Int32) (dw lw : Nat → Int64) (s1 s2 s3 s4 s5 s6 : Nat → Int32), post (some (zi v)) q1 y2 y3 y4 y5 y6 y7 y8 y9 y10 y11 y12 y13 dw lw s1 s2 y14 s3 s4 s5 s6)
    (h0 : restsO tw vf wk d m fr to w = none → ∀ (q1 : Nat) (y2 y3 y4 y5 y6 y7 y8 y9 y10 y11 y12 y13 y14 : Int32) (dw lw : Nat → Int64) (s1 s2 s3 s4 s5 s6 : Nat → Int32), post none q1 y2 y3 y4 y5 y6 y7 y8 y9 y10 y11 y12 y13 dw lw s1 s2 y14 s3 s4 s5 s6) :
    wp_X11_rests pl (zi sl) (zA kd) wks false shw (zA ex) (zA nt) ww sw gw o1 o2 o3 o4 o5 o6 o7 o8 o9 o10 o11 o12 o13 dw0 lw0 t1 t2 o14 t3 t4 t5 t6 (zi wk) (zi d) (zi m) (zi fr) (zi to) (zi w) post := by
  have b6 := a6
  simp only [ir] at b6
  simp only [wp_X11_rests, wp_X11_rests_b37]
  rw [show (zi w < 0) = (zi w < zi 0) from rfl, show (3 < zi w) = (zi 3 < zi w) from rfl, zi_lt (by omega), zi_lt (by omega)]
  refine ⟨fun z => h0 (by rw [restsO, if_neg (fun y => by have := y.2.1; omega)]) .., fun z => ⟨fun z2 => h0 (by rw [restsO, if_neg (fun y => by have := y.2.1; omega)]) .., fun z2 => ?_⟩⟩
  refine p_ready C.1.1 C.1.2.2.1 C.1.2.2.2 a1 a2 a3 a4 a5 (fun t q dw hq hdw => ⟨fun z => absurd z (by decide), fun _ => ⟨_, _, _, _, _, _, hq, ?_⟩⟩) (fun t => ⟨fun _ => h0 (by rw [restsO, if_neg (fun y => t y.1)]) .., fun z => absurd rfl z⟩)
  refine p_seekL (bym := 119) (B := 119) C t (by omega) rfl hdw (fun hl _ q' lw' hF hL har e1 e2 => ⟨fun _ => ?_, fun z => absurd z (by decide)⟩) (fun hl q' lw' => ⟨fun z => absurd rfl z, fun _ => h0 (by rw [restsO, if_neg (fun y => hl y.2.2)]) ..⟩)
  have t' := t
  obtain ⟨t1', t2', t3', t4', t5'⟩ := t'
  have wo := C.1.2.1 wk t1'.1.1 t1'.1.2 t1'.2
  have hk : ndT tw (100 * m + fr) := ⟨by omega, by omega, by rw [show (100 * m + fr) % 100 = fr by omega]; exact t4'.2⟩
  refine p_takeWay C t (by omega) hdw hq hF hL har (fun La f g i1 i2 hlen h5 h6 => ?_)
  have hop := hpC_trip (tw := tw) (vf := vf) (d := d) (to := to) (bym := 119) wo.1 t3' t4'.1 hl
  have lt100 := hop_lt t4'.1 hop
  have hop0 := hop.1
  have rV : rsV tw vf d (tw (383 + 7 * wk)) to m fr = rsF (wyC tw vf d (tw (383 + 7 * wk)) to 119 (100 * m + fr)) (fun i => nod (nxT tw (shC tw vf d) (tw (383 + 7 * wk))) (wyC tw vf d (tw (383 + 7 * wk)) to 119 (100 * m + fr)) (100 * m + fr) i % 100) (wyC tw vf d (tw (383 + 7 * wk)) to 119 (100 * m + fr)).length := rfl
  have rg := rsF_rng (wyC tw vf d (tw (383 + 7 * wk)) to 119 (100 * m + fr)) (fun i => nod (nxT tw (shC tw vf d) (tw (383 + 7 * wk))) (wyC tw vf d (tw (383 + 7 * wk)) to 119 (100 * m + fr)) (100 * m + fr) i % 100) (wyC tw vf d (tw (383 + 7 * wk)) to 119 (100 * m + fr)).length
  rw [← rV] at rg
  have V : ∀ v, v = (if w = 0 then (rsV tw vf d (tw (383 + 7 * wk)) to m fr).1 else if w = 1 then (rsV tw vf d (tw (383 + 7 * wk)) to m fr).2.2.1 else if w = 2 then (rsV tw vf d (tw (383 + 7 * wk)) to m fr).2.2.2 else ((wyC tw vf d (tw (383 + 7 * wk)) to 119 (100 * m + fr)).length : Int) - (rsV tw vf d (tw (383 + 7 * wk)) to m fr).1 - hpC tw fr to) → restsO tw vf wk d m fr to w = some v := fun v hv => by rw [restsO, if_pos ⟨t, by omega, hl⟩, hv]
  refine p_waitsOn (sq := fun i => nod (nxT tw (shC tw vf d) (tw (383 + 7 * wk))) (wyC tw vf d (tw (383 + 7 * wk)) to 119 (100 * m + fr)) (100 * m + fr) i % 100) h6 i2 (by omega) ?_
  rw [← rV, show (zi w = 0) = (zi w = zi 0) from rfl, show (zi w = 1) = (zi w = zi 1) from rfl, show (zi w = 3) = (zi w = zi 3) from rfl, zi_eq (by omega), zi_eq (by omega), zi_eq (by omega)]
  refine ⟨fun w0 => ⟨fun w3 => ?_, fun w3 => ?_⟩, fun w0 => h1 _ (V _ (by rw [if_pos w0])) ..⟩
  · refine p_longest (sq := fun i => nod (nxT tw (shC tw vf d) (tw (383 + 7 * wk))) (wyC tw vf d (tw (383 + 7 * wk)) to 119 (100 * m + fr)) (100 * m + fr) i % 100) h6 i2 (by omega) ?_
    refine ⟨fun w1 => ?_, fun w1 => h1 _ (V _ (by rw [if_neg w0, if_pos w1, rV])) ..⟩
    refine p_restPlace (mi := fun i => nod (nxT tw (shC tw vf d) (tw (383 + 7 * wk))) (wyC tw vf d (tw (383 + 7 * wk)) to 119 (100 * m + fr)) (100 * m + fr) i / 100) h6 i2 (by omega) wo.1 (by rw [nod_0]; omega) (fun i hi => ?_) ?_
    · have x := wyC_at (tw := tw) (vf := vf) (d := d) (to := to) (bym := 119) wo.1 hk hl hi
      have x0 := x.1.1
      have x1 := x.1.2.1
      have pr := plen_rng (w := (wyC tw vf d (tw (383 + 7 * wk)) to 119 (100 * m + fr)).getD i 0) wo.1
      refine ⟨by omega, x.2.2.2.1, ?_⟩
      rw [h5 _ (by omega) (by omega)]
      exact pth_at (Gok_T wo.1 (snC_cB tw vf d)) (okN_T (tw := tw) (sh := shC tw vf d) (c := snC tw vf d) (to := to) (bym := 119) (nw := 5) (lc := fun k => lsC tw vf d (tw (383 + 7 * wk)) to 119 k) (le := fun k => enC tw vf d (tw (383 + 7 * wk)) to 119 k) wo.1 (fun k a b _ => lsC_ok wo.1 a b)) _ _ _ i hk (wyC_ok wo.1 hk hl).1 hi (Int.le_refl _) (by omega)
    · exact h1 _ (V _ (by rw [if_neg w0, if_neg w1, if_pos (by omega), rV])) ..
  · refine p_fewC C.2.2.2.1.2 C.2.2.2.1.1 t4'.1 t5'.1 hop (fun a b => ?_)
    rw [zi_sub, zi_sub]
    exact h1 _ (V _ (by rw [if_neg w0, if_neg (by omega), if_neg (by omega)])) ..
theorem p_sunOf (hT : twR tw) (hW : wkOk tw) (hC : clR tw op arg vf) {sd : Int} {sy sn shA c0 : Int → Int} (hD : dayI tw vf sd sy sn shA) (hc0 : i32 c0) {wk d m fr to : Int} (t : tripP tw wk d m fr to) {facts pile t1 t2 : Nat → Int32} {post : Int32 → Int32 → (Nat → Int32) → (Nat → Int32) → (Nat → Int32) → (Nat → Int32) → (Nat → Int32) → (Nat → Int32) → (Nat → Int32) → (Nat → Int32) → Prop}
    (h : ∀ (sy' sn' shA' c lc le : Int → Int) (f p : Nat → Int32), dayI tw vf d sy' sn' shA' → i32 c → (∀ k, 0 ≤ k → k < 12000 → c k = snC tw vf d k ∧ shA' k = shC tw vf d k) → i32 lc → i32 le → (∀ k, 0 ≤ k → k < 12000 → tw (k % 100) ≠ 1 → Bst (nxT tw shA' (tw (383 + 7 * wk))) (csT c (tw (383 + 7 * wk))) 5 to 119 k (lc k) (le k)) → lc (100 * m + fr) = lsC tw vf d (tw (383 + 7 * wk)) to 119 (100 * m + fr) → post (zi (lsC tw vf d (tw (383 + 7 * wk)) to 119 (100 * m + fr))) (zi d) (zA sy') (zA sn') (zA shA') f p (zA c) (zA lc) (zA le)) :
    wp_X12_sunOf (zA tw) op arg (zi sd) (zA sy) (zA sn) (zA shA) facts pile (zA c0) t1 t2 (zi wk) (zi d) (zi m) (zi fr) (zi to) post := by
  simp only [wp_X12_sunOf]
  refine p_findSun hT hW hC hD hc0 t (fun sy' sn' shA' c lc le f p hD' hc hcs i1 i2 hB => ?_)
  have t' := t
  obtain ⟨t1', t2', t3', t4', t5'⟩ := t'
  have wo := hW wk t1'.1.1 t1'.1.2 t1'.2
  have hk : tw ((100 * m + fr) % 100) ≠ 1 := by rw [show (100 * m + fr) % 100 = fr by omega]; exact t4'.2
  have hcB : cB c := fun k a b => by rw [(hcs k a b).1]; exact snC_cB tw vf d k a b
  have e := lsC_eq (tw := tw) (vf := vf) (d := d) wo.1 (fun k a b => (hcs k a b).2) hcB (fun k a b => (hcs k a b).1) (k := 100 * m + fr) (by omega) (by omega) (hB _ (by omega) (by omega) hk)
  simp (disch := omega) only [forall_eq, zi_lit, zi_mul, zi_add, zi_in, zA_get]
  refine ⟨by omega, ?_⟩
  rw [e.1]
  exact h sy' sn' shA' c lc le f p hD' hc hcs i1 i2 hB e.1
end RT
