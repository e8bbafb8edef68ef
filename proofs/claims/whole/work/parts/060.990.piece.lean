/-! the class's state beside the reference's town -/
def CS (pl : Pool) (tw : Int → Int) (vf : Int → Int → Int → Int32) (sl : Int) (kd hg : Int → Int) (wks : Nat → Option Nat) (shw : Nat → Int64) (ex nt : Int → Int) (ww sw gw : Nat → Int64) : Prop :=
  (twR tw ∧ wkOk tw ∧ kdR tw kd hg ∧ wkR2 pl tw wks) ∧ wR 960 shw (fun r s => dimP tw vf (r / 120) (r % 120) s) ∧ (∀ k, 0 ≤ k → k < 12000 → 0 ≤ ex k ∧ ex k ≤ 900) ∧ (i32 nt ∧ ntR nt tw) ∧ waR tw ww ∧ (0 ≤ sl ∧ sl < 1000) ∧ wR 960 sw (fun r s => clP tw vf 4 (r / 120) (r % 120) s (tw 200)) ∧ (sl = 0 → ∀ i, 0 ≤ i → i < tw 200 → tw (202 + 3 * i) ≠ 4) ∧ gR gw tw
section ST
variable {pl : Pool} {tw : Int → Int} {vf : Int → Int → Int → Int32} {sl : Int} {kd hg : Int → Int} {wks : Nat → Option Nat} {shw : Nat → Int64} {ex nt : Int → Int} {ww sw gw : Nat → Int64} {op arg : Nat → Int32}
theorem CS_sh (C : CS pl tw vf sl kd hg wks shw ex nt ww sw gw) {d : Int} (hd : 0 ≤ d ∧ d < 4) : shR d sl sw (shC tw vf d) := by
  obtain ⟨-, -, -, -, -, -, h, h2, -⟩ := C
  refine ⟨fun m s a b c e => ?_, fun z k a b => ?_⟩
  · rw [h (120 * d + m) s (by omega) (by omega) c (by omega)]
    show s < 100 ∧ clP tw vf 4 ((120 * d + m) / 120) ((120 * d + m) % 120) s (tw 200) ↔ _
    rw [show (120 * d + m) / 120 = d by omega, show (120 * d + m) % 120 = m by omega]
    have := shC_01 tw vf d (100 * m + s)
    rw [show (100 * m + s) / 100 = m by omega, show (100 * m + s) % 100 = s by omega] at this
    rcases this with ⟨x, y⟩ | ⟨x, y⟩
    · rw [x]; exact ⟨fun _ => by omega, fun _ => ⟨e, y⟩⟩
    · rw [x]; exact ⟨fun z => absurd z.2 y, fun z => absurd rfl z⟩
  · rcases shC_01 tw vf d k with ⟨x, i, i0, i1, i2, i3, i4⟩ | x
    · exact absurd i3 (h2 z i i0 i1)
    · exact x.1
theorem CS_ask (C : CS pl tw vf sl kd hg wks shw ex nt ww sw gw) {wk d to aims hot cool wt en : Int} (hd : 0 ≤ d ∧ d < 4) (hto : -1 ≤ to ∧ to < 100) (ha : 0 ≤ aims ∧ aims ≤ 3) (hw : (0 ≤ wk ∧ wk < 6) ∧ 0 < tw (382 + 7 * wk)) (hh : 0 ≤ hot ∧ hot ≤ 99) (hc : 0 ≤ cool ∧ cool ≤ 99) (hwt : 0 ≤ wt ∧ wt ≤ 1) (hen : 0 ≤ en ∧ en ≤ 119) : Ask d to hot cool wt aims ex nt tw (shC tw vf d) sl sw (tw (383 + 7 * wk)) (tw (384 + 7 * wk)) (tw (385 + 7 * wk)) en := by
  have w := C.1.2.1 wk hw.1.1 hw.1.2 hw.2
  have s := CS_sh C hd
  obtain ⟨-, -, h3, h4, -, h6, -⟩ := C
  exact ⟨hd, hto, hh, hc, hwt, ha, h3, h4.1, h4.2, h6, s, w.1, by omega, by omega, hen⟩
theorem CS_dk (C : CS pl tw vf sl kd hg wks shw ex nt ww sw gw) {d : Int} (hd : 0 ≤ d ∧ d < 4) {dw : Nat → Int64} (hdw : dwR shw dw d) {k : Int} (h0 : 0 ≤ k) (h1 : k < 12000) : dkF dw k = true ↔ dimP tw vf d (k / 100) (k % 100) := by
  rw [dkF, hbs, decide_eq_true (by omega), Bool.true_and, hdw _ _ (by omega) (by omega) (by omega) (by omega), C.2.1 _ _ (by omega) (by omega) (by omega) (by omega)]
  show k % 100 < 100 ∧ dimP tw vf ((120 * d + k / 100) / 120) ((120 * d + k / 100) % 120) (k % 100) ↔ _
  rw [show (120 * d + k / 100) / 120 = d by omega, show (120 * d + k / 100) % 120 = k / 100 by omega]
  exact ⟨fun z => z.2, fun z => ⟨by omega, z⟩⟩
theorem CS_cost (C : CS pl tw vf sl kd hg wks shw ex nt ww sw gw) {d : Int} (hd : 0 ≤ d ∧ d < 4) {dw : Nat → Int64} (hdw : dwR shw dw d) {k : Int} (h0 : 0 ≤ k) (h1 : k < 12000) : costF false 1 0 dw ex k = snC tw vf d k := by
  have h := CS_dk C hd hdw h0 h1
  simp only [costF]
  rcases snC_01 tw vf d k with ⟨x, y⟩ | ⟨x, y⟩
  · rw [x, if_pos (h.mpr y)]; simp
  · rw [x, if_neg (fun z => y (h.mp z))]; simp
theorem CS_agr (C : CS pl tw vf sl kd hg wks shw ex nt ww sw gw) {d p nw : Int} (hp : 1 ≤ p ∧ p ≤ 3) (hd : 0 ≤ d ∧ d < 4) {dw : Nat → Int64} (hdw : dwR shw dw d) : Agr (nxT tw (shC tw vf d) p) (csT (snC tw vf d) p) (nxT tw (shC tw vf d) p) (csT (costF false 1 0 dw ex) p) nw :=
  Agr_T hp (fun _ _ _ => rfl) (fun k a b => (CS_cost C hd hdw a b).symm)
/-- the class's search of the least sun, and the way that it takes -/
theorem p_seekLeast (C : CS pl tw vf sl kd hg wks shw ex nt ww sw gw) {wk d m fr to bym : Int} (t : tripP tw wk d m fr to) (hby : 0 ≤ bym ∧ bym < 2147483648) {dw : Nat → Int64} (hdw : dwR shw dw d) {cost : Int} (hc : -2147483648 ≤ cost ∧ cost < 2147483648) {x1 x2 x3 : Int32} {lw : Nat → Int64} {t1 : Nat → Int32} {post : Int32 → Int32 → Int32 → Int32 → Int32 → (Nat → Int64) → (Nat → Int32) → Prop}
    (h : ∀ (q : Sst) (lw' : Nat → Int64), Fnd tw (nxT tw (shC tw vf d) (tw (383 + 7 * wk))) (csT (costF false 1 0 dw ex) (tw (383 + 7 * wk))) 5 to (if 119 < bym then 119 else bym) (100 * m + fr) 268435455 (tw (383 + 7 * wk)) q → LR lw' q.2.2.2.2 → post (if q.2.2.1 = -1 then 0 else 1) 1 (zi q.1) (zi q.2.1) (zi q.2.2.1) lw' (zA q.2.2.2.1)) :
    wp_X9_seekLeast false (zi d) (zi m) (zi fr) (zi to) 1 0 1 dw (zA ex) (zA nt) (zi sl) ww sw (zi (tw (383 + 7 * wk))) (zi (tw (384 + 7 * wk))) (zi (tw (385 + 7 * wk))) x1 x2 (zi cost) x3 lw t1 (zi bym) post := by
  obtain ⟨t1', t2', t3', t4', t5'⟩ := t
  have A := CS_ask C (wk := wk) (to := to) (aims := 1) (hot := 1) (cool := 0) (wt := 1) (en := if 119 < bym then 119 else bym) t2' (by omega) (by omega) t1' (by omega) (by omega) (by omega) (by split <;> omega)
  simp only [wp_X9_seekLeast]
  exact p_cheap (nw := 5) (lim := 268435455) A t5'.1 (by omega) hc t3' t4'.1 t4'.2 hby rfl rfl (fun q lw' h1 _ h3 => h q lw' h1 h3)
/-- the class's way, taken behind a search of the least sun -/
theorem p_takeWay (C : CS pl tw vf sl kd hg wks shw ex nt ww sw gw) {wk d m fr to bym : Int} (t : tripP tw wk d m fr to) (hby : bym ≤ 119) {dw : Nat → Int64} (hdw : dwR shw dw d) {q0 : Nat} (hq0 : (q0, ob 10 [.int (zi (tw (383 + 7 * wk))), .int (zi (tw (384 + 7 * wk))), .int (zi (tw (385 + 7 * wk))), .int (zi (tw (386 + 7 * wk))), .int (zi (tw (387 + 7 * wk))), .int (zi (tw (388 + 7 * wk)))]) ∈ pl) {q : Sst} {lw : Nat → Int64} (hF : Fnd tw (nxT tw (shC tw vf d) (tw (383 + 7 * wk))) (csT (costF false 1 0 dw ex) (tw (383 + 7 * wk))) 5 to bym (100 * m + fr) 268435455 (tw (383 + 7 * wk)) q) (hL : LR lw q.2.2.2.2) (har : q.2.2.1 ≠ -1) {x3 x4 : Int32} {t1 t2 t3 : Nat → Int32} {post : Int32 → Int32 → (Nat → Int32) → Int32 → (Nat → Int32) → (Nat → Int32) → Prop}
    (h : ∀ (La : Nat → Int32) (f g : Int → Int), i32 f → i32 g → ((wyC tw vf d (tw (383 + 7 * wk)) to bym (100 * m + fr)).length : Int) ≤ 119 - m → (∀ j, 0 ≤ j → j < 120 → f j = pth (nxT tw (shC tw vf d) (tw (383 + 7 * wk))) (wyC tw vf d (tw (383 + 7 * wk)) to bym (100 * m + fr)) (100 * m + fr) j) → (∀ j, 0 ≤ j → j < ((wyC tw vf d (tw (383 + 7 * wk)) to bym (100 * m + fr)).length : Int) → g j = (wyC tw vf d (tw (383 + 7 * wk)) to bym (100 * m + fr)).getD j.toNat 0) → post (zi q.2.2.1) (zi to) La (zi (wyC tw vf d (tw (383 + 7 * wk)) to bym (100 * m + fr)).length) (zA f) (zA g)) :
    wp_X11_takeWay pl false q0 (zi d) (zi m) (zi fr) (zi to) 1 0 1 gw (zA nt) (zi sl) sw dw (zA ex) lw (zi q.2.2.1) x3 t1 x4 t2 t3 post := by
  have t' := t
  obtain ⟨t1', t2', t3', t4', t5'⟩ := t
  have A := CS_ask C (wk := wk) (to := to) (aims := 1) (hot := 1) (cool := 0) (wt := 1) (en := 119) t2' (by omega) (by omega) t1' (by omega) (by omega) (by omega) (by omega)
  have hp := A.2.2.2.2.2.2.2.2.2.2.2.1
  have hcB : cB (costF false 1 0 dw ex) := cB_cost A.2.2.1 A.2.2.2.1 A.2.2.2.2.2.2.1
  have cs := fun k a b => CS_cost C t2' hdw (k := k) a b
  have AG := CS_agr C (nw := 5) hp t2' hdw
  have hB : ∀ k, 0 ≤ k → k < 12000 → tw (k % 100) ≠ 1 → Bst (nxT tw (shC tw vf d) (tw (383 + 7 * wk))) (csT (costF false 1 0 dw ex) (tw (383 + 7 * wk))) 5 to bym k (lsC tw vf d (tw (383 + 7 * wk)) to bym k) (enC tw vf d (tw (383 + 7 * wk)) to bym k) := fun k a b _ => Bst_agr AG (Gok_T hp (snC_cB tw vf d)) a b (lsC_ok hp a b)
  have G := Gok_T (tw := tw) (sh := shC tw vf d) (nw := 5) hp hcB
  have cb := (Chp_Bst G (by omega) (by omega) t5'.1 hF.1 (hB (100 * m + fr) (by omega) (by omega) (by rw [show (100 * m + fr) % 100 = fr by omega]; exact t4'.2))).2 har
  have rg := lsC_rng (tw := tw) (vf := vf) (d := d) (to := to) (bym := bym) (k := 100 * m + fr) hp (by omega) (by omega) (by omega)
  obtain ⟨La0, rfl, -⟩ := zA_ex t1
  simp only [wp_X11_takeWay]
  refine ⟨_, _, _, _, _, _, hq0, ?_⟩
  refine p_labelBack (fo := 1) (D := q.2.2.2.2) A (by decide) (by decide) ⟨fun z => absurd z (by decide), fun _ => hL⟩ hF.2.2.2.1 (lo := m) (hi := q.2.2.1) (by omega) (by omega) (by omega) (fun La hLa hO _ => ?_)
  refine p_traceWay A (by decide) t5'.1 t3' t4'.1 t4'.2 hby hB (by omega) hF har hLa hO (fun ws f g hw hlen i1 i2 h5 h6 => ?_)
  have e := wyC_eq (bym := bym) hp (fun _ _ _ => rfl) hcB cs hB (k := 100 * m + fr) ⟨by omega, by omega, by rw [show (100 * m + fr) % 100 = fr by omega]; exact t4'.2⟩ (by omega) hw
  have h' := h (zA La) f g i1 i2
  rw [e.1] at h'
  exact h' hlen h5 h6
/-- piece -/
noncomputable def pieceV (tw : Int → Int) (vf : Int → Int → Int → Int32) (wk d m fr to i : Int) : Int := @ite Int (tripP tw wk d m fr to ∧ 0 ≤ i ∧ lsC tw vf d (tw (383 + 7 * wk)) to 119 (100 * m + fr) < 1000000 ∧ i < ((wyC tw vf d (tw (383 + 7 * wk)) to 119 (100 * m + fr)).length : Int)) (Classical.propDecidable _) ((wyC tw vf d (tw (383 + 7 * wk)) to 119 (100 * m + fr)).getD i.toNat 0) (-1)
theorem p_pieceR (hT : twR tw) (hW : wkOk tw) (hC : clR tw op arg vf) {sd : Int} {sy sn shA c0 : Int → Int} (hD : dayI tw vf sd sy sn shA) (hc0 : i32 c0) {wk d m fr to i : Int} (a1 : ir wk) (a2 : ir d) (a3 : ir m) (a4 : ir fr) (a5 : ir to) (a6 : ir i) {th wm : Int32} {facts pile t1 t2 t3 t4 : Nat → Int32} {post : Int32 → Int32 → Int32 → Int32 → (Nat → Int32) → (Nat → Int32) → (Nat → Int32) → (Nat → Int32) → (Nat → Int32) → (Nat → Int32) → (Nat → Int32) → (Nat → Int32) → (Nat → Int32) → (Nat → Int32) → Prop}
    (h : ∀ (sd' : Int) (sy' sn' shA' c' : Int → Int) (wm' : Int32) (f p lc le wa wo : Nat → Int32), dayI tw vf sd' sy' sn' shA' → i32 c' → post (zi (pieceV tw vf wk d m fr to i)) 0 (zi sd') wm' (zA sy') (zA sn') (zA shA') f p (zA c') lc le wa wo) :
    wp_X12_piece (zA tw) op arg th (zi sd) wm (zA sy) (zA sn) (zA shA) facts pile (zA c0) t1 t2 t3 t4 (zi wk) (zi d) (zi m) (zi fr) (zi to) (zi i) post := by
  have b6 := a6
  simp only [ir] at b6
  simp only [wp_X12_piece, zi_lit]
  refine p_isTrip hT.1 a1 a2 a3 a4 a5 (fun t => ⟨fun z => absurd z (by decide), fun _ => ?_⟩) (fun t => ⟨fun _ => ?_, fun z => absurd rfl z⟩)
  case refine_2 =>
    have := h sd sy sn shA c0 wm facts pile t1 t2 t3 t4 hD hc0
    rwa [pieceV, if_neg (fun z => t z.1)] at this
  rw [zi_le (by omega)]
  refine ⟨fun hi0 => ?_, fun hi0 => ?_⟩
  case refine_2 =>
    have := h sd sy sn shA c0 wm facts pile t1 t2 t3 t4 hD hc0
    rwa [pieceV, if_neg (fun z => hi0 z.2.1)] at this
  refine p_findSun hT hW hC hD hc0 t (fun sy' sn' shA' c lc le f p hD' hc hcs i1 i2 hB => ?_)
  have t' := t
  obtain ⟨t1', t2', t3', t4', t5'⟩ := t'
  have w := hW wk t1'.1.1 t1'.1.2 t1'.2
  have hk : tw ((100 * m + fr) % 100) ≠ 1 := by rw [show (100 * m + fr) % 100 = fr by omega]; exact t4'.2
  have hcB : cB c := fun k a b => by rw [(hcs k a b).1]; exact snC_cB tw vf d k a b
  have e := lsC_eq (tw := tw) (vf := vf) (d := d) w.1 (fun k a b => (hcs k a b).2) hcB (fun k a b => (hcs k a b).1) (k := 100 * m + fr) (by omega) (by omega) (hB _ (by omega) (by omega) hk)
  have hlr := i1 (100 * m + fr)
  simp (disch := omega) only [forall_eq, zi_mul, zi_add, zi_in, zA_get, zi_lt]
  refine ⟨by omega, fun hl => ?_, fun hl => ?_⟩
  case refine_2 =>
    have := h d sy' sn' shA' c wm f p (zA lc) (zA le) t3 t4 hD' hc
    rwa [pieceV, if_neg (fun z => hl (by have := z.2.2.1; omega))] at this
  refine p_walkerOf (i := 0) t1'.1 (by omega) ?_
  rw [show 383 + 7 * wk + 0 = 383 + 7 * wk by omega]
  refine p_findWay w.1 t5'.1 hT.1 hD'.2.2.2.1 hcB i1 i2 hB t3' t4'.1 t4'.2 hl (fun ws fa ga hw hlen i3 i4 h5 h6 => ?_)
  have e2 := wyC_eq (tw := tw) (vf := vf) (d := d) w.1 (fun k a b => (hcs k a b).2) hcB (fun k a b => (hcs k a b).1) hB (k := 100 * m + fr) ⟨by omega, by omega, hk⟩ hl hw
  have fin := h d sy' sn' shA' c (zi ws.length) f p (zA lc) (zA le) (zA fa) (zA ga) hD' hc
  rw [zi_le (by omega)]
  refine ⟨fun z => ?_, fun z => ⟨by omega, ?_⟩⟩
  · rwa [pieceV, if_neg (fun y => by have := y.2.2.2; rw [e2.1] at this; omega)] at fin
  · rw [pieceV, if_pos ⟨t, hi0, by omega, by rw [e2.1]; omega⟩, e2.1] at fin
    rw [zA_get (by omega), h6 i hi0 (by omega)]
    exact fin
theorem p_pieceC (C : CS pl tw vf sl kd hg wks shw ex nt ww sw gw) {wk d m fr to i : Int} (a1 : ir wk) (a2 : ir d) (a3 : ir m) (a4 : ir fr) (a5 : ir to) (a6 : ir i) {o1 : Nat} {o2 o3 o4 o5 o6 o7 o8 o9 o10 o11 o12 o13 o14 : Int32} {dw0 lw0 : Nat → Int64} {t1 t2 t3 t4 : Nat → Int32} {post : Int32 → Nat → Int32 → Int32 → Int32 → Int32 → Int32 → Int32 → Int32 → Int32 → Int32 → Int32 → Int32 → Int32 → (Nat → Int64) → (Nat → Int64) → (Nat → Int32) → (Nat → Int32) → Int32 → (Nat → Int32) → (Nat → Int32) → Prop}
    (h : ∀ (q1 : Nat) (y2 y3 y4 y5 y6 y7 y8 y9 y10 y11 y12 y13 y14 : Int32) (dw lw : Nat → Int64) (s1 s2 s3 s4 : Nat → Int32), post (zi (pieceV tw vf wk d m fr to i)) q1 y2 y3 y4 y5 y6 y7 y8 y9 y10 y11 y12 y13 dw lw s1 s2 y14 s3 s4) :
    wp_X11_piece pl (zi sl) (zA kd) wks false shw (zA ex) (zA nt) ww sw gw o1 o2 o3 o4 o5 o6 o7 o8 o9 o10 o11 o12 o13 dw0 lw0 t1 t2 o14 t3 t4 (zi wk) (zi d) (zi m) (zi fr) (zi to) (zi i) post := by
  have b6 := a6
  simp only [ir] at b6
  simp only [wp_X11_piece]
  rw [show (zi i < 0) = (zi i < zi 0) from rfl, zi_lt (by omega)]
  refine ⟨fun z => ?_, fun z => ?_⟩
  · have := h o1 o2 o3 o4 o5 o6 o7 o8 o9 o10 o11 o12 o13 o14 dw0 lw0 t1 t2 t3 t4
    rwa [pieceV, if_neg (fun y => by have := y.2.1; omega)] at this
  refine p_ready C.1.1 C.1.2.2.1 C.1.2.2.2 a1 a2 a3 a4 a5 (fun t q dw hq hdw => ⟨fun z => absurd z (by decide), fun _ => ⟨_, _, _, _, _, _, hq, ?_⟩⟩) (fun t => ⟨fun _ => ?_, fun z => absurd rfl z⟩)
  case refine_2 =>
    have := h o1 o2 o3 o4 o5 o6 o7 o8 o9 o10 o11 o12 o13 o14 dw0 lw0 t1 t2 t3 t4
    rwa [pieceV, if_neg (fun y => t y.1)] at this
  have t' := t
  obtain ⟨t1', t2', t3', t4', t5'⟩ := t'
  have w := C.1.2.1 wk t1'.1.1 t1'.1.2 t1'.2
  obtain ⟨c0, rfl, hc0⟩ := zi_ex o11
  refine p_seekLeast (bym := 119) C t (by omega) hdw hc0 (fun q' lw' hF hL => ?_)
  rw [if_neg (by decide)] at hF
  have A := CS_ask C (wk := wk) (to := to) (aims := 1) (hot := 1) (cool := 0) (wt := 1) (en := 119) t2' (by omega) (by omega) t1' (by omega) (by omega) (by omega) (by omega)
  have hcB : cB (costF false 1 0 dw ex) := cB_cost A.2.2.1 A.2.2.2.1 A.2.2.2.2.2.2.1
  have hB := Bst_agr (CS_agr C (nw := 5) w.1 t2' hdw) (Gok_T w.1 (snC_cB tw vf d)) (k := 100 * m + fr) (by omega) (by omega) (lsC_ok (to := to) (bym := 119) w.1 (by omega) (by omega))
  have cb := Chp_Bst (Gok_T w.1 hcB) (by omega) (by omega) t5'.1 hF.1 hB
  refine ⟨fun z => ?_, fun z => ?_⟩
  · have har : q'.2.2.1 ≠ -1 := fun y => z (by rw [if_pos y])
    have cb2 := cb.2 har
    refine p_takeWay C t (by omega) hdw hq hF hL har (fun La f g i1 i2 hlen h5 h6 => ?_)
    refine p_at (by decide) (by omega) (by omega) (fun z1 z2 => ?_) (fun z1 => ?_)
    · rw [h6 i z1 z2]
      have fin := h q (zi d) (zi m) (zi fr) (zi to) 1 0 1 1 (zi q'.1) (zi q'.2.1) (zi q'.2.2.1) (zi to) (zi (wyC tw vf d (tw (383 + 7 * wk)) to 119 (100 * m + fr)).length) dw lw' (zA q'.2.2.2.1) La (zA f) (zA g)
      rwa [pieceV, if_pos ⟨t, z1, by omega, z2⟩] at fin
    · have fin := h q (zi d) (zi m) (zi fr) (zi to) 1 0 1 1 (zi q'.1) (zi q'.2.1) (zi q'.2.2.1) (zi to) (zi (wyC tw vf d (tw (383 + 7 * wk)) to 119 (100 * m + fr)).length) dw lw' (zA q'.2.2.2.1) La (zA f) (zA g)
      rwa [pieceV, if_neg (fun y => z1 ⟨y.2.1, y.2.2.2⟩)] at fin
  · have har : q'.2.2.1 = -1 := Classical.byContradiction (fun y => absurd z (by rw [if_neg y]; decide))
    have cb1 := cb.1 har
    have fin := h q (zi d) (zi m) (zi fr) (zi to) 1 0 1 1 (zi q'.1) (zi q'.2.1) (zi q'.2.2.1) o13 o14 dw lw' (zA q'.2.2.2.1) t2 t3 t4
    rwa [pieceV, if_neg (fun y => by have := cb1 y.2.2.1; have := y.2.2.1; omega)] at fin
end ST
