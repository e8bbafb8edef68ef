/-! ice, pays: both sides -/
section PA
variable {pl : Pool} {tw : Int → Int} {vf : Int → Int → Int → Int32} {sl : Int} {kd hg : Int → Int} {wks : Nat → Option Nat} {shw : Nat → Int64} {ex nt : Int → Int} {ww sw gw : Nat → Int64} {op arg : Nat → Int32}
/-- what a minute melts -/
noncomputable def meC (tw : Int → Int) (vf : Int → Int → Int → Int32) (wk d k : Int) : Int := if snC tw vf d k = 0 then tw (388 + 7 * wk) else tw (387 + 7 * wk)
noncomputable def iceL (tw : Int → Int) (vf : Int → Int → Int → Int32) (wk d to k : Int) : Int := (bC (nxT tw (shC tw vf d) (tw (383 + 7 * wk))) (csT (meC tw vf wk d) (tw (383 + 7 * wk))) 5 to 119 k).1
noncomputable def iceV (tw : Int → Int) (vf : Int → Int → Int → Int32) (wk d m fr to : Int) : Int := @ite Int (tripP tw wk d m fr to ∧ iceL tw vf wk d to (100 * m + fr) < 1000000) (Classical.propDecidable _) (if 0 < tw (386 + 7 * wk) - iceL tw vf wk d to (100 * m + fr) then tw (386 + 7 * wk) - iceL tw vf wk d to (100 * m + fr) else 0) (-1)
theorem p_iceC (C : CS pl tw vf sl kd hg wks shw ex nt ww sw gw) {wk d m fr to : Int} (a1 : ir wk) (a2 : ir d) (a3 : ir m) (a4 : ir fr) (a5 : ir to) {o1 : Nat} {o2 o3 o4 o5 o6 o7 o8 o9 o10 o11 o12 : Int32} {dw0 lw0 : Nat → Int64} {t1 : Nat → Int32} {post : Int32 → Nat → Int32 → Int32 → Int32 → Int32 → Int32 → Int32 → Int32 → Int32 → Int32 → Int32 → Int32 → (Nat → Int64) → (Nat → Int64) → (Nat → Int32) → Prop}
    (h : ∀ (q1 : Nat) (y2 y3 y4 y5 y6 y7 y8 y9 y10 y11 y12 : Int32) (dw lw : Nat → Int64) (s1 : Nat → Int32), post (zi (iceV tw vf wk d m fr to)) q1 y2 y3 y4 y5 y6 y7 y8 y9 y10 y11 y12 dw lw s1) :
    wp_X11_ice pl (zi sl) (zA kd) wks false shw (zA ex) (zA nt) ww sw o1 o2 o3 o4 o5 o6 o7 o8 o9 o10 o11 o12 dw0 lw0 t1 (zi wk) (zi d) (zi m) (zi fr) (zi to) post := by
  simp only [wp_X11_ice]
  refine p_ready C.1.1 C.1.2.2.1 C.1.2.2.2 a1 a2 a3 a4 a5 (fun t q dw hq hdw => ⟨fun _ => ⟨_, _, _, _, _, _, hq, ?_⟩, fun z => absurd z (by decide)⟩) (fun t => ⟨fun z => absurd rfl z, fun _ => ?_⟩)
  case refine_2 =>
    rw [iceV, if_neg (fun y => t y.1)] at h
    exact h _ _ _ _ _ _ _ _ _ _ _ _ _ _ _
  have t' := t
  obtain ⟨t1', t2', t3', t4', t5'⟩ := t'
  have w := C.1.2.1 wk t1'.1.1 t1'.1.2 t1'.2
  obtain ⟨c0, rfl, hc0⟩ := zi_ex o11
  have hcc : ∀ k, 0 ≤ k → k < 12000 → costF false (tw (387 + 7 * wk)) (tw (388 + 7 * wk)) dw ex k = meC tw vf wk d k := by
    intro k a b
    have q := CS_dk C t2' hdw a b
    simp only [costF, meC]
    rcases snC_01 tw vf d k with ⟨x, y⟩ | ⟨x, y⟩
    · rw [if_pos (q.mpr y), if_pos x]; simp
    · rw [if_neg (fun z => y (q.mp z)), x]; simp
  rw [show (1 : Int32) = zi 1 from rfl, show (119 : Int32) = zi 119 from rfl]
  refine p_seekG (bym := 119) (nw := 5) (wt := 1) (en := 119) (dw := dw) C t (by omega) (by omega) (by omega) (by omega) rfl hcc rfl hc0 (fun q' lw' hF hL h1 h2 => ?_)
  refine ⟨fun z => ?_, fun z => ?_⟩
  · have har : q'.2.2.1 = -1 := Classical.byContradiction (fun y => absurd z (by rw [if_neg y]; decide))
    have fin := h q (zi d) (zi m) (zi fr) (zi to) (zi (tw (387 + 7 * wk))) (zi (tw (388 + 7 * wk))) 1 1 (zi q'.1) (zi q'.2.1) (zi q'.2.2.1) dw lw' (zA q'.2.2.2.1)
    rw [iceV, if_neg (fun y => h1 har y.2)] at fin
    exact fin
  · have har : q'.2.2.1 ≠ -1 := fun y => z (by rw [if_pos y])
    have g := h2 har
    have fin := h q (zi d) (zi m) (zi fr) (zi to) (zi (tw (387 + 7 * wk))) (zi (tw (388 + 7 * wk))) 1 1 (zi q'.1) (zi q'.2.1) (zi q'.2.2.1) dw lw' (zA q'.2.2.2.1)
    have eL : iceL tw vf wk d to (100 * m + fr) = q'.2.1 := g.1
    rw [iceV, if_pos ⟨t, by omega⟩, eL] at fin
    have e : (if (0 : Int32) < zi (tw (386 + 7 * wk)) - zi q'.2.1 then zi (tw (386 + 7 * wk)) - zi q'.2.1 else 0) = zi (if 0 < tw (386 + 7 * wk) - q'.2.1 then tw (386 + 7 * wk) - q'.2.1 else 0) := by
      rw [zi_sub, show (0 : Int32) = zi 0 from rfl]
      by_cases q : 0 < tw (386 + 7 * wk) - q'.2.1
      · rw [if_pos q, if_pos (by rw [zi_lt (by omega)]; exact q)]
      · rw [if_neg q, if_neg (by rw [zi_lt (by omega)]; exact q)]
    rw [e]
    exact fin
theorem p_iceR (hT : twR tw) (hW : wkOk tw) (hC : clR tw op arg vf) {sd : Int} {sy sn shA c0 : Int → Int} (hD : dayI tw vf sd sy sn shA) (hc0 : i32 c0) {wk d m fr to : Int} (a1 : ir wk) (a2 : ir d) (a3 : ir m) (a4 : ir fr) (a5 : ir to) {th : Int32} {facts pile t1 t2 : Nat → Int32} {post : Int32 → Int32 → Int32 → (Nat → Int32) → (Nat → Int32) → (Nat → Int32) → (Nat → Int32) → (Nat → Int32) → (Nat → Int32) → (Nat → Int32) → (Nat → Int32) → Prop}
    (h : ∀ (sd' : Int) (sy' sn' shA' c' : Int → Int) (f p lc le : Nat → Int32), dayI tw vf sd' sy' sn' shA' → i32 c' → post (zi (iceV tw vf wk d m fr to)) 0 (zi sd') (zA sy') (zA sn') (zA shA') f p (zA c') lc le) :
    wp_X12_ice (zA tw) op arg th (zi sd) (zA sy) (zA sn) (zA shA) facts pile (zA c0) t1 t2 (zi wk) (zi d) (zi m) (zi fr) (zi to) post := by
  simp only [wp_X12_ice]
  refine p_isTrip hT.1 a1 a2 a3 a4 a5 (fun t => ⟨fun _ => ?_, fun z => absurd z (by decide)⟩) (fun t => ⟨fun z => absurd rfl z, fun _ => ?_⟩)
  case refine_2 =>
    rw [iceV, if_neg (fun y => t y.1)] at h
    exact h _ _ _ _ _ _ _ _ _ hD hc0
  have t' := t
  obtain ⟨t1', t2', t3', t4', t5'⟩ := t'
  have w := hW wk t1'.1.1 t1'.1.2 t1'.2
  refine p_laysDay hT hC t2' hD.1 hD.2.2.1 hD.2.2.2.1 hD.2.2.2.2 hD.2.1 (fun sy' sn' shA' f p i1 i2 dr => ?_)
  obtain ⟨syf, rfl, i3⟩ := zA_ex sy'
  have hD' : dayI tw vf d syf sn' shA' := ⟨by omega, i3, i1, i2, fun _ => dr⟩
  refine lp_inv (fun i s' => ∃ c : Int → Int, s' = (0, zi d, zA syf, zA sn', zA shA', f, p, zA c, t1, t2, zi wk, zi m, zi fr, zi to, zi i) ∧ i32 c ∧ ∀ k, 0 ≤ k → k < (i : Int) → c k = meC tw vf wk d k) 12000 ?_ ?_ 0 (Nat.zero_le _) ⟨c0, rfl, hc0, fun k a b => by omega⟩
  · rintro s' ⟨c, rfl, j1, j2⟩ kb
    simp (disch := omega) only [wp_X12_ice_L29, zi_lit, zi_le]
    refine ⟨fun _ => ?_, fun z => absurd (by decide) z⟩
    refine p_walkerOf (i := 0) t1'.1 (by omega) ?_
    rw [show 383 + 7 * wk + 0 = 383 + 7 * wk by omega]
    have hcB : cB c := fun k a b => by rw [j2 k a b, meC]; split <;> omega
    refine p_findLeast (wt := 1) (bym := 119) (nw := 5) w.1 t5'.1 (by omega) hT.1 i2 hcB (Or.inr rfl) (by decide) (fun lc le k1 k2 kB jB => ?_)
    have e := bC_eq (Agr_T (sh' := shC tw vf d) (c' := meC tw vf wk d) w.1 (fun k a b => (dayR_C dr a b).2) (fun k a b => j2 k a b)) (Gok_T w.1 hcB) (k := 100 * m + fr) (by omega) (by omega) (jB _ (by omega) (by omega) (by rw [show (100 * m + fr) % 100 = fr by omega]; exact t4'.2))
    have eL : lc (100 * m + fr) = iceL tw vf wk d to (100 * m + fr) := e.1
    have hb := kB (100 * m + fr) (by omega) (by omega)
    simp (disch := omega) only [forall_eq, zi_mul, zi_add, zi_in, zA_get]
    refine ⟨by omega, ?_⟩
    refine p_walkerOf (i := 3) t1'.1 (by omega) ?_
    rw [show 383 + 7 * wk + 3 = 386 + 7 * wk by omega]
    simp (disch := omega) only [forall_eq, zi_sub, zi_lt, zi_le]
    have fin := h d syf sn' shA' c f p (zA lc) (zA le) hD' j1
    refine ⟨fun z => ⟨fun y => ?_, fun y => ?_⟩, fun z => ?_⟩
    · rw [iceV, if_pos ⟨t, by omega⟩, ← eL] at fin
      by_cases x : 0 < tw (386 + 7 * wk) - lc (100 * m + fr)
      · rw [if_pos x] at fin; exact fin
      · rw [if_neg x] at fin; rw [show tw (386 + 7 * wk) - lc (100 * m + fr) = 0 by omega]; exact fin
    · rw [iceV, if_pos ⟨t, by omega⟩, ← eL, if_neg (by omega)] at fin
      exact fin
    · rw [iceV, if_neg (fun y => by have := y.2; omega)] at fin
      exact fin
  · rintro i hi s' ⟨c, rfl, j1, j2⟩ kb hkb
    have hni : ((i + 1 : Nat) : Int) = (i : Int) + 1 := by omega
    have hs := dayR_C dr (k := i) (by omega) (by omega)
    have h01 := snC_01 tw vf d i
    have nxt : kb (0, zi d, zA syf, zA sn', zA shA', f, p, zA (upI c i (meC tw vf wk d i)), t1, t2, zi wk, zi m, zi fr, zi to, zi ((i : Int) + 1)) := by
      refine hkb _ ⟨upI c i (meC tw vf wk d i), by rw [hni], i32_up j1 (by rw [meC]; split <;> omega), fun k a b => ?_⟩
      by_cases hk : k = i
      · subst hk; rw [upI_s]
      · rw [upI_n hk]; exact j2 k a (by omega)
    simp (disch := omega) only [wp_X12_ice_L29, wp_X12_ice_b60, zi_lit, zi_le, zi_in, zA_get]
    refine ⟨fun z => by omega, fun _ => ⟨by omega, fun z => ?_, fun z => ?_⟩⟩
    · refine p_walkerOf (i := 5) t1'.1 (by omega) ?_
      rw [show 383 + 7 * wk + 5 = 388 + 7 * wk by omega]
      rw [meC, if_pos (by omega)] at nxt
      simp (disch := omega) only [forall_eq, zi_add, zA_upd]
      exact ⟨by omega, nxt⟩
    · refine p_walkerOf (i := 4) t1'.1 (by omega) ?_
      rw [show 383 + 7 * wk + 4 = 387 + 7 * wk by omega]
      rw [meC, if_neg (by omega)] at nxt
      simp (disch := omega) only [forall_eq, zi_add, zA_upd]
      exact ⟨by omega, nxt⟩
/-- what waiting pays -/
noncomputable def lsW (tw : Int → Int) (vf : Int → Int → Int → Int32) (d p to k : Int) : Int := (bC (nxT tw (shC tw vf d) p) (csT (snC tw vf d) p) 4 to 119 k).1
noncomputable def paysV (tw : Int → Int) (vf : Int → Int → Int → Int32) (wk d m fr to : Int) : Int := @ite Int (tripP tw wk d m fr to ∧ lsW tw vf d (tw (383 + 7 * wk)) to (100 * m + fr) < 1000000) (Classical.propDecidable _) (lsW tw vf d (tw (383 + 7 * wk)) to (100 * m + fr) - lsC tw vf d (tw (383 + 7 * wk)) to 119 (100 * m + fr)) (-1)
theorem pt_45 {nx cs : Int → Int → Int} {to : Int} : ∀ (ws : List Int) (k k' c : Int), pt nx cs 4 to ws k k' c → pt nx cs 5 to ws k k' c
  | [], _, _, _, h => h
  | w :: ws, k, k', c, h => by
    obtain ⟨h1, h2, h3, h4, h5⟩ := h
    exact ⟨h1, h2, by omega, h4, pt_45 ws _ _ _ h5⟩
theorem ls_45 {d p to k : Int} (hp : 1 ≤ p ∧ p ≤ 3) (h0 : 0 ≤ k) (h1 : k < 12000) (h : lsW tw vf d p to k < 1000000) : lsC tw vf d p to 119 k < 1000000 := by
  have b4 : Bst (nxT tw (shC tw vf d) p) (csT (snC tw vf d) p) 4 to 119 k (lsW tw vf d p to k) _ := bC_ok (Gok_T hp (snC_cB tw vf d)) h0 h1
  obtain ⟨ws, k', a, b, c, e⟩ := b4.1 h
  have := (lsC_ok (tw := tw) (vf := vf) (d := d) (to := to) (bym := 119) hp h0 h1).2.1 ws k' _ (pt_45 _ _ _ _ a) b (by omega)
  omega
theorem p_paysC (C : CS pl tw vf sl kd hg wks shw ex nt ww sw gw) {wk d m fr to : Int} (a1 : ir wk) (a2 : ir d) (a3 : ir m) (a4 : ir fr) (a5 : ir to) {o1 : Nat} {o2 o3 o4 o5 o6 o7 o8 o9 o10 o11 o12 : Int32} {dw0 lw0 : Nat → Int64} {t1 : Nat → Int32} {post : Int32 → Nat → Int32 → Int32 → Int32 → Int32 → Int32 → Int32 → Int32 → Int32 → Int32 → Int32 → Int32 → (Nat → Int64) → (Nat → Int64) → (Nat → Int32) → Prop}
    (h : ∀ (q1 : Nat) (y2 y3 y4 y5 y6 y7 y8 y9 y10 y11 y12 : Int32) (dw lw : Nat → Int64) (s1 : Nat → Int32), post (zi (paysV tw vf wk d m fr to)) q1 y2 y3 y4 y5 y6 y7 y8 y9 y10 y11 y12 dw lw s1) :
    wp_X11_pays pl (zi sl) (zA kd) wks false shw (zA ex) (zA nt) ww sw o1 o2 o3 o4 o5 o6 o7 o8 o9 o10 o11 o12 dw0 lw0 t1 (zi wk) (zi d) (zi m) (zi fr) (zi to) post := by
  simp only [wp_X11_pays]
  refine p_ready C.1.1 C.1.2.2.1 C.1.2.2.2 a1 a2 a3 a4 a5 (fun t q dw hq hdw => ⟨fun z => absurd z (by decide), fun _ => ⟨_, _, _, _, _, _, hq, ?_⟩⟩) (fun t => ⟨fun _ => ?_, fun z => absurd rfl z⟩)
  case refine_2 =>
    rw [paysV, if_neg (fun y => t y.1)] at h
    exact h _ _ _ _ _ _ _ _ _ _ _ _ _ _ _
  have t' := t
  obtain ⟨t1', t2', t3', t4', t5'⟩ := t'
  have w := C.1.2.1 wk t1'.1.1 t1'.1.2 t1'.2
  obtain ⟨c0, rfl, hc0⟩ := zi_ex o11
  have hcc : ∀ k, 0 ≤ k → k < 12000 → costF false 1 0 dw ex k = snC tw vf d k := fun k a b => CS_cost C t2' hdw a b
  rw [show (1 : Int32) = zi 1 from rfl, show (0 : Int32) = zi 0 from rfl, show (119 : Int32) = zi 119 from rfl]
  refine p_seekG (bym := 119) (nw := 5) (wt := 1) (en := 119) (dw := dw) C t (by omega) (by omega) (by omega) (by omega) rfl hcc rfl hc0 (fun q' lw' hF hL h1 h2 => ?_)
  refine ⟨fun z => ?_, fun z => ?_⟩
  · have har : q'.2.2.1 ≠ -1 := fun y => z (by rw [if_pos y]; rfl)
    have g := h2 har
    refine p_seekG (bym := 119) (nw := 4) (wt := 0) (en := 119) (dw := dw) C t (by omega) (by omega) (by omega) (by omega) rfl hcc rfl (by omega) (fun q2 lw2 hF2 hL2 h3 h4 => ?_)
    refine ⟨fun z2 => ?_, fun z2 => ?_⟩
    · have har2 : q2.2.2.1 = -1 := Classical.byContradiction (fun y => absurd z2 (by rw [if_neg y]; decide))
      rw [paysV, if_neg (fun y => h3 har2 y.2)] at h
      exact h _ _ _ _ _ _ _ _ _ _ _ _ _ _ _
    · have har2 : q2.2.2.1 ≠ -1 := fun y => z2 (by rw [if_pos y]; rfl)
      have g2 := h4 har2
      have e1 : lsC tw vf d (tw (383 + 7 * wk)) to 119 (100 * m + fr) = q'.2.1 := g.1
      have e2 : lsW tw vf d (tw (383 + 7 * wk)) to (100 * m + fr) = q2.2.1 := g2.1
      rw [paysV, if_pos ⟨t, by omega⟩, e1, e2] at h
      rw [zi_sub]
      exact h _ _ _ _ _ _ _ _ _ _ _ _ _ _ _
  · have har : q'.2.2.1 = -1 := Classical.byContradiction (fun y => absurd z (by rw [if_neg y]; decide))
    have h1' : ¬ lsC tw vf d (tw (383 + 7 * wk)) to 119 (100 * m + fr) < 1000000 := h1 har
    rw [paysV, if_neg (fun y => h1' (ls_45 w.1 (by omega) (by omega) y.2))] at h
    exact h _ _ _ _ _ _ _ _ _ _ _ _ _ _ _
theorem p_paysR (hT : twR tw) (hW : wkOk tw) (hC : clR tw op arg vf) {sd : Int} {sy sn shA c0 : Int → Int} (hD : dayI tw vf sd sy sn shA) (hc0 : i32 c0) {wk d m fr to : Int} (a1 : ir wk) (a2 : ir d) (a3 : ir m) (a4 : ir fr) (a5 : ir to) {th : Int32} {facts pile t1 t2 : Nat → Int32} {post : Int32 → Int32 → Int32 → (Nat → Int32) → (Nat → Int32) → (Nat → Int32) → (Nat → Int32) → (Nat → Int32) → (Nat → Int32) → (Nat → Int32) → (Nat → Int32) → Prop}
    (h : ∀ (sd' : Int) (sy' sn' shA' c' : Int → Int) (f p lc le : Nat → Int32), dayI tw vf sd' sy' sn' shA' → i32 c' → post (zi (paysV tw vf wk d m fr to)) 0 (zi sd') (zA sy') (zA sn') (zA shA') f p (zA c') lc le) :
    wp_X12_pays (zA tw) op arg th (zi sd) (zA sy) (zA sn) (zA shA) facts pile (zA c0) t1 t2 (zi wk) (zi d) (zi m) (zi fr) (zi to) post := by
  simp only [wp_X12_pays]
  refine p_isTrip hT.1 a1 a2 a3 a4 a5 (fun t => ⟨fun _ => ?_, fun z => absurd z (by decide)⟩) (fun t => ⟨fun z => absurd rfl z, fun _ => ?_⟩)
  case refine_2 =>
    rw [paysV, if_neg (fun y => t y.1)] at h
    exact h _ _ _ _ _ _ _ _ _ hD hc0
  have t' := t
  obtain ⟨t1', t2', t3', t4', t5'⟩ := t'
  have w := hW wk t1'.1.1 t1'.1.2 t1'.2
  refine p_findSun hT hW hC hD hc0 t (fun sy' sn' shA' c lc le f p hD' hc hcs i1 i2 hB => ?_)
  have hk : tw ((100 * m + fr) % 100) ≠ 1 := by rw [show (100 * m + fr) % 100 = fr by omega]; exact t4'.2
  have hcB : cB c := fun k a b => by rw [(hcs k a b).1]; exact snC_cB tw vf d k a b
  have e := lsC_eq (tw := tw) (vf := vf) (d := d) w.1 (fun k a b => (hcs k a b).2) hcB (fun k a b => (hcs k a b).1) (k := 100 * m + fr) (by omega) (by omega) (hB _ (by omega) (by omega) hk)
  have hlr := i1 (100 * m + fr)
  simp (disch := omega) only [forall_eq, zi_lit, zi_mul, zi_add, zi_in, zA_get]
  refine ⟨by omega, ?_⟩
  refine p_walkerOf (i := 0) t1'.1 (by omega) ?_
  rw [show 383 + 7 * wk + 0 = 383 + 7 * wk by omega]
  refine p_findLeast (wt := 0) (bym := 119) (nw := 4) w.1 t5'.1 (by omega) hT.1 hD'.2.2.2.1 hcB (Or.inl rfl) (by decide) (fun lc2 le2 k1 k2 kB jB => ?_)
  have e2 := bC_eq (Agr_T (sh' := shC tw vf d) (c' := snC tw vf d) w.1 (fun k a b => (hcs k a b).2) (fun k a b => (hcs k a b).1)) (Gok_T w.1 hcB) (k := 100 * m + fr) (by omega) (by omega) (jB _ (by omega) (by omega) hk)
  have eL : lc2 (100 * m + fr) = lsW tw vf d (tw (383 + 7 * wk)) to (100 * m + fr) := e2.1
  have hb := kB (100 * m + fr) (by omega) (by omega)
  simp (disch := omega) only [forall_eq, zi_sub, zi_in, zA_get, zi_lt]
  have fin := h d sy' sn' shA' c f p (zA lc2) (zA le2) hD' hc
  refine ⟨by omega, fun z => ?_, fun z => ?_⟩
  · rw [paysV, if_pos ⟨t, by omega⟩, ← eL, ← e.1] at fin
    exact fin
  · rw [paysV, if_neg (fun y => by have := y.2; omega)] at fin
    exact fin
end PA
