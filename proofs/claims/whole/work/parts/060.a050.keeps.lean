/-! keeps: both sides -/
section KE
variable {pl : Pool} {tw : Int → Int} {vf : Int → Int → Int → Int32} {sl : Int} {kd hg : Int → Int} {wks suns : Nat → Option Nat} {shw : Nat → Int64} {ex nt : Int → Int} {ww sw gw : Nat → Int64} {op arg : Nat → Int32}
theorem gR_of {gw : Nat → Int64} (h : wR 2 gw (fun _ s => tw s ≠ 1)) : gR gw tw := fun s a b => by
  have x := h 0 s (by omega) (by decide) a b
  by_cases q : s < 100 ∧ tw s ≠ 1
  · rw [x.mpr q, decide_eq_true q.1, decide_eq_true q.2]; rfl
  · have : hb gw 0 s = false := by
      cases e : hb gw 0 s with
      | false => rfl
      | true => exact absurd (x.mp e) q
    rw [this]
    by_cases q1 : s < 100
    · rw [decide_eq_true q1, decide_eq_false (fun y => q ⟨q1, y⟩)]; rfl
    · rw [decide_eq_false q1]; rfl
theorem CS_sky {rw' gw' cw sh' : Nat → Int64} {nt' ln : Int → Int} (C : CS pl tw vf sl kd hg wks shw ex nt ww sw gw) (k : skR tw vf rw' gw' nt' ln cw sh') : CS pl tw vf sl kd hg wks sh' ex nt' ww sw gw' :=
  ⟨C.1, k.2.2.2.2.2, C.2.2.1, ⟨k.2.2.1, k.2.1⟩, C.2.2.2.2.1, C.2.2.2.2.2.1, C.2.2.2.2.2.2.1, C.2.2.2.2.2.2.2.1, gR_of k.1⟩
/-- the state over a town that is another on its squares -/
theorem CS_ag {tv kd' hg' : Int → Int} {rw' gw' cw sh' : Nat → Int64} {nt' ln : Int → Int} (C : CS pl tw vf sl kd hg wks shw ex nt ww sw gw) (a : agT tw tv) (hT : twR tv) (hK : kdR tv kd' hg') (k : skR tv vf rw' gw' nt' ln cw sh') : CS pl tv vf sl kd' hg' wks sh' ex nt' ww sw gw' := by
  obtain ⟨⟨c1, c2, c3, c4⟩, c5, c6, c7, c8, c9, c10, c11, c12⟩ := C
  refine ⟨⟨hT, wkOk_ag c2 a, hK, wkR2_ag c4 a⟩, k.2.2.2.2.2, c6, ⟨k.2.2.1, k.2.1⟩, waR_ag c8 a, c9, fun r s r0 r1 s0 s1 => ?_, fun z i i0 i1 => ?_, gR_of k.1⟩
  · show _ ↔ s < 100 ∧ clP tv vf 4 (r / 120) (r % 120) s (tv 200)
    rw [clP_ag a]
    exact c10 r s r0 r1 s0 s1
  · rw [a 200 (by omega)] at i1
    rw [a _ (by omega)]
    exact c11 z i i0 i1
theorem pt_open {tv sh c c' : Int → Int} {p to : Int} (hp : 1 ≤ p ∧ p ≤ 3) (ho : ∀ s, 0 ≤ s → s < 100 → tw s ≠ 1 → tv s ≠ 1) : ∀ (ws : List Int) (k k' v : Int), 0 ≤ k → k < 12000 → pt (nxT tw sh p) (csT c p) 5 to ws k k' v → ∃ v', pt (nxT tv sh p) (csT c' p) 5 to ws k k' v'
  | [], k, k', v, _, _, h => ⟨0, h.1, rfl⟩
  | w :: ws, k, k', v, h0, h1, h => by
    obtain ⟨e1, w0, w1, e2, e3⟩ := h
    have b := bhd_rng (tw := tw) (sh := sh) (w := w) hp (show 0 ≤ k / 100 ∧ k / 100 < 120 by omega) (show 0 ≤ k % 100 ∧ k % 100 < 100 by omega)
    have e : bhd tw sh p (k / 100) (k % 100) w = nxT tw sh p k w := rfl
    rw [e] at b
    rcases b with b | b
    · omega
    have en : nxT tv sh p k w = nxT tw sh p k w := by
      have o : tv (nxT tw sh p k w % 100) ≠ 1 := ho _ (by omega) (by omega) b.2.2.2.2
      rw [b.2.2.2.1] at o
      have nb := b.2.2.2.2
      rw [b.2.2.2.1] at nb
      have d : nxT tw sh p k w = bhd tw sh p (k / 100) (k % 100) w := rfl
      have d2 : nxT tv sh p k w = bhd tv sh p (k / 100) (k % 100) w := rfl
      have hk : 0 ≤ bhd tw sh p (k / 100) (k % 100) w := by rw [← d]; exact e2
      rw [d, d2]
      simp only [bhd] at hk ⊢
      generalize (if w = 4 then k % 100 else stp (k % 100) w) = q at hk o nb ⊢
      by_cases z : k / 100 + plen w p > 119 ∨ q = -1 ∨ tw q = 1 ∨ w ≠ 4 ∧ sh (100 * (k / 100 + plen w p) + q) ≠ 0
      · rw [if_pos z] at hk; omega
      · rw [if_neg z, if_neg (fun y => z (by rcases y with y | y | y | y; exact Or.inl y; exact Or.inr (Or.inl y); exact absurd y o; exact Or.inr (Or.inr (Or.inr y))))]
    obtain ⟨v', hv⟩ := pt_open hp ho ws (nxT tw sh p k w) k' _ b.1 b.2.1 e3
    exact ⟨v' + csT c' p k w, e1, w0, w1, by rw [en]; exact e2, by rw [en, show v' + csT c' p k w - csT c' p k w = v' by omega]; exact hv⟩
theorem lsC_open {tv : Int → Int} {d p to bym k : Int} (hp : 1 ≤ p ∧ p ≤ 3) (a : agT tw tv) (ho : ∀ s, 0 ≤ s → s < 100 → tw s ≠ 1 → tv s ≠ 1) (h0 : 0 ≤ k) (h1 : k < 12000) (hl : lsC tw vf d p to bym k < 1000000) : lsC tv vf d p to bym k < 1000000 := by
  obtain ⟨ws, k', x1, x2, x3, x4⟩ := (lsC_ok (tw := tw) (vf := vf) (d := d) (to := to) (bym := bym) hp h0 h1).1 hl
  obtain ⟨v', hv⟩ := pt_open (tv := tv) (c' := snC tv vf d) hp ho ws k k' _ h0 h1 x1
  refine Classical.byContradiction (fun z => ?_)
  rw [← shC_ag a] at hv
  exact absurd (by omega) (Bst_none (Gok_T hp (snC_cB tv vf d)) h0 h1 (lsC_ok (tw := tv) (vf := vf) (d := d) (to := to) (bym := bym) hp h0 h1) z hv x2)
noncomputable def keepsO (tw : Int → Int) (vf : Int → Int → Int → Int32) (wk d m fr to s : Int) : Option Int := @ite (Option Int) (tripP tw wk d m fr to ∧ ((0 ≤ s ∧ s < 100) ∧ tw s = 1) ∧ lsC tw vf d (tw (383 + 7 * wk)) to 119 (100 * m + fr) < 1000000) (Classical.propDecidable _) (some (lsC (putT tw s 0 0) vf d (tw (383 + 7 * wk)) to 119 (100 * m + fr) - lsC tw vf d (tw (383 + 7 * wk)) to 119 (100 * m + fr))) none
theorem putT_open {s j : Int} (hs : 0 ≤ s ∧ s < 100) (hj : j < 100) (h : tw j ≠ 1) : putT tw s 0 0 j ≠ 1 := by
  rw [putT_k hs j hj]
  split
  · decide
  · exact h
theorem p_keepsC (C : CS pl tw vf sl kd hg wks shw ex nt ww sw gw) (hs : suR pl tw suns) {aw : Nat → Int64} (hA : wR 960 aw (fun r s => clP tw vf 3 (r / 120) (r % 120) s (tw 200))) {wk d m fr to s : Int} (a1 : ir wk) (a2 : ir d) (a3 : ir m) (a4 : ir fr) (a5 : ir to) (a6 : ir s) {o1 : Nat} {o2 o3 o4 o5 o6 o7 o8 o9 o10 o11 o12 : Int32} {dw0 lw0 rw0 cw0 : Nat → Int64} {t1 t2 : Nat → Int32} {post : Option Int32 → (Nat → Int32) → Nat → Int32 → Int32 → Int32 → Int32 → Int32 → Int32 → Int32 → Int32 → Int32 → Int32 → Int32 → (Nat → Int64) → (Nat → Int64) → (Nat → Int64) → (Nat → Int32) → (Nat → Int32) → (Nat → Int32) → (Nat → Int64) → (Nat → Int64) → (Nat → Int32) → (Nat → Int64) → Prop}
    (h1 : ∀ v, keepsO tw vf wk d m fr to s = some v → ∀ (rw' gw' cw sh' : Nat → Int64) (nt' ln : Int → Int), skR tw vf rw' gw' nt' ln cw sh' → ∀ (q1 : Nat) (y2 y3 y4 y5 y6 y7 y8 y9 y10 y11 y12 : Int32) (dw lw : Nat → Int64) (s1 : Nat → Int32), post (some (zi v)) (zA kd) q1 y2 y3 y4 y5 y6 y7 y8 y9 y10 y11 y12 dw sh' lw s1 (zA nt') (zA hg) rw' gw' (zA ln) cw)
    (h0 : keepsO tw vf wk d m fr to s = none → ∀ (q1 : Nat) (y2 y3 y4 y5 y6 y7 y8 y9 y10 y11 y12 : Int32) (dw lw : Nat → Int64) (s1 : Nat → Int32), post none (zA kd) q1 y2 y3 y4 y5 y6 y7 y8 y9 y10 y11 y12 dw shw lw s1 (zA nt) (zA hg) rw0 gw t2 cw0) :
    wp_X11_keeps pl (zi sl) (zi (tw 261)) wks false (zA ex) ww sw suns aw (zA kd) o1 o2 o3 o4 o5 o6 o7 o8 o9 o10 o11 o12 dw0 shw lw0 t1 (zA nt) (zA hg) rw0 gw t2 cw0 (zi wk) (zi d) (zi m) (zi fr) (zi to) (zi s) post := by
  have hT := C.1.1
  have hK := C.1.2.2.1
  simp only [wp_X11_keeps, wp_X11_keeps_b48]
  refine p_isSquare a6 (fun q => ⟨fun z => absurd z (by decide), fun _ => ?_⟩) (fun q => ⟨fun _ => h0 (by rw [keepsO, if_neg (fun y => q y.2.1.1)]) .., fun z => absurd rfl z⟩)
  have k1 := hK.2.2 s q.1 q.2
  have ts := hT.1 s
  have th := hT.2.1 s q.1 q.2
  simp (disch := omega) only [zi_lit, zi_in, zA_get, k1.1, zi_eq]
  refine ⟨by omega, fun y => h0 (by rw [keepsO, if_neg (fun z => y z.2.1.2)]) .., fun hh => ?_⟩
  refine p_ready C.1.1 C.1.2.2.1 C.1.2.2.2 a1 a2 a3 a4 a5 (fun t qw dw hq hdw => ⟨fun z => absurd z (by decide), fun _ => ⟨_, _, _, _, _, _, hq, ?_⟩⟩) (fun t => ⟨fun _ => h0 (by rw [keepsO, if_neg (fun y => t y.1)]) .., fun z => absurd rfl z⟩)
  refine p_seekL (bym := 119) (B := 119) C t (by omega) rfl hdw (fun hl hl0 q' lw' hF hL har e1 e2 => ⟨fun _ => ⟨by omega, ?_⟩, fun z => absurd z (by decide)⟩) (fun hl q' lw' => ⟨fun z => absurd rfl z, fun _ => h0 (by rw [keepsO, if_neg (fun y => hl y.2.2)]) ..⟩)
  simp only [forall_eq, k1.2]
  have ag : agT tw (putT tw s 0 0) := putT_ag q
  have hTv := putT_R (tw := tw) (k := 0) (h := 0) hT q (by decide) (by decide)
  have hKv := putT_kd (k := 0) (h := 0) hK q (by decide) (by decide)
  refine p_putTown q ?_
  refine p_buildAg hTv hKv (suR_ag hs ag) ag hA (fun rw1 gw1 nt1 ln1 cw1 sw1 hk1 => ?_)
  have Cv := CS_ag C ag hTv hKv hk1
  have t' := t
  obtain ⟨t1', t2', t3', t4', t5'⟩ := t'
  have wo := C.1.2.1 wk t1'.1.1 t1'.1.2 t1'.2
  have tv : tripP (putT tw s 0 0) wk d m fr to := tripP_ag ag (putT_open q (by omega)) (putT_open q (by omega)) t
  have hlv := lsC_open (vf := vf) (d := d) (to := to) (bym := 119) (k := 100 * m + fr) wo.1 ag (fun j _ j1 => putT_open q j1) (by omega) (by omega) hl
  have ep : putT tw s 0 0 (383 + 7 * wk) = tw (383 + 7 * wk) := ag _ (by omega)
  refine p_ready Cv.1.1 Cv.1.2.2.1 Cv.1.2.2.2 a1 a2 a3 a4 a5 (fun _ qw2 dw2 hq2 hdw2 => ⟨fun z => absurd z (by decide), fun _ => ⟨_, _, _, _, _, _, hq2, ?_⟩⟩) (fun z => absurd tv z)
  refine p_seekL (bym := 119) (B := 119) Cv tv (by omega) rfl hdw2 (fun _ hl0' q'' lw'' hF2 hL2 har2 f1 f2 => ⟨fun z => absurd z (by decide), fun _ => ?_⟩) (fun hn q'' lw'' => absurd (by rw [ep]; exact hlv) hn)
  simp only [wp_X11_keeps_b130]
  have ekd : upI (upI kd s 0) s 1 = kd := by rw [upI_twice, show (1 : Int) = kd s by rw [k1.1]; exact hh.symm, upI_same]
  have ehg : upI (upI hg s 0) s (tw (100 + s)) = hg := by rw [upI_twice, ← k1.2, upI_same]
  refine p_putTown (k := 1) q ?_
  rw [ekd, ehg]
  refine p_build hT hK hs hA (fun rw2 gw2 nt2 ln2 cw2 sw2 hk2 => ⟨fun _ => ?_, fun z => absurd z (by decide)⟩)
  rw [zi_sub, f1, e1, ep]
  exact h1 _ (by rw [keepsO, if_pos ⟨t, ⟨q, hh⟩, hl⟩]) rw2 gw2 cw2 sw2 nt2 ln2 hk2 ..
theorem p_keepsR (hT : twR tw) (hW : wkOk tw) (hC : clR tw op arg vf) {sd : Int} {sy sn shA c0 : Int → Int} (hD : dayI tw vf sd sy sn shA) (hc0 : i32 c0) {wk d m fr to s : Int} (a1 : ir wk) (a2 : ir d) (a3 : ir m) (a4 : ir fr) (a5 : ir to) (a6 : ir s) {th : Int32} {facts pile t1 t2 : Nat → Int32} {post : Int32 → Int32 → Int32 → (Nat → Int32) → (Nat → Int32) → (Nat → Int32) → (Nat → Int32) → (Nat → Int32) → (Nat → Int32) → (Nat → Int32) → (Nat → Int32) → (Nat → Int32) → Prop}
    (h1 : ∀ v, keepsO tw vf wk d m fr to s = some v → ∀ (sd' : Int) (sy' sn' shA' c' : Int → Int) (f p lc le : Nat → Int32), dayI tw vf sd' sy' sn' shA' → i32 c' → post (zi v) 0 (zi sd') (zA tw) (zA sy') (zA sn') (zA shA') f p (zA c') lc le)
    (h0 : keepsO tw vf wk d m fr to s = none → ∀ (sd' : Int) (sy' sn' shA' c' : Int → Int) (f p lc le : Nat → Int32), dayI tw vf sd' sy' sn' shA' → i32 c' → post 0 1 (zi sd') (zA tw) (zA sy') (zA sn') (zA shA') f p (zA c') lc le) :
    wp_X12_keeps op arg th (zi sd) (zA tw) (zA sy) (zA sn) (zA shA) facts pile (zA c0) t1 t2 (zi wk) (zi d) (zi m) (zi fr) (zi to) (zi s) post := by
  have no : keepsO tw vf wk d m fr to s = none → wp_X12_keeps_b37 op arg post th (zi sd) (zA tw) (zA sy) (zA sn) (zA shA) facts pile (zA c0) t1 t2 (zi wk) (zi d) (zi m) (zi fr) (zi to) (zi s) := by
    intro z
    simp only [wp_X12_keeps_b37, wp_X12_keeps_b38, wp_X12_keeps_b62, wp_X12_keeps_b78]
    exact ⟨fun _ => ⟨fun _ => ⟨fun y => absurd y (by decide), fun _ => h0 z _ _ _ _ _ _ _ _ _ hD hc0⟩, fun y => absurd (by decide) y⟩, fun y => absurd trivial y⟩
  simp only [wp_X12_keeps]
  refine p_isTrip hT.1 a1 a2 a3 a4 a5 (fun t => ⟨fun z => absurd z (by decide), fun _ => ?_⟩) (fun t => ⟨fun _ => no (by rw [keepsO, if_neg (fun y => t y.1)]), fun z => absurd rfl z⟩)
  refine p_isSquareR a6 (fun q => ⟨fun z => absurd z (by decide), fun _ => ?_⟩) (fun q => ⟨fun _ => no (by rw [keepsO, if_neg (fun y => q y.2.1.1)]), fun z => absurd rfl z⟩)
  have ts := hT.1 s
  have th' := hT.2.1 s q.1 q.2
  have th2 := hT.1 (100 + s)
  rw [show (1 : Int32) = zi 1 from rfl, zi_in (by omega), zA_get (by omega), zi_eq (by omega)]
  refine ⟨by omega, fun y => no (by rw [keepsO, if_neg (fun z => y z.2.1.2)]), fun hh => ?_⟩
  simp only [wp_X12_keeps_b38]
  refine ⟨fun z => absurd z (by decide), fun _ => ?_⟩
  refine p_sunOf hT hW hC hD hc0 t (fun sy' sn' shA' c lc le f p hD' hc hcs i1 i2 hB e => ?_)
  have lr := i1 (100 * m + fr)
  rw [e] at lr
  simp only [wp_X12_keeps_b62, wp_X12_keeps_b78]
  rw [show (1000000 : Int32) = zi 1000000 from rfl, zi_le (by omega)]
  refine ⟨fun hl => ⟨fun y => absurd y (by decide), fun _ => h0 (by rw [keepsO, if_neg (fun y => by have := y.2.2; omega)]) _ _ _ _ _ _ _ _ _ hD' hc⟩, fun hl => ⟨fun _ => ?_, fun y => absurd (by decide) y⟩⟩
  simp (disch := omega) only [forall_eq, zi_lit, zi_add, zi_in, zA_get]
  refine ⟨by omega, ?_⟩
  have ag : agT tw (putT tw s 0 0) := putT_ag q
  have hTv := putT_R (tw := tw) (k := 0) (h := 0) hT q (by decide) (by decide)
  have t' := t
  obtain ⟨t1', t2', t3', t4', t5'⟩ := t'
  have tv : tripP (putT tw s 0 0) wk d m fr to := tripP_ag ag (putT_open q (by omega)) (putT_open q (by omega)) t
  have ep : putT tw s 0 0 (383 + 7 * wk) = tw (383 + 7 * wk) := ag _ (by omega)
  refine p_pullR hT a6 (fun _ => ?_) (fun z => absurd ⟨q, hh⟩ z)
  refine p_sunOf (sd := -1) (sy := sy') (sn := sn') (shA := shA') hTv (wkOk_ag hW ag) (clR_ag hC ag) ⟨by omega, hD'.2.1, hD'.2.2.1, hD'.2.2.2.1, fun z => absurd z (by decide)⟩ hc tv (fun sy2 sn2 shA2 c2 lc2 le2 f2 p2 hD2 hc2 hcs2 j1 j2 hB2 e2 => ?_)
  simp (disch := omega) only [forall_eq, zi_lit, zi_neg, zi_add, zi_in, zA_upd, zi_sub]
  refine ⟨by omega, by omega, ?_⟩
  have eb : upI (upI (putT tw s 0 0) s 1) (100 + s) (tw (100 + s)) = tw := by
    have := putT_back (tw := tw) (k := 0) (h := 0) q
    rw [hh] at this
    exact this
  rw [eb, ep]
  exact h1 _ (by rw [keepsO, if_pos ⟨t, ⟨q, hh⟩, by omega⟩]) (-1) _ _ _ _ _ _ _ _ ⟨by omega, hD2.2.1, hD2.2.2.1, hD2.2.2.2.1, fun z => absurd z (by decide)⟩ hc2
end KE
