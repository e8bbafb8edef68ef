/-! crowd and price: the class's calls -/
noncomputable def rC (Lf : (Int → Int → Int) → Int → Int) (Wf : (Int → Int → Int) → Int → Int → Int) (sn : Int → Int) (e : Int) (n : Nat) (P : Int → Int → Int) : Nat := @dite _ (∃ R, isR Lf Wf sn e n P R) (Classical.propDecidable _) (fun h => Classical.choose h) (fun _ => 0)
theorem rC_eq {Lf : (Int → Int → Int) → Int → Int} {Wf : (Int → Int → Int) → Int → Int → Int} {sn : Int → Int} {e : Int} {n : Nat} {P : Int → Int → Int} {R : Nat} (h : isR Lf Wf sn e n P R) : rC Lf Wf sn e n P = R := by
  have h2 : ∃ R, isR Lf Wf sn e n P R := ⟨R, h⟩
  rw [rC, dif_pos h2]
  exact isR_uni (Classical.choose_spec h2) h
/-- what the crowd comes to: costs, suns, rounds, greatest -/
noncomputable def crS (tw : Int → Int) (vf : Int → Int → Int → Int32) (d p to bym k0 e : Int) (n : Nat) : Option (Int × Int × Int × Int) := match fsN (lfK tw vf d p to bym k0 e) (wfK tw vf d p to bym k0 e) n with
  | none => none
  | some Q => some (csN (snC tw vf d) e n (sqP (lfK tw vf d p to bym k0 e n) (wfK tw vf d p to bym k0 e n) (snC tw vf d) e n Q (rC (lfK tw vf d p to bym k0 e n) (wfK tw vf d p to bym k0 e n) (snC tw vf d) e n Q + 1)) n, suN (snC tw vf d) (sqP (lfK tw vf d p to bym k0 e n) (wfK tw vf d p to bym k0 e n) (snC tw vf d) e n Q (rC (lfK tw vf d p to bym k0 e n) (wfK tw vf d p to bym k0 e n) (snC tw vf d) e n Q + 1)) n, (rC (lfK tw vf d p to bym k0 e n) (wfK tw vf d p to bym k0 e n) (snC tw vf d) e n Q : Int) + 1, gtN (snC tw vf d) e n (sqP (lfK tw vf d p to bym k0 e n) (wfK tw vf d p to bym k0 e n) (snC tw vf d) e n Q (rC (lfK tw vf d p to bym k0 e n) (wfK tw vf d p to bym k0 e n) (snC tw vf d) e n Q + 1)) n)
theorem crS_some {tw : Int → Int} {vf : Int → Int → Int → Int32} {d p to bym k0 e : Int} {n : Nat} {Q : Int → Int → Int} {R : Nat} (hQ : fsN (lfK tw vf d p to bym k0 e) (wfK tw vf d p to bym k0 e) n = some Q) (hR : isR (lfK tw vf d p to bym k0 e n) (wfK tw vf d p to bym k0 e n) (snC tw vf d) e n Q R) : crS tw vf d p to bym k0 e n = some (csN (snC tw vf d) e n (sqP (lfK tw vf d p to bym k0 e n) (wfK tw vf d p to bym k0 e n) (snC tw vf d) e n Q (R + 1)) n, suN (snC tw vf d) (sqP (lfK tw vf d p to bym k0 e n) (wfK tw vf d p to bym k0 e n) (snC tw vf d) e n Q (R + 1)) n, (R : Int) + 1, gtN (snC tw vf d) e n (sqP (lfK tw vf d p to bym k0 e n) (wfK tw vf d p to bym k0 e n) (snC tw vf d) e n Q (R + 1)) n) := by
  rw [crS, hQ]
  dsimp only
  rw [rC_eq hR]
theorem crS_none {tw : Int → Int} {vf : Int → Int → Int → Int32} {d p to bym k0 e : Int} {n : Nat} (hQ : fsN (lfK tw vf d p to bym k0 e) (wfK tw vf d p to bym k0 e) n = none) : crS tw vf d p to bym k0 e n = none := by
  rw [crS, hQ]
def grpP (by' n e : Int) : Prop := (0 ≤ by' ∧ by' < 120) ∧ (1 ≤ n ∧ n ≤ 8) ∧ (0 ≤ e ∧ e ≤ 9)
noncomputable def crowdO (tw : Int → Int) (vf : Int → Int → Int → Int32) (wk d m fr to by' n e w : Int) : Option Int := @ite (Option Int) (tripP tw wk d m fr to ∧ grpP by' n e ∧ (0 ≤ w ∧ w ≤ 3)) (Classical.propDecidable _) ((crS tw vf d (tw (383 + 7 * wk)) to by' (100 * m + fr) e n.toNat).map (fun r => if w = 0 then r.1 else if w = 1 then r.2.1 else if w = 2 then r.2.2.1 else r.2.2.2)) none
noncomputable def priceO (tw : Int → Int) (vf : Int → Int → Int → Int32) (wk d m fr to by' n e : Int) : Option Int := @ite (Option Int) (tripP tw wk d m fr to ∧ grpP by' n e) (Classical.propDecidable _) ((crS tw vf d (tw (383 + 7 * wk)) to by' (100 * m + fr) e n.toNat).map (fun r => r.1 - n * lsC tw vf d (tw (383 + 7 * wk)) to by' (100 * m + fr))) none
section CD
variable {pl : Pool} {tw : Int → Int} {vf : Int → Int → Int → Int32} {sl : Int} {kd hg : Int → Int} {wks suns : Nat → Option Nat} {shw : Nat → Int64} {ex nt : Int → Int} {ww sw gw : Nat → Int64} {op arg : Nat → Int32}
theorem p_isGroup {by' n e : Int} (a1 : ir by') (a2 : ir n) (a3 : ir e) {post : Int32 → Prop} (h1 : grpP by' n e → post 1) (h0 : ¬ grpP by' n e → post 0) : wp_X11_isGroup (zi by') (zi n) (zi e) post := by
  have b2 := a2
  have b3 := a3
  simp only [ir] at b2 b3
  simp only [wp_X11_isGroup]
  refine p_isMinute a1 (fun q => ⟨fun z => absurd z (by decide), fun _ => ?_⟩) (fun q => ⟨fun _ => h0 (fun y => q y.1), fun z => absurd rfl z⟩)
  simp (disch := omega) only [zi_lit, zi_lt]
  exact ⟨fun z => h0 (fun y => by have := y.2.1; omega), fun z1 => ⟨fun z => h0 (fun y => by have := y.2.1; omega), fun z2 => ⟨fun z => h0 (fun y => by have := y.2.2; omega), fun z3 => ⟨fun z => h0 (fun y => by have := y.2.2; omega), fun z4 => h1 ⟨q, by omega, by omega⟩⟩⟩⟩⟩
theorem p_crowdC (C : CS pl tw vf sl kd hg wks shw ex nt ww sw gw) {wk d m fr to by' n e w : Int} (a1 : ir wk) (a2 : ir d) (a3 : ir m) (a4 : ir fr) (a5 : ir to) (a6 : ir by') (a7 : ir n) (a8 : ir e) (a9 : ir w) {o1 : Nat} {o2 o3 o4 o5 o6 o7 o8 o9 o10 o11 o12 o13 o14 g1 g2 g3 g4 g5 g6 g7 : Int32} {dw0 lw0 : Nat → Int64} {t1 t2 t3 t4 t5 : Nat → Int32} {post : Option Int32 → Bool → Nat → Int32 → Int32 → Int32 → Int32 → Int32 → Int32 → Int32 → Int32 → Int32 → Int32 → Int32 → Int32 → (Nat → Int64) → Int32 → Int32 → Int32 → Int32 → Int32 → Int32 → Int32 → (Nat → Int32) → (Nat → Int64) → (Nat → Int32) → (Nat → Int32) → Int32 → (Nat → Int32) → (Nat → Int32) → (Nat → Int32) → Prop}
    (h1 : ∀ v, crowdO tw vf wk d m fr to by' n e w = some v → ∀ ex' : Int → Int, (∀ k, 0 ≤ k → k < 12000 → 0 ≤ ex' k ∧ ex' k ≤ 900) → ∀ (q1 : Nat) (y2 y3 y4 y5 y6 y7 y8 y9 y10 y11 y12 y13 y14 z1 z2 z3 z4 z5 z6 z7 : Int32) (dw lw : Nat → Int64) (s1 s2 s3 s4 s5 : Nat → Int32), post (some (zi v)) false q1 y2 y3 y4 y5 y6 y7 y8 y9 y10 y11 y12 y13 dw z1 z2 z3 z4 z5 z6 z7 (zA ex') lw s1 s2 y14 s3 s4 s5)
    (h0 : crowdO tw vf wk d m fr to by' n e w = none → ∀ ex' : Int → Int, (∀ k, 0 ≤ k → k < 12000 → 0 ≤ ex' k ∧ ex' k ≤ 900) → ∀ (q1 : Nat) (y2 y3 y4 y5 y6 y7 y8 y9 y10 y11 y12 y13 y14 z1 z2 z3 z4 z5 z6 z7 : Int32) (dw lw : Nat → Int64) (s1 s2 s3 s4 s5 : Nat → Int32), post none false q1 y2 y3 y4 y5 y6 y7 y8 y9 y10 y11 y12 y13 dw z1 z2 z3 z4 z5 z6 z7 (zA ex') lw s1 s2 y14 s3 s4 s5) :
    wp_X11_crowd pl (zi sl) (zA kd) wks shw (zA nt) ww sw gw false o1 o2 o3 o4 o5 o6 o7 o8 o9 o10 o11 o12 o13 dw0 g1 g2 g3 g4 g5 g6 g7 (zA ex) lw0 t1 t2 o14 t3 t4 t5 (zi wk) (zi d) (zi m) (zi fr) (zi to) (zi by') (zi n) (zi e) (zi w) post := by
  have b9 := a9
  simp only [ir] at b9
  have hx := C.2.2.1
  simp only [wp_X11_crowd, wp_X11_crowd_b54]
  rw [show (zi w < 0) = (zi w < zi 0) from rfl, show (3 < zi w) = (zi 3 < zi w) from rfl, zi_lt (by omega), zi_lt (by omega)]
  refine ⟨fun z => h0 (by rw [crowdO, if_neg (fun y => by have := y.2.2; omega)]) ex hx .., fun z => ⟨fun z2 => h0 (by rw [crowdO, if_neg (fun y => by have := y.2.2; omega)]) ex hx .., fun z2 => ?_⟩⟩
  refine p_isGroup a6 a7 a8 (fun g => ⟨fun z => absurd z (by decide), fun _ => ?_⟩) (fun g => ⟨fun _ => h0 (by rw [crowdO, if_neg (fun y => g y.2.1)]) ex hx .., fun z => absurd rfl z⟩)
  refine p_ready C.1.1 C.1.2.2.1 C.1.2.2.2 a1 a2 a3 a4 a5 (fun t q dw hq hdw => ⟨fun z => absurd z (by decide), fun _ => ⟨_, _, _, _, _, _, hq, ?_⟩⟩) (fun t => ⟨fun _ => h0 (by rw [crowdO, if_neg (fun y => t y.1)]) ex hx .., fun z => absurd rfl z⟩)
  refine p_gather C t g.1 g.2.2 g.2.1 hdw (fun Q R hQ hR ex' hx' u1 u2 u3 y1 y2 y3 y4 y5 y6 lw' r2 l2 p2 w2 wh2 => ⟨fun _ => ?_, fun z => absurd z (by decide)⟩) (fun hQ ex' hx' u1 u2 u3 u4 u5 u6 u7 y1 y2 y3 y4 y5 y6 lw' r2 l2 p2 w2 wh2 => ⟨fun z => absurd rfl z, fun _ => h0 (by rw [crowdO, if_pos ⟨t, g, by omega⟩, crS_none hQ]; rfl) ex' hx' ..⟩)
  have hO : crowdO tw vf wk d m fr to by' n e w = (crS tw vf d (tw (383 + 7 * wk)) to by' (100 * m + fr) e n.toNat).map (fun r => if w = 0 then r.1 else if w = 1 then r.2.1 else if w = 2 then r.2.2.1 else r.2.2.2) := by rw [crowdO, if_pos ⟨t, g, by omega⟩]
  rw [crS_some hQ hR, Option.map_some] at hO
  rw [show (zi w = 0) = (zi w = zi 0) from rfl, show (zi w = 1) = (zi w = zi 1) from rfl, show (zi w = 2) = (zi w = zi 2) from rfl, zi_eq (by omega), zi_eq (by omega), zi_eq (by omega)]
  refine ⟨fun w0 => ⟨fun w1 => ⟨fun w2' => h1 _ (by rw [hO]; simp only [if_neg w0, if_neg w1, if_neg w2']) ex' hx' .., fun w2' => h1 _ (by rw [hO]; simp only [if_neg w0, if_neg w1, if_pos w2']) ex' hx' ..⟩, fun w1 => h1 _ (by rw [hO]; simp only [if_neg w0, if_pos w1]) ex' hx' ..⟩, fun w0 => h1 _ (by rw [hO]; simp only [if_pos w0]) ex' hx' ..⟩
theorem fs_ls {d p to bym k0 e : Int} {n : Nat} (hn : 1 ≤ n) {Q : Int → Int → Int} (hQ : fsN (lfK tw vf d p to bym k0 e) (wfK tw vf d p to bym k0 e) n = some Q) : lsC tw vf d p to bym k0 < 1000000 := by
  have e0 : cK (snC tw vf d) e (fun _ _ => -1) 0 0 = snC tw vf d := by funext k; simp [cK, cnO]
  refine Classical.byContradiction (fun z => ?_)
  have h1 : fsN (lfK tw vf d p to bym k0 e) (wfK tw vf d p to bym k0 e) 1 = none := by
    show (if lfK tw vf d p to bym k0 e 0 (fun _ _ => -1) ((0 : Nat) : Int) < 1000000 then _ else _) = none
    rw [if_neg]
    intro y
    have y' : (bC (nxT tw (shC tw vf d) p) (csT (cK (snC tw vf d) e (fun _ _ => -1) 0 0) p) 5 to bym k0).1 < 1000000 := y
    rw [e0] at y'
    exact z y'
  have := fsN_none h1 (n - 1)
  rw [show 1 + (n - 1) = n by omega, hQ] at this
  exact absurd this (by simp)
theorem p_priceC (C : CS pl tw vf sl kd hg wks shw ex nt ww sw gw) {wk d m fr to by' n e : Int} (a1 : ir wk) (a2 : ir d) (a3 : ir m) (a4 : ir fr) (a5 : ir to) (a6 : ir by') (a7 : ir n) (a8 : ir e) {o1 : Nat} {o2 o3 o4 o5 o6 o7 o8 o9 o10 o11 o12 o13 o14 g1 g2 g3 g4 g5 g6 g7 : Int32} {dw0 lw0 : Nat → Int64} {t1 t2 t3 t4 t5 : Nat → Int32} {post : Option Int32 → Bool → Nat → Int32 → Int32 → Int32 → Int32 → Int32 → Int32 → Int32 → Int32 → Int32 → Int32 → Int32 → Int32 → (Nat → Int64) → Int32 → Int32 → Int32 → Int32 → Int32 → Int32 → Int32 → (Nat → Int32) → (Nat → Int64) → (Nat → Int32) → (Nat → Int32) → Int32 → (Nat → Int32) → (Nat → Int32) → (Nat → Int32) → Prop}
    (h1 : ∀ v, priceO tw vf wk d m fr to by' n e = some v → ∀ ex' : Int → Int, (∀ k, 0 ≤ k → k < 12000 → 0 ≤ ex' k ∧ ex' k ≤ 900) → ∀ (q1 : Nat) (y2 y3 y4 y5 y6 y7 y8 y9 y10 y11 y12 y13 y14 z1 z2 z3 z4 z5 z6 z7 : Int32) (dw lw : Nat → Int64) (s1 s2 s3 s4 s5 : Nat → Int32), post (some (zi v)) false q1 y2 y3 y4 y5 y6 y7 y8 y9 y10 y11 y12 y13 dw z1 z2 z3 z4 z5 z6 z7 (zA ex') lw s1 s2 y14 s3 s4 s5)
    (h0 : priceO tw vf wk d m fr to by' n e = none → ∀ ex' : Int → Int, (∀ k, 0 ≤ k → k < 12000 → 0 ≤ ex' k ∧ ex' k ≤ 900) → ∀ (q1 : Nat) (y2 y3 y4 y5 y6 y7 y8 y9 y10 y11 y12 y13 y14 z1 z2 z3 z4 z5 z6 z7 : Int32) (dw lw : Nat → Int64) (s1 s2 s3 s4 s5 : Nat → Int32), post none false q1 y2 y3 y4 y5 y6 y7 y8 y9 y10 y11 y12 y13 dw z1 z2 z3 z4 z5 z6 z7 (zA ex') lw s1 s2 y14 s3 s4 s5) :
    wp_X11_price pl (zi sl) (zA kd) wks shw (zA nt) ww sw gw false o1 o2 o3 o4 o5 o6 o7 o8 o9 o10 o11 o12 o13 dw0 g1 g2 g3 g4 g5 g6 g7 (zA ex) lw0 t1 t2 o14 t3 t4 t5 (zi wk) (zi d) (zi m) (zi fr) (zi to) (zi by') (zi n) (zi e) post := by
  have hx := C.2.2.1
  simp only [wp_X11_price, wp_X11_price_b55]
  refine p_isGroup a6 a7 a8 (fun g => ⟨fun z => absurd z (by decide), fun _ => ?_⟩) (fun g => ⟨fun _ => h0 (by rw [priceO, if_neg (fun y => g y.2)]) ex hx .., fun z => absurd rfl z⟩)
  refine p_ready C.1.1 C.1.2.2.1 C.1.2.2.2 a1 a2 a3 a4 a5 (fun t q dw hq hdw => ⟨fun z => absurd z (by decide), fun _ => ⟨_, _, _, _, _, _, hq, ?_⟩⟩) (fun t => ⟨fun _ => h0 (by rw [priceO, if_neg (fun y => t y.1)]) ex hx .., fun z => absurd rfl z⟩)
  refine p_gather C t g.1 g.2.2 g.2.1 hdw (fun Q R hQ hR ex' hx' u1 u2 u3 y1 y2 y3 y4 y5 y6 lw' r2 l2 p2 w2 wh2 => ⟨fun z => absurd z (by decide), fun _ => ?_⟩) (fun hQ ex' hx' u1 u2 u3 u4 u5 u6 u7 y1 y2 y3 y4 y5 y6 lw' r2 l2 p2 w2 wh2 => ⟨fun _ => h0 (by rw [priceO, if_pos ⟨t, g⟩, crS_none hQ]; rfl) ex' hx' .., fun z => absurd rfl z⟩)
  have hO : priceO tw vf wk d m fr to by' n e = (crS tw vf d (tw (383 + 7 * wk)) to by' (100 * m + fr) e n.toNat).map (fun r => r.1 - n * lsC tw vf d (tw (383 + 7 * wk)) to by' (100 * m + fr)) := by rw [priceO, if_pos ⟨t, g⟩]
  rw [crS_some hQ hR, Option.map_some] at hO
  have hls := fs_ls (by have := g.2.1; omega) hQ
  have gb := g.1
  refine p_seekL (bym := by') (B := by') (CS_ex C hx') t (by omega) (by rw [if_neg (by omega)]) hdw (fun hl hl0 q' lw2 hF hL har e1 e2 => ⟨fun _ => ?_, fun z => absurd z (by decide)⟩) (fun hl q' lw2 => absurd hls hl)
  rw [e1, zi_mul, zi_sub]
  exact h1 _ hO ex' hx' ..
end CD
