/-! the law's cases over the relation (printed by caseg.py), 2 -/
theorem i_piece {A : Nat → Nat} {x : XS} {y : YS} {M : MK} {pl : Pool} (I : Inv A x y M pl) (a0 a1 a2 a3 a4 a5 : Int32) : s1_piece pl x y a0 a1 a2 a3 a4 a5 (fun x y => Inv A x y M pl) := by
  obtain ⟨k0, rfl, b0⟩ := zi_ex a0
  obtain ⟨k1, rfl, b1⟩ := zi_ex a1
  obtain ⟨k2, rfl, b2⟩ := zi_ex a2
  obtain ⟨k3, rfl, b3⟩ := zi_ex a3
  obtain ⟨k4, rfl, b4⟩ := zi_ex a4
  obtain ⟨k5, rfl, b5⟩ := zi_ex a5
  obtain ⟨T, vf, ps, fo, td, pr, fr, tr, tz, tp, hC, hR, hD, hM⟩ := I
  obtain ⟨sl, al, kd, hg, ex, nt, ln, pc, fc, tc, C, ⟨hbr, hsu, haw, hln, hal, hsl⟩, ⟨cps, cfo, ctd⟩, spo, ⟨vfo, vtd⟩, ⟨e1, e2, e3, e4, e5, e6⟩, ⟨e7, e8, e9, e10, e11, e12⟩, e13, e14, e15, e16, e17, e18⟩ := RC_open hC
  have hR' := hR
  have hD0 := hD
  obtain ⟨⟨r1, hcd⟩, ⟨r2, r3, r4, r5, r6, r7⟩, ⟨r8, r9, htz, htp, htk⟩, r10⟩ := hR'
  obtain ⟨sd, sy, sn, shA, c0, ⟨d1, d2, d3, d4, d5⟩, hday, hc0⟩ := hD
  have hcl := cdA_clR hcd
  have hT := C.1.1
  have hW := C.1.2.1
  unfold s1_piece
  intro pl' hpl
  rw [e4, e1, e16, e15, e13]
  refine p_pieceC (CS_mono hpl C) b0 b1 b2 b3 b4 b5 ?_
  intros
  unfold s2_piece
  rw [r1, d1, d2, d3, d4, d5]
  refine p_pieceR hT hW hcl hday hc0 b0 b1 b2 b3 b4 b5 ?_
  intro sd' sy' sn' shA' c'
  intros
  exact ⟨rfl, ⟨T, vf, ps, fo, td, pr, fr, tr, tz, tp, hC, hR, ⟨sd', sy', sn', shA', c', ⟨rfl, rfl, rfl, rfl, rfl⟩, by assumption, by assumption⟩, hM⟩⟩
theorem i_soon {A : Nat → Nat} {x : XS} {y : YS} {M : MK} {pl : Pool} (I : Inv A x y M pl) (a0 a1 a2 a3 a4 a5 : Int32) : s1_soon pl x y a0 a1 a2 a3 a4 a5 (fun x y => Inv A x y M pl) := by
  obtain ⟨k0, rfl, b0⟩ := zi_ex a0
  obtain ⟨k1, rfl, b1⟩ := zi_ex a1
  obtain ⟨k2, rfl, b2⟩ := zi_ex a2
  obtain ⟨k3, rfl, b3⟩ := zi_ex a3
  obtain ⟨k4, rfl, b4⟩ := zi_ex a4
  obtain ⟨k5, rfl, b5⟩ := zi_ex a5
  obtain ⟨T, vf, ps, fo, td, pr, fr, tr, tz, tp, hC, hR, hD, hM⟩ := I
  obtain ⟨sl, al, kd, hg, ex, nt, ln, pc, fc, tc, C, ⟨hbr, hsu, haw, hln, hal, hsl⟩, ⟨cps, cfo, ctd⟩, spo, ⟨vfo, vtd⟩, ⟨e1, e2, e3, e4, e5, e6⟩, ⟨e7, e8, e9, e10, e11, e12⟩, e13, e14, e15, e16, e17, e18⟩ := RC_open hC
  have hR' := hR
  have hD0 := hD
  obtain ⟨⟨r1, hcd⟩, ⟨r2, r3, r4, r5, r6, r7⟩, ⟨r8, r9, htz, htp, htk⟩, r10⟩ := hR'
  obtain ⟨sd, sy, sn, shA, c0, ⟨d1, d2, d3, d4, d5⟩, hday, hc0⟩ := hD
  have hcl := cdA_clR hcd
  have hT := C.1.1
  have hW := C.1.2.1
  unfold s1_soon
  intro pl' hpl
  rw [e4, e1, e16, e15, e13]
  refine p_soonC (CS_mono hpl C) b0 b1 b2 b3 b4 b5 ?_
  intros
  unfold s2_soon
  rw [r1, d1, d2, d3, d4, d5]
  refine p_soonR hT hW hcl hday hc0 b0 b1 b2 b3 b4 b5 ?_
  intro sd' sy' sn' shA' c'
  intros
  exact ⟨rfl, ⟨T, vf, ps, fo, td, pr, fr, tr, tz, tp, hC, hR, ⟨sd', sy', sn', shA', c', ⟨rfl, rfl, rfl, rfl, rfl⟩, by assumption, by assumption⟩, hM⟩⟩
theorem i_both {A : Nat → Nat} {x : XS} {y : YS} {M : MK} {pl : Pool} (I : Inv A x y M pl) (a0 a1 a2 a3 a4 a5 a6 : Int32) : s1_both pl x y a0 a1 a2 a3 a4 a5 a6 (fun x y => Inv A x y M pl) := by
  obtain ⟨k0, rfl, b0⟩ := zi_ex a0
  obtain ⟨k1, rfl, b1⟩ := zi_ex a1
  obtain ⟨k2, rfl, b2⟩ := zi_ex a2
  obtain ⟨k3, rfl, b3⟩ := zi_ex a3
  obtain ⟨k4, rfl, b4⟩ := zi_ex a4
  obtain ⟨k5, rfl, b5⟩ := zi_ex a5
  obtain ⟨k6, rfl, b6⟩ := zi_ex a6
  obtain ⟨T, vf, ps, fo, td, pr, fr, tr, tz, tp, hC, hR, hD, hM⟩ := I
  obtain ⟨sl, al, kd, hg, ex, nt, ln, pc, fc, tc, C, ⟨hbr, hsu, haw, hln, hal, hsl⟩, ⟨cps, cfo, ctd⟩, spo, ⟨vfo, vtd⟩, ⟨e1, e2, e3, e4, e5, e6⟩, ⟨e7, e8, e9, e10, e11, e12⟩, e13, e14, e15, e16, e17, e18⟩ := RC_open hC
  have hR' := hR
  have hD0 := hD
  obtain ⟨⟨r1, hcd⟩, ⟨r2, r3, r4, r5, r6, r7⟩, ⟨r8, r9, htz, htp, htk⟩, r10⟩ := hR'
  obtain ⟨sd, sy, sn, shA, c0, ⟨d1, d2, d3, d4, d5⟩, hday, hc0⟩ := hD
  have hcl := cdA_clR hcd
  have hT := C.1.1
  have hW := C.1.2.1
  unfold s1_both
  intro pl' hpl
  rw [e4, e1, e16, e15, e13]
  refine p_bothC (CS_mono hpl C) b0 b1 b2 b3 b4 b5 b6 ?_
  intros
  unfold s2_both
  rw [r1, d1, d2, d3, d4, d5]
  refine p_bothR hT hW hcl hday hc0 b0 b1 b2 b3 b4 b5 b6 ?_
  intro sd' sy' sn' shA' c'
  intros
  exact ⟨rfl, ⟨T, vf, ps, fo, td, pr, fr, tr, tz, tp, hC, hR, ⟨sd', sy', sn', shA', c', ⟨rfl, rfl, rfl, rfl, rfl⟩, by assumption, by assumption⟩, hM⟩⟩
theorem i_ice {A : Nat → Nat} {x : XS} {y : YS} {M : MK} {pl : Pool} (I : Inv A x y M pl) (a0 a1 a2 a3 a4 : Int32) : s1_ice pl x y a0 a1 a2 a3 a4 (fun x y => Inv A x y M pl) := by
  obtain ⟨k0, rfl, b0⟩ := zi_ex a0
  obtain ⟨k1, rfl, b1⟩ := zi_ex a1
  obtain ⟨k2, rfl, b2⟩ := zi_ex a2
  obtain ⟨k3, rfl, b3⟩ := zi_ex a3
  obtain ⟨k4, rfl, b4⟩ := zi_ex a4
  obtain ⟨T, vf, ps, fo, td, pr, fr, tr, tz, tp, hC, hR, hD, hM⟩ := I
  obtain ⟨sl, al, kd, hg, ex, nt, ln, pc, fc, tc, C, ⟨hbr, hsu, haw, hln, hal, hsl⟩, ⟨cps, cfo, ctd⟩, spo, ⟨vfo, vtd⟩, ⟨e1, e2, e3, e4, e5, e6⟩, ⟨e7, e8, e9, e10, e11, e12⟩, e13, e14, e15, e16, e17, e18⟩ := RC_open hC
  have hR' := hR
  have hD0 := hD
  obtain ⟨⟨r1, hcd⟩, ⟨r2, r3, r4, r5, r6, r7⟩, ⟨r8, r9, htz, htp, htk⟩, r10⟩ := hR'
  obtain ⟨sd, sy, sn, shA, c0, ⟨d1, d2, d3, d4, d5⟩, hday, hc0⟩ := hD
  have hcl := cdA_clR hcd
  have hT := C.1.1
  have hW := C.1.2.1
  unfold s1_ice
  intro pl' hpl
  rw [e4, e1, e16, e15, e13]
  refine p_iceC (CS_mono hpl C) b0 b1 b2 b3 b4 ?_
  intros
  unfold s2_ice
  rw [r1, d1, d2, d3, d4, d5]
  refine p_iceR hT hW hcl hday hc0 b0 b1 b2 b3 b4 ?_
  intro sd' sy' sn' shA' c'
  intros
  exact ⟨rfl, ⟨T, vf, ps, fo, td, pr, fr, tr, tz, tp, hC, hR, ⟨sd', sy', sn', shA', c', ⟨rfl, rfl, rfl, rfl, rfl⟩, by assumption, by assumption⟩, hM⟩⟩
theorem i_pays {A : Nat → Nat} {x : XS} {y : YS} {M : MK} {pl : Pool} (I : Inv A x y M pl) (a0 a1 a2 a3 a4 : Int32) : s1_pays pl x y a0 a1 a2 a3 a4 (fun x y => Inv A x y M pl) := by
  obtain ⟨k0, rfl, b0⟩ := zi_ex a0
  obtain ⟨k1, rfl, b1⟩ := zi_ex a1
  obtain ⟨k2, rfl, b2⟩ := zi_ex a2
  obtain ⟨k3, rfl, b3⟩ := zi_ex a3
  obtain ⟨k4, rfl, b4⟩ := zi_ex a4
  obtain ⟨T, vf, ps, fo, td, pr, fr, tr, tz, tp, hC, hR, hD, hM⟩ := I
  obtain ⟨sl, al, kd, hg, ex, nt, ln, pc, fc, tc, C, ⟨hbr, hsu, haw, hln, hal, hsl⟩, ⟨cps, cfo, ctd⟩, spo, ⟨vfo, vtd⟩, ⟨e1, e2, e3, e4, e5, e6⟩, ⟨e7, e8, e9, e10, e11, e12⟩, e13, e14, e15, e16, e17, e18⟩ := RC_open hC
  have hR' := hR
  have hD0 := hD
  obtain ⟨⟨r1, hcd⟩, ⟨r2, r3, r4, r5, r6, r7⟩, ⟨r8, r9, htz, htp, htk⟩, r10⟩ := hR'
  obtain ⟨sd, sy, sn, shA, c0, ⟨d1, d2, d3, d4, d5⟩, hday, hc0⟩ := hD
  have hcl := cdA_clR hcd
  have hT := C.1.1
  have hW := C.1.2.1
  unfold s1_pays
  intro pl' hpl
  rw [e4, e1, e16, e15, e13]
  refine p_paysC (CS_mono hpl C) b0 b1 b2 b3 b4 ?_
  intros
  unfold s2_pays
  rw [r1, d1, d2, d3, d4, d5]
  refine p_paysR hT hW hcl hday hc0 b0 b1 b2 b3 b4 ?_
  intro sd' sy' sn' shA' c'
  intros
  exact ⟨rfl, ⟨T, vf, ps, fo, td, pr, fr, tr, tz, tp, hC, hR, ⟨sd', sy', sn', shA', c', ⟨rfl, rfl, rfl, rfl, rfl⟩, by assumption, by assumption⟩, hM⟩⟩
theorem i_leave {A : Nat → Nat} {x : XS} {y : YS} {M : MK} {pl : Pool} (I : Inv A x y M pl) (a0 a1 a2 a3 a4 a5 a6 : Int32) : s1_leave pl x y a0 a1 a2 a3 a4 a5 a6 (fun x y => Inv A x y M pl) := by
  obtain ⟨k0, rfl, b0⟩ := zi_ex a0
  obtain ⟨k1, rfl, b1⟩ := zi_ex a1
  obtain ⟨k2, rfl, b2⟩ := zi_ex a2
  obtain ⟨k3, rfl, b3⟩ := zi_ex a3
  obtain ⟨k4, rfl, b4⟩ := zi_ex a4
  obtain ⟨k5, rfl, b5⟩ := zi_ex a5
  obtain ⟨k6, rfl, b6⟩ := zi_ex a6
  obtain ⟨T, vf, ps, fo, td, pr, fr, tr, tz, tp, hC, hR, hD, hM⟩ := I
  obtain ⟨sl, al, kd, hg, ex, nt, ln, pc, fc, tc, C, ⟨hbr, hsu, haw, hln, hal, hsl⟩, ⟨cps, cfo, ctd⟩, spo, ⟨vfo, vtd⟩, ⟨e1, e2, e3, e4, e5, e6⟩, ⟨e7, e8, e9, e10, e11, e12⟩, e13, e14, e15, e16, e17, e18⟩ := RC_open hC
  have hR' := hR
  have hD0 := hD
  obtain ⟨⟨r1, hcd⟩, ⟨r2, r3, r4, r5, r6, r7⟩, ⟨r8, r9, htz, htp, htk⟩, r10⟩ := hR'
  obtain ⟨sd, sy, sn, shA, c0, ⟨d1, d2, d3, d4, d5⟩, hday, hc0⟩ := hD
  have hcl := cdA_clR hcd
  have hT := C.1.1
  have hW := C.1.2.1
  unfold s1_leave
  intro pl' hpl
  rw [e4, e1, e16, e13, e15]
  refine p_leaveC (CS_mono hpl C) b0 b1 b2 b3 b4 b5 b6 ?_
  intros
  unfold s2_leave
  rw [r1, d1, d2, d3, d4, d5]
  refine p_leaveR hT hW hcl hday hc0 b0 b1 b2 b3 b4 b5 b6 ?_
  intro sd' sy' sn' shA' c'
  intros
  exact ⟨rfl, ⟨T, vf, ps, fo, td, pr, fr, tr, tz, tp, hC, hR, ⟨sd', sy', sn', shA', c', ⟨rfl, rfl, rfl, rfl, rfl⟩, by assumption, by assumption⟩, hM⟩⟩
theorem i_bears {A : Nat → Nat} {x : XS} {y : YS} {M : MK} {pl : Pool} (I : Inv A x y M pl) (a0 a1 a2 a3 a4 : Int32) : s1_bears pl x y a0 a1 a2 a3 a4 (fun x y => Inv A x y M pl) := by
  obtain ⟨k0, rfl, b0⟩ := zi_ex a0
  obtain ⟨k1, rfl, b1⟩ := zi_ex a1
  obtain ⟨k2, rfl, b2⟩ := zi_ex a2
  obtain ⟨k3, rfl, b3⟩ := zi_ex a3
  obtain ⟨k4, rfl, b4⟩ := zi_ex a4
  obtain ⟨T, vf, ps, fo, td, pr, fr, tr, tz, tp, hC, hR, hD, hM⟩ := I
  obtain ⟨sl, al, kd, hg, ex, nt, ln, pc, fc, tc, C, ⟨hbr, hsu, haw, hln, hal, hsl⟩, ⟨cps, cfo, ctd⟩, spo, ⟨vfo, vtd⟩, ⟨e1, e2, e3, e4, e5, e6⟩, ⟨e7, e8, e9, e10, e11, e12⟩, e13, e14, e15, e16, e17, e18⟩ := RC_open hC
  have hR' := hR
  have hD0 := hD
  obtain ⟨⟨r1, hcd⟩, ⟨r2, r3, r4, r5, r6, r7⟩, ⟨r8, r9, htz, htp, htk⟩, r10⟩ := hR'
  obtain ⟨sd, sy, sn, shA, c0, ⟨d1, d2, d3, d4, d5⟩, hday, hc0⟩ := hD
  have hcl := cdA_clR hcd
  have hT := C.1.1
  have hW := C.1.2.1
  unfold s1_bears
  intro pl' hpl
  rw [e4, e1, e16, e15, e13]
  refine p_bearsC (CS_mono hpl C) b0 b1 b2 b3 b4 ?_
  intros
  unfold s2_bears
  rw [r1, d1, d2, d3, d4]
  refine p_bearsR (CS_mono hpl C) hcl hday b0 b1 b2 b3 b4 ?_
  intro sd' sy' sn' shA'
  intros
  exact ⟨rfl, ⟨T, vf, ps, fo, td, pr, fr, tr, tz, tp, hC, hR, ⟨sd', sy', sn', shA', c0, ⟨rfl, rfl, rfl, rfl, d5⟩, by assumption, hc0⟩, hM⟩⟩
theorem i_hours {A : Nat → Nat} {x : XS} {y : YS} {M : MK} {pl : Pool} (I : Inv A x y M pl) (a0 a1 a2 a3 : Int32) : s1_hours pl x y a0 a1 a2 a3 (fun x y => Inv A x y M pl) := by
  obtain ⟨k0, rfl, b0⟩ := zi_ex a0
  obtain ⟨k1, rfl, b1⟩ := zi_ex a1
  obtain ⟨k2, rfl, b2⟩ := zi_ex a2
  obtain ⟨k3, rfl, b3⟩ := zi_ex a3
  obtain ⟨T, vf, ps, fo, td, pr, fr, tr, tz, tp, hC, hR, hD, hM⟩ := I
  obtain ⟨sl, al, kd, hg, ex, nt, ln, pc, fc, tc, C, ⟨hbr, hsu, haw, hln, hal, hsl⟩, ⟨cps, cfo, ctd⟩, spo, ⟨vfo, vtd⟩, ⟨e1, e2, e3, e4, e5, e6⟩, ⟨e7, e8, e9, e10, e11, e12⟩, e13, e14, e15, e16, e17, e18⟩ := RC_open hC
  have hR' := hR
  have hD0 := hD
  obtain ⟨⟨r1, hcd⟩, ⟨r2, r3, r4, r5, r6, r7⟩, ⟨r8, r9, htz, htp, htk⟩, r10⟩ := hR'
  obtain ⟨sd, sy, sn, shA, c0, ⟨d1, d2, d3, d4, d5⟩, hday, hc0⟩ := hD
  have hcl := cdA_clR hcd
  have hT := C.1.1
  have hW := C.1.2.1
  unfold s1_hours
  intro pl' hpl
  rw [e1, e13]
  refine p_hoursC (CS_mono hpl C) b0 b1 b2 b3 ?_
  intros
  unfold s2_hours
  rw [r1, d1, d2, d3, d4]
  refine p_hoursR (CS_mono hpl C) hcl hday b0 b1 b2 b3 ?_
  intro sd' sy' sn' shA'
  intros
  exact ⟨rfl, ⟨T, vf, ps, fo, td, pr, fr, tr, tz, tp, hC, hR, ⟨sd', sy', sn', shA', c0, ⟨rfl, rfl, rfl, rfl, d5⟩, by assumption, hc0⟩, hM⟩⟩
theorem i_dark {A : Nat → Nat} {x : XS} {y : YS} {M : MK} {pl : Pool} (I : Inv A x y M pl) (a0 a1 a2 a3 a4 : Int32) : s1_dark pl x y a0 a1 a2 a3 a4 (fun x y => Inv A x y M pl) := by
  obtain ⟨k0, rfl, b0⟩ := zi_ex a0
  obtain ⟨k1, rfl, b1⟩ := zi_ex a1
  obtain ⟨k2, rfl, b2⟩ := zi_ex a2
  obtain ⟨k3, rfl, b3⟩ := zi_ex a3
  obtain ⟨k4, rfl, b4⟩ := zi_ex a4
  obtain ⟨T, vf, ps, fo, td, pr, fr, tr, tz, tp, hC, hR, hD, hM⟩ := I
  obtain ⟨sl, al, kd, hg, ex, nt, ln, pc, fc, tc, C, ⟨hbr, hsu, haw, hln, hal, hsl⟩, ⟨cps, cfo, ctd⟩, spo, ⟨vfo, vtd⟩, ⟨e1, e2, e3, e4, e5, e6⟩, ⟨e7, e8, e9, e10, e11, e12⟩, e13, e14, e15, e16, e17, e18⟩ := RC_open hC
  have hR' := hR
  have hD0 := hD
  obtain ⟨⟨r1, hcd⟩, ⟨r2, r3, r4, r5, r6, r7⟩, ⟨r8, r9, htz, htp, htk⟩, r10⟩ := hR'
  obtain ⟨sd, sy, sn, shA, c0, ⟨d1, d2, d3, d4, d5⟩, hday, hc0⟩ := hD
  have hcl := cdA_clR hcd
  have hT := C.1.1
  have hW := C.1.2.1
  unfold s1_dark
  intro pl' hpl
  rw [e4, e1, e16, e13, e15]
  refine p_darkC (CS_mono hpl C) b0 b1 b2 b3 b4 ?_
  intros
  unfold s2_dark
  rw [r1, d1, d2, d3, d4]
  refine p_darkR hT hW hcl hday b0 b1 b2 b3 b4 ?_
  intro sd' sy' sn' shA'
  intros
  exact ⟨rfl, ⟨T, vf, ps, fo, td, pr, fr, tr, tz, tp, hC, hR, ⟨sd', sy', sn', shA', c0, ⟨rfl, rfl, rfl, rfl, d5⟩, by assumption, hc0⟩, hM⟩⟩
