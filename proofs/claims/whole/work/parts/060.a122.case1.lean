/-! the law's cases over the relation (printed by caseg.py), 1 -/
theorem i_square {A : Nat → Nat} {x : XS} {y : YS} {M : MK} {pl : Pool} (I : Inv A x y M pl) (a0 a1 : Int32) : s1_square pl x y a0 a1 (fun x y => Inv A x y M pl) := by
  obtain ⟨k0, rfl, b0⟩ := zi_ex a0
  obtain ⟨k1, rfl, b1⟩ := zi_ex a1
  obtain ⟨T, vf, ps, fo, td, pr, fr, tr, tz, tp, hC, hR, hD, hM⟩ := I
  obtain ⟨sl, al, kd, hg, ex, nt, ln, pc, fc, tc, C, ⟨hbr, hsu, haw, hln, hal, hsl⟩, ⟨cps, cfo, ctd⟩, spo, ⟨vfo, vtd⟩, ⟨e1, e2, e3, e4, e5, e6⟩, ⟨e7, e8, e9, e10, e11, e12⟩, e13, e14, e15, e16, e17, e18⟩ := RC_open hC
  have hR' := hR
  have hD0 := hD
  obtain ⟨⟨r1, hcd⟩, ⟨r2, r3, r4, r5, r6, r7⟩, ⟨r8, r9, htz, htp, htk⟩, r10⟩ := hR'
  obtain ⟨sd, sy, sn, shA, c0, ⟨d1, d2, d3, d4, d5⟩, hday, hc0⟩ := hD
  have hcl := cdA_clR hcd
  have hT := C.1.1
  have hW := C.1.2.1
  unfold s1_square
  rw [e2, e1]
  refine p_squareC C.1.2.2.1 b0 b1 ?_
  intros
  unfold s2_square
  rw [r1]
  refine p_squareR hT.1 b0 b1 ?_
  intros
  exact ⟨rfl, ⟨T, vf, ps, fo, td, pr, fr, tr, tz, tp, hC, hR, hD0, hM⟩⟩
theorem i_shade {A : Nat → Nat} {x : XS} {y : YS} {M : MK} {pl : Pool} (I : Inv A x y M pl) (a0 a1 a2 : Int32) : s1_shade pl x y a0 a1 a2 (fun x y => Inv A x y M pl) := by
  obtain ⟨k0, rfl, b0⟩ := zi_ex a0
  obtain ⟨k1, rfl, b1⟩ := zi_ex a1
  obtain ⟨k2, rfl, b2⟩ := zi_ex a2
  obtain ⟨T, vf, ps, fo, td, pr, fr, tr, tz, tp, hC, hR, hD, hM⟩ := I
  obtain ⟨sl, al, kd, hg, ex, nt, ln, pc, fc, tc, C, ⟨hbr, hsu, haw, hln, hal, hsl⟩, ⟨cps, cfo, ctd⟩, spo, ⟨vfo, vtd⟩, ⟨e1, e2, e3, e4, e5, e6⟩, ⟨e7, e8, e9, e10, e11, e12⟩, e13, e14, e15, e16, e17, e18⟩ := RC_open hC
  have hR' := hR
  have hD0 := hD
  obtain ⟨⟨r1, hcd⟩, ⟨r2, r3, r4, r5, r6, r7⟩, ⟨r8, r9, htz, htp, htk⟩, r10⟩ := hR'
  obtain ⟨sd, sy, sn, shA, c0, ⟨d1, d2, d3, d4, d5⟩, hday, hc0⟩ := hD
  have hcl := cdA_clR hcd
  have hT := C.1.1
  have hW := C.1.2.1
  unfold s1_shade
  refine p_shadeC C b0 b1 b2 ?_
  intros
  unfold s2_shade
  rw [r1]
  refine p_shadeR hT hcl b0 b1 b2 ?_
  intros
  exact ⟨rfl, ⟨T, vf, ps, fo, td, pr, fr, tr, tz, tp, hC, hR, hD0, hM⟩⟩
theorem i_when {A : Nat → Nat} {x : XS} {y : YS} {M : MK} {pl : Pool} (I : Inv A x y M pl) (a0 a1 a2 a3 : Int32) : s1_when pl x y a0 a1 a2 a3 (fun x y => Inv A x y M pl) := by
  obtain ⟨k0, rfl, b0⟩ := zi_ex a0
  obtain ⟨k1, rfl, b1⟩ := zi_ex a1
  obtain ⟨k2, rfl, b2⟩ := zi_ex a2
  obtain ⟨k3, rfl, b3⟩ := zi_ex a3
  obtain ⟨T, vf, ps, fo, td, pr, fr, tr, tz, tp, hC, hR, hD, hM⟩ := I
  obtain ⟨sl, al, kd, hg, ex, nt, ln, pc, fc, tc, C, ⟨hbr, hsu, haw, hln, hal, hsl⟩, ⟨cps, cfo, ctd⟩, spo, ⟨vfo, vtd⟩, ⟨e1, e2, e3, e4, e5, e6⟩, ⟨e7, e8, e9, e10, e11, e12⟩, e13, e14, e15, e16, e17, e18⟩ := RC_open hC
  have hR' := hR
  have hD0 := hD
  obtain ⟨⟨r1, hcd⟩, ⟨r2, r3, r4, r5, r6, r7⟩, ⟨r8, r9, htz, htp, htk⟩, r10⟩ := hR'
  obtain ⟨sd, sy, sn, shA, c0, ⟨d1, d2, d3, d4, d5⟩, hday, hc0⟩ := hD
  have hcl := cdA_clR hcd
  have hT := C.1.1
  have hW := C.1.2.1
  unfold s1_when
  refine p_whenC C b0 b1 b2 b3 ?_
  intros
  unfold s2_when
  rw [r1]
  refine p_whenR hT hcl b0 b1 b2 b3 ?_
  intros
  exact ⟨rfl, ⟨T, vf, ps, fo, td, pr, fr, tr, tz, tp, hC, hR, hD0, hM⟩⟩
theorem i_dim {A : Nat → Nat} {x : XS} {y : YS} {M : MK} {pl : Pool} (I : Inv A x y M pl) (a0 a1 : Int32) : s1_dim pl x y a0 a1 (fun x y => Inv A x y M pl) := by
  obtain ⟨k0, rfl, b0⟩ := zi_ex a0
  obtain ⟨k1, rfl, b1⟩ := zi_ex a1
  obtain ⟨T, vf, ps, fo, td, pr, fr, tr, tz, tp, hC, hR, hD, hM⟩ := I
  obtain ⟨sl, al, kd, hg, ex, nt, ln, pc, fc, tc, C, ⟨hbr, hsu, haw, hln, hal, hsl⟩, ⟨cps, cfo, ctd⟩, spo, ⟨vfo, vtd⟩, ⟨e1, e2, e3, e4, e5, e6⟩, ⟨e7, e8, e9, e10, e11, e12⟩, e13, e14, e15, e16, e17, e18⟩ := RC_open hC
  have hR' := hR
  have hD0 := hD
  obtain ⟨⟨r1, hcd⟩, ⟨r2, r3, r4, r5, r6, r7⟩, ⟨r8, r9, htz, htp, htk⟩, r10⟩ := hR'
  obtain ⟨sd, sy, sn, shA, c0, ⟨d1, d2, d3, d4, d5⟩, hday, hc0⟩ := hD
  have hcl := cdA_clR hcd
  have hT := C.1.1
  have hW := C.1.2.1
  unfold s1_dim
  refine p_dimC C b0 b1 ?_
  intros
  unfold s2_dim
  rw [r1]
  refine p_dimR hT hcl b0 b1 ?_
  intros
  exact ⟨rfl, ⟨T, vf, ps, fo, td, pr, fr, tr, tz, tp, hC, hR, hD0, hM⟩⟩
theorem i_shutAt {A : Nat → Nat} {x : XS} {y : YS} {M : MK} {pl : Pool} (I : Inv A x y M pl) (a0 a1 a2 : Int32) : s1_shutAt pl x y a0 a1 a2 (fun x y => Inv A x y M pl) := by
  obtain ⟨k0, rfl, b0⟩ := zi_ex a0
  obtain ⟨k1, rfl, b1⟩ := zi_ex a1
  obtain ⟨k2, rfl, b2⟩ := zi_ex a2
  obtain ⟨T, vf, ps, fo, td, pr, fr, tr, tz, tp, hC, hR, hD, hM⟩ := I
  obtain ⟨sl, al, kd, hg, ex, nt, ln, pc, fc, tc, C, ⟨hbr, hsu, haw, hln, hal, hsl⟩, ⟨cps, cfo, ctd⟩, spo, ⟨vfo, vtd⟩, ⟨e1, e2, e3, e4, e5, e6⟩, ⟨e7, e8, e9, e10, e11, e12⟩, e13, e14, e15, e16, e17, e18⟩ := RC_open hC
  have hR' := hR
  have hD0 := hD
  obtain ⟨⟨r1, hcd⟩, ⟨r2, r3, r4, r5, r6, r7⟩, ⟨r8, r9, htz, htp, htk⟩, r10⟩ := hR'
  obtain ⟨sd, sy, sn, shA, c0, ⟨d1, d2, d3, d4, d5⟩, hday, hc0⟩ := hD
  have hcl := cdA_clR hcd
  have hT := C.1.1
  have hW := C.1.2.1
  unfold s1_shutAt
  refine p_shutC C b0 b1 b2 ?_
  intros
  unfold s2_shutAt
  rw [r1]
  refine p_shutR hT hcl b0 b1 b2 ?_
  intros
  exact ⟨rfl, ⟨T, vf, ps, fo, td, pr, fr, tr, tz, tp, hC, hR, hD0, hM⟩⟩
theorem i_edges {A : Nat → Nat} {x : XS} {y : YS} {M : MK} {pl : Pool} (I : Inv A x y M pl) (a0 a1 a2 : Int32) : s1_edges pl x y a0 a1 a2 (fun x y => Inv A x y M pl) := by
  obtain ⟨k0, rfl, b0⟩ := zi_ex a0
  obtain ⟨k1, rfl, b1⟩ := zi_ex a1
  obtain ⟨k2, rfl, b2⟩ := zi_ex a2
  obtain ⟨T, vf, ps, fo, td, pr, fr, tr, tz, tp, hC, hR, hD, hM⟩ := I
  obtain ⟨sl, al, kd, hg, ex, nt, ln, pc, fc, tc, C, ⟨hbr, hsu, haw, hln, hal, hsl⟩, ⟨cps, cfo, ctd⟩, spo, ⟨vfo, vtd⟩, ⟨e1, e2, e3, e4, e5, e6⟩, ⟨e7, e8, e9, e10, e11, e12⟩, e13, e14, e15, e16, e17, e18⟩ := RC_open hC
  have hR' := hR
  have hD0 := hD
  obtain ⟨⟨r1, hcd⟩, ⟨r2, r3, r4, r5, r6, r7⟩, ⟨r8, r9, htz, htp, htk⟩, r10⟩ := hR'
  obtain ⟨sd, sy, sn, shA, c0, ⟨d1, d2, d3, d4, d5⟩, hday, hc0⟩ := hD
  have hcl := cdA_clR hcd
  have hT := C.1.1
  have hW := C.1.2.1
  unfold s1_edges
  refine p_edgesC C b0 b1 b2 ?_
  intros
  unfold s2_edges
  rw [r1, d1, d2, d3, d4]
  refine p_edgesR hT hcl hday b0 b1 b2 ?_
  intro sd' sy' sn' shA'
  intros
  exact ⟨rfl, ⟨T, vf, ps, fo, td, pr, fr, tr, tz, tp, hC, hR, ⟨sd', sy', sn', shA', c0, ⟨rfl, rfl, rfl, rfl, d5⟩, by assumption, hc0⟩, hM⟩⟩
theorem i_broad {A : Nat → Nat} {x : XS} {y : YS} {M : MK} {pl : Pool} (I : Inv A x y M pl) (a0 a1 : Int32) : s1_broad pl x y a0 a1 (fun x y => Inv A x y M pl) := by
  obtain ⟨k0, rfl, b0⟩ := zi_ex a0
  obtain ⟨k1, rfl, b1⟩ := zi_ex a1
  obtain ⟨T, vf, ps, fo, td, pr, fr, tr, tz, tp, hC, hR, hD, hM⟩ := I
  obtain ⟨sl, al, kd, hg, ex, nt, ln, pc, fc, tc, C, ⟨hbr, hsu, haw, hln, hal, hsl⟩, ⟨cps, cfo, ctd⟩, spo, ⟨vfo, vtd⟩, ⟨e1, e2, e3, e4, e5, e6⟩, ⟨e7, e8, e9, e10, e11, e12⟩, e13, e14, e15, e16, e17, e18⟩ := RC_open hC
  have hR' := hR
  have hD0 := hD
  obtain ⟨⟨r1, hcd⟩, ⟨r2, r3, r4, r5, r6, r7⟩, ⟨r8, r9, htz, htp, htk⟩, r10⟩ := hR'
  obtain ⟨sd, sy, sn, shA, c0, ⟨d1, d2, d3, d4, d5⟩, hday, hc0⟩ := hD
  have hcl := cdA_clR hcd
  have hT := C.1.1
  have hW := C.1.2.1
  unfold s1_broad
  rw [e14]
  refine p_broadC C hln b0 b1 ?_
  intros
  unfold s2_broad
  rw [r1, d1, d2, d3, d4]
  refine p_broadR hT hcl hday b0 b1 ?_
  intro sd' sy' sn' shA'
  intros
  exact ⟨rfl, ⟨T, vf, ps, fo, td, pr, fr, tr, tz, tp, hC, hR, ⟨sd', sy', sn', shA', c0, ⟨rfl, rfl, rfl, rfl, d5⟩, by assumption, hc0⟩, hM⟩⟩
