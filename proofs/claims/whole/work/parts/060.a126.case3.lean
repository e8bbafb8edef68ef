/-! the law's cases over the relation (printed by caseg.py), 3 -/
theorem i_least {A : Nat → Nat} {x : XS} {y : YS} {M : MK} {pl : Pool} (I : Inv A x y M pl) (a0 a1 a2 a3 a4 a5 : Int32) : s1_least pl x y a0 a1 a2 a3 a4 a5 (fun x y => Inv A x y M pl) := by
  obtain ⟨k0, rfl, b0⟩ := zi_ex a0
  obtain ⟨k1, rfl, b1⟩ := zi_ex a1
  obtain ⟨k2, rfl, b2⟩ := zi_ex a2
  obtain ⟨k3, rfl, b3⟩ := zi_ex a3
  obtain ⟨k4, rfl, b4⟩ := zi_ex a4
  obtain ⟨k5, rfl, b5⟩ := zi_ex a5
  obtain ⟨T, vf, ps, fo, td, pr, fr, tr, tz, tp, hC, hR, hD, hM⟩ := I
  obtain ⟨sl, al, kd, hg, ex, nt, ln, pc, fc, tc, C, ⟨hbr, hsu, haw, hln, hal, hsl⟩, ⟨cps, cfo, ctd⟩, spo, ⟨vfo, vtd⟩, ⟨e1, e2, e3, e4, e5, e6⟩, ⟨e7, e8, e9, e10, e11, e12⟩, e13, e14, e15, e16, e17, e18⟩ := RC_open hC
  have hR' := hR
  have hD0 := hD
  obtain ⟨⟨r1, hcd⟩, ⟨r2, r3, r4, r5, r6, r7⟩, ⟨r8, r9, htz, htp, htk⟩, r10⟩ := hR'
  obtain ⟨sd, sy, sn, shA, c0, ⟨d1, d2, d3, d4, d5⟩, hday, hc0⟩ := hD
  have hcl := cdA_clR hcd
  have hT := C.1.1
  have hW := C.1.2.1
  unfold s1_least
  intro pl' hpl
  rw [e4, e1, e16, e15, e13]
  refine p_leastC (CS_mono hpl C) b0 b1 b2 b3 b4 b5 ?_ ?_
  · intro v hv
    intros
    unfold s2_least
    rw [r1, d1, d2, d3, d4, d5]
    refine p_leastR hT hW hcl hday hc0 b0 b1 b2 b3 b4 b5 ?_ ?_
    · intro v' hv' sd' sy' sn' shA' c'
      intros
      have ev : v = v' := Option.some.inj (hv.symm.trans hv')
      subst ev
      exact ⟨Or.inr ⟨rfl, rfl⟩, ⟨T, vf, ps, fo, td, pr, fr, tr, tz, tp, hC, hR, ⟨sd', sy', sn', shA', c', ⟨rfl, rfl, rfl, rfl, rfl⟩, by assumption, by assumption⟩, hM⟩⟩
    · intro hv'
      exact absurd (hv.symm.trans hv') (by simp)
  · intro hv
    intros
    unfold s2_least
    rw [r1, d1, d2, d3, d4, d5]
    refine p_leastR hT hW hcl hday hc0 b0 b1 b2 b3 b4 b5 ?_ ?_
    · intro v' hv'
      exact absurd (hv.symm.trans hv') (by simp)
    · intro hv' sd' sy' sn' shA' c'
      intros
      exact ⟨Or.inl ⟨rfl, rfl⟩, ⟨T, vf, ps, fo, td, pr, fr, tr, tz, tp, hC, hR, ⟨sd', sy', sn', shA', c', ⟨rfl, rfl, rfl, rfl, rfl⟩, by assumption, by assumption⟩, hM⟩⟩
theorem i_errand {A : Nat → Nat} {x : XS} {y : YS} {M : MK} {pl : Pool} (I : Inv A x y M pl) (a0 a1 a2 a3 a4 a5 a6 : Int32) : s1_errand pl x y a0 a1 a2 a3 a4 a5 a6 (fun x y => Inv A x y M pl) := by
  obtain ⟨k0, rfl, b0⟩ := zi_ex a0
  obtain ⟨k1, rfl, b1⟩ := zi_ex a1
  obtain ⟨k2, rfl, b2⟩ := zi_ex a2
  obtain ⟨k3, rfl, b3⟩ := zi_ex a3
  obtain ⟨k4, rfl, b4⟩ := zi_ex a4
  obtain ⟨k5, rfl, b5⟩ := zi_ex a5
  obtain ⟨k6, rfl, b6⟩ := zi_ex a6
  obtain ⟨T, vf, ps, fo, td, pr, fr, tr, tz, tp, hC, hR, hD, hM⟩ := I
  obtain ⟨sl, al, kd, hg, ex, nt, ln, pc, fc, tc, C, ⟨hbr, hsu, haw, hln, hal, hsl⟩, ⟨cps, cfo, ctd⟩, spo, ⟨vfo, vtd⟩, ⟨e1, e2, e3, e4, e5, e6⟩, ⟨e7, e8, e9, e10, e11, e12⟩, e13, e14, e15, e16, e17, e18⟩ := RC_open hC
  have hR' := hR
  have hD0 := hD
  obtain ⟨⟨r1, hcd⟩, ⟨r2, r3, r4, r5, r6, r7⟩, ⟨r8, r9, htz, htp, htk⟩, r10⟩ := hR'
  obtain ⟨sd, sy, sn, shA, c0, ⟨d1, d2, d3, d4, d5⟩, hday, hc0⟩ := hD
  have hcl := cdA_clR hcd
  have hT := C.1.1
  have hW := C.1.2.1
  unfold s1_errand
  intro pl' hpl
  rw [e4, e1, e16, e15, e13]
  refine p_errandC (CS_mono hpl C) b0 b1 b2 b3 b4 b5 b6 ?_ ?_
  · intro v hv
    intros
    unfold s2_errand
    rw [r1, d1, d2, d3, d4, d5]
    refine p_errandR hT hW hcl hday hc0 b0 b1 b2 b3 b4 b5 b6 ?_ ?_
    · intro v' hv' sd' sy' sn' shA' c'
      intros
      have ev : v = v' := Option.some.inj (hv.symm.trans hv')
      subst ev
      exact ⟨Or.inr ⟨rfl, rfl⟩, ⟨T, vf, ps, fo, td, pr, fr, tr, tz, tp, hC, hR, ⟨sd', sy', sn', shA', c', ⟨rfl, rfl, rfl, rfl, rfl⟩, by assumption, by assumption⟩, hM⟩⟩
    · intro hv'
      exact absurd (hv.symm.trans hv') (by simp)
  · intro hv
    intros
    unfold s2_errand
    rw [r1, d1, d2, d3, d4, d5]
    refine p_errandR hT hW hcl hday hc0 b0 b1 b2 b3 b4 b5 b6 ?_ ?_
    · intro v' hv'
      exact absurd (hv.symm.trans hv') (by simp)
    · intro hv' sd' sy' sn' shA' c'
      intros
      exact ⟨Or.inl ⟨rfl, rfl⟩, ⟨T, vf, ps, fo, td, pr, fr, tr, tz, tp, hC, hR, ⟨sd', sy', sn', shA', c', ⟨rfl, rfl, rfl, rfl, rfl⟩, by assumption, by assumption⟩, hM⟩⟩
theorem i_meet {A : Nat → Nat} {x : XS} {y : YS} {M : MK} {pl : Pool} (I : Inv A x y M pl) (a0 a1 a2 a3 a4 a5 a6 : Int32) : s1_meet pl x y a0 a1 a2 a3 a4 a5 a6 (fun x y => Inv A x y M pl) := by
  obtain ⟨k0, rfl, b0⟩ := zi_ex a0
  obtain ⟨k1, rfl, b1⟩ := zi_ex a1
  obtain ⟨k2, rfl, b2⟩ := zi_ex a2
  obtain ⟨k3, rfl, b3⟩ := zi_ex a3
  obtain ⟨k4, rfl, b4⟩ := zi_ex a4
  obtain ⟨k5, rfl, b5⟩ := zi_ex a5
  obtain ⟨k6, rfl, b6⟩ := zi_ex a6
  obtain ⟨T, vf, ps, fo, td, pr, fr, tr, tz, tp, hC, hR, hD, hM⟩ := I
  obtain ⟨sl, al, kd, hg, ex, nt, ln, pc, fc, tc, C, ⟨hbr, hsu, haw, hln, hal, hsl⟩, ⟨cps, cfo, ctd⟩, spo, ⟨vfo, vtd⟩, ⟨e1, e2, e3, e4, e5, e6⟩, ⟨e7, e8, e9, e10, e11, e12⟩, e13, e14, e15, e16, e17, e18⟩ := RC_open hC
  have hR' := hR
  have hD0 := hD
  obtain ⟨⟨r1, hcd⟩, ⟨r2, r3, r4, r5, r6, r7⟩, ⟨r8, r9, htz, htp, htk⟩, r10⟩ := hR'
  obtain ⟨sd, sy, sn, shA, c0, ⟨d1, d2, d3, d4, d5⟩, hday, hc0⟩ := hD
  have hcl := cdA_clR hcd
  have hT := C.1.1
  have hW := C.1.2.1
  unfold s1_meet
  intro pl' hpl
  rw [e4, e1, e16, e15, e13]
  refine p_meetC (CS_mono hpl C) b0 b1 b2 b3 b4 b5 b6 ?_ ?_
  · intro v hv
    intros
    unfold s2_meet
    rw [r1, d1, d2, d3, d4, d5]
    refine p_meetR hT hW hcl hday hc0 b0 b1 b2 b3 b4 b5 b6 ?_ ?_
    · intro v' hv' sd' sy' sn' shA' c'
      intros
      have ev : v = v' := Option.some.inj (hv.symm.trans hv')
      subst ev
      exact ⟨Or.inr ⟨rfl, rfl⟩, ⟨T, vf, ps, fo, td, pr, fr, tr, tz, tp, hC, hR, ⟨sd', sy', sn', shA', c', ⟨rfl, rfl, rfl, rfl, rfl⟩, by assumption, by assumption⟩, hM⟩⟩
    · intro hv'
      exact absurd (hv.symm.trans hv') (by simp)
  · intro hv
    intros
    unfold s2_meet
    rw [r1, d1, d2, d3, d4, d5]
    refine p_meetR hT hW hcl hday hc0 b0 b1 b2 b3 b4 b5 b6 ?_ ?_
    · intro v' hv'
      exact absurd (hv.symm.trans hv') (by simp)
    · intro hv' sd' sy' sn' shA' c'
      intros
      exact ⟨Or.inl ⟨rfl, rfl⟩, ⟨T, vf, ps, fo, td, pr, fr, tr, tz, tp, hC, hR, ⟨sd', sy', sn', shA', c', ⟨rfl, rfl, rfl, rfl, rfl⟩, by assumption, by assumption⟩, hM⟩⟩
theorem i_rests {A : Nat → Nat} {x : XS} {y : YS} {M : MK} {pl : Pool} (I : Inv A x y M pl) (a0 a1 a2 a3 a4 a5 : Int32) : s1_rests pl x y a0 a1 a2 a3 a4 a5 (fun x y => Inv A x y M pl) := by
  obtain ⟨k0, rfl, b0⟩ := zi_ex a0
  obtain ⟨k1, rfl, b1⟩ := zi_ex a1
  obtain ⟨k2, rfl, b2⟩ := zi_ex a2
  obtain ⟨k3, rfl, b3⟩ := zi_ex a3
  obtain ⟨k4, rfl, b4⟩ := zi_ex a4
  obtain ⟨k5, rfl, b5⟩ := zi_ex a5
  obtain ⟨T, vf, ps, fo, td, pr, fr, tr, tz, tp, hC, hR, hD, hM⟩ := I
  obtain ⟨sl, al, kd, hg, ex, nt, ln, pc, fc, tc, C, ⟨hbr, hsu, haw, hln, hal, hsl⟩, ⟨cps, cfo, ctd⟩, spo, ⟨vfo, vtd⟩, ⟨e1, e2, e3, e4, e5, e6⟩, ⟨e7, e8, e9, e10, e11, e12⟩, e13, e14, e15, e16, e17, e18⟩ := RC_open hC
  have hR' := hR
  have hD0 := hD
  obtain ⟨⟨r1, hcd⟩, ⟨r2, r3, r4, r5, r6, r7⟩, ⟨r8, r9, htz, htp, htk⟩, r10⟩ := hR'
  obtain ⟨sd, sy, sn, shA, c0, ⟨d1, d2, d3, d4, d5⟩, hday, hc0⟩ := hD
  have hcl := cdA_clR hcd
  have hT := C.1.1
  have hW := C.1.2.1
  unfold s1_rests
  intro pl' hpl
  rw [e4, e1, e16, e15, e13]
  refine p_restsC (CS_mono hpl C) b0 b1 b2 b3 b4 b5 ?_ ?_
  · intro v hv
    intros
    unfold s2_rests
    rw [r1, d1, d4, d5, d2, d3]
    refine p_restsR hT hW hcl hday hc0 b0 b1 b2 b3 b4 b5 ?_ ?_
    · intro v' hv' sd' sy' sn' shA' c'
      intros
      have ev : v = v' := Option.some.inj (hv.symm.trans hv')
      subst ev
      exact ⟨Or.inr ⟨rfl, rfl⟩, ⟨T, vf, ps, fo, td, pr, fr, tr, tz, tp, hC, hR, ⟨sd', sy', sn', shA', c', ⟨rfl, rfl, rfl, rfl, rfl⟩, by assumption, by assumption⟩, hM⟩⟩
    · intro hv'
      exact absurd (hv.symm.trans hv') (by simp)
  · intro hv
    intros
    unfold s2_rests
    rw [r1, d1, d4, d5, d2, d3]
    refine p_restsR hT hW hcl hday hc0 b0 b1 b2 b3 b4 b5 ?_ ?_
    · intro v' hv'
      exact absurd (hv.symm.trans hv') (by simp)
    · intro hv' sd' sy' sn' shA' c'
      intros
      exact ⟨Or.inl ⟨rfl, rfl⟩, ⟨T, vf, ps, fo, td, pr, fr, tr, tz, tp, hC, hR, ⟨sd', sy', sn', shA', c', ⟨rfl, rfl, rfl, rfl, rfl⟩, by assumption, by assumption⟩, hM⟩⟩
theorem i_guessed {A : Nat → Nat} {x : XS} {y : YS} {M : MK} {pl : Pool} (I : Inv A x y M pl) (a0 a1 a2 a3 a4 a5 a6 a7 : Int32) : s1_guessed pl x y a0 a1 a2 a3 a4 a5 a6 a7 (fun x y => Inv A x y M pl) := by
  obtain ⟨k0, rfl, b0⟩ := zi_ex a0
  obtain ⟨k1, rfl, b1⟩ := zi_ex a1
  obtain ⟨k2, rfl, b2⟩ := zi_ex a2
  obtain ⟨k3, rfl, b3⟩ := zi_ex a3
  obtain ⟨k4, rfl, b4⟩ := zi_ex a4
  obtain ⟨k5, rfl, b5⟩ := zi_ex a5
  obtain ⟨k6, rfl, b6⟩ := zi_ex a6
  obtain ⟨k7, rfl, b7⟩ := zi_ex a7
  obtain ⟨T, vf, ps, fo, td, pr, fr, tr, tz, tp, hC, hR, hD, hM⟩ := I
  obtain ⟨sl, al, kd, hg, ex, nt, ln, pc, fc, tc, C, ⟨hbr, hsu, haw, hln, hal, hsl⟩, ⟨cps, cfo, ctd⟩, spo, ⟨vfo, vtd⟩, ⟨e1, e2, e3, e4, e5, e6⟩, ⟨e7, e8, e9, e10, e11, e12⟩, e13, e14, e15, e16, e17, e18⟩ := RC_open hC
  have hR' := hR
  have hD0 := hD
  obtain ⟨⟨r1, hcd⟩, ⟨r2, r3, r4, r5, r6, r7⟩, ⟨r8, r9, htz, htp, htk⟩, r10⟩ := hR'
  obtain ⟨sd, sy, sn, shA, c0, ⟨d1, d2, d3, d4, d5⟩, hday, hc0⟩ := hD
  have hcl := cdA_clR hcd
  have hT := C.1.1
  have hW := C.1.2.1
  unfold s1_guessed
  intro pl' hpl
  rw [e4, e1, e16, e15, e13]
  refine p_guessC (CS_mono hpl C) b0 b1 b2 b3 b4 b5 b6 b7 ?_ ?_
  · intro v hv
    intros
    unfold s2_guessed
    rw [r1, d1, d2, d3, d4]
    refine p_guessR hT hW hcl hday b0 b1 b2 b3 b4 b5 b6 b7 ?_ ?_
    · intro v' hv' sd' sy' sn' shA'
      intros
      have ev : v = v' := Option.some.inj (hv.symm.trans hv')
      subst ev
      exact ⟨Or.inr ⟨rfl, rfl⟩, ⟨T, vf, ps, fo, td, pr, fr, tr, tz, tp, hC, hR, ⟨sd', sy', sn', shA', c0, ⟨rfl, rfl, rfl, rfl, d5⟩, by assumption, hc0⟩, hM⟩⟩
    · intro hv'
      exact absurd (hv.symm.trans hv') (by simp)
  · intro hv
    intros
    unfold s2_guessed
    rw [r1, d1, d2, d3, d4]
    refine p_guessR hT hW hcl hday b0 b1 b2 b3 b4 b5 b6 b7 ?_ ?_
    · intro v' hv'
      exact absurd (hv.symm.trans hv') (by simp)
    · intro hv' sd' sy' sn' shA'
      intros
      exact ⟨Or.inl ⟨rfl, rfl⟩, ⟨T, vf, ps, fo, td, pr, fr, tr, tz, tp, hC, hR, ⟨sd', sy', sn', shA', c0, ⟨rfl, rfl, rfl, rfl, d5⟩, by assumption, hc0⟩, hM⟩⟩
theorem i_plant {A : Nat → Nat} {x : XS} {y : YS} {M : MK} {pl : Pool} (I : Inv A x y M pl) (a0 a1 a2 a3 a4 a5 a6 : Int32) : s1_plant pl x y a0 a1 a2 a3 a4 a5 a6 (fun x y => Inv A x y M pl) := by
  obtain ⟨k0, rfl, b0⟩ := zi_ex a0
  obtain ⟨k1, rfl, b1⟩ := zi_ex a1
  obtain ⟨k2, rfl, b2⟩ := zi_ex a2
  obtain ⟨k3, rfl, b3⟩ := zi_ex a3
  obtain ⟨k4, rfl, b4⟩ := zi_ex a4
  obtain ⟨k5, rfl, b5⟩ := zi_ex a5
  obtain ⟨k6, rfl, b6⟩ := zi_ex a6
  obtain ⟨T, vf, ps, fo, td, pr, fr, tr, tz, tp, hC, hR, hD, hM⟩ := I
  obtain ⟨sl, al, kd, hg, ex, nt, ln, pc, fc, tc, C, ⟨hbr, hsu, haw, hln, hal, hsl⟩, ⟨cps, cfo, ctd⟩, spo, ⟨vfo, vtd⟩, ⟨e1, e2, e3, e4, e5, e6⟩, ⟨e7, e8, e9, e10, e11, e12⟩, e13, e14, e15, e16, e17, e18⟩ := RC_open hC
  have hR' := hR
  have hD0 := hD
  obtain ⟨⟨r1, hcd⟩, ⟨r2, r3, r4, r5, r6, r7⟩, ⟨r8, r9, htz, htp, htk⟩, r10⟩ := hR'
  obtain ⟨sd, sy, sn, shA, c0, ⟨d1, d2, d3, d4, d5⟩, hday, hc0⟩ := hD
  have hcl := cdA_clR hcd
  have hT := C.1.1
  have hW := C.1.2.1
  unfold s1_plant
  intro pl' hpl
  rw [e4, e6, e1, e16, e15, e13, e14]
  refine p_plantC (CS_mono hpl C) hbr (suR_mono hpl hsu) hln b0 b1 b2 b3 b4 b5 b6 ?_ ?_
  · intro v hv
    intros
    unfold s2_plant
    rw [d1, r1, d2, d3, d4, d5]
    refine p_plantR hT hW hcl hbr hday hc0 b0 b1 b2 b3 b4 b5 b6 ?_ ?_
    · intro v' hv' sd' sy' sn' shA' c'
      intros
      have ev : v = v' := Option.some.inj (hv.symm.trans hv')
      subst ev
      exact ⟨Or.inr ⟨rfl, rfl⟩, ⟨T, vf, ps, fo, td, pr, fr, tr, tz, tp, hC, ⟨⟨rfl, hcd⟩, hR.2⟩, ⟨sd', sy', sn', shA', c', ⟨rfl, rfl, rfl, rfl, rfl⟩, by assumption, by assumption⟩, hM⟩⟩
    · intro hv'
      exact absurd (hv.symm.trans hv') (by simp)
  · intro hv
    intros
    unfold s2_plant
    rw [d1, r1, d2, d3, d4, d5]
    refine p_plantR hT hW hcl hbr hday hc0 b0 b1 b2 b3 b4 b5 b6 ?_ ?_
    · intro v' hv'
      exact absurd (hv.symm.trans hv') (by simp)
    · intro hv' sd' sy' sn' shA' c'
      intros
      exact ⟨Or.inl ⟨rfl, rfl⟩, ⟨T, vf, ps, fo, td, pr, fr, tr, tz, tp, hC, ⟨⟨rfl, hcd⟩, hR.2⟩, ⟨sd', sy', sn', shA', c', ⟨rfl, rfl, rfl, rfl, rfl⟩, by assumption, by assumption⟩, hM⟩⟩
theorem i_cover {A : Nat → Nat} {x : XS} {y : YS} {M : MK} {pl : Pool} (I : Inv A x y M pl) (a0 a1 a2 a3 a4 a5 : Int32) : s1_cover pl x y a0 a1 a2 a3 a4 a5 (fun x y => Inv A x y M pl) := by
  obtain ⟨k0, rfl, b0⟩ := zi_ex a0
  obtain ⟨k1, rfl, b1⟩ := zi_ex a1
  obtain ⟨k2, rfl, b2⟩ := zi_ex a2
  obtain ⟨k3, rfl, b3⟩ := zi_ex a3
  obtain ⟨k4, rfl, b4⟩ := zi_ex a4
  obtain ⟨k5, rfl, b5⟩ := zi_ex a5
  obtain ⟨T, vf, ps, fo, td, pr, fr, tr, tz, tp, hC, hR, hD, hM⟩ := I
  obtain ⟨sl, al, kd, hg, ex, nt, ln, pc, fc, tc, C, ⟨hbr, hsu, haw, hln, hal, hsl⟩, ⟨cps, cfo, ctd⟩, spo, ⟨vfo, vtd⟩, ⟨e1, e2, e3, e4, e5, e6⟩, ⟨e7, e8, e9, e10, e11, e12⟩, e13, e14, e15, e16, e17, e18⟩ := RC_open hC
  have hR' := hR
  have hD0 := hD
  obtain ⟨⟨r1, hcd⟩, ⟨r2, r3, r4, r5, r6, r7⟩, ⟨r8, r9, htz, htp, htk⟩, r10⟩ := hR'
  obtain ⟨sd, sy, sn, shA, c0, ⟨d1, d2, d3, d4, d5⟩, hday, hc0⟩ := hD
  have hcl := cdA_clR hcd
  have hT := C.1.1
  have hW := C.1.2.1
  unfold s1_cover
  intro pl' hpl
  rw [e4, e1, e16, e15, e13]
  refine p_coverC (CS_mono hpl C) hbr b0 b1 b2 b3 b4 b5 ?_ ?_
  · intro v hv
    intros
    unfold s2_cover
    rw [d1, r1, d2, d3, d4, d5]
    refine p_coverR hT hW hcl hbr hday hc0 b0 b1 b2 b3 b4 b5 ?_ ?_
    · intro v' hv' sd' sy' sn' shA' c'
      intros
      have ev : v = v' := Option.some.inj (hv.symm.trans hv')
      subst ev
      exact ⟨Or.inr ⟨rfl, rfl⟩, ⟨T, vf, ps, fo, td, pr, fr, tr, tz, tp, hC, ⟨⟨rfl, hcd⟩, hR.2⟩, ⟨sd', sy', sn', shA', c', ⟨rfl, rfl, rfl, rfl, rfl⟩, by assumption, by assumption⟩, hM⟩⟩
    · intro hv'
      exact absurd (hv.symm.trans hv') (by simp)
  · intro hv
    intros
    unfold s2_cover
    rw [d1, r1, d2, d3, d4, d5]
    refine p_coverR hT hW hcl hbr hday hc0 b0 b1 b2 b3 b4 b5 ?_ ?_
    · intro v' hv'
      exact absurd (hv.symm.trans hv') (by simp)
    · intro hv' sd' sy' sn' shA' c'
      intros
      exact ⟨Or.inl ⟨rfl, rfl⟩, ⟨T, vf, ps, fo, td, pr, fr, tr, tz, tp, hC, ⟨⟨rfl, hcd⟩, hR.2⟩, ⟨sd', sy', sn', shA', c', ⟨rfl, rfl, rfl, rfl, rfl⟩, by assumption, by assumption⟩, hM⟩⟩
theorem i_judged {A : Nat → Nat} {x : XS} {y : YS} {M : MK} {pl : Pool} (I : Inv A x y M pl) (a0 a1 a2 a3 a4 : Int32) : s1_judged pl x y a0 a1 a2 a3 a4 (fun x y => Inv A x y M pl) := by
  obtain ⟨k0, rfl, b0⟩ := zi_ex a0
  obtain ⟨k1, rfl, b1⟩ := zi_ex a1
  obtain ⟨k2, rfl, b2⟩ := zi_ex a2
  obtain ⟨k3, rfl, b3⟩ := zi_ex a3
  obtain ⟨k4, rfl, b4⟩ := zi_ex a4
  obtain ⟨T, vf, ps, fo, td, pr, fr, tr, tz, tp, hC, hR, hD, hM⟩ := I
  obtain ⟨sl, al, kd, hg, ex, nt, ln, pc, fc, tc, C, ⟨hbr, hsu, haw, hln, hal, hsl⟩, ⟨cps, cfo, ctd⟩, spo, ⟨vfo, vtd⟩, ⟨e1, e2, e3, e4, e5, e6⟩, ⟨e7, e8, e9, e10, e11, e12⟩, e13, e14, e15, e16, e17, e18⟩ := RC_open hC
  have hR' := hR
  have hD0 := hD
  obtain ⟨⟨r1, hcd⟩, ⟨r2, r3, r4, r5, r6, r7⟩, ⟨r8, r9, htz, htp, htk⟩, r10⟩ := hR'
  obtain ⟨sd, sy, sn, shA, c0, ⟨d1, d2, d3, d4, d5⟩, hday, hc0⟩ := hD
  have hcl := cdA_clR hcd
  have hT := C.1.1
  have hW := C.1.2.1
  unfold s1_judged
  intro pl' hpl
  rw [e1, e11, e12, e13]
  refine p_judgedC (CS_mono hpl C) ctd.1 (fun j a b => ⟨ctd.2.2.2 j a b, vtd j a b⟩) b0 b1 b2 b3 b4 ?_ ?_
  · intro v hv
    intros
    unfold s2_judged
    rw [r6, r1, r7, d1, d2, d3, d4]
    refine p_judgedR hT hW hcl C.2.2.2.2.1 hday ctd.1 (fun j a b => ⟨rfl, vtd j a b⟩) b0 b1 b2 b3 b4 ?_ ?_
    · intro v' hv' sd' sy' sn' shA'
      intros
      have ev : v = v' := Option.some.inj (hv.symm.trans hv')
      subst ev
      exact ⟨Or.inr ⟨rfl, rfl⟩, ⟨T, vf, ps, fo, td, pr, fr, tr, tz, tp, hC, hR, ⟨sd', sy', sn', shA', c0, ⟨rfl, rfl, rfl, rfl, d5⟩, by assumption, hc0⟩, hM⟩⟩
    · intro hv'
      exact absurd (hv.symm.trans hv') (by simp)
  · intro hv
    intros
    unfold s2_judged
    rw [r6, r1, r7, d1, d2, d3, d4]
    refine p_judgedR hT hW hcl C.2.2.2.2.1 hday ctd.1 (fun j a b => ⟨rfl, vtd j a b⟩) b0 b1 b2 b3 b4 ?_ ?_
    · intro v' hv'
      exact absurd (hv.symm.trans hv') (by simp)
    · intro hv' sd' sy' sn' shA'
      intros
      exact ⟨Or.inl ⟨rfl, rfl⟩, ⟨T, vf, ps, fo, td, pr, fr, tr, tz, tp, hC, hR, ⟨sd', sy', sn', shA', c0, ⟨rfl, rfl, rfl, rfl, d5⟩, by assumption, hc0⟩, hM⟩⟩
