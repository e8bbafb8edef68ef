/-! the law's cases over the relation (printed by caseg.py), 4 -/
theorem i_count {A : Nat → Nat} {x : XS} {y : YS} {M : MK} {pl : Pool} (I : Inv A x y M pl) (a0 : Int32) : s1_count pl x y a0 (fun x y => Inv A x y M pl) := by
  obtain ⟨k0, rfl, b0⟩ := zi_ex a0
  obtain ⟨T, vf, ps, fo, td, pr, fr, tr, tz, tp, hC, hR, hD, hM⟩ := I
  obtain ⟨sl, al, kd, hg, ex, nt, ln, pc, fc, tc, C, ⟨hbr, hsu, haw, hln, hal, hsl⟩, ⟨cps, cfo, ctd⟩, spo, ⟨vfo, vtd⟩, ⟨e1, e2, e3, e4, e5, e6⟩, ⟨e7, e8, e9, e10, e11, e12⟩, e13, e14, e15, e16, e17, e18⟩ := RC_open hC
  have hR' := hR
  have hD0 := hD
  obtain ⟨⟨r1, hcd⟩, ⟨r2, r3, r4, r5, r6, r7⟩, ⟨r8, r9, htz, htp, htk⟩, r10⟩ := hR'
  obtain ⟨sd, sy, sn, shA, c0, ⟨d1, d2, d3, d4, d5⟩, hday, hc0⟩ := hD
  have hcl := cdA_clR hcd
  have hT := C.1.1
  have hW := C.1.2.1
  unfold s1_count
  rw [e3, e4, e5, e6, e1, e7, e9, e11, e17]
  refine p_countC C.1.2.2.1 hT C.1.2.2.2 hal hsl b0 ?_
  intros
  unfold s2_count
  rw [r8, r2, r4, r6, r1]
  refine p_countR hT b0 ?_
  intros
  exact ⟨rfl, ⟨T, vf, ps, fo, td, pr, fr, tr, tz, tp, hC, hR, hD0, hM⟩⟩
theorem i_crowd {A : Nat → Nat} {x : XS} {y : YS} {M : MK} {pl : Pool} (I : Inv A x y M pl) (a0 a1 a2 a3 a4 a5 a6 a7 a8 : Int32) : s1_crowd pl x y a0 a1 a2 a3 a4 a5 a6 a7 a8 (fun x y => Inv A x y M pl) := by
  obtain ⟨k0, rfl, b0⟩ := zi_ex a0
  obtain ⟨k1, rfl, b1⟩ := zi_ex a1
  obtain ⟨k2, rfl, b2⟩ := zi_ex a2
  obtain ⟨k3, rfl, b3⟩ := zi_ex a3
  obtain ⟨k4, rfl, b4⟩ := zi_ex a4
  obtain ⟨k5, rfl, b5⟩ := zi_ex a5
  obtain ⟨k6, rfl, b6⟩ := zi_ex a6
  obtain ⟨k7, rfl, b7⟩ := zi_ex a7
  obtain ⟨k8, rfl, b8⟩ := zi_ex a8
  obtain ⟨T, vf, ps, fo, td, pr, fr, tr, tz, tp, hC, hR, hD, hM⟩ := I
  obtain ⟨sl, al, kd, hg, ex, nt, ln, pc, fc, tc, C, ⟨hbr, hsu, haw, hln, hal, hsl⟩, ⟨cps, cfo, ctd⟩, spo, ⟨vfo, vtd⟩, ⟨e1, e2, e3, e4, e5, e6⟩, ⟨e7, e8, e9, e10, e11, e12⟩, e13, e14, e15, e16, e17, e18⟩ := RC_open hC
  have hR' := hR
  have hD0 := hD
  obtain ⟨⟨r1, hcd⟩, ⟨r2, r3, r4, r5, r6, r7⟩, ⟨r8, r9, htz, htp, htk⟩, r10⟩ := hR'
  obtain ⟨sd, sy, sn, shA, c0, ⟨d1, d2, d3, d4, d5⟩, hday, hc0⟩ := hD
  have hcl := cdA_clR hcd
  have hT := C.1.1
  have hW := C.1.2.1
  obtain ⟨ex0, nt0, ln0, hB, hsk, hx0, heb, htp1, htp2⟩ := hC
  unfold s1_crowd
  intro pl' hpl
  rw [e4, e1, e13, e16, e15]
  refine p_crowdC (CS_mono hpl C) b0 b1 b2 b3 b4 b5 b6 b7 b8 ?_ ?_
  · intro v hv
    intro ex' hx'
    intros
    unfold s2_crowd
    rw [r1, d1, d3, d2, d4, d5]
    refine p_crowdR hT hW hcl hday hc0 b0 b1 b2 b3 b4 b5 b6 b7 b8 ?_ ?_
    · intro v' hv' sd' sy' sn' shA' c'
      intros
      have ev : v = v' := Option.some.inj (hv.symm.trans hv')
      subst ev
      exact ⟨Or.inr ⟨rfl, rfl⟩, ⟨T, vf, ps, fo, td, pr, fr, tr, tz, tp, ⟨ex', nt0, ln0, hB, hsk, ⟨rfl, hx'⟩, rfl, htp1, htp2⟩, hR, ⟨sd', sy', sn', shA', c', ⟨rfl, rfl, rfl, rfl, rfl⟩, by assumption, by assumption⟩, hM⟩⟩
    · intro hv'
      exact absurd (hv.symm.trans hv') (by simp)
  · intro hv
    intro ex' hx'
    intros
    unfold s2_crowd
    rw [r1, d1, d3, d2, d4, d5]
    refine p_crowdR hT hW hcl hday hc0 b0 b1 b2 b3 b4 b5 b6 b7 b8 ?_ ?_
    · intro v' hv'
      exact absurd (hv.symm.trans hv') (by simp)
    · intro hv' sd' sy' sn' shA' c'
      intros
      exact ⟨Or.inl ⟨rfl, rfl⟩, ⟨T, vf, ps, fo, td, pr, fr, tr, tz, tp, ⟨ex', nt0, ln0, hB, hsk, ⟨rfl, hx'⟩, rfl, htp1, htp2⟩, hR, ⟨sd', sy', sn', shA', c', ⟨rfl, rfl, rfl, rfl, rfl⟩, by assumption, by assumption⟩, hM⟩⟩
theorem i_price {A : Nat → Nat} {x : XS} {y : YS} {M : MK} {pl : Pool} (I : Inv A x y M pl) (a0 a1 a2 a3 a4 a5 a6 a7 : Int32) : s1_price pl x y a0 a1 a2 a3 a4 a5 a6 a7 (fun x y => Inv A x y M pl) := by
  obtain ⟨k0, rfl, b0⟩ := zi_ex a0
  obtain ⟨k1, rfl, b1⟩ := zi_ex a1
  obtain ⟨k2, rfl, b2⟩ := zi_ex a2
  obtain ⟨k3, rfl, b3⟩ := zi_ex a3
  obtain ⟨k4, rfl, b4⟩ := zi_ex a4
  obtain ⟨k5, rfl, b5⟩ := zi_ex a5
  obtain ⟨k6, rfl, b6⟩ := zi_ex a6
  obtain ⟨k7, rfl, b7⟩ := zi_ex a7
  obtain ⟨T, vf, ps, fo, td, pr, fr, tr, tz, tp, hC, hR, hD, hM⟩ := I
  obtain ⟨sl, al, kd, hg, ex, nt, ln, pc, fc, tc, C, ⟨hbr, hsu, haw, hln, hal, hsl⟩, ⟨cps, cfo, ctd⟩, spo, ⟨vfo, vtd⟩, ⟨e1, e2, e3, e4, e5, e6⟩, ⟨e7, e8, e9, e10, e11, e12⟩, e13, e14, e15, e16, e17, e18⟩ := RC_open hC
  have hR' := hR
  have hD0 := hD
  obtain ⟨⟨r1, hcd⟩, ⟨r2, r3, r4, r5, r6, r7⟩, ⟨r8, r9, htz, htp, htk⟩, r10⟩ := hR'
  obtain ⟨sd, sy, sn, shA, c0, ⟨d1, d2, d3, d4, d5⟩, hday, hc0⟩ := hD
  have hcl := cdA_clR hcd
  have hT := C.1.1
  have hW := C.1.2.1
  obtain ⟨ex0, nt0, ln0, hB, hsk, hx0, heb, htp1, htp2⟩ := hC
  unfold s1_price
  intro pl' hpl
  rw [e4, e1, e13, e16, e15]
  refine p_priceC (CS_mono hpl C) b0 b1 b2 b3 b4 b5 b6 b7 ?_ ?_
  · intro v hv
    intro ex' hx'
    intros
    unfold s2_price
    rw [r1, d1, d3, d5, d4, d2]
    refine p_priceR hT hW hcl hday hc0 b0 b1 b2 b3 b4 b5 b6 b7 ?_ ?_
    · intro v' hv' sd' sy' sn' shA' c'
      intros
      have ev : v = v' := Option.some.inj (hv.symm.trans hv')
      subst ev
      exact ⟨Or.inr ⟨rfl, rfl⟩, ⟨T, vf, ps, fo, td, pr, fr, tr, tz, tp, ⟨ex', nt0, ln0, hB, hsk, ⟨rfl, hx'⟩, rfl, htp1, htp2⟩, hR, ⟨sd', sy', sn', shA', c', ⟨rfl, rfl, rfl, rfl, rfl⟩, by assumption, by assumption⟩, hM⟩⟩
    · intro hv'
      exact absurd (hv.symm.trans hv') (by simp)
  · intro hv
    intro ex' hx'
    intros
    unfold s2_price
    rw [r1, d1, d3, d5, d4, d2]
    refine p_priceR hT hW hcl hday hc0 b0 b1 b2 b3 b4 b5 b6 b7 ?_ ?_
    · intro v' hv'
      exact absurd (hv.symm.trans hv') (by simp)
    · intro hv' sd' sy' sn' shA' c'
      intros
      exact ⟨Or.inl ⟨rfl, rfl⟩, ⟨T, vf, ps, fo, td, pr, fr, tr, tz, tp, ⟨ex', nt0, ln0, hB, hsk, ⟨rfl, hx'⟩, rfl, htp1, htp2⟩, hR, ⟨sd', sy', sn', shA', c', ⟨rfl, rfl, rfl, rfl, rfl⟩, by assumption, by assumption⟩, hM⟩⟩
theorem i_spots {A : Nat → Nat} {x : XS} {y : YS} {M : MK} {pl : Pool} (I : Inv A x y M pl) (a0 a1 a2 a3 a4 a5 a6 a7 : Int32) : s1_spots pl x y a0 a1 a2 a3 a4 a5 a6 a7 (fun x y => Inv A x y M pl) := by
  obtain ⟨k0, rfl, b0⟩ := zi_ex a0
  obtain ⟨k1, rfl, b1⟩ := zi_ex a1
  obtain ⟨k2, rfl, b2⟩ := zi_ex a2
  obtain ⟨k3, rfl, b3⟩ := zi_ex a3
  obtain ⟨k4, rfl, b4⟩ := zi_ex a4
  obtain ⟨k5, rfl, b5⟩ := zi_ex a5
  obtain ⟨k6, rfl, b6⟩ := zi_ex a6
  obtain ⟨k7, rfl, b7⟩ := zi_ex a7
  obtain ⟨T, vf, ps, fo, td, pr, fr, tr, tz, tp, hC, hR, hD, hM⟩ := I
  obtain ⟨sl, al, kd, hg, ex, nt, ln, pc, fc, tc, C, ⟨hbr, hsu, haw, hln, hal, hsl⟩, ⟨cps, cfo, ctd⟩, spo, ⟨vfo, vtd⟩, ⟨e1, e2, e3, e4, e5, e6⟩, ⟨e7, e8, e9, e10, e11, e12⟩, e13, e14, e15, e16, e17, e18⟩ := RC_open hC
  have hR' := hR
  have hD0 := hD
  obtain ⟨⟨r1, hcd⟩, ⟨r2, r3, r4, r5, r6, r7⟩, ⟨r8, r9, htz, htp, htk⟩, r10⟩ := hR'
  obtain ⟨sd, sy, sn, shA, c0, ⟨d1, d2, d3, d4, d5⟩, hday, hc0⟩ := hD
  have hcl := cdA_clR hcd
  have hT := C.1.1
  have hW := C.1.2.1
  unfold s1_spots
  intro pl' hpl
  rw [e4, e6, e1, e16, e15, e13, e7, e8, e14]
  refine p_spotsC (CS_mono hpl C) hbr (suR_mono hpl hsu) hln (spO_cong cps.2.2.2 spo) b0 b1 b2 b3 b4 b5 b6 b7 ?_ ?_
  · intro v hv
    rw [spotsO_cong cps.1 cps.2.2.2] at hv
    intros
    unfold s2_spots
    rw [r2, r3, d1, r1, d2, d3, d4, d5]
    refine p_spotsR hT hW hcl hbr spo hday hc0 b0 b1 b2 b3 b4 b5 b6 b7 ?_ ?_
    · intro v' hv' sd' sy' sn' shA' c'
      intros
      have ev : v = v' := Option.some.inj (hv.symm.trans hv')
      subst ev
      exact ⟨Or.inr ⟨rfl, rfl⟩, ⟨T, vf, ps, fo, td, pr, fr, tr, tz, tp, hC, ⟨⟨rfl, hcd⟩, hR.2⟩, ⟨sd', sy', sn', shA', c', ⟨rfl, rfl, rfl, rfl, rfl⟩, by assumption, by assumption⟩, hM⟩⟩
    · intro hv'
      exact absurd (hv.symm.trans hv') (by simp)
  · intro hv
    rw [spotsO_cong cps.1 cps.2.2.2] at hv
    intros
    unfold s2_spots
    rw [r2, r3, d1, r1, d2, d3, d4, d5]
    refine p_spotsR hT hW hcl hbr spo hday hc0 b0 b1 b2 b3 b4 b5 b6 b7 ?_ ?_
    · intro v' hv'
      exact absurd (hv.symm.trans hv') (by simp)
    · intro hv' sd' sy' sn' shA' c'
      intros
      exact ⟨Or.inl ⟨rfl, rfl⟩, ⟨T, vf, ps, fo, td, pr, fr, tr, tz, tp, hC, ⟨⟨rfl, hcd⟩, hR.2⟩, ⟨sd', sy', sn', shA', c', ⟨rfl, rfl, rfl, rfl, rfl⟩, by assumption, by assumption⟩, hM⟩⟩
theorem i_parade {A : Nat → Nat} {x : XS} {y : YS} {M : MK} {pl : Pool} (I : Inv A x y M pl) (a0 a1 a2 : Int32) : s1_parade pl x y a0 a1 a2 (fun x y => Inv A x y M pl) := by
  obtain ⟨k0, rfl, b0⟩ := zi_ex a0
  obtain ⟨k1, rfl, b1⟩ := zi_ex a1
  obtain ⟨k2, rfl, b2⟩ := zi_ex a2
  obtain ⟨T, vf, ps, fo, td, pr, fr, tr, tz, tp, hC, hR, hD, hM⟩ := I
  obtain ⟨sl, al, kd, hg, ex, nt, ln, pc, fc, tc, C, ⟨hbr, hsu, haw, hln, hal, hsl⟩, ⟨cps, cfo, ctd⟩, spo, ⟨vfo, vtd⟩, ⟨e1, e2, e3, e4, e5, e6⟩, ⟨e7, e8, e9, e10, e11, e12⟩, e13, e14, e15, e16, e17, e18⟩ := RC_open hC
  have hR' := hR
  have hD0 := hD
  obtain ⟨⟨r1, hcd⟩, ⟨r2, r3, r4, r5, r6, r7⟩, ⟨r8, r9, htz, htp, htk⟩, r10⟩ := hR'
  obtain ⟨sd, sy, sn, shA, c0, ⟨d1, d2, d3, d4, d5⟩, hday, hc0⟩ := hD
  have hcl := cdA_clR hcd
  have hT := C.1.1
  have hW := C.1.2.1
  unfold s1_parade
  rw [e9, e10]
  refine p_paradeC C cfo.1 (fun j a b => by rw [cfo.2.2.2 j a b]; exact vfo j a b) b0 b1 b2 ?_
  intros
  rw [paradeV_cong cfo.1 cfo.2.2.2]
  unfold s2_parade
  rw [r4, r1, r5, d1, d2, d3, d4]
  refine p_paradeR hT hcl hday cfo.1 vfo b0 b1 b2 ?_
  intro sd' sy' sn' shA'
  intros
  exact ⟨rfl, ⟨T, vf, ps, fo, td, pr, fr, tr, tz, tp, hC, hR, ⟨sd', sy', sn', shA', c0, ⟨rfl, rfl, rfl, rfl, d5⟩, by assumption, hc0⟩, hM⟩⟩
theorem i_start {A : Nat → Nat} {x : XS} {y : YS} {M : MK} {pl : Pool} (I : Inv A x y M pl) (a0 a1 a2 a3 : Int32) : s1_start pl x y a0 a1 a2 a3 (fun x y => Inv A x y M pl) := by
  obtain ⟨k0, rfl, b0⟩ := zi_ex a0
  obtain ⟨k1, rfl, b1⟩ := zi_ex a1
  obtain ⟨k2, rfl, b2⟩ := zi_ex a2
  obtain ⟨k3, rfl, b3⟩ := zi_ex a3
  obtain ⟨T, vf, ps, fo, td, pr, fr, tr, tz, tp, hC, hR, hD, hM⟩ := I
  obtain ⟨sl, al, kd, hg, ex, nt, ln, pc, fc, tc, C, ⟨hbr, hsu, haw, hln, hal, hsl⟩, ⟨cps, cfo, ctd⟩, spo, ⟨vfo, vtd⟩, ⟨e1, e2, e3, e4, e5, e6⟩, ⟨e7, e8, e9, e10, e11, e12⟩, e13, e14, e15, e16, e17, e18⟩ := RC_open hC
  have hR' := hR
  have hD0 := hD
  obtain ⟨⟨r1, hcd⟩, ⟨r2, r3, r4, r5, r6, r7⟩, ⟨r8, r9, htz, htp, htk⟩, r10⟩ := hR'
  obtain ⟨sd, sy, sn, shA, c0, ⟨d1, d2, d3, d4, d5⟩, hday, hc0⟩ := hD
  have hcl := cdA_clR hcd
  have hT := C.1.1
  have hW := C.1.2.1
  unfold s1_start
  rw [e9, e10]
  refine p_startC C cfo.1 (fun j a b => by rw [cfo.2.2.2 j a b]; exact vfo j a b) b0 b1 b2 b3 ?_
  intros
  rw [startV_cong cfo.1 cfo.2.2.2]
  unfold s2_start
  rw [r4, r1, r5, d1, d2, d3, d4]
  refine p_startR hT hcl hday cfo.1 vfo b0 b1 b2 b3 ?_
  intro sd' sy' sn' shA'
  intros
  exact ⟨rfl, ⟨T, vf, ps, fo, td, pr, fr, tr, tz, tp, hC, hR, ⟨sd', sy', sn', shA', c0, ⟨rfl, rfl, rfl, rfl, d5⟩, by assumption, hc0⟩, hM⟩⟩
theorem i_follow {A : Nat → Nat} {x : XS} {y : YS} {M : MK} {pl : Pool} (I : Inv A x y M pl) (a0 : Int32) : s1_follow pl x y a0 (fun x y => Inv A x y M pl) := by
  obtain ⟨k0, rfl, b0⟩ := zi_ex a0
  obtain ⟨T, vf, ps, fo, td, pr, fr, tr, tz, tp, hC, hR, hD, hM⟩ := I
  obtain ⟨sl, al, kd, hg, ex, nt, ln, pc, fc, tc, C, ⟨hbr, hsu, haw, hln, hal, hsl⟩, ⟨cps, cfo, ctd⟩, spo, ⟨vfo, vtd⟩, ⟨e1, e2, e3, e4, e5, e6⟩, ⟨e7, e8, e9, e10, e11, e12⟩, e13, e14, e15, e16, e17, e18⟩ := RC_open hC
  have hR' := hR
  have hD0 := hD
  obtain ⟨⟨r1, hcd⟩, ⟨r2, r3, r4, r5, r6, r7⟩, ⟨r8, r9, htz, htp, htk⟩, r10⟩ := hR'
  obtain ⟨sd, sy, sn, shA, c0, ⟨d1, d2, d3, d4, d5⟩, hday, hc0⟩ := hD
  have hcl := cdA_clR hcd
  have hT := C.1.1
  have hW := C.1.2.1
  obtain ⟨ex0, nt0, ln0, hB, hsk, hx0, heb, htp1, htp2⟩ := hC
  unfold s1_follow
  rw [e1, e13, e9, e10]
  refine p_followC C.1.2.2.1 C.2.2.2.1.2 C.2.2.2.1.1 cfo.1 (fun j a b => by rw [cfo.2.2.2 j a b]; exact vfo j a b) b0 (fun hp => ?_) (fun hp => ?_)
  · rw [folP_cong cfo.1 cfo.2.2.2] at hp
    rw [folV_cong cfo.1 cfo.2.2.2]
    unfold s2_follow
    rw [r1, r4, r5]
    refine p_followR hT.1 cfo.1 vfo b0 (fun _ => ⟨rfl, ?_⟩) (fun q => absurd hp q)
    have hq : fo < 30 := hp.2.1
    exact ⟨T, vf, ps, fo + 1, td, pr, upI fr fo k0, tr, tz, tp, ⟨ex0, nt0, ln0, twB_fol hB (chR_add cfo hq b0) (val_add vfo hp.1.1), hsk, hx0, heb, htp1, htp2⟩, ⟨hR.1, ⟨r2, r3, rfl, rfl, r6, r7⟩, hR.2.2⟩, hD0, hM⟩
  · rw [folP_cong cfo.1 cfo.2.2.2] at hp
    rw [folV_cong cfo.1 cfo.2.2.2]
    unfold s2_follow
    rw [r1, r4, r5]
    refine p_followR hT.1 cfo.1 vfo b0 (fun q => absurd q hp) (fun _ => ⟨rfl, ?_⟩)
    exact ⟨T, vf, ps, fo, td, pr, fr, tr, tz, tp, ⟨ex0, nt0, ln0, twB_fol hB cfo vfo, hsk, hx0, heb, htp1, htp2⟩, ⟨hR.1, ⟨r2, r3, rfl, rfl, r6, r7⟩, hR.2.2⟩, hD0, hM⟩
theorem i_tell {A : Nat → Nat} {x : XS} {y : YS} {M : MK} {pl : Pool} (I : Inv A x y M pl) (a0 : Int32) : s1_tell pl x y a0 (fun x y => Inv A x y M pl) := by
  obtain ⟨k0, rfl, b0⟩ := zi_ex a0
  obtain ⟨T, vf, ps, fo, td, pr, fr, tr, tz, tp, hC, hR, hD, hM⟩ := I
  obtain ⟨sl, al, kd, hg, ex, nt, ln, pc, fc, tc, C, ⟨hbr, hsu, haw, hln, hal, hsl⟩, ⟨cps, cfo, ctd⟩, spo, ⟨vfo, vtd⟩, ⟨e1, e2, e3, e4, e5, e6⟩, ⟨e7, e8, e9, e10, e11, e12⟩, e13, e14, e15, e16, e17, e18⟩ := RC_open hC
  have hR' := hR
  have hD0 := hD
  obtain ⟨⟨r1, hcd⟩, ⟨r2, r3, r4, r5, r6, r7⟩, ⟨r8, r9, htz, htp, htk⟩, r10⟩ := hR'
  obtain ⟨sd, sy, sn, shA, c0, ⟨d1, d2, d3, d4, d5⟩, hday, hc0⟩ := hD
  have hcl := cdA_clR hcd
  have hT := C.1.1
  have hW := C.1.2.1
  obtain ⟨ex0, nt0, ln0, hB, hsk, hx0, heb, htp1, htp2⟩ := hC
  unfold s1_tell
  rw [e11, e12]
  refine p_tellC ctd.1 b0 (fun hp => ?_) (fun hp => ?_)
  · unfold s2_tell
    rw [r6, r7]
    refine p_tellR ctd.1 b0 (fun _ => ⟨rfl, ?_⟩) (fun q => absurd hp q)
    exact ⟨T, vf, ps, fo, td + 1, pr, fr, upI tr td k0, tz, tp, ⟨ex0, nt0, ln0, twB_tel hB (chR_add ctd hp.2 b0) (val_le vtd hp.1), hsk, hx0, heb, htp1, htp2⟩, ⟨hR.1, ⟨r2, r3, r4, r5, rfl, rfl⟩, hR.2.2⟩, hD0, hM⟩
  · unfold s2_tell
    rw [r6, r7]
    refine p_tellR ctd.1 b0 (fun q => absurd q hp) (fun _ => ⟨rfl, ?_⟩)
    exact ⟨T, vf, ps, fo, td, pr, fr, tr, tz, tp, ⟨ex0, nt0, ln0, twB_tel hB ctd vtd, hsk, hx0, heb, htp1, htp2⟩, ⟨hR.1, ⟨r2, r3, r4, r5, rfl, rfl⟩, hR.2.2⟩, hD0, hM⟩
theorem i_spot {A : Nat → Nat} {x : XS} {y : YS} {M : MK} {pl : Pool} (I : Inv A x y M pl) (a0 : Int32) : s1_spot pl x y a0 (fun x y => Inv A x y M pl) := by
  obtain ⟨k0, rfl, b0⟩ := zi_ex a0
  obtain ⟨T, vf, ps, fo, td, pr, fr, tr, tz, tp, hC, hR, hD, hM⟩ := I
  obtain ⟨sl, al, kd, hg, ex, nt, ln, pc, fc, tc, C, ⟨hbr, hsu, haw, hln, hal, hsl⟩, ⟨cps, cfo, ctd⟩, spo, ⟨vfo, vtd⟩, ⟨e1, e2, e3, e4, e5, e6⟩, ⟨e7, e8, e9, e10, e11, e12⟩, e13, e14, e15, e16, e17, e18⟩ := RC_open hC
  have hR' := hR
  have hD0 := hD
  obtain ⟨⟨r1, hcd⟩, ⟨r2, r3, r4, r5, r6, r7⟩, ⟨r8, r9, htz, htp, htk⟩, r10⟩ := hR'
  obtain ⟨sd, sy, sn, shA, c0, ⟨d1, d2, d3, d4, d5⟩, hday, hc0⟩ := hD
  have hcl := cdA_clR hcd
  have hT := C.1.1
  have hW := C.1.2.1
  obtain ⟨ex0, nt0, ln0, hB, hsk, hx0, heb, htp1, htp2⟩ := hC
  unfold s1_spot
  rw [e1, e7, e8]
  refine p_spotC C.1.2.2.1 hT.1 cps.2.1 cps.1 b0 (fun hp => ?_) (fun hp => ?_)
  · rw [spotP_cong cps.2.2.2] at hp
    rw [spotV_cong cps.2.2.2]
    unfold s2_spot
    rw [r1, r2, r3]
    refine p_spotR hT.1 cps.2.2.1 cps.1 b0 (fun _ => ⟨rfl, ?_⟩) (fun q => absurd hp q)
    exact ⟨T, vf, ps + 1, fo, td, upI pr ps k0, fr, tr, tz, tp, ⟨ex0, nt0, ln0, twB_spt hB (chR_add cps hp.2.2.1 b0) (spO_add spo hp), hsk, hx0, heb, htp1, htp2⟩, ⟨hR.1, ⟨rfl, rfl, r4, r5, r6, r7⟩, hR.2.2⟩, hD0, hM⟩
  · rw [spotP_cong cps.2.2.2] at hp
    rw [spotV_cong cps.2.2.2]
    unfold s2_spot
    rw [r1, r2, r3]
    refine p_spotR hT.1 cps.2.2.1 cps.1 b0 (fun q => absurd q hp) (fun _ => ⟨rfl, ?_⟩)
    exact ⟨T, vf, ps, fo, td, pr, fr, tr, tz, tp, ⟨ex0, nt0, ln0, twB_spt hB cps spo, hsk, hx0, heb, htp1, htp2⟩, ⟨hR.1, ⟨rfl, rfl, r4, r5, r6, r7⟩, hR.2.2⟩, hD0, hM⟩
theorem i_clear {A : Nat → Nat} {x : XS} {y : YS} {M : MK} {pl : Pool} (I : Inv A x y M pl) : s1_clear pl x y (fun x y => Inv A x y M pl) := by
  obtain ⟨T, vf, ps, fo, td, pr, fr, tr, tz, tp, hC, hR, hD, hM⟩ := I
  obtain ⟨sl, al, kd, hg, ex, nt, ln, pc, fc, tc, C, ⟨hbr, hsu, haw, hln, hal, hsl⟩, ⟨cps, cfo, ctd⟩, spo, ⟨vfo, vtd⟩, ⟨e1, e2, e3, e4, e5, e6⟩, ⟨e7, e8, e9, e10, e11, e12⟩, e13, e14, e15, e16, e17, e18⟩ := RC_open hC
  have hR' := hR
  have hD0 := hD
  obtain ⟨⟨r1, hcd⟩, ⟨r2, r3, r4, r5, r6, r7⟩, ⟨r8, r9, htz, htp, htk⟩, r10⟩ := hR'
  obtain ⟨sd, sy, sn, shA, c0, ⟨d1, d2, d3, d4, d5⟩, hday, hc0⟩ := hD
  have hcl := cdA_clR hcd
  have hT := C.1.1
  have hW := C.1.2.1
  obtain ⟨ex0, nt0, ln0, hB, hsk, hx0, heb, htp1, htp2⟩ := hC
  unfold s1_clear
  refine p_clearC ?_
  unfold s2_clear
  refine p_clearR ⟨rfl, ?_⟩
  exact ⟨T, vf, ps, 0, 0, pr, fr, tr, tz, tp, ⟨ex0, nt0, ln0, twB_clr hB, hsk, hx0, heb, htp1, htp2⟩, ⟨hR.1, ⟨r2, r3, rfl, r5, rfl, r7⟩, hR.2.2⟩, hD0, hM⟩
theorem i_feed {A : Nat → Nat} {x : XS} {y : YS} {M : MK} {pl : Pool} (I : Inv A x y M pl) (a0 a1 a2 : Int64) : s1_feed pl x y a0 a1 a2 (fun x y => Inv A x y M pl) := by
  obtain ⟨T, vf, ps, fo, td, pr, fr, tr, tz, tp, hC, hR, hD, hM⟩ := I
  obtain ⟨sl, al, kd, hg, ex, nt, ln, pc, fc, tc, C, ⟨hbr, hsu, haw, hln, hal, hsl⟩, ⟨cps, cfo, ctd⟩, spo, ⟨vfo, vtd⟩, ⟨e1, e2, e3, e4, e5, e6⟩, ⟨e7, e8, e9, e10, e11, e12⟩, e13, e14, e15, e16, e17, e18⟩ := RC_open hC
  have hR' := hR
  have hD0 := hD
  obtain ⟨⟨r1, hcd⟩, ⟨r2, r3, r4, r5, r6, r7⟩, ⟨r8, r9, htz, htp, htk⟩, r10⟩ := hR'
  obtain ⟨sd, sy, sn, shA, c0, ⟨d1, d2, d3, d4, d5⟩, hday, hc0⟩ := hD
  have hcl := cdA_clR hcd
  have hT := C.1.1
  have hW := C.1.2.1
  obtain ⟨ex0, nt0, ln0, hB, hsk, hx0, heb, htp1, htp2⟩ := hC
  unfold s1_feed
  rw [e17, e18]
  refine p_feedC htz ?_
  unfold s2_feed
  rw [r8, r9]
  refine p_feedR htz ⟨rfl, ?_⟩
  have fk := fed_ok (a := a0) (b := a1) (c := a2) htz htp htk
  exact ⟨T, vf, ps, fo, td, pr, fr, tr, (fedT a0 a1 a2 tz tp).1, (fedT a0 a1 a2 tz tp).2, ⟨ex0, nt0, ln0, hB, hsk, hx0, heb, rfl, rfl, htp2.2⟩, ⟨hR.1, hR.2.1, ⟨rfl, rfl, fk.1, fk.2.1, fk.2.2⟩, r10⟩, hD0, hM⟩
theorem i_pull {A : Nat → Nat} {x : XS} {y : YS} {M : MK} {pl : Pool} (I : Inv A x y M pl) (a0 : Int32) : s1_pull pl x y a0 (fun x y => Inv A x y M pl) := by
  obtain ⟨k0, rfl, b0⟩ := zi_ex a0
  obtain ⟨T, vf, ps, fo, td, pr, fr, tr, tz, tp, hC, hR, hD, hM⟩ := I
  obtain ⟨sl, al, kd, hg, ex, nt, ln, pc, fc, tc, C, ⟨hbr, hsu, haw, hln, hal, hsl⟩, ⟨cps, cfo, ctd⟩, spo, ⟨vfo, vtd⟩, ⟨e1, e2, e3, e4, e5, e6⟩, ⟨e7, e8, e9, e10, e11, e12⟩, e13, e14, e15, e16, e17, e18⟩ := RC_open hC
  have hR' := hR
  have hD0 := hD
  obtain ⟨⟨r1, hcd⟩, ⟨r2, r3, r4, r5, r6, r7⟩, ⟨r8, r9, htz, htp, htk⟩, r10⟩ := hR'
  obtain ⟨sd, sy, sn, shA, c0, ⟨d1, d2, d3, d4, d5⟩, hday, hc0⟩ := hD
  have hcl := cdA_clR hcd
  have hT := C.1.1
  have hW := C.1.2.1
  obtain ⟨ex0, nt0, ln0, hB, hsk, hx0, heb, htp1, htp2⟩ := hC
  unfold s1_pull
  intro pl' hpl
  rw [e6, e1, e2]
  refine p_pullC hT C.1.2.2.1 (suR_mono hpl hsu) haw b0 (fun hp rw' gw' nt' ln' cw' sw' hk => ?_) (fun hp => ?_)
  · unfold s2_pull
    rw [r1]
    refine p_pullR hT b0 (fun _ => ⟨rfl, ?_⟩) (fun q => absurd hp q)
    exact ⟨putT T k0 0 0, vf, ps, fo, td, pr, fr, tr, tz, tp, ⟨ex0, nt', ln', twB_pull hB hp.1 hp.2 C.1.2.2.1 e1 e2, ⟨rfl, rfl, hk⟩, hx0, heb, htp1, htp2⟩, ⟨⟨rfl, cdA_seg hcd (fun _ _ => ⟨rfl, rfl⟩) (fun j a b => putT_ag hp.1 j a) hT.2.2.2.2.1.2⟩, hR.2⟩, ⟨-1, sy, sn, shA, c0, ⟨rfl, d2, d3, d4, d5⟩, ⟨by omega, hday.2.1, hday.2.2.1, hday.2.2.2.1, fun q => absurd q (by decide)⟩, hc0⟩, RM_put hp.1 hM⟩
  · unfold s2_pull
    rw [r1]
    refine p_pullR hT b0 (fun q => absurd q hp) (fun _ => ⟨rfl, ?_⟩)
    exact ⟨T, vf, ps, fo, td, pr, fr, tr, tz, tp, ⟨ex0, nt0, ln0, twB_same hB e1 e2, hsk, hx0, heb, htp1, htp2⟩, ⟨⟨rfl, hcd⟩, hR.2⟩, hD0, hM⟩
theorem i_keeps {A : Nat → Nat} {x : XS} {y : YS} {M : MK} {pl : Pool} (I : Inv A x y M pl) (a0 a1 a2 a3 a4 a5 : Int32) : s1_keeps pl x y a0 a1 a2 a3 a4 a5 (fun x y => Inv A x y M pl) := by
  obtain ⟨k0, rfl, b0⟩ := zi_ex a0
  obtain ⟨k1, rfl, b1⟩ := zi_ex a1
  obtain ⟨k2, rfl, b2⟩ := zi_ex a2
  obtain ⟨k3, rfl, b3⟩ := zi_ex a3
  obtain ⟨k4, rfl, b4⟩ := zi_ex a4
  obtain ⟨k5, rfl, b5⟩ := zi_ex a5
  obtain ⟨T, vf, ps, fo, td, pr, fr, tr, tz, tp, hC, hR, hD, hM⟩ := I
  obtain ⟨sl, al, kd, hg, ex, nt, ln, pc, fc, tc, C, ⟨hbr, hsu, haw, hln, hal, hsl⟩, ⟨cps, cfo, ctd⟩, spo, ⟨vfo, vtd⟩, ⟨e1, e2, e3, e4, e5, e6⟩, ⟨e7, e8, e9, e10, e11, e12⟩, e13, e14, e15, e16, e17, e18⟩ := RC_open hC
  have hR' := hR
  have hD0 := hD
  obtain ⟨⟨r1, hcd⟩, ⟨r2, r3, r4, r5, r6, r7⟩, ⟨r8, r9, htz, htp, htk⟩, r10⟩ := hR'
  obtain ⟨sd, sy, sn, shA, c0, ⟨d1, d2, d3, d4, d5⟩, hday, hc0⟩ := hD
  have hcl := cdA_clR hcd
  have hT := C.1.1
  have hW := C.1.2.1
  obtain ⟨ex0, nt0, ln0, hB, hsk, hx0, heb, htp1, htp2⟩ := hC
  unfold s1_keeps
  intro pl' hpl
  rw [e4, e6, e16, e15, e1, e13, e2]
  refine p_keepsC (CS_mono hpl C) (suR_mono hpl hsu) haw b0 b1 b2 b3 b4 b5 (fun v hv rw' gw' cw' sh' nt' ln' hk => ?_) (fun hv => ?_)
  · intros
    unfold s2_keeps
    rw [r1, d1, d2, d3, d4, d5]
    refine p_keepsR hT hW hcl hday hc0 b0 b1 b2 b3 b4 b5 ?_ ?_
    · intro v' hv' sd' sy' sn' shA' c'
      intros
      have ev : v = v' := Option.some.inj (hv.symm.trans hv')
      subst ev
      exact ⟨Or.inr ⟨rfl, rfl⟩, ⟨T, vf, ps, fo, td, pr, fr, tr, tz, tp, ⟨ex0, nt', ln', twB_same hB e1 e2, ⟨rfl, rfl, hk⟩, hx0, heb, htp1, htp2⟩, ⟨⟨rfl, hcd⟩, hR.2⟩, ⟨sd', sy', sn', shA', c', ⟨rfl, rfl, rfl, rfl, rfl⟩, by assumption, by assumption⟩, hM⟩⟩
    · intro hv'
      exact absurd (hv.symm.trans hv') (by simp)
  · intros
    unfold s2_keeps
    rw [r1, d1, d2, d3, d4, d5]
    refine p_keepsR hT hW hcl hday hc0 b0 b1 b2 b3 b4 b5 ?_ ?_
    · intro v' hv'
      exact absurd (hv.symm.trans hv') (by simp)
    · intro hv' sd' sy' sn' shA' c'
      intros
      exact ⟨Or.inl ⟨rfl, rfl⟩, ⟨T, vf, ps, fo, td, pr, fr, tr, tz, tp, ⟨ex0, nt0, ln0, twB_same hB e1 e2, ⟨e13.symm.trans hsk.1, hsk.2.1, hsk.2.2⟩, hx0, heb, htp1, htp2⟩, ⟨⟨rfl, hcd⟩, hR.2⟩, ⟨sd', sy', sn', shA', c', ⟨rfl, rfl, rfl, rfl, rfl⟩, by assumption, by assumption⟩, hM⟩⟩
