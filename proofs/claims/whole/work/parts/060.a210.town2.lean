/-! town(): the relation is kept -/
section TI
variable {pl pl' : Pool} {T T' : Int → Int} {op arg op' arg' : Nat → Int32}
theorem sgT_scr (h : scr T T') {k : Nat} : sgT T' (2 + (k : Int)) = sgT T (2 + (k : Int)) := by
  funext j
  rw [sgT, sgT]
  by_cases q : 0 ≤ j ∧ j < 440
  · rw [if_pos q, if_pos q, h.2 _ (by omega)]
  · rw [if_neg q, if_neg q]
theorem sgO_fr (h : frO op arg op' arg') {k : Nat} : sgO op' (2 + k) = sgO op (2 + k) ∧ sgO arg' (2 + k) = sgO arg (2 + k) := by
  constructor
  · funext j
    rw [sgO, sgO, (h _ (by omega)).1]
  · funext j
    rw [sgO, sgO, (h _ (by omega)).2]
theorem RM_scr (hp : ∀ z ∈ pl, z ∈ pl') (hs : scr T T') (hf : frO op arg op' arg') {x x' : XS} {M : MK} {y y' : YS} (h : RM T pl x M y) (ex : XS.t_marks x' = XS.t_marks x) (e1 : YS.t_isMarked y' = YS.t_isMarked y) (e2 : YS.t_markOf y' = YS.t_markOf y) (e3 : YS.t_op y = op) (e4 : YS.t_arg y = arg) (e5 : YS.t_op y' = op') (e6 : YS.t_arg y' = arg') : RM T' pl' x' M y' := by
  obtain ⟨h1, im, mo, m1, m2, i1, i2, hm⟩ := h
  refine ⟨fun k hk => by rw [ex]; exact h1 k hk, im, mo, by rw [e1]; exact m1, by rw [e2]; exact m2, i1, i2, fun k hk => ⟨(hm k hk).1, fun p hp' => ?_⟩⟩
  obtain ⟨a, vf, b, c⟩ := (hm k hk).2 p hp'
  refine ⟨a, vf, ?_, ?_⟩
  · rw [sgT_scr hs]; exact twB_mono hp b
  · rw [sgT_scr hs, e5, e6, (sgO_fr hf).1, (sgO_fr hf).2, ← e3, ← e4]; exact c
theorem RM_ca (hp : ∀ z ∈ pl, z ∈ pl') {x x' : XS} {M : MK} {y y' : YS} (h : RM T pl x M y) (ex : XS.t_marks x' = XS.t_marks x) (e1 : YS.t_isMarked y' = YS.t_isMarked y) (e2 : YS.t_markOf y' = YS.t_markOf y) (e5 : YS.t_op y' = caO (YS.t_op y) 1 0) (e6 : YS.t_arg y' = caO (YS.t_arg y) 1 0) : RM (caT T 1 0) pl' x' M y' := by
  obtain ⟨h1, im, mo, m1, m2, i1, i2, hm⟩ := h
  refine ⟨fun k hk => by rw [ex]; exact h1 k hk, im, mo, by rw [e1]; exact m1, by rw [e2]; exact m2, i1, i2, fun k hk => ⟨(hm k hk).1, fun p hp' => ?_⟩⟩
  obtain ⟨a, b⟩ := (hm k hk).2 p hp'
  have c := mkTB_ca (a := 1) (b := 0) b (by omega) i2 (fun _ _ _ => rfl)
  refine ⟨a, ?_⟩
  rw [e5, e6]
  obtain ⟨vf, c1, c2⟩ := c
  exact ⟨vf, twB_mono hp c1, c2⟩
theorem cdA_B {S : Int → Int} {vf : Int → Int → Int → Int32} {e : Nat} (h : cdB op' arg' S vf e) (he : e ≤ 1100) (hS : ∀ j, 0 ≤ j → j < 440 → S j = T' (440 + j)) (hn : S 200 ≤ 20) : cdA (caO op' 1 0) (caO arg' 1 0) (caT T' 1 0) vf := by
  have ej : ∀ j, 0 ≤ j → j < 440 → caT T' 1 0 j = S j := fun j j0 j1 => by rw [caT, if_pos (by omega), hS j j0 j1]; congr 1; omega
  intro i i0 i1
  rw [ej 200 (by omega) (by omega)] at i1
  rw [ej _ (by omega) (by omega)]
  intro o a hk
  refine h i i0 i1 o a (fun k hk2 => ?_)
  have x := hk k (by omega)
  have z1 := sgO_in (op := op') (a := 1) (b := 0) (k := k) (by omega)
  have z2 := sgO_in (op := arg') (a := 1) (b := 0) (k := k) (by omega)
  rw [sgO, sgO, Nat.mul_zero, Nat.zero_add, Nat.mul_one] at z1 z2
  exact ⟨x.1.trans z1, x.2.trans z2⟩
set_option maxHeartbeats 2000000 in
theorem i_town {A : Nat → Nat} {x : XS} {y : YS} {M : MK} {pl : Pool} (I : Inv A x y M pl) : s1_town A x y pl (fun A1 x y pl1 => Inv A1 x y M pl1) := by
  obtain ⟨T, vf, ps, fo, td, pr, fr, tr, tz, tp, hC, hR, hD, hM⟩ := I
  obtain ⟨⟨r1, hcd⟩, ⟨r2, r3, r4, r5, r6, r7⟩, ⟨r8, r9, htz, htp, htk⟩, r10⟩ := hR
  obtain ⟨sd, sy, sn, shA, c0, ⟨d1, d2, d3, d4, d5⟩, hday, hc0⟩ := hD
  obtain ⟨ex0, nt0, ln0, hB, hsk, hx0, heb, htp1, htp2, hsv⟩ := hC
  obtain ⟨sl, al, kd, hg, pc, fc, tc, e1, e2, tcr, ⟨cps, cfo, ctd⟩, spo, vfo, vtd⟩ := hB
  have hT := tcr.1.1
  have tok0 : tokB tp 0 := fun k a b => by omega
  unfold s1_town wpTown
  rw [htp1, htp2]
  obtain ⟨sk0, esk, isk⟩ := zA_ex (XS.t_spare_kinds x)
  obtain ⟨sh0, esh, ish⟩ := zA_ex (XS.t_spare_heights x)
  obtain ⟨f0, ef0, _⟩ := zA_ex (XS.t_reader_tokens_items x)
  obtain ⟨g0, eg0, _⟩ := zA_ex (XS.t_reader_values_items x)
  obtain ⟨h0, eh0, _⟩ := zA_ex (XS.t_reader_places_items x)
  obtain ⟨pc2, epc2, ipc2⟩ := zA_ex (XS.t_spare_places_items x)
  obtain ⟨fc2, efc2, ifc2⟩ := zA_ex (XS.t_spare_procession_items x)
  obtain ⟨tc2, etc2, itc2⟩ := zA_ex (XS.t_spare_told_items x)
  rw [esk, esh, ef0, eg0, eh0, wp_X4_read]
  refine p_emptyC isk ish (fun kd' hg' aw' sw' ww' wks' h0c => ?_)
  refine p_scanC htz htp htk (fun N f g h hN1 hN hl hf => ?_)
  refine p_advC (i := 0) hf hN1 (Nat.zero_le _) ?_
  obtain ⟨n, k, j, S', vf', e', hn, ko, hE', hrC, hrR⟩ := run_both htz htk hN hN1 hl N 0 (by omega) (Nat.zero_le _) S0z vf0 0 (Nat.le_refl _) tcE_0
  refine ⟨n, by omega, ?_⟩
  refine hrC f g h hf pl 0 0 kd' hg' wks' (XS.t_spare_suns x) aw' sw' ww' (h0c pl _ hsv) _ _ _ _ _ _ _ 0 0 0 _ _ _ 0 (by omega) _ _ _ _ (fun k1 => ?_) (fun k0 => ?_)
  · intro a b c d e e2' e3 s1 s2 s3 s4 kd2 hg2 w1 w2 w3 o2 x1 x2 x3 x4 y1 y2 y3 o1 p' hp hv
    have kk : k = 1 ∨ k = 3 ∨ k = 4 ∨ k = 5 := by
      rcases ko with y | y
      · exact absurd y k1
      · exact y
    unfold wpT1 wpT2
    rw [wp_X0_empty]
    refine ⟨fun _ => ⟨rfl, ?_⟩, fun z => absurd z (flt_ne htz kk j)⟩
    unfold s2_town
    rw [r1, r8, r9, r10]
    refine p_townR htz htp htk hN hl ko hrR hT.1 (fun _ a c pc3 so3 va3 T' op' arg' sc fr => ⟨rfl, ?_⟩) (fun z => absurd z k1)
    have aS : agS T T' := ⟨sc.1, fun q q0 q1 => sc.2 q (by omega)⟩
    refine ⟨T', vf, ps, fo, td, pr, _, tr, 0, tp, ⟨ex0, nt0, ln0, twB_S (twB_mono hp ?_) aS, ⟨hsk.1, hsk.2.1, skR_S hsk.2.2 hT aS⟩, hx0, heb, rfl, htp2, hv⟩, ⟨⟨rfl, ?_⟩, ⟨r2, r3, r4, r5, r6, r7⟩, ⟨rfl, r9, by omega, htp, tok0⟩, r10⟩, ⟨sd, sy, sn, shA, c0, ⟨d1, d2, d3, d4, d5⟩, dayI_S hday hT aS, hc0⟩, RM_scr hp sc fr hM rfl rfl rfl rfl rfl rfl rfl⟩
    · exact ⟨sl, al, kd, hg, pc, fc, tc, e1, e2, tcr, ⟨cps, cfo, ctd⟩, spo, vfo, vtd⟩
    · exact cdA_seg hcd (fun q hq => fr q (Or.inl hq)) (fun q q0 q1 => sc.2 q (by omega)) hT.2.2.2.2.1.2
  · intro a b c d e e2' e3 sl' al' kd2 hg2 aw2 sw2 ww2 wks2 x1 x2 x3 x4 y1 y2 y3 suns2 p' hp tcr'
    obtain ⟨tE, he'⟩ := hE' k0
    unfold wpT1 wpT2
    rw [wp_X0_empty]
    refine ⟨fun z => absurd rfl z, fun _ => ?_⟩
    unfold wpT3
    intro pl2 hpl2
    refine p_build (tw := S') (pl := pl2) (vf := vf') (kd := kd2) (hg := hg2) (suns := suns2) (aw := aw2) tcr'.1.1 tcr'.2.1.1 (suR_mono hpl2 tcr'.2.1.2.2.1) tcr'.2.2.1.1 (fun rw' gw' nt' ln' cw' shw' hk => ⟨rfl, ?_⟩)
    unfold s2_town
    rw [r1, r8, r9, r10]
    refine p_townR htz htp htk hN hl ko hrR hT.1 (fun z => absurd k0 z) (fun _ a c pc3 so3 va3 T2 op2 arg2 sc fr lr => ⟨rfl, ?_⟩)
    have aS : agS S' (caT T2 1 0) := ⟨caT_i sc.1 _ _, fun q q0 q1 => by rw [caT, if_pos (by omega), lr.2.1 q q0 q1]; congr 1; omega⟩
    have hM2 : RM T2 p' x M (y.1, u1 (u1 y.2.1 4 op2) 5 arg2, y.2.2) := RM_scr hp sc fr hM rfl rfl rfl rfl rfl rfl rfl
    refine ⟨caT T2 1 0, vf', 0, 0, 0, pr, _, tr, 0, tp, ⟨ex0, nt', ln', twB_S (T := S') ?_ aS, ⟨rfl, rfl, skR_S hk tcr'.1.1 aS⟩, hx0, heb, rfl, htp2, suV_mono hp tcr.2.1.2.2.2⟩, ⟨⟨rfl, cdA_B lr.2.2 (by omega) lr.2.1 tcr'.1.1.2.2.2.2.1.2⟩, ⟨rfl, r3, rfl, r5, rfl, r7⟩, ⟨rfl, r9, by omega, htp, tok0⟩, r10⟩, ⟨-1, sy, sn, shA, c0, ⟨rfl, d2, d3, d4, d5⟩, ⟨by omega, hday.2.1, hday.2.2.1, hday.2.2.2.1, fun q => absurd q (by decide)⟩, hc0⟩, RM_ca (fun _ z => z) hM2 rfl rfl rfl rfl rfl⟩
    exact ⟨sl', al', kd2, hg2, pc2, fc2, tc2, ⟨rfl, rfl, rfl, rfl, rfl, rfl⟩, ⟨rfl, epc2, rfl, efc2, rfl, etc2⟩, tcr', ⟨⟨by omega, ipc2, cps.2.2.1, fun j a b => by omega⟩, ⟨by omega, ifc2, cfo.2.2.1, fun j a b => by omega⟩, ⟨by omega, itc2, ctd.2.2.1, fun j a b => by omega⟩⟩, ⟨by omega, fun i a b => by omega⟩, fun j a b => by omega, fun j a b => by omega⟩
end TI
