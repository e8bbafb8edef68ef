/-! a line of an awning or a shut, both sides; any line -/
section LE
variable {tp : Int → Int} {tz : Int} {N : Nat}
theorem RS_nil {W : WE} {i : Nat} {k : Int} {j : Nat} {C : List Int} (h : RS tp tz W i k j C) (nk : k ≠ 0) : RS tp tz W i k j [] := fun e op arg post he _ g1 => h e op arg post he (fun z => absurd z nk) g1
/-- an E, its codes kept only where it is one -/
theorem E_keep {so va pc : Int → Int} (hz : 0 ≤ tz ∧ tz ≤ 1000) (hN : pos tp tz N = tz) (hN1 : N ≤ 1000) (hf : flR tp tz (N + 1) so va pc) (i : Nat) : ∃ (k : Int) (j : Nat) (C : List Int) (v : Int → Int → Int32), (i ≤ N → i ≤ j ∧ j ≤ N) ∧ (k = 0 ∨ k = 1 ∨ k = 5) ∧ C.length ≤ j - i ∧ C.length ≤ 1000 ∧ (k = 0 → ∀ d m : Int, rnO (zi d) (zi m) C [] = some [v d m]) ∧ (i ≤ N → yEnd tp tz i k j C) ∧ (i ≤ N → RS tp tz (ofT (wp_X12_all (wp_X12_takePart 6)) so va pc 0) i k j C) := by
  by_cases le : i ≤ N
  · obtain ⟨k, j, C, hj, hk, h0, hY, hR⟩ := E_both hz hN hN1 hf le
    by_cases q : k = 0
    · obtain ⟨h1, ⟨w, hw⟩, h3⟩ := h0 q
      exact ⟨k, j, C, fun d m => w (zi d) (zi m), fun _ => hj, hk, h3, by omega, fun _ d m => hw _ _ [] (by simp), fun _ => hY, fun _ => hR⟩
    · exact ⟨k, j, [], fun _ _ => 0, fun _ => hj, hk, Nat.zero_le _, Nat.zero_le _, fun z => absurd z q, fun _ Q q1 q2 q3 => hY Q q1 (fun z => absurd z q) q3, fun _ => RS_nil hR q⟩
  · exact ⟨1, 0, [], fun _ _ => 0, fun z => absurd z le, Or.inr (Or.inl rfl), Nat.zero_le _, Nat.zero_le _, fun z => absurd z (by decide), fun z => absurd z le, fun z => absurd z le⟩
theorem cnt_34 {S : Int → Int} : ∀ n : Nat, (∀ i, 0 ≤ i → i < (n : Int) → (0 ≤ S (201 + 3 * i) ∧ S (201 + 3 * i) < 100) ∧ (S (202 + 3 * i) = 3 ∨ S (202 + 3 * i) = 4)) → cntC (fun i => S (202 + 3 * i) = 3) n + cntC (fun i => S (202 + 3 * i) = 4) n = (n : Int)
  | 0, _ => by simp [cntC]
  | n + 1, h => by
    have ih := cnt_34 n (fun i a b => h i a (by omega))
    have hn := (h n (by omega) (by omega)).2
    rw [cntC, cntC]
    rcases hn with q | q
    · rw [if_pos (show (fun i : Int => S (202 + 3 * i) = 3) n from q), if_neg (show ¬ (fun i : Int => S (202 + 3 * i) = 4) n from fun z => by rw [show S (202 + 3 * (n : Int)) = 4 from z] at q; omega)]
      omega
    · rw [if_neg (show ¬ (fun i : Int => S (202 + 3 * i) = 3) n from fun z => by rw [show S (202 + 3 * (n : Int)) = 3 from z] at q; omega), if_pos (show (fun i : Int => S (202 + 3 * i) = 4) n from q)]
      omega
theorem frO_F {op arg op' arg' : Nat → Int32} {e e' : Nat} (h : emF op arg op' arg' e e') (he : e' ≤ 1100) : frO op arg op' arg' := fun q hq => h q (by omega)
theorem frO_R {op arg op' arg' : Nat → Int32} {e : Nat} {C : List Int} (h : emR op arg op' arg' e C) (he : e + C.length < 1100) : frO op arg (upd op' (1100 + (e + C.length)) 0) (upd arg' (1100 + (e + C.length)) 0) := fun q hq => by
  have x := h.1 q (by omega)
  rw [pk_un (by omega), pk_un (by omega)]
  exact x
theorem ln_cl3 (hz : 0 ≤ tz ∧ tz ≤ 1000) (hb : tokB tp tz) (hN : pos tp tz N = tz) (hN1 : N ≤ 1000) {i : Nat} (hi : i < N) {S : Int → Int} {vf : Int → Int → Int → Int32} {e : Nat} (he : e ≤ i) (hE : tcE S vf) (et : tK tp tz i = 3) : lnB tp tz N i S vf e := by
  obtain ⟨so0, va0, pc0, hf0⟩ := flR_ex (N := N) hz.1 hb
  obtain ⟨k, j, C, v, hj, hk, hl, hl2, hv, hY, hR0⟩ := E_keep hz hN hN1 hf0 (i + 1 + 1 + 1 + 1)
  have ko := kok0_cl (tp := tp) (tz := tz) (S := S) (i := i) (j := j) hk
  have t0 := clK_0 (tp := tp) (tz := tz) hN (S := S) (k := k) (j := j) hi hj
  obtain ⟨pl0, sl0, al0, kd0, hg0, wks0, suns0, aw0, sw0, ww0, H0⟩ := hE
  have h20 := H0.1.1.2.2.2.2.1
  refine ⟨(clK tp tz S i k j).1, (clK tp tz S i k j).2, clS S (sqA tp tz (i + 1)) 3 e, upI vf (S 200) v, e + C.length + 1, ko, fun k0 => ?_, ?_, ?_⟩
  · obtain ⟨q, sr, i4, z, e2, jN, j39⟩ := t0 k0
    have jr := hj i4
    have lr := hl
    exact ⟨⟨by omega, by omega⟩, by omega, _, _, _, _, _, _, _, _, _, _, tc_cl (v := v) H0 (by omega) sr (by omega) (by omega)⟩
  · intro f g h hc pl sl al kd hg wks suns aw sw ww H num np site x1 x2 x3 x4 y1 y2 y3 post hF hG
    rw [wp_X4_readLine]
    have ez : ∀ n : Int, (0 ≤ n ∧ n < 1000) → n ≠ 3 → ¬ zi (tK tp tz i) = zi n := fun n hn hn5 => tk_ne (by omega) (by omega)
    obtain ⟨f1, rfl, j1⟩ := zA_ex y1
    obtain ⟨f2, rfl, j2⟩ := zA_ex y2
    have ca := cntC_rng (P := fun i => S (202 + 3 * i) = 3) (S 200).toNat
    have cs := cntC_rng (P := fun i => S (202 + 3 * i) = 4) (S 200).toNat
    have cc : cntC (fun i => S (202 + 3 * i) = 3) (S 200).toNat + cntC (fun i => S (202 + 3 * i) = 4) (S 200).toNat = ((S 200).toNat : Int) := cnt_34 _ (fun i i0 i1 => H.1.1.2.2.2.2.2 i i0 (by omega))
    have ea := H.2.2.2.1
    have es := H.2.2.2.2
    refine ⟨fun z => absurd z (ez 0 (by omega) (by omega)), fun z => absurd z (ez 1 (by omega) (by omega)), fun z => absurd z (ez 2 (by omega) (by omega)), fun z => ?_, fun z => absurd z (ez 4 (by omega) (by omega)), fun z => absurd z (ez 5 (by omega) (by omega)), fun z => absurd z (ez 6 (by omega) (by omega)), fun z => absurd z (ez 7 (by omega) (by omega)), fun z0 z1 z2 z3 z4 z5 z6 z7 => absurd (by rw [et]; rfl) z3⟩
    refine p_clothC (what := 3) (v := v) hz hc hN hN1 hi (by omega) (by omega) hk hj hv hl2 hY (fun k1 a0 a1 a2 a3 a4 a5 a6 a7 a8 a9 a10 a11 a12 a13 a14 a15 a16 a17 => ⟨Or.inl rfl, hF k1 _ _ _ _ _ _ _ _ _ _ _ _ _ _ _ _ _ _ _ _ _ _ _ _ _ pl (fun _ z => z) H.2.1.2.2.2⟩) (fun k0 z sr q i4 jr e1 e2 e3 h1 h2 h3 h4 h5 h6 h7 => ⟨Or.inr rfl, ?_⟩)
    have r := hG k0 e1 e2 e3 _ _ kd hg h1 h2 h3 h4 h5 h6 h7 _ _ ww suns wks pl (fun _ z => z) (tc_cl (v := v) (e := e) (what := 3) H q sr (by omega) (by omega))
    rw [show clS S (sqA tp tz (i + 1)) 3 e 424 = S 424 by rw [clS, upI_n (by omega), upI_n (by omega), upI_n (by omega), upI_n (by omega)], show clS S (sqA tp tz (i + 1)) 3 e 261 = S 261 by rw [clS, upI_n (by omega), upI_n (by omega), upI_n (by omega), upI_n (by omega)]] at r
    exact r
  · intro so va pc hf
    obtain ⟨k2, j2, C2, v2, hj2, hk2, hl2', hl22, hv2, hY2, hR⟩ := E_keep hz hN hN1 hf (i + 1 + 1 + 1 + 1)
    have t2 := clK_0 (tp := tp) (tz := tz) hN (S := S) (k := k2) (j := j2) hi hj2
    have main : lnR tp tz so va pc i S vf e (clK tp tz S i k2 j2).1 (clK tp tz S i k2 j2).2 (clS S (sqA tp tz (i + 1)) 3 e) (upI vf (S 200) v2) (e + C2.length + 1) := by
      rintro T op arg ⟨hT, hS, hcd⟩ post hF hG
      refine p_lineR hz hf hN1 (by omega) (fun w hw ew => absurd ew (by omega)) (fun w hw ew => ?_) (fun ew => absurd ew (by omega)) (fun ew => absurd ew (by omega)) (fun ew => absurd ew (by omega)) (fun ew => absurd ew (by omega))
      obtain rfl : w = 3 := by omega
      refine p_clothR (what := 3) (k := k2) (j := j2) (C := C2) (e := e) (post := post) hz hf hN hN1 hi hT hS (by omega) (by omega) hk2 hj2 (fun _ => hl2') hR he (fun k1 a e' T' op' arg' le1 le2 sc em => hF k1 _ _ _ _ _ sc (frO_F em (by omega))) (fun k0 z op' arg' em => ?_)
      obtain ⟨q, sr, i4, _, e2, jN, j39⟩ := t2 k0
      have jr := hj2 i4
      have lr := hl2'
      have sc : scr T (clT T (S 200) (sqA tp tz (i + 1)) 3 e) := scr_up (scr_up (scr_up (scr_up (scr_0 hT) (by omega) (by omega)) (by omega) (by omega)) (by omega) (by omega)) (by omega) (by omega)
      refine hG k0 _ _ _ sc (frO_R em (by omega)) ⟨sc.1, ?_, cdB_put hcd (by omega) em (by omega) (hv2 z)⟩
      exact sh_up (sh_up (sh_up (sh_up hS (by omega)) (by omega)) (by omega)) (by omega)
    by_cases i4 : i + 1 + 1 + 1 + 1 ≤ N
    rotate_left
    · have n0 : (clK tp tz S i k j).1 ≠ 0 := fun z => i4 (t0 z).2.2.1
      have e12 : clK tp tz S i k2 j2 = clK tp tz S i k j := clK_far hz.1 hN i4 _ _ _ _
      rw [e12] at main
      exact lnR_irr n0 main
    rcases E_same (hY i4) (hY2 i4) with ⟨y1, y2, y3, y4⟩ | ⟨kq, jq, nq, y1, y2⟩
    · subst y1 y2 y3 y4
      have ev : v2 = v := by
        funext d m
        have a := hv rfl d m
        have b := hv2 rfl d m
        rw [a] at b
        exact (List.cons.inj (Option.some.inj b)).1.symm
      rw [ev] at main
      exact main
    · have e12 : clK tp tz S i k2 j2 = clK tp tz S i k j := by rw [clK, clK, y1, y2]
      rw [e12] at main
      have n0 : (clK tp tz S i k j).1 ≠ 0 := fun z => by
        have h0 := t0 z
        have x := y1
        rw [if_neg (fun w => w h0.2.2.2.1), smK, if_pos h0.2.2.2.2.2.2] at x
        exact nq (congrArg Prod.fst x).symm
      exact lnR_irr n0 main
theorem ln_cl4 (hz : 0 ≤ tz ∧ tz ≤ 1000) (hb : tokB tp tz) (hN : pos tp tz N = tz) (hN1 : N ≤ 1000) {i : Nat} (hi : i < N) {S : Int → Int} {vf : Int → Int → Int → Int32} {e : Nat} (he : e ≤ i) (hE : tcE S vf) (et : tK tp tz i = 4) : lnB tp tz N i S vf e := by
  obtain ⟨so0, va0, pc0, hf0⟩ := flR_ex (N := N) hz.1 hb
  obtain ⟨k, j, C, v, hj, hk, hl, hl2, hv, hY, hR0⟩ := E_keep hz hN hN1 hf0 (i + 1 + 1 + 1 + 1)
  have ko := kok0_cl (tp := tp) (tz := tz) (S := S) (i := i) (j := j) hk
  have t0 := clK_0 (tp := tp) (tz := tz) hN (S := S) (k := k) (j := j) hi hj
  obtain ⟨pl0, sl0, al0, kd0, hg0, wks0, suns0, aw0, sw0, ww0, H0⟩ := hE
  have h20 := H0.1.1.2.2.2.2.1
  refine ⟨(clK tp tz S i k j).1, (clK tp tz S i k j).2, clS S (sqA tp tz (i + 1)) 4 e, upI vf (S 200) v, e + C.length + 1, ko, fun k0 => ?_, ?_, ?_⟩
  · obtain ⟨q, sr, i4, z, e2, jN, j39⟩ := t0 k0
    have jr := hj i4
    have lr := hl
    exact ⟨⟨by omega, by omega⟩, by omega, _, _, _, _, _, _, _, _, _, _, tc_cl (v := v) H0 (by omega) sr (by omega) (by omega)⟩
  · intro f g h hc pl sl al kd hg wks suns aw sw ww H num np site x1 x2 x3 x4 y1 y2 y3 post hF hG
    rw [wp_X4_readLine]
    have ez : ∀ n : Int, (0 ≤ n ∧ n < 1000) → n ≠ 4 → ¬ zi (tK tp tz i) = zi n := fun n hn hn5 => tk_ne (by omega) (by omega)
    obtain ⟨f1, rfl, j1⟩ := zA_ex y1
    obtain ⟨f2, rfl, j2⟩ := zA_ex y2
    have ca := cntC_rng (P := fun i => S (202 + 3 * i) = 3) (S 200).toNat
    have cs := cntC_rng (P := fun i => S (202 + 3 * i) = 4) (S 200).toNat
    have cc : cntC (fun i => S (202 + 3 * i) = 3) (S 200).toNat + cntC (fun i => S (202 + 3 * i) = 4) (S 200).toNat = ((S 200).toNat : Int) := cnt_34 _ (fun i i0 i1 => H.1.1.2.2.2.2.2 i i0 (by omega))
    have ea := H.2.2.2.1
    have es := H.2.2.2.2
    refine ⟨fun z => absurd z (ez 0 (by omega) (by omega)), fun z => absurd z (ez 1 (by omega) (by omega)), fun z => absurd z (ez 2 (by omega) (by omega)), fun z => absurd z (ez 3 (by omega) (by omega)), fun z => ?_, fun z => absurd z (ez 5 (by omega) (by omega)), fun z => absurd z (ez 6 (by omega) (by omega)), fun z => absurd z (ez 7 (by omega) (by omega)), fun z0 z1 z2 z3 z4 z5 z6 z7 => absurd (by rw [et]; rfl) z4⟩
    refine p_clothC (what := 4) (v := v) hz hc hN hN1 hi (by omega) (by omega) hk hj hv hl2 hY (fun k1 a0 a1 a2 a3 a4 a5 a6 a7 a8 a9 a10 a11 a12 a13 a14 a15 a16 a17 => ⟨Or.inl rfl, hF k1 _ _ _ _ _ _ _ _ _ _ _ _ _ _ _ _ _ _ _ _ _ _ _ _ _ pl (fun _ z => z) H.2.1.2.2.2⟩) (fun k0 z sr q i4 jr e1 e2 e3 h1 h2 h3 h4 h5 h6 h7 => ⟨Or.inr rfl, ?_⟩)
    have r := hG k0 e1 e2 e3 _ _ kd hg h1 h2 h3 h4 h5 h6 h7 _ _ ww suns wks pl (fun _ z => z) (tc_cl (v := v) (e := e) (what := 4) H q sr (by omega) (by omega))
    rw [show clS S (sqA tp tz (i + 1)) 4 e 424 = S 424 by rw [clS, upI_n (by omega), upI_n (by omega), upI_n (by omega), upI_n (by omega)], show clS S (sqA tp tz (i + 1)) 4 e 261 = S 261 by rw [clS, upI_n (by omega), upI_n (by omega), upI_n (by omega), upI_n (by omega)]] at r
    exact r
  · intro so va pc hf
    obtain ⟨k2, j2, C2, v2, hj2, hk2, hl2', hl22, hv2, hY2, hR⟩ := E_keep hz hN hN1 hf (i + 1 + 1 + 1 + 1)
    have t2 := clK_0 (tp := tp) (tz := tz) hN (S := S) (k := k2) (j := j2) hi hj2
    have main : lnR tp tz so va pc i S vf e (clK tp tz S i k2 j2).1 (clK tp tz S i k2 j2).2 (clS S (sqA tp tz (i + 1)) 4 e) (upI vf (S 200) v2) (e + C2.length + 1) := by
      rintro T op arg ⟨hT, hS, hcd⟩ post hF hG
      refine p_lineR hz hf hN1 (by omega) (fun w hw ew => absurd ew (by omega)) (fun w hw ew => ?_) (fun ew => absurd ew (by omega)) (fun ew => absurd ew (by omega)) (fun ew => absurd ew (by omega)) (fun ew => absurd ew (by omega))
      obtain rfl : w = 4 := by omega
      refine p_clothR (what := 4) (k := k2) (j := j2) (C := C2) (e := e) (post := post) hz hf hN hN1 hi hT hS (by omega) (by omega) hk2 hj2 (fun _ => hl2') hR he (fun k1 a e' T' op' arg' le1 le2 sc em => hF k1 _ _ _ _ _ sc (frO_F em (by omega))) (fun k0 z op' arg' em => ?_)
      obtain ⟨q, sr, i4, _, e2, jN, j39⟩ := t2 k0
      have jr := hj2 i4
      have lr := hl2'
      have sc : scr T (clT T (S 200) (sqA tp tz (i + 1)) 4 e) := scr_up (scr_up (scr_up (scr_up (scr_0 hT) (by omega) (by omega)) (by omega) (by omega)) (by omega) (by omega)) (by omega) (by omega)
      refine hG k0 _ _ _ sc (frO_R em (by omega)) ⟨sc.1, ?_, cdB_put hcd (by omega) em (by omega) (hv2 z)⟩
      exact sh_up (sh_up (sh_up (sh_up hS (by omega)) (by omega)) (by omega)) (by omega)
    by_cases i4 : i + 1 + 1 + 1 + 1 ≤ N
    rotate_left
    · have n0 : (clK tp tz S i k j).1 ≠ 0 := fun z => i4 (t0 z).2.2.1
      have e12 : clK tp tz S i k2 j2 = clK tp tz S i k j := clK_far hz.1 hN i4 _ _ _ _
      rw [e12] at main
      exact lnR_irr n0 main
    rcases E_same (hY i4) (hY2 i4) with ⟨y1, y2, y3, y4⟩ | ⟨kq, jq, nq, y1, y2⟩
    · subst y1 y2 y3 y4
      have ev : v2 = v := by
        funext d m
        have a := hv rfl d m
        have b := hv2 rfl d m
        rw [a] at b
        exact (List.cons.inj (Option.some.inj b)).1.symm
      rw [ev] at main
      exact main
    · have e12 : clK tp tz S i k2 j2 = clK tp tz S i k j := by rw [clK, clK, y1, y2]
      rw [e12] at main
      have n0 : (clK tp tz S i k j).1 ≠ 0 := fun z => by
        have h0 := t0 z
        have x := y1
        rw [if_neg (fun w => w h0.2.2.2.1), smK, if_pos h0.2.2.2.2.2.2] at x
        exact nq (congrArg Prod.fst x).symm
      exact lnR_irr n0 main
theorem line_both (hz : 0 ≤ tz ∧ tz ≤ 1000) (hb : tokB tp tz) (hN : pos tp tz N = tz) (hN1 : N ≤ 1000) {i : Nat} (hi : i < N) {S : Int → Int} {vf : Int → Int → Int → Int32} {e : Nat} (he : e ≤ i) (hE : tcE S vf) : lnB tp tz N i S vf e := by
  by_cases w : tK tp tz i < 0 ∨ 7 < tK tp tz i
  · exact ln_no hz hN hN1 hi he hE w
  by_cases q0 : tK tp tz i = 0
  · exact ln_th0 hz hN hN1 hi he hE q0
  by_cases q1 : tK tp tz i = 1
  · exact ln_th1 hz hN hN1 hi he hE q1
  by_cases q2 : tK tp tz i = 2
  · exact ln_th2 hz hN hN1 hi he hE q2
  by_cases q3 : tK tp tz i = 3
  · exact ln_cl3 hz hb hN hN1 hi he hE q3
  by_cases q4 : tK tp tz i = 4
  · exact ln_cl4 hz hb hN hN1 hi he hE q4
  by_cases q5 : tK tp tz i = 5
  · exact ln_wt hz hN hN1 hi he hE q5
  by_cases q6 : tK tp tz i = 6
  · exact ln_su hz hN hN1 hi he hE q6
  · exact ln_wk hz hN hN1 hi he hE (by omega)
end LE
