/-! each kind of line, both sides -/
section LD
variable {tp : Int → Int} {tz : Int} {N : Nat}
/-- what is to be shown of a line -/
def lnB (tp : Int → Int) (tz : Int) (N : Nat) (i : Nat) (S : Int → Int) (vf : Int → Int → Int → Int32) (e : Nat) : Prop := ∃ (k : Int) (j : Nat) (S' : Int → Int) (vf' : Int → Int → Int → Int32) (e' : Nat), (k = 0 ∨ kok k) ∧ (k = 0 → (i < j ∧ j ≤ N) ∧ e' ≤ j ∧ tcE S' vf') ∧ (∀ f g h, flC tp tz (N + 1) f g h → lnC tp tz N f g h i S vf k j S' vf') ∧ ∀ so va pc, flR tp tz (N + 1) so va pc → lnR tp tz so va pc i S vf e k j S' vf' e'
theorem scr_0 {T : Int → Int} (h : i32 T) : scr T T := ⟨h, fun _ _ => rfl⟩
theorem ln_th0 (hz : 0 ≤ tz ∧ tz ≤ 1000) (hN : pos tp tz N = tz) (hN1 : N ≤ 1000) {i : Nat} (hi : i < N) {S : Int → Int} {vf : Int → Int → Int → Int32} {e : Nat} (he : e ≤ i) (hE : tcE S vf) (et : tK tp tz i = 0) : lnB tp tz N i S vf e := by
  have ko := kok0_th (tp := tp) (tz := tz) (S := S) (what := 0) (i := i)
  have t0 := thK_0 (tp := tp) (tz := tz) hN (S := S) (what := 0) hi
  have vr := tV_rng (tp := tp) (tz := tz) (i := i + 1 + 1 + 1)
  obtain ⟨pl0, sl0, al0, kd0, hg0, wks0, suns0, aw0, sw0, ww0, H0⟩ := hE
  refine ⟨(thK tp tz S 0 i).1, (thK tp tz S 0 i).2, putT S (sqA tp tz (i + 1)) (0 + 1) (thH tp tz 0 i), vf, e, ko, fun k0 => ?_, ?_, ?_⟩
  · obtain ⟨sr, hr, jr⟩ := t0 k0
    exact ⟨jr, by omega, _, _, _, _, _, _, _, _, _, _, tc_th H0 sr (by omega) hr⟩
  · intro f g h hc pl sl al kd hg wks suns aw sw ww H num np site x1 x2 x3 x4 y1 y2 y3 post hF hG
    rw [wp_X4_readLine, et]
    refine ⟨fun z => ?_, fun z => absurd z (tk_ne (b := 1) (by omega) (by omega)), fun z => absurd z (tk_ne (b := 2) (by omega) (by omega)), fun z => absurd z (tk_ne (b := 3) (by omega) (by omega)), fun z => absurd z (tk_ne (b := 4) (by omega) (by omega)), fun z => absurd z (tk_ne (b := 5) (by omega) (by omega)), fun z => absurd z (tk_ne (b := 6) (by omega) (by omega)), fun z => absurd z (tk_ne (b := 7) (by omega) (by omega)), fun z0 z1 z2 z3 z4 z5 z6 z7 => absurd rfl z0⟩
    refine p_thingC (S := S) (what := 0) hz hc hN hN1 hi H.2.1.1 H.1.1 (by omega) (fun k1 a b c d e e2 e3 e4 e5 => ⟨Or.inl rfl, hF k1 _ _ _ _ _ _ _ _ _ _ _ _ _ _ _ _ _ _ _ _ _ _ _ _ _ pl (fun _ z => z) H.2.1.2.2.2⟩) (fun k0 sr s0 hr jr e e2 e3 => ⟨Or.inr rfl, ?_⟩)
    have r := hG k0 e e2 e3 sl al _ _ x1 x2 x3 x4 y1 y2 y3 sw aw ww suns wks pl (fun _ z => z) (tc_th H sr (by omega) hr)
    rw [putT_ag sr 424 (by omega), putT_ag sr 261 (by omega)] at r
    exact r
  · intro so va pc hf
    rintro T op arg ⟨hT, hS, hcd⟩ post hF hG
    refine p_lineR hz hf hN1 (by omega) (fun w hw ew => ?_) (fun w hw ew => absurd ew (by omega)) (fun ew => absurd ew (by omega)) (fun ew => absurd ew (by omega)) (fun ew => absurd ew (by omega)) (fun ew => absurd ew (by omega))
    obtain rfl : w = 0 := by omega
    refine p_thingR (post := fun at_ fa tw => post at_ fa (zi e) tw op arg) hz hf hN hN1 hi hT hS H0.1.1 (by omega) (fun k1 a => hF k1 _ _ _ _ _ (scr_0 hT) frO_0) (fun k1 sr a => hF k1 _ _ _ _ _ (scr_up (scr_up (scr_0 hT) (by omega) (by omega)) (by omega) ?_) frO_0) (fun k0 => ?_)
    · rw [thH]
      split <;> omega
    · obtain ⟨sr, hr, jr⟩ := t0 k0
      have sc : scr T (upI (upI T (440 + sqA tp tz (i + 1)) (0 + 1)) (540 + sqA tp tz (i + 1)) (thH tp tz 0 i)) := scr_up (scr_up (scr_0 hT) (by omega) (by omega)) (by omega) (by omega)
      exact hG k0 _ _ _ sc frO_0 ⟨sc.1, sh_up (sh_up hS (by omega)) (by omega), cdB_ag hcd (agG_tr (agG_up (by omega)) (agG_up (by omega))) H0.1.1.2.2.2.2.1.2 (Nat.le_refl _) (fun _ _ => ⟨rfl, rfl⟩)⟩
theorem ln_th1 (hz : 0 ≤ tz ∧ tz ≤ 1000) (hN : pos tp tz N = tz) (hN1 : N ≤ 1000) {i : Nat} (hi : i < N) {S : Int → Int} {vf : Int → Int → Int → Int32} {e : Nat} (he : e ≤ i) (hE : tcE S vf) (et : tK tp tz i = 1) : lnB tp tz N i S vf e := by
  have ko := kok0_th (tp := tp) (tz := tz) (S := S) (what := 1) (i := i)
  have t0 := thK_0 (tp := tp) (tz := tz) hN (S := S) (what := 1) hi
  have vr := tV_rng (tp := tp) (tz := tz) (i := i + 1 + 1 + 1)
  obtain ⟨pl0, sl0, al0, kd0, hg0, wks0, suns0, aw0, sw0, ww0, H0⟩ := hE
  refine ⟨(thK tp tz S 1 i).1, (thK tp tz S 1 i).2, putT S (sqA tp tz (i + 1)) (1 + 1) (thH tp tz 1 i), vf, e, ko, fun k0 => ?_, ?_, ?_⟩
  · obtain ⟨sr, hr, jr⟩ := t0 k0
    exact ⟨jr, by omega, _, _, _, _, _, _, _, _, _, _, tc_th H0 sr (by omega) hr⟩
  · intro f g h hc pl sl al kd hg wks suns aw sw ww H num np site x1 x2 x3 x4 y1 y2 y3 post hF hG
    rw [wp_X4_readLine, et]
    refine ⟨fun z => absurd z (tk_ne (b := 0) (by omega) (by omega)), fun z => ?_, fun z => absurd z (tk_ne (b := 2) (by omega) (by omega)), fun z => absurd z (tk_ne (b := 3) (by omega) (by omega)), fun z => absurd z (tk_ne (b := 4) (by omega) (by omega)), fun z => absurd z (tk_ne (b := 5) (by omega) (by omega)), fun z => absurd z (tk_ne (b := 6) (by omega) (by omega)), fun z => absurd z (tk_ne (b := 7) (by omega) (by omega)), fun z0 z1 z2 z3 z4 z5 z6 z7 => absurd rfl z1⟩
    refine p_thingC (S := S) (what := 1) hz hc hN hN1 hi H.2.1.1 H.1.1 (by omega) (fun k1 a b c d e e2 e3 e4 e5 => ⟨Or.inl rfl, hF k1 _ _ _ _ _ _ _ _ _ _ _ _ _ _ _ _ _ _ _ _ _ _ _ _ _ pl (fun _ z => z) H.2.1.2.2.2⟩) (fun k0 sr s0 hr jr e e2 e3 => ⟨Or.inr rfl, ?_⟩)
    have r := hG k0 e e2 e3 sl al _ _ x1 x2 x3 x4 y1 y2 y3 sw aw ww suns wks pl (fun _ z => z) (tc_th H sr (by omega) hr)
    rw [putT_ag sr 424 (by omega), putT_ag sr 261 (by omega)] at r
    exact r
  · intro so va pc hf
    rintro T op arg ⟨hT, hS, hcd⟩ post hF hG
    refine p_lineR hz hf hN1 (by omega) (fun w hw ew => ?_) (fun w hw ew => absurd ew (by omega)) (fun ew => absurd ew (by omega)) (fun ew => absurd ew (by omega)) (fun ew => absurd ew (by omega)) (fun ew => absurd ew (by omega))
    obtain rfl : w = 1 := by omega
    refine p_thingR (post := fun at_ fa tw => post at_ fa (zi e) tw op arg) hz hf hN hN1 hi hT hS H0.1.1 (by omega) (fun k1 a => hF k1 _ _ _ _ _ (scr_0 hT) frO_0) (fun k1 sr a => hF k1 _ _ _ _ _ (scr_up (scr_up (scr_0 hT) (by omega) (by omega)) (by omega) ?_) frO_0) (fun k0 => ?_)
    · rw [thH]
      split <;> omega
    · obtain ⟨sr, hr, jr⟩ := t0 k0
      have sc : scr T (upI (upI T (440 + sqA tp tz (i + 1)) (1 + 1)) (540 + sqA tp tz (i + 1)) (thH tp tz 1 i)) := scr_up (scr_up (scr_0 hT) (by omega) (by omega)) (by omega) (by omega)
      exact hG k0 _ _ _ sc frO_0 ⟨sc.1, sh_up (sh_up hS (by omega)) (by omega), cdB_ag hcd (agG_tr (agG_up (by omega)) (agG_up (by omega))) H0.1.1.2.2.2.2.1.2 (Nat.le_refl _) (fun _ _ => ⟨rfl, rfl⟩)⟩
theorem ln_th2 (hz : 0 ≤ tz ∧ tz ≤ 1000) (hN : pos tp tz N = tz) (hN1 : N ≤ 1000) {i : Nat} (hi : i < N) {S : Int → Int} {vf : Int → Int → Int → Int32} {e : Nat} (he : e ≤ i) (hE : tcE S vf) (et : tK tp tz i = 2) : lnB tp tz N i S vf e := by
  have ko := kok0_th (tp := tp) (tz := tz) (S := S) (what := 2) (i := i)
  have t0 := thK_0 (tp := tp) (tz := tz) hN (S := S) (what := 2) hi
  have vr := tV_rng (tp := tp) (tz := tz) (i := i + 1 + 1 + 1)
  obtain ⟨pl0, sl0, al0, kd0, hg0, wks0, suns0, aw0, sw0, ww0, H0⟩ := hE
  refine ⟨(thK tp tz S 2 i).1, (thK tp tz S 2 i).2, putT S (sqA tp tz (i + 1)) (2 + 1) (thH tp tz 2 i), vf, e, ko, fun k0 => ?_, ?_, ?_⟩
  · obtain ⟨sr, hr, jr⟩ := t0 k0
    exact ⟨jr, by omega, _, _, _, _, _, _, _, _, _, _, tc_th H0 sr (by omega) hr⟩
  · intro f g h hc pl sl al kd hg wks suns aw sw ww H num np site x1 x2 x3 x4 y1 y2 y3 post hF hG
    rw [wp_X4_readLine, et]
    refine ⟨fun z => absurd z (tk_ne (b := 0) (by omega) (by omega)), fun z => absurd z (tk_ne (b := 1) (by omega) (by omega)), fun z => ?_, fun z => absurd z (tk_ne (b := 3) (by omega) (by omega)), fun z => absurd z (tk_ne (b := 4) (by omega) (by omega)), fun z => absurd z (tk_ne (b := 5) (by omega) (by omega)), fun z => absurd z (tk_ne (b := 6) (by omega) (by omega)), fun z => absurd z (tk_ne (b := 7) (by omega) (by omega)), fun z0 z1 z2 z3 z4 z5 z6 z7 => absurd rfl z2⟩
    refine p_thingC (S := S) (what := 2) hz hc hN hN1 hi H.2.1.1 H.1.1 (by omega) (fun k1 a b c d e e2 e3 e4 e5 => ⟨Or.inl rfl, hF k1 _ _ _ _ _ _ _ _ _ _ _ _ _ _ _ _ _ _ _ _ _ _ _ _ _ pl (fun _ z => z) H.2.1.2.2.2⟩) (fun k0 sr s0 hr jr e e2 e3 => ⟨Or.inr rfl, ?_⟩)
    have r := hG k0 e e2 e3 sl al _ _ x1 x2 x3 x4 y1 y2 y3 sw aw ww suns wks pl (fun _ z => z) (tc_th H sr (by omega) hr)
    rw [putT_ag sr 424 (by omega), putT_ag sr 261 (by omega)] at r
    exact r
  · intro so va pc hf
    rintro T op arg ⟨hT, hS, hcd⟩ post hF hG
    refine p_lineR hz hf hN1 (by omega) (fun w hw ew => ?_) (fun w hw ew => absurd ew (by omega)) (fun ew => absurd ew (by omega)) (fun ew => absurd ew (by omega)) (fun ew => absurd ew (by omega)) (fun ew => absurd ew (by omega))
    obtain rfl : w = 2 := by omega
    refine p_thingR (post := fun at_ fa tw => post at_ fa (zi e) tw op arg) hz hf hN hN1 hi hT hS H0.1.1 (by omega) (fun k1 a => hF k1 _ _ _ _ _ (scr_0 hT) frO_0) (fun k1 sr a => hF k1 _ _ _ _ _ (scr_up (scr_up (scr_0 hT) (by omega) (by omega)) (by omega) ?_) frO_0) (fun k0 => ?_)
    · rw [thH]
      split <;> omega
    · obtain ⟨sr, hr, jr⟩ := t0 k0
      have sc : scr T (upI (upI T (440 + sqA tp tz (i + 1)) (2 + 1)) (540 + sqA tp tz (i + 1)) (thH tp tz 2 i)) := scr_up (scr_up (scr_0 hT) (by omega) (by omega)) (by omega) (by omega)
      exact hG k0 _ _ _ sc frO_0 ⟨sc.1, sh_up (sh_up hS (by omega)) (by omega), cdB_ag hcd (agG_tr (agG_up (by omega)) (agG_up (by omega))) H0.1.1.2.2.2.2.1.2 (Nat.le_refl _) (fun _ _ => ⟨rfl, rfl⟩)⟩
theorem ln_wt (hz : 0 ≤ tz ∧ tz ≤ 1000) (hN : pos tp tz N = tz) (hN1 : N ≤ 1000) {i : Nat} (hi : i < N) {S : Int → Int} {vf : Int → Int → Int → Int32} {e : Nat} (he : e ≤ i) (hE : tcE S vf) (et : tK tp tz i = 5) : lnB tp tz N i S vf e := by
  have ko := kok0_wt (tp := tp) (tz := tz) (S := S) (i := i)
  have t0 := wtK_0 (tp := tp) (tz := tz) hN (S := S) hi
  obtain ⟨pl0, sl0, al0, kd0, hg0, wks0, suns0, aw0, sw0, ww0, H0⟩ := hE
  have h10 := H0.2.2.1.2.2.1
  refine ⟨(wtK tp tz S i).1, (wtK tp tz S i).2, wtS S (sqA tp tz (i + 1)), vf, e, ko, fun k0 => ?_, ?_, ?_⟩
  · obtain ⟨q, sr, jr⟩ := t0 k0
    exact ⟨jr, by omega, _, _, _, _, _, _, _, _, _, _, tc_wt H0 (by omega) sr⟩
  · intro f g h hc pl sl al kd hg wks suns aw sw ww H num np site x1 x2 x3 x4 y1 y2 y3 post hF hG
    rw [wp_X4_readLine]
    have ez : ∀ n : Int, (0 ≤ n ∧ n < 1000) → n ≠ 5 → ¬ zi (tK tp tz i) = zi n := fun n hn hn5 => tk_ne (by omega) (by omega)
    refine ⟨fun z => absurd z (ez 0 (by omega) (by omega)), fun z => absurd z (ez 1 (by omega) (by omega)), fun z => absurd z (ez 2 (by omega) (by omega)), fun z => absurd z (ez 3 (by omega) (by omega)), fun z => absurd z (ez 4 (by omega) (by omega)), fun z => ?_, fun z => absurd z (ez 6 (by omega) (by omega)), fun z => absurd z (ez 7 (by omega) (by omega)), fun z0 z1 z2 z3 z4 z5 z6 z7 => absurd (by rw [et]; rfl) z5⟩
    refine p_waterC (S := S) hz hc hN hN1 hi H.2.2.1.2.2 (fun k1 a b c d e e2 e3 e4 e5 => ⟨Or.inl rfl, hF k1 _ _ _ _ _ _ _ _ _ _ _ _ _ _ _ _ _ _ _ _ _ _ _ _ _ pl (fun _ z => z) H.2.1.2.2.2⟩) (fun k0 sr q jr e e2 e3 => ⟨Or.inr rfl, ?_⟩)
    have r := hG k0 e e2 e3 sl al kd hg x1 x2 x3 x4 y1 y2 y3 sw aw _ suns wks pl (fun _ z => z) (tc_wt H q sr)
    rw [show wtS S (sqA tp tz (i + 1)) 424 = S 424 + 1 by rw [wtS, upI_s], show wtS S (sqA tp tz (i + 1)) 261 = S 261 by rw [wtS, upI_n (by omega), upI_n (by omega)]] at r
    exact r
  · intro so va pc hf
    rintro T op arg ⟨hT, hS, hcd⟩ post hF hG
    refine p_lineR hz hf hN1 (by omega) (fun w hw ew => absurd ew (by omega)) (fun w hw ew => absurd ew (by omega)) (fun ew => ?_) (fun ew => absurd ew (by omega)) (fun ew => absurd ew (by omega)) (fun ew => absurd ew (by omega))
    refine p_waterR (post := fun at_ fa tw => post at_ fa (zi e) tw op arg) hz hf hN hN1 hi hT hS h10 (fun k1 a T' sc => hF k1 _ _ _ _ _ sc frO_0) (fun k0 => ?_)
    obtain ⟨q, sr, jr⟩ := t0 k0
    have sc : scr T (upI (upI T (865 + S 424) (sqA tp tz (i + 1))) 864 (S 424 + 1)) := scr_up (scr_up (scr_0 hT) (by omega) (by omega)) (by omega) (by omega)
    exact hG k0 _ _ _ sc frO_0 ⟨sc.1, sh_up (sh_up hS (by omega)) (by omega), cdB_ag hcd (agG_tr (agG_up (by omega)) (agG_up (by omega))) H0.1.1.2.2.2.2.1.2 (Nat.le_refl _) (fun _ _ => ⟨rfl, rfl⟩)⟩
theorem ln_su (hz : 0 ≤ tz ∧ tz ≤ 1000) (hN : pos tp tz N = tz) (hN1 : N ≤ 1000) {i : Nat} (hi : i < N) {S : Int → Int} {vf : Int → Int → Int → Int32} {e : Nat} (he : e ≤ i) (hE : tcE S vf) (et : tK tp tz i = 6) : lnB tp tz N i S vf e := by
  have ko := kok0_su (tp := tp) (tz := tz) (S := S) (i := i)
  have t0 := suK_0 (tp := tp) (tz := tz) hN (S := S) hi
  obtain ⟨pl0, sl0, al0, kd0, hg0, wks0, suns0, aw0, sw0, ww0, H0⟩ := hE
  have h24 := H0.1.1.2.2.1
  refine ⟨(suK tp tz S i).1, (suK tp tz S i).2, suS S (tV tp tz (i + 1)) (tV tp tz (i + 1 + 1 + 1)) (tK tp tz (i + 1 + 1 + 1 + 1) - 22) (tV tp tz (i + 1 + 1 + 1 + 1 + 1)) (tV tp tz (i + 1 + 1 + 1 + 1 + 1 + 1 + 1)), vf, e, ko, fun k0 => ?_, ?_, ?_⟩
  · obtain ⟨q, r1, r2, r3, r4, r5, jr⟩ := t0 k0
    exact ⟨jr, by omega, _, _, _, _, _, _, _, _, _, _, tc_su (q := 0) H0 (by omega) (by omega) (by omega) (by omega) r4 r5⟩
  · intro f g h hc pl sl al kd hg wks suns aw sw ww H num np site x1 x2 x3 x4 y1 y2 y3 post hF hG
    rw [wp_X4_readLine]
    have ez : ∀ n : Int, (0 ≤ n ∧ n < 1000) → n ≠ 6 → ¬ zi (tK tp tz i) = zi n := fun n hn hn5 => tk_ne (by omega) (by omega)
    refine ⟨fun z => absurd z (ez 0 (by omega) (by omega)), fun z => absurd z (ez 1 (by omega) (by omega)), fun z => absurd z (ez 2 (by omega) (by omega)), fun z => absurd z (ez 3 (by omega) (by omega)), fun z => absurd z (ez 4 (by omega) (by omega)), fun z => absurd z (ez 5 (by omega) (by omega)), fun z => ?_, fun z => absurd z (ez 7 (by omega) (by omega)), fun z0 z1 z2 z3 z4 z5 z6 z7 => absurd (by rw [et]; rfl) z6⟩
    refine p_sunC (S := S) hz hc hN hN1 hi H.1.1 H.2.1.2.2.1 (fun k1 a b c d e e2 => ⟨Or.inl rfl, hF k1 _ _ _ _ _ _ _ _ _ _ _ _ _ _ _ _ _ _ _ _ _ _ _ _ _ pl (fun _ z => z) H.2.1.2.2.2⟩) (fun k1 q q' a b c d e e2 => ⟨Or.inl rfl, hF k1 _ _ _ _ _ _ _ _ _ _ _ _ _ _ _ _ _ _ _ _ _ _ _ _ _ _ (fun _ z => List.mem_cons_of_mem _ z) (suV_up H.2.1.2.2.2)⟩) (fun k0 q jr q' e e2 => ⟨Or.inr rfl, ?_⟩)
    obtain ⟨q, r1, r2, r3, r4, r5, jr⟩ := t0 k0
    have r := hG k0 e e2 site sl al kd hg x1 x2 x3 x4 y1 y2 y3 sw aw ww _ wks _ (fun _ z => List.mem_cons_of_mem _ z) (tc_su (q := q') H (by omega) (by omega) (by omega) (by omega) r4 r5)
    rw [show suS S (tV tp tz (i + 1)) (tV tp tz (i + 1 + 1 + 1)) (tK tp tz (i + 1 + 1 + 1 + 1) - 22) (tV tp tz (i + 1 + 1 + 1 + 1 + 1)) (tV tp tz (i + 1 + 1 + 1 + 1 + 1 + 1 + 1)) 424 = S 424 by rw [suS, upI_n (by omega), upI_n (by omega), upI_n (by omega), upI_n (by omega), upI_n (by omega), upI_n (by omega)], show suS S (tV tp tz (i + 1)) (tV tp tz (i + 1 + 1 + 1)) (tK tp tz (i + 1 + 1 + 1 + 1) - 22) (tV tp tz (i + 1 + 1 + 1 + 1 + 1)) (tV tp tz (i + 1 + 1 + 1 + 1 + 1 + 1 + 1)) 261 = S 261 + 1 by rw [suS, upI_s]] at r
    exact r
  · intro so va pc hf
    rintro T op arg ⟨hT, hS, hcd⟩ post hF hG
    refine p_lineR hz hf hN1 (by omega) (fun w hw ew => absurd ew (by omega)) (fun w hw ew => absurd ew (by omega)) (fun ew => absurd ew (by omega)) (fun ew => ?_) (fun ew => absurd ew (by omega)) (fun ew => absurd ew (by omega))
    refine p_sunR (post := fun at_ fa tw => post at_ fa (zi e) tw op arg) hz hf hN hN1 hi hT hS H0.1.1 (fun k1 a T' sc => hF k1 _ _ _ _ _ sc frO_0) (fun k0 => ?_)
    obtain ⟨q, r1, r2, r3, r4, r5, jr⟩ := t0 k0
    have sc : scr T (suT T (S 261) (tV tp tz (i + 1)) (tV tp tz (i + 1 + 1 + 1)) (tK tp tz (i + 1 + 1 + 1 + 1) - 22) (tV tp tz (i + 1 + 1 + 1 + 1 + 1)) (tV tp tz (i + 1 + 1 + 1 + 1 + 1 + 1 + 1))) := suT_scr hT (by omega) ⟨by omega, by omega, by omega, by omega, by omega⟩
    refine hG k0 _ _ _ sc frO_0 ⟨sc.1, ?_, cdB_ag hcd (agG_tr (agG_tr (agG_tr (agG_tr (agG_tr (agG_up (by omega)) (agG_up (by omega))) (agG_up (by omega))) (agG_up (by omega))) (agG_up (by omega))) (agG_up (by omega))) H0.1.1.2.2.2.2.1.2 (Nat.le_refl _) (fun _ _ => ⟨rfl, rfl⟩)⟩
    exact sh_up (sh_up (sh_up (sh_up (sh_up (sh_up hS (by omega)) (by omega)) (by omega)) (by omega)) (by omega)) (by omega)
theorem ln_wk (hz : 0 ≤ tz ∧ tz ≤ 1000) (hN : pos tp tz N = tz) (hN1 : N ≤ 1000) {i : Nat} (hi : i < N) {S : Int → Int} {vf : Int → Int → Int → Int32} {e : Nat} (he : e ≤ i) (hE : tcE S vf) (et : tK tp tz i = 7) : lnB tp tz N i S vf e := by
  have ko := kok0_wk (tp := tp) (tz := tz) (S := S) (i := i)
  have t0 := wkK_0 (tp := tp) (tz := tz) hN (S := S) hi
  obtain ⟨pl0, sl0, al0, kd0, hg0, wks0, suns0, aw0, sw0, ww0, H0⟩ := hE
  refine ⟨(wkK tp tz S i).1, (wkK tp tz S i).2, wkS tp tz S i, vf, e, ko, fun k0 => ?_, ?_, ?_⟩
  · obtain ⟨v1, bd, jr⟩ := t0 k0
    exact ⟨jr, by omega, _, _, _, _, _, _, _, _, _, _, tc_wk (q := 0) H0 v1 bd⟩
  · intro f g h hc pl sl al kd hg wks suns aw sw ww H num np site x1 x2 x3 x4 y1 y2 y3 post hF hG
    rw [wp_X4_readLine]
    have ez : ∀ n : Int, (0 ≤ n ∧ n < 1000) → n ≠ 7 → ¬ zi (tK tp tz i) = zi n := fun n hn hn5 => tk_ne (by omega) (by omega)
    refine ⟨fun z => absurd z (ez 0 (by omega) (by omega)), fun z => absurd z (ez 1 (by omega) (by omega)), fun z => absurd z (ez 2 (by omega) (by omega)), fun z => absurd z (ez 3 (by omega) (by omega)), fun z => absurd z (ez 4 (by omega) (by omega)), fun z => absurd z (ez 5 (by omega) (by omega)), fun z => absurd z (ez 6 (by omega) (by omega)), fun z => ?_, fun z0 z1 z2 z3 z4 z5 z6 z7 => absurd (by rw [et]; rfl) z7⟩
    refine p_walkC (S := S) hz hc hN hN1 hi H.2.1.2.1 (fun k1 a b c d e e2 w' p' hp => ⟨Or.inl rfl, hF k1 _ _ _ _ _ _ _ _ _ _ _ _ _ _ _ _ _ _ _ _ _ _ _ _ _ p' hp (suV_mono hp H.2.1.2.2.2)⟩) (fun k0 v1 np jr q e e2 => ⟨Or.inr rfl, ?_⟩)
    obtain ⟨v1, bd, jr⟩ := t0 k0
    have r := hG k0 e e2 site sl al kd hg x1 x2 x3 x4 y1 y2 y3 sw aw ww suns _ _ (fun _ z => List.mem_cons_of_mem _ z) (tc_wk (q := q) H v1 bd)
    rw [show wkS tp tz S i 424 = S 424 by rw [wkS, upI_n (by omega), wkT_ne _ (by omega)], show wkS tp tz S i 261 = S 261 by rw [wkS, upI_n (by omega), wkT_ne _ (by omega)]] at r
    exact r
  · intro so va pc hf
    rintro T op arg ⟨hT, hS, hcd⟩ post hF hG
    refine p_lineR hz hf hN1 (by omega) (fun w hw ew => absurd ew (by omega)) (fun w hw ew => absurd ew (by omega)) (fun ew => absurd ew (by omega)) (fun ew => absurd ew (by omega)) (fun ew => ?_) (fun ew => absurd ew (by omega))
    refine p_walkR (post := fun at_ fa tw => post at_ fa (zi e) tw op arg) hz hf hN hN1 hi hT hS (fun k1 a T' sc => hF k1 _ _ _ _ _ sc frO_0) (fun k0 => ?_)
    obtain ⟨v1, bd, jr⟩ := t0 k0
    have sc : scr T (upI (wkT tp tz T (822 + 7 * tV tp tz (i + 1)) i 6) (822 + 7 * tV tp tz (i + 1)) 1) := scr_up (wkT_scr hT (by omega) 6 (by omega)) (by omega) (by omega)
    refine hG k0 _ _ _ sc frO_0 ⟨sc.1, ?_, cdB_ag hcd (fun j j0 j1 => by rw [wkS, upI_n (by omega), wkT_ne _ (by omega)]) H0.1.1.2.2.2.2.1.2 (Nat.le_refl _) (fun _ _ => ⟨rfl, rfl⟩)⟩
    have w6 := wkT_sh (tp := tp) (tz := tz) hS (k := 382 + 7 * tV tp tz (i + 1)) (i := i) 6
    rw [show 440 + (382 + 7 * tV tp tz (i + 1)) = 822 + 7 * tV tp tz (i + 1) by omega] at w6
    exact sh_up w6 (by omega)
theorem ln_no (hz : 0 ≤ tz ∧ tz ≤ 1000) (hN : pos tp tz N = tz) (hN1 : N ≤ 1000) {i : Nat} (hi : i < N) {S : Int → Int} {vf : Int → Int → Int → Int32} {e : Nat} (he : e ≤ i) (hE : tcE S vf) (et : tK tp tz i < 0 ∨ 7 < tK tp tz i) : lnB tp tz N i S vf e := by
  refine ⟨1, i, S, vf, e, Or.inr kok_1, fun k0 => absurd k0 (by decide), ?_, ?_⟩
  · intro f g h hc pl sl al kd hg wks suns aw sw ww H num np site x1 x2 x3 x4 y1 y2 y3 post hF hG
    have tr := tk_k (tp := tp) (tz := tz) (N := i)
    rw [wp_X4_readLine]
    have ez : ∀ n : Int, (0 ≤ n ∧ n ≤ 7) → ¬ zi (tK tp tz i) = zi n := fun n hn => tk_ne (by omega) (by omega)
    refine ⟨fun z => absurd z (ez 0 (by omega)), fun z => absurd z (ez 1 (by omega)), fun z => absurd z (ez 2 (by omega)), fun z => absurd z (ez 3 (by omega)), fun z => absurd z (ez 4 (by omega)), fun z => absurd z (ez 5 (by omega)), fun z => absurd z (ez 6 (by omega)), fun z => absurd z (ez 7 (by omega)), fun z0 z1 z2 z3 z4 z5 z6 z7 => ?_⟩
    rw [wp_X4_wrong, forall_eq, show (1 : Int32) + 16 * zi (pos tp tz i) = _ from flt_c 1 _]
    exact ⟨Or.inl rfl, hF (show (1 : Int) ≠ 0 by decide) _ _ _ _ _ _ _ _ _ _ _ _ _ _ _ _ _ _ _ _ _ _ _ _ _ pl (fun _ z => z) H.2.1.2.2.2⟩
  · intro so va pc hf
    rintro T op arg ⟨hT, hS, hcd⟩ post hF hG
    refine p_lineR hz hf hN1 (by omega) (fun w hw ew => absurd ew (by omega)) (fun w hw ew => absurd ew (by omega)) (fun ew => absurd ew (by omega)) (fun ew => absurd ew (by omega)) (fun ew => absurd ew (by omega)) (fun ew => ?_)
    exact p_takeSignF (flt_ne hz (Or.inl rfl) _) (hF (show (1 : Int) ≠ 0 by decide) _ _ _ _ _ (scr_0 hT) frO_0)
end LD
