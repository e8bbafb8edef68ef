/-! the lines of a town, one behind the other, both sides -/
section RN
variable {tp : Int → Int} {tz : Int} {N : Nat}
/-- what the class's loop may end in -/
def rnF (pl : Pool) (f g h : Int → Int) (N : Nat) (fv ps fo td : Int32) (X : Int32 → Int32 → Int32 → Int32 → Int32 → Int32 → Int32 → Int32 → Int32 → Int32 → Int32 → Int32 → (Nat → Int32) → (Nat → Int32) → (Nat → Int64) → (Nat → Int64) → (Nat → Int64) → (Nat → Option Nat) → Int32 → Int32 → Int32 → Int32 → Int32 → Int32 → (Nat → Int32) → (Nat → Int32) → (Nat → Int32) → Int32 → Int32 → Int32 → Int32 → (Nat → Int32) → (Nat → Int32) → (Nat → Int32) → (Nat → Option Nat) → Pool → Prop) : Prop := ∀ (a b c d e e2 e3 s1 s2 s3 s4 : Int32) (kd hg : Nat → Int32) (w1 w2 w3 : Nat → Int64) (o2 : Nat → Option Nat) (x1 x2 x3 x4 : Int32) (y1 y2 y3 : Nat → Int32) (o1 : Nat → Option Nat) (p' : Pool), (∀ z ∈ pl, z ∈ p') → suV p' o1 → X a b c d e e2 e3 fv s1 s2 s3 s4 kd hg w1 w2 w3 o2 ps fo td (sz N) (sz N) (sz N) (zA f) (zA g) (zA h) x1 x2 x3 x4 y1 y2 y3 o1 p'
def rnG (pl : Pool) (f g h : Int → Int) (N : Nat) (S : Int → Int) (vf : Int → Int → Int → Int32) (ps fo td : Int32) (X : Int32 → Int32 → Int32 → Int32 → Int32 → Int32 → Int32 → Int32 → Int32 → Int32 → Int32 → Int32 → (Nat → Int32) → (Nat → Int32) → (Nat → Int64) → (Nat → Int64) → (Nat → Int64) → (Nat → Option Nat) → Int32 → Int32 → Int32 → Int32 → Int32 → Int32 → (Nat → Int32) → (Nat → Int32) → (Nat → Int32) → Int32 → Int32 → Int32 → Int32 → (Nat → Int32) → (Nat → Int32) → (Nat → Int32) → (Nat → Option Nat) → Pool → Prop) : Prop := ∀ (a b c d e e2 e3 : Int32) (sl al : Int) (kd hg : Int → Int) (aw sw ww : Nat → Int64) (wks : Nat → Option Nat) (x1 x2 x3 x4 : Int32) (y1 y2 y3 : Nat → Int32) (suns : Nat → Option Nat) (p' : Pool), (∀ z ∈ pl, z ∈ p') → tcR p' S vf sl al kd hg wks suns aw sw ww → X a b c d e e2 e3 0 (zi al) (zi sl) (zi (S 424)) (zi (S 261)) (zA kd) (zA hg) aw sw ww wks ps fo td (sz N) (sz N) (sz N) (zA f) (zA g) (zA h) x1 x2 x3 x4 y1 y2 y3 suns p'
def rnC (tp : Int → Int) (tz : Int) (N : Nat) (n : Nat) (f g h : Int → Int) (i : Nat) (S : Int → Int) (vf : Int → Int → Int → Int32) (k : Int) (j : Nat) (S' : Int → Int) (vf' : Int → Int → Int → Int32) : Prop := ∀ (pl : Pool) (sl al : Int) (kd hg : Int → Int) (wks suns : Nat → Option Nat) (aw sw ww : Nat → Int64), tcR pl S vf sl al kd hg wks suns aw sw ww → ∀ (num np site x1 x2 x3 x4 ps fo td : Int32) (y1 y2 y3 : Nat → Int32) (l : Int), (0 ≤ l ∧ l ≤ i) → ∀ (A66 A55 : Int32 → Int32 → Int32 → Int32 → Int32 → Int32 → Int32 → Int32 → Int32 → Int32 → Int32 → Int32 → (Nat → Int32) → (Nat → Int32) → (Nat → Int64) → (Nat → Int64) → (Nat → Int64) → (Nat → Option Nat) → Int32 → Int32 → Int32 → Int32 → Int32 → Int32 → (Nat → Int32) → (Nat → Int32) → (Nat → Int32) → Int32 → Int32 → Int32 → Int32 → (Nat → Int32) → (Nat → Int32) → (Nat → Int32) → (Nat → Option Nat) → Pool → Prop) (ta : Nat → Int32) (post : Int32 → Int32 → Int32 → Int32 → Int32 → Int32 → Int32 → Int32 → Int32 → Int32 → Int32 → Int32 → Int32 → (Nat → Int32) → (Nat → Int32) → (Nat → Int64) → (Nat → Int64) → (Nat → Int64) → (Nat → Option Nat) → Int32 → Int32 → Int32 → Int32 → Int32 → Int32 → (Nat → Int32) → (Nat → Int32) → (Nat → Int32) → Int32 → Int32 → Int32 → Int32 → (Nat → Int32) → (Nat → Int32) → (Nat → Int32) → (Nat → Option Nat) → Pool → Prop), (k ≠ 0 → rnF pl f g h N (zi (k + 16 * pos tp tz j)) ps fo td A55) → (k = 0 → rnG pl f g h N S' vf' ps fo td A66) → lp (wp_X4_read_L32 A66 A55 (zi tz) ta post) n (zi ((i + 1 : Nat) : Int), zi (tK tp tz i), zi (tV tp tz i), zi (pos tp tz i), num, np, site, 0, zi al, zi sl, zi (S 424), zi (S 261), zA kd, zA hg, aw, sw, ww, wks, ps, fo, td, sz N, sz N, sz N, zA f, zA g, zA h, x1, x2, x3, x4, y1, y2, y3, suns, pl, zi l)
def rnR (tp : Int → Int) (tz : Int) (n : Nat) (so va pc : Int → Int) (i : Nat) (S : Int → Int) (vf : Int → Int → Int → Int32) (e : Nat) (k : Int) (j : Nat) (S' : Int → Int) (vf' : Int → Int → Int → Int32) (e' : Nat) : Prop := ∀ (T : Int → Int) (op arg : Nat → Int32), lrR op arg S vf T e → ∀ (th tq si sd sm fo td : Int32) (X : Int32 → Int32 → Int32 → Int32 → Int32 → Int32 → Int32 → Int32 → Int32 → Int32 → (Nat → Int32) → (Nat → Int32) → (Nat → Int64) → (Nat → Int32) → (Nat → Int32) → (Nat → Int32) → Prop) (ta : Nat → Int32) (post : Int32 → Int32 → Int32 → Int32 → Int32 → Int32 → Int32 → Int32 → Int32 → Int32 → Int32 → (Nat → Int32) → (Nat → Int32) → (Nat → Int64) → (Nat → Int32) → (Nat → Int32) → (Nat → Int32) → Prop), (k ≠ 0 → ∀ a c T' op' arg', scr T T' → frO op arg op' arg' → X th tq si a (zi (k + 16 * pos tp tz j)) c sd sm fo td (zA pc) (zA so) (zL va) (zA T') op' arg') → (k = 0 → ∀ a c T' op' arg', scr T T' → frO op arg op' arg' → lrR op' arg' S' vf' T' e' → X th tq si a 0 c sd sm fo td (zA pc) (zA so) (zL va) (zA T') op' arg') → lp (wp_X12_town_L40 X ta wd_30 post) n (th, tq, si, zi i, 0, zi e, sd, sm, fo, td, zA pc, zA so, zL va, zA T, op, arg)
theorem scr_tr {T T1 T2 : Int → Int} (h : scr T T1) (g : scr T1 T2) : scr T T2 := ⟨g.1, fun k hk => (g.2 k hk).trans (h.2 k hk)⟩
theorem run_both (hz : 0 ≤ tz ∧ tz ≤ 1000) (hb : tokB tp tz) (hN : pos tp tz N = tz) (hN1 : N ≤ 1000) (hl : ∀ i, i < N → pos tp tz i < tz) : ∀ (d i : Nat), N - i ≤ d → i ≤ N → ∀ (S : Int → Int) (vf : Int → Int → Int → Int32) (e : Nat), e ≤ i → tcE S vf → ∃ (n : Nat) (k : Int) (j : Nat) (S' : Int → Int) (vf' : Int → Int → Int → Int32) (e' : Nat), n ≤ N - i + 1 ∧ (k = 0 ∨ kok k) ∧ (k = 0 → tcE S' vf' ∧ e' ≤ N) ∧ (∀ f g h, flC tp tz (N + 1) f g h → rnC tp tz N n f g h i S vf k j S' vf') ∧ ∀ so va pc, flR tp tz (N + 1) so va pc → rnR tp tz n so va pc i S vf e k j S' vf' e' := by
  intro d
  induction d with
  | zero =>
    intro i hd hi S vf e he hE
    have ei : i = N := by omega
    subst ei
    have e51 : tK tp tz i = 51 := tK_end.2 (by omega)
    refine ⟨1, 0, i, S, vf, e, by omega, Or.inl rfl, fun _ => ⟨hE, by omega⟩, ?_, ?_⟩
    · intro f g h hc pl sl al kd hg wks suns aw sw ww H num np site x1 x2 x3 x4 ps fo td y1 y2 y3 l hl A66 A55 ta post hF hG
      show wp_X4_read_L32 _ _ _ _ _ _ _
      dsimp only [wp_X4_read_L32]
      have r := hG rfl (zi ((i + 1 : Nat) : Int)) (zi (tK tp tz i)) (zi (tV tp tz i)) (zi (pos tp tz i)) num np site sl al kd hg aw sw ww wks x1 x2 x3 x4 y1 y2 y3 suns pl (fun _ z => z) H
      exact ⟨fun _ => r, fun _ => ⟨fun _ => r, fun z => absurd (by rw [e51]; rfl) z⟩⟩
    · intro so va pc hf T op arg H th tq si sd sm fo td X ta post hF hG
      obtain ⟨⟨r1, r2, r3, r4, r5, r6, r7⟩, _⟩ := hf i (by omega)
      have r := hG rfl (zi (i : Int)) (zi (e : Int)) T op arg (scr_0 H.1) frO_0 H
      show wp_X12_town_L40 _ _ _ _ _ _
      dsimp only [wp_X12_town_L40]
      refine ⟨fun z => absurd rfl z, fun _ => ⟨lt_1002 hi hN1, fun _ => r, fun z => ?_⟩⟩
      rw [zA_get (by omega), zi_lit, zi_eq (by omega), r3] at z
      exact absurd e51 z
  | succ d ih =>
    intro i hd hi S vf e he hE
    by_cases q : N - i ≤ d
    · exact ih i q hi S vf e he hE
    have iN : i < N := by omega
    have n51 : tK tp tz i ≠ 51 := fun z => absurd (hl i iN) (tK_end.1 z)
    have tr := tk_k (tp := tp) (tz := tz) (N := i)
    obtain ⟨k, j, S1, vf1, e1, ko, h0, hC, hR⟩ := line_both hz hb hN hN1 iN he hE
    have clc : ∀ (f g h : Int → Int), flC tp tz (N + 1) f g h → ∀ (m : Nat) (pl : Pool) (sl al : Int) (kd hg : Int → Int) (wks suns : Nat → Option Nat) (aw sw ww : Nat → Int64), tcR pl S vf sl al kd hg wks suns aw sw ww → ∀ (num np site x1 x2 x3 x4 ps fo td : Int32) (y1 y2 y3 : Nat → Int32) (l : Int), (0 ≤ l ∧ l ≤ i) → ∀ (A66 A55 : Int32 → Int32 → Int32 → Int32 → Int32 → Int32 → Int32 → Int32 → Int32 → Int32 → Int32 → Int32 → (Nat → Int32) → (Nat → Int32) → (Nat → Int64) → (Nat → Int64) → (Nat → Int64) → (Nat → Option Nat) → Int32 → Int32 → Int32 → Int32 → Int32 → Int32 → (Nat → Int32) → (Nat → Int32) → (Nat → Int32) → Int32 → Int32 → Int32 → Int32 → (Nat → Int32) → (Nat → Int32) → (Nat → Int32) → (Nat → Option Nat) → Pool → Prop) (ta : Nat → Int32) (post : Int32 → Int32 → Int32 → Int32 → Int32 → Int32 → Int32 → Int32 → Int32 → Int32 → Int32 → Int32 → Int32 → (Nat → Int32) → (Nat → Int32) → (Nat → Int64) → (Nat → Int64) → (Nat → Int64) → (Nat → Option Nat) → Int32 → Int32 → Int32 → Int32 → Int32 → Int32 → (Nat → Int32) → (Nat → Int32) → (Nat → Int32) → Int32 → Int32 → Int32 → Int32 → (Nat → Int32) → (Nat → Int32) → (Nat → Int32) → (Nat → Option Nat) → Pool → Prop), (k ≠ 0 → rnF pl f g h N (zi (k + 16 * pos tp tz j)) ps fo td A55) → (k = 0 → ∀ (e e2 e3 : Int32) (sl al : Int) (kd hg : Int → Int) (x1 x2 x3 x4 : Int32) (y1 y2 y3 : Nat → Int32) (sw aw ww : Nat → Int64) (suns wks : Nat → Option Nat) (p' : Pool), (∀ z ∈ pl, z ∈ p') → tcR p' S1 vf1 sl al kd hg wks suns aw sw ww → lp (wp_X4_read_L32 A66 A55 (zi tz) ta post) m (zi ((j + 1 : Nat) : Int), zi (tK tp tz j), zi (tV tp tz j), zi (pos tp tz j), e, e2, e3, 0, zi al, zi sl, zi (S1 424), zi (S1 261), zA kd, zA hg, aw, sw, ww, wks, ps, fo, td, sz N, sz N, sz N, zA f, zA g, zA h, x1, x2, x3, x4, y1, y2, y3, suns, p', zi (l + 1))) → lp (wp_X4_read_L32 A66 A55 (zi tz) ta post) (m + 1) (zi ((i + 1 : Nat) : Int), zi (tK tp tz i), zi (tV tp tz i), zi (pos tp tz i), num, np, site, 0, zi al, zi sl, zi (S 424), zi (S 261), zA kd, zA hg, aw, sw, ww, wks, ps, fo, td, sz N, sz N, sz N, zA f, zA g, zA h, x1, x2, x3, x4, y1, y2, y3, suns, pl, zi l) := by
      intro f g h hc m pl sl al kd hg wks suns aw sw ww H num np site x1 x2 x3 x4 ps fo td y1 y2 y3 l hl0 A66 A55 ta post hF hG
      show wp_X4_read_L32 _ _ _ _ _ _ _
      dsimp only [wp_X4_read_L32]
      refine ⟨fun z => ?_, fun _ => ⟨fun z => ?_, fun _ => ?_⟩⟩
      · rw [zi_lit, zi_le (by omega)] at z; omega
      · rw [zi_lit, zi_eq (by omega)] at z; exact absurd z n51
      refine hC f g h hc pl sl al kd hg wks suns aw sw ww H num np site x1 x2 x3 x4 y1 y2 y3 _ (fun k1 => ?_) (fun k0 => ?_)
      · intro a b c d e e2 e3 s1 s2 s3 s4 kd' hg' x1' x2' x3' x4' y1' y2' y3' w1 w2 w3 o1 o2 p' hp hv
        exact ⟨fun z => absurd rfl z, fun _ => hF k1 _ _ _ _ _ _ _ _ _ _ _ _ _ _ _ _ _ _ _ _ _ _ _ _ _ _ hp hv⟩
      · intro e e2 e3 sl' al' kd' hg' x1' x2' x3' x4' y1' y2' y3' sw' aw' ww' suns' wks' p' hp H'
        refine ⟨fun _ y ey => ?_, fun z => absurd z (by decide)⟩
        have ey2 : y = zi (l + 1) := by rw [ey, zi_lit, zi_add]
        rw [ey2]
        exact hG k0 e e2 e3 sl' al' kd' hg' x1' x2' x3' x4' y1' y2' y3' sw' aw' ww' suns' wks' p' hp H'
    have clr : ∀ (so va pc : Int → Int), flR tp tz (N + 1) so va pc → ∀ (m : Nat) (T : Int → Int) (op arg : Nat → Int32), lrR op arg S vf T e → ∀ (th tq si sd sm fo td : Int32) (X : Int32 → Int32 → Int32 → Int32 → Int32 → Int32 → Int32 → Int32 → Int32 → Int32 → (Nat → Int32) → (Nat → Int32) → (Nat → Int64) → (Nat → Int32) → (Nat → Int32) → (Nat → Int32) → Prop) (ta : Nat → Int32) (post : Int32 → Int32 → Int32 → Int32 → Int32 → Int32 → Int32 → Int32 → Int32 → Int32 → Int32 → (Nat → Int32) → (Nat → Int32) → (Nat → Int64) → (Nat → Int32) → (Nat → Int32) → (Nat → Int32) → Prop), (k ≠ 0 → ∀ a c T' op' arg', scr T T' → frO op arg op' arg' → lp (wp_X12_town_L40 X ta wd_30 post) m (th, tq, si, a, zi (k + 16 * pos tp tz j), c, sd, sm, fo, td, zA pc, zA so, zL va, zA T', op', arg')) → (k = 0 → ∀ T' op' arg', scr T T' → frO op arg op' arg' → lrR op' arg' S1 vf1 T' e1 → lp (wp_X12_town_L40 X ta wd_30 post) m (th, tq, si, zi j, 0, zi e1, sd, sm, fo, td, zA pc, zA so, zL va, zA T', op', arg')) → lp (wp_X12_town_L40 X ta wd_30 post) (m + 1) (th, tq, si, zi i, 0, zi e, sd, sm, fo, td, zA pc, zA so, zL va, zA T, op, arg) := by
      intro so va pc hf m T op arg H th tq si sd sm fo td X ta post hF hG
      obtain ⟨⟨r1, r2, r3, r4, r5, r6, r7⟩, _⟩ := hf i (by omega)
      show wp_X12_town_L40 _ _ _ _ _ _
      dsimp only [wp_X12_town_L40]
      refine ⟨fun z => absurd rfl z, fun _ => ⟨lt_1002 hi hN1, fun z => ?_, fun _ => ?_⟩⟩
      · rw [zA_get (by omega), zi_lit, zi_eq (by omega), r3] at z
        exact absurd z n51
      exact hR so va pc hf T op arg H (fun a fa co tw o ar => lp (wp_X12_town_L40 X ta wd_30 post) m (th, tq, si, a, fa, co, sd, sm, fo, td, zA pc, zA so, zL va, tw, o, ar)) hF hG
    by_cases k0 : k = 0
    · obtain ⟨hj, he1, hE1⟩ := h0 k0
      obtain ⟨n, k', j', S', vf', e', hn, ko', h0', hC', hR'⟩ := ih j (by omega) hj.2 S1 vf1 e1 he1 hE1
      refine ⟨n + 1, k', j', S', vf', e', by omega, ko', h0', ?_, ?_⟩
      · intro f g h hc pl sl al kd hg wks suns aw sw ww H num np site x1 x2 x3 x4 ps fo td y1 y2 y3 l hl0 A66 A55 ta post hF hG
        refine clc f g h hc n pl sl al kd hg wks suns aw sw ww H num np site x1 x2 x3 x4 ps fo td y1 y2 y3 l hl0 A66 A55 ta post (fun z => absurd k0 z) (fun _ => ?_)
        intro e e2 e3 sl' al' kd' hg' x1' x2' x3' x4' y1' y2' y3' sw' aw' ww' suns' wks' p' hp H'
        refine hC' f g h hc p' sl' al' kd' hg' wks' suns' aw' sw' ww' H' e e2 e3 x1' x2' x3' x4' ps fo td y1' y2' y3' (l + 1) (by omega) A66 A55 ta post (fun z => ?_) (fun z => ?_)
        · intro a b c d e e2 e3 s1 s2 s3 s4 kd'' hg'' w1 w2 w3 o2 u1 u2 u3 u4 v1 v2 v3 o1 p'' hp' hv
          exact hF z a b c d e e2 e3 s1 s2 s3 s4 kd'' hg'' w1 w2 w3 o2 u1 u2 u3 u4 v1 v2 v3 o1 p'' (fun w hw => hp' w (hp w hw)) hv
        · intro a b c d e e2 e3 sl'' al'' kd'' hg'' aw'' sw'' ww'' wks'' u1 u2 u3 u4 v1 v2 v3 suns'' p'' hp' H''
          exact hG z a b c d e e2 e3 sl'' al'' kd'' hg'' aw'' sw'' ww'' wks'' u1 u2 u3 u4 v1 v2 v3 suns'' p'' (fun w hw => hp' w (hp w hw)) H''
      · intro so va pc hf T op arg H th tq si sd sm fo td X ta post hF hG
        refine clr so va pc hf n T op arg H th tq si sd sm fo td X ta post (fun z => absurd k0 z) (fun _ T' op' arg' sc fr H' => ?_)
        exact hR' so va pc hf T' op' arg' H' th tq si sd sm fo td X ta post (fun z a c T'' op'' arg'' sc' fr' => hF z a c T'' op'' arg'' (scr_tr sc sc') (frO_tr fr fr')) (fun z a c T'' op'' arg'' sc' fr' H'' => hG z a c T'' op'' arg'' (scr_tr sc sc') (frO_tr fr fr') H'')
    · refine ⟨1 + 1, k, j, S, vf, e, by omega, ko, fun z => absurd z k0, ?_, ?_⟩
      · intro f g h hc pl sl al kd hg wks suns aw sw ww H num np site x1 x2 x3 x4 ps fo td y1 y2 y3 l hl0 A66 A55 ta post hF hG
        exact clc f g h hc 1 pl sl al kd hg wks suns aw sw ww H num np site x1 x2 x3 x4 ps fo td y1 y2 y3 l hl0 A66 A55 ta post hF (fun z => absurd z k0)
      · intro so va pc hf T op arg H th tq si sd sm fo td X ta post hF hG
        refine clr so va pc hf 1 T op arg H th tq si sd sm fo td X ta post (fun z a c T' op' arg' sc fr => ?_) (fun z => absurd z k0)
        show wp_X12_town_L40 _ _ _ _ _ _
        dsimp only [wp_X12_town_L40]
        have kk : k = 1 ∨ k = 3 ∨ k = 4 ∨ k = 5 := by
          rcases ko with y | y
          · exact absurd y k0
          · exact y
        exact ⟨fun _ => hF z a c T' op' arg' sc fr, fun y => absurd y (flt_ne hz kk j)⟩
end RN
