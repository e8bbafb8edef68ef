/-! the class's goOn -/
section G3
variable {eb : Bool} {day to hot cool wt aims : Int} {dw : Nat → Int64} {ex nt tw sh : Int → Int} {sl : Int} {ww sw : Nat → Int64} {p bears mends en : Int}
/-- what a search is asked with -/
def Ask (day to hot cool wt aims : Int) (ex nt tw sh : Int → Int) (sl : Int) (sw : Nat → Int64) (p bears mends en : Int) : Prop :=
  (0 ≤ day ∧ day < 4) ∧ (-1 ≤ to ∧ to < 100) ∧ (0 ≤ hot ∧ hot ≤ 99) ∧ (0 ≤ cool ∧ cool ≤ 99) ∧ (0 ≤ wt ∧ wt ≤ 1) ∧ (0 ≤ aims ∧ aims ≤ 3) ∧ (∀ k, 0 ≤ k → k < 12000 → 0 ≤ ex k ∧ ex k ≤ 900) ∧ i32 nt ∧ ntR nt tw ∧ (0 ≤ sl ∧ sl < 1000) ∧ shR day sl sw sh ∧ (1 ≤ p ∧ p ≤ 3) ∧ (0 ≤ bears ∧ bears ≤ 99) ∧ (0 ≤ mends ∧ mends ≤ 99) ∧ (0 ≤ en ∧ en ≤ 119)
theorem ofr_m3 (h3 : aims = 3) {k v : Int} {st : Sst} : (ofr aims to st k v).1 = st.1 ∨ (ofr aims to st k v).1 = -1 := by
  simp only [ofr]
  split
  · show (if k % 100 = to then (if aims = 0 then st.1 else if aims = 1 then v - 1 else -1) else st.1) = st.1 ∨ (if k % 100 = to then (if aims = 0 then st.1 else if aims = 1 then v - 1 else -1) else st.1) = -1
    split
    · rw [if_neg (by omega), if_neg (by omega)]; exact Or.inr rfl
    · exact Or.inl rfl
  · exact Or.inl rfl
theorem valF_rng (A : Ask day to hot cool wt aims ex nt tw sh sl sw p bears mends en) {nx : Int → Int → Int} {v k w : Int} (hv : 0 ≤ v ∧ v ≤ 268435455) : 0 ≤ valF eb hot cool aims dw ex bears mends ww nx p k w v ∧ valF eb hot cool aims dw ex bears mends ww nx p k w v ≤ 268500000 := by
  obtain ⟨a1, a2, hh, hc, a5, ha, hex, a8, a9, a10, a11, hp, hb, hme, hen⟩ := A
  have hN : ∀ n : Nat, 0 ≤ aftN eb hot cool aims dw ex bears mends v k n ∧ aftN eb hot cool aims dw ex bears mends v k n ≤ 268435456 + 1000 * n := by
    intro n
    induction n with
    | zero => simp only [aftN]; omega
    | succ n ih =>
      have r := aftF_rng (eb := eb) (aims := aims) (dw := dw) (k := k + 100 * (n : Int)) hh hc hex hb hme ih.1
      simp only [aftN]
      omega
  have r := aftF_rng (eb := eb) (aims := aims) (dw := dw) (k := k) hh hc hex hb hme hv.1
  have q := hN p.toNat
  simp only [valF]
  split
  · omega
  · split
    · omega
    · omega
theorem p_goOn (A : Ask day to hot cool wt aims ex nt tw sh sl sw p bears mends en) {st : Sst} (hS : Sok st) (h3 : aims = 3 → st.1 = bears ∨ st.1 = -1) {lw : Nat → Int64} (hL : LR lw st.2.2.2.2) {m s : Int} (hm : 0 ≤ m ∧ m ≤ en) (hs : 0 ≤ s ∧ s < 100) (hst : tw s ≠ 1) {post : Int32 → Int32 → Int32 → (Nat → Int32) → (Nat → Int64) → Prop} (h : SR post (gon aims to en wt (nxT tw sh p) (fun k w v => valF eb hot cool aims dw ex bears mends ww (nxT tw sh p) p k w v) (100 * m + s) st)) : wp_X9_goOn eb (zi day) (zi to) (zi hot) (zi cool) (zi wt) (zi aims) dw (zA ex) (zA nt) (zi sl) ww sw (zi p) (zi bears) (zi mends) (zi st.1) (zi st.2.1) (zi st.2.2.1) (zA st.2.2.2.1) lw (zi m) (zi s) (zi en) post := by
  have A' := A
  obtain ⟨hd, hto, hh, hc, hwt, ha, hex, hnti, hnt, hsl, hsh, hp, hbz, hme, hen⟩ := A'
  have hex2 : ∀ k, 0 ≤ k → k < 12000 → -1000 ≤ ex k ∧ ex k ≤ 1000 := fun k h0 h1 => by have := hex k h0 h1; omega
  have hk : m * 100 + s = 100 * m + s := by omega
  have hkd : (100 * m + s) / 100 = m := by omega
  have hkm : (100 * m + s) % 100 = s := by omega
  have hS1 := hS.1
  have hSR := hS.2.1 (100 * m + s) (by omega) (by omega)
  simp (disch := omega) only [wp_X9_goOn, wp_X9_reached, forall_eq, zi_lit, zi_mul, zi_add, hk, zi_lt, nI_zi 12000, zi_in, zA_get]
  refine ⟨fun z => by omega, fun _ => ⟨fun z => by omega, fun _ => ⟨fun _ => ⟨by omega, ?_⟩, fun z => absurd (show 100 * m + s < ((12000 : Nat) : Int) by omega) z⟩⟩⟩
  simp (disch := omega) only [zi_lt, zi_eq]
  refine ⟨fun z => ?_, fun hle => ⟨fun hne => ?_, fun z => ?_⟩⟩
  · rw [gon, if_pos (Or.inl z)] at h; exact h lw hL
  · rw [gon, if_neg (by rw [hkm]; intro z; rcases z with z | z <;> omega)] at h
    generalize hv : st.2.2.2.1 (100 * m + s) = v at *
    have h3' : aims = 3 → st.1 = bears := fun q => by have := h3 q; omega
    have hvr := fun w => valF_rng (eb := eb) (dw := dw) (ww := ww) (nx := nxT tw sh p) (k := 100 * m + s) (w := w) A (show 0 ≤ v ∧ v ≤ 268435455 by omega)
    refine p_after hh hc ha hex2 hbz hme (by omega) (by omega) hs ?_
    have r1 := aftF_rng (eb := eb) (aims := aims) (dw := dw) (k := 100 * m + s) hh hc hex hbz hme hSR.1
    have hv4 : valF eb hot cool aims dw ex bears mends ww (nxT tw sh p) p (100 * m + s) 4 v = aftF eb hot cool aims dw ex bears mends v (100 * m + s) := by rw [valF, if_pos rfl]
    have hnr : ∀ w, nxT tw sh p (100 * m + s) w = -1 ∨ (0 ≤ nxT tw sh p (100 * m + s) w ∧ nxT tw sh p (100 * m + s) w < 12000 ∧ nxT tw sh p (100 * m + s) w / 100 = m + plen w p ∧ nxT tw sh p (100 * m + s) w % 100 = (if w = 4 then s else stp s w)) := by
      intro w
      have := bhd_rng (tw := tw) (sh := sh) (w := w) hp (show 0 ≤ m ∧ m < 120 by omega) hs
      simp only [nxT, hkd, hkm]
      omega
    -- the pieces, from a state with as much at most
    have step : ∀ (st1 : Sst) (lw1 : Nat → Int64), Sok st1 → LR lw1 st1.2.2.2.2 → (aims = 3 → st1.1 = bears) → SR post (of4 aims to en (nxT tw sh p) (fun w => valF eb hot cool aims dw ex bears mends ww (nxT tw sh p) p (100 * m + s) w v) (100 * m + s) st1 4) → wp_X9_goOn_b67 eb (zi day) (zi to) (zi hot) (zi cool) (zi wt) (zi aims) dw (zA ex) (zA nt) (zi sl) ww sw (zi p) (zi bears) (zi mends) post (zi st1.1) (zi st1.2.1) (zi st1.2.2.1) (zA st1.2.2.2.1) lw1 (zi m) (zi s) (zi en) (zi (aftF eb hot cool aims dw ex bears mends v (100 * m + s))) := by
      intro st1 lw1 hS1' hL1 h31 hpost
      simp only [wp_X9_goOn_b67, forall_eq, zi_lit, zi_add]
      have e1 : aftF eb hot cool aims dw ex bears mends v (100 * m + s) = aftN eb hot cool aims dw ex bears mends v (100 * m + s) 1 := by
        simp only [aftN]
        congr 1
        omega
      rw [e1]
      refine p_go83 ha hp hh hc hex hbz hme hen h31 hS1'.1 (by omega) hs (by omega) (fun u u0 u1 hu => ?_)
      have hval : ∀ w : Int, w ≠ 4 → ¬ st1.1 < u → valF eb hot cool aims dw ex bears mends ww (nxT tw sh p) p (100 * m + s) w v = if aims = 3 ∧ watF ww (nxT tw sh p (100 * m + s) w % 100) = true then 0 else u := by
        intro w hw hq
        have hu2 : u = aftN eb hot cool aims dw ex bears mends v (100 * m + s) p.toNat := by rcases hu with z | z; exact z; exact absurd z.1 hq
        rw [valF, if_neg hw, ← hu2]
        by_cases q3 : aims = 3
        · have := h31 q3
          have hub : u ≤ bears := by omega
          simp [q3, hub]
        · simp [q3]
      have hbig : ∀ w : Int, w ≠ 4 → st1.1 < u → ∀ x : Int, x ≤ st1.1 → x < valF eb hot cool aims dw ex bears mends ww (nxT tw sh p) p (100 * m + s) w v := by
        intro w hw hq x hx
        have hu2 : st1.1 < aftN eb hot cool aims dw ex bears mends v (100 * m + s) p.toNat ∧ (aims = 3 → bears < aftN eb hot cool aims dw ex bears mends v (100 * m + s) p.toNat) := by
          rcases hu with z | z
          · rw [← z]; exact ⟨hq, fun q => by have := h31 q; omega⟩
          · exact ⟨z.2.1, fun q => by have := z.2.2 q; omega⟩
        rw [valF, if_neg hw, if_neg (by intro z; have := hu2.2 z.1; omega)]
        omega
      have h4m : ∀ n : Nat, aims = 3 → (of4 aims to en (nxT tw sh p) (fun w => valF eb hot cool aims dw ex bears mends ww (nxT tw sh p) p (100 * m + s) w v) (100 * m + s) st1 n).1 = st1.1 ∨ (of4 aims to en (nxT tw sh p) (fun w => valF eb hot cool aims dw ex bears mends ww (nxT tw sh p) p (100 * m + s) w v) (100 * m + s) st1 n).1 = -1 := by
        intro n q3
        induction n with
        | zero => exact Or.inl rfl
        | succ n ih =>
          simp only [of4, ofp]
          split
          · have := ofr_m3 (to := to) (k := nxT tw sh p (100 * m + s) n) (v := valF eb hot cool aims dw ex bears mends ww (nxT tw sh p) p (100 * m + s) n v) (st := of4 aims to en (nxT tw sh p) (fun w => valF eb hot cool aims dw ex bears mends ww (nxT tw sh p) p (100 * m + s) w v) (100 * m + s) st1 n) q3
            rcases this with z | z
            · rw [z]; exact ih
            · exact Or.inr z
          · exact ih
      have h4n : ∀ n : Nat, (of4 aims to en (nxT tw sh p) (fun w => valF eb hot cool aims dw ex bears mends ww (nxT tw sh p) p (100 * m + s) w v) (100 * m + s) st1 n).1 ≤ st1.1 := by
        intro n
        induction n with
        | zero => exact Int.le_refl _
        | succ n ih =>
          simp only [of4, ofp]
          split
          · have ok := of4_ok (aims := aims) (to := to) (en := en) (nx := nxT tw sh p) (val := fun w => valF eb hot cool aims dw ex bears mends ww (nxT tw sh p) p (100 * m + s) w v) (k := 100 * m + s) (fun w z => by have := hnr w; omega) hS1' (fun w => by have := hvr w; omega) n
            have := ofr_most (aims := aims) (to := to) (k := nxT tw sh p (100 * m + s) n) (hvr n).1 ok.1.1
            omega
          · exact ih
      refine lp_inv (fun i s' => ∃ lw2, s' = (zi (of4 aims to en (nxT tw sh p) (fun w => valF eb hot cool aims dw ex bears mends ww (nxT tw sh p) p (100 * m + s) w v) (100 * m + s) st1 i).1, zi (of4 aims to en (nxT tw sh p) (fun w => valF eb hot cool aims dw ex bears mends ww (nxT tw sh p) p (100 * m + s) w v) (100 * m + s) st1 i).2.1, zi (of4 aims to en (nxT tw sh p) (fun w => valF eb hot cool aims dw ex bears mends ww (nxT tw sh p) p (100 * m + s) w v) (100 * m + s) st1 i).2.2.1, zA (of4 aims to en (nxT tw sh p) (fun w => valF eb hot cool aims dw ex bears mends ww (nxT tw sh p) p (100 * m + s) w v) (100 * m + s) st1 i).2.2.2.1, lw2, zi s, zi en, zi u, zi (m + p), zi i) ∧ LR lw2 (of4 aims to en (nxT tw sh p) (fun w => valF eb hot cool aims dw ex bears mends ww (nxT tw sh p) p (100 * m + s) w v) (100 * m + s) st1 i).2.2.2.2) 4 ?_ ?_ 0 (Nat.zero_le _) ⟨lw1, rfl, hL1⟩
      · rintro s' ⟨lw2, rfl, hl2⟩ kb
        simp (disch := omega) only [wp_X9_goOn_L119, zi_lit, zi_le]
        exact ⟨fun _ => hpost lw2 hl2, fun z => absurd (by decide) z⟩
      · rintro i hi s' ⟨lw2, rfl, hl2⟩ kb hkb
        have ok := of4_ok (aims := aims) (to := to) (en := en) (nx := nxT tw sh p) (val := fun w => valF eb hot cool aims dw ex bears mends ww (nxT tw sh p) p (100 * m + s) w v) (k := 100 * m + s) (fun w z => by have := hnr w; omega) hS1' (fun w => by have := hvr w; omega) i
        have hle2 := h4n i
        have hle3 := h4m i
        have stay : (∀ w : Int, (i : Int) ≤ w → w < 4 → ¬ (0 ≤ nxT tw sh p (100 * m + s) w ∧ nxT tw sh p (100 * m + s) w / 100 ≤ en) ∨ (of4 aims to en (nxT tw sh p) (fun w => valF eb hot cool aims dw ex bears mends ww (nxT tw sh p) p (100 * m + s) w v) (100 * m + s) st1 i).1 < valF eb hot cool aims dw ex bears mends ww (nxT tw sh p) p (100 * m + s) w v) → SR post (of4 aims to en (nxT tw sh p) (fun w => valF eb hot cool aims dw ex bears mends ww (nxT tw sh p) p (100 * m + s) w v) (100 * m + s) st1 i) := by
          intro q
          have := of4_stay (aims := aims) (to := to) (en := en) (nx := nxT tw sh p) (val := fun w => valF eb hot cool aims dw ex bears mends ww (nxT tw sh p) p (100 * m + s) w v) (k := 100 * m + s) (st := st1) (i := i) q (4 - i) (by omega)
          rw [show i + (4 - i) = 4 by omega] at this
          rw [this] at hpost
          exact hpost
        have next : ∀ st2 lw3, st2 = ofp aims to en (nxT tw sh p) (fun w => valF eb hot cool aims dw ex bears mends ww (nxT tw sh p) p (100 * m + s) w v) (100 * m + s) (of4 aims to en (nxT tw sh p) (fun w => valF eb hot cool aims dw ex bears mends ww (nxT tw sh p) p (100 * m + s) w v) (100 * m + s) st1 i) (i : Int) → LR lw3 st2.2.2.2.2 → kb (zi st2.1, zi st2.2.1, zi st2.2.2.1, zA st2.2.2.2.1, lw3, zi s, zi en, zi u, zi (m + p), zi (i + 1)) := by
          intro st2 lw3 e2 l3
          subst e2
          exact hkb _ ⟨lw3, rfl, l3⟩
        generalize of4 aims to en (nxT tw sh p) (fun w => valF eb hot cool aims dw ex bears mends ww (nxT tw sh p) p (100 * m + s) w v) (100 * m + s) st1 i = st2 at *
        have ok1 := ok.1
        simp (disch := omega) only [wp_X9_goOn_L119, zi_lit, zi_le, zi_lt]
        have hnw : ∀ w : Int, (i : Int) ≤ w → w < 4 → w ≠ 4 := fun w _ hw => by omega
        refine ⟨fun z => by omega, fun _ => ⟨fun z => stay (fun w w0 w1 => Or.inr ?_) lw2 hl2, fun z => ⟨fun y => stay (fun w w0 w1 => Or.inl ?_) lw2 hl2, fun y => ?_⟩⟩⟩
        · by_cases hq : st1.1 < u
          · exact hbig w (hnw w w0 w1) hq _ hle2
          · rw [hval w (hnw w w0 w1) hq]
            split
            · next hw3 => have := h31 hw3.1; have := hle3 hw3.1; omega
            · exact z
        · have := hnr w
          have hpl : plen w p = p := by rw [plen, if_neg (hnw w w0 w1)]
          omega
        · refine p_nextTo hnt hnti hs (by omega) ?_
          have hi4 : (i : Int) ≠ 4 := by omega
          have hpl : plen (i : Int) p = p := by rw [plen, if_neg hi4]
          have hsr := stp_rng (s := s) (w := i) hs
          have hnxe : nxT tw sh p (100 * m + s) i = if stp s i = -1 ∨ tw (stp s i) = 1 ∨ sh (100 * (m + p) + stp s i) ≠ 0 then -1 else 100 * (m + p) + stp s i := by
            simp only [nxT, bhd, hkd, hkm, hpl, if_neg hi4]
            by_cases q : stp s i = -1 ∨ tw (stp s i) = 1 ∨ sh (100 * (m + p) + stp s i) ≠ 0
            · rw [if_pos q, if_pos (by rcases q with q | q | q; exact Or.inr (Or.inl q); exact Or.inr (Or.inr (Or.inl q)); exact Or.inr (Or.inr (Or.inr ⟨hi4, q⟩)))]
            · rw [if_neg q, if_neg (by intro r; rcases r with r | r | r | r; omega; exact q (Or.inl r); exact q (Or.inr (Or.inl r)); exact q (Or.inr (Or.inr r.2)))]
          have skip : nxT tw sh p (100 * m + s) i = -1 → kb (zi st2.1, zi st2.2.1, zi st2.2.2.1, zA st2.2.2.2.1, lw2, zi s, zi en, zi u, zi (m + p), zi (i + 1)) := by
            intro q
            exact next st2 lw2 (by rw [ofp, if_neg (by rw [q]; omega)]) hl2
          by_cases q : stp s i = -1 ∨ tw (stp s i) = 1
          · rw [if_pos q]
            refine ⟨fun _ => ?_, fun z => absurd (by decide) z⟩
            simp only [forall_eq, zi_add]
            exact skip (by rw [hnxe, if_pos (by rcases q with q | q; exact Or.inl q; exact Or.inr (Or.inl q))])
          · rw [if_neg q]
            have hg : 0 ≤ stp s i ∧ stp s i < 100 := by
              rcases hsr with z | z
              · exact absurd (Or.inl z) q
              · exact z
            have offer : sh (100 * (m + p) + stp s i) = 0 → wp_X9_goOn_b181 (fun t_most t_cost t_arrival t_reach t_live_words => post t_most t_cost t_arrival t_reach t_live_words) kb eb (zi day) (zi to) (zi hot) (zi cool) (zi wt) (zi aims) dw (zA ex) (zA nt) (zi sl) ww sw (zi p) (zi bears) (zi mends) post (zi st2.1) (zi st2.2.1) (zi st2.2.2.1) (zA st2.2.2.2.1) lw2 (zi s) (zi en) (zi u) (zi (m + p)) (zi i) (zi (stp s i)) := by
              intro hsz
              have hnx2 : nxT tw sh p (100 * m + s) i = 100 * (m + p) + stp s i := by
                rw [hnxe, if_neg]
                intro r
                rcases r with r | r | r
                · exact q (Or.inl r)
                · exact q (Or.inr r)
                · exact r hsz
              have hv2 := hval i hi4 (by omega)
              have e3 : (100 * (m + p) + stp s i) % 100 = stp s i := by omega
              rw [hnx2, e3] at hv2
              have fin : SR (fun a b c d e => kb (a, b, c, d, e, zi s, zi en, zi u, zi (m + p), zi (i + 1))) (ofr aims to st2 (100 * (m + p) + stp s i) (if aims = 3 ∧ watF ww (stp s i) = true then 0 else u)) := by
                intro lw3 hl3
                refine next _ lw3 ?_ hl3
                have c : 0 ≤ nxT tw sh p (100 * m + s) i ∧ nxT tw sh p (100 * m + s) i / 100 ≤ en := by rw [hnx2]; omega
                rw [ofp, if_pos c]
                simp only [hv2, hnx2]
              simp (disch := omega) only [wp_X9_goOn_b181, wp_X9_goOn_b217, wp_X9_goOn_b219, zi_lit, zi_eq, zi_add, forall_eq]
              refine ⟨fun q3 => ?_, fun q3 => ?_⟩
              · rw [if_neg (fun z => q3 z.1)] at fin
                exact p_offer ha hto ok hl2 (by omega) hg (by omega) fin
              · refine p_has (by decide) (by omega) (by omega) ?_
                rw [b2i_zi]
                simp only [b2i_0]
                refine ⟨fun w0 => ?_, fun w0 => ?_⟩
                · rw [if_neg (fun z => by rw [watF, w0] at z; exact absurd z.2 (by decide))] at fin
                  exact p_offer ha hto ok hl2 (by omega) hg (by omega) fin
                · rw [if_pos ⟨q3, by rw [watF]; simpa using w0⟩] at fin
                  exact p_offer ha hto ok hl2 (by omega) hg (by omega) fin
            simp (disch := omega) only [zi_lt, zi_eq, forall_eq, zi_add]
            refine ⟨fun z => by omega, fun _ => ⟨fun z => offer (hsh.2 z _ (by omega) (by omega)), fun z => ?_⟩⟩
            refine p_isShut hsh hd (by omega) hg ?_
            have hiff := hsh.1 (m + p) (stp s i) (by omega) (by omega) hg.1 hg.2
            simp only [b2i_0]
            refine ⟨fun b => ?_, fun b => offer ?_⟩
            · have : hb sw (120 * day + (m + p)) (stp s i) = true := by simpa using b
              exact skip (by rw [hnxe, if_pos (Or.inr (Or.inr (hiff.mp this)))])
            · refine Classical.byContradiction (fun r => ?_)
              rw [hiff.mpr r] at b
              exact absurd b (by decide)
    simp (disch := omega) only [zi_lt, zi_eq, zi_le]
    have hofp4 : SR post (of4 aims to en (nxT tw sh p) (fun w => valF eb hot cool aims dw ex bears mends ww (nxT tw sh p) p (100 * m + s) w v) (100 * m + s) st 4) ∨ (¬ wt = 0 ∧ SR post (of4 aims to en (nxT tw sh p) (fun w => valF eb hot cool aims dw ex bears mends ww (nxT tw sh p) p (100 * m + s) w v) (100 * m + s) (ofp aims to en (nxT tw sh p) (fun w => valF eb hot cool aims dw ex bears mends ww (nxT tw sh p) p (100 * m + s) w v) (100 * m + s) st 4) 4)) := by
      by_cases hw0 : wt = 0
      · rw [if_pos hw0] at h; exact Or.inl h
      · rw [if_neg hw0] at h; exact Or.inr ⟨hw0, h⟩
    have hn4 : nxT tw sh p (100 * m + s) 4 = if m + 1 > 119 then -1 else 100 * (m + 1) + s := by
      simp only [nxT, bhd, hkd, hkm, plen, if_true]
      by_cases q : m + 1 > 119
      · rw [if_pos q, if_pos (Or.inl q)]
      · rw [if_neg q, if_neg (by intro r; rcases r with r | r | r | r; exact q r; omega; exact hst r; exact r.1 rfl)]
    have noWait : (st.1 < aftF eb hot cool aims dw ex bears mends v (100 * m + s) ∨ wt = 0 ∨ en ≤ m) → SR post (of4 aims to en (nxT tw sh p) (fun w => valF eb hot cool aims dw ex bears mends ww (nxT tw sh p) p (100 * m + s) w v) (100 * m + s) st 4) := by
      intro q
      rcases hofp4 with z | ⟨z0, z⟩
      · exact z
      · have e : ofp aims to en (nxT tw sh p) (fun w => valF eb hot cool aims dw ex bears mends ww (nxT tw sh p) p (100 * m + s) w v) (100 * m + s) st 4 = st := by
          rw [ofp]
          split
          · next r =>
            refine ofr_no ?_
            show st.1 < valF eb hot cool aims dw ex bears mends ww (nxT tw sh p) p (100 * m + s) 4 v
            rw [hv4]
            rw [hn4] at r
            rcases q with q | q | q
            · exact q
            · exact absurd q z0
            · split at r <;> omega
          · rfl
        rw [e] at z
        exact z
    refine ⟨fun a1 => step st lw hS hL h3' (noWait (Or.inl a1)), fun a1 => ⟨fun a2 => step st lw hS hL h3' (noWait (Or.inr (Or.inl a2))), fun a2 => ⟨fun a3 => step st lw hS hL h3' (noWait (Or.inr (Or.inr a3))), fun a3 => ?_⟩⟩⟩
    rw [if_neg a2] at h
    have e4 : nxT tw sh p (100 * m + s) 4 = 100 * (m + 1) + s := by rw [hn4, if_neg (by omega)]
    have c4 : 0 ≤ nxT tw sh p (100 * m + s) 4 ∧ nxT tw sh p (100 * m + s) 4 / 100 ≤ en := by rw [e4]; omega
    rw [ofp, if_pos c4] at h
    simp only [hv4, e4] at h
    refine p_offer ha hto hS hL (by omega) hs (by omega) ?_
    intro lw3 hl3
    refine step _ lw3 (ofr_ok hS (by omega) (by omega)) hl3 (fun q => ?_) h
    simp only [ofr]
    split
    · show (if (100 * (m + 1) + s) % 100 = to then _ else st.1) = bears
      rw [if_neg (by omega)]
      exact h3' q
    · exact h3' q
  · rw [gon, if_pos (Or.inr (by rw [hkm]; exact z))] at h; exact h lw hL
end G3
