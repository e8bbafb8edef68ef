/-! errand: the reference -/
section EQ
variable {tw : Int → Int} {vf : Int → Int → Int → Int32} {op arg : Nat → Int32}
theorem p_reachesSun2 (hT : twR tw) (hW : wkOk tw) (hC : clR tw op arg vf) {sd : Int} {sy sn shA c0 : Int → Int} (hD : dayI tw vf sd sy sn shA) (hc0 : i32 c0) {wk d m fr to : Int} (hw : (0 ≤ wk ∧ wk < 6) ∧ 0 < tw (382 + 7 * wk)) (hd : 0 ≤ d ∧ d < 4) (hm : 0 ≤ m ∧ m < 120) (hfr : 0 ≤ fr ∧ fr < 100) (hto : -1 ≤ to ∧ to < 100) {facts pile t1 : Nat → Int32} {post : Int32 → (Nat → Int32) → (Nat → Int32) → (Nat → Int32) → (Nat → Int32) → (Nat → Int32) → (Nat → Int32) → (Nat → Int32) → Prop}
    (h : ∀ (sy' sn' shA' c R : Int → Int) (f p : Nat → Int32), dayI tw vf d sy' sn' shA' → i32 c → i32 R → (∀ k, 0 ≤ k → k < 12000 → sn' k = snC tw vf d k ∧ c k = snC tw vf d k ∧ shA' k = shC tw vf d k) → (∀ k, 0 ≤ k → k < 12000 → Rch (nxT tw (shC tw vf d) (tw (383 + 7 * wk))) (csT (snC tw vf d) (tw (383 + 7 * wk))) 5 to (100 * m + fr) k (R k)) → post (zi d) (zA sy') (zA sn') (zA shA') f p (zA c) (zA R)) :
    wp_X12_reachesSun (zA tw) op arg (zi sd) (zA sy) (zA sn) (zA shA) facts pile (zA c0) t1 (zi wk) (zi d) (zi m) (zi fr) (zi to) post := by
  have w := hW wk hw.1.1 hw.1.2 hw.2
  simp only [wp_X12_reachesSun]
  refine p_laysDay hT hC hd hD.1 hD.2.2.1 hD.2.2.2.1 hD.2.2.2.2 hD.2.1 (fun sy' sn' shA' f p i1 i2 dr => ?_)
  obtain ⟨syf, rfl, i3⟩ := zA_ex sy'
  refine p_costsSun i1 hc0 (fun c hc hcs => ?_)
  rw [show (0 : Int32) = zi 0 from rfl]
  refine p_walkerOf (i := 0) hw.1 (by omega) ?_
  rw [show 383 + 7 * wk + 0 = 383 + 7 * wk by omega]
  have hcs2 : ∀ k, 0 ≤ k → k < 12000 → c k = snC tw vf d k ∧ shA' k = shC tw vf d k := fun k a b => ⟨by rw [hcs k a b]; exact (dayR_C dr a b).1, (dayR_C dr a b).2⟩
  have hcB : cB c := fun k a b => by rw [(hcs2 k a b).1]; exact snC_cB tw vf d k a b
  refine p_findReach w.1 hto hT.1 i2 hcB hm hfr (fun R hR hRc => ?_)
  exact h syf sn' shA' c R f p ⟨by omega, i3, i1, i2, fun _ => dr⟩ hc hR (fun k a b => ⟨(dayR_C dr a b).1, hcs2 k a b⟩) (fun k a b => Rch_agr (Agr_T w.1 (fun k a b => (hcs2 k a b).2) (fun k a b => (hcs2 k a b).1)) (Gok_T w.1 hcB) (by omega) (by omega) (hRc k a b))
def erb1 (x : Int) : Int := if x = 268435456 then 1000000 else x / 128
def ere1 (x : Int) : Int := if x = 268435456 then 1000000 else x % 128
theorem p_errandR (hT : twR tw) (hW : wkOk tw) (hC : clR tw op arg vf) {sd : Int} {sy sn shA c0 : Int → Int} (hD : dayI tw vf sd sy sn shA) (hc0 : i32 c0) {wk d m fr to st w : Int} (a1 : ir wk) (a2 : ir d) (a3 : ir m) (a4 : ir fr) (a5 : ir to) (a6 : ir st) (a7 : ir w) {th : Int32} {facts pile t1 t2 t3 : Nat → Int32} {post : Int32 → Int32 → Int32 → (Nat → Int32) → (Nat → Int32) → (Nat → Int32) → (Nat → Int32) → (Nat → Int32) → (Nat → Int32) → (Nat → Int32) → (Nat → Int32) → (Nat → Int32) → Prop}
    (h1 : ∀ v, errandO tw vf wk d m fr to st w = some v → ∀ (sd' : Int) (sy' sn' shA' c' : Int → Int) (f p r lc le : Nat → Int32), dayI tw vf sd' sy' sn' shA' → i32 c' → post (zi v) 0 (zi sd') (zA sy') (zA sn') (zA shA') f p (zA c') r lc le)
    (h0 : errandO tw vf wk d m fr to st w = none → ∀ (sd' : Int) (sy' sn' shA' c' : Int → Int) (f p r lc le : Nat → Int32), dayI tw vf sd' sy' sn' shA' → i32 c' → post 0 1 (zi sd') (zA sy') (zA sn') (zA shA') f p (zA c') r lc le) :
    wp_X12_errand (zA tw) op arg th (zi sd) (zA sy) (zA sn) (zA shA) facts pile (zA c0) t1 t2 t3 (zi wk) (zi d) (zi m) (zi fr) (zi to) (zi st) (zi w) post := by
  have b7 := a7
  simp only [ir] at b7
  simp only [wp_X12_errand]
  refine p_isTrip hT.1 a1 a2 a3 a4 a5 (fun t => ⟨fun z => absurd z (by decide), fun _ => ?_⟩) (fun t => ⟨fun _ => h0 (by rw [errandO, if_neg (fun y => t y.1)]) _ _ _ _ _ _ _ _ _ _ hD hc0, fun z => absurd rfl z⟩)
  rw [show (0 : Int32) = zi 0 from rfl, show (60 : Int32) = zi 60 from rfl, show (1 : Int32) = zi 1 from rfl]
  refine p_within a6 (by omega) (by omega) (fun q2 => ⟨fun z => absurd z (by decide), fun _ => ?_⟩) (fun q2 => ⟨fun _ => h0 (by rw [errandO, if_neg (fun y => q2 y.2.1)]) _ _ _ _ _ _ _ _ _ _ hD hc0, fun z => absurd rfl z⟩)
  refine p_within a7 (by omega) (by omega) (fun q3 => ⟨fun _ => ?_, fun z => absurd z (by decide)⟩) (fun q3 => ⟨fun z => absurd rfl z, fun _ => h0 (by rw [errandO, if_neg (fun y => q3 y.2.2.1)]) _ _ _ _ _ _ _ _ _ _ hD hc0⟩)
  have t' := t
  obtain ⟨t1', t2', t3', t4', t5'⟩ := t'
  have wo := hW wk t1'.1.1 t1'.1.2 t1'.2
  refine p_reachesSun2 hT hW hC hD hc0 t1' t2' t3' t4'.1 (by omega) (fun sy' sn' shA' c R f p hD' hc hR hcs hRc => ?_)
  have hcB : cB c := fun k a b => by rw [(hcs k a b).2.1]; exact snC_cB tw vf d k a b
  refine p_walkerOf (i := 0) t1'.1 (by omega) ?_
  rw [show 383 + 7 * wk + 0 = 383 + 7 * wk by omega, show (119 : Int32) = zi 119 from rfl]
  refine p_findLeast (wt := 1) (bym := 119) (nw := 5) wo.1 t4'.1 (by omega) hT.1 hD'.2.2.2.1 hcB (Or.inr rfl) (by decide) (fun lc le j1 j2 _ jB => ?_)
  have hls : ∀ k, 0 ≤ k → k < 12000 → tw (k % 100) ≠ 1 → lc k = lsC tw vf d (tw (383 + 7 * wk)) fr 119 k ∧ (lc k < 1000000 → le k = enC tw vf d (tw (383 + 7 * wk)) fr 119 k) := fun k a b z => lsC_eq (tw := tw) (vf := vf) (d := d) wo.1 (fun k a b => (hcs k a b).2.2) hcB (fun k a b => (hcs k a b).2.1) a b (jB k a b z)
  have rgR : ∀ k, 0 ≤ k → k < 12000 → reC tw vf d (tw (383 + 7 * wk)) to (100 * m + fr) k = R k ∧ (R k < 1000000 → 0 ≤ R k ∧ R k ≤ 119000) := fun k a b => reC_rng wo.1 (by omega) (by omega) (hRc k a b)
  have erR : ∀ n : Nat, erB tw vf d (tw (383 + 7 * wk)) m fr to st n = 268435456 ∨ (0 ≤ erB tw vf d (tw (383 + 7 * wk)) m fr to st n ∧ erB tw vf d (tw (383 + 7 * wk)) m fr to st n < 100000000) ∨ ¬ (m + n + st ≤ 120) := by
    intro n
    induction n with
    | zero => exact Or.inl rfl
    | succ n ih =>
      by_cases hn : m + (n + 1 : Nat) + st ≤ 120
      case neg => exact Or.inr (Or.inr hn)
      rcases ih with ih | ih | ih
      case inr.inr => exact absurd (by omega) ih
      all_goals
        rw [erB]
        by_cases q : erP tw vf d (tw (383 + 7 * wk)) m fr to st n
        case neg => rw [if_neg q]; first | exact Or.inl ih | exact Or.inr (Or.inl ih)
        rw [if_pos q]
        have hl := lsC_rng (tw := tw) (vf := vf) (d := d) (to := fr) (bym := 119) (k := 100 * (m + n + st) + to) wo.1 (by omega) (by omega) q.2
        have hr := rgR (100 * (m + n) + to) (by omega) (by omega)
        have hc := csm_sn (tw := tw) (vf := vf) (d := d) (m := m + n) (s := to) (n := st.toNat) (by omega) t5'.1 (by omega)
        have q1 := q.1
        have es : erS tw vf d (tw (383 + 7 * wk)) m fr to st n = 128 * (reC tw vf d (tw (383 + 7 * wk)) to (100 * m + fr) (100 * (m + n) + to) + csm (snC tw vf d) (m + n) to st.toNat + lsC tw vf d (tw (383 + 7 * wk)) fr 119 (100 * (m + n + st) + to)) + enC tw vf d (tw (383 + 7 * wk)) fr 119 (100 * (m + n + st) + to) := rfl
        have : 0 ≤ erS tw vf d (tw (383 + 7 * wk)) m fr to st n ∧ erS tw vf d (tw (383 + 7 * wk)) m fr to st n < 100000000 := by omega
        split
        · exact Or.inr (Or.inl this)
        · first | exact Or.inl ih | exact Or.inr (Or.inl ih)
  refine lp_for0 (fun n => (zi 1, zi d, zA sy', zA sn', zA shA', f, p, zA c, zA R, zA lc, zA le, zi to, zi st, zi w, zi (erb1 (erB tw vf d (tw (383 + 7 * wk)) m fr to st n)), zi (ere1 (erB tw vf d (tw (383 + 7 * wk)) m fr to st n)), zi (m + n))) (120 - st - m).toNat (by simp only [erB, erb1, ere1]; rw [show m + ((0 : Nat) : Int) = m by omega]; rfl) (fun kb => ?_) (fun i hi kb hkb => ?_)
  · have er := erR (120 - st - m).toNat
    have er' : erB tw vf d (tw (383 + 7 * wk)) m fr to st (120 - st - m).toNat = 268435456 ∨ (0 ≤ erB tw vf d (tw (383 + 7 * wk)) m fr to st (120 - st - m).toNat ∧ erB tw vf d (tw (383 + 7 * wk)) m fr to st (120 - st - m).toNat < 100000000) := by
      by_cases q1 : m + ((120 - st - m).toNat : Int) + st ≤ 120
      · omega
      · left
        rw [show (120 - st - m).toNat = 0 by omega]
        rfl
    simp only [wp_X12_errand_L81, zi_lit, zi_add]
    rw [zi_le (by omega)]
    refine ⟨fun _ => ?_, fun u => absurd (by omega) u⟩
    simp only [wp_X12_errand_b276, zi_lit]
    rcases er' with e | e
    · rw [e]
      refine ⟨fun _ => ⟨fun y => absurd y (by decide), fun _ => h0 (by rw [errandO, if_neg (fun y => by have := y.2.2.2; omega)]) _ _ _ _ _ _ _ _ _ _ hD' hc⟩, fun y => absurd (by decide) y⟩
    · rw [erb1, ere1, if_neg (by omega), if_neg (by omega), zi_le (by omega), zi_eq (by omega)]
      refine ⟨fun y => by omega, fun _ => ⟨fun _ => ⟨fun w0 => ?_, fun w0 => ?_⟩, fun y => absurd (by decide) y⟩⟩
      · exact h1 _ (by rw [errandO, if_pos ⟨t, q2, q3, by omega⟩, if_neg w0]) _ _ _ _ _ _ _ _ _ _ hD' hc
      · exact h1 _ (by rw [errandO, if_pos ⟨t, q2, q3, by omega⟩, if_pos w0]) _ _ _ _ _ _ _ _ _ _ hD' hc
  · have hni : ((i + 1 : Nat) : Int) = (i : Int) + 1 := by omega
    have er := erR i
    have er' : erB tw vf d (tw (383 + 7 * wk)) m fr to st i = 268435456 ∨ (0 ≤ erB tw vf d (tw (383 + 7 * wk)) m fr to st i ∧ erB tw vf d (tw (383 + 7 * wk)) m fr to st i < 100000000) := by omega
    have hr := rgR (100 * (m + i) + to) (by omega) (by omega)
    have hl := hls (100 * (m + i + st) + to) (by omega) (by omega) (by rw [show (100 * (m + (i : Int) + st) + to) % 100 = to by omega]; exact t5'.2)
    have iR := hR (100 * (m + i) + to)
    have ilc := j1 (100 * (m + i + st) + to)
    have ile := j2 (100 * (m + i + st) + to)
    have no : ¬ erP tw vf d (tw (383 + 7 * wk)) m fr to st i → kb (zi 1, zi d, zA sy', zA sn', zA shA', f, p, zA c, zA R, zA lc, zA le, zi to, zi st, zi w, zi (erb1 (erB tw vf d (tw (383 + 7 * wk)) m fr to st i)), zi (ere1 (erB tw vf d (tw (383 + 7 * wk)) m fr to st i)), zi (m + i + 1)) := by
      intro z
      rw [erB, if_neg z, hni, show m + ((i : Int) + 1) = m + i + 1 by omega] at hkb
      exact hkb
    simp (disch := omega) only [wp_X12_errand_L81, forall_eq, zi_lit, zi_add, zi_mul, zi_le, zi_in, zA_get]
    refine ⟨fun u => by omega, fun _ => ⟨by omega, fun u => no (fun z => by have := z.1; omega), fun u => ⟨by omega, fun v => no (fun z => by have := z.2; omega), fun v => ⟨by omega, ?_⟩⟩⟩⟩
    have pP : erP tw vf d (tw (383 + 7 * wk)) m fr to st i := ⟨by omega, by omega⟩
    have hlr := lsC_rng (tw := tw) (vf := vf) (d := d) (to := fr) (bym := 119) (k := 100 * (m + i + st) + to) wo.1 (by omega) (by omega) pP.2
    have hc' := csm_sn (tw := tw) (vf := vf) (d := d) (m := m + i) (s := to) (n := st.toNat) (by omega) t5'.1 (by omega)
    have es : erS tw vf d (tw (383 + 7 * wk)) m fr to st i = 128 * (reC tw vf d (tw (383 + 7 * wk)) to (100 * m + fr) (100 * (m + i) + to) + csm (snC tw vf d) (m + i) to st.toNat + lsC tw vf d (tw (383 + 7 * wk)) fr 119 (100 * (m + i + st) + to)) + enC tw vf d (tw (383 + 7 * wk)) fr 119 (100 * (m + i + st) + to) := rfl
    rw [erB, if_pos pP, hni, show m + ((i : Int) + 1) = m + i + 1 by omega] at hkb
    refine lp_for0 (fun n => (zi 1, zi d, zA sy', zA sn', zA shA', f, p, zA c, zA R, zA lc, zA le, zi to, zi st, zi w, zi (erb1 (erB tw vf d (tw (383 + 7 * wk)) m fr to st i)), zi (ere1 (erB tw vf d (tw (383 + 7 * wk)) m fr to st i)), zi (m + i), zi (100 * (m + i + st) + to), zi (R (100 * (m + i) + to) + lc (100 * (m + i + st) + to) + csm (snC tw vf d) (m + i) to n), zi (m + i + n))) st.toNat (by simp only [csm]; rw [show m + (i : Int) + ((0 : Nat) : Int) = m + i by omega, Int.add_zero]) (fun kb2 => ?_) (fun j hj kb2 hkb2 => ?_)
    · simp (disch := omega) only [wp_X12_errand_L156, zi_add, zi_le]
      refine ⟨fun _ => ?_, fun u => absurd (by omega) u⟩
      have big : wp_X12_errand_b216 (fun t_thrown t_shadeDay t_sunny t_sun t_isShut t_facts t_pile t_cost t_reach t_leastCost t_leastEnd l7 l8 l9 => (zi 1000000 ≤ l8 → (wp_X12_errand_b276 (zA tw) op arg post t_thrown t_shadeDay t_sunny t_sun t_isShut t_facts t_pile t_cost t_reach t_leastCost t_leastEnd l7 l8 l9 (zi 1))) ∧ (¬ zi 1000000 ≤ l8 → (wp_X12_errand_b276 (zA tw) op arg post t_thrown t_shadeDay t_sunny t_sun t_isShut t_facts t_pile t_cost t_reach t_leastCost t_leastEnd l7 l8 l9 (zi 0)))) kb (zA tw) op arg post (zi 1) (zi d) (zA sy') (zA sn') (zA shA') f p (zA c) (zA R) (zA lc) (zA le) (zi to) (zi st) (zi w) (zi (erb1 (erB tw vf d (tw (383 + 7 * wk)) m fr to st i))) (zi (ere1 (erB tw vf d (tw (383 + 7 * wk)) m fr to st i))) (zi (m + i)) (zi (100 * (m + i + st) + to)) (zi (R (100 * (m + i) + to) + lc (100 * (m + i + st) + to) + csm (snC tw vf d) (m + i) to st.toNat)) = kb (zi 1, zi d, zA sy', zA sn', zA shA', f, p, zA c, zA R, zA lc, zA le, zi to, zi st, zi w, zi (R (100 * (m + i) + to) + lc (100 * (m + i + st) + to) + csm (snC tw vf d) (m + i) to st.toNat), zi (le (100 * (m + i + st) + to)), zi (m + i + 1)) := by
        simp (disch := omega) only [wp_X12_errand_b216, wp_X12_errand_b221, wp_X12_errand_b240, forall_eq, zi_lit, zi_add, zi_in, zA_get, zi_eq]
        refine propext ⟨fun y => (y.2 (by decide)).2.2 (by decide), fun y => ⟨fun z => absurd z (by decide), fun _ => ⟨by omega, fun z => absurd z (by decide), fun _ => y⟩⟩⟩
      have lit : wp_X12_errand_b220 (fun t_thrown t_shadeDay t_sunny t_sun t_isShut t_facts t_pile t_cost t_reach t_leastCost t_leastEnd l7 l8 l9 => (zi 1000000 ≤ l8 → (wp_X12_errand_b276 (zA tw) op arg post t_thrown t_shadeDay t_sunny t_sun t_isShut t_facts t_pile t_cost t_reach t_leastCost t_leastEnd l7 l8 l9 (zi 1))) ∧ (¬ zi 1000000 ≤ l8 → (wp_X12_errand_b276 (zA tw) op arg post t_thrown t_shadeDay t_sunny t_sun t_isShut t_facts t_pile t_cost t_reach t_leastCost t_leastEnd l7 l8 l9 (zi 0)))) kb (zA tw) op arg post (zi 1) (zi d) (zA sy') (zA sn') (zA shA') f p (zA c) (zA R) (zA lc) (zA le) (zi to) (zi st) (zi w) (zi (erb1 (erB tw vf d (tw (383 + 7 * wk)) m fr to st i))) (zi (ere1 (erB tw vf d (tw (383 + 7 * wk)) m fr to st i))) (zi (m + i)) (zi (100 * (m + i + st) + to)) (zi (R (100 * (m + i) + to) + lc (100 * (m + i + st) + to) + csm (snC tw vf d) (m + i) to st.toNat)) = kb (zi 1, zi d, zA sy', zA sn', zA shA', f, p, zA c, zA R, zA lc, zA le, zi to, zi st, zi w, zi (erb1 (erB tw vf d (tw (383 + 7 * wk)) m fr to st i)), zi (ere1 (erB tw vf d (tw (383 + 7 * wk)) m fr to st i)), zi (m + i + 1)) := by
        simp (disch := omega) only [wp_X12_errand_b220, wp_X12_errand_b221, wp_X12_errand_b240, forall_eq, zi_lit, zi_add, zi_in, zA_get, zi_eq]
        refine propext ⟨fun y => (y.1 trivial).1 trivial, fun y => ⟨fun _ => ⟨fun _ => y, fun z => absurd trivial z⟩, fun z => absurd trivial z⟩⟩
      have v0 : R (100 * (m + i) + to) + lc (100 * (m + i + st) + to) + csm (snC tw vf d) (m + i) to st.toNat = erS tw vf d (tw (383 + 7 * wk)) m fr to st i / 128 ∧ le (100 * (m + i + st) + to) = erS tw vf d (tw (383 + 7 * wk)) m fr to st i % 128 ∧ 0 ≤ erS tw vf d (tw (383 + 7 * wk)) m fr to st i ∧ erS tw vf d (tw (383 + 7 * wk)) m fr to st i < 100000000 := by
        have := hl.2 (by omega)
        omega
      have yes : erS tw vf d (tw (383 + 7 * wk)) m fr to st i < erB tw vf d (tw (383 + 7 * wk)) m fr to st i → kb (zi 1, zi d, zA sy', zA sn', zA shA', f, p, zA c, zA R, zA lc, zA le, zi to, zi st, zi w, zi (R (100 * (m + i) + to) + lc (100 * (m + i + st) + to) + csm (snC tw vf d) (m + i) to st.toNat), zi (le (100 * (m + i + st) + to)), zi (m + i + 1)) := by
        intro z
        rw [if_pos z, erb1, ere1, if_neg (by omega), if_neg (by omega), ← v0.1, ← v0.2.1] at hkb
        exact hkb
      have nay : ¬ erS tw vf d (tw (383 + 7 * wk)) m fr to st i < erB tw vf d (tw (383 + 7 * wk)) m fr to st i → kb (zi 1, zi d, zA sy', zA sn', zA shA', f, p, zA c, zA R, zA lc, zA le, zi to, zi st, zi w, zi (erb1 (erB tw vf d (tw (383 + 7 * wk)) m fr to st i)), zi (ere1 (erB tw vf d (tw (383 + 7 * wk)) m fr to st i)), zi (m + i + 1)) := by
        intro z
        rw [if_neg z] at hkb
        exact hkb
      have eb1 : ((erB tw vf d (tw (383 + 7 * wk)) m fr to st i = 268435456 ∧ erb1 (erB tw vf d (tw (383 + 7 * wk)) m fr to st i) = 1000000 ∧ ere1 (erB tw vf d (tw (383 + 7 * wk)) m fr to st i) = 1000000) ∨ (0 ≤ erB tw vf d (tw (383 + 7 * wk)) m fr to st i ∧ erB tw vf d (tw (383 + 7 * wk)) m fr to st i < 100000000 ∧ erb1 (erB tw vf d (tw (383 + 7 * wk)) m fr to st i) = erB tw vf d (tw (383 + 7 * wk)) m fr to st i / 128 ∧ ere1 (erB tw vf d (tw (383 + 7 * wk)) m fr to st i) = erB tw vf d (tw (383 + 7 * wk)) m fr to st i % 128)) := by
        rcases er' with e | e
        · exact Or.inl ⟨e, by rw [e]; rfl, by rw [e]; rfl⟩
        · exact Or.inr ⟨e.1, e.2, by rw [erb1, if_neg (by omega)], by rw [ere1, if_neg (by omega)]⟩
      rw [big, lit]
      simp (disch := omega) only [zi_in, zA_get, zi_lt, zi_eq, zi_le]
      refine ⟨fun z => yes (by omega), fun z => ⟨fun y => nay (by omega), fun y => ⟨by omega, fun x => nay (by omega), fun x => yes (by omega)⟩⟩⟩
    · have hnj : ((j + 1 : Nat) : Int) = (j : Int) + 1 := by omega
      have sj := (hcs (100 * (m + i + j) + to) (by omega) (by omega)).1
      have cj := csm_sn (tw := tw) (vf := vf) (d := d) (m := m + i) (s := to) (n := j) (by omega) t5'.1 (by omega)
      have s01 := snC_01 tw vf d (100 * (m + i + j) + to)
      rw [hnj, csm] at hkb2
      simp (disch := omega) only [wp_X12_errand_L156, forall_eq, zi_lit, zi_add, zi_mul, zi_le, zi_in, zA_get, sj]
      refine ⟨fun u => by omega, fun _ => ⟨by omega, ?_⟩⟩
      rw [show m + (i : Int) + ((j : Int) + 1) = m + i + j + 1 by omega, ← Int.add_assoc] at hkb2
      exact hkb2
end EQ
