/-! soon, the reference; ice, pays -/
section SO
variable {pl : Pool} {tw : Int → Int} {vf : Int → Int → Int → Int32} {sl : Int} {kd hg : Int → Int} {wks : Nat → Option Nat} {shw : Nat → Int64} {ex nt : Int → Int} {ww sw gw : Nat → Int64} {op arg : Nat → Int32}
theorem p_reachesSun (hT : twR tw) (hW : wkOk tw) (hC : clR tw op arg vf) {sd : Int} {sy sn shA c0 : Int → Int} (hD : dayI tw vf sd sy sn shA) (hc0 : i32 c0) {wk d m fr to : Int} (hw : (0 ≤ wk ∧ wk < 6) ∧ 0 < tw (382 + 7 * wk)) (hd : 0 ≤ d ∧ d < 4) (hm : 0 ≤ m ∧ m < 120) (hfr : 0 ≤ fr ∧ fr < 100) (hto : -1 ≤ to ∧ to < 100) {facts pile t1 : Nat → Int32} {post : Int32 → (Nat → Int32) → (Nat → Int32) → (Nat → Int32) → (Nat → Int32) → (Nat → Int32) → (Nat → Int32) → (Nat → Int32) → Prop}
    (h : ∀ (sy' sn' shA' c R : Int → Int) (f p : Nat → Int32), dayI tw vf d sy' sn' shA' → i32 c → i32 R → (∀ k, 0 ≤ k → k < 12000 → Rch (nxT tw (shC tw vf d) (tw (383 + 7 * wk))) (csT (snC tw vf d) (tw (383 + 7 * wk))) 5 to (100 * m + fr) k (R k)) → post (zi d) (zA sy') (zA sn') (zA shA') f p (zA c) (zA R)) :
    wp_X12_reachesSun (zA tw) op arg (zi sd) (zA sy) (zA sn) (zA shA) facts pile (zA c0) t1 (zi wk) (zi d) (zi m) (zi fr) (zi to) post := by
  have w := hW wk hw.1.1 hw.1.2 hw.2
  simp only [wp_X12_reachesSun]
  refine p_laysDay hT hC hd hD.1 hD.2.2.1 hD.2.2.2.1 hD.2.2.2.2 hD.2.1 (fun sy' sn' shA' f p i1 i2 dr => ?_)
  obtain ⟨syf, rfl, i3⟩ := zA_ex sy'
  refine p_costsSun i1 hc0 (fun c hc hcs => ?_)
  rw [show (0 : Int32) = zi 0 from rfl]
  refine p_walkerOf (i := 0) hw.1 (by omega) ?_
  rw [show 383 + 7 * wk + 0 = 383 + 7 * wk by omega]
  have hcs2 : ∀ k, 0 ≤ k → k < 12000 → c k = snC tw vf d k ∧ shA' k = shC tw vf d k := fun k a b => ⟨by rw [hcs k a b]; exact (dayR_C dr a b).1, (dayR_C dr a b).2⟩
  have hcB : cB c := fun k a b => by rw [(hcs2 k a b).1]; exact snC_cB tw vf d k a b
  refine p_findReach w.1 hto hT.1 i2 hcB hm hfr (fun R hR hRc => ?_)
  exact h syf sn' shA' c R f p ⟨by omega, i3, i1, i2, fun _ => dr⟩ hc hR (fun k a b => Rch_agr (Agr_T w.1 (fun k a b => (hcs2 k a b).2) (fun k a b => (hcs2 k a b).1)) (Gok_T w.1 hcB) (by omega) (by omega) (hRc k a b))
theorem p_soonR (hT : twR tw) (hW : wkOk tw) (hC : clR tw op arg vf) {sd : Int} {sy sn shA c0 : Int → Int} (hD : dayI tw vf sd sy sn shA) (hc0 : i32 c0) {wk d m fr to sun : Int} (a1 : ir wk) (a2 : ir d) (a3 : ir m) (a4 : ir fr) (a5 : ir to) (a6 : ir sun) {th : Int32} {facts pile t1 : Nat → Int32} {post : Int32 → Int32 → Int32 → (Nat → Int32) → (Nat → Int32) → (Nat → Int32) → (Nat → Int32) → (Nat → Int32) → (Nat → Int32) → (Nat → Int32) → Prop}
    (h : ∀ (sd' : Int) (sy' sn' shA' c' : Int → Int) (f p r : Nat → Int32), dayI tw vf sd' sy' sn' shA' → i32 c' → post (zi (soonV tw vf wk d m fr to sun)) 0 (zi sd') (zA sy') (zA sn') (zA shA') f p (zA c') r) :
    wp_X12_soon (zA tw) op arg th (zi sd) (zA sy) (zA sn) (zA shA) facts pile (zA c0) t1 (zi wk) (zi d) (zi m) (zi fr) (zi to) (zi sun) post := by
  have b6 := a6
  simp only [ir] at b6
  simp only [wp_X12_soon]
  refine p_isTrip hT.1 a1 a2 a3 a4 a5 (fun t => ⟨fun z => absurd z (by decide), fun _ => ?_⟩) (fun t => ⟨fun _ => ?_, fun z => absurd rfl z⟩)
  case refine_2 =>
    rw [soonV, if_neg (fun y => t y.1)] at h
    exact h _ _ _ _ _ _ _ _ hD hc0
  rw [show ((0 : Int32) ≤ zi sun) = (zi 0 ≤ zi sun) from rfl, zi_le (by omega)]
  refine ⟨fun hs0 => ?_, fun hs0 => ?_⟩
  case refine_2 =>
    rw [soonV, if_neg (fun y => hs0 y.2)] at h
    exact h _ _ _ _ _ _ _ _ hD hc0
  rw [soonV, if_pos ⟨t, hs0⟩] at h
  have t' := t
  obtain ⟨t1', t2', t3', t4', t5'⟩ := t'
  have w := hW wk t1'.1.1 t1'.1.2 t1'.2
  refine p_reachesSun hT hW hC hD hc0 t1' t2' t3' t4'.1 (by omega) (fun sy' sn' shA' c R f p hD' hc hR hRc => ?_)
  have G := Gok_T (tw := tw) (sh := shC tw vf d) (c := snC tw vf d) (nw := 5) w.1 (snC_cB tw vf d)
  have early : ∀ ws m' c, pt (nxT tw (shC tw vf d) (tw (383 + 7 * wk))) (csT (snC tw vf d) (tw (383 + 7 * wk))) 5 to ws (100 * m + fr) (100 * m' + to) c → m ≤ m' ∧ 0 ≤ c ∧ c ≤ 119000 := fun ws m' c q => by have := pt_rng G ws _ _ _ (by omega) (by omega) q; omega
  have no : ∀ m', m ≤ m' → m' < 120 → ¬ (R (100 * m' + to) ≤ sun ∧ R (100 * m' + to) < 1000000) → ∀ ws c, pt (nxT tw (shC tw vf d) (tw (383 + 7 * wk))) (csT (snC tw vf d) (tw (383 + 7 * wk))) 5 to ws (100 * m + fr) (100 * m' + to) c → sun < c := by
    intro m' x y z ws c q
    have e := early ws m' c q
    have := (hRc (100 * m' + to) (by omega) (by omega)).2.1 ws c q
    omega
  refine lp_inv (fun i s' => s' = (0, zi d, zA sy', zA sn', zA shA', f, p, zA c, zA R, zi to, zi sun, zi (m + i)) ∧ ∀ m', m ≤ m' → m' < m + i → ¬ (R (100 * m' + to) ≤ sun ∧ R (100 * m' + to) < 1000000)) (120 - m).toNat ?_ ?_ 0 (Nat.zero_le _) ⟨by simp, fun m' x y => by omega⟩
  · rintro s' ⟨rfl, hno⟩ kb
    simp (disch := omega) only [wp_X12_soon_L40, zi_lit, zi_le]
    refine ⟨fun _ => ?_, fun z => by omega⟩
    have e := soonC_eq (vf := vf) (d := d) (p := tw (383 + 7 * wk)) (to := to) (k := 100 * m + fr) (lim := sun) (T := -1) (Or.inl ⟨rfl, fun ws m' c x y q => no m' (early _ _ _ q).1 y (hno m' (early _ _ _ q).1 (by omega)) ws c q⟩)
    have := h d sy' sn' shA' c f p (zA R) hD' hc
    rw [← e] at this
    exact this
  · rintro i hi s' ⟨rfl, hno⟩ kb hkb
    have hni : m + ((i + 1 : Nat) : Int) = m + i + 1 := by omega
    have hRk := hR (100 * (m + i) + to)
    simp (disch := omega) only [wp_X12_soon_L40, forall_eq, zi_lit, zi_mul, zi_add, zi_le, zi_lt, zi_in, zA_get]
    have nxt : ¬ (R (100 * (m + i) + to) ≤ sun ∧ R (100 * (m + i) + to) < 1000000) → kb (zi 0, zi d, zA sy', zA sn', zA shA', f, p, zA c, zA R, zi to, zi sun, zi (m + i + 1)) := by
      intro z
      refine hkb _ ⟨by rw [hni]; rfl, fun m' x y => ?_⟩
      by_cases q : m' = m + i
      · rw [q]; exact z
      · exact hno m' x (by omega)
    refine ⟨fun z => by omega, fun _ => ⟨by omega, fun z => nxt (by omega), fun z => ⟨by omega, fun y => nxt (by omega), fun y => ?_⟩⟩⟩
    obtain ⟨ws, hws⟩ := (hRc (100 * (m + i) + to) (by omega) (by omega)).1 (by omega)
    have e := soonC_eq (vf := vf) (d := d) (p := tw (383 + 7 * wk)) (to := to) (k := 100 * m + fr) (lim := sun) (T := m + i) (Or.inr ⟨by omega, by omega, ⟨ws, _, hws, by omega⟩, fun ws m' c x y q => no m' (early _ _ _ q).1 (by omega) (hno m' (early _ _ _ q).1 (by omega)) ws c q⟩)
    have := h d sy' sn' shA' c f p (zA R) hD' hc
    rw [← e] at this
    exact this
end SO
