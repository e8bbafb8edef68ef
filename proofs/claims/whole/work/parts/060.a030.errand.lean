/-! errand: both sides -/
section ER
variable {pl : Pool} {tw : Int → Int} {vf : Int → Int → Int → Int32} {sl : Int} {kd hg : Int → Int} {wks : Nat → Option Nat} {shw : Nat → Int64} {ex nt : Int → Int} {ww sw gw : Nat → Int64} {op arg : Nat → Int32}
noncomputable def reC (tw : Int → Int) (vf : Int → Int → Int → Int32) (d p to k0 k : Int) : Int := rcC (nxT tw (shC tw vf d) p) (csT (snC tw vf d) p) to k0 k
theorem Rch_rng {nx cs : Int → Int → Int} {to k0 k r : Int} (G : Gok nx cs 5) (h0 : 0 ≤ k0) (h1 : k0 < 12000) (h : Rch nx cs 5 to k0 k r) (hr : r < 1000000) : 0 ≤ r ∧ r ≤ 119000 := by
  obtain ⟨ws, hw⟩ := h.1 hr
  have := pt_rng G ws k0 k r h0 h1 hw
  omega
/-- what the search of all finds -/
theorem p_seekAllG (C : CS pl tw vf sl kd hg wks shw ex nt ww sw gw) {wk d m fr to : Int} (hw : (0 ≤ wk ∧ wk < 6) ∧ 0 < tw (382 + 7 * wk)) (hd : 0 ≤ d ∧ d < 4) (hm : 0 ≤ m ∧ m < 120) (hfr : (0 ≤ fr ∧ fr < 100) ∧ tw fr ≠ 1) (hto : -1 ≤ to ∧ to < 100) {dw : Nat → Int64} (hdw : dwR shw dw d) {x1 x2 x3 x4 : Int32} {lw : Nat → Int64} {t1 : Nat → Int32} {post : Int32 → Int32 → Int32 → Int32 → (Nat → Int64) → (Nat → Int32) → Prop}
    (h : ∀ (q : Sst) (lw' : Nat → Int64), (∀ k, 0 ≤ k → k < 12000 → (q.2.2.2.1 k < 1000000 ∧ 0 ≤ q.2.2.2.1 k ∧ q.2.2.2.1 k ≤ 119000 ∧ reC tw vf d (tw (383 + 7 * wk)) to (100 * m + fr) k = q.2.2.2.1 k) ∨ (q.2.2.2.1 k = 268435456 ∧ reC tw vf d (tw (383 + 7 * wk)) to (100 * m + fr) k = 1000000)) → post 0 (zi q.1) (zi q.2.1) (zi q.2.2.1) lw' (zA q.2.2.2.1)) :
    wp_X9_seekAll false (zi d) (zi m) (zi fr) (zi to) 1 0 1 dw (zA ex) (zA nt) (zi sl) ww sw (zi (tw (383 + 7 * wk))) (zi (tw (384 + 7 * wk))) (zi (tw (385 + 7 * wk))) x1 x2 x4 x3 lw t1 post := by
  obtain ⟨c0, rfl, hc0⟩ := zi_ex x4
  have w := C.1.2.1 wk hw.1.1 hw.1.2 hw.2
  have A := CS_ask C (wk := wk) (to := to) (aims := 0) (hot := 1) (cool := 0) (wt := 1) (en := 119) hd hto (by omega) hw (by omega) (by omega) (by omega) (by omega)
  have hcB : cB (costF false 1 0 dw ex) := cB_cost A.2.2.1 A.2.2.2.1 A.2.2.2.2.2.2.1
  have G := Gok_T (tw := tw) (sh := shC tw vf d) (nw := 5) w.1 hcB
  have G2 := Gok_T (tw := tw) (sh := shC tw vf d) (nw := 5) w.1 (snC_cB tw vf d)
  have AG := Agr_symm (CS_agr C (nw := 5) w.1 hd hdw)
  refine p_all A (by decide) hc0 hm hfr.1 hfr.2 rfl (fun q lw' hR hS => h q lw' (fun k a b => ?_))
  rcases hR k a b with ⟨r1, r2, r3⟩ | ⟨r1, r2⟩
  · have r4 := Rch_agr AG G (by omega) (by omega) r3
    have rr := Rch_rng G2 (by omega) (by omega) r4 r1
    exact Or.inl ⟨r1, r2, rr.2, (rcC_eq r4).symm⟩
  · exact Or.inr ⟨r1, (rcC_eq (Rch_agr AG G (by omega) (by omega) r2)).symm⟩
theorem p_aim {m a b : Int} (hm : 0 ≤ m ∧ m < 120) {x1 x2 x3 : Int32} {post : Int32 → Int32 → Int32 → Prop} (h : post (zi m) (zi a) (zi b)) : wp_X9_aim x1 x2 x3 (zi m) (zi a) (zi b) post := by
  simp (disch := omega) only [wp_X9_aim, forall_eq, zi_lit, zi_lt]
  by_cases q : 0 < m
  · rw [if_pos q]; exact h
  · rw [if_neg q, show (0 : Int) = m by omega]; exact h
/-- one choice of the minute there, all in one number: sun times 128 and the minute back -/
noncomputable def erS (tw : Int → Int) (vf : Int → Int → Int → Int32) (d p m fr to st : Int) (n : Int) : Int := 128 * (reC tw vf d p to (100 * m + fr) (100 * (m + n) + to) + csm (snC tw vf d) (m + n) to st.toNat + lsC tw vf d p fr 119 (100 * (m + n + st) + to)) + enC tw vf d p fr 119 (100 * (m + n + st) + to)
def erP (tw : Int → Int) (vf : Int → Int → Int → Int32) (d p m fr to st : Int) (n : Int) : Prop := reC tw vf d p to (100 * m + fr) (100 * (m + n) + to) < 1000000 ∧ lsC tw vf d p fr 119 (100 * (m + n + st) + to) < 1000000
noncomputable def erB (tw : Int → Int) (vf : Int → Int → Int → Int32) (d p m fr to st : Int) : Nat → Int
  | 0 => 268435456
  | n + 1 => @ite Int (erP tw vf d p m fr to st n) (Classical.propDecidable _) (if erS tw vf d p m fr to st n < erB tw vf d p m fr to st n then erS tw vf d p m fr to st n else erB tw vf d p m fr to st n) (erB tw vf d p m fr to st n)
noncomputable def errandO (tw : Int → Int) (vf : Int → Int → Int → Int32) (wk d m fr to st w : Int) : Option Int := @ite (Option Int) (tripP tw wk d m fr to ∧ (0 ≤ st ∧ st ≤ 60) ∧ (0 ≤ w ∧ w ≤ 1) ∧ erB tw vf d (tw (383 + 7 * wk)) m fr to st (120 - st - m).toNat < 268435456) (Classical.propDecidable _) (some (if w = 0 then erB tw vf d (tw (383 + 7 * wk)) m fr to st (120 - st - m).toNat / 128 else erB tw vf d (tw (383 + 7 * wk)) m fr to st (120 - st - m).toNat % 128)) none
theorem reC_rng {p to k0 k d : Int} (hp : 1 ≤ p ∧ p ≤ 3) (h0 : 0 ≤ k0) (h1 : k0 < 12000) {r : Int} (h : Rch (nxT tw (shC tw vf d) p) (csT (snC tw vf d) p) 5 to k0 k r) : reC tw vf d p to k0 k = r ∧ (r < 1000000 → 0 ≤ r ∧ r ≤ 119000) := ⟨(rcC_eq h).symm, fun z => Rch_rng (Gok_T hp (snC_cB tw vf d)) h0 h1 h z⟩
theorem csm_sn {d m s : Int} (hm : 0 ≤ m) (hs : 0 ≤ s ∧ s < 100) {n : Nat} (hn : m + n ≤ 120) : 0 ≤ csm (snC tw vf d) m s n ∧ csm (snC tw vf d) m s n ≤ 1000 * n := csm_rng (snC_cB tw vf d) hm hs n hn
theorem p_errandC (C : CS pl tw vf sl kd hg wks shw ex nt ww sw gw) {wk d m fr to st w : Int} (a1 : ir wk) (a2 : ir d) (a3 : ir m) (a4 : ir fr) (a5 : ir to) (a6 : ir st) (a7 : ir w) {o1 : Nat} {o2 o3 o4 o5 o6 o7 o8 o9 o10 o11 o12 : Int32} {dw0 lw0 : Nat → Int64} {t1 t2 : Nat → Int32} {post : Option Int32 → Nat → Int32 → Int32 → Int32 → Int32 → Int32 → Int32 → Int32 → Int32 → Int32 → Int32 → Int32 → (Nat → Int64) → (Nat → Int64) → (Nat → Int32) → (Nat → Int32) → Prop}
    (h1 : ∀ v, errandO tw vf wk d m fr to st w = some v → ∀ (q1 : Nat) (y2 y3 y4 y5 y6 y7 y8 y9 y10 y11 y12 : Int32) (dw lw : Nat → Int64) (s1 s2 : Nat → Int32), post (some (zi v)) q1 y2 y3 y4 y5 y6 y7 y8 y9 y10 y11 y12 dw lw s1 s2)
    (h0 : errandO tw vf wk d m fr to st w = none → ∀ (q1 : Nat) (y2 y3 y4 y5 y6 y7 y8 y9 y10 y11 y12 : Int32) (dw lw : Nat → Int64) (s1 s2 : Nat → Int32), post none q1 y2 y3 y4 y5 y6 y7 y8 y9 y10 y11 y12 dw lw s1 s2) :
    wp_X11_errand pl (zi sl) (zA kd) wks false shw (zA ex) (zA nt) ww sw gw o1 o2 o3 o4 o5 o6 o7 o8 o9 o10 o11 o12 dw0 lw0 t1 t2 (zi wk) (zi d) (zi m) (zi fr) (zi to) (zi st) (zi w) post := by
  have b6 := a6
  have b7 := a7
  simp only [ir] at b6 b7
  simp only [wp_X11_errand, wp_X11_errand_b37]
  rw [show (zi st < 0) = (zi st < zi 0) from rfl, show (60 < zi st) = (zi 60 < zi st) from rfl, show (zi w < 0) = (zi w < zi 0) from rfl, show (1 < zi w) = (zi 1 < zi w) from rfl, zi_lt (by omega), zi_lt (by omega), zi_lt (by omega), zi_lt (by omega)]
  refine ⟨fun z => h0 (by rw [errandO, if_neg (fun y => by have := y.2.1; omega)]) .., fun z1 => ⟨fun z => h0 (by rw [errandO, if_neg (fun y => by have := y.2.1; omega)]) .., fun z2 => ⟨fun z => h0 (by rw [errandO, if_neg (fun y => by have := y.2.2.1; omega)]) .., fun z3 => ⟨fun z => h0 (by rw [errandO, if_neg (fun y => by have := y.2.2.1; omega)]) .., fun z4 => ?_⟩⟩⟩⟩
  refine p_ready C.1.1 C.1.2.2.1 C.1.2.2.2 a1 a2 a3 a4 a5 (fun t q dw hq hdw => ⟨fun _ => ⟨_, _, _, _, _, _, hq, ?_⟩, fun z => absurd z (by decide)⟩) (fun t => ⟨fun z => absurd rfl z, fun _ => h0 (by rw [errandO, if_neg (fun y => t y.1)]) ..⟩)
  have t' := t
  obtain ⟨t1', t2', t3', t4', t5'⟩ := t'
  have wo := C.1.2.1 wk t1'.1.1 t1'.1.2 t1'.2
  refine p_seekAllG C t1' t2' t3' t4' (by omega) hdw (fun q' lw' hR => ?_)
  refine p_aim t3' ?_
  rw [show (0 : Int32) = zi 0 from rfl]
  refine p_labelG (aims := 0) C t1' t2' t4'.1 (by omega) hdw (by decide) (fun La hLa => ?_)
  have A := CS_ask C (wk := wk) (to := to) (aims := 0) (hot := 1) (cool := 0) (wt := 1) (en := 119) t2' (by omega) (by omega) t1' (by omega) (by omega) (by omega) (by omega)
  have erR : ∀ n : Nat, erB tw vf d (tw (383 + 7 * wk)) m fr to st n = 268435456 ∨ (0 ≤ erB tw vf d (tw (383 + 7 * wk)) m fr to st n ∧ erB tw vf d (tw (383 + 7 * wk)) m fr to st n < 100000000) ∨ ¬ (m + n + st ≤ 120) := by
    intro n
    induction n with
    | zero => exact Or.inl rfl
    | succ n ih =>
      by_cases hn : m + (n + 1 : Nat) + st ≤ 120
      case neg => exact Or.inr (Or.inr hn)
      rcases ih with ih | ih | ih
      case inr.inr => exact absurd (by omega) ih
      all_goals
        rw [erB]
        by_cases q : erP tw vf d (tw (383 + 7 * wk)) m fr to st n
        case neg => rw [if_neg q]; first | exact Or.inl ih | exact Or.inr (Or.inl ih)
        rw [if_pos q]
        have hl := lsC_rng (tw := tw) (vf := vf) (d := d) (to := fr) (bym := 119) (k := 100 * (m + n + st) + to) wo.1 (by omega) (by omega) q.2
        have hr := hR (100 * (m + n) + to) (by omega) (by omega)
        have hc := csm_sn (tw := tw) (vf := vf) (d := d) (m := m + n) (s := to) (n := st.toNat) (by omega) t5'.1 (by omega)
        have q1 := q.1
        have es : erS tw vf d (tw (383 + 7 * wk)) m fr to st n = 128 * (reC tw vf d (tw (383 + 7 * wk)) to (100 * m + fr) (100 * (m + n) + to) + csm (snC tw vf d) (m + n) to st.toNat + lsC tw vf d (tw (383 + 7 * wk)) fr 119 (100 * (m + n + st) + to)) + enC tw vf d (tw (383 + 7 * wk)) fr 119 (100 * (m + n + st) + to) := rfl
        have : 0 ≤ erS tw vf d (tw (383 + 7 * wk)) m fr to st n ∧ erS tw vf d (tw (383 + 7 * wk)) m fr to st n < 100000000 := by omega
        split
        · exact Or.inr (Or.inl this)
        · first | exact Or.inl ih | exact Or.inr (Or.inl ih)
  refine lp_for0 (fun n => (q, zi d, zi m, zi to, zi fr, 1, 0, 1, zi 0, zi q'.1, zi q'.2.1, zi q'.2.2.1, dw, lw', zA q'.2.2.2.1, zA La, zi to, zi st, zi w, zi (erB tw vf d (tw (383 + 7 * wk)) m fr to st n), zi (m + n))) (120 - st - m).toNat (by simp only [erB]; rw [show m + ((0 : Nat) : Int) = m by omega]; rfl) (fun kb => ?_) (fun i hi kb hkb => ?_)
  · have er := erR (120 - st - m).toNat
    simp only [wp_X11_errand_L83, zi_lit, zi_add]
    rw [zi_lt (by omega)]
    refine ⟨fun _ => ?_, fun u => absurd (by omega) u⟩
    by_cases q1 : m + ((120 - st - m).toNat : Int) + st ≤ 120
    case neg =>
      have e0 : (120 - st - m).toNat = 0 := by omega
      rw [zi_lt (by rw [e0]; simp only [erB]; omega)]
      refine ⟨fun u => absurd u (by rw [e0]; simp only [erB]; omega), fun _ => h0 (by rw [errandO, if_neg (fun y => by have := y.2.2.2; rw [e0] at this; simp only [erB] at this; omega)]) ..⟩
    rw [zi_lt (by omega)]
    refine ⟨fun u => ⟨fun v => ?_, fun v => ?_⟩, fun u => h0 (by rw [errandO, if_neg (fun y => u y.2.2.2)]) ..⟩
    · rw [zi_rem (by omega)]
      rw [zi_eq (by omega)] at v
      exact h1 _ (by rw [errandO, if_pos ⟨t, by omega, by omega, u⟩, if_neg v]) ..
    · rw [zi_div (by omega)]
      rw [zi_eq (by omega)] at v
      exact h1 _ (by rw [errandO, if_pos ⟨t, by omega, by omega, u⟩, if_pos v]) ..
  · have hni : ((i + 1 : Nat) : Int) = (i : Int) + 1 := by omega
    have er := erR i
    simp only [wp_X11_errand_L83, zi_lit, zi_add]
    rw [zi_lt (by omega)]
    refine ⟨fun u => by omega, fun _ => ?_⟩
    refine p_reached (by omega) t5'.1 ?_
    refine p_labelled (by omega) (by omega) ?_
    rw [if_pos (by omega)]
    have hr := hR (100 * (m + i) + to) (by omega) (by omega)
    have hl := hLa (100 * (m + i + st) + to) (by omega) (by omega) (by rw [show (100 * (m + (i : Int) + st) + to) % 100 = to by omega]; exact t5'.2)
    have no : ¬ erP tw vf d (tw (383 + 7 * wk)) m fr to st i → kb (q, zi d, zi m, zi to, zi fr, zi 1, zi 0, zi 1, zi 0, zi q'.1, zi q'.2.1, zi q'.2.2.1, dw, lw', zA q'.2.2.2.1, zA La, zi to, zi st, zi w, zi (erB tw vf d (tw (383 + 7 * wk)) m fr to st i), zi (m + i + 1)) := by
      intro z
      rw [erB, if_neg z, hni, show m + ((i : Int) + 1) = m + i + 1 by omega] at hkb
      exact hkb
    rw [zi_le (by omega)]
    refine ⟨fun u => ?_, fun u => ?_⟩
    · simp only [forall_eq]; exact no (fun z => by have := z.1; omega)
    rw [zi_le (by omega)]
    refine ⟨fun v => ?_, fun v => ?_⟩
    · simp only [forall_eq]; exact no (fun z => by have := z.2; omega)
    refine ⟨_, _, _, _, _, _, hq, ?_⟩
    refine p_spent A (by decide) (by omega) (by omega) t5'.1 ?_
    have ec : csm (costF false 1 0 dw ex) (m + i) to st.toNat = csm (snC tw vf d) (m + i) to st.toNat := csm_same _ (fun j hj => CS_cost C t2' hdw (by omega) (by omega))
    have hc := csm_sn (tw := tw) (vf := vf) (d := d) (m := m + i) (s := to) (n := st.toNat) (by omega) t5'.1 (by omega)
    have pP : erP tw vf d (tw (383 + 7 * wk)) m fr to st i := ⟨by omega, by omega⟩
    have es : erS tw vf d (tw (383 + 7 * wk)) m fr to st i = 128 * (reC tw vf d (tw (383 + 7 * wk)) to (100 * m + fr) (100 * (m + i) + to) + csm (snC tw vf d) (m + i) to st.toNat + lsC tw vf d (tw (383 + 7 * wk)) fr 119 (100 * (m + i + st) + to)) + enC tw vf d (tw (383 + 7 * wk)) fr 119 (100 * (m + i + st) + to) := rfl
    rw [erB, if_pos pP, hni, show m + ((i : Int) + 1) = m + i + 1 by omega] at hkb
    rw [ec]
    simp only [forall_eq, zi_add, zi_mul]
    rw [show (q'.2.2.2.1 (100 * (m + i) + to) + csm (snC tw vf d) (m + i) to st.toNat) * 128 + La (100 * (m + i + st) + to) = erS tw vf d (tw (383 + 7 * wk)) m fr to st i by omega]
    have zl := zi_lt (a := erS tw vf d (tw (383 + 7 * wk)) m fr to st i) (b := erB tw vf d (tw (383 + 7 * wk)) m fr to st i) (by omega)
    split at hkb
    next z => rw [if_pos (by rw [zl]; exact z)]; exact hkb
    next z => rw [if_neg (by rw [zl]; exact z)]; exact hkb
end ER
