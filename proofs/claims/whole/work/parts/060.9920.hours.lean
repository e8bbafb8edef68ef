/-! hours, soon: both sides -/
theorem Brs_ex {nx : Int → Int → Int} {val : Int → Int → Int → Int} {to k0 bears : Int} : ∃ T, Brs nx val to k0 bears T := by
  by_cases h : ∃ m : Nat, (m < 120) ∧ ∃ n v, qv nx val 5 to k0 bears 119 n (100 * m + to) v
  · obtain ⟨m0, h0⟩ := h
    obtain ⟨m, ⟨m1, n, v, h1⟩, h2⟩ := least_nat (P := fun m : Nat => (m < 120) ∧ ∃ n v, qv nx val 5 to k0 bears 119 n (100 * m + to) v) m0 h0
    refine ⟨m, Or.inr ⟨by omega, by omega, ⟨n, v, h1⟩, fun n' m' v' a b q => ?_⟩⟩
    have := h2 m'.toNat ⟨by omega, n', v', by rwa [show ((m'.toNat : Nat) : Int) = m' by omega]⟩
    omega
  · exact ⟨-1, Or.inl ⟨rfl, fun n m v a b q => h ⟨m.toNat, by omega, n, v, by rwa [show ((m.toNat : Nat) : Int) = m by omega]⟩⟩⟩
noncomputable def cntC (P : Int → Prop) : Nat → Int
  | 0 => 0
  | n + 1 => cntC P n + @ite Int (P n) (Classical.propDecidable _) 1 0
theorem cntC_rng (P : Int → Prop) : ∀ n : Nat, 0 ≤ cntC P n ∧ cntC P n ≤ n
  | 0 => by simp [cntC]
  | n + 1 => by
    have := cntC_rng P n
    by_cases h : P n
    · rw [cntC, if_pos h]; omega
    · rw [cntC, if_neg h]; omega
section HO
variable {pl : Pool} {tw : Int → Int} {vf : Int → Int → Int → Int32} {sl : Int} {kd hg : Int → Int} {wks : Nat → Option Nat} {shw : Nat → Int64} {ex nt : Int → Int} {ww sw gw : Nat → Int64} {op arg : Nat → Int32}
noncomputable def hoursV (tw : Int → Int) (vf : Int → Int → Int → Int32) (shw ww : Nat → Int64) (wk d fr to : Int) : Int := @ite Int (tripP tw wk d 0 fr to) (Classical.propDecidable _) (cntC (fun m => 0 ≤ brC tw vf shw ww wk d to (100 * m + fr)) 120) (-1)
theorem brC_rng {wk d to k : Int} : -1 ≤ brC tw vf shw ww wk d to k ∧ brC tw vf shw ww wk d to k < 120 := by
  rw [brC]
  split
  · next h =>
    have := Classical.choose_spec h
    rcases this with z | z
    · rw [z.1]; omega
    · omega
  · omega
theorem p_hoursR (C : CS pl tw vf sl kd hg wks shw ex nt ww sw gw) (hC : clR tw op arg vf) {sd : Int} {sy sn shA : Int → Int} (hD : dayI tw vf sd sy sn shA) {wk d fr to : Int} (a1 : ir wk) (a2 : ir d) (a4 : ir fr) (a5 : ir to) {th : Int32} {facts pile t1 : Nat → Int32} {post : Int32 → Int32 → Int32 → (Nat → Int32) → (Nat → Int32) → (Nat → Int32) → (Nat → Int32) → (Nat → Int32) → (Nat → Int32) → Prop}
    (h : ∀ (sd' : Int) (sy' sn' shA' : Int → Int) (f p r : Nat → Int32), dayI tw vf sd' sy' sn' shA' → post (zi (hoursV tw vf shw ww wk d fr to)) 0 (zi sd') (zA sy') (zA sn') (zA shA') f p r) :
    wp_X12_hours (zA tw) op arg th (zi sd) (zA sy) (zA sn) (zA shA) facts pile t1 (zi wk) (zi d) (zi fr) (zi to) post := by
  simp only [wp_X12_hours]
  rw [show (0 : Int32) = zi 0 from rfl]
  refine p_isTrip C.1.1.1 a1 a2 ⟨by decide, by decide⟩ a4 a5 (fun t => ⟨fun _ => ?_, fun z => absurd z (by decide)⟩) (fun t => ⟨fun z => absurd rfl z, fun _ => ?_⟩)
  · have t2 := t.2.1
    refine p_laysDay C.1.1 hC t.2.1 hD.1 hD.2.2.1 hD.2.2.2.1 hD.2.2.2.2 hD.2.1 (fun sy' sn' shA' f p i1 i2 dr => ?_)
    obtain ⟨syf, rfl, i3⟩ := zA_ex sy'
    rw [hoursV, if_pos t] at h
    refine lp_inv (fun i s' => ∃ r, s' = (zi 0, zi d, zA syf, zA sn', zA shA', f, p, r, zi wk, zi fr, zi to, zi (cntC (fun m => 0 ≤ brC tw vf shw ww wk d to (100 * m + fr)) i), zi i)) 120 ?_ ?_ 0 (Nat.zero_le _) ⟨t1, rfl⟩
    · rintro s' ⟨r, rfl⟩ kb
      simp (disch := omega) only [wp_X12_hours_L31, zi_lit, zi_le]
      exact ⟨fun _ => h d syf sn' shA' f p r ⟨by omega, i3, i1, i2, fun _ => dr⟩, fun z => absurd (by decide) z⟩
    · rintro i hi s' ⟨r, rfl⟩ kb hkb
      have hni : ((i + 1 : Nat) : Int) = (i : Int) + 1 := by omega
      have cr := cntC_rng (fun m => 0 ≤ brC tw vf shw ww wk d to (100 * m + fr)) i
      have br := brC_rng (tw := tw) (vf := vf) (shw := shw) (ww := ww) (wk := wk) (d := d) (to := to) (k := 100 * (i : Int) + fr)
      simp (disch := omega) only [wp_X12_hours_L31, zi_lit, zi_le]
      refine ⟨fun z => by omega, fun _ => ?_⟩
      refine p_bearsF C (m := i) ⟨t.1, t2, by omega, t.2.2.2.1, t.2.2.2.2⟩ i2 dr (fun R => ?_)
      simp (disch := omega) only [forall_eq, zi_lt, zi_add]
      refine ⟨fun z => hkb _ ⟨R, ?_⟩, fun z => hkb _ ⟨R, ?_⟩⟩
      · rw [cntC, if_neg (by omega), hni]
      · rw [cntC, if_pos (by omega), hni]
  · have := h sd sy sn shA facts pile t1 hD
    rwa [hoursV, if_neg t] at this
theorem p_hoursC (C : CS pl tw vf sl kd hg wks shw ex nt ww sw gw) {wk d fr to : Int} (a1 : ir wk) (a2 : ir d) (a4 : ir fr) (a5 : ir to) {o1 : Nat} {o2 o3 o4 o5 o6 o7 o8 o9 : Int32} {dw0 : Nat → Int64} {t1 : Nat → Int32} {post : Int32 → Nat → Int32 → Int32 → Int32 → Int32 → Int32 → Int32 → Int32 → Int32 → (Nat → Int64) → (Nat → Int32) → Prop}
    (h : ∀ (q1 : Nat) (y2 y3 y4 y5 y6 y7 y8 y9 : Int32) (dw : Nat → Int64) (s1 : Nat → Int32), post (zi (hoursV tw vf shw ww wk d fr to)) q1 y2 y3 y4 y5 y6 y7 y8 y9 dw s1) :
    wp_X11_hours pl (zA kd) wks shw gw (zA nt) sw ww o1 o2 o3 o4 o5 o6 o7 o8 o9 dw0 t1 (zi wk) (zi d) (zi fr) (zi to) post := by
  simp only [wp_X11_hours]
  rw [show (0 : Int32) = zi 0 from rfl]
  refine p_ready C.1.1 C.1.2.2.1 C.1.2.2.2 a1 a2 ⟨by decide, by decide⟩ a4 a5 (fun t q dw hq hdw => ⟨fun _ => ⟨_, _, _, _, _, _, hq, ?_⟩, fun z => absurd z (by decide)⟩) (fun t => ⟨fun z => absurd rfl z, fun _ => ?_⟩)
  · rw [hoursV, if_pos t] at h
    obtain ⟨t1', t2', t3', t4', t5'⟩ := t
    have w := C.1.2.1 wk t1'.1.1 t1'.1.2 t1'.2
    have A := CS_ask C (wk := wk) (to := to) (aims := 3) (hot := 1) (cool := 0) (wt := 1) (en := 119) t2' (by omega) (by omega) t1' (by omega) (by omega) (by omega) (by omega)
    refine p_allowHeat (ww := ww) (dw := dw) A t5'.1 C.2.2.2.2.2.2.2.2 (fun La hLa => ?_)
    have key : ∀ m, 0 ≤ m → m < 120 → (0 ≤ La (100 * m + fr) ↔ 0 ≤ brC tw vf shw ww wk d to (100 * m + fr)) := by
      intro m m0 m1
      obtain ⟨T, hT⟩ := Brs_ex (nx := nxT tw (shC tw vf d) (tw (383 + 7 * wk))) (val := fun k w v => hV dw (tw (384 + 7 * wk)) (tw (385 + 7 * wk)) ww (nxT tw (shC tw vf d) (tw (383 + 7 * wk))) (tw (383 + 7 * wk)) k w v) (to := to) (k0 := 100 * m + fr) (bears := tw (384 + 7 * wk))
      have e := brC_eq (vf := vf) (shw := shw) t2' hdw w.1 (fun k a b => rfl) (by omega) (by omega) hT
      rw [← e]
      exact allow_brs w.1 (by omega) (by omega) t5'.1 (by omega) (by omega) ((hLa (100 * m + fr) (by omega) (by omega)).2 (by rw [show (100 * m + fr) % 100 = fr by omega]; exact t4'.2)) hT
    refine lp_for0 (fun i => (q, zi d, zi 0, zi fr, zi to, 1, zi 0, 1, zi 0, dw, zA La, zi fr, zi (cntC (fun m => 0 ≤ brC tw vf shw ww wk d to (100 * m + fr)) i), zi i)) 120 rfl (fun kb => ?_) (fun i hi kb hkb => ?_)
    · simp (disch := omega) only [wp_X11_hours_L28, zi_lit, zi_lt]
      exact ⟨fun _ => h _ _ _ _ _ _ _ _ _ _ _, fun z => absurd (by decide) z⟩
    · have hni : ((i + 1 : Nat) : Int) = (i : Int) + 1 := by omega
      have cr := cntC_rng (fun m => 0 ≤ brC tw vf shw ww wk d to (100 * m + fr)) i
      have kk := key i (by omega) (by omega)
      have rr := (hLa (100 * i + fr) (by omega) (by omega)).1
      rw [hni, cntC] at hkb
      simp (disch := omega) only [wp_X11_hours_L28, zi_lit, zi_lt]
      refine ⟨fun z => by omega, fun _ => ?_⟩
      refine p_labelled (by omega) (by omega) ?_
      rw [if_pos (by omega)]
      simp (disch := omega) only [forall_eq, zi_lt, zi_add]
      refine ⟨fun z => ?_, fun z => ?_⟩
      · rw [if_neg (by omega), Int.add_zero] at hkb; exact hkb
      · rw [if_pos (by omega)] at hkb; exact hkb
  · rw [hoursV, if_neg t] at h
    exact h _ _ _ _ _ _ _ _ _ _ _
end HO
