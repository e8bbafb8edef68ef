/-! leave: both sides -/
section LV
variable {pl : Pool} {tw : Int → Int} {vf : Int → Int → Int → Int32} {sl : Int} {kd hg : Int → Int} {wks : Nat → Option Nat} {shw : Nat → Int64} {ex nt : Int → Int} {ww sw gw : Nat → Int64} {op arg : Nat → Int32}
/-- labels of all nodes behind a minute -/
theorem p_labelG (C : CS pl tw vf sl kd hg wks shw ex nt ww sw gw) {wk d to lo : Int} (hw : (0 ≤ wk ∧ wk < 6) ∧ 0 < tw (382 + 7 * wk)) (hd : 0 ≤ d ∧ d < 4) (hto : 0 ≤ to ∧ to < 100) (hlo : 0 ≤ lo ∧ lo ≤ 119) {dw : Nat → Int64} (hdw : dwR shw dw d) {aims : Int} (ha : 0 ≤ aims ∧ aims < 3) {t1 : Nat → Int32} {lw0 : Nat → Int64} {post : (Nat → Int32) → Prop}
    (h : ∀ La : Int → Int, (∀ k, 100 * lo ≤ k → k < 12000 → tw (k % 100) ≠ 1 → (La k = 268435456 ∧ ¬ lsC tw vf d (tw (383 + 7 * wk)) to 119 k < 1000000) ∨ (La k = 128 * lsC tw vf d (tw (383 + 7 * wk)) to 119 k + enC tw vf d (tw (383 + 7 * wk)) to 119 k ∧ lsC tw vf d (tw (383 + 7 * wk)) to 119 k < 1000000 ∧ 0 ≤ lsC tw vf d (tw (383 + 7 * wk)) to 119 k ∧ lsC tw vf d (tw (383 + 7 * wk)) to 119 k ≤ 119000 ∧ 0 ≤ enC tw vf d (tw (383 + 7 * wk)) to 119 k ∧ enC tw vf d (tw (383 + 7 * wk)) to 119 k ≤ 119)) → post (zA La)) :
    wp_X9_labelBack false (zi d) (zi to) 1 0 (zi aims) gw (zA nt) (zi sl) sw dw (zA ex) lw0 (zi (tw (383 + 7 * wk))) (zi (tw (384 + 7 * wk))) (zi (tw (385 + 7 * wk))) t1 (zi lo) 119 0 post := by
  have w := C.1.2.1 wk hw.1.1 hw.1.2 hw.2
  have A := CS_ask C (wk := wk) (to := to) (aims := aims) (hot := 1) (cool := 0) (wt := 1) (en := 119) hd (by omega) (by omega) hw (by omega) (by omega) (by omega) (by omega)
  have hcB : cB (costF false 1 0 dw ex) := cB_cost A.2.2.1 A.2.2.2.1 A.2.2.2.2.2.2.1
  obtain ⟨La0, rfl, -⟩ := zA_ex t1
  have gr := C.2.2.2.2.2.2.2.2
  refine p_labelBack (fo := 0) (D := fun j => decide (tw (j % 100) ≠ 1)) (eb := false) (dw := dw) (gw := gw) (hot := 1) (cool := 0) (hi := 119) A (by omega) (by decide) ⟨fun _ m s a b c e => ?_, fun z => absurd rfl z⟩ (fun k a b z => by simpa using z) hlo.1 hlo.2 (by omega) (fun La hLa hO _ => ?_)
  · rw [gr s c e]
    by_cases hs : s < 100
    · show _ = (decide (s < 100) && decide (tw ((100 * m + s) % 100) ≠ 1))
      rw [show (100 * m + s) % 100 = s by omega]
    · rw [decide_eq_false hs]; rfl
  have AG : Agr (nxD (nxT tw (shC tw vf d) (tw (383 + 7 * wk))) (fun j => decide (tw (j % 100) ≠ 1)) 119) (csT (costF false 1 0 dw ex) (tw (383 + 7 * wk))) (nxT tw (shC tw vf d) (tw (383 + 7 * wk))) (csT (snC tw vf d) (tw (383 + 7 * wk))) 5 := by
    intro k w0 a b c e
    have ag := Agr_symm (CS_agr C (nw := 5) w.1 hd hdw) k w0 a b c e
    have key : nxD (nxT tw (shC tw vf d) (tw (383 + 7 * wk))) (fun j => decide (tw (j % 100) ≠ 1)) 119 k w0 = nxT tw (shC tw vf d) (tw (383 + 7 * wk)) k w0 := by
      rw [nxD]
      by_cases q : 0 ≤ nxT tw (shC tw vf d) (tw (383 + 7 * wk)) k w0
      · have nk := nxT_ok w.1 a b q
        rw [if_pos ⟨by simpa using nk.2.2.1, q, by omega⟩]
      · rw [if_neg (fun z => q z.2.1)]
        have := bhd_rng (tw := tw) (sh := shC tw vf d) (w := w0) w.1 (show 0 ≤ k / 100 ∧ k / 100 < 120 by omega) (show 0 ≤ k % 100 ∧ k % 100 < 100 by omega)
        have eb : bhd tw (shC tw vf d) (tw (383 + 7 * wk)) (k / 100) (k % 100) w0 = nxT tw (shC tw vf d) (tw (383 + 7 * wk)) k w0 := rfl
        rw [eb] at this
        omega
    rw [key]
    exact ⟨rfl, ag.2⟩
  have G5 : Gok (nxD (nxT tw (shC tw vf d) (tw (383 + 7 * wk))) (fun j => decide (tw (j % 100) ≠ 1)) 119) (csT (costF false 1 0 dw ex) (tw (383 + 7 * wk))) 5 := Gok_agr (Agr_symm AG) (Gok_T w.1 (snC_cB tw vf d))
  refine h La (fun k a b c => ?_)
  have o := (hO k (by omega) b (by omega) (by omega)).1 (by simpa using c)
  rcases o with ⟨o1, o2⟩ | ⟨c', e, o1, o2, o3⟩
  · have e1 := Bst_uni (Bst_agr AG G5 (by omega) b o2) (lsC_ok (tw := tw) (vf := vf) (d := d) (to := to) (bym := 119) w.1 (by omega) b)
    exact Or.inl ⟨o1, by omega⟩
  · have e1 := Bst_uni (Bst_agr AG G5 (by omega) b o3) (lsC_ok (tw := tw) (vf := vf) (d := d) (to := to) (bym := 119) w.1 (by omega) b)
    have e2 := e1.2 o2
    have rg := lsC_rng (tw := tw) (vf := vf) (d := d) (to := to) (bym := 119) (k := k) w.1 (by omega) b (by omega)
    exact Or.inr (by omega)
/-- the best and the worst minute to leave -/
def lvF (v : Int → Int) (a : Int) : Nat → Int × Int
  | 0 => (-1, -1)
  | n + 1 => if v (a + n) < 1000000 then ((if (lvF v a n).1 < 0 ∨ v (a + n) < v (lvF v a n).1 then a + n else (lvF v a n).1), (if (lvF v a n).2 < 0 ∨ v (lvF v a n).2 < v (a + n) then a + n else (lvF v a n).2)) else lvF v a n
theorem lvF_rng {v : Int → Int} {a : Int} (ha : 0 ≤ a) : ∀ n : Nat, ((lvF v a n).1 = -1 ∧ (lvF v a n).2 = -1) ∨ ((a ≤ (lvF v a n).1 ∧ (lvF v a n).1 < a + n ∧ v (lvF v a n).1 < 1000000) ∧ (a ≤ (lvF v a n).2 ∧ (lvF v a n).2 < a + n ∧ v (lvF v a n).2 < 1000000))
  | 0 => by simp [lvF]
  | n + 1 => by
    have ih := lvF_rng (v := v) ha n
    rw [lvF]
    by_cases q : v (a + n) < 1000000
    · rw [if_pos q]
      right
      refine ⟨?_, ?_⟩
      · show a ≤ (if (lvF v a n).1 < 0 ∨ v (a + n) < v (lvF v a n).1 then a + n else (lvF v a n).1) ∧ (if (lvF v a n).1 < 0 ∨ v (a + n) < v (lvF v a n).1 then a + n else (lvF v a n).1) < a + ((n + 1 : Nat) : Int) ∧ v (if (lvF v a n).1 < 0 ∨ v (a + n) < v (lvF v a n).1 then a + n else (lvF v a n).1) < 1000000
        by_cases z : (lvF v a n).1 < 0 ∨ v (a + n) < v (lvF v a n).1
        · rw [if_pos z]; omega
        · rw [if_neg z]; omega
      · show a ≤ (if (lvF v a n).2 < 0 ∨ v (lvF v a n).2 < v (a + n) then a + n else (lvF v a n).2) ∧ (if (lvF v a n).2 < 0 ∨ v (lvF v a n).2 < v (a + n) then a + n else (lvF v a n).2) < a + ((n + 1 : Nat) : Int) ∧ v (if (lvF v a n).2 < 0 ∨ v (lvF v a n).2 < v (a + n) then a + n else (lvF v a n).2) < 1000000
        by_cases z : (lvF v a n).2 < 0 ∨ v (lvF v a n).2 < v (a + n)
        · rw [if_pos z]; omega
        · rw [if_neg z]; omega
    · rw [if_neg q]; omega
def lvA (v : Int → Int) (r : Int × Int) (what : Int) : Int := if what = 0 then r.1 else if what = 1 then (if r.1 < 0 then -1 else v r.1) else if what = 2 then r.2 else (if r.2 < 0 then -1 else v r.2)
noncomputable def leaveV (tw : Int → Int) (vf : Int → Int → Int → Int32) (wk d fi la fr to what : Int) : Int := @ite Int (tripP tw wk d fi fr to ∧ (0 ≤ la ∧ la < 120) ∧ 0 ≤ what ∧ what ≤ 3) (Classical.propDecidable _) (lvA (fun m => lsC tw vf d (tw (383 + 7 * wk)) to 119 (100 * m + fr)) (lvF (fun m => lsC tw vf d (tw (383 + 7 * wk)) to 119 (100 * m + fr)) fi (la + 1 - fi).toNat) what) (-1)
theorem p_leaveR (hT : twR tw) (hW : wkOk tw) (hC : clR tw op arg vf) {sd : Int} {sy sn shA c0 : Int → Int} (hD : dayI tw vf sd sy sn shA) (hc0 : i32 c0) {wk d fi la fr to what : Int} (a1 : ir wk) (a2 : ir d) (a3 : ir fi) (a4 : ir la) (a5 : ir fr) (a6 : ir to) (a7 : ir what) {th : Int32} {facts pile t1 t2 : Nat → Int32} {post : Int32 → Int32 → Int32 → (Nat → Int32) → (Nat → Int32) → (Nat → Int32) → (Nat → Int32) → (Nat → Int32) → (Nat → Int32) → (Nat → Int32) → (Nat → Int32) → Prop}
    (h : ∀ (sd' : Int) (sy' sn' shA' c' : Int → Int) (f p lc le : Nat → Int32), dayI tw vf sd' sy' sn' shA' → i32 c' → post (zi (leaveV tw vf wk d fi la fr to what)) 0 (zi sd') (zA sy') (zA sn') (zA shA') f p (zA c') lc le) :
    wp_X12_leave (zA tw) op arg th (zi sd) (zA sy) (zA sn) (zA shA) facts pile (zA c0) t1 t2 (zi wk) (zi d) (zi fi) (zi la) (zi fr) (zi to) (zi what) post := by
  simp only [wp_X12_leave]
  rw [show (0 : Int32) = zi 0 from rfl, show (3 : Int32) = zi 3 from rfl]
  refine p_isTrip hT.1 a1 a2 a3 a5 a6 (fun t => ⟨fun z => absurd z (by decide), fun _ => ?_⟩) (fun t => ⟨fun _ => ?_, fun z => absurd rfl z⟩)
  case refine_2 =>
    rw [leaveV, if_neg (fun y => t y.1)] at h
    exact h _ _ _ _ _ _ _ _ _ hD hc0
  refine p_isMinuteR a4 (fun hla => ⟨fun z => absurd z (by decide), fun _ => ?_⟩) (fun hla => ⟨fun _ => ?_, fun z => absurd rfl z⟩)
  case refine_2 =>
    rw [leaveV, if_neg (fun y => hla y.2.1)] at h
    exact h _ _ _ _ _ _ _ _ _ hD hc0
  refine p_within a7 (by omega) (by omega) (fun hw => ⟨fun _ => ?_, fun z => absurd z (by decide)⟩) (fun hw => ⟨fun z => absurd rfl z, fun _ => ?_⟩)
  case refine_2 =>
    rw [leaveV, if_neg (fun y => hw y.2.2)] at h
    exact h _ _ _ _ _ _ _ _ _ hD hc0
  rw [leaveV, if_pos ⟨t, hla, hw⟩] at h
  have t' := t
  obtain ⟨t1', t2', t3', t4', t5'⟩ := t'
  have w := hW wk t1'.1.1 t1'.1.2 t1'.2
  refine p_findSun hT hW hC hD hc0 t (fun sy' sn' shA' c lc le f p hD' hc hcs i1 i2 hB => ?_)
  have hcB : cB c := fun k a b => by rw [(hcs k a b).1]; exact snC_cB tw vf d k a b
  have val : ∀ m, 0 ≤ m → m < 120 → lc (100 * m + fr) = lsC tw vf d (tw (383 + 7 * wk)) to 119 (100 * m + fr) := fun m m0 m1 => (lsC_eq (tw := tw) (vf := vf) (d := d) w.1 (fun k a b => (hcs k a b).2) hcB (fun k a b => (hcs k a b).1) (k := 100 * m + fr) (by omega) (by omega) (hB _ (by omega) (by omega) (by rw [show (100 * m + fr) % 100 = fr by omega]; exact t4'.2))).1
  have fin := h d sy' sn' shA' c f p (zA lc) (zA le) hD' hc
  generalize hv : (fun m => lsC tw vf d (tw (383 + 7 * wk)) to 119 (100 * m + fr)) = v at fin
  have val' : ∀ m, 0 ≤ m → m < 120 → lc (100 * m + fr) = v m := fun m m0 m1 => by rw [val m m0 m1, ← hv]
  refine lp_for0 (fun n => (zi 0, zi d, zA sy', zA sn', zA shA', f, p, zA c, zA lc, zA le, zi la, zi fr, zi what, zi (lvF v fi n).1, zi (lvF v fi n).2, zi (fi + n))) (la + 1 - fi).toNat (by simp [lvF]; rfl) (fun kb => ?_) (fun n hn kb hkb => ?_)
  · have rg := lvF_rng (v := v) (a := fi) (by omega) (la + 1 - fi).toNat
    generalize hr : lvF v fi (la + 1 - fi).toNat = r at *
    have rr : (r.1 = -1 ∨ (0 ≤ r.1 ∧ r.1 < 120)) ∧ (r.2 = -1 ∨ (0 ≤ r.2 ∧ r.2 < 120)) := by omega
    simp (disch := omega) only [wp_X12_leave_L56, wp_X12_leave_b169, zi_lit, zi_lt, zi_le]
    refine ⟨fun _ => ⟨fun z => ⟨fun y => ?_, fun y => ?_⟩, fun z => ⟨fun y => ?_, fun y => ?_⟩⟩, fun z => by omega⟩
    · have l1 := i1 (100 * r.2 + fr)
      have e1 := val' r.2 (by omega) (by omega)
      simp (disch := omega) only [forall_eq, zi_rem, zi_eq, zi_mul, zi_add, zi_in, zA_get, e1]
      refine ⟨fun x => ⟨by omega, ?_⟩, fun x => ?_⟩
      · rw [lvA, if_neg (by omega), if_neg (by omega), if_neg (by omega), if_neg (by omega)] at fin; exact fin
      · rw [lvA, if_neg (by omega), if_neg (by omega), if_pos (by omega)] at fin; exact fin
    · rw [lvA, if_neg (by omega), if_neg (by omega)] at fin
      by_cases x : what = 2
      · rw [if_pos x, show r.2 = -1 by omega] at fin; exact fin
      · rw [if_neg x, if_pos (by omega)] at fin; exact fin
    · have l1 := i1 (100 * r.1 + fr)
      have e1 := val' r.1 (by omega) (by omega)
      simp (disch := omega) only [forall_eq, zi_rem, zi_eq, zi_mul, zi_add, zi_in, zA_get, e1]
      refine ⟨fun x => ⟨by omega, ?_⟩, fun x => ?_⟩
      · rw [lvA, if_neg (by omega), if_pos (by omega), if_neg (by omega)] at fin; exact fin
      · rw [lvA, if_pos (by omega)] at fin; exact fin
    · rw [lvA] at fin
      by_cases x : what = 0
      · rw [if_pos x, show r.1 = -1 by omega] at fin; exact fin
      · rw [if_neg x, if_pos (by omega), if_pos (by omega)] at fin; exact fin
  · have hni : fi + ((n + 1 : Nat) : Int) = fi + n + 1 := by omega
    have rg := lvF_rng (v := v) (a := fi) (by omega) n
    have l1 := i1 (100 * (fi + n) + fr)
    have e0 := val' (fi + n) (by omega) (by omega)
    rw [hni, lvF] at hkb
    generalize hr : lvF v fi n = r at *
    have rr : (r.1 = -1 ∨ (0 ≤ r.1 ∧ r.1 < 120)) ∧ (r.2 = -1 ∨ (0 ≤ r.2 ∧ r.2 < 120)) := by omega
    have lb := i1 (100 * r.1 + fr)
    have lw := i1 (100 * r.2 + fr)
    have e1 := val' r.1
    have e2 := val' r.2
    simp (disch := omega) only [wp_X12_leave_L56, forall_eq, zi_lit, zi_lt, zi_le, zi_mul, zi_add, zi_in, zA_get, e0]
    have wst : ∀ s : Int, v (fi + n) < 1000000 → s = (if r.1 < 0 ∨ v (fi + n) < v r.1 then fi + n else r.1) → wp_X12_leave_b116 (fun t_thrown t_shadeDay t_sunny t_sun t_isShut t_facts t_pile t_cost t_leastCost t_leastEnd l5 l7 l8 l9 => (zi 2 ≤ l7 → (wp_X12_leave_b169 (zA tw) op arg post t_thrown t_shadeDay t_sunny t_sun t_isShut t_facts t_pile t_cost t_leastCost t_leastEnd l5 l7 l9)) ∧ (¬ zi 2 ≤ l7 → (wp_X12_leave_b169 (zA tw) op arg post t_thrown t_shadeDay t_sunny t_sun t_isShut t_facts t_pile t_cost t_leastCost t_leastEnd l5 l7 l8))) kb (zA tw) op arg post (zi 0) (zi d) (zA sy') (zA sn') (zA shA') f p (zA c) (zA lc) (zA le) (zi la) (zi fr) (zi what) (zi r.2) (zi (fi + n)) (zi (v (fi + n))) (zi s) := by
      intro s hv1 hs
      rw [if_pos hv1, ← hs] at hkb
      simp (disch := omega) only [wp_X12_leave_b116, forall_eq, zi_lit, zi_lt, zi_add]
      refine ⟨fun y => ?_, fun y => ?_⟩
      · rw [if_pos (Or.inl y)] at hkb; exact hkb
      · have e2' := e2 (by omega) (by omega)
        simp (disch := omega) only [zi_mul, zi_add, zi_in, zA_get, e2', zi_le]
        refine ⟨by omega, fun x => ?_, fun x => ?_⟩
        · rw [if_neg (by omega)] at hkb; exact hkb
        · rw [if_pos (by omega)] at hkb; exact hkb
    refine ⟨fun z => by omega, fun _ => ⟨by omega, fun z => ?_, fun z => ⟨fun y => ?_, fun y => ?_⟩⟩⟩
    · rw [if_neg (by omega)] at hkb; exact hkb
    · simp only [wp_X12_leave_b109]
      exact wst _ (by omega) (by rw [if_pos (Or.inl y)])
    · have e1' := e1 (by omega) (by omega)
      simp (disch := omega) only [zi_mul, zi_add, zi_in, zA_get, e1', zi_le, wp_X12_leave_b109]
      refine ⟨by omega, fun x => ?_, fun x => ?_⟩
      · exact wst _ (by omega) (by rw [if_neg (by omega)])
      · exact wst _ (by omega) (by rw [if_pos (by omega)])
theorem p_isMinuteC {d : Int} (hd : ir d) {post : Int32 → Prop} (h1 : 0 ≤ d ∧ d < 120 → post 1) (h0 : ¬ (0 ≤ d ∧ d < 120) → post 0) : wp_X11_isMinute (zi d) post := by
  have := hd
  simp only [ir] at this
  simp (disch := omega) only [wp_X11_isMinute, zi_lit, zi_lt, zi_le]
  refine ⟨fun z => ?_, fun z => ?_⟩ <;> first | exact h0 (by omega) | skip
  refine ⟨fun y => ?_, fun y => ?_⟩ <;> first | exact h0 (by omega) | exact h1 (by omega)
theorem p_leaveC (C : CS pl tw vf sl kd hg wks shw ex nt ww sw gw) {wk d fi la fr to what : Int} (a1 : ir wk) (a2 : ir d) (a3 : ir fi) (a4 : ir la) (a5 : ir fr) (a6 : ir to) (a7 : ir what) {o1 : Nat} {o2 o3 o4 o5 o6 o7 o8 o9 : Int32} {dw0 lw0 : Nat → Int64} {t1 : Nat → Int32} {post : Int32 → Nat → Int32 → Int32 → Int32 → Int32 → Int32 → Int32 → Int32 → Int32 → (Nat → Int64) → (Nat → Int32) → Prop}
    (h : ∀ (q1 : Nat) (y2 y3 y4 y5 y6 y7 y8 y9 : Int32) (dw : Nat → Int64) (s1 : Nat → Int32), post (zi (leaveV tw vf wk d fi la fr to what)) q1 y2 y3 y4 y5 y6 y7 y8 y9 dw s1) :
    wp_X11_leave pl (zi sl) (zA kd) wks false shw gw (zA nt) sw (zA ex) lw0 o1 o2 o3 o4 o5 o6 o7 o8 o9 dw0 t1 (zi wk) (zi d) (zi fi) (zi la) (zi fr) (zi to) (zi what) post := by
  have b3 := a3
  have b4 := a4
  have b7 := a7
  simp only [ir] at b3 b4 b7
  simp only [wp_X11_leave]
  rw [show (zi what < 0) = (zi what < zi 0) from rfl, zi_lt (by omega), show ((3 : Int32) < zi what) = (zi 3 < zi what) from rfl, zi_lt (by omega), zi_lt (by omega)]
  refine ⟨fun z => ?_, fun z => ⟨fun z2 => ?_, fun z2 => ?_⟩⟩
  · rw [leaveV, if_neg (fun y => by have := y.2.2.1; omega)] at h; exact h _ _ _ _ _ _ _ _ _ _ _
  · rw [leaveV, if_neg (fun y => by have := y.2.2.2; omega)] at h; exact h _ _ _ _ _ _ _ _ _ _ _
  refine p_isMinuteC a4 (fun hla => ⟨fun z => absurd z (by decide), fun _ => ⟨fun z3 => ?_, fun z3 => ?_⟩⟩) (fun hla => ⟨fun _ => ?_, fun z => absurd rfl z⟩)
  case refine_3 =>
    rw [leaveV, if_neg (fun y => hla y.2.1)] at h; exact h _ _ _ _ _ _ _ _ _ _ _
  case refine_1 =>
    have e : leaveV tw vf wk d fi la fr to what = -1 := by
      rw [leaveV]
      split
      · rw [show (la + 1 - fi).toNat = 0 by omega]
        simp only [lvF, lvA]
        split
        · rfl
        · split
          · rfl
          · split <;> rfl
      · rfl
    rw [e] at h
    exact h _ _ _ _ _ _ _ _ _ _ _
  refine p_ready C.1.1 C.1.2.2.1 C.1.2.2.2 a1 a2 a3 a5 a6 (fun t q dw hq hdw => ⟨fun _ => ⟨_, _, _, _, _, _, hq, ?_⟩, fun z => absurd z (by decide)⟩) (fun t => ⟨fun z => absurd rfl z, fun _ => ?_⟩)
  case refine_2 =>
    rw [leaveV, if_neg (fun y => t y.1)] at h
    exact h _ _ _ _ _ _ _ _ _ _ _
  rw [leaveV, if_pos ⟨t, hla, by omega, by omega⟩] at h
  have t' := t
  obtain ⟨t1', t2', t3', t4', t5'⟩ := t'
  have w := C.1.2.1 wk t1'.1.1 t1'.1.2 t1'.2
  refine p_labelG (aims := 0) (lo := fi) C t1' t2' t5'.1 (by omega) hdw (by omega) (fun La hLa => ?_)
  generalize hv : (fun m => lsC tw vf d (tw (383 + 7 * wk)) to 119 (100 * m + fr)) = v at h
  have val : ∀ m, fi ≤ m → m < 120 → (La (100 * m + fr) = 268435456 ∧ ¬ v m < 1000000) ∨ (0 ≤ La (100 * m + fr) ∧ La (100 * m + fr) < 268435456 ∧ La (100 * m + fr) / 128 = v m ∧ v m < 1000000 ∧ 0 ≤ v m) := by
    intro m m0 m1
    have q := hLa (100 * m + fr) (by omega) (by omega) (by rw [show (100 * m + fr) % 100 = fr by omega]; exact t4'.2)
    rw [← hv]
    show (La (100 * m + fr) = 268435456 ∧ ¬ lsC tw vf d (tw (383 + 7 * wk)) to 119 (100 * m + fr) < 1000000) ∨ (0 ≤ La (100 * m + fr) ∧ La (100 * m + fr) < 268435456 ∧ La (100 * m + fr) / 128 = lsC tw vf d (tw (383 + 7 * wk)) to 119 (100 * m + fr) ∧ lsC tw vf d (tw (383 + 7 * wk)) to 119 (100 * m + fr) < 1000000 ∧ 0 ≤ lsC tw vf d (tw (383 + 7 * wk)) to 119 (100 * m + fr))
    omega
  have nn : ∀ m, fi ≤ m → m < 120 → v m < 1000000 → 0 ≤ v m := fun m a b c => by have := val m a b; omega
  refine lp_for0 (fun n => (q, zi d, zi fi, zi fr, zi to, 1, 0, 1, 0, dw, zA La, zi la, zi fr, zi what, zi (lvF v fi n).1, zi (lvF v fi n).2, zi (if (lvF v fi n).1 < 0 then 268435456 else v (lvF v fi n).1), zi (if (lvF v fi n).2 < 0 then -1 else v (lvF v fi n).2), zi (fi + n))) (la + 1 - fi).toNat (by simp [lvF]; exact ⟨rfl, rfl, rfl⟩) (fun kb => ?_) (fun n hn kb hkb => ?_)
  · have rg := lvF_rng (v := v) (a := fi) (by omega) (la + 1 - fi).toNat
    generalize hr : lvF v fi (la + 1 - fi).toNat = r at *
    simp (disch := omega) only [wp_X11_leave_L69, zi_lit, zi_neg, zi_lt, zi_eq]
    refine ⟨fun _ => ⟨fun z => ⟨fun y => ⟨fun x => ⟨fun u => ?_, fun u => ?_⟩, fun x => ?_⟩, fun y => ?_⟩, fun z => ?_⟩, fun z => by omega⟩
    · rw [lvA, if_neg y, if_neg x, if_neg u] at h; exact h _ _ _ _ _ _ _ _ _ _ _
    · rw [lvA, if_neg y, if_neg x, if_pos u] at h; exact h _ _ _ _ _ _ _ _ _ _ _
    · rw [lvA, if_neg y, if_pos x, if_neg (by omega)] at h
      rw [if_neg (by omega)]; exact h _ _ _ _ _ _ _ _ _ _ _
    · rw [lvA, if_pos y] at h; exact h _ _ _ _ _ _ _ _ _ _ _
    · have e : lvA v r what = -1 := by
        rw [lvA]
        split
        · exact z
        · split
          · rw [if_pos (by omega)]
          · split
            · omega
            · rw [if_pos (by omega)]
      rw [e] at h
      exact h _ _ _ _ _ _ _ _ _ _ _
  · have hni : fi + ((n + 1 : Nat) : Int) = fi + n + 1 := by omega
    have rg := lvF_rng (v := v) (a := fi) (by omega) n
    have lv := val (fi + n) (by omega) (by omega)
    rw [hni, lvF] at hkb
    generalize hr : lvF v fi n = r at *
    have n1 := nn r.1
    have n2 := nn r.2
    have rr : (r.1 = -1 ∨ (0 ≤ r.1 ∧ r.1 < 120 ∧ 0 ≤ v r.1 ∧ v r.1 < 1000000)) ∧ (r.2 = -1 ∨ (0 ≤ r.2 ∧ r.2 < 120 ∧ 0 ≤ v r.2 ∧ v r.2 < 1000000)) := by omega
    have lowR : 0 ≤ (if r.1 < 0 then 268435456 else v r.1) ∧ (if r.1 < 0 then 268435456 else v r.1) ≤ 268435456 := by split <;> omega
    have hiR : -1 ≤ (if r.2 < 0 then -1 else v r.2) ∧ (if r.2 < 0 then -1 else v r.2) ≤ 1000000 := by split <;> omega
    simp (disch := omega) only [wp_X11_leave_L69, zi_lit, zi_lt]
    refine ⟨fun z => by omega, fun _ => ?_⟩
    refine p_labelled (by omega) (by omega) ?_
    rw [if_pos (by omega)]
    simp (disch := omega) only [forall_eq, zi_div, zi_le]
    by_cases hf : La (100 * (fi + n) + fr) = 268435456
    · rw [if_neg (by omega)] at hkb
      refine ⟨fun _ => ?_, fun z => by omega⟩
      simp (disch := omega) only [wp_X11_leave_b120, forall_eq, zi_lit, zi_le, zi_add]
      exact ⟨fun _ => hkb, fun z => by omega⟩
    · have ev : La (100 * (fi + n) + fr) / 128 = v (fi + n) := by omega
      have vr : 0 ≤ v (fi + n) ∧ v (fi + n) < 1000000 := by omega
      rw [if_pos vr.2] at hkb
      refine ⟨fun z => by omega, fun _ => ?_⟩
      rw [ev]
      have bst : ∀ b' l' : Int, b' = (if r.1 < 0 ∨ v (fi + n) < v r.1 then fi + n else r.1) → l' = (if b' < 0 then 268435456 else v b') → ∀ X, wp_X11_leave_b120 pl X kb (zi sl) (zA kd) wks false shw gw (zA nt) sw (zA ex) lw0 post q (zi d) (zi fi) (zi fr) (zi to) 1 0 1 0 dw (zA La) (zi la) (zi fr) (zi what) (zi b') (zi r.2) (zi l') (zi (if r.2 < 0 then -1 else v r.2)) (zi (fi + n)) (zi (La (100 * (fi + n) + fr))) (zi (v (fi + n))) := by
        intro b' l' hb' hl' X
        rw [← hb', ← hl'] at hkb
        simp (disch := omega) only [wp_X11_leave_b120, forall_eq, zi_lit, zi_le, zi_add]
        refine ⟨fun z => by omega, fun _ => ⟨fun y => ?_, fun y => ?_⟩⟩
        · have nw : ¬ (r.2 < 0 ∨ v r.2 < v (fi + n)) := by
            intro x
            split at y <;> omega
          rw [if_neg nw] at hkb; exact hkb
        · have nw : r.2 < 0 ∨ v r.2 < v (fi + n) := by
            by_cases x : r.2 < 0
            · exact Or.inl x
            · rw [if_neg x] at y; omega
          rw [if_pos nw, if_neg (by omega)] at hkb; exact hkb
      refine ⟨fun y => ?_, fun y => ?_⟩
      · have nb : ¬ (r.1 < 0 ∨ v (fi + n) < v r.1) := by
          intro x
          split at y <;> omega
        exact bst r.1 _ (by rw [if_neg nb]) rfl _
      · have nb : r.1 < 0 ∨ v (fi + n) < v r.1 := by
          by_cases x : r.1 < 0
          · exact Or.inl x
          · rw [if_neg x] at y; omega
        exact bst (fi + n) (v (fi + n)) (by rw [if_pos nb]) (by rw [if_neg (by omega)]) _
end LV
