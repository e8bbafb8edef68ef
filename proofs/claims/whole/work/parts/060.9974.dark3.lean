/-! dark: the calls -/
/-- so many starts, the first of them, the soonest end -/
def dkF3 (v : Int → Int) : Nat → Int × Int × Int
  | 0 => (0, -1, -1)
  | n + 1 => if v n < 1000000 then ((dkF3 v n).1 + 1, (if (dkF3 v n).2.1 = -1 then (n : Int) else (dkF3 v n).2.1), (if (dkF3 v n).2.2 = -1 ∨ v n < (dkF3 v n).2.2 then v n else (dkF3 v n).2.2)) else dkF3 v n
theorem dkF3_rng {v : Int → Int} (hv : ∀ m : Nat, m < 120 → 0 ≤ v m ∧ v m ≤ 1000000) : ∀ n : Nat, n ≤ 120 → (0 ≤ (dkF3 v n).1 ∧ (dkF3 v n).1 ≤ n) ∧ (-1 ≤ (dkF3 v n).2.1 ∧ (dkF3 v n).2.1 ≤ 120) ∧ (-1 ≤ (dkF3 v n).2.2 ∧ (dkF3 v n).2.2 ≤ 1000000)
  | 0, _ => by simp [dkF3]
  | n + 1, h => by
    have ih := dkF3_rng hv n (by omega)
    have := hv n (by omega)
    rw [dkF3]
    by_cases q : v n < 1000000
    · rw [if_pos q]
      refine ⟨by show 0 ≤ (dkF3 v n).1 + 1 ∧ (dkF3 v n).1 + 1 ≤ ((n + 1 : Nat) : Int); omega, ?_, ?_⟩
      · show -1 ≤ (if (dkF3 v n).2.1 = -1 then (n : Int) else (dkF3 v n).2.1) ∧ (if (dkF3 v n).2.1 = -1 then (n : Int) else (dkF3 v n).2.1) ≤ 120
        split <;> omega
      · show -1 ≤ (if (dkF3 v n).2.2 = -1 ∨ v n < (dkF3 v n).2.2 then v n else (dkF3 v n).2.2) ∧ (if (dkF3 v n).2.2 = -1 ∨ v n < (dkF3 v n).2.2 then v n else (dkF3 v n).2.2) ≤ 1000000
        split <;> omega
    · rw [if_neg q]; omega
section D4
variable {pl : Pool} {tw : Int → Int} {vf : Int → Int → Int → Int32} {sl : Int} {kd hg : Int → Int} {wks : Nat → Option Nat} {shw : Nat → Int64} {ex nt : Int → Int} {ww sw gw : Nat → Int64} {op arg : Nat → Int32}
noncomputable def dkC (tw : Int → Int) (vf : Int → Int → Int → Int32) (wk d fr to m : Int) : Int := if lsC tw vf d (tw (383 + 7 * wk)) to 119 (100 * m + fr) = 0 then enC tw vf d (tw (383 + 7 * wk)) to 119 (100 * m + fr) else 1000000
noncomputable def darkV (tw : Int → Int) (vf : Int → Int → Int → Int32) (wk d fr to what : Int) : Int := @ite Int (tripP tw wk d 0 fr to ∧ 0 ≤ what ∧ what ≤ 2) (Classical.propDecidable _) (if what = 0 then (dkF3 (dkC tw vf wk d fr to) 120).1 else if what = 1 then (dkF3 (dkC tw vf wk d fr to) 120).2.1 else (dkF3 (dkC tw vf wk d fr to) 120).2.2) (-1)
theorem dkC_rng {wk d fr to : Int} (hp : 1 ≤ tw (383 + 7 * wk) ∧ tw (383 + 7 * wk) ≤ 3) (hfr : 0 ≤ fr ∧ fr < 100) {m : Int} (hm : 0 ≤ m ∧ m < 120) : (0 ≤ dkC tw vf wk d fr to m ∧ dkC tw vf wk d fr to m ≤ 119) ∨ dkC tw vf wk d fr to m = 1000000 := by
  rw [dkC]
  split
  · next h =>
    have := lsC_rng (tw := tw) (vf := vf) (d := d) (to := to) (bym := 119) (k := 100 * m + fr) hp (by omega) (by omega) (by omega)
    left; omega
  · right; rfl
theorem p_darkR (hT : twR tw) (hW : wkOk tw) (hC : clR tw op arg vf) {sd : Int} {sy sn shA : Int → Int} (hD : dayI tw vf sd sy sn shA) {wk d fr to what : Int} (a1 : ir wk) (a2 : ir d) (a4 : ir fr) (a5 : ir to) (a6 : ir what) {th : Int32} {facts pile t1 : Nat → Int32} {post : Int32 → Int32 → Int32 → (Nat → Int32) → (Nat → Int32) → (Nat → Int32) → (Nat → Int32) → (Nat → Int32) → (Nat → Int32) → Prop}
    (h : ∀ (sd' : Int) (sy' sn' shA' : Int → Int) (f p r : Nat → Int32), dayI tw vf sd' sy' sn' shA' → post (zi (darkV tw vf wk d fr to what)) 0 (zi sd') (zA sy') (zA sn') (zA shA') f p r) :
    wp_X12_dark (zA tw) op arg th (zi sd) (zA sy) (zA sn) (zA shA) facts pile t1 (zi wk) (zi d) (zi fr) (zi to) (zi what) post := by
  simp only [wp_X12_dark]
  rw [show (0 : Int32) = zi 0 from rfl, show (2 : Int32) = zi 2 from rfl]
  refine p_isTrip hT.1 a1 a2 ⟨by decide, by decide⟩ a4 a5 (fun t => ⟨fun z => absurd z (by decide), fun _ => ?_⟩) (fun t => ⟨fun _ => ?_, fun z => absurd rfl z⟩)
  case refine_2 =>
    rw [darkV, if_neg (fun y => t y.1)] at h
    exact h _ _ _ _ _ _ _ hD
  refine p_within a6 (by omega) (by omega) (fun hw => ⟨fun _ => ?_, fun z => absurd z (by decide)⟩) (fun hw => ⟨fun z => absurd rfl z, fun _ => ?_⟩)
  case refine_2 =>
    rw [darkV, if_neg (fun y => hw y.2)] at h
    exact h _ _ _ _ _ _ _ hD
  rw [darkV, if_pos ⟨t, hw⟩] at h
  have t' := t
  obtain ⟨t1', t2', t3', t4', t5'⟩ := t'
  have w := hW wk t1'.1.1 t1'.1.2 t1'.2
  refine p_laysDay hT hC t2' hD.1 hD.2.2.1 hD.2.2.2.1 hD.2.2.2.2 hD.2.1 (fun sy' sn' shA' f p i1 i2 dr => ?_)
  obtain ⟨syf, rfl, i3⟩ := zA_ex sy'
  have hD' : dayI tw vf d syf sn' shA' := ⟨by omega, i3, i1, i2, fun _ => dr⟩
  have hcB : cB sn' := fun k a b => by rw [(dayR_C dr a b).1]; exact snC_cB tw vf d k a b
  refine p_darkRows hT.1 i2 t1'.1 rfl w.1 hcB t5'.1 (fun R hR hDk => ?_)
  have val : ∀ m, 0 ≤ m → m < 120 → R (100 * m + fr) = dkC tw vf wk d fr to m := by
    intro m m0 m1
    have hk : tw ((100 * m + fr) % 100) ≠ 1 := by rw [show (100 * m + fr) % 100 = fr by omega]; exact t4'.2
    have hB := Bst_agr (Agr_symm (Agr_T (nw := 5) w.1 (fun k a b => (dayR_C dr a b).2) (fun k a b => (dayR_C dr a b).1))) (Gok_T w.1 (snC_cB tw vf d)) (k := 100 * m + fr) (by omega) (by omega) (lsC_ok (to := to) (bym := 119) w.1 (by omega) (by omega))
    exact Dk_Bst (Gok_T w.1 hcB) (by omega) (by omega) hB (hDk _ (by omega) (by omega) hk)
  have vr := fun m (hm : m < 120) => by have := dkC_rng (vf := vf) (d := d) (to := to) w.1 t4'.1 (m := ((m : Nat) : Int)) (by omega); exact (show 0 ≤ dkC tw vf wk d fr to m ∧ dkC tw vf wk d fr to m ≤ 1000000 by omega)
  have fin := h d syf sn' shA' f p (zA R) hD'
  refine lp_for0 (fun n => (zi 0, zi d, zA syf, zA sn', zA shA', f, p, zA R, zi fr, zi what, zi (dkF3 (dkC tw vf wk d fr to) n).1, zi (dkF3 (dkC tw vf wk d fr to) n).2.1, zi (dkF3 (dkC tw vf wk d fr to) n).2.2, zi n)) 120 rfl (fun kb => ?_) (fun n hn kb hkb => ?_)
  · simp (disch := omega) only [wp_X12_dark_L266, zi_lit, zi_le, zi_eq]
    refine ⟨fun _ => ⟨fun z => ⟨fun y => ?_, fun y => ?_⟩, fun z => ?_⟩, fun z => absurd (by decide) z⟩
    · rw [if_neg z, if_neg y] at fin; exact fin
    · rw [if_neg z, if_pos y] at fin; exact fin
    · rw [if_pos z] at fin; exact fin
  · have hni : ((n + 1 : Nat) : Int) = (n : Int) + 1 := by omega
    have rg := dkF3_rng vr n (by omega)
    have rv := vr n hn
    have ev := val n (by omega) (by omega)
    rw [hni, dkF3] at hkb
    simp (disch := omega) only [wp_X12_dark_L266, wp_X12_dark_b310, forall_eq, zi_lit, zi_mul, zi_add, zi_le, zi_lt, zi_in, zA_get, ev]
    refine ⟨fun z => by omega, fun _ => ⟨by omega, fun z => ?_, fun z => ?_⟩⟩
    · rw [if_neg (by omega)] at hkb; exact hkb
    · rw [if_pos (by omega)] at hkb
      refine ⟨fun y => ?_, fun y => ?_⟩
      · rw [if_neg (show ¬ (dkF3 (dkC tw vf wk d fr to) n).2.1 = -1 by omega)] at hkb
        refine ⟨fun x => ?_, fun x => ⟨fun u => ?_, fun u => ?_⟩⟩
        · rw [if_pos (by omega)] at hkb; exact hkb
        · rw [if_neg (by omega)] at hkb; exact hkb
        · rw [if_pos (by omega)] at hkb; exact hkb
      · rw [if_pos (show (dkF3 (dkC tw vf wk d fr to) n).2.1 = -1 by omega)] at hkb
        refine ⟨fun x => ?_, fun x => ⟨fun u => ?_, fun u => ?_⟩⟩
        · rw [if_pos (by omega)] at hkb; exact hkb
        · rw [if_neg (by omega)] at hkb; exact hkb
        · rw [if_pos (by omega)] at hkb; exact hkb
theorem p_darkC (C : CS pl tw vf sl kd hg wks shw ex nt ww sw gw) {wk d fr to what : Int} (a1 : ir wk) (a2 : ir d) (a4 : ir fr) (a5 : ir to) (a6 : ir what) {o1 : Nat} {o2 o3 o4 o5 o6 o7 o8 o9 : Int32} {dw0 lw0 : Nat → Int64} {t1 : Nat → Int32} {post : Int32 → Nat → Int32 → Int32 → Int32 → Int32 → Int32 → Int32 → Int32 → Int32 → (Nat → Int64) → (Nat → Int32) → Prop}
    (h : ∀ (q1 : Nat) (y2 y3 y4 y5 y6 y7 y8 y9 : Int32) (dw : Nat → Int64) (s1 : Nat → Int32), post (zi (darkV tw vf wk d fr to what)) q1 y2 y3 y4 y5 y6 y7 y8 y9 dw s1) :
    wp_X11_dark pl (zi sl) (zA kd) wks false shw gw (zA nt) sw (zA ex) lw0 o1 o2 o3 o4 o5 o6 o7 o8 o9 dw0 t1 (zi wk) (zi d) (zi fr) (zi to) (zi what) post := by
  have b6 := a6
  simp only [ir] at b6
  simp only [wp_X11_dark]
  rw [show (0 : Int32) = zi 0 from rfl, zi_lt (by omega), show ((2 : Int32) < zi what) = (zi 2 < zi what) from rfl, zi_lt (by omega)]
  refine ⟨fun z => ?_, fun z => ⟨fun z2 => ?_, fun z2 => ?_⟩⟩
  · rw [darkV, if_neg (fun y => by have := y.2.1; omega)] at h; exact h _ _ _ _ _ _ _ _ _ _ _
  · rw [darkV, if_neg (fun y => by have := y.2.2; omega)] at h; exact h _ _ _ _ _ _ _ _ _ _ _
  refine p_ready C.1.1 C.1.2.2.1 C.1.2.2.2 a1 a2 ⟨by decide, by decide⟩ a4 a5 (fun t q dw hq hdw => ⟨fun _ => ⟨_, _, _, _, _, _, hq, ?_⟩, fun z => absurd z (by decide)⟩) (fun t => ⟨fun z => absurd rfl z, fun _ => ?_⟩)
  case refine_2 =>
    rw [darkV, if_neg (fun y => t y.1)] at h
    exact h _ _ _ _ _ _ _ _ _ _ _
  rw [darkV, if_pos ⟨t, by omega, by omega⟩] at h
  have t' := t
  obtain ⟨t1', t2', t3', t4', t5'⟩ := t'
  have w := C.1.2.1 wk t1'.1.1 t1'.1.2 t1'.2
  have A := CS_ask C (wk := wk) (to := to) (aims := 0) (hot := 1) (cool := 0) (wt := 1) (en := 119) t2' (by omega) (by omega) t1' (by omega) (by omega) (by omega) (by omega)
  have hcB : cB (costF false 1 0 dw ex) := cB_cost A.2.2.1 A.2.2.2.1 A.2.2.2.2.2.2.1
  obtain ⟨La0, rfl, -⟩ := zA_ex t1
  have gr := C.2.2.2.2.2.2.2.2
  refine p_labelBack (fo := 0) (D := fun j => decide (tw (j % 100) ≠ 1)) (eb := false) (dw := dw) (gw := gw) A (by decide) (by decide) ⟨fun _ m s a b c e => ?_, fun z => absurd rfl z⟩ (fun k a b z => by simpa using z) (lo := 0) (hi := 119) (by omega) (by omega) (by omega) (fun La hLa hO _ => ?_)
  · rw [gr s c e]
    by_cases hs : s < 100
    · show _ = (decide (s < 100) && decide (tw ((100 * m + s) % 100) ≠ 1))
      rw [show (100 * m + s) % 100 = s by omega]
    · rw [decide_eq_false hs]; rfl
  have AG : Agr (nxD (nxT tw (shC tw vf d) (tw (383 + 7 * wk))) (fun j => decide (tw (j % 100) ≠ 1)) 119) (csT (costF false 1 0 dw ex) (tw (383 + 7 * wk))) (nxT tw (shC tw vf d) (tw (383 + 7 * wk))) (csT (snC tw vf d) (tw (383 + 7 * wk))) 5 := by
    intro k w0 a b c e
    have ag := Agr_symm (CS_agr C (nw := 5) w.1 t2' hdw) k w0 a b c e
    have key : nxD (nxT tw (shC tw vf d) (tw (383 + 7 * wk))) (fun j => decide (tw (j % 100) ≠ 1)) 119 k w0 = nxT tw (shC tw vf d) (tw (383 + 7 * wk)) k w0 := by
      rw [nxD]
      by_cases q : 0 ≤ nxT tw (shC tw vf d) (tw (383 + 7 * wk)) k w0
      · have nk := nxT_ok w.1 a b q
        rw [if_pos ⟨by simpa using nk.2.2.1, q, by omega⟩]
      · rw [if_neg (fun z => q z.2.1)]
        have := bhd_rng (tw := tw) (sh := shC tw vf d) (w := w0) w.1 (show 0 ≤ k / 100 ∧ k / 100 < 120 by omega) (show 0 ≤ k % 100 ∧ k % 100 < 100 by omega)
        have eb : bhd tw (shC tw vf d) (tw (383 + 7 * wk)) (k / 100) (k % 100) w0 = nxT tw (shC tw vf d) (tw (383 + 7 * wk)) k w0 := rfl
        rw [eb] at this
        omega
    rw [key]
    exact ⟨rfl, ag.2⟩
  have G5 : Gok (nxD (nxT tw (shC tw vf d) (tw (383 + 7 * wk))) (fun j => decide (tw (j % 100) ≠ 1)) 119) (csT (costF false 1 0 dw ex) (tw (383 + 7 * wk))) 5 := Gok_agr (Agr_symm AG) (Gok_T w.1 (snC_cB tw vf d))
  have val : ∀ m, 0 ≤ m → m < 120 → (La (100 * m + fr) < 128 ↔ dkC tw vf wk d fr to m < 1000000) ∧ (La (100 * m + fr) < 128 → La (100 * m + fr) = dkC tw vf wk d fr to m) ∧ 0 ≤ La (100 * m + fr) ∧ La (100 * m + fr) ≤ 268435456 := by
    intro m m0 m1
    have lr := hLa (100 * m + fr) (by omega) (by omega)
    have o := (hO (100 * m + fr) (by omega) (by omega) (by omega) (by omega)).1 (by rw [show (100 * m + fr) % 100 = fr by omega]; simpa using t4'.2)
    rcases o with ⟨o1, o2⟩ | ⟨c, e, o1, o2, o3⟩
    · have e1 := Bst_uni (Bst_agr AG G5 (by omega) (by omega) o2) (lsC_ok (tw := tw) (vf := vf) (d := d) (to := to) (bym := 119) w.1 (by omega) (by omega))
      rw [dkC, if_neg (by omega)]
      omega
    · have e1 := Bst_uni (Bst_agr AG G5 (by omega) (by omega) o3) (lsC_ok (tw := tw) (vf := vf) (d := d) (to := to) (bym := 119) w.1 (by omega) (by omega))
      have e2 := e1.2 o2
      have rg := lsC_rng (tw := tw) (vf := vf) (d := d) (to := to) (bym := 119) (k := 100 * m + fr) w.1 (by omega) (by omega) (by omega)
      rw [dkC]
      split <;> omega
  have vr := fun m (hm : m < 120) => by have := dkC_rng (vf := vf) (d := d) (to := to) w.1 t4'.1 (m := ((m : Nat) : Int)) (by omega); exact (show 0 ≤ dkC tw vf wk d fr to m ∧ dkC tw vf wk d fr to m ≤ 1000000 by omega)
  refine lp_for0 (fun n => (q, zi d, zi 0, zi fr, zi to, 1, zi 0, 1, zi 0, dw, zA La, zi fr, zi what, zi (dkF3 (dkC tw vf wk d fr to) n).1, zi (dkF3 (dkC tw vf wk d fr to) n).2.1, zi (dkF3 (dkC tw vf wk d fr to) n).2.2, zi n)) 120 rfl (fun kb => ?_) (fun n hn kb hkb => ?_)
  · simp (disch := omega) only [wp_X11_dark_L49, zi_lit, zi_lt, zi_eq]
    refine ⟨fun _ => ⟨fun z => ⟨fun y => ?_, fun y => ?_⟩, fun z => ?_⟩, fun z => absurd (by decide) z⟩
    · rw [if_neg z, if_neg y] at h; exact h _ _ _ _ _ _ _ _ _ _ _
    · rw [if_neg z, if_pos y] at h; exact h _ _ _ _ _ _ _ _ _ _ _
    · rw [if_pos z] at h; exact h _ _ _ _ _ _ _ _ _ _ _
  · have hni : ((n + 1 : Nat) : Int) = (n : Int) + 1 := by omega
    have rg := dkF3_rng vr n (by omega)
    have rv := vr n hn
    have ev := val n (by omega) (by omega)
    rw [hni, dkF3] at hkb
    simp (disch := omega) only [wp_X11_dark_L49, zi_lit, zi_lt]
    refine ⟨fun z => by omega, fun _ => ?_⟩
    refine p_labelled (by omega) (by omega) ?_
    rw [if_pos (by omega)]
    by_cases hv : La (100 * n + fr) < 128
    · have ev1 := ev.2.1 hv
      rw [ev1] at hv ⊢
      rw [if_pos (by omega)] at hkb
      have em : (dkF3 (dkC tw vf wk d fr to) n).2.2 ≠ -1 → (if zi (dkC tw vf wk d fr to n) < zi (dkF3 (dkC tw vf wk d fr to) n).2.2 then zi (dkC tw vf wk d fr to n) else zi (dkF3 (dkC tw vf wk d fr to) n).2.2) = zi (if (dkF3 (dkC tw vf wk d fr to) n).2.2 = -1 ∨ dkC tw vf wk d fr to n < (dkF3 (dkC tw vf wk d fr to) n).2.2 then dkC tw vf wk d fr to n else (dkF3 (dkC tw vf wk d fr to) n).2.2) := by
        intro hx
        by_cases u : dkC tw vf wk d fr to n < (dkF3 (dkC tw vf wk d fr to) n).2.2
        · rw [if_pos (by rw [zi_lt (by omega)]; exact u), if_pos (Or.inr u)]
        · rw [if_neg (by rw [zi_lt (by omega)]; exact u), if_neg (by omega)]
      simp (disch := omega) only [wp_X11_dark_b92, forall_eq, zi_lit, zi_neg, zi_le, zi_add, zi_eq]
      refine ⟨fun z => by omega, fun _ => ⟨fun y => ⟨fun x => ?_, fun x => ?_⟩, fun y => ⟨fun x => ?_, fun x => ?_⟩⟩⟩
      · rw [if_neg y, ← em x] at hkb; exact hkb
      · rw [if_neg y, if_pos (Or.inl x)] at hkb; exact hkb
      · rw [if_pos y, ← em x] at hkb; exact hkb
      · rw [if_pos y, if_pos (Or.inl x)] at hkb; exact hkb
    · rw [if_neg (by omega)] at hkb
      simp (disch := omega) only [forall_eq, zi_le, zi_add]
      exact ⟨fun _ => hkb, fun z => by omega⟩
end D4
