/-! parade, start: the calls -/
section SA
variable {pl : Pool} {tw : Int → Int} {vf : Int → Int → Int → Int32} {sl : Int} {kd hg : Int → Int} {wks : Nat → Option Nat} {shw : Nat → Int64} {ex nt : Int → Int} {ww sw gw : Nat → Int64} {op arg : Nat → Int32}
noncomputable def paradeV (tw : Int → Int) (vf : Int → Int → Int → Int32) (f : Int → Int) (z d m p : Int) : Int := if ((0 ≤ d ∧ d < 4) ∧ (0 ≤ m ∧ m < 120)) ∧ 1 ≤ p ∧ p ≤ 3 then parV (snC tw vf d) f z m p else -1
theorem p_paradeC (C : CS pl tw vf sl kd hg wks shw ex nt ww sw gw) {f : Int → Int} {d z m p : Int} (hz : 0 ≤ z ∧ z ≤ 30) (hf : ∀ j, 0 ≤ j → j < z → 0 ≤ f j ∧ f j < 100) (a1 : ir d) (a2 : ir m) (a3 : ir p) {post : Int32 → Prop} (h : post (zi (paradeV tw vf f z d m p))) : wp_X11_parade (zi z) (zA f) shw (zi d) (zi m) (zi p) post := by
  have b3 := a3
  simp only [ir] at b3
  simp only [wp_X11_parade]
  refine p_isTime a1 a2 (fun t => ⟨fun z => absurd z (by decide), fun _ => ?_⟩) (fun t => ⟨fun _ => ?_, fun z => absurd rfl z⟩)
  · rw [show (zi p < 1) = (zi p < zi 1) from rfl, zi_lt (by omega), show (zi p ≤ 3) = (zi p ≤ zi 3) from rfl, zi_le (by omega)]
    refine ⟨fun y => ?_, fun y => ⟨fun x => ?_, fun x => ?_⟩⟩
    · rw [paradeV, if_neg (by omega)] at h; exact h
    · rw [paradeV, if_pos ⟨t, by omega⟩] at h
      exact p_paradeSun C t.1 hz hf (by omega) t.2 h
    · rw [paradeV, if_neg (by omega)] at h; exact h
  · rw [paradeV, if_neg (fun y => t y.1)] at h; exact h
theorem parS_cg {sn sn' f : Int → Int} {m p : Int} : ∀ n : Nat, (∀ i : Nat, i < n → sn (100 * (m + i) + f (i / p)) = sn' (100 * (m + i) + f (i / p))) → parS sn f m p n = parS sn' f m p n
  | 0, _ => rfl
  | n + 1, h => by rw [parS, parS, parS_cg n (fun i hi => h i (by omega)), h n (by omega)]
theorem parV_cg {sn sn' f : Int → Int} {z m p : Int} (hs : ∀ k, 0 ≤ k → k < 12000 → sn k = sn' k) (hz : 0 ≤ z ∧ z ≤ 30) (hf : ∀ j, 0 ≤ j → j < z → 0 ≤ f j ∧ f j < 100) (hp : 1 ≤ p ∧ p ≤ 3) (hm : 0 ≤ m) : parV sn f z m p = parV sn' f z m p := by
  rw [parV, parV]
  by_cases q : z = 0 ∨ 119 < m + p * (z - 1)
  · rw [if_pos q, if_pos q]
  · rw [if_neg q, if_neg q]
    refine parS_cg _ (fun i hi => ?_)
    have := par_in (z := z) (m := m) (by omega) hf hp hm (by omega) i hi
    exact hs _ this.1 this.2
theorem p_paradeR (hT : twR tw) (hC : clR tw op arg vf) {sd : Int} {sy sn shA : Int → Int} (hD : dayI tw vf sd sy sn shA) {f : Int → Int} {d z m p : Int} (hz : 0 ≤ z ∧ z ≤ 30) (hf : ∀ j, 0 ≤ j → j < z → 0 ≤ f j ∧ f j < 100) (a1 : ir d) (a2 : ir m) (a3 : ir p) {th : Int32} {facts pile : Nat → Int32} {post : Int32 → Int32 → Int32 → (Nat → Int32) → (Nat → Int32) → (Nat → Int32) → (Nat → Int32) → (Nat → Int32) → Prop}
    (h : ∀ (sd' : Int) (sy' sn' shA' : Int → Int) (fa pi : Nat → Int32), dayI tw vf sd' sy' sn' shA' → post (zi (paradeV tw vf f z d m p)) 0 (zi sd') (zA sy') (zA sn') (zA shA') fa pi) :
    wp_X12_parade (zi z) (zA tw) op arg (zA f) th (zi sd) (zA sy) (zA sn) (zA shA) facts pile (zi d) (zi m) (zi p) post := by
  simp only [wp_X12_parade]
  refine p_isDayR a1 (fun q1 => ⟨fun z => absurd z (by decide), fun _ => ?_⟩) (fun q1 => ⟨fun _ => ?_, fun z => absurd rfl z⟩)
  · refine p_isMinuteR a2 (fun q2 => ⟨fun z => absurd z (by decide), fun _ => ?_⟩) (fun q2 => ⟨fun _ => ?_, fun z => absurd rfl z⟩)
    · rw [show (1 : Int32) = zi 1 from rfl, show (3 : Int32) = zi 3 from rfl]
      refine p_within a3 (by omega) (by omega) (fun w => ⟨fun _ => ?_, fun z => absurd z (by decide)⟩) (fun w => ⟨fun z => absurd rfl z, fun _ => ?_⟩)
      · rw [paradeV, if_pos ⟨⟨q1, q2⟩, w⟩] at h
        refine p_laysDay hT hC q1 hD.1 hD.2.2.1 hD.2.2.2.1 hD.2.2.2.2 hD.2.1 (fun sy' sn' shA' fa pi i1 i2 dr => ?_)
        obtain ⟨syf, rfl, i3⟩ := zA_ex sy'
        have e : ∀ k, 0 ≤ k → k < 12000 → sn' k = snC tw vf d k := fun k a b => (dayR_C dr a b).1
        refine p_paradeFrom i1 (fun k a b => by rw [e k a b]; have := snC_01 tw vf d k; omega) hz hf w q2 ?_
        rw [parV_cg e hz hf w q2.1]
        exact h d syf sn' shA' fa pi ⟨by omega, i3, i1, i2, fun _ => dr⟩
      · rw [paradeV, if_neg (fun y => w y.2)] at h; exact h _ _ _ _ _ _ hD
    · rw [paradeV, if_neg (fun y => q2 y.1.2)] at h; exact h _ _ _ _ _ _ hD
  · rw [paradeV, if_neg (fun y => q1 y.1.1)] at h; exact h _ _ _ _ _ _ hD
/-- the first best minute to start: the minute, and its sum -/
def stF (v : Int → Int) (a : Int) : Nat → Int × Int
  | 0 => (-1, 1000000)
  | n + 1 => if 0 ≤ v (a + n) ∧ v (a + n) < (stF v a n).2 then (a + n, v (a + n)) else stF v a n
theorem stF_rng {v : Int → Int} {a : Int} (ha : 0 ≤ a) : ∀ n : Nat, (∀ i : Nat, i < n → -1 ≤ v (a + i) ∧ v (a + i) ≤ 1000) → ((stF v a n).1 = -1 ∧ (stF v a n).2 = 1000000) ∨ (a ≤ (stF v a n).1 ∧ (stF v a n).1 < a + n ∧ 0 ≤ (stF v a n).2 ∧ (stF v a n).2 ≤ 1000)
  | 0, _ => by simp [stF]
  | n + 1, h => by
    have ih := stF_rng ha n (fun i hi => h i (by omega))
    have := h n (by omega)
    rw [stF]
    by_cases q : 0 ≤ v (a + n) ∧ v (a + n) < (stF v a n).2
    · rw [if_pos q]
      right
      show a ≤ a + (n : Int) ∧ a + (n : Int) < a + ((n + 1 : Nat) : Int) ∧ 0 ≤ v (a + n) ∧ v (a + n) ≤ 1000
      omega
    · rw [if_neg q]; omega
theorem parV_rng {f : Int → Int} {d z m p : Int} (hz : 0 ≤ z ∧ z ≤ 30) (hf : ∀ j, 0 ≤ j → j < z → 0 ≤ f j ∧ f j < 100) (hp : 1 ≤ p ∧ p ≤ 3) (hm : 0 ≤ m) : -1 ≤ parV (snC tw vf d) f z m p ∧ parV (snC tw vf d) f z m p ≤ 1000 := by
  rw [parV]
  by_cases q : z = 0 ∨ 119 < m + p * (z - 1)
  · rw [if_pos q]; omega
  · rw [if_neg q]
    have b := pr_bd (z := z) (by omega) hp
    have := parS_rng (sn := snC tw vf d) (f := f) (m := m) (p := p) (snC_b 0) (p * (z - 1)).toNat (par_in (by omega) hf hp hm (by omega))
    omega
noncomputable def startV (tw : Int → Int) (vf : Int → Int → Int → Int32) (f : Int → Int) (z d fi la p : Int) : Int := if (((0 ≤ d ∧ d < 4) ∧ (0 ≤ fi ∧ fi < 120)) ∧ (0 ≤ la ∧ la < 120)) ∧ 1 ≤ p ∧ p ≤ 3 then (stF (fun m => parV (snC tw vf d) f z m p) fi (la + 1 - fi).toNat).1 else -1
theorem p_startC (C : CS pl tw vf sl kd hg wks shw ex nt ww sw gw) {f : Int → Int} {d z fi la p : Int} (hz : 0 ≤ z ∧ z ≤ 30) (hf : ∀ j, 0 ≤ j → j < z → 0 ≤ f j ∧ f j < 100) (a1 : ir d) (a2 : ir fi) (a3 : ir la) (a4 : ir p) {post : Int32 → Prop} (h : post (zi (startV tw vf f z d fi la p))) : wp_X11_start (zi z) (zA f) shw (zi d) (zi fi) (zi la) (zi p) post := by
  have b4 := a4
  simp only [ir] at b4
  simp only [wp_X11_start]
  refine p_isTime a1 a2 (fun t => ⟨fun z => absurd z (by decide), fun _ => ?_⟩) (fun t => ⟨fun _ => ?_, fun z => absurd rfl z⟩)
  · refine p_isMinuteC a3 (fun q => ⟨fun z => absurd z (by decide), fun _ => ?_⟩) (fun q => ⟨fun _ => ?_, fun z => absurd rfl z⟩)
    · rw [show (zi p < 1) = (zi p < zi 1) from rfl, zi_lt (by omega), show (zi p ≤ 3) = (zi p ≤ zi 3) from rfl, zi_le (by omega)]
      refine ⟨fun y => ?_, fun y => ⟨fun x => ?_, fun x => ?_⟩⟩
      · rw [startV, if_neg (by omega)] at h; exact h
      · rw [startV, if_pos ⟨⟨t, q⟩, by omega⟩] at h
        have hp : 1 ≤ p ∧ p ≤ 3 := by omega
        have vr : ∀ m, 0 ≤ m → -1 ≤ parV (snC tw vf d) f z m p ∧ parV (snC tw vf d) f z m p ≤ 1000 := fun m hm => parV_rng hz hf hp hm
        generalize hv : (fun m => parV (snC tw vf d) f z m p) = v at h
        have ev : ∀ m, parV (snC tw vf d) f z m p = v m := fun m => by rw [← hv]
        refine lp_for0 (fun n => (zi d, zi la, zi p, zi (stF v fi n).1, zi (if (stF v fi n).1 = -1 then 268435456 else (stF v fi n).2), zi (fi + n))) (la + 1 - fi).toNat (by simp [stF]; exact ⟨rfl, rfl⟩) (fun kb => ?_) (fun i hi kb hkb => ?_)
        · simp (disch := omega) only [wp_X11_start_L40, zi_lt]
          exact ⟨fun _ => h, fun u => by omega⟩
        · have hni : fi + ((i + 1 : Nat) : Int) = fi + i + 1 := by omega
          have rg := stF_rng (v := v) (a := fi) (by omega) i (fun j hj => by rw [← ev]; exact vr _ (by omega))
          have r1 := vr (fi + i) (by omega)
          rw [ev] at r1
          have lr : 0 ≤ (if (stF v fi i).1 = -1 then 268435456 else (stF v fi i).2) ∧ (if (stF v fi i).1 = -1 then 268435456 else (stF v fi i).2) ≤ 268435456 := by split <;> omega
          rw [hni, stF] at hkb
          simp (disch := omega) only [wp_X11_start_L40, zi_lt]
          refine ⟨fun u => by omega, fun _ => ?_⟩
          refine p_paradeSun C t.1 hz hf hp (by omega) ?_
          rw [ev]
          simp (disch := omega) only [forall_eq, zi_lit, zi_neg, zi_eq, zi_le, zi_add]
          refine ⟨fun u => ?_, fun u => ⟨fun w => ?_, fun w => ?_⟩⟩
          · rw [if_neg (show ¬ (0 ≤ v (fi + i) ∧ v (fi + i) < (stF v fi i).2) by omega)] at hkb; exact hkb
          · have nn : ¬ (0 ≤ v (fi + i) ∧ v (fi + i) < (stF v fi i).2) := by split at w <;> omega
            rw [if_neg nn] at hkb; exact hkb
          · have nn : 0 ≤ v (fi + i) ∧ v (fi + i) < (stF v fi i).2 := by split at w <;> omega
            rw [if_pos nn, if_neg (show ¬ (fi + (i : Int), v (fi + i)).1 = -1 by show ¬ fi + (i : Int) = -1; omega)] at hkb
            exact hkb
      · rw [startV, if_neg (by omega)] at h; exact h
    · rw [startV, if_neg (fun y => q y.1.2)] at h; exact h
  · rw [startV, if_neg (fun y => t y.1.1)] at h; exact h
theorem p_startR (hT : twR tw) (hC : clR tw op arg vf) {sd : Int} {sy sn shA : Int → Int} (hD : dayI tw vf sd sy sn shA) {f : Int → Int} {d z fi la p : Int} (hz : 0 ≤ z ∧ z ≤ 30) (hf : ∀ j, 0 ≤ j → j < z → 0 ≤ f j ∧ f j < 100) (a1 : ir d) (a2 : ir fi) (a3 : ir la) (a4 : ir p) {th : Int32} {facts pile : Nat → Int32} {post : Int32 → Int32 → Int32 → (Nat → Int32) → (Nat → Int32) → (Nat → Int32) → (Nat → Int32) → (Nat → Int32) → Prop}
    (h : ∀ (sd' : Int) (sy' sn' shA' : Int → Int) (fa pi : Nat → Int32), dayI tw vf sd' sy' sn' shA' → post (zi (startV tw vf f z d fi la p)) 0 (zi sd') (zA sy') (zA sn') (zA shA') fa pi) :
    wp_X12_start (zi z) (zA tw) op arg (zA f) th (zi sd) (zA sy) (zA sn) (zA shA) facts pile (zi d) (zi fi) (zi la) (zi p) post := by
  simp only [wp_X12_start]
  refine p_isDayR a1 (fun q1 => ⟨fun z => absurd z (by decide), fun _ => ?_⟩) (fun q1 => ⟨fun _ => ?_, fun z => absurd rfl z⟩)
  · refine p_isMinuteR a2 (fun q2 => ⟨fun z => absurd z (by decide), fun _ => ?_⟩) (fun q2 => ⟨fun _ => ?_, fun z => absurd rfl z⟩)
    · refine p_isMinuteR a3 (fun q3 => ⟨fun z => absurd z (by decide), fun _ => ?_⟩) (fun q3 => ⟨fun _ => ?_, fun z => absurd rfl z⟩)
      · rw [show (1 : Int32) = zi 1 from rfl, show (3 : Int32) = zi 3 from rfl]
        refine p_within a4 (by omega) (by omega) (fun w => ⟨fun _ => ?_, fun z => absurd z (by decide)⟩) (fun w => ⟨fun z => absurd rfl z, fun _ => ?_⟩)
        · rw [startV, if_pos ⟨⟨⟨q1, q2⟩, q3⟩, w⟩] at h
          refine p_laysDay hT hC q1 hD.1 hD.2.2.1 hD.2.2.2.1 hD.2.2.2.2 hD.2.1 (fun sy' sn' shA' fa pi i1 i2 dr => ?_)
          obtain ⟨syf, rfl, i3⟩ := zA_ex sy'
          have e : ∀ k, 0 ≤ k → k < 12000 → sn' k = snC tw vf d k := fun k a b => (dayR_C dr a b).1
          have fin := h d syf sn' shA' fa pi ⟨by omega, i3, i1, i2, fun _ => dr⟩
          have vr : ∀ m, 0 ≤ m → -1 ≤ parV (snC tw vf d) f z m p ∧ parV (snC tw vf d) f z m p ≤ 1000 := fun m hm => parV_rng hz hf w hm
          generalize hv : (fun m => parV (snC tw vf d) f z m p) = v at fin
          have ev : ∀ m, parV (snC tw vf d) f z m p = v m := fun m => by rw [← hv]
          refine lp_for0 (fun n => (0, zi d, zA syf, zA sn', zA shA', fa, pi, zi d, zi la, zi p, zi (stF v fi n).1, zi (stF v fi n).2, zi (fi + n))) (la + 1 - fi).toNat (by simp [stF]; exact ⟨rfl, rfl⟩) (fun kb => ?_) (fun i hi kb hkb => ?_)
          · simp (disch := omega) only [wp_X12_start_L54, zi_lt]
            exact ⟨fun _ => fin, fun u => by omega⟩
          · have hni : fi + ((i + 1 : Nat) : Int) = fi + i + 1 := by omega
            have rg := stF_rng (v := v) (a := fi) (by omega) i (fun j hj => by rw [← ev]; exact vr _ (by omega))
            have r1 := vr (fi + i) (by omega)
            rw [ev] at r1
            rw [hni, stF] at hkb
            simp (disch := omega) only [wp_X12_start_L54, zi_lt]
            refine ⟨fun u => by omega, fun _ => ?_⟩
            refine p_paradeFrom i1 (fun k a b => by rw [e k a b]; have := snC_01 tw vf d k; omega) hz hf w (by omega) ?_
            rw [parV_cg e hz hf w (by omega), ev]
            simp (disch := omega) only [forall_eq, zi_lit, zi_lt, zi_le, zi_add]
            refine ⟨fun u => ?_, fun u => ⟨fun x => ?_, fun x => ?_⟩⟩
            · rw [if_neg (by omega)] at hkb; exact hkb
            · rw [if_neg (by omega)] at hkb; exact hkb
            · rw [if_pos (by omega)] at hkb; exact hkb
        · rw [startV, if_neg (fun y => w y.2)] at h; exact h _ _ _ _ _ _ hD
      · rw [startV, if_neg (fun y => q3 y.1.2)] at h; exact h _ _ _ _ _ _ hD
    · rw [startV, if_neg (fun y => q2 y.1.1.2)] at h; exact h _ _ _ _ _ _ hD
  · rw [startV, if_neg (fun y => q1 y.1.1.1)] at h; exact h _ _ _ _ _ _ hD
end SA
