/-! edges: both sides -/
section ED
variable {pl : Pool} {tw : Int → Int} {vf : Int → Int → Int → Int32} {sl : Int} {kd hg : Int → Int} {wks : Nat → Option Nat} {shw : Nat → Int64} {ex nt : Int → Int} {ww sw gw : Nat → Int64} {op arg : Nat → Int32}
/-- a square that lies in the shade at one minute alone of two -/
def onlyP (tw : Int → Int) (vf : Int → Int → Int → Int32) (d a b s : Int) : Prop := tw s ≠ 1 ∧ dimP tw vf d a s ∧ ¬ dimP tw vf d b s
theorem has_gR {s : Int} (hg' : gR gw tw) (hs : 0 ≤ s ∧ s < 100) {post : Int32 → Prop} (h1 : tw s ≠ 1 → post 1) (h0 : ¬ tw s ≠ 1 → post 0) : wp_X5_has 2 gw (zi 0) (zi s) post := by
  refine p_has (by decide) (by omega) (by omega) ?_
  rw [hbs, decide_eq_true (by omega), Bool.true_and, hg' s hs.1 (by omega), decide_eq_true hs.2, Bool.true_and]
  by_cases x : tw s ≠ 1
  · rw [if_pos (by simpa using x)]; exact h1 x
  · rw [if_neg (by simpa using x)]; exact h0 x
theorem p_onlyIn (C : CS pl tw vf sl kd hg wks shw ex nt ww sw gw) {d a b : Int} (hd : 0 ≤ d ∧ d < 4) (ha : 0 ≤ a ∧ a < 120) (hb' : 0 ≤ b ∧ b < 120) {post : Int32 → Prop} (h : post (zi (cntC (onlyP tw vf d a b) 100))) : wp_X6_howManyOnlyIn gw shw (zi (120 * d + a)) (zi (120 * d + b)) post := by
  simp only [wp_X6_howManyOnlyIn]
  refine lp_for0 (fun n => (zi (120 * d + a), zi (120 * d + b), zi (cntC (onlyP tw vf d a b) n), zi n)) 100 rfl (fun kb => ?_) (fun i hi kb hkb => ?_)
  · simp (disch := omega) only [wp_X6_howManyOnlyIn_L5, zi_lit, zi_le]
    exact ⟨fun _ => h, fun u => absurd (by decide) u⟩
  · have hni : ((i + 1 : Nat) : Int) = (i : Int) + 1 := by omega
    have no : ¬ onlyP tw vf d a b i → kb (zi (120 * d + a), zi (120 * d + b), zi (cntC (onlyP tw vf d a b) i), zi (i + 1)) := fun q => by
      rw [hni, cntC, if_neg q, Int.add_zero] at hkb; exact hkb
    simp (disch := omega) only [wp_X6_howManyOnlyIn_L5, zi_lit, zi_le]
    refine ⟨fun u => by omega, fun _ => ?_⟩
    refine has_gR C.2.2.2.2.2.2.2.2 (by omega) (fun x => ⟨fun u => absurd u (by decide), fun _ => ?_⟩) (fun x => ⟨fun _ => ?_, fun u => absurd rfl u⟩)
    case refine_2 => simp only [forall_eq, zi_add]; exact no (fun y => x y.1)
    refine has_wR C.2.1 hd ha (by omega) (fun x2 => ⟨fun u => absurd u (by decide), fun _ => ?_⟩) (fun x2 => ⟨fun _ => ?_, fun u => absurd rfl u⟩)
    case refine_2 => simp only [forall_eq, zi_add]; exact no (fun y => x2 y.2.1)
    refine has_wR C.2.1 hd hb' (by omega) (fun x3 => ⟨fun _ => ?_, fun u => absurd u (by decide)⟩) (fun x3 => ⟨fun u => absurd rfl u, fun _ => ?_⟩)
    · simp only [forall_eq, zi_add]; exact no (fun y => y.2.2 x3)
    · rw [hni, cntC, if_pos ⟨x, x2, x3⟩] at hkb
      simp only [forall_eq, zi_add]
      exact hkb
noncomputable def edgesV (tw : Int → Int) (vf : Int → Int → Int → Int32) (d m w : Int) : Int := if (0 ≤ d ∧ d < 4) ∧ (1 ≤ m ∧ m ≤ 119) then (if w = 0 then cntC (onlyP tw vf d (m - 1) m) 100 else cntC (onlyP tw vf d m (m - 1)) 100) else -1
theorem p_edgesC (C : CS pl tw vf sl kd hg wks shw ex nt ww sw gw) {d m w : Int} (a1 : ir d) (a2 : ir m) (a3 : ir w) {post : Int32 → Prop} (h : post (zi (edgesV tw vf d m w))) : wp_X11_edges gw shw (zi d) (zi m) (zi w) post := by
  have b2 := a2
  have b3 := a3
  simp only [ir] at b2 b3
  simp only [wp_X11_edges]
  refine p_isTime a1 a2 (fun t => ⟨fun z => absurd z (by decide), fun _ => ?_⟩) (fun t => ⟨fun _ => ?_, fun z => absurd rfl z⟩)
  · rw [show ((1 : Int32) ≤ zi m) = (zi 1 ≤ zi m) from rfl, zi_le (by omega), show (zi w = 0) = (zi w = zi 0) from rfl, zi_eq (by omega)]
    refine ⟨fun y => ?_, fun y => ?_⟩
    · rw [edgesV, if_pos ⟨t.1, by omega⟩] at h
      refine p_row ?_
      rw [show (1 : Int32) = zi 1 from rfl, zi_sub, show 120 * d + m - 1 = 120 * d + (m - 1) by omega]
      refine ⟨fun x => ?_, fun x => ?_⟩
      · rw [if_pos x] at h
        exact p_onlyIn C t.1 (by omega) (by omega) h
      · rw [if_neg x] at h
        exact p_onlyIn C t.1 (by omega) (by omega) h
    · rw [edgesV, if_neg (by omega)] at h; exact h
  · rw [edgesV, if_neg (by omega)] at h; exact h
theorem p_edgesR (hT : twR tw) (hC : clR tw op arg vf) {sd : Int} {sy sn shA : Int → Int} (hD : dayI tw vf sd sy sn shA) {d m w : Int} (a1 : ir d) (a2 : ir m) (a3 : ir w) {th : Int32} {facts pile : Nat → Int32} {post : Int32 → Int32 → Int32 → (Nat → Int32) → (Nat → Int32) → (Nat → Int32) → (Nat → Int32) → (Nat → Int32) → Prop}
    (h : ∀ (sd' : Int) (sy' sn' shA' : Int → Int) (fa pi : Nat → Int32), dayI tw vf sd' sy' sn' shA' → post (zi (edgesV tw vf d m w)) 0 (zi sd') (zA sy') (zA sn') (zA shA') fa pi) :
    wp_X12_edges (zA tw) op arg th (zi sd) (zA sy) (zA sn) (zA shA) facts pile (zi d) (zi m) (zi w) post := by
  have b3 := a3
  simp only [ir] at b3
  simp only [wp_X12_edges]
  refine p_isDayR a1 (fun q1 => ⟨fun z => absurd z (by decide), fun _ => ?_⟩) (fun q1 => ⟨fun _ => ?_, fun z => absurd rfl z⟩)
  · rw [show (1 : Int32) = zi 1 from rfl, show (119 : Int32) = zi 119 from rfl]
    refine p_within a2 (by omega) (by omega) (fun q2 => ⟨fun _ => ?_, fun z => absurd z (by decide)⟩) (fun q2 => ⟨fun z => absurd rfl z, fun _ => ?_⟩)
    · rw [edgesV, if_pos ⟨q1, q2⟩] at h
      refine p_laysDay hT hC q1 hD.1 hD.2.2.1 hD.2.2.2.1 hD.2.2.2.2 hD.2.1 (fun sy' sn' shA' fa pi i1 i2 dr => ?_)
      obtain ⟨syf, rfl, i3⟩ := zA_ex sy'
      have fin := h d syf sn' shA' fa pi ⟨by omega, i3, i1, i2, fun _ => dr⟩
      have P : ∃ P : Int → Prop, (∀ s : Int, 0 ≤ s → s < 100 → (P s ↔ tw s ≠ 1 ∧ sn' (100 * m + s) ≠ sn' (100 * (m - 1) + s) ∧ sn' (100 * m + s) = (if w = 0 then 1 else 0))) ∧ (if w = 0 then cntC (onlyP tw vf d (m - 1) m) 100 else cntC (onlyP tw vf d m (m - 1)) 100) = cntC P 100 := by
        have s01 : ∀ s, 0 ≤ s → s < 100 → ((sn' (100 * m + s) = 0 ∧ dimP tw vf d m s) ∨ (sn' (100 * m + s) = 1 ∧ ¬ dimP tw vf d m s)) ∧ ((sn' (100 * (m - 1) + s) = 0 ∧ dimP tw vf d (m - 1) s) ∨ (sn' (100 * (m - 1) + s) = 1 ∧ ¬ dimP tw vf d (m - 1) s)) := by
          intro s s0 s1
          have x := (dr (100 * m + s) (by omega) (by omega)).1
          have y := (dr (100 * (m - 1) + s) (by omega) (by omega)).1
          rw [show (100 * m + s) / 100 = m by omega, show (100 * m + s) % 100 = s by omega] at x
          rw [show (100 * (m - 1) + s) / 100 = m - 1 by omega, show (100 * (m - 1) + s) % 100 = s by omega] at y
          exact ⟨x, y⟩
        by_cases hw : w = 0
        · refine ⟨onlyP tw vf d (m - 1) m, fun s s0 s1 => ?_, by rw [if_pos hw]⟩
          rw [if_pos hw]
          rcases s01 s s0 s1 with ⟨⟨x1, x2⟩ | ⟨x1, x2⟩, ⟨y1, y2⟩ | ⟨y1, y2⟩⟩
          · exact ⟨fun z => absurd x2 z.2.2, fun z => by omega⟩
          · exact ⟨fun z => absurd x2 z.2.2, fun z => by omega⟩
          · exact ⟨fun z => ⟨z.1, by omega, x1⟩, fun z => ⟨z.1, y2, x2⟩⟩
          · exact ⟨fun z => absurd z.2.1 y2, fun z => by omega⟩
        · refine ⟨onlyP tw vf d m (m - 1), fun s s0 s1 => ?_, by rw [if_neg hw]⟩
          rw [if_neg hw]
          rcases s01 s s0 s1 with ⟨⟨x1, x2⟩ | ⟨x1, x2⟩, ⟨y1, y2⟩ | ⟨y1, y2⟩⟩
          · exact ⟨fun z => absurd y2 z.2.2, fun z => by omega⟩
          · exact ⟨fun z => ⟨z.1, by omega, x1⟩, fun z => ⟨z.1, x2, y2⟩⟩
          · exact ⟨fun z => absurd z.2.1 x2, fun z => by omega⟩
          · exact ⟨fun z => absurd z.2.1 x2, fun z => by omega⟩
      obtain ⟨P, hP, eP⟩ := P
      rw [eP] at fin
      refine lp_for0 (fun n => (0, zi d, zA syf, zA sn', zA shA', fa, pi, zi m, zi w, zi (cntC P n), zi n)) 100 rfl (fun kb => ?_) (fun i hi kb hkb => ?_)
      · simp (disch := omega) only [wp_X12_edges_L35, zi_lit, zi_le]
        exact ⟨fun _ => fin, fun u => absurd (by decide) u⟩
      · have hni : ((i + 1 : Nat) : Int) = (i : Int) + 1 := by omega
        have hPi := hP i (by omega) (by omega)
        have ti := hT.1 i
        have r1 := i1 (100 * m + i)
        have r2 := i1 (100 * (m - 1) + i)
        have no : ¬ P i → kb (zi 0, zi d, zA syf, zA sn', zA shA', fa, pi, zi m, zi w, zi (cntC P i), zi (i + 1)) := fun q => by
          rw [hni, cntC, if_neg q, Int.add_zero] at hkb; exact hkb
        have yes : P i → kb (zi 0, zi d, zA syf, zA sn', zA shA', fa, pi, zi m, zi w, zi (cntC P i + 1), zi (i + 1)) := fun q => by
          rw [hni, cntC, if_pos q] at hkb; exact hkb
        have e1 : 100 * m - 100 + (i : Int) = 100 * (m - 1) + i := by omega
        simp (disch := omega) only [wp_X12_edges_L35, wp_X12_edges_b104, forall_eq, zi_lit, zi_le, zi_mul, zi_add, zi_sub, e1, zi_in, zA_get, zi_eq, Int.add_zero]
        refine ⟨fun u => by omega, fun _ => ⟨by omega, by omega, by omega, fun u => no (fun q => (hPi.mp q).1 u), fun u => ⟨fun v => no (fun q => (hPi.mp q).2.1 v), fun v => ⟨fun x => ⟨fun y => no (fun q => ?_), fun y => yes (hPi.mpr ⟨u, v, ?_⟩)⟩, fun x => ⟨fun y => no (fun q => ?_), fun y => yes (hPi.mpr ⟨u, v, ?_⟩)⟩⟩⟩⟩⟩
        · have := (hPi.mp q).2.2; rw [if_pos x] at this; exact y this
        · rw [if_pos x]; exact y
        · have := (hPi.mp q).2.2; rw [if_neg x] at this; exact y this
        · rw [if_neg x]; exact y
    · rw [edgesV, if_neg (fun y => q2 y.2)] at h; exact h _ _ _ _ _ _ hD
  · rw [edgesV, if_neg (fun y => q1 y.1)] at h; exact h _ _ _ _ _ _ hD
end ED
