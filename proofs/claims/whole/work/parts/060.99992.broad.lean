/-! broad: both sides -/
section BR
variable {pl : Pool} {tw : Int → Int} {vf : Int → Int → Int → Int32} {sl : Int} {kd hg : Int → Int} {wks : Nat → Option Nat} {shw : Nat → Int64} {ex nt : Int → Int} {ww sw gw : Nat → Int64} {op arg : Nat → Int32}
/-- the minute, and how many squares: only minutes with a sun count -/
noncomputable def bdF (tw : Int → Int) (vf : Int → Int → Int → Int32) (d : Int) : Nat → Int × Int
  | 0 => (-1, -1)
  | n + 1 => if ¬ lnT tw d n < 0 ∧ (bdF tw vf d n).2 < cntC (dmP tw vf d n) 100 then ((n : Int), cntC (dmP tw vf d n) 100) else bdF tw vf d n
theorem bdF_rng {d : Int} : ∀ n : Nat, (-1 ≤ (bdF tw vf d n).1 ∧ (bdF tw vf d n).1 < n ∨ (bdF tw vf d n).1 = -1) ∧ -1 ≤ (bdF tw vf d n).2 ∧ (bdF tw vf d n).2 ≤ 100
  | 0 => by simp [bdF]
  | n + 1 => by
    have ih := bdF_rng (d := d) n
    have c := cntC_rng (dmP tw vf d n) 100
    rw [bdF]
    by_cases q : ¬ lnT tw d n < 0 ∧ (bdF tw vf d n).2 < cntC (dmP tw vf d n) 100
    · rw [if_pos q]
      show (-1 ≤ (n : Int) ∧ (n : Int) < ((n + 1 : Nat) : Int) ∨ (n : Int) = -1) ∧ -1 ≤ cntC (dmP tw vf d n) 100 ∧ cntC (dmP tw vf d n) 100 ≤ 100
      omega
    · rw [if_neg q]; omega
noncomputable def broadV (tw : Int → Int) (vf : Int → Int → Int → Int32) (d w : Int) : Int := if (0 ≤ d ∧ d < 4) ∧ 0 ≤ w ∧ w ≤ 1 then (if w = 0 then (bdF tw vf d 120).1 else (bdF tw vf d 120).2) else -1
theorem p_isDayC {d : Int} (hd : ir d) {post : Int32 → Prop} (h1 : 0 ≤ d ∧ d < 4 → post 1) (h0 : ¬ (0 ≤ d ∧ d < 4) → post 0) : wp_X11_isDay (zi d) post := by
  have := hd
  simp only [ir] at this
  simp (disch := omega) only [wp_X11_isDay, zi_lit, zi_lt, zi_le]
  refine ⟨fun z => ?_, fun z => ?_⟩ <;> first | exact h0 (by omega) | skip
  refine ⟨fun y => ?_, fun y => ?_⟩ <;> first | exact h0 (by omega) | exact h1 (by omega)
theorem p_broadC (C : CS pl tw vf sl kd hg wks shw ex nt ww sw gw) {ln : Int → Int} (hln : ∀ d m, 0 ≤ d → d < 4 → 0 ≤ m → m < 120 → ln (120 * d + m) = lnT tw d m) {d w : Int} (a1 : ir d) (a2 : ir w) {post : Int32 → Prop} (h : post (zi (broadV tw vf d w))) : wp_X11_broad (zA ln) shw gw (zi d) (zi w) post := by
  have b2 := a2
  simp only [ir] at b2
  simp only [wp_X11_broad]
  refine p_isDayC a1 (fun q => ⟨fun z => absurd z (by decide), fun _ => ?_⟩) (fun q => ⟨fun _ => ?_, fun z => absurd rfl z⟩)
  · rw [show (zi w < 0) = (zi w < zi 0) from rfl, zi_lt (by omega), show (zi w ≤ 1) = (zi w ≤ zi 1) from rfl, zi_le (by omega)]
    refine ⟨fun y => ?_, fun y => ⟨fun x => ?_, fun x => ?_⟩⟩
    · rw [broadV, if_neg (by omega)] at h; exact h
    · rw [broadV, if_pos ⟨q, by omega⟩] at h
      refine lp_for0 (fun n => (zi d, zi w, zi (bdF tw vf d n).1, zi (bdF tw vf d n).2, zi n)) 120 rfl (fun kb => ?_) (fun i hi kb hkb => ?_)
      · simp (disch := omega) only [wp_X11_broad_L26, zi_lit, zi_lt, zi_eq]
        refine ⟨fun _ => ⟨fun u => ?_, fun u => ?_⟩, fun u => absurd (by decide) u⟩
        · rw [if_neg u] at h; exact h
        · rw [if_pos u] at h; exact h
      · have hni : ((i + 1 : Nat) : Int) = (i : Int) + 1 := by omega
        have rg := bdF_rng (tw := tw) (vf := vf) (d := d) i
        have lr := lnT_rng (d := d) (m := i) C.1.1
        have l24 := C.1.1.2.2.1
        have cr := cntC_rng (dmP tw vf d i) 100
        rw [hni, bdF] at hkb
        simp (disch := omega) only [wp_X11_broad_L26, wp_X6_lineAt, zi_lit, zi_lt]
        refine ⟨fun u => by omega, fun _ => ?_⟩
        refine p_isTime (by omega) (by omega) (fun t => ⟨fun z => absurd z (by decide), fun _ => ?_⟩) (fun t => absurd ⟨q, by omega⟩ t)
        refine p_row ?_
        rw [zi_in (by omega), zA_get (by omega), hln d i q.1 q.2 (by omega) (by omega)]
        refine ⟨by omega, ?_⟩
        simp (disch := omega) only [zi_neg, zi_eq]
        refine ⟨fun u => ?_, fun u => ?_⟩
        · refine p_row (p_howDim C q (by omega) ?_)
          simp (disch := omega) only [wp_X11_broad_b64, forall_eq, zi_lit, zi_le, zi_add]
          refine ⟨fun v => ?_, fun v => ?_⟩
          · rw [if_neg (by omega)] at hkb; exact hkb
          · rw [if_pos (by omega)] at hkb; exact hkb
        · rw [if_neg (by omega)] at hkb
          simp (disch := omega) only [wp_X11_broad_b64, forall_eq, zi_lit, zi_neg, zi_le, zi_add]
          exact ⟨fun _ => hkb, fun v => by omega⟩
    · rw [broadV, if_neg (by omega)] at h; exact h
  · rw [broadV, if_neg (fun y => q y.1)] at h; exact h
end BR
