/-! broad: the reference -/
section BS
variable {tw : Int → Int} {vf : Int → Int → Int → Int32} {op arg : Nat → Int32}
theorem p_broadR (hT : twR tw) (hC : clR tw op arg vf) {sd : Int} {sy sn shA : Int → Int} (hD : dayI tw vf sd sy sn shA) {d w : Int} (a1 : ir d) (a2 : ir w) {th : Int32} {facts pile : Nat → Int32} {post : Int32 → Int32 → Int32 → (Nat → Int32) → (Nat → Int32) → (Nat → Int32) → (Nat → Int32) → (Nat → Int32) → Prop}
    (h : ∀ (sd' : Int) (sy' sn' shA' : Int → Int) (fa pi : Nat → Int32), dayI tw vf sd' sy' sn' shA' → post (zi (broadV tw vf d w)) 0 (zi sd') (zA sy') (zA sn') (zA shA') fa pi) :
    wp_X12_broad (zA tw) op arg th (zi sd) (zA sy) (zA sn) (zA shA) facts pile (zi d) (zi w) post := by
  simp only [wp_X12_broad]
  refine p_isDayR a1 (fun q1 => ⟨fun z => absurd z (by decide), fun _ => ?_⟩) (fun q1 => ⟨fun _ => ?_, fun z => absurd rfl z⟩)
  · rw [show (0 : Int32) = zi 0 from rfl, show (1 : Int32) = zi 1 from rfl]
    refine p_within a2 (by omega) (by omega) (fun q2 => ⟨fun _ => ?_, fun z => absurd z (by decide)⟩) (fun q2 => ⟨fun z => absurd rfl z, fun _ => ?_⟩)
    · rw [broadV, if_pos ⟨q1, q2⟩] at h
      refine p_laysDay hT hC q1 hD.1 hD.2.2.1 hD.2.2.2.1 hD.2.2.2.2 hD.2.1 (fun sy' sn' shA' fa pi i1 i2 dr => ?_)
      obtain ⟨syf, rfl, i3⟩ := zA_ex sy'
      have fin := h d syf sn' shA' fa pi ⟨by omega, i3, i1, i2, fun _ => dr⟩
      refine lp_for0 (fun n => (zi 0, zi d, zA syf, zA sn', zA shA', fa, pi, zi d, zi w, zi (bdF tw vf d n).1, zi (bdF tw vf d n).2, zi n)) 120 rfl (fun kb => ?_) (fun i hi kb hkb => ?_)
      · simp (disch := omega) only [wp_X12_broad_L36, zi_lit, zi_le, zi_eq]
        refine ⟨fun _ => ⟨fun u => ?_, fun u => ?_⟩, fun u => absurd (by decide) u⟩
        · rw [if_neg u] at fin; exact fin
        · rw [if_pos u] at fin; exact fin
      · have hni : ((i + 1 : Nat) : Int) = (i : Int) + 1 := by omega
        have rg := bdF_rng (tw := tw) (vf := vf) (d := d) i
        have lr := lnT_rng (d := d) (m := i) hT
        have l24 := hT.2.2.1
        have cr := cntC_rng (dmP tw vf d i) 100
        rw [hni, bdF] at hkb
        simp (disch := omega) only [wp_X12_broad_L36, zi_lit, zi_le]
        refine ⟨fun u => by omega, fun _ => ?_⟩
        refine lp_for0 (fun n => (zi 0, zi d, zA syf, zA sn', zA shA', fa, pi, zi d, zi w, zi (bdF tw vf d i).1, zi (bdF tw vf d i).2, zi i, zi (cntC (dmP tw vf d i) n), zi n)) 100 rfl (fun kb2 => ?_) (fun s hs kb2 hkb2 => ?_)
        · simp (disch := omega) only [wp_X12_broad_L49, zi_lit, zi_le]
          refine ⟨fun _ => ?_, fun u => absurd (by decide) u⟩
          refine p_sunLine hT q1 (by omega) ?_
          simp (disch := omega) only [forall_eq, zi_lit, zi_lt, zi_le, zi_add]
          refine ⟨fun u => ?_, fun u => ⟨fun v => ?_, fun v => ?_⟩⟩
          · rw [if_neg (by omega)] at hkb; exact hkb
          · rw [if_neg (by omega)] at hkb; exact hkb
          · rw [if_pos (by omega)] at hkb; exact hkb
        · have hns : ((s + 1 : Nat) : Int) = (s : Int) + 1 := by omega
          have ts := hT.1 s
          have ss := i1 (100 * i + s)
          have sr := (dr (100 * i + s) (by omega) (by omega)).1
          rw [show (100 * (i : Int) + s) / 100 = i by omega, show (100 * (i : Int) + s) % 100 = s by omega] at sr
          rw [hns, cntC] at hkb2
          simp (disch := omega) only [wp_X12_broad_L49, forall_eq, zi_lit, zi_le, zi_mul, zi_add, zi_in, zA_get, zi_eq, Int.add_zero]
          refine ⟨fun u => by omega, fun _ => ⟨by omega, fun u => ?_, fun u => ⟨by omega, fun v => ?_, fun v => ?_⟩⟩⟩
          · rw [if_neg (fun q => q.1 u), Int.add_zero] at hkb2; exact hkb2
          · rw [if_neg (fun q => by rcases sr with x | x; exact v x.1; exact x.2 q.2), Int.add_zero] at hkb2; exact hkb2
          · rw [if_pos ⟨u, by rcases sr with x | x; exact x.2; exact absurd x.1 (by omega)⟩] at hkb2; exact hkb2
    · rw [broadV, if_neg (fun y => q2 y.2)] at h; exact h _ _ _ _ _ _ hD
  · rw [broadV, if_neg (fun y => q1 y.1)] at h; exact h _ _ _ _ _ _ hD
end BS
