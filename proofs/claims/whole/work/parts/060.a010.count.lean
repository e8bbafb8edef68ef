/-! count, clear, pull, feed: both sides -/
section CO
variable {pl : Pool} {tw : Int → Int} {vf : Int → Int → Int → Int32} {kd hg : Int → Int} {wks suns : Nat → Option Nat} {op arg : Nat → Int32}
noncomputable def countV (tw : Int → Int) (ps fo td tp w : Int) : Int :=
  if w = 0 ∨ w = 1 ∨ w = 2 then cntC (fun s => tw s = w + 1) 100 else if w = 3 ∨ w = 4 then cntC (fun i => tw (202 + 3 * i) = w) (tw 200).toNat else if w = 5 then tw 261 else if w = 6 then cntC (fun i => 0 < tw (382 + 7 * i)) 6 else if w = 7 then ps else if w = 8 then fo else if w = 9 then td else if w = 10 then tp else if w = 11 then tw 424 else -1
theorem p_howMany (hK : kdR tw kd hg) (hT : i32 tw) {k : Int} (hk : 0 ≤ k ∧ k < 10) {post : Int32 → Prop} (h : post (zi (cntC (fun s => tw s = k) 100))) : wp_X8_howMany (zA kd) (zi k) post := by
  simp only [wp_X8_howMany]
  refine lp_for0 (fun n => (zi k, zi (cntC (fun s => tw s = k) n), zi n)) 100 rfl (fun kb => ?_) (fun i hi kb hkb => ?_)
  · simp (disch := omega) only [wp_X8_howMany_L4, zi_lit, zi_le]
    exact ⟨fun _ => h, fun u => absurd (by decide) u⟩
  · have hni : ((i + 1 : Nat) : Int) = (i : Int) + 1 := by omega
    have e := (hK.2.2 i (by omega) (by omega)).1
    have ti := hT i
    rw [hni, cntC] at hkb
    simp (disch := omega) only [wp_X8_howMany_L4, forall_eq, zi_lit, zi_le, zi_in, zA_get, zi_add, e, zi_eq]
    refine ⟨fun u => by omega, fun _ => ⟨by omega, fun u => ?_, fun u => ?_⟩⟩
    · rw [if_neg u, Int.add_zero] at hkb; exact hkb
    · rw [if_pos u] at hkb; exact hkb
theorem p_howManyWalkers (hW : wkR2 pl tw wks) {post : Int32 → Prop} (h : post (zi (cntC (fun i => 0 < tw (382 + 7 * i)) 6))) : wp_X8_howManyWalkers wks post := by
  simp only [wp_X8_howManyWalkers]
  refine lp_for0 (fun n => (zi (cntC (fun i => 0 < tw (382 + 7 * i)) n), zi n)) 6 rfl (fun kb => ?_) (fun i hi kb hkb => ?_)
  · simp (disch := omega) only [wp_X8_howManyWalkers_L4, nI_zi, zi_le]
    exact ⟨fun _ => h, fun u => absurd (by decide) u⟩
  · have hni : ((i + 1 : Nat) : Int) = (i : Int) + 1 := by omega
    have e := hW i (by omega) (by omega)
    rw [hni, cntC] at hkb
    simp (disch := omega) only [wp_X8_howManyWalkers_L4, forall_eq, nI_zi, zi_lit, zi_le, zi_in, zi_add, zi_cl]
    refine ⟨fun u => by omega, fun _ => ⟨by omega, fun u => ?_, fun q u => ?_⟩⟩
    · rw [if_neg (fun y => by obtain ⟨q, q1, -⟩ := e.2 y; rw [u] at q1; cases q1), Int.add_zero] at hkb; exact hkb
    · rw [if_pos (Classical.byContradiction (fun y => by rw [e.1 y] at u; cases u))] at hkb; exact hkb
theorem p_countC (hK : kdR tw kd hg) (hT : twR tw) (hW : wkR2 pl tw wks) {al sl ps fo td tp w : Int} (hal : al = cntC (fun i => tw (202 + 3 * i) = 3) (tw 200).toNat) (hsl : sl = cntC (fun i => tw (202 + 3 * i) = 4) (tw 200).toNat) (a1 : ir w) {post : Int32 → Prop} (h : post (zi (countV tw ps fo td tp w))) : wp_X11_count (zi al) (zi sl) (zi (tw 424)) (zi (tw 261)) (zA kd) wks (zi ps) (zi fo) (zi td) (zi tp) (zi w) post := by
  have b1 := a1
  simp only [ir] at b1
  simp (disch := omega) only [wp_X11_count, zi_lit, zi_neg, zi_eq]
  refine ⟨fun z => ?_, fun z => ?_, fun z => ?_, fun z => ?_, fun z => ?_, fun z => ?_, fun z => ?_, fun z => ?_, fun z => ?_, fun z => ?_, fun z => ?_, fun z => ?_, fun z0 z1 z2 z3 z4 z5 z6 z7 z8 z9 z10 z11 => ?_⟩
  · subst z; rw [countV, if_pos (by decide)] at h; exact p_howMany hK hT.1 (by decide) h
  · subst z; rw [countV, if_pos (by decide)] at h; exact p_howMany hK hT.1 (by decide) h
  · subst z; rw [countV, if_pos (by decide)] at h; exact p_howMany hK hT.1 (by decide) h
  · subst z; rw [countV, if_neg (by decide), if_pos (by decide)] at h; rw [hal]; exact h
  · subst z; rw [countV, if_neg (by decide), if_pos (by decide)] at h; rw [hsl]; exact h
  · subst z; rw [countV, if_neg (by decide), if_neg (by decide), if_pos rfl] at h; exact h
  · subst z; rw [countV, if_neg (by decide), if_neg (by decide), if_neg (by decide), if_pos rfl] at h; exact p_howManyWalkers hW h
  · subst z; rw [countV, if_neg (by decide), if_neg (by decide), if_neg (by decide), if_neg (by decide), if_pos rfl] at h; exact h
  · subst z; rw [countV, if_neg (by decide), if_neg (by decide), if_neg (by decide), if_neg (by decide), if_neg (by decide), if_pos rfl] at h; exact h
  · subst z; rw [countV, if_neg (by decide), if_neg (by decide), if_neg (by decide), if_neg (by decide), if_neg (by decide), if_neg (by decide), if_pos rfl] at h; exact h
  · subst z; rw [countV, if_neg (by decide), if_neg (by decide), if_neg (by decide), if_neg (by decide), if_neg (by decide), if_neg (by decide), if_neg (by decide), if_pos rfl] at h; exact h
  · subst z; rw [countV, if_neg (by decide), if_neg (by decide), if_neg (by decide), if_neg (by decide), if_neg (by decide), if_neg (by decide), if_neg (by decide), if_neg (by decide), if_pos rfl] at h; exact h
  · rw [countV, if_neg (by omega), if_neg (by omega), if_neg z5, if_neg z6, if_neg z7, if_neg z8, if_neg z9, if_neg z10, if_neg z11] at h; exact h
theorem p_countR (hT : twR tw) {ps fo td tp w : Int} (a1 : ir w) {th : Int32} {post : Int32 → Int32 → Prop} (h : post (zi (countV tw ps fo td tp w)) 0) : wp_X12_count (zi tp) (zi ps) (zi fo) (zi td) (zA tw) th (zi w) post := by
  have b1 := a1
  simp only [ir] at b1
  have k1 : ∀ w : Int, 0 ≤ w ∧ w < 3 → post (zi (cntC (fun s => tw s = w + 1) 100)) 0 → ∃ n, lp (wp_X12_count_L74 (fun t_thrown l2 => post l2 t_thrown) (zi tp) (zi ps) (zi fo) (zi td) (zA tw) post) n (zi 0, zi w, zi 0, zi 0) := by
    intro w hw h
    refine lp_for0 (fun n => (zi 0, zi w, zi (cntC (fun s => tw s = w + 1) n), zi n)) 100 rfl (fun kb => ?_) (fun i hi kb hkb => ?_)
    · simp (disch := omega) only [wp_X12_count_L74, zi_lit, zi_le]
      exact ⟨fun _ => h, fun u => absurd (by decide) u⟩
    · have hni : ((i + 1 : Nat) : Int) = (i : Int) + 1 := by omega
      have ti := hT.1 i
      rw [hni, cntC] at hkb
      simp (disch := omega) only [wp_X12_count_L74, forall_eq, zi_lit, zi_le, zi_in, zA_get, zi_add, zi_eq, Int.add_zero]
      refine ⟨fun u => by omega, fun _ => ⟨by omega, fun u => ?_, fun u => ?_⟩⟩
      · rw [if_neg u, Int.add_zero] at hkb; exact hkb
      · rw [if_pos u] at hkb; exact hkb
  have k2 : ∀ w : Int, w = 3 ∨ w = 4 → post (zi (cntC (fun i => tw (202 + 3 * i) = w) (tw 200).toNat)) 0 → ∃ n, lp (wp_X12_count_L110 (fun t_thrown l2 => post l2 t_thrown) (zi tp) (zi ps) (zi fo) (zi td) (zA tw) post) n (zi 0, zi w, zi 0, zi 0) := by
    intro w hw h
    have t200 := hT.2.2.2.2.1
    refine lp_for0 (fun n => (zi 0, zi w, zi (cntC (fun i => tw (202 + 3 * i) = w) n), zi n)) (tw 200).toNat rfl (fun kb => ?_) (fun i hi kb hkb => ?_)
    · simp (disch := omega) only [wp_X12_count_L110, zi_lit, zi_le, zi_in, zA_get]
      exact ⟨by decide, fun _ => h, fun u => absurd (by omega) u⟩
    · have hni : ((i + 1 : Nat) : Int) = (i : Int) + 1 := by omega
      have ti := hT.1 (202 + 3 * i)
      rw [hni, cntC] at hkb
      simp (disch := omega) only [wp_X12_count_L110, forall_eq, zi_lit, zi_le, zi_in, zi_mul, zi_add, zA_get, Int.add_zero]
      refine ⟨by decide, fun u => by omega, fun _ => ⟨by omega, ?_⟩⟩
      rw [show 201 + 3 * (i : Int) + 1 = 202 + 3 * i by omega, zi_eq (by omega)]
      refine ⟨fun u => ?_, fun u => ?_⟩
      · rw [if_neg u, Int.add_zero] at hkb; exact hkb
      · rw [if_pos u] at hkb; exact hkb
  have k3 : post (zi (cntC (fun i => 0 < tw (382 + 7 * i)) 6)) 0 → ∃ n, lp (wp_X12_count_L167 (fun t_thrown l2 => post l2 t_thrown) (zi tp) (zi ps) (zi fo) (zi td) (zA tw) post) n (zi 0, zi 0, zi 0) := by
    intro h
    refine lp_for0 (fun n => (zi 0, zi (cntC (fun i => 0 < tw (382 + 7 * i)) n), zi n)) 6 rfl (fun kb => ?_) (fun i hi kb hkb => ?_)
    · simp (disch := omega) only [wp_X12_count_L167, zi_lit, zi_le]
      exact ⟨fun _ => h, fun u => absurd (by decide) u⟩
    · have hni : ((i + 1 : Nat) : Int) = (i : Int) + 1 := by omega
      rw [hni, cntC] at hkb
      simp (disch := omega) only [wp_X12_count_L167, forall_eq, zi_lit, zi_le, zi_add, Int.add_zero]
      refine ⟨fun u => by omega, fun _ => ?_⟩
      refine p_isWalkerR hT.1 (by simp only [ir]; omega) (fun u => ⟨fun z => absurd z (by decide), fun _ => ?_⟩) (fun u => ⟨fun _ => ?_, fun z => absurd rfl z⟩)
      · rw [if_pos u.2] at hkb; exact hkb
      · rw [if_neg (fun y => u ⟨by omega, y⟩), Int.add_zero] at hkb; exact hkb
  simp (disch := omega) only [wp_X12_count, zi_lit, zi_neg, zi_eq, zi_in, zA_get]
  refine ⟨fun z => ?_, fun z => ?_, fun z => ?_, fun z => ?_, fun z => ?_, fun z => ⟨by decide, ?_⟩, fun z => ?_, fun z => ?_, fun z => ?_, fun z => ?_, fun z => ?_, fun z => ⟨by decide, ?_⟩, fun z0 z1 z2 z3 z4 z5 z6 z7 z8 z9 z10 z11 => ?_⟩
  · subst z; rw [countV, if_pos (by decide)] at h; exact k1 _ (by decide) h
  · subst z; rw [countV, if_pos (by decide)] at h; exact k1 _ (by decide) h
  · subst z; rw [countV, if_pos (by decide)] at h; exact k1 _ (by decide) h
  · subst z; rw [countV, if_neg (by decide), if_pos (by decide)] at h; exact k2 _ (by decide) h
  · subst z; rw [countV, if_neg (by decide), if_pos (by decide)] at h; exact k2 _ (by decide) h
  · subst z; rw [countV, if_neg (by decide), if_neg (by decide), if_pos rfl] at h; exact h
  · subst z; rw [countV, if_neg (by decide), if_neg (by decide), if_neg (by decide), if_pos rfl] at h; exact k3 h
  · subst z; rw [countV, if_neg (by decide), if_neg (by decide), if_neg (by decide), if_neg (by decide), if_pos rfl] at h; exact h
  · subst z; rw [countV, if_neg (by decide), if_neg (by decide), if_neg (by decide), if_neg (by decide), if_neg (by decide), if_pos rfl] at h; exact h
  · subst z; rw [countV, if_neg (by decide), if_neg (by decide), if_neg (by decide), if_neg (by decide), if_neg (by decide), if_neg (by decide), if_pos rfl] at h; exact h
  · subst z; rw [countV, if_neg (by decide), if_neg (by decide), if_neg (by decide), if_neg (by decide), if_neg (by decide), if_neg (by decide), if_neg (by decide), if_pos rfl] at h; exact h
  · subst z; rw [countV, if_neg (by decide), if_neg (by decide), if_neg (by decide), if_neg (by decide), if_neg (by decide), if_neg (by decide), if_neg (by decide), if_neg (by decide), if_pos rfl] at h; exact h
  · rw [countV, if_neg (by omega), if_neg (by omega), if_neg z5, if_neg z6, if_neg z7, if_neg z8, if_neg z9, if_neg z10, if_neg z11] at h; exact h
theorem p_clearC {a b : Int32} {post : Int32 → Int32 → Int32 → Prop} (h : post 1 (zi 0) (zi 0)) : wp_X11_clear a b post := by
  simp only [wp_X11_clear, wp_X0_empty]
  exact h
theorem p_clearR {th a b : Int32} {post : Int32 → Int32 → Int32 → Int32 → Prop} (h : post 1 0 (zi 0) (zi 0)) : wp_X12_clear th a b post := h
end CO
