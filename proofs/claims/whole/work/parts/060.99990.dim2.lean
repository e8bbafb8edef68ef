/-! dim: the calls -/
section DJ
variable {pl : Pool} {tw : Int → Int} {vf : Int → Int → Int → Int32} {sl : Int} {kd hg : Int → Int} {wks : Nat → Option Nat} {shw : Nat → Int64} {ex nt : Int → Int} {ww sw gw : Nat → Int64} {op arg : Nat → Int32}
noncomputable def dimV (tw : Int → Int) (vf : Int → Int → Int → Int32) (d m : Int) : Int := if (0 ≤ d ∧ d < 4) ∧ (0 ≤ m ∧ m < 120) then cntC (dmP tw vf d m) 100 else -1
theorem p_dimC (C : CS pl tw vf sl kd hg wks shw ex nt ww sw gw) {d m : Int} (a1 : ir d) (a2 : ir m) {post : Int32 → Prop} (h : post (zi (dimV tw vf d m))) : wp_X11_dim shw gw (zi d) (zi m) post := by
  simp only [wp_X11_dim]
  refine p_isTime a1 a2 (fun t => ⟨fun z => absurd z (by decide), fun _ => ?_⟩) (fun t => ⟨fun _ => ?_, fun z => absurd rfl z⟩)
  · rw [dimV, if_pos t] at h
    exact p_row (p_howDim C t.1 t.2 h)
  · rw [dimV, if_neg t] at h; exact h
theorem p_dimR (hT : twR tw) (hC : clR tw op arg vf) {d m : Int} (a1 : ir d) (a2 : ir m) {th : Int32} {facts pile : Nat → Int32} {post : Int32 → Int32 → (Nat → Int32) → (Nat → Int32) → Prop} (h : ∀ f p, post (zi (dimV tw vf d m)) 0 f p) : wp_X12_dim (zA tw) op arg th facts pile (zi d) (zi m) post := by
  simp only [wp_X12_dim]
  refine p_isDayR a1 (fun q1 => ⟨fun z => absurd z (by decide), fun _ => ?_⟩) (fun q1 => ⟨fun _ => ?_, fun z => absurd rfl z⟩)
  · refine p_isMinuteR a2 (fun q2 => ⟨fun _ => ?_, fun z => absurd z (by decide)⟩) (fun q2 => ⟨fun z => absurd rfl z, fun _ => ?_⟩)
    · rw [dimV, if_pos ⟨q1, q2⟩] at h
      refine lp_inv (fun n s' => ∃ f p, s' = (0, f, p, zi d, zi m, zi (cntC (dmP tw vf d m) n), zi n)) 100 ?_ ?_ 0 (Nat.zero_le _) ⟨facts, pile, rfl⟩
      · rintro s' ⟨f, p, rfl⟩ kb
        simp (disch := omega) only [wp_X12_dim_L26, zi_lit, zi_le]
        exact ⟨fun _ => h f p, fun u => absurd (by decide) u⟩
      · rintro i hi s' ⟨f, p, rfl⟩ kb hkb
        have hni : ((i + 1 : Nat) : Int) = (i : Int) + 1 := by omega
        have ti := hT.1 i
        have no : ¬ dmP tw vf d m i → ∀ f p, kb (zi 0, f, p, zi d, zi m, zi (cntC (dmP tw vf d m) i), zi ((i : Int) + 1)) := fun q f p => hkb _ ⟨f, p, by rw [cntC, if_neg q, Int.add_zero, hni]; rfl⟩
        have yes : dmP tw vf d m i → ∀ f p, kb (zi 0, f, p, zi d, zi m, zi (cntC (dmP tw vf d m) i + 1), zi ((i : Int) + 1)) := fun q f p => hkb _ ⟨f, p, by rw [cntC, if_pos q, hni]; rfl⟩
        simp (disch := omega) only [wp_X12_dim_L26, forall_eq, zi_lit, zi_le, zi_in, zA_get, zi_eq, zi_add, Int.add_zero]
        refine ⟨fun u => by omega, fun _ => ⟨by omega, fun u => no (fun q => q.1 u) f p, fun u => ?_⟩⟩
        refine p_isDim hT hC q1 q2 (by omega) (fun x f' p' => ⟨fun z => absurd z (by decide), fun _ => yes ⟨u, x⟩ f' p'⟩) (fun x f' p' => ⟨fun _ => no (fun q => x q.2) f' p', fun z => absurd rfl z⟩)
    · rw [dimV, if_neg (fun y => q2 y.2)] at h; exact h _ _
  · rw [dimV, if_neg (fun y => q1 y.1)] at h; exact h _ _
end DJ
