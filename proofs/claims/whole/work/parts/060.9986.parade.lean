/-! parade, start: both sides -/
section PD
variable {pl : Pool} {tw : Int → Int} {vf : Int → Int → Int → Int32} {sl : Int} {kd hg : Int → Int} {wks : Nat → Option Nat} {shw : Nat → Int64} {ex nt : Int → Int} {ww sw gw : Nat → Int64} {op arg : Nat → Int32}
noncomputable def parS (sn f : Int → Int) (m p : Int) : Nat → Int
  | 0 => 0
  | n + 1 => parS sn f m p n + sn (100 * (m + n) + f (n / p))
noncomputable def parV (sn f : Int → Int) (z m p : Int) : Int := if z = 0 ∨ 119 < m + p * (z - 1) then -1 else parS sn f m p (p * (z - 1)).toNat
theorem pr_bd {z p : Int} (hz : 1 ≤ z ∧ z ≤ 30) (hp : 1 ≤ p ∧ p ≤ 3) : 0 ≤ p * (z - 1) ∧ p * (z - 1) ≤ 87 ∧ (z - 1) * p = p * (z - 1) := by
  rcases (show p = 1 ∨ p = 2 ∨ p = 3 by omega) with h | h | h <;> subst h <;> omega
theorem pr_dv {z p : Int} (hz : 1 ≤ z ∧ z ≤ 30) (hp : 1 ≤ p ∧ p ≤ 3) {i : Nat} (hi : i < (p * (z - 1)).toNat) : 0 ≤ (i : Int) / p ∧ (i : Int) / p < z ∧ (i : Int) / p < 30 := by
  rcases (show p = 1 ∨ p = 2 ∨ p = 3 by omega) with h | h | h <;> subst h <;> omega
theorem parS_rng {sn f : Int → Int} {m p : Int} (h01 : ∀ k, 0 ≤ k → k < 12000 → sn k = 0 ∨ sn k = 1) : ∀ n : Nat, (∀ i : Nat, i < n → 0 ≤ 100 * (m + i) + f (i / p) ∧ 100 * (m + i) + f (i / p) < 12000) → 0 ≤ parS sn f m p n ∧ parS sn f m p n ≤ n
  | 0, _ => by simp [parS]
  | n + 1, h => by
    have ih := parS_rng h01 n (fun i hi => h i (by omega))
    have a := h n (by omega)
    have := h01 _ a.1 a.2
    rw [parS]
    omega
theorem par_in {f : Int → Int} {z m p : Int} (hz : 1 ≤ z ∧ z ≤ 30) (hf : ∀ j, 0 ≤ j → j < z → 0 ≤ f j ∧ f j < 100) (hp : 1 ≤ p ∧ p ≤ 3) (hm : 0 ≤ m) (he : m + p * (z - 1) ≤ 119) : ∀ i : Nat, i < (p * (z - 1)).toNat → 0 ≤ 100 * (m + i) + f (i / p) ∧ 100 * (m + i) + f (i / p) < 12000 := by
  intro i hi
  have d := pr_dv hz hp hi
  have b := pr_bd hz hp
  have := hf _ d.1 d.2.1
  omega
theorem snC_b (k : Int) {d : Int} : ∀ k, 0 ≤ k → k < 12000 → snC tw vf d k = 0 ∨ snC tw vf d k = 1 := fun k _ _ => by have := snC_01 tw vf d k; omega
theorem p_paradeFrom {sn f : Int → Int} (hsn : i32 sn) (h01 : ∀ k, 0 ≤ k → k < 12000 → sn k = 0 ∨ sn k = 1) {z m p : Int} (hz : 0 ≤ z ∧ z ≤ 30) (hf : ∀ j, 0 ≤ j → j < z → 0 ≤ f j ∧ f j < 100) (hp : 1 ≤ p ∧ p ≤ 3) (hm : 0 ≤ m ∧ m < 120) {x1 : Int32} {post : Int32 → Prop} (h : post (zi (parV sn f z m p))) : wp_X12_paradeFrom (zi z) (zA sn) (zA f) x1 (zi m) (zi p) post := by
  simp (disch := omega) only [wp_X12_paradeFrom, zi_lit, zi_neg, zi_eq, zi_sub, zi_mul, zi_add]
  refine ⟨fun q => ?_, fun q => ?_⟩
  · rw [parV, if_pos (Or.inl q)] at h; exact h
  have b := pr_bd (z := z) (by omega) hp
  rw [zi_le (by omega)]
  refine ⟨fun y => ?_, fun y => ?_⟩
  · rw [parV, if_neg (by omega)] at h
    have inn := par_in (z := z) (by omega) hf hp hm.1 y
    refine lp_for0 (fun n => (zi m, zi p, zi (parS sn f m p n), zi (m + n))) (p * (z - 1)).toNat (by simp [parS]) (fun kb => ?_) (fun i hi kb hkb => ?_)
    · simp (disch := omega) only [wp_X12_paradeFrom_L30, zi_lit, zi_sub, zi_mul, zi_add, zi_le]
      exact ⟨fun _ => h, fun u => by omega⟩
    · have hni : m + ((i + 1 : Nat) : Int) = m + i + 1 := by omega
      have dv := pr_dv (z := z) (by omega) hp hi
      have ki := inn i hi
      have s1 := hsn (100 * (m + i) + f (i / p))
      have hfi := hf _ dv.1 dv.2.1
      rw [hni, parS] at hkb
      have ed : m + (i : Int) - m = i := by omega
      simp (disch := omega) only [wp_X12_paradeFrom_L30, forall_eq, zi_lit, zi_sub, zi_mul, zi_add, zi_le, zi_eq, ed, zi_div, zi_in, zA_get]
      exact ⟨fun u => by omega, fun _ => ⟨by omega, by omega, by omega, hkb⟩⟩
  · rw [parV, if_pos (Or.inr (by omega))] at h; exact h
theorem p_paradeSun (C : CS pl tw vf sl kd hg wks shw ex nt ww sw gw) {f : Int → Int} {d z m p : Int} (hd : 0 ≤ d ∧ d < 4) (hz : 0 ≤ z ∧ z ≤ 30) (hf : ∀ j, 0 ≤ j → j < z → 0 ≤ f j ∧ f j < 100) (hp : 1 ≤ p ∧ p ≤ 3) (hm : 0 ≤ m ∧ m < 120) {post : Int32 → Prop} (h : post (zi (parV (snC tw vf d) f z m p))) : wp_X11_paradeSun (zi z) (zA f) shw (zi d) (zi m) (zi p) post := by
  simp (disch := omega) only [wp_X11_paradeSun, zi_lit, zi_neg, zi_eq, zi_sub, zi_mul, zi_add]
  refine ⟨fun q => ?_, fun q => ?_⟩
  · rw [parV, if_pos (Or.inl q)] at h; exact h
  have b := pr_bd (z := z) (by omega) hp
  rw [zi_le (by omega)]
  refine ⟨fun y => ?_, fun y => ?_⟩
  · rw [parV, if_neg (by omega)] at h
    have inn := par_in (z := z) (by omega) hf hp hm.1 (by omega)
    refine lp_for0 (fun n => (zi d, zi m, zi p, zi (parS (snC tw vf d) f m p n), zi n)) (p * (z - 1)).toNat (by simp [parS]) (fun kb => ?_) (fun i hi kb hkb => ?_)
    · simp (disch := omega) only [wp_X11_paradeSun_L41, zi_lit, zi_sub, zi_mul, zi_le]
      exact ⟨fun _ => h, fun u => by omega⟩
    · have hni : ((i + 1 : Nat) : Int) = (i : Int) + 1 := by omega
      have dv := pr_dv (z := z) (by omega) hp hi
      have ki := inn i hi
      have hfi := hf _ dv.1 dv.2.1
      rw [hni, parS] at hkb
      have ep : (if (1 : Int32) < zi p then zi p else 1) = zi p := by
        by_cases u : 1 < p
        · rw [if_pos (by rw [zi_lit, zi_lt (by omega)]; exact u)]
        · rw [if_neg (by rw [zi_lit, zi_lt (by omega)]; exact u), show p = 1 by omega]; rfl
      simp only [wp_X11_paradeSun_L41, ep]
      simp (disch := omega) only [zi_lit, zi_sub, zi_mul, zi_add, zi_le, zi_eq, zi_div]
      refine ⟨fun u => by omega, fun _ => ?_⟩
      refine p_row ?_
      refine ⟨by omega, ?_⟩
      refine p_at (by decide) (by omega) (by omega) (fun _ _ => ?_) (fun u => by omega)
      have s01 := snC_01 tw vf d (100 * (m + i) + f (i / p))
      rw [show (100 * (m + (i : Int)) + f (i / p)) / 100 = m + i by omega, show (100 * (m + (i : Int)) + f (i / p)) % 100 = f (i / p) by omega] at s01
      refine has_wR C.2.1 hd (m := m + i) (by omega) hfi (fun x => ⟨fun _ => ?_, fun u => absurd u (by decide)⟩) (fun x => ⟨fun u => absurd rfl u, fun _ => ?_⟩)
      · rcases s01 with ⟨e, _⟩ | ⟨_, e⟩
        · rw [e, Int.add_zero] at hkb
          simp only [forall_eq]
          exact hkb
        · exact absurd x e
      · rcases s01 with ⟨_, e⟩ | ⟨e, _⟩
        · exact absurd e x
        · rw [e] at hkb
          simp only [forall_eq, zi_add]
          exact hkb
  · rw [parV, if_pos (Or.inr (by omega))] at h; exact h
end PD
