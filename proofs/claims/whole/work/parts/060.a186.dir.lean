/-! a line of the sun, the reference: the direction -/
section DR
variable {tp : Int → Int} {tz : Int} {N : Nat} {so va pc : Int → Int}
def drS (tp : Int → Int) (tz : Int) (i : Nat) : Int := if tK tp tz i < 22 ∨ 29 < tK tp tz i then -1 else tK tp tz i - 22
theorem wc_dir : ∀ n : Fin 8, wc (10 + n) = 22 + (n : Int) := by decide
theorem p_dirR (hf : flR tp tz (N + 1) so va pc) (hN1 : N ≤ 1000) {i : Nat} (hi : i ≤ N) {T : Nat → Int32} {l1 l2 l4 : Int32} {x185 : Int32 → Int32 → (Nat → Int32) → Int32 → Int32 → Int32 → Int32 → Prop} {post : Int32 → Int32 → (Nat → Int32) → Prop} (hp : x185 (zi i) 0 T l1 l2 l4 (zi (drS tp tz i))) : ∃ n, lp (wp_X12_readSun_L151 x185 (zL va) (zA pc) (zA so) wd_30 post) n (zi i, 0, T, l1, l2, l4, -1, 0) := by
  refine lp_for0 (fun n => (zi i, 0, T, l1, l2, l4, zi (if 22 ≤ tK tp tz i ∧ tK tp tz i < 22 + n then tK tp tz i - 22 else -1), zi n)) 8 ?_ ?_ ?_
  · rw [if_neg (by omega)]; rfl
  · intro kb
    dsimp only [wp_X12_readSun_L151]
    refine ⟨fun _ => ?_, fun z => absurd (by decide) z⟩
    rw [drS] at hp
    by_cases q : tK tp tz i < 22 ∨ 29 < tK tp tz i
    · rw [if_pos q] at hp
      rw [if_neg (by omega)]; exact hp
    · rw [if_neg q] at hp
      rw [if_pos (by omega)]; exact hp
  · intro n hn kb hkb
    have ew := wc_dir ⟨n, hn⟩
    dsimp only at ew
    have a1 : (10 : Int32) + zi (n : Int) = zi ((10 + n : Nat) : Int) := by rw [zi_lit, zi_add]; rfl
    dsimp only [wp_X12_readSun_L151]
    refine ⟨fun z => ?_, fun _ => ?_⟩
    · rw [zi_lit, zi_le (by omega)] at z; omega
    rw [a1]
    refine p_isWordR hf hN1 hi (by omega) (fun q => ⟨fun z => absurd z (by decide), fun _ y ey => ?_⟩) (fun q => ⟨fun _ y ey => ?_, fun z => absurd rfl z⟩)
    · rw [ew] at q
      rw [if_pos (by omega), show tK tp tz i - 22 = n by omega] at hkb
      rw [ey, zi_p1]; exact hkb
    · rw [ew] at q
      rw [ey, zi_p1]
      by_cases z : 22 ≤ tK tp tz i ∧ tK tp tz i < 22 + (n : Int)
      · rw [if_pos (by omega)] at hkb
        rw [if_pos z]; exact hkb
      · rw [if_neg (by omega)] at hkb
        rw [if_neg z]; exact hkb
theorem p_dirF {at_ fa : Int32} (hfa : ¬ fa = 0) {T : Nat → Int32} {l1 l2 l4 : Int32} {x185 : Int32 → Int32 → (Nat → Int32) → Int32 → Int32 → Int32 → Int32 → Prop} {post : Int32 → Int32 → (Nat → Int32) → Prop} (hp : x185 at_ fa T l1 l2 l4 (-1)) : ∃ n, lp (wp_X12_readSun_L151 x185 (zL va) (zA pc) (zA so) wd_30 post) n (at_, fa, T, l1, l2, l4, -1, 0) := by
  refine lp_for0 (fun n => (at_, fa, T, l1, l2, l4, -1, zi n)) 8 rfl ?_ ?_
  · intro kb
    dsimp only [wp_X12_readSun_L151]
    exact ⟨fun _ => hp, fun z => absurd (by decide) z⟩
  · intro n hn kb hkb
    dsimp only [wp_X12_readSun_L151]
    refine ⟨fun z => ?_, fun _ => ?_⟩
    · rw [zi_lit, zi_le (by omega)] at z; omega
    refine p_isWordF hfa ⟨fun _ y ey => ?_, fun z => absurd rfl z⟩
    rw [ey, zi_p1]; exact hkb
end DR
