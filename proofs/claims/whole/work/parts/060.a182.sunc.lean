/-! a line of the sun, the class -/
section SC
variable {tp : Int → Int} {tz : Int} {N : Nat} {f g h : Int → Int}
theorem p_sunC (hz : 0 ≤ tz ∧ tz ≤ 1000) (hf : flC tp tz (N + 1) f g h) (hN : pos tp tz N = tz) (hN1 : N ≤ 1000) {i : Nat} (hi : i < N) {S : Int → Int} {pl : Pool} {suns : Nat → Option Nat} (hs : twR S) (hsu : suR pl S suns) {num np fa : Int32} {post : Int32 → Int32 → Int32 → Int32 → Int32 → Int32 → Int32 → Int32 → Int32 → (Nat → Option Nat) → Pool → Prop}
    (g1 : (suK tp tz S i).1 ≠ 0 → ∀ a b c d e e2, post 0 a b c d e e2 (zi ((suK tp tz S i).1 + 16 * pos tp tz (suK tp tz S i).2)) (zi (S 261)) suns pl)
    (g1' : (suK tp tz S i).1 ≠ 0 → S 261 < 24 → ∀ (q : Nat) a b c d e e2, post 0 a b c d e e2 (zi ((suK tp tz S i).1 + 16 * pos tp tz (suK tp tz S i).2)) (zi (S 261 + 1)) (va_up suns (S 261).toNat (some q)) ((q, suO tp tz i) :: pl))
    (g0 : (suK tp tz S i).1 = 0 → S 261 < 24 → ((suK tp tz S i).2 ≤ N ∧ i < (suK tp tz S i).2) → ∀ (q : Nat) e e2, post 1 (zi (((suK tp tz S i).2 + 1 : Nat) : Int)) (zi (tK tp tz (suK tp tz S i).2)) (zi (tV tp tz (suK tp tz S i).2)) (zi (pos tp tz (suK tp tz S i).2)) e e2 fa (zi (S 261 + 1)) (va_up suns (S 261).toNat (some q)) ((q, suO tp tz i) :: pl)) : wp_X4_readSun (sz N) (sz N) (zA g) (sz N) (zi tz) (zA h) (zA f) (zi ((i + 1 : Nat) : Int)) (zi (tK tp tz i)) (zi (tV tp tz i)) (zi (pos tp tz i)) num np fa (zi (S 261)) suns pl post := by
  have h24 := hs.2.2.1
  rw [wp_X4_readSun, zi_lit, zi_lt (by omega)]
  refine ⟨fun q => ?_, fun q => ?_⟩
  rotate_left
  · rw [suK, if_pos (by omega)] at g1
    rw [wp_X4_wrong, forall_eq, show (5 : Int32) + 16 * zi (pos tp tz i) = _ from flt_c 5 _]
    exact ⟨Or.inl rfl, g1 (show (5 : Int) ≠ 0 by decide) _ _ _ _ _ _⟩
  rw [suK, if_neg (by omega)] at g1 g1' g0
  refine p_advC hf hN1 (by omega) ?_
  refine p_numC (i := i + 1) (lo := 0) (hi' := 3) hz hf hN hN1 (by omega) (by omega) (fun n1 => ⟨fun _ => ?_, fun z => absurd z (by decide)⟩) (fun n1 => ⟨fun z => absurd rfl z, fun _ => ?_⟩)
  rotate_left
  · rw [if_pos n1] at g1
    exact g1 n1 _ _ _ _ _ _
  have i1 := nS_lt hN (by omega) n1
  have v1 := nS_0 n1
  rw [if_neg (fun z => z n1)] at g1 g1' g0
  refine p_clauseC (i := i + 1 + 1) (q := 9) (lo := 0) (hi' := 119) hz hf hN hN1 (by omega) (by omega) (by omega) (fun c2 i3 => ⟨fun _ => ?_, fun z => absurd z (by decide)⟩) (fun c2 a b c d => ⟨fun z => absurd rfl z, fun _ => ?_⟩)
  rotate_left
  · rw [if_pos c2] at g1
    exact g1 c2 _ _ _ _ _ _
  have v2 := nS_0 (cS_0 c2).2
  rw [if_neg (fun z => z c2)] at g1 g1' g0
  have lr := lstS_rng hs (d := tV tp tz (i + 1)) (S 261).toNat (by omega)
  have i3' : i + 1 + 1 + 1 < N := i3
  have v2' : 0 ≤ tV tp tz (i + 1 + 1 + 1) ∧ tV tp tz (i + 1 + 1 + 1) ≤ 119 := v2.2
  refine p_lastSun hs hsu (by omega) ?_
  rw [zi_lt (by omega)]
  refine ⟨fun z x90 e90 => ?_, fun z => ?_⟩
  rotate_left
  · rw [if_pos (by omega)] at g1
    rw [wp_X4_wrong, forall_eq, show (3 : Int32) + 16 * zi (pos tp tz (i + 1 + 1 + 1)) = _ from flt_c 3 _]
    exact ⟨Or.inl rfl, g1 (show (3 : Int) ≠ 0 by decide) _ _ _ _ _ _⟩
  rw [if_neg (by omega)] at g1 g1' g0
  have ex : x90 = zi (tK tp tz (i + 1 + 1 + 1 + 1) - 22) := by rw [e90, zi_lit, zi_sub]
  subst ex
  have tr := tK_rng (tp := tp) (tz := tz) (i := i + 1 + 1 + 1 + 1)
  have bad : tK tp tz (i + 1 + 1 + 1 + 1) < 22 ∨ 29 < tK tp tz (i + 1 + 1 + 1 + 1) → ∀ a b c d e, wp_X4_readSun_b109 (sz N) (sz N) (zA g) (sz N) (zi tz) (zA h) (zA f) post a b c (zi (pos tp tz (i + 1 + 1 + 1 + 1))) d e fa (zi (S 261)) suns pl := by
    intro hb a b c d e
    rw [if_pos hb] at g1
    rw [wp_X4_readSun_b109, wp_X4_wrong, forall_eq, show (1 : Int32) + 16 * zi (pos tp tz (i + 1 + 1 + 1 + 1)) = _ from flt_c 1 _]
    exact ⟨Or.inl rfl, g1 (show (1 : Int) ≠ 0 by decide) _ _ _ _ _ _⟩
  rw [zi_lit, zi_lit, zi_lt (by omega), zi_le (by omega)]
  refine ⟨fun y => bad (Or.inl y) _ _ _ _ _, fun y => ⟨fun x => ?_, fun x => bad (Or.inr (by omega)) _ _ _ _ _⟩⟩
  rw [if_neg (by omega)] at g1 g1' g0
  have i4 : i + 1 + 1 + 1 + 1 < N := tK_lt hN (by omega) (by omega)
  refine p_advC (i := i + 1 + 1 + 1 + 1 + 1) hf hN1 (by omega) ?_
  refine p_numC (i := i + 1 + 1 + 1 + 1 + 1) (lo := 1) (hi' := 99) hz hf hN hN1 (by omega) (by omega) (fun n5 => ⟨fun _ => ?_, fun z => absurd z (by decide)⟩) (fun n5 => ⟨fun z => absurd rfl z, fun _ => ?_⟩)
  rotate_left
  · rw [if_pos n5] at g1
    exact g1 n5 _ _ _ _ _ _
  have i5 := nS_lt hN (by omega) n5
  rw [if_neg (fun z => z n5)] at g1 g1' g0
  refine p_clauseC (i := i + 1 + 1 + 1 + 1 + 1 + 1) (q := 10) (lo := 1) (hi' := 99) hz hf hN hN1 (by omega) (by omega) (by omega) (fun c6 i7 => ⟨fun _ qq => ?_, fun z => absurd z (by decide)⟩) (fun c6 a b c d => ⟨fun z => absurd rfl z, fun _ => ?_⟩)
  rotate_left
  · rw [if_pos c6] at g1
    exact g1 c6 _ _ _ _ _ _
  rw [if_neg (fun z => z c6), smK] at g1' g0
  refine p_addSunC ⟨h24.1, q⟩ (List.mem_cons_self ..) ?_
  refine p_expC (i := i + 1 + 1 + 1 + 1 + 1 + 1 + 1 + 1) (q := 39) hf hN hN1 (by omega) (by omega) (fun e => ?_) (fun e => ?_)
  · rw [if_pos (show tK tp tz (i + 1 + 1 + 1 + 1 + 1 + 1 + 1 + 1) = 39 from e)] at g0
    have i8 := tK_lt hN (i := i + 1 + 1 + 1 + 1 + 1 + 1 + 1 + 1) (by omega) (fun z => by rw [show tK tp tz (i + 1 + 1 + 1 + 1 + 1 + 1 + 1 + 1) = 39 from e] at z; exact absurd z (by decide))
    exact ⟨Or.inr rfl, g0 rfl q ⟨by omega, by omega⟩ qq _ _⟩
  · rw [if_neg (show ¬ tK tp tz (i + 1 + 1 + 1 + 1 + 1 + 1 + 1 + 1) = 39 from e)] at g1'
    exact ⟨Or.inl rfl, g1' (show (1 : Int) ≠ 0 by decide) q qq _ _ _ _ _ _⟩
end SC
