/-! products, sums, test, all -/
section G2
variable {tp : Int → Int} {tz : Int} {N : Nat} {so va pc : Int → Int}
abbrev TF := (Nat → Int32) → (Nat → Int64) → (Nat → Int64) → (Nat → Int32) → Int32 → Int32 → Int32 → (Nat → Int32) → (Nat → Int32) → Int32 → (Int32 → Int32 → Int32 → (Nat → Int32) → (Nat → Int32) → Prop) → Prop
abbrev ofT (F : TF) (so va pc : Int → Int) (d : Int) : WE := fun at_ fa e op arg post => F (zA so) (zL va) wd_30 (zA pc) at_ fa e op arg (zi d) post
theorem SP_products (hz : 0 ≤ tz ∧ tz ≤ 1000) (hN : pos tp tz N = tz) (hN1 : N ≤ 1000) (hf : flR tp tz (N + 1) so va pc) {b : Nat} {d : Int} {F : TF} (hS : SP tp tz N b 5 (fun _ => False) (fun _ => True) d (ofT F so va pc d)) : SP tp tz N (b + 1) 4 (fun _ => False) (fun t => True ∧ ¬ t = 38) d (ofT (wp_X12_products F) so va pc d) := by
  refine SP_seq (B := fun post => wp_X12_products_L5 F (fun t_at t_fault t_codes t_op t_arg => post t_at t_fault t_codes t_op t_arg) (zA so) (zL va) wd_30 (zA pc) post) (isOp := fun t => t = 38) hz hN hS (by omega) (fun t ht => by rw [ht]; decide) (fun _ z => z.elim) (fun t _ _ => ?_) ?_ ?_ ?_
  · have := rk_rng (t := t); omega
  · intro post kb at_ fa e op arg hfa h
    exact p_hasSignF hfa ⟨fun _ => h, fun z => absurd rfl z⟩
  · intro post kb i e op arg hi no h
    exact p_hasSignR (c := 42) hf hN1 hi (by omega) (by decide) (fun q => absurd q no) (fun _ => ⟨fun _ => h, fun z => absurd rfl z⟩)
  · intro post kb i e op arg hi io h
    refine p_hasSignR (c := 42) hf hN1 hi (by omega) (by decide) (fun q => ⟨fun z => absurd z (by decide), fun _ => ?_⟩) (fun q => absurd io q)
    rw [io] at h
    exact h
theorem i1e : ((1 : Int32) = 0) = False := eq_false (by decide)
theorem i00 : ((0 : Int32) = 0) = True := eq_self 0
theorem SP_sums (hz : 0 ≤ tz ∧ tz ≤ 1000) (hN : pos tp tz N = tz) (hN1 : N ≤ 1000) (hf : flR tp tz (N + 1) so va pc) {b : Nat} {d : Int} {F : TF} (hS : SP tp tz N b 4 (fun _ => False) (fun t => True ∧ ¬ t = 38) d (ofT (wp_X12_products F) so va pc d)) : SP tp tz N (b + 1) 3 (fun _ => False) (fun t => (True ∧ ¬ t = 38) ∧ ¬ (t = 36 ∨ t = 37)) d (ofT (wp_X12_sums F) so va pc d) := by
  refine SP_seq (B := fun post => wp_X12_sums_L5 F (fun t_at t_fault t_codes t_op t_arg => post t_at t_fault t_codes t_op t_arg) (zA so) (zL va) wd_30 (zA pc) post) (isOp := fun t => t = 36 ∨ t = 37) hz hN hS (by omega) (fun t ht => by rcases ht with e | e <;> rw [e] <;> decide) (fun _ z => z.elim) (fun t h1 _ => ?_) ?_ ?_ ?_
  · have := rk_rng (t := t)
    have n38 : rk t ≠ 4 := by
      rw [rk]
      repeat' split
      all_goals omega
    omega
  · intro post kb at_ fa e op arg hfa h
    dsimp only [wp_X12_sums_L5]
    exact p_isSignF hfa ⟨fun z => absurd rfl z, fun _ => p_isSignF hfa ⟨fun _ => h, fun z => absurd rfl z⟩⟩
  · intro post kb i e op arg hi no h
    dsimp only [wp_X12_sums_L5]
    refine p_isSignR (c := 43) hf hN1 hi (by omega) (by decide) (fun q => absurd (Or.inl q) no) (fun _ => ⟨fun z => absurd rfl z, fun _ => ?_⟩)
    exact p_isSignR (c := 45) hf hN1 hi (by omega) (by decide) (fun q => absurd (Or.inr q) no) (fun _ => ⟨fun _ => h, fun z => absurd rfl z⟩)
  · intro post kb i e op arg hi io h
    have b23 : wp_X12_sums_b23 F (fun t_at t_fault t_codes t_op t_arg => post t_at t_fault t_codes t_op t_arg) kb (zA so) (zL va) wd_30 (zA pc) post (zi i) 0 e op arg (zi d) := by
      rw [wp_X12_sums_b23]
      refine p_isSignR (c := 43) hf hN1 hi (by omega) (by decide) (fun q x ex => ?_) (fun q x ex => ?_)
      · rw [show tK tp tz i = 36 from q] at h
        rw [ex, zi_p1]
        simp only [i1e, false_implies, not_false_eq_true, true_implies, true_and]
        exact h
      · have e37 : tK tp tz i = 37 := by
          rcases io with z | z
          · exact absurd z q
          · exact z
        rw [e37] at h
        rw [ex, zi_p1]
        simp only [i00, not_true_eq_false, false_implies, true_implies, and_true]
        exact h
    dsimp only [wp_X12_sums_L5]
    refine p_isSignR (c := 43) hf hN1 hi (by omega) (by decide) (fun q => ⟨fun _ => b23, fun z => absurd z (by decide)⟩) (fun q => ⟨fun z => absurd rfl z, fun _ => ?_⟩)
    refine p_isSignR (c := 45) hf hN1 hi (by omega) (by decide) (fun q => ⟨fun z => absurd z (by decide), fun _ => b23⟩) (fun q2 => ?_)
    rcases io with z | z
    · exact absurd z q
    · exact absurd z q2
def enT (t : Int) : Prop := t ≠ 36 ∧ t ≠ 37 ∧ t ≠ 38
def bdT (t : Int) : Prop := t = 34 ∨ t = 35
theorem SP_test (hz : 0 ≤ tz ∧ tz ≤ 1000) (hN : pos tp tz N = tz) (hN1 : N ≤ 1000) (hf : flR tp tz (N + 1) so va pc) {b : Nat} {d : Int} {F : TF} (hS : SP tp tz N b 3 (fun _ => False) (fun t => (True ∧ ¬ t = 38) ∧ ¬ (t = 36 ∨ t = 37)) d (ofT (wp_X12_sums F) so va pc d)) : SP tp tz N (b + 1) 2 bdT enT d (ofT (wp_X12_test F) so va pc d) := by
  intro i hi
  obtain ⟨k0, j0, C0, hj0, hk0, h0, hK, hR⟩ := hS i hi
  by_cases z0 : k0 = 0
  rotate_left
  · refine ⟨k0, j0, C0, hj0, hk0, fun z => absurd z z0, fun P h19 hP Q c => ⟨fun z => absurd z z0, (hK P h19 (by omega) Q c).2⟩, fun e op arg post he a0 a1 => ?_⟩
    refine hR e op arg _ he (fun z => absurd z z0) (fun z e' op' arg' x y hF => ?_)
    have fn := flt_ne (tp := tp) hz (k := k0) (by omega) j0
    refine p_isSignF fn (p_hasSignF fn ⟨fun z => absurd rfl z, fun _ => p_hasSignF fn ⟨fun _ => ?_, fun z => absurd rfl z⟩⟩)
    exact a1 z e' op' arg' x y hF
  obtain ⟨g1, g2, g3, g4⟩ := h0 z0
  by_cases io : bdT (tK tp tz j0)
  rotate_left
  · refine ⟨0, j0, C0, hj0, Or.inl rfl, fun _ => ⟨g1, XE_mono (by omega) g2, g3, by unfold enT; omega⟩, fun P h19 hP Q c => ⟨fun _ => ⟨fun z => absurd z io, fun _ hq => ((hK P h19 (by omega) Q c).1 z0).2 (fun z => z) hq⟩, fun z => absurd rfl z⟩, fun e op arg post he a0 a1 => ?_⟩
    refine hR e op arg _ he (fun _ op' arg' hm => ?_) (fun z => absurd z0 z)
    refine p_isSignR (c := 60) hf hN1 hj0.2 (by omega) (by decide) (fun q => absurd (Or.inl q) io) (fun _ => ?_)
    refine p_hasSignR (c := 60) hf hN1 hj0.2 (by omega) (by decide) (fun q => absurd (Or.inl q) io) (fun _ => ⟨fun z => absurd rfl z, fun _ => ?_⟩)
    exact p_hasSignR (c := 61) hf hN1 hj0.2 (by omega) (by decide) (fun q => absurd (Or.inr q) io) (fun _ => ⟨fun _ => a0 rfl op' arg' hm, fun z => absurd rfl z⟩)
  have lt : lkT (tK tp tz j0) := by unfold bdT at io; unfold lkT; omega
  have rt : rk (tK tp tz j0) = 2 := by rcases io with e | e <;> rw [e] <;> decide
  have n19 : tK tp tz j0 ≠ 19 := by unfold bdT at io; omega
  have jN : j0 < N := tK_lt hN hj0.2 (by unfold bdT at io; omega)
  obtain ⟨k1, j1, C1, hj1, hk1, h1, hK1, hR1⟩ := hS (j0 + 1) (by omega)
  have oe : opI (-1 - tK tp tz j0) = opL (tK tp tz j0) := by
    unfold bdT at io
    rw [opI, if_neg (by omega), if_neg (by omega), if_neg (by omega), show -1 - (-1 - tK tp tz j0) = tK tp tz j0 by omega]
  have ae : agI (-1 - tK tp tz j0) = 0 := by
    unfold bdT at io
    rw [agI, if_neg (by omega), if_neg (by omega)]
  /- the reference from the sign on -/
  have ref : ∀ (e : Nat) (op arg : Nat → Int32) (post : Int32 → Int32 → Int32 → (Nat → Int32) → (Nat → Int32) → Prop), wp_X12_sums F (zA so) (zL va) wd_30 (zA pc) (zi ((j0 + 1 : Nat) : Int)) 0 (zi e) op arg (zi d) (fun at_ fa e op arg => wp_X12_emit e op arg (zi (opL (tK tp tz j0))) 0 (fun e op arg => post at_ fa e op arg)) → wp_X12_isSign (zi j0) 0 (zA so) (zL va) 60 (fun r8 => wp_X12_hasSign 0 (zA so) (zL va) (zi j0) 60 (fun r15 t_at_15 => (¬ r15 = 0 → (wp_X12_test_b30 F (zA so) (zL va) wd_30 (zA pc) post t_at_15 0 (zi e) op arg (zi d) r8)) ∧ (r15 = 0 → (wp_X12_hasSign 0 (zA so) (zL va) t_at_15 61 (fun r24 t_at_24 => (r24 = 0 → (post t_at_24 0 (zi e) op arg)) ∧ (¬ r24 = 0 → (wp_X12_test_b30 F (zA so) (zL va) wd_30 (zA pc) post t_at_24 0 (zi e) op arg (zi d) r8))))))) := by
    intro e op arg post h
    refine p_isSignR (c := 60) hf hN1 hj0.2 (by omega) (by decide) (fun q => ?_) (fun q => ?_)
    · refine p_hasSignR (c := 60) hf hN1 hj0.2 (by omega) (by decide) (fun _ => ⟨fun _ => ?_, fun z => absurd z (by decide)⟩) (fun q2 => absurd q q2)
      rw [show tK tp tz j0 = 34 from q] at h
      rw [wp_X12_test_b30]
      simp only [i1e, false_implies, not_false_eq_true, true_implies, true_and]
      exact h
    · refine p_hasSignR (c := 60) hf hN1 hj0.2 (by omega) (by decide) (fun q2 => absurd q2 q) (fun _ => ⟨fun z => absurd rfl z, fun _ => ?_⟩)
      have e35 : tK tp tz j0 = 35 := by
        rcases io with z | z
        · exact absurd z q
        · exact z
      refine p_hasSignR (c := 61) hf hN1 hj0.2 (by omega) (by decide) (fun _ => ⟨fun z => absurd z (by decide), fun _ => ?_⟩) (fun q2 => absurd e35 q2)
      rw [e35] at h
      rw [wp_X12_test_b30]
      simp only [i00, not_true_eq_false, false_implies, true_implies, and_true]
      exact h
  by_cases z1 : k1 = 0
  rotate_left
  · refine ⟨k1, j1, [], by omega, hk1, fun z => absurd z z1, fun P h19 hP Q c => ⟨fun z => absurd z z1, fun _ hq => ?_⟩, fun e op arg post he a0 a1 => ?_⟩
    · refine ((hK P h19 (by omega) Q c).1 z0).2 (fun z => z) (YW_link (by omega) (by omega) ?_)
      exact (hK1 (tK tp tz j0 :: P) (by rw [hdI]; exact n19) (by rw [hdI]; omega) Q (c ++ C0)).2 z1 hq
    · refine hR e op arg _ (by omega) (fun _ op' arg' hm => ref _ op' arg' post ?_) (fun z => absurd z0 z)
      refine hR1 _ _ _ _ (by omega) (fun z => absurd z z1) (fun _ e' op2 arg2 a b hF => ?_)
      refine p_emitR (by omega) ?_
      exact a1 z1 _ _ _ (by omega) (by omega) (emF_trans (emF_trans (emR_F hm) hF (by omega) a) emF_one (by omega) (by omega))
  obtain ⟨f1, f2, f3, f4⟩ := h1 z1
  refine ⟨0, j1, C0 ++ C1 ++ [-1 - tK tp tz j0], by omega, Or.inl rfl, fun _ => ⟨by omega, XE_lnk lt (XE_mono (by omega) g2) f2, ?_, by unfold enT; omega⟩, fun P h19 hP Q c => ⟨fun _ => ?_, fun z => absurd rfl z⟩, fun e op arg post he a0 a1 => ?_⟩
  · simp only [List.length_append, List.length_singleton]; omega
  · have K := ((hK P h19 (by omega) Q c).1 z0).2 (fun z => z)
    have K1 := ((hK1 (tK tp tz j0 :: P) (by rw [hdI]; exact n19) (by rw [hdI]; omega) Q (c ++ C0)).1 z1).2 (fun z => z)
    refine ⟨fun b1 hq => K (YW_link (by omega) (by omega) (K1 (YW_bad ?_ (by rw [hdI]; exact rt) hq))), fun b1 hq => K (YW_link (by omega) (by omega) (K1 ?_))⟩
    · rcases b1 with e | e <;> rw [e] <;> decide
    · have r2 : rk (tK tp tz j1) < 2 := by
        unfold bdT at b1
        rw [rk]
        repeat' split
        all_goals omega
      refine YW_stl (stl_one (r := 2) (by omega) (by omega) hP) (by omega) (by omega) (by omega) ?_
      rw [show c ++ C0 ++ C1 ++ [-1 - tK tp tz j0] = c ++ (C0 ++ C1 ++ [-1 - tK tp tz j0]) by simp only [List.append_assoc]]
      exact hq
  · refine hR e op arg _ (by omega) (fun _ op' arg' hm => ref _ op' arg' post ?_) (fun z => absurd z0 z)
    refine hR1 _ _ _ _ (by omega) (fun _ op2 arg2 hm1 => ?_) (fun z => absurd z1 z)
    refine p_emitR (by omega) ?_
    have m2 := emR_app hm hm1
    have m3 := emR_one (op := op2) (arg := arg2) (e := e + (C0 ++ C1).length) (a := -1 - tK tp tz j0)
    have m4 := emR_app m2 m3
    rw [oe, ae, List.length_append] at m4
    have g := a0 rfl _ _ m4
    simp only [List.length_append, List.length_singleton] at g
    rw [show 1100 + (e + (C0.length + C1.length)) = 1100 + (e + C0.length + C1.length) by omega, show e + (C0.length + C1.length + 1) = e + C0.length + C1.length + 1 by omega] at g
    exact g
theorem SP_all (hz : 0 ≤ tz ∧ tz ≤ 1000) (hN : pos tp tz N = tz) (hN1 : N ≤ 1000) (hf : flR tp tz (N + 1) so va pc) {b : Nat} {d : Int} {F : TF} (hS : SP tp tz N b 2 bdT enT d (ofT (wp_X12_test F) so va pc d)) : SP tp tz N (b + 1) 1 bdT (fun t => enT t ∧ ¬ (t = 17 ∨ t = 18)) d (ofT (wp_X12_all F) so va pc d) := by
  refine SP_seq (B := fun post => wp_X12_all_L5 F (fun t_at t_fault t_codes t_op t_arg => post t_at t_fault t_codes t_op t_arg) (zA so) (zL va) wd_30 (zA pc) post) (isOp := fun t => t = 17 ∨ t = 18) hz hN hS (by omega) (fun t ht => by rcases ht with e | e <;> rw [e] <;> decide) (fun t z => by unfold bdT at z; omega) (fun t h1 h2 => ?_) ?_ ?_ ?_
  · unfold enT at h1
    unfold bdT at h2
    have : rk t < 2 := by
      rw [rk]
      repeat' split
      all_goals omega
    omega
  · intro post kb at_ fa e op arg hfa h
    dsimp only [wp_X12_all_L5]
    exact p_isWordF hfa ⟨fun z => absurd rfl z, fun _ => p_isWordF hfa ⟨fun _ => h, fun z => absurd rfl z⟩⟩
  · intro post kb i e op arg hi no h
    dsimp only [wp_X12_all_L5]
    refine p_isWordR (w := 24) hf hN1 hi (by omega) (fun q => absurd (Or.inl q) no) (fun _ => ⟨fun z => absurd rfl z, fun _ => ?_⟩)
    exact p_isWordR (w := 25) hf hN1 hi (by omega) (fun q => absurd (Or.inr q) no) (fun _ => ⟨fun _ => h, fun z => absurd rfl z⟩)
  · intro post kb i e op arg hi io h
    have b23 : wp_X12_all_b23 F (fun t_at t_fault t_codes t_op t_arg => post t_at t_fault t_codes t_op t_arg) kb (zA so) (zL va) wd_30 (zA pc) post (zi i) 0 e op arg (zi d) := by
      rw [wp_X12_all_b23]
      refine p_isWordR (w := 24) hf hN1 hi (by omega) (fun q x ex => ?_) (fun q x ex => ?_)
      · rw [show tK tp tz i = 17 from q] at h
        rw [ex, zi_p1]
        simp only [i1e, false_implies, not_false_eq_true, true_implies, true_and]
        exact h
      · have e37 : tK tp tz i = 18 := by
          rcases io with z | z
          · exact absurd z q
          · exact z
        rw [e37] at h
        rw [ex, zi_p1]
        simp only [i00, not_true_eq_false, false_implies, true_implies, and_true]
        exact h
    dsimp only [wp_X12_all_L5]
    refine p_isWordR (w := 24) hf hN1 hi (by omega) (fun q => ⟨fun _ => b23, fun z => absurd z (by decide)⟩) (fun q => ⟨fun z => absurd rfl z, fun _ => ?_⟩)
    refine p_isWordR (w := 25) hf hN1 hi (by omega) (fun q => ⟨fun z => absurd z (by decide), fun _ => b23⟩) (fun q2 => ?_)
    rcases io with z | z
    · exact absurd z q
    · exact absurd z q2
end G2
