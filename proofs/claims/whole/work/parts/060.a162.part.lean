/-! a PART of an E, and so all of it -/
section G3
variable {tp : Int → Int} {tz : Int} {N : Nat} {so va pc : Int → Int}
def PS (tp : Int → Int) (tz : Int) (N : Nat) (b : Nat) (d : Int) (W : WE) : Prop := ∀ i, i ≤ N → ∃ (k : Int) (j : Nat) (C : List Int), (i ≤ j ∧ j ≤ N) ∧ (k = 0 ∨ k = 1 ∨ k = 5) ∧ (k = 0 → i < j ∧ XE b C ∧ C.length ≤ j - i) ∧ (∀ (P : List Int) (Q : Int → Nat → List Int → Prop) (c : List Int), (k = 0 → YW tp tz Q j (dN P) (c ++ C ++ List.replicate (cN P) (-20)) (d - cN P) false → YW tp tz Q i P c d true) ∧ (k ≠ 0 → Q k j [] → YW tp tz Q i P c d true)) ∧ RS tp tz W i k j C
theorem PS_SP {b : Nat} {d : Int} {W : WE} (h : PS tp tz N b d W) : SP tp tz N b 5 (fun _ => False) (fun _ => True) d W := by
  intro i hi
  obtain ⟨k, j, C, h1, h2, h3, h4, h5⟩ := h i hi
  refine ⟨k, j, C, h1, h2, fun z => ⟨(h3 z).1, (h3 z).2.1, (h3 z).2.2, trivial⟩, fun P h19 _ Q c => ?_, h5⟩
  have g := h4 P Q c
  obtain ⟨e1, e2⟩ := dN_0 h19
  rw [e1, e2, List.replicate, List.append_nil, Int.natCast_zero, Int.sub_zero] at g
  exact ⟨fun z => ⟨fun y => y.elim, fun _ hq => g.1 z hq⟩, g.2⟩
def prt (t : Int) : Prop := (t = 19 ∨ t = 32) ∨ (t = 50 ∨ t = 20 ∨ t = 21)
section FR
variable {F : TF} {d : Int} {i e : Nat} {op arg : Nat → Int32} {post : Int32 → Int32 → Int32 → (Nat → Int32) → (Nat → Int32) → Prop}
theorem p_partF {fa at_ : Int32} {l1 l2 l3 ec : Int32} (hfa : ¬ fa ≤ 0) (h : post at_ fa ec op arg) : wp_X12_takePart_b99 F (zA so) (zL va) wd_30 (zA pc) post at_ fa ec op arg l1 l2 l3 := ⟨fun z => absurd z hfa, fun _ => h⟩
theorem p_front (hz : 0 ≤ tz ∧ tz ≤ 1000) (hN1 : N ≤ 1000) (hf : flR tp tz (N + 1) so va pc) (hi : i ≤ N) (hd : 0 ≤ d ∧ d ≤ 5)
    (h1 : ¬ prt (tK tp tz i) → post (zi i) (zi (1 + 16 * pos tp tz i)) (zi e) op arg)
    (h5 : prt (tK tp tz i) → d = 5 → post (zi i) (zi (5 + 16 * pos tp tz i)) (zi e) op arg)
    (h0 : prt (tK tp tz i) → d < 5 → wp_X12_takePart_b99 F (zA so) (zL va) wd_30 (zA pc) post (zi i) 0 (zi e) op arg (zi d) (if tK tp tz i = 50 then 1 else 0) (if tK tp tz i = 20 then 0 else if tK tp tz i = 21 then 1 else -1)) : wp_X12_takePartB F (zA so) (zL va) wd_30 (zA pc) (zi i) 0 (zi e) op arg (zi d) post := by
  obtain ⟨⟨r1, r2, r3, r4, r5, r6, r7⟩, _⟩ := hf i (by omega)
  have go : ∀ l3 : Int32, prt (tK tp tz i) → l3 = (if tK tp tz i = 20 then 0 else if tK tp tz i = 21 then 1 else -1) → wp_X12_takePart_b89 F (zA so) (zL va) wd_30 (zA pc) post (zi i) 0 (zi e) op arg (zi d) (if tK tp tz i = 50 then 1 else 0) l3 := by
    intro l3 hp e3
    rw [wp_X12_takePart_b89]
    refine ⟨fun n5 => ?_, fun e5 => ?_⟩
    · rw [e3]
      refine h0 hp ?_
      by_cases q : d = 5
      · rw [q] at n5; exact absurd rfl n5
      · omega
    · rw [zi_lit, zi_eq (by omega)] at e5
      exact p_wrongR (k := 5) hf hz hN1 hi (p_partF (flt_le hz (by omega) i) (h5 hp e5))
  have b54 : ∀ s0 : Int32, s0 = (if tK tp tz i = 20 then 0 else if tK tp tz i = 21 then 1 else -1) → wp_X12_takePart_b54 F (zA so) (zL va) wd_30 (zA pc) post (zi i) 0 (zi e) op arg (zi d) (if tK tp tz i = 50 then 1 else 0) s0 := by
    intro s0 es
    rw [wp_X12_takePart_b54]
    refine ⟨fun z => go s0 ?_ es, fun z => ⟨fun y => go s0 ?_ es, fun y => ?_⟩⟩
    · unfold prt
      by_cases a : tK tp tz i = 20
      · omega
      · by_cases b : tK tp tz i = 21
        · omega
        · rw [es, if_neg a, if_neg b] at z
          exact absurd z (by decide)
    · unfold prt
      by_cases a : tK tp tz i = 50
      · omega
      · rw [if_neg a] at y
        exact absurd rfl y
    · refine p_isSignR (c := 40) hf hN1 hi (by omega) (by decide) (fun q => ⟨fun _ => go s0 (Or.inl (Or.inr q)) es, fun z => absurd z (by decide)⟩) (fun q32 => ⟨fun z => absurd rfl z, fun _ => ?_⟩)
      refine p_isWordR (w := 26) hf hN1 hi (by omega) (fun q => ⟨fun _ => go s0 (Or.inl (Or.inl q)) es, fun z => absurd z (by decide)⟩) (fun q19 => ⟨fun z => absurd rfl z, fun _ => ?_⟩)
      refine p_wrongR (k := 1) hf hz hN1 hi (p_partF (flt_le hz (by omega) i) (h1 ?_))
      rintro ((a | a) | a | a | a)
      · exact q19 a
      · exact q32 a
      · rw [if_pos a] at y; exact absurd y (by decide)
      · rw [es, if_pos a] at z; exact absurd z (by decide)
      · rw [es, if_neg (by omega), if_pos a] at z; exact absurd z (by decide)
  have b26 : wp_X12_takePart_b26 F (zA so) (zL va) wd_30 (zA pc) post (zi i) 0 (zi e) op arg (zi d) (if tK tp tz i = 50 then 1 else 0) := by
    rw [wp_X12_takePart_b26]
    refine p_isWordR (w := 27) hf hN1 hi (by omega) (fun q => ⟨fun z => absurd z (by decide), fun _ => b54 0 ?_⟩) (fun q => ⟨fun _ => ?_, fun z => absurd rfl z⟩)
    · rw [if_pos (show tK tp tz i = 20 from q)]
    · refine p_isWordR (w := 28) hf hN1 hi (by omega) (fun q2 => ⟨fun z => absurd z (by decide), fun _ => b54 1 ?_⟩) (fun q2 => ⟨fun _ => b54 (-1) ?_, fun z => absurd rfl z⟩)
      · rw [if_neg (show ¬ tK tp tz i = 20 from q), if_pos (show tK tp tz i = 21 from q2)]
      · rw [if_neg (show ¬ tK tp tz i = 20 from q), if_neg (show ¬ tK tp tz i = 21 from q2)]
  rw [wp_X12_takePartB, zA_get (by omega)]
  refine ⟨fun _ => ⟨lt_1002 hi hN1, fun z => ?_, fun z => ?_⟩, fun z => absurd (by decide) z⟩
  · rw [zi_lit, zi_eq (by omega), r1] at z
    rw [if_neg z] at b26; exact b26
  · rw [zi_lit, zi_eq (by omega), r1] at z
    rw [if_pos z] at b26; exact b26
end FR
theorem PS_5 (hz : 0 ≤ tz ∧ tz ≤ 1000) (hN1 : N ≤ 1000) (hf : flR tp tz (N + 1) so va pc) {F : TF} : PS tp tz N 1 5 (ofT (wp_X12_takePartB F) so va pc 5) := by
  intro i hi
  by_cases hp : prt (tK tp tz i)
  · refine ⟨5, i, [], ⟨by omega, hi⟩, by omega, fun z => absurd z (by decide), fun P Q c => ⟨fun z => absurd z (by decide), fun _ hq => YW_deep hp (by omega) hq⟩, fun e op arg post he a0 a1 => ?_⟩
    exact p_front hz hN1 hf hi (by omega) (fun z => absurd hp z) (fun _ _ => a1 (by decide) e op arg (by omega) (by omega) (fun _ _ => ⟨rfl, rfl⟩)) (fun _ z => absurd z (by decide))
  · refine ⟨1, i, [], ⟨by omega, hi⟩, by omega, fun z => absurd z (by decide), fun P Q c => ⟨fun z => absurd z (by decide), fun _ hq => YW_nopart hp hq⟩, fun e op arg post he a0 a1 => ?_⟩
    exact p_front hz hN1 hf hi (by omega) (fun z => a1 (by decide) e op arg (by omega) (by omega) (fun _ _ => ⟨rfl, rfl⟩)) (fun z => absurd z hp) (fun z => absurd z hp)
theorem zl_narrow {a : Int} (h : 0 ≤ a ∧ a ≤ 9999) : Int64.toInt32 (zl a) = zi a := by
  rw [← Int32.toInt_inj, Int64.toInt_toInt32, zl_toInt ⟨by omega, by omega⟩, zi, Int32.toInt_ofInt]
theorem rep_snoc (n : Nat) (x : Int) : x :: List.replicate n x = List.replicate n x ++ [x] := by
  rw [← List.replicate_succ, ← List.replicate_succ']
theorem PS_step (hz : 0 ≤ tz ∧ tz ≤ 1000) (hN : pos tp tz N = tz) (hN1 : N ≤ 1000) (hf : flR tp tz (N + 1) so va pc) {b b' : Nat} {d : Int} (hd : 0 ≤ d ∧ d < 5) {F : TF} (hP : PS tp tz N b (d + 1) (ofT F so va pc (d + 1))) (hA : SP tp tz N b' 1 bdT (fun t => enT t ∧ ¬ (t = 17 ∨ t = 18)) (d + 1) (ofT (wp_X12_all F) so va pc (d + 1))) (hb : b ≤ b' ∧ 1 ≤ b') : PS tp tz N b' d (ofT (wp_X12_takePartB F) so va pc d) := by
  intro i hi
  have d1 : zi d + 1 = zi (d + 1) := by rw [zi_lit, zi_add]
  by_cases hp : prt (tK tp tz i)
  rotate_left
  · refine ⟨1, i, [], ⟨by omega, hi⟩, by omega, fun z => absurd z (by decide), fun P Q c => ⟨fun z => absurd z (by decide), fun _ hq => YW_nopart hp hq⟩, fun e op arg post he a0 a1 => ?_⟩
    exact p_front hz hN1 hf hi (by omega) (fun z => a1 (by decide) e op arg (by omega) (by omega) (fun _ _ => ⟨rfl, rfl⟩)) (fun z => absurd z hp) (fun z => absurd z hp)
  have iN : i < N := tK_lt hN hi (by unfold prt at hp; omega)
  by_cases q19 : tK tp tz i = 19
  · obtain ⟨k, j, C, h1, h2, h3, h4, h5⟩ := hP (i + 1) (by omega)
    refine ⟨k, j, C ++ [-20], by omega, h2, fun z => ⟨by omega, XE_mono hb.1 (XE_not (h3 z).2.1), ?_⟩, fun P Q c => ?_, fun e op arg post he a0 a1 => ?_⟩
    · have := (h3 z).2.2
      rw [List.length_append, List.length_singleton]; omega
    · have g := h4 (tK tp tz i :: P) Q c
      rw [q19, dN, cN, if_pos rfl, if_pos rfl, List.replicate_succ, rep_snoc] at g
      refine ⟨fun z hq => YW_open (Or.inl q19) (by omega) ?_, fun z hq => YW_open (Or.inl q19) (by omega) ?_⟩
      · rw [q19]
        refine g.1 z ?_
        rw [← rep_snoc, show (d + 1 - ((cN P + 1 : Nat) : Int)) = d - cN P by omega]
        rw [show c ++ C ++ -20 :: List.replicate (cN P) (-20) = c ++ (C ++ [-20]) ++ List.replicate (cN P) (-20) by simp only [List.append_assoc, List.cons_append, List.nil_append]]
        exact hq
      · rw [q19]
        exact g.2 z hq
    · refine p_front hz hN1 hf hi (by omega) (fun z => absurd hp z) (fun _ z => by omega) (fun _ _ => ?_)
      rw [wp_X12_takePart_b99, d1]
      refine ⟨fun _ => ?_, fun z => absurd (by decide) z⟩
      refine p_hasWordR (w := 26) hf hN1 hi (by omega) (fun _ => ⟨fun z => absurd z (by decide), fun _ => ?_⟩) (fun z => absurd q19 z)
      refine h5 e op arg _ (by omega) (fun z op' arg' hm => ?_) (fun z e' op' arg' x y hF => ?_)
      · have := (h3 z).2.2
        refine p_emitR (by omega) ?_
        have m := emR_app hm (emR_one (op := op') (arg := arg') (e := e + C.length) (a := -20))
        have g := a0 z _ _ m
        rw [List.length_append, List.length_singleton] at g
        exact g
      · refine p_emitR (by omega) ?_
        exact a1 z _ _ _ (by omega) (by omega) (emF_trans hF emF_one (by omega) (by omega))
  by_cases q32 : tK tp tz i = 32
  · obtain ⟨k, j, C, h1, h2, h3, h4, h5⟩ := hA (i + 1) (by omega)
    by_cases z0 : k = 0
    rotate_left
    · refine ⟨k, j, C, by omega, h2, fun z => absurd z z0, fun P Q c => ⟨fun z => absurd z z0, fun z hq => YW_open (Or.inr q32) (by omega) ?_⟩, fun e op arg post he a0 a1 => ?_⟩
      · exact (h4 (tK tp tz i :: P) (by rw [hdI]; exact q19) (by rw [hdI, q32]; decide) Q c).2 z hq
      · refine p_front hz hN1 hf hi (by omega) (fun z => absurd hp z) (fun _ z => by omega) (fun _ _ => ?_)
        rw [wp_X12_takePart_b99, d1]
        refine ⟨fun _ => ?_, fun z => absurd (by decide) z⟩
        refine p_hasWordR (w := 26) hf hN1 hi (by omega) (fun z => absurd z q19) (fun _ => ⟨fun _ => ?_, fun z => absurd rfl z⟩)
        refine p_hasSignR (c := 40) hf hN1 hi (by omega) (by decide) (fun _ => ⟨fun z => absurd z (by decide), fun _ => ?_⟩) (fun z => absurd q32 z)
        refine h5 e op arg _ (by omega) (fun z => absurd z z0) (fun z e' op' arg' x y hF => ?_)
        exact p_takeSignF (flt_ne hz (by omega) j) (a1 z _ _ _ x (by omega) hF)
    obtain ⟨g1, g2, g3, g4⟩ := h3 z0
    have ref : ∀ (e : Nat) (op arg : Nat → Int32) (post : Int32 → Int32 → Int32 → (Nat → Int32) → (Nat → Int32) → Prop), e + (j - i) < 5400 → (∀ op' arg', emR op arg op' arg' e C → wp_X12_takeSign (zA so) (zL va) (zA pc) (zi j) 0 (zi 41) (fun t_at_151 t_fault_151 => post t_at_151 t_fault_151 (zi ((e + C.length : Nat) : Int)) op' arg')) → wp_X12_takePartB F (zA so) (zL va) wd_30 (zA pc) (zi i) 0 (zi e) op arg (zi d) post := by
      intro e op arg post he h
      refine p_front hz hN1 hf hi (by omega) (fun z => absurd hp z) (fun _ z => by omega) (fun _ _ => ?_)
      rw [wp_X12_takePart_b99, d1]
      refine ⟨fun _ => ?_, fun z => absurd (by decide) z⟩
      refine p_hasWordR (w := 26) hf hN1 hi (by omega) (fun z => absurd z q19) (fun _ => ⟨fun _ => ?_, fun z => absurd rfl z⟩)
      refine p_hasSignR (c := 40) hf hN1 hi (by omega) (by decide) (fun _ => ⟨fun z => absurd z (by decide), fun _ => ?_⟩) (fun z => absurd q32 z)
      exact h5 e op arg _ (by omega) (fun _ op' arg' hm => h op' arg' hm) (fun z => absurd z0 z)
    by_cases q33 : tK tp tz j = 33
    · have jN : j < N := tK_lt hN h1.2 (by omega)
      refine ⟨0, j + 1, C, by omega, Or.inl rfl, fun _ => ⟨by omega, g2, by omega⟩, fun P Q c => ⟨fun _ hq => YW_open (Or.inr q32) (by omega) ?_, fun z => absurd rfl z⟩, fun e op arg post he a0 a1 => ?_⟩
      · rw [q32]
        refine ((h4 (32 :: P) (by rw [hdI]; decide) (by rw [hdI]; decide) Q c).1 z0).2 (fun z => by unfold bdT at z; omega) ?_
        refine YW_close q33 ?_
        rw [show d + 1 - 1 - (cN P : Int) = d - cN P by omega]
        exact hq
      · refine ref e op arg post (by omega) (fun op' arg' hm => ?_)
        exact p_takeSignR (c := 41) hf hz hN1 h1.2 (by omega) (by decide) (fun _ => a0 rfl _ _ hm) (fun z => absurd q33 z)
    · refine ⟨1, j, C, by omega, Or.inr (Or.inl rfl), fun z => absurd z (by decide), fun P Q c => ⟨fun z => absurd z (by decide), fun _ hq => YW_open (Or.inr q32) (by omega) ?_⟩, fun e op arg post he a0 a1 => ?_⟩
      · rw [q32]
        have K := (h4 (32 :: P) (by rw [hdI]; decide) (by rw [hdI]; decide) Q c).1 z0
        by_cases b1 : bdT (tK tp tz j)
        · exact K.1 b1 hq
        · refine K.2 b1 ?_
          by_cases q39 : tK tp tz j = 39
          · exact YW_semi q39 (by rw [hdI]; decide) (fun _ => hq) (fun z => nomatch z)
          · refine YW_stop ?_ q39 q33 hq
            unfold enT at g4
            unfold bdT at b1
            exact rk_0 (by unfold lkT; omega)
      · refine ref e op arg post (by omega) (fun op' arg' hm => ?_)
        exact p_takeSignR (c := 41) hf hz hN1 h1.2 (by omega) (by decide) (fun z => absurd z q33) (fun _ => a1 (by decide) _ _ _ (by omega) (by omega) (emR_F hm))
  have stand : tK tp tz i = 50 ∨ tK tp tz i = 20 ∨ tK tp tz i = 21 := by unfold prt at hp; omega
  obtain ⟨⟨r1, r2, r3, r4, r5, r6, r7⟩, _⟩ := hf i (by omega)
  have vr := tV_rng (tp := tp) (tz := tz) (i := i)
  refine ⟨0, i + 1, [if tK tp tz i = 50 then tV tp tz i else -1 - tK tp tz i], by omega, Or.inl rfl, fun _ => ⟨by omega, ?_, by rw [List.length_singleton]; omega⟩, fun P Q c => ⟨fun _ hq => YW_stand stand (by omega) hq, fun z => absurd rfl z⟩, fun e op arg post he a0 a1 => ?_⟩
  · refine XE_mono hb.2 ?_
    rcases stand with a | a | a
    · rw [if_pos a]; exact XE_num vr.1 vr.2
    · rw [if_neg (by omega), a]; exact XE_min
    · rw [if_neg (by omega), a]; exact XE_day
  · refine p_front hz hN1 hf hi (by omega) (fun z => absurd hp z) (fun _ z => by omega) (fun _ _ => ?_)
    rw [wp_X12_takePart_b99, d1]
    refine ⟨fun _ => ?_, fun z => absurd (by decide) z⟩
    refine p_hasWordR (w := 26) hf hN1 hi (by omega) (fun z => absurd z q19) (fun _ => ⟨fun _ => ?_, fun z => absurd rfl z⟩)
    refine p_hasSignR (c := 40) hf hN1 hi (by omega) (by decide) (fun z => absurd z q32) (fun _ => ⟨fun _ => ?_, fun z => absurd rfl z⟩)
    have fin : ∀ (a b : Int32), a = zi (agI (if tK tp tz i = 50 then tV tp tz i else -1 - tK tp tz i)) → b = zi (opI (if tK tp tz i = 50 then tV tp tz i else -1 - tK tp tz i)) → wp_X12_takePart_b185 F (zA so) (zL va) wd_30 (zA pc) post (zi i) 0 (zi e) op arg a b := by
      intro a b ea eb
      rw [wp_X12_takePart_b185, ea, eb]
      refine p_emitR (by omega) ?_
      rw [forall_eq, zi_p1]
      exact a0 rfl _ _ emR_one
    by_cases q50 : tK tp tz i = 50
    · have rv := r4 (by rw [r1.2 q50]; decide)
      rw [if_pos q50] at fin ⊢
      refine ⟨fun z => absurd z (by decide), fun _ => ?_⟩
      rw [wp_X12_takePart_b167]
      refine ⟨fun z => absurd z (by decide), fun _ => ⟨lt_1002 hi hN1, fin _ _ ?_ ?_⟩⟩
      · rw [zL_get (by omega), r2 q50, agI, if_pos vr.1]
        exact zl_narrow (by omega)
      · rw [opI, if_pos vr.1]; rfl
    · rw [if_neg q50] at fin ⊢
      refine ⟨fun _ => ?_, fun z => absurd rfl z⟩
      rw [wp_X12_takePart_b167]
      refine ⟨fun _ => fin _ _ ?_ ?_, fun z => absurd rfl z⟩
      · rcases stand with a | a | a
        · exact absurd a q50
        · rw [a]; decide
        · rw [a]; decide
      · rcases stand with a | a | a
        · exact absurd a q50
        · rw [a]; decide
        · rw [a]; decide
end G3
