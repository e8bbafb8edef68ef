/-! the grammar of E: class and reference side by side -/
abbrev WE := Int32 → Int32 → Int32 → (Nat → Int32) → (Nat → Int32) → (Int32 → Int32 → Int32 → (Nat → Int32) → (Nat → Int32) → Prop) → Prop
section GR
variable (tp : Int → Int) (tz : Int) (N : Nat)
/-- the reference reads from i on: a fault k at j, or the codes C up to j -/
def RS (W : WE) (i : Nat) (k : Int) (j : Nat) (C : List Int) : Prop := ∀ (e : Nat) (op arg : Nat → Int32) (post : Int32 → Int32 → Int32 → (Nat → Int32) → (Nat → Int32) → Prop), e + (j - i) < 5400 → (k = 0 → ∀ op' arg', emR op arg op' arg' e C → post (zi j) 0 (zi ((e + C.length : Nat) : Int)) op' arg') → (k ≠ 0 → ∀ (e' : Nat) op' arg', e ≤ e' → e' ≤ e + (j - i) → emF op arg op' arg' e e' → post (zi j) (zi (k + 16 * pos tp tz j)) (zi e') op' arg') → W (zi i) 0 (zi e) op arg post
def KS (bad : Int → Prop) (d : Int) (i : Nat) (k : Int) (j : Nat) (C P : List Int) : Prop := ∀ (Q : Int → Nat → List Int → Prop) (c : List Int), (k = 0 → (bad (tK tp tz j) → Q 1 j [] → YW tp tz Q i P c d true) ∧ (¬ bad (tK tp tz j) → YW tp tz Q j P (c ++ C) d false → YW tp tz Q i P c d true)) ∧ (k ≠ 0 → Q k j [] → YW tp tz Q i P c d true)
def SP (b : Nat) (lo : Int) (bad en : Int → Prop) (d : Int) (W : WE) : Prop := ∀ i, i ≤ N → ∃ (k : Int) (j : Nat) (C : List Int), (i ≤ j ∧ j ≤ N) ∧ (k = 0 ∨ k = 1 ∨ k = 5) ∧ (k = 0 → i < j ∧ XE b C ∧ C.length ≤ j - i ∧ en (tK tp tz j)) ∧ (∀ P, hdI P ≠ 19 → rk (hdI P) < lo → KS tp tz bad d i k j C P) ∧ RS tp tz W i k j C
end GR
section GS
variable {tp : Int → Int} {tz : Int} {N : Nat}
theorem tK_lt (hN : pos tp tz N = tz) {i : Nat} (hi : i ≤ N) (h : tK tp tz i ≠ 51) : i < N := by
  by_cases q : i = N
  · rw [q] at h
    exact absurd (tK_end.2 (by omega)) h
  · omega
theorem SP_loop (hz : 0 ≤ tz ∧ tz ≤ 1000) (hN : pos tp tz N = tz) {b : Nat} {lo r : Int} {bad en isOp : Int → Prop} {d : Int} {W : WE} (hS : SP tp tz N b lo bad en d W) (hr : 1 ≤ r ∧ r < lo) (hop : ∀ t, isOp t → rk t = r) (hbad : ∀ t, bad t → ¬ isOp t) (hen : ∀ t, en t → ¬ bad t → rk t ≤ r ∧ (rk t = 2 → 3 ≤ r)) {B : (Int32 → Int32 → Int32 → (Nat → Int32) → (Nat → Int32) → Prop) → (Int32 × Int32 × Int32 × (Nat → Int32) × (Nat → Int32) × Int32 → Prop) → Int32 × Int32 × Int32 × (Nat → Int32) × (Nat → Int32) × Int32 → Prop}
    (hstop : ∀ (post : Int32 → Int32 → Int32 → (Nat → Int32) → (Nat → Int32) → Prop) kb at_ fa e op arg, ¬ fa = 0 → post at_ fa e op arg → B post kb (at_, fa, e, op, arg, zi d))
    (hend : ∀ (post : Int32 → Int32 → Int32 → (Nat → Int32) → (Nat → Int32) → Prop) kb (i : Nat) e op arg, i ≤ N → ¬ isOp (tK tp tz i) → post (zi i) 0 e op arg → B post kb (zi i, 0, e, op, arg, zi d))
    (hstep : ∀ (post : Int32 → Int32 → Int32 → (Nat → Int32) → (Nat → Int32) → Prop) kb (i : Nat) e op arg, i ≤ N → isOp (tK tp tz i) → W (zi ((i + 1 : Nat) : Int)) 0 e op arg (fun at_ fa e op arg => wp_X12_emit e op arg (zi (opL (tK tp tz i))) 0 (fun e op arg => kb (at_, fa, e, op, arg, zi d))) → B post kb (zi i, 0, e, op, arg, zi d)) :
    ∀ (m j0 : Nat), N ≤ j0 + m → j0 ≤ N → ∀ C0 : List Int, XE (b + 1) C0 → en (tK tp tz j0) → ∃ (k : Int) (j : Nat) (C : List Int), (j0 ≤ j ∧ j ≤ N) ∧ (k = 0 ∨ k = 1 ∨ k = 5) ∧ (k = 0 → XE (b + 1) C ∧ C.length ≤ C0.length + (j - j0) ∧ en (tK tp tz j) ∧ ¬ isOp (tK tp tz j)) ∧ (bad (tK tp tz j0) → k = 0 ∧ j = j0 ∧ C = C0) ∧ (∀ P, hdI P ≠ 19 → rk (hdI P) < r → ¬ bad (tK tp tz j0) → ∀ (Q : Int → Nat → List Int → Prop) (c : List Int), (k = 0 → (bad (tK tp tz j) → Q 1 j [] → YW tp tz Q j0 P (c ++ C0) d false) ∧ (¬ bad (tK tp tz j) → YW tp tz Q j P (c ++ C) d false → YW tp tz Q j0 P (c ++ C0) d false)) ∧ (k ≠ 0 → Q k j [] → YW tp tz Q j0 P (c ++ C0) d false)) ∧ ∀ (e : Nat) (op0 arg0 op arg : Nat → Int32) (post : Int32 → Int32 → Int32 → (Nat → Int32) → (Nat → Int32) → Prop), emR op0 arg0 op arg e C0 → e + C0.length + (j - j0) < 5400 → (k = 0 → ∀ op' arg', emR op0 arg0 op' arg' e C → post (zi j) 0 (zi ((e + C.length : Nat) : Int)) op' arg') → (k ≠ 0 → ∀ (e' : Nat) op' arg', e ≤ e' → e' ≤ e + C0.length + (j - j0) → emF op0 arg0 op' arg' e e' → post (zi j) (zi (k + 16 * pos tp tz j)) (zi e') op' arg') → lp (B post) (m + 2) (zi j0, 0, zi ((e + C0.length : Nat) : Int), op, arg, zi d) := by
  intro m
  induction m with
  | zero =>
    intro j0 hm hj C0 hX hE
    have e51 : tK tp tz j0 = 51 := by
      have : j0 = N := by omega
      rw [this]; exact tK_end.2 (by omega)
    have no : ¬ isOp (tK tp tz j0) := fun z => by
      have := hop _ z
      rw [e51, show rk 51 = 0 from by decide] at this; omega
    refine ⟨0, j0, C0, ⟨by omega, hj⟩, Or.inl rfl, fun _ => ⟨hX, by omega, hE, no⟩, fun _ => ⟨rfl, rfl, rfl⟩, fun P h19 hP nb Q c => ⟨fun _ => ⟨fun z => absurd z nb, fun _ h => h⟩, fun z => absurd rfl z⟩, fun e op0 arg0 op arg post hm he h0 h1 => ?_⟩
    exact hend post _ j0 _ op arg hj no (h0 rfl _ _ hm)
  | succ m ih =>
    intro j0 hm hj C0 hX hE
    by_cases io : isOp (tK tp tz j0)
    rotate_left
    · refine ⟨0, j0, C0, ⟨by omega, hj⟩, Or.inl rfl, fun _ => ⟨hX, by omega, hE, io⟩, fun _ => ⟨rfl, rfl, rfl⟩, fun P h19 hP nb Q c => ⟨fun _ => ⟨fun z => absurd z nb, fun _ h => h⟩, fun z => absurd rfl z⟩, fun e op0 arg0 op arg post hm he h0 h1 => ?_⟩
      exact hend post _ j0 _ op arg hj io (h0 rfl _ _ hm)
    have rt := hop _ io
    have lt := rk_lk (t := tK tp tz j0) (by omega)
    have jN : j0 < N := tK_lt hN hj (by unfold lkT at lt; omega)
    have nb0 : ¬ bad (tK tp tz j0) := fun z => hbad _ z io
    have n19 : tK tp tz j0 ≠ 19 := by unfold lkT at lt; omega
    obtain ⟨k1, j1, C1, hj1, hk1, h0, hK, hR⟩ := hS (j0 + 1) (by omega)
    have oe : opI (-1 - tK tp tz j0) = opL (tK tp tz j0) := by
      unfold lkT at lt
      rw [opI, if_neg (by omega), if_neg (by omega), if_neg (by omega), show -1 - (-1 - tK tp tz j0) = tK tp tz j0 by omega]
    have ae : agI (-1 - tK tp tz j0) = 0 := by
      unfold lkT at lt
      rw [agI, if_neg (by omega), if_neg (by omega)]
    by_cases k0 : k1 = 0
    rotate_left
    · refine ⟨k1, j1, [], by omega, hk1, fun z => absurd z k0, fun z => absurd z nb0, fun P h19 hP nb Q c => ⟨fun z => absurd z k0, fun _ hq => ?_⟩, fun e op0 arg0 op arg post hm he h0 h1 => ?_⟩
      · refine YW_link (by omega) (by omega) ?_
        exact (hK (tK tp tz j0 :: P) (by rw [hdI]; exact n19) (by rw [hdI]; omega) Q (c ++ C0)).2 k0 hq
      · refine hstep post _ j0 _ op arg hj io ?_
        refine hR _ _ _ _ (by omega) (fun z => absurd z k0) (fun _ e' op' arg' a b hF => ?_)
        refine p_emitR (by omega) ?_
        refine hstop post _ _ _ _ _ _ (flt_ne hz (by omega) _) ?_
        exact h1 k0 _ _ _ (by omega) (by omega) (emF_trans (emF_trans (emR_F hm) hF (by omega) a) emF_one (by omega) (by omega))
    · obtain ⟨g1, g2, g3, g4⟩ := h0 k0
      obtain ⟨k, j, C, q1, q2, q3, q4, q5, q6⟩ := ih j1 (by omega) hj1.2 (C0 ++ C1 ++ [-1 - tK tp tz j0]) (XE_lnk lt hX g2) g4
      have ln : (C0 ++ C1 ++ [-1 - tK tp tz j0]).length = C0.length + C1.length + 1 := by simp only [List.length_append, List.length_singleton]
      rw [ln] at q3 q6
      refine ⟨k, j, C, by omega, q2, fun z => ⟨(q3 z).1, by have := (q3 z).2.1; omega, (q3 z).2.2⟩, fun z => absurd z nb0, fun P h19 hP nb Q c => ?_, fun e op0 arg0 op arg post hm he h0 h1 => ?_⟩
      · have K := hK (tK tp tz j0 :: P) (by rw [hdI]; exact n19) (by rw [hdI]; omega) Q (c ++ C0)
        by_cases b1 : bad (tK tp tz j1)
        · obtain ⟨e1, e2, e3⟩ := q4 b1
          subst e2
          refine ⟨fun _ => ⟨fun _ hq => ?_, fun z => absurd b1 z⟩, fun z => absurd e1 z⟩
          exact YW_link (by omega) (by omega) ((K.1 k0).1 b1 hq)
        · have pre : YW tp tz Q j1 P (c ++ (C0 ++ C1 ++ [-1 - tK tp tz j0])) d false → YW tp tz Q j0 P (c ++ C0) d false := by
            intro h
            refine YW_link (by omega) (by omega) ((K.1 k0).2 b1 ?_)
            have he := hen _ g4 b1
            refine YW_stl (stl_one (r := r) hr.1 (by omega) hP) hr.1 he.1 he.2 ?_
            rw [show c ++ C0 ++ C1 ++ [-1 - tK tp tz j0] = c ++ (C0 ++ C1 ++ [-1 - tK tp tz j0]) by simp only [List.append_assoc]]
            exact h
          have K2 := q5 P h19 hP b1 Q c
          exact ⟨fun z => ⟨fun y hq => pre ((K2.1 z).1 y hq), fun y hq => pre ((K2.1 z).2 y hq)⟩, fun z hq => pre (K2.2 z hq)⟩
      · refine hstep post _ j0 _ op arg hj io ?_
        refine hR _ _ _ _ (by omega) (fun _ op' arg' hm1 => ?_) (fun z => absurd k0 z)
        refine p_emitR (by omega) ?_
        have m2 := emR_app hm hm1
        have m3 := emR_one (op := op') (arg := arg') (e := e + (C0 ++ C1).length) (a := -1 - tK tp tz j0)
        have m4 := emR_app m2 m3
        rw [oe, ae, List.length_append] at m4
        have g := q6 e op0 arg0 _ _ post m4 (by omega) h0 (fun z e' op' arg' a b hF => h1 z e' op' arg' a (by omega) hF)
        rw [show 1100 + (e + (C0.length + C1.length)) = 1100 + (e + C0.length + C1.length) by omega, show e + (C0.length + C1.length + 1) = e + C0.length + C1.length + 1 by omega] at g
        exact g
theorem SP_seq (hz : 0 ≤ tz ∧ tz ≤ 1000) (hN : pos tp tz N = tz) {b : Nat} {lo r : Int} {bad en isOp : Int → Prop} {d : Int} {W : WE} (hS : SP tp tz N b lo bad en d W) (hr : 1 ≤ r ∧ r < lo) (hop : ∀ t, isOp t → rk t = r) (hbad : ∀ t, bad t → ¬ isOp t) (hen : ∀ t, en t → ¬ bad t → rk t ≤ r ∧ (rk t = 2 → 3 ≤ r)) {B : (Int32 → Int32 → Int32 → (Nat → Int32) → (Nat → Int32) → Prop) → (Int32 × Int32 × Int32 × (Nat → Int32) × (Nat → Int32) × Int32 → Prop) → Int32 × Int32 × Int32 × (Nat → Int32) × (Nat → Int32) × Int32 → Prop}
    (hstop : ∀ (post : Int32 → Int32 → Int32 → (Nat → Int32) → (Nat → Int32) → Prop) kb at_ fa e op arg, ¬ fa = 0 → post at_ fa e op arg → B post kb (at_, fa, e, op, arg, zi d))
    (hend : ∀ (post : Int32 → Int32 → Int32 → (Nat → Int32) → (Nat → Int32) → Prop) kb (i : Nat) e op arg, i ≤ N → ¬ isOp (tK tp tz i) → post (zi i) 0 e op arg → B post kb (zi i, 0, e, op, arg, zi d))
    (hstep : ∀ (post : Int32 → Int32 → Int32 → (Nat → Int32) → (Nat → Int32) → Prop) kb (i : Nat) e op arg, i ≤ N → isOp (tK tp tz i) → W (zi ((i + 1 : Nat) : Int)) 0 e op arg (fun at_ fa e op arg => wp_X12_emit e op arg (zi (opL (tK tp tz i))) 0 (fun e op arg => kb (at_, fa, e, op, arg, zi d))) → B post kb (zi i, 0, e, op, arg, zi d)) :
    SP tp tz N (b + 1) r bad (fun t => en t ∧ ¬ isOp t) d (fun at_ fa e op arg post => W at_ fa e op arg (fun at_ fa e op arg => ∃ n, lp (B post) n (at_, fa, e, op, arg, zi d))) := by
  intro i hi
  obtain ⟨k0, j0, C0, hj0, hk0, h0, hK, hR⟩ := hS i hi
  by_cases z0 : k0 = 0
  rotate_left
  · refine ⟨k0, j0, C0, hj0, hk0, fun z => absurd z z0, fun P h19 hP Q c => ⟨fun z => absurd z z0, (hK P h19 (by omega) Q c).2⟩, fun e op arg post he a0 a1 => ?_⟩
    refine hR e op arg _ he (fun z => absurd z z0) (fun z e' op' arg' x y hF => ⟨1, ?_⟩)
    exact hstop post _ _ _ _ _ _ (flt_ne hz (by omega) _) (a1 z e' op' arg' x y hF)
  · obtain ⟨g1, g2, g3, g4⟩ := h0 z0
    obtain ⟨k, j, C, q1, q2, q3, q4, q5, q6⟩ := SP_loop hz hN hS hr hop hbad hen hstop hend hstep (N - j0) j0 (by omega) hj0.2 C0 (XE_mono (by omega) g2) g4
    refine ⟨k, j, C, by omega, q2, fun z => ⟨by omega, (q3 z).1, by have := (q3 z).2.1; omega, (q3 z).2.2⟩, fun P h19 hP Q c => ?_, fun e op arg post he a0 a1 => ?_⟩
    · have K := hK P h19 (by omega) Q c
      by_cases b1 : bad (tK tp tz j0)
      · obtain ⟨e1, e2, e3⟩ := q4 b1
        subst e2
        exact ⟨fun _ => ⟨fun _ hq => (K.1 z0).1 b1 hq, fun z => absurd b1 z⟩, fun z => absurd e1 z⟩
      · have K2 := q5 P h19 hP b1 Q c
        exact ⟨fun z => ⟨fun y hq => (K.1 z0).2 b1 ((K2.1 z).1 y hq), fun y hq => (K.1 z0).2 b1 ((K2.1 z).2 y hq)⟩, fun z hq => (K.1 z0).2 b1 (K2.2 z hq)⟩
    · refine hR e op arg _ (by omega) (fun _ op' arg' hm => ⟨_, q6 e op arg op' arg' post hm (by omega) a0 (fun z e' op' arg' x y hF => a1 z e' op' arg' x (by omega) hF)⟩) (fun z => absurd z0 z)
end GS
