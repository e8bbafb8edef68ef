/-! the class takes one more token of an E; all tokens of it -/
section TK
variable {pf cf : Int → Int} {d t v : Int} {P c : List Int} {post : Int32 → Int32 → Int32 → Int32 → (Nat → Int32) → Int32 → (Nat → Int32) → Prop}
theorem p_addP {x : Int} (hx : 0 ≤ x ∧ x < 60) (hp : pnd pf P) (hl : P.length < 1000) {post : Int32 → Int32 → (Nat → Int32) → Prop} (h : ∀ pf', pnd pf' (x :: P) → post 1 (zi ((x :: P).length : Int)) (zA pf')) : wp_X0_add 1000 (zi P.length) (zA pf) (zi x) post :=
  p_add (by decide) (by omega) (fun _ => h _ (pnd_push hp hx)) (fun z => by omega)
theorem p_takeP (hd : 0 ≤ d ∧ d ≤ 5) (ht : 0 ≤ t ∧ t < 60) (hv : 0 ≤ v ∧ v ≤ 9999) (hp : pnd pf P) (hf : fwd cf c) (hl : P.length + c.length < 1000) (h5 : cN P ≤ 5)
    (g1 : t = 19 ∨ t = 32 → d < 5 → ∀ pf', pnd pf' (t :: P) → post 0 (zi (d + 1)) 1 (zi ((t :: P).length : Int)) (zA pf') (zi c.length) (zA cf))
    (g2 : t = 50 ∨ t = 20 ∨ t = 21 → d < 5 → ∀ cf', fwd cf' (c ++ [if t = 50 then v else -1 - t] ++ List.replicate (cN P) (-20)) → post 0 (zi (d - cN P)) 0 (zi (dN P).length) (zA pf) (zi (c ++ [if t = 50 then v else -1 - t] ++ List.replicate (cN P) (-20)).length) (zA cf'))
    (g5 : prt t → 5 ≤ d → ∀ a b e f g h, post 5 a b e f g h) (g0 : ¬ prt t → ∀ a b e f g h, post 1 a b e f g h) : wp_X2_take (zi d) 1 (zi P.length) (zA pf) (zi c.length) (zA cf) (zi t) (zi v) post := by
  have b54 : prt t → ∀ l3 : Int32, (l3 = 0 ↔ ¬ (t = 19 ∨ t = 32)) → wp_X2_takePart_b54 (fun r10 t_depth_10 t_wantsPart_10 t_code_size_10 t_code_items_10 t_pending_size_10 t_pending_items_10 => post r10 t_depth_10 t_wantsPart_10 t_pending_size_10 t_pending_items_10 t_code_size_10 t_code_items_10) (zi d) 1 (zi c.length) (zA cf) (zi P.length) (zA pf) (zi t) (zi v) l3 := by
    intro hpr l3 e3
    rw [wp_X2_takePart_b54]
    refine ⟨fun z => ⟨fun y => ?_, fun y => ?_⟩, fun z => ?_⟩
    · rw [zi_lit, zi_lt (by omega)] at z
      have n1 := e3.1 y
      have st : t = 50 ∨ t = 20 ∨ t = 21 := by unfold prt at hpr; omega
      have fin : ∀ x : Int, x = (if t = 50 then v else -1 - t) → wp_X2_takePart_b107 (fun r10 t_depth_10 t_wantsPart_10 t_code_size_10 t_code_items_10 t_pending_size_10 t_pending_items_10 => post r10 t_depth_10 t_wantsPart_10 t_pending_size_10 t_pending_items_10 t_code_size_10 t_code_items_10) (zi d) 1 (zi c.length) (zA cf) (zi P.length) (zA pf) (zi x) := by
        intro x ex
        rw [wp_X2_takePart_b107]
        refine p_addC hf (by omega) (fun cf' hcf => ?_)
        refine p_endPart hd hp hcf (by rw [List.length_append, List.length_singleton]; omega) h5 (fun cf2 hcf2 => ?_)
        rw [ex] at hcf2 ⊢
        exact g2 st z cf2 hcf2
      refine ⟨fun n50 => ?_, fun e50 => ?_⟩
      · rw [zi_lit, zi_eq (by omega)] at n50
        have := fin (-1 - t) (by rw [if_neg n50])
        rw [← zi_sub] at this; exact this
      · rw [zi_lit, zi_eq (by omega)] at e50
        exact fin v (by rw [if_pos e50])
    · rw [zi_lit, zi_lt (by omega)] at z
      have o : t = 19 ∨ t = 32 := by
        by_cases q : t = 19 ∨ t = 32
        · exact q
        · exact absurd (e3.2 q) y
      refine p_addP ht hp (by omega) (fun pf' hpf => ?_)
      rw [forall_eq, show zi d + 1 = zi (d + 1) by rw [zi_lit, zi_add]]
      exact g1 o z pf' hpf
    · rw [zi_lit, zi_lt (by omega)] at z
      exact g5 hpr (by omega) _ _ _ _ _ _
  have b41 : ∀ l3 : Int32, (l3 = 0 ↔ ¬ (t = 19 ∨ t = 32)) → ∀ s0 : Int32, (s0 = 0 ↔ ¬ (t = 50 ∨ t = 20 ∨ t = 21)) → wp_X2_takePart_b41 (fun r10 t_depth_10 t_wantsPart_10 t_code_size_10 t_code_items_10 t_pending_size_10 t_pending_items_10 => post r10 t_depth_10 t_wantsPart_10 t_pending_size_10 t_pending_items_10 t_code_size_10 t_code_items_10) (zi d) 1 (zi c.length) (zA cf) (zi P.length) (zA pf) (zi t) (zi v) l3 s0 := by
    intro l3 e3 s0 e0
    rw [wp_X2_takePart_b41]
    refine ⟨fun z => b54 ?_ l3 e3, fun z => ⟨fun y => b54 ?_ l3 e3, fun y => g0 ?_ _ _ _ _ _ _⟩⟩
    · by_cases q : t = 19 ∨ t = 32
      · exact Or.inl q
      · exact absurd (e3.2 q) z
    · by_cases q : t = 50 ∨ t = 20 ∨ t = 21
      · exact Or.inr q
      · exact absurd (e0.2 q) y
    · have a := e3.1 z
      have b := e0.1 y
      unfold prt; omega
  have b17 : ∀ l3 : Int32, (l3 = 0 ↔ ¬ (t = 19 ∨ t = 32)) → wp_X2_takePart_b17 (fun r10 t_depth_10 t_wantsPart_10 t_code_size_10 t_code_items_10 t_pending_size_10 t_pending_items_10 => post r10 t_depth_10 t_wantsPart_10 t_pending_size_10 t_pending_items_10 t_code_size_10 t_code_items_10) (zi d) 1 (zi c.length) (zA cf) (zi P.length) (zA pf) (zi t) (zi v) l3 := by
    intro l3 e3
    rw [wp_X2_takePart_b17, wp_X2_takePart_b36]
    simp (disch := omega) only [zi_lit, zi_eq]
    refine ⟨fun z => b41 l3 e3 1 ⟨fun y => absurd y (by decide), fun y => by omega⟩, fun n1 => ⟨fun z => b41 l3 e3 1 ⟨fun y => absurd y (by decide), fun y => by omega⟩, fun n2 => ⟨fun n3 => b41 l3 e3 0 ⟨fun _ => by omega, fun _ => rfl⟩, fun z => b41 l3 e3 1 ⟨fun y => absurd y (by decide), fun y => by omega⟩⟩⟩⟩
  rw [wp_X2_take]
  refine ⟨fun z => absurd z (by decide), fun _ => ?_⟩
  rw [wp_X2_takePart, wp_X2_takePart_b12]
  simp (disch := omega) only [zi_lit, zi_eq]
  exact ⟨fun z => b17 1 ⟨fun y => absurd y (by decide), fun y => by omega⟩, fun n1 => ⟨fun n2 => b17 0 ⟨fun _ => by omega, fun _ => rfl⟩, fun z => b17 1 ⟨fun y => absurd y (by decide), fun y => by omega⟩⟩⟩
theorem hd_rng : ∀ {P : List Int}, pnd pf P → -100 ≤ hdI P ∧ hdI P ≤ 100
  | [], _ => by decide
  | t :: P, h => by rw [hdI]; have := h.1; omega
theorem p_takeL (hd : d = cO P ∧ d ≤ 5) (ht : 0 ≤ t ∧ t < 60) (hp : pnd pf P) (hf : fwd cf c) (hl : P.length + c.length < 1000) {Y : Nat → List Int → List Int → Int → Bool → Prop} {i : Nat} {Q : Int → Nat → List Int → Prop}
    (hy : if t = 33 then yC Y i d Q (stl 1 P c) else if rk t = 0 then Q 1 i [] else yK Y i d t Q (stl (if rk t = 2 then 3 else rk t) P c))
    (g : ∀ (P' c' : List Int) (d' : Int) (w : Bool) (pf' cf' : Int → Int), Y (i + 1) P' c' d' w → pnd pf' P' → fwd cf' c' → P'.length + c'.length ≤ P.length + c.length + 1 → d' = cO P' → d' ≤ 5 → post 0 (zi d') (if w = true then 1 else 0) (zi P'.length) (zA pf') (zi c'.length) (zA cf'))
    (g1 : Q 1 i [] → ∀ a b e f g h, post 1 a b e f g h) : wp_X2_take (zi d) 0 (zi P.length) (zA pf) (zi c.length) (zA cf) (zi t) (zi v) post := by
  have rt := rk_rng (t := t)
  rw [wp_X2_take]
  refine ⟨fun _ => ⟨fun n33 => ?_, fun e33 => ?_⟩, fun z => absurd rfl z⟩
  · rw [zi_lit, zi_eq (by omega)] at n33
    rw [if_neg n33] at hy
    rw [wp_X2_takeLink]
    refine p_rank (by omega) ?_
    by_cases r0 : rk t = 0
    · rw [if_pos r0] at hy
      rw [r0]
      exact ⟨fun z => absurd rfl z, fun _ => g1 hy _ _ _ _ _ _⟩
    rw [if_neg r0] at hy
    have lt := rk_lk r0
    have main : ∀ q : Int, 1 ≤ q → q ≤ 4 → q = (if rk t = 2 then 3 else rk t) → wp_X2_takeLink_b22 (fun r29 t_wantsPart_29 t_pending_size_29 t_pending_items_29 t_code_size_29 t_code_items_29 => post r29 (zi d) t_wantsPart_29 t_pending_size_29 t_pending_items_29 t_code_size_29 t_code_items_29) 0 (zi P.length) (zA pf) (zi c.length) (zA cf) (zi t) (zi (rk t)) (zi q) := by
      intro q q1 q4 eq
      rw [← eq] at hy
      have sl := stl_len (r := q) P c
      have so := cO_stl q1 P c
      have sp := pnd_stl (r := q) P c hp
      rw [wp_X2_takeLink_b22]
      refine p_settle ⟨q1, q4⟩ hp hf (by omega) (fun cf' hcf => ?_)
      have push : ¬ (rk t = 2 ∧ rk (hdI (stl q P c).1) = 2) → wp_X2_takeLink_b46 (fun r29 t_wantsPart_29 t_pending_size_29 t_pending_items_29 t_code_size_29 t_code_items_29 => post r29 (zi d) t_wantsPart_29 t_pending_size_29 t_pending_items_29 t_code_size_29 t_code_items_29) 0 (zi (stl q P c).1.length) (zA pf) (zi (stl q P c).2.length) (zA cf') (zi t) := by
        intro nb
        rw [yK, if_neg nb] at hy
        rw [wp_X2_takeLink_b46]
        refine p_addP ht sp (by omega) (fun pf' hpf => ?_)
        refine g _ _ _ _ pf' cf' hy hpf hcf (by rw [List.length_cons]; omega) ?_ hd.2
        rw [cO, if_neg (by omega), so, hd.1]; omega
      have rr := rk_rng (t := hdI (stl q P c).1)
      refine ⟨fun z => push (fun y => ?_), fun z => p_last sp (by omega) (p_rank (hd_rng sp) ⟨fun y => push (fun x => ?_), fun y => ?_⟩)⟩
      · rw [y.1] at z; exact absurd rfl z
      · rw [x.2] at y; exact absurd rfl y
      · rw [zi_lit, zi_eq (by omega)] at z y
        rw [yK, if_pos ⟨z, y⟩] at hy
        exact g1 hy _ _ _ _ _ _
    refine ⟨fun _ => ⟨fun z => ?_, fun z => ?_⟩, fun z => ?_⟩
    · rw [zi_lit, zi_eq (by omega)] at z
      exact main (rk t) (by omega) (by omega) (by rw [if_neg z])
    · rw [zi_lit, zi_eq (by omega)] at z
      exact main 3 (by omega) (by omega) (by rw [if_pos z])
    · rw [zi_lit, zi_eq (by omega)] at z
      exact absurd z r0
  · rw [zi_lit, zi_eq (by omega)] at e33
    rw [if_pos e33] at hy
    have sl := stl_len (r := 1) P c
    have so := cO_stl (r := 1) (by omega) P c
    have sp := pnd_stl (r := 1) P c hp
    rw [wp_X2_takeClose]
    refine p_settle (r := 1) (by omega) hp hf (by omega) (fun cf' hcf => ?_)
    generalize stl 1 P c = Z at *
    obtain ⟨P1, c1⟩ := Z
    dsimp only at *
    refine p_last sp (by omega) ?_
    have hb := hd_rng sp
    refine ⟨fun z => ?_, fun z => ?_⟩
    · rw [zi_lit, zi_eq (by omega)] at z
      match P1, z, sp, sl, so, hy with
      | [], z, sp, sl, so, hy => exact absurd z (by decide)
      | t1 :: P2, z, sp, sl, so, hy =>
        rw [hdI] at z
        subst z
        rw [yC, if_pos rfl] at hy
        rw [List.length_cons] at sl
        rw [cO, if_pos (Or.inr rfl)] at so
        have cd := cO_dN P2
        have dl := dN_len P2
        refine p_dropL (by rw [List.length_cons]; omega) ?_
        rw [forall_eq, show zi d - 1 = zi (d - 1) by rw [zi_lit, zi_sub]]
        refine p_endPart (by omega) sp.2 hcf (by omega) (by omega) (fun cf2 hcf2 => ?_)
        exact g _ _ _ _ pf cf2 hy (pnd_dN P2 sp.2) hcf2 (by rw [List.length_append, List.length_replicate]; omega) (by omega) (by omega)
    · rw [zi_lit, zi_eq (by omega)] at z
      refine g1 ?_ _ _ _ _ _ _
      match P1, z, hy with
      | [], z, hy => exact hy
      | t1 :: P2, z, hy =>
        rw [hdI] at z
        rw [yC, if_neg z] at hy
        exact hy
end TK
section ADV
variable {tp : Int → Int} {tz : Int} {N : Nat} {f g h : Int → Int}
theorem p_advC (hf : flC tp tz (N + 1) f g h) (hN : N ≤ 1000) {i : Nat} (hi : i ≤ N) {a b c : Int32} {post : Int32 → Int32 → Int32 → Int32 → Prop} (hp : post (zi ((i + 1 : Nat) : Int)) (zi (tK tp tz i)) (zi (tV tp tz i)) (zi (pos tp tz i))) : wp_X4_advance (zi ((N + 1 : Nat) : Int)) (zi ((N + 1 : Nat) : Int)) (zA g) (zi ((N + 1 : Nat) : Int)) (zi tz) (zA h) (zA f) (zi i) a b c post := by
  obtain ⟨e1, e2, e3⟩ := hf i (by omega)
  have nle : ¬ zi ((N + 1 : Nat) : Int) ≤ zi (i : Int) := by rw [zi_le (by omega)]; omega
  rw [wp_X4_advance]
  refine ⟨fun z => absurd z nle, fun _ => ?_⟩
  refine p_at (by decide) (by omega) (by omega) (fun _ _ => ?_) (fun z => by omega)
  rw [wp_X4_advance_b31]
  refine p_at (by decide) (by omega) (by omega) (fun _ _ => ⟨fun z => absurd z nle, fun _ => ?_⟩) (fun z => by omega)
  refine p_at (by decide) (by omega) (by omega) (fun _ _ => ?_) (fun z => by omega)
  rw [wp_X4_advance_b85, forall_eq, zi_p1, e1, e2, e3]
  exact hp
end ADV
