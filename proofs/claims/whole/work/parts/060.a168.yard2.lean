/-! all tokens of an E, the class -/
section YR
variable {tp : Int → Int} {tz : Int} {N : Nat} {f g h : Int → Int} {Q : Int → Nat → List Int → Prop}
theorem p_yard (hf : flC tp tz (N + 1) f g h) (hN : pos tp tz N = tz) (hN1 : N ≤ 1000) {x117 : Int32 → Int32 → Int32 → Int32 → Int32 → Int32 → Int32 → Int32 → Int32 → Int32 → Int32 → Int32 → Int32 → Int32 → (Nat → Int32) → (Nat → Int32) → (Nat → Int32) → (Nat → Int64) → (Nat → Int64) → Int32 → Prop} {x97 : Int32 → Int32 → Int32 → Int32 → Int32 → Int32 → Int32 → Int32 → Int32 → Int32 → Int32 → Int32 → Int32 → Int32 → (Nat → Int32) → (Nat → Int32) → (Nat → Int32) → (Nat → Int64) → (Nat → Int64) → Int32 → Prop} {post : Int32 → Int32 → Int32 → Int32 → Int32 → Int32 → Int32 → Int32 → Int32 → Int32 → Int32 → Int32 → Int32 → Int32 → Int32 → (Nat → Int32) → (Nat → Int32) → (Nat → Int32) → (Nat → Int64) → (Nat → Int64) → Prop} {num np site fa al sl l1 : Int32} {vals : Nat → Int32} {sw aw : Nat → Int64}
    (hs : ∀ (i : Nat) (P c : List Int) (d : Int) (w : Bool) (pf cf : Int → Int), i ≤ N → tK tp tz i = 39 → (w = true → Q 1 i []) → (w = false → if (stl 1 P c).1 = [] then Q 0 i (stl 1 P c).2 else Q 1 i []) → pnd pf P → fwd cf c → P.length + c.length ≤ 1000 → x117 (zi ((i + 1 : Nat) : Int)) (zi (tK tp tz i)) (zi (tV tp tz i)) (zi (pos tp tz i)) num np site fa al sl (zi d) (if w = true then 1 else 0) (zi c.length) (zi P.length) (zA pf) (zA cf) vals sw aw l1)
    (hq : ∀ (i : Nat) (k : Int), i ≤ N → k = 1 ∨ k = 5 → Q k i [] → ∀ a b c d e e2, x97 (zi ((i + 1 : Nat) : Int)) (zi (tK tp tz i)) (zi (tV tp tz i)) (zi (pos tp tz i)) num np site fa al sl a b c d e e2 vals sw aw (zi k)) :
    ∀ (n i : Nat) (P c : List Int) (d : Int) (w : Bool) (pf cf : Int → Int) (l2 : Nat), Yw tp tz Q n i P c d w → i ≤ N → l2 ≤ i → P.length + c.length < i → pnd pf P → fwd cf c → d = cO P → d ≤ 5 → lp (wp_X4_readTimed_L61 x117 x97 (zi ((N + 1 : Nat) : Int)) (zi ((N + 1 : Nat) : Int)) (zA g) (zi ((N + 1 : Nat) : Int)) (zi tz) (zA h) (zA f) post) n (zi ((i + 1 : Nat) : Int), zi (tK tp tz i), zi (tV tp tz i), zi (pos tp tz i), num, np, site, fa, al, sl, zi d, (if w = true then 1 else 0), zi c.length, zi P.length, zA pf, zA cf, vals, sw, aw, l1, zi l2) := by
  intro n
  induction n with
  | zero => intro i P c d w pf cf l2 hy; exact hy.elim
  | succ n ih =>
    intro i P c d w pf cf l2 hy hi hl2 hl hp hc hd hd5
    have tr := tK_rng (tp := tp) (tz := tz) (i := i)
    have vr := tV_rng (tp := tp) (tz := tz) (i := i)
    have nx : tK tp tz i ≠ 51 → ∀ (P' c' : List Int) (d' : Int) (w' : Bool) (pf' cf' : Int → Int), Yw tp tz Q n (i + 1) P' c' d' w' → pnd pf' P' → fwd cf' c' → P'.length + c'.length < i + 1 → d' = cO P' → d' ≤ 5 → wp_X4_advance (zi ((N + 1 : Nat) : Int)) (zi ((N + 1 : Nat) : Int)) (zA g) (zi ((N + 1 : Nat) : Int)) (zi tz) (zA h) (zA f) (zi ((i + 1 : Nat) : Int)) (zi (tK tp tz i)) (zi (tV tp tz i)) (zi (pos tp tz i)) (fun t_ahead_108 t_token_108 t_value_108 t_place_108 => ∀ y111 : Int32, y111 = zi l2 + 1 → (lp (wp_X4_readTimed_L61 x117 x97 (zi ((N + 1 : Nat) : Int)) (zi ((N + 1 : Nat) : Int)) (zA g) (zi ((N + 1 : Nat) : Int)) (zi tz) (zA h) (zA f) post) n (t_ahead_108, t_token_108, t_value_108, t_place_108, num, np, site, fa, al, sl, zi d', (if w' = true then 1 else 0), zi c'.length, zi P'.length, zA pf', zA cf', vals, sw, aw, l1, y111))) := by
      intro n51 P' c' d' w' pf' cf' hy' hp' hc' hl' hd' hd5'
      have iN := tK_lt hN hi n51
      refine p_advC hf hN1 (by omega) ?_
      rw [forall_eq, zi_p1]
      exact ih (i + 1) P' c' d' w' pf' cf' (l2 + 1) hy' (by omega) (by omega) hl' hp' hc' hd' hd5'
    show wp_X4_readTimed_L61 x117 x97 _ _ _ _ _ _ _ post (lp _ n) _
    dsimp only [wp_X4_readTimed_L61]
    refine ⟨fun z => ?_, fun _ => ⟨fun z => ?_, fun z => ?_⟩⟩
    · rw [zi_lit, zi_lt (by omega)] at z; omega
    · rw [zi_lit, zi_eq (by omega)] at z
      rw [Yw] at hy
      cases w with
      | true =>
        rw [if_pos rfl, yP, if_pos z] at hy
        exact hs i P c d true pf cf hi z (fun _ => hy) (fun y => nomatch y) hp hc (by omega)
      | false =>
        rw [if_neg (by decide), yL, if_pos z] at hy
        exact hs i P c d false pf cf hi z (fun y => nomatch y) (fun _ => hy) hp hc (by omega)
    · rw [zi_lit, zi_eq (by omega)] at z
      rw [Yw] at hy
      cases w with
      | true =>
        rw [if_pos rfl, yP, if_neg z] at hy
        have cd := cO_dN P
        have dl := dN_len P
        refine p_takeP (by omega) (by omega) vr hp hc (by omega) (by omega) (fun o d4 pf' hpf => ⟨fun _ => ?_, fun y => absurd rfl y⟩) (fun o d4 cf' hcf => ⟨fun _ => ?_, fun y => absurd rfl y⟩) (fun o d4 a b e e2 e3 e4 => ⟨fun y => absurd y (by decide), fun _ => ?_⟩) (fun o a b e e2 e3 e4 => ⟨fun y => absurd y (by decide), fun _ => ?_⟩)
        · rw [if_pos o, if_neg (by omega)] at hy
          exact nx (by omega) _ _ _ true pf' cf hy hpf hc (by rw [List.length_cons]; omega) (by rw [cO, if_pos o]; omega) (by omega)
        · rw [if_neg (by omega), if_pos o, if_neg (by omega)] at hy
          exact nx (by omega) _ _ _ false pf cf' hy (pnd_dN P hp) hcf (by simp only [List.length_append, List.length_singleton, List.length_replicate]; omega) (by omega) (by omega)
        · refine hq i 5 hi (Or.inr rfl) ?_ _ _ _ _ _ _
          by_cases o1 : tK tp tz i = 19 ∨ tK tp tz i = 32
          · rw [if_pos o1, if_pos d4] at hy; exact hy
          · unfold prt at o
            rw [if_neg o1, if_pos (by omega), if_pos d4] at hy; exact hy
        · unfold prt at o
          rw [if_neg (by omega), if_neg (by omega)] at hy
          exact hq i 1 hi (Or.inl rfl) hy _ _ _ _ _ _
      | false =>
        rw [if_neg (by decide), yL, if_neg z] at hy
        by_cases c51 : tK tp tz i = 51
        · have hy2 : Q 1 i [] := by
            rw [c51, if_neg (by decide), if_pos (by decide)] at hy; exact hy
          refine p_takeL (Y := fun _ _ _ _ _ => False) ⟨hd, hd5⟩ (by omega) hp hc (by omega) ?_ (fun P' c' d' w' pf' cf' hy' => hy'.elim) (fun hq' a b e e2 e3 e4 => ⟨fun y => absurd y (by decide), fun _ => hq i 1 hi (Or.inl rfl) hq' _ _ _ _ _ _⟩)
          rw [c51, if_neg (by decide), if_pos (by decide)]; exact hy2
        refine p_takeL ⟨hd, hd5⟩ (by omega) hp hc (by omega) hy (fun P' c' d' w' pf' cf' hy' hp' hc' hl' hd' hd5' => ⟨fun _ => ?_, fun y => absurd rfl y⟩) (fun hq' a b e e2 e3 e4 => ⟨fun y => absurd y (by decide), fun _ => hq i 1 hi (Or.inl rfl) hq' _ _ _ _ _ _⟩)
        exact nx c51 _ _ _ w' pf' cf' hy' hp' hc' (by omega) hd' hd5'
theorem p_endsC {P c : List Int} {pf cf : Int → Int} {w : Bool} (hp : pnd pf P) (hc : fwd cf c) (hl : P.length + c.length ≤ 1000) {post : Int32 → Int32 → Int32 → (Nat → Int32) → Prop} {i : Nat}
    (hw : w = true → Q 1 i []) (hy : w = false → if (stl 1 P c).1 = [] then Q 0 i (stl 1 P c).2 else Q 1 i [])
    (g0 : ∀ (C : List Int) (cf' : Int → Int), Q 0 i C → fwd cf' C → C.length ≤ 1000 → post 1 0 (zi C.length) (zA cf')) (g1 : Q 1 i [] → ∀ a b e, post 0 a b e) : wp_X2_ends (if w = true then 1 else 0) (zA pf) (zi P.length) (zi c.length) (zA cf) post := by
  rw [wp_X2_ends]
  cases w with
  | true => exact ⟨fun z => absurd z (by decide), fun _ => g1 (hw rfl) _ _ _⟩
  | false =>
    refine ⟨fun _ => ?_, fun z => absurd (by decide) z⟩
    have h := hy rfl
    have sl := stl_len (r := 1) P c
    refine p_settle (r := 1) (by omega) hp hc hl (fun cf' hcf => ?_)
    generalize stl 1 P c = Z at *
    obtain ⟨P1, c1⟩ := Z
    dsimp only at *
    refine ⟨fun z => ?_, fun z => ?_⟩
    · by_cases e : P1 = []
      · rw [e] at z; exact absurd rfl z
      · rw [if_neg e] at h; exact g1 h _ _ _
    · by_cases e : P1 = []
      · rw [if_pos e] at h
        rw [e]
        exact g0 c1 cf' h hcf (by omega)
      · have : P1.length ≠ 0 := fun q => e (List.length_eq_zero_iff.1 q)
        rw [zi_lit, zi_eq (by omega)] at z; omega
end YR
