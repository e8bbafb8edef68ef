/-! a line of a walker, the reference -/
section WR
variable {tp : Int → Int} {tz : Int} {N : Nat} {so va pc : Int → Int}
theorem loW_rng {t : Nat} : 0 ≤ loW t ∧ loW t ≤ 1 := by
  rw [loW]
  split <;> omega
theorem hiW_rng {t : Nat} : 3 ≤ hiW t ∧ hiW t ≤ 9999 := by
  rw [hiW]
  repeat' split
  all_goals omega
theorem wc_clause : ∀ n : Fin 6, wc (18 + n) = 11 + (n : Int) := by decide
theorem p_b117 {X : Int32 → Int32 → (Nat → Int32) → Int32 → Prop} {kb : Int32 × Int32 × (Nat → Int32) × Int32 × Int32 → Prop} {P : Int32 → Int32 → (Nat → Int32) → Prop} {v : Nat → Int64} {p s : Nat → Int32} {w : Nat → Int64} {a fa l1 s0 : Int32} {tw : Nat → Int32} {t : Nat} (ht : t < 6) (h : wp_X12_readWalker_b138 X kb v p s w P a fa tw l1 (zi t) (zi (hiW t)) s0) : wp_X12_readWalker_b117 X kb v p s w P a fa tw l1 (zi t) s0 := by
  rw [wp_X12_readWalker_b117, zi_lit, zi_lit, zi_eq (by omega), zi_eq (by omega)]
  refine ⟨fun z => ⟨fun y => ?_, fun y => ?_⟩, fun z => ?_⟩
  · have e : hiW t = 99 := by rw [hiW, if_neg (by omega), if_neg (by omega)]
    rw [e] at h; exact h
  · have e : hiW t = 9999 := by rw [hiW, if_neg (by omega), if_pos (by omega)]
    rw [e] at h; exact h
  · have e : hiW t = 3 := by rw [hiW, if_pos (by omega)]
    rw [e] at h; exact h
theorem wk_F {X : Int32 → Int32 → (Nat → Int32) → Int32 → Prop} {P : Int32 → Int32 → (Nat → Int32) → Prop} {T : Int → Int} {a fa : Int32} (hfa : ¬ fa = 0) (hfl : ¬ fa ≤ 0) {k : Int} (hk : 822 ≤ k ∧ k + 6 < 880) (hx : ∀ T', scr T T' → X a fa (zA T') (zi k)) : ∀ d t : Nat, t + d = 6 → ∀ T', scr T T' → lp (wp_X12_readWalker_L92 X (zL va) (zA pc) (zA so) wd_30 P) (d + 1) (a, fa, zA T', zi k, zi t) := by
  intro d
  induction d with
  | zero =>
    intro t ht T' sc
    have e : t = 6 := by omega
    subst e
    show wp_X12_readWalker_L92 _ _ _ _ _ _ _ _
    dsimp only [wp_X12_readWalker_L92]
    exact ⟨fun _ => hx T' sc, fun z => absurd (by decide) z⟩
  | succ d ih =>
    intro t ht T' sc
    have nx : ∀ s1 : Int32, wp_X12_readWalker_b138 X (lp (wp_X12_readWalker_L92 X (zL va) (zA pc) (zA so) wd_30 P) (d + 1)) (zL va) (zA pc) (zA so) wd_30 P a fa (zA T') (zi k) (zi t) (zi (hiW t)) s1 := by
      intro s1
      rw [wp_X12_readWalker_b138]
      refine p_numF hfa hfl ⟨fun _ x e => ?_, fun z => absurd z hfa⟩
      rw [zi_lit, zi_add, zi_add] at e
      subst e
      rw [zi_in (by omega)]
      refine ⟨by omega, fun tw etw y ey => ?_⟩
      rw [show (0 : Int32) = zi 0 from rfl, zA_upd (by omega)] at etw
      subst etw
      rw [ey, zi_p1]
      exact ih (t + 1) (by omega) _ (scr_up sc (by omega) (by omega))
    show wp_X12_readWalker_L92 _ _ _ _ _ _ _ _
    dsimp only [wp_X12_readWalker_L92]
    refine ⟨fun z => ?_, fun _ => p_takeWordF hfa ⟨fun _ => p_b117 (by omega) (nx _), fun _ => p_b117 (by omega) (nx _)⟩⟩
    rw [zi_lit, zi_le (by omega)] at z; omega
/-- the numbers of the first t clauses, laid down -/
def wkT (tp : Int → Int) (tz : Int) (T : Int → Int) (k : Int) (i : Nat) : Nat → Int → Int
  | 0 => T
  | t + 1 => upI (wkT tp tz T k i t) (k + 1 + t) (tV tp tz (plW i t + 1))
theorem wk_G (hz : 0 ≤ tz ∧ tz ≤ 1000) (hf : flR tp tz (N + 1) so va pc) (hN : pos tp tz N = tz) (hN1 : N ≤ 1000) {i : Nat} {X : Int32 → Int32 → (Nat → Int32) → Int32 → Prop} {P : Int32 → Int32 → (Nat → Int32) → Prop} {T : Int → Int} {k : Int} (hk : 822 ≤ k ∧ k + 6 < 880) : ∀ d t : Nat, t + d = 6 → (∀ (c : Int) (j : Nat), c = 1 ∨ c = 3 ∨ c = 4 ∨ c = 5 → wkG tp tz i d = (c, j) → ∀ a T', scr T T' → X a (zi (c + 16 * pos tp tz j)) (zA T') (zi k)) → (wkG tp tz i d = smK tp tz (plW i 6) → plW i 6 ≤ N → scr T (wkT tp tz T k i 6) → X (zi (plW i 6 : Int)) 0 (zA (wkT tp tz T k i 6)) (zi k)) → plW i t ≤ N → scr T (wkT tp tz T k i t) → lp (wp_X12_readWalker_L92 X (zL va) (zA pc) (zA so) wd_30 P) (d + 1) (zi (plW i t : Int), 0, zA (wkT tp tz T k i t), zi k, zi t) := by
  intro d
  induction d with
  | zero =>
    intro t ht F G hj sc
    have e : t = 6 := by omega
    subst e
    show wp_X12_readWalker_L92 _ _ _ _ _ _ _ _
    dsimp only [wp_X12_readWalker_L92]
    exact ⟨fun _ => G rfl hj sc, fun z => absurd (by decide) z⟩
  | succ d ih =>
    intro t ht F G hj sc
    have lr := loW_rng (t := t)
    have hr := hiW_rng (t := t)
    have eg : wkG tp tz i (d + 1) = if (cS tp tz (11 + (t : Int)) (loW t) (hiW t) (plW i t)).1 ≠ 0 then cS tp tz (11 + (t : Int)) (loW t) (hiW t) (plW i t) else wkG tp tz i d := by
      rw [wkG, show 5 - d = t by omega]
    rw [eg] at F G
    have fr : ∀ (c : Int) (j : Nat) (a : Int32), c = 1 ∨ c = 3 ∨ c = 4 ∨ c = 5 → (if (cS tp tz (11 + (t : Int)) (loW t) (hiW t) (plW i t)).1 ≠ 0 then cS tp tz (11 + (t : Int)) (loW t) (hiW t) (plW i t) else wkG tp tz i d) = (c, j) → ∀ T', scr T T' → lp (wp_X12_readWalker_L92 X (zL va) (zA pc) (zA so) wd_30 P) (d + 1) (a, zi (c + 16 * pos tp tz j), zA T', zi k, zi ((t + 1 : Nat) : Int)) := fun c j a hc e T' s' => wk_F (flt_ne hz hc j) (flt_le hz hc j) hk (fun T'' s'' => F c j hc e a T'' s'') d (t + 1) (by omega) T' s'
    have ea : zi k + 1 + zi (t : Int) = zi (k + 1 + t) := by rw [zi_lit, zi_add, zi_add]
    have ix : vp_in (zi (k + 1 + (t : Int))) 2640 := by rw [zi_in (by omega)]; omega
    have u0 : ∀ v : Int, upd (zA (wkT tp tz T k i t)) (Int32.toNatClampNeg (zi (k + 1 + (t : Int)))) (zi v) = zA (upI (wkT tp tz T k i t) (k + 1 + t) v) := fun v => zA_upd (by omega)
    -- with a fault at hand
    have bad : ∀ (c : Int) (j : Nat) (a : Int32), c = 1 ∨ c = 3 ∨ c = 4 ∨ c = 5 → (if (cS tp tz (11 + (t : Int)) (loW t) (hiW t) (plW i t)).1 ≠ 0 then cS tp tz (11 + (t : Int)) (loW t) (hiW t) (plW i t) else wkG tp tz i d) = (c, j) → ∀ s1 : Int32, wp_X12_readWalker_b138 X (lp (wp_X12_readWalker_L92 X (zL va) (zA pc) (zA so) wd_30 P) (d + 1)) (zL va) (zA pc) (zA so) wd_30 P a (zi (c + 16 * pos tp tz j)) (zA (wkT tp tz T k i t)) (zi k) (zi t) (zi (hiW t)) s1 := by
      intro c j a hc e s1
      rw [wp_X12_readWalker_b138]
      refine p_numF (flt_ne hz hc j) (flt_le hz hc j) ⟨fun _ x ex => ?_, fun z => absurd z (flt_ne hz hc j)⟩
      rw [ea] at ex
      subst ex
      refine ⟨ix, fun tw etw y ey => ?_⟩
      rw [show (0 : Int32) = zi 0 from rfl, u0] at etw
      subst etw
      rw [ey, zi_p1]
      exact fr c j a hc e _ (scr_up sc (by omega) (by omega))
    have good : plW i t + 1 ≤ N → tK tp tz (plW i t) = 11 + (t : Int) → wp_X12_readWalker_b138 X (lp (wp_X12_readWalker_L92 X (zL va) (zA pc) (zA so) wd_30 P) (d + 1)) (zL va) (zA pc) (zA so) wd_30 P (zi ((plW i t + 1 : Nat) : Int)) 0 (zA (wkT tp tz T k i t)) (zi k) (zi t) (zi (hiW t)) (zi (loW t)) := by
      intro hj1 et
      have ec : cS tp tz (11 + (t : Int)) (loW t) (hiW t) (plW i t) = if nS tp tz (loW t) (hiW t) (plW i t + 1) ≠ 0 then (nS tp tz (loW t) (hiW t) (plW i t + 1), plW i t + 1) else (0, plW i t + 1 + 1) := by rw [cS, if_neg (fun z => z et)]
      rw [wp_X12_readWalker_b138]
      refine p_numR (lo := loW t) (hi' := hiW t) (i := plW i t + 1) hz hf hN1 hj1 (by omega) (fun n1 => ⟨fun z => absurd rfl z, fun _ x ex => ?_⟩) (fun n1 => ⟨fun _ x ex => ?_, fun z => absurd z (flt_ne hz ?_ _)⟩)
      · rw [ea] at ex
        subst ex
        refine ⟨ix, fun tw etw y ey => ?_⟩
        rw [u0] at etw
        subst etw
        have j1 := nS_lt hN hj1 n1
        have ec0 : cS tp tz (11 + (t : Int)) (loW t) (hiW t) (plW i t) = (0, plW i t + 1 + 1) := by rw [ec, if_neg (fun z => z n1)]
        rw [ec0, if_neg (fun z => absurd rfl z)] at F G
        have vr := tV_rng (tp := tp) (tz := tz) (i := plW i t + 1)
        rw [ey, zi_p1]
        exact ih (t + 1) (by omega) F G (by rw [plW]; omega) (scr_up sc (by omega) (by omega))
      · rw [ea] at ex
        subst ex
        refine ⟨ix, fun tw etw y ey => ?_⟩
        rw [show (0 : Int32) = zi 0 from rfl, u0] at etw
        subst etw
        have rg := nS_rng (tp := tp) (tz := tz) (lo := loW t) (hi := hiW t) (i := plW i t + 1)
        have := fr (nS tp tz (loW t) (hiW t) (plW i t + 1)) (plW i t + 1) (zi ((plW i t + 1 : Nat) : Int)) (by omega) (by
          have ec1 : cS tp tz (11 + (t : Int)) (loW t) (hiW t) (plW i t) = (nS tp tz (loW t) (hiW t) (plW i t + 1), plW i t + 1) := by rw [ec, if_pos n1]
          rw [ec1]
          exact if_pos n1) _ (scr_up sc (k := k + 1 + t) (v := 0) (by omega) (by omega))
        rw [ey, zi_p1]
        exact this
      · have rg := nS_rng (tp := tp) (tz := tz) (lo := loW t) (hi := hiW t) (i := plW i t + 1)
        omega
    have ew := wc_clause ⟨t, by omega⟩
    dsimp only at ew
    have a1 : (18 : Int32) + zi (t : Int) = zi ((18 + t : Nat) : Int) := by rw [zi_lit, zi_add]; rfl
    show wp_X12_readWalker_L92 _ _ _ _ _ _ _ _
    dsimp only [wp_X12_readWalker_L92]
    rw [a1]
    refine ⟨fun z => ?_, fun _ => ?_⟩
    · rw [zi_lit, zi_le (by omega)] at z; omega
    refine p_takeWordR (w := 18 + t) (i := plW i t) hf hz hN1 hj (by omega) (fun e => ?_) (fun e => ?_)
    · rw [ew] at e
      have jl : plW i t < N := tK_lt hN hj (by omega)
      refine ⟨fun z => p_b117 (by omega) ?_, fun z => p_b117 (by omega) ?_⟩
      · rw [zi_lit, zi_le (by omega)] at z
        have el : loW t = 0 := by rw [loW, if_neg (by omega)]
        have := good (by omega) e
        rw [el] at this
        exact this
      · rw [zi_lit, zi_le (by omega)] at z
        have el : loW t = 1 := by rw [loW, if_pos (by omega)]
        have := good (by omega) e
        rw [el] at this
        exact this
    · rw [ew] at e
      have ec : cS tp tz (11 + (t : Int)) (loW t) (hiW t) (plW i t) = (1, plW i t) := by rw [cS, if_pos e]
      have bd := bad 1 (plW i t) (zi (plW i t : Int)) (by omega) (by rw [ec, if_pos (show (1 : Int) ≠ 0 by decide)])
      exact ⟨fun _ => p_b117 (by omega) (bd _), fun _ => p_b117 (by omega) (bd _)⟩
theorem p_walkR0 (hz : 0 ≤ tz ∧ tz ≤ 1000) (hf : flR tp tz (N + 1) so va pc) (hN : pos tp tz N = tz) (hN1 : N ≤ 1000) {i : Nat} (hi : i < N) {T S : Int → Int} (hT : i32 T) (hS : ∀ j, 0 ≤ j → j < 440 → S j = T (440 + j)) {P : Int32 → Int32 → (Nat → Int32) → Prop}
    (F : ∀ (k : Int) (j : Nat), k = 1 ∨ k = 3 ∨ k = 4 ∨ k = 5 → wkK tp tz S i = (k, j) → ∀ a T', scr T T' → P a (zi (k + 16 * pos tp tz j)) (zA T'))
    (G : wkK tp tz S i = smK tp tz (plW i 6) → plW i 6 ≤ N → scr T (upI (wkT tp tz T (822 + 7 * tV tp tz (i + 1)) i 6) (822 + 7 * tV tp tz (i + 1)) 1) → P (zi (plW i 6 : Int)) 0 (zA (upI (wkT tp tz T (822 + 7 * tV tp tz (i + 1)) i 6) (822 + 7 * tV tp tz (i + 1)) 1))) : wp_X12_readWalker (zL va) (zA pc) (zA so) wd_30 (zi i) 0 (zA T) P := by
  have sc0 : scr T T := ⟨hT, fun _ _ => rfl⟩
  have xF : ∀ (c : Int) (j : Nat), c = 1 ∨ c = 3 ∨ c = 4 ∨ c = 5 → wkK tp tz S i = (c, j) → ∀ (w : Int), (0 ≤ w ∧ w ≤ 5) → ∀ (a : Int32) T', scr T T' → (¬ zi (c + 16 * pos tp tz j) = 0 → (vp_in (zi (822 + 7 * w)) 2640 ∧ (∀ x192 : Int32, x192 = zA T' (Int32.toNatClampNeg (zi (822 + 7 * w))) → (vp_in (zi (822 + 7 * w)) 2640 ∧ (∀ tw : Nat → Int32, tw = upd (zA T') (Int32.toNatClampNeg (zi (822 + 7 * w))) x192 → P a (zi (c + 16 * pos tp tz j)) tw))))) ∧ (zi (c + 16 * pos tp tz j) = 0 → (vp_in (zi (822 + 7 * w)) 2640 ∧ (∀ tw : Nat → Int32, tw = upd (zA T') (Int32.toNatClampNeg (zi (822 + 7 * w))) 1 → P a (zi (c + 16 * pos tp tz j)) tw))) := by
    intro c j hc e w hw a T' s'
    refine ⟨fun _ => ?_, fun z => absurd z (flt_ne hz hc j)⟩
    rw [zi_in (by omega)]
    refine ⟨by omega, fun x ex => ⟨by omega, fun tw etw => ?_⟩⟩
    rw [ex, zA_get (by omega), zA_upd (by omega), upI_same] at etw
    rw [etw]
    exact F c j hc e a T' s'
  have b76 : ∀ (c : Int) (j : Nat) (a : Int32), c = 1 ∨ c = 3 ∨ c = 4 ∨ c = 5 → wkK tp tz S i = (c, j) → wp_X12_readWalker_b76 (zL va) (zA pc) (zA so) wd_30 P a (zi (c + 16 * pos tp tz j)) (zA T) := by
    intro c j a hc e
    rw [wp_X12_readWalker_b76]
    refine p_numF (flt_ne hz hc j) (flt_le hz hc j) (fun x89 e89 => ⟨7, ?_⟩)
    have e0 : x89 = zi 822 := e89
    rw [e0]
    exact wk_F (k := 822) (flt_ne hz hc j) (flt_le hz hc j) (by omega) (fun T'' s'' => xF c j hc e 0 (by omega) a T'' s'') 6 0 (by omega) T sc0
  have vr := tV_rng (tp := tp) (tz := tz) (i := i + 1)
  obtain ⟨⟨r1, r2, r3, r4, r5, r6, r7⟩, _⟩ := hf (i + 1) (by omega)
  have in1 : vp_in (zi ((i + 1 : Nat) : Int)) 1002 := lt_1002 (N := N) (by omega) hN1
  have num : nS tp tz 0 5 (i + 1) ≠ 0 → wp_X12_readWalker_b76 (zL va) (zA pc) (zA so) wd_30 P (zi ((i + 1 : Nat) : Int)) 0 (zA T) := by
    intro n1
    have rg := nS_rng (tp := tp) (tz := tz) (lo := 0) (hi := 5) (i := i + 1)
    have hc : nS tp tz 0 5 (i + 1) = 1 ∨ nS tp tz 0 5 (i + 1) = 3 ∨ nS tp tz 0 5 (i + 1) = 4 ∨ nS tp tz 0 5 (i + 1) = 5 := by omega
    have e : wkK tp tz S i = (nS tp tz 0 5 (i + 1), i + 1) := by rw [wkK, if_pos n1]
    rw [wp_X12_readWalker_b76]
    refine p_numR (lo := 0) (hi' := 5) (i := i + 1) hz hf hN1 (by omega) (by omega) (fun z => absurd z n1) (fun _ x89 e89 => ⟨7, ?_⟩)
    have e0 : x89 = zi 822 := e89
    rw [e0]
    exact wk_F (k := 822) (flt_ne hz hc _) (flt_le hz hc _) (by omega) (fun T'' s'' => xF _ _ hc e 0 (by omega) _ T'' s'') 6 0 (by omega) T sc0
  rw [wp_X12_readWalker, forall_eq, zi_p1, zA_get (by omega), zL_get (by omega)]
  refine ⟨fun z => absurd rfl z, fun _ => ⟨in1, fun z => ?_, fun z => ⟨in1, fun y => ?_, fun y => ⟨in1, fun x67 e67 => ?_⟩⟩⟩⟩
  · rw [zi_lit, zi_eq (by omega), r1] at z
    exact num (by rw [nS, if_neg z]; decide)
  · rw [zi_lit, zi_eq (by omega), r1] at z
    rw [r2 z, zl_lit, cmp_ge ⟨by omega, by omega⟩ ⟨by omega, by omega⟩] at y
    exact num (by rw [nS, if_pos z, if_pos (by omega)]; decide)
  rw [zi_lit, zi_eq (by omega), r1] at z
  rw [r2 z, zl_lit, cmp_ge ⟨by omega, by omega⟩ ⟨by omega, by omega⟩] at y
  have n1 : nS tp tz 0 5 (i + 1) = 0 := by rw [nS, if_pos z, if_neg (by omega)]
  have i1 := nS_lt hN (by omega) n1
  have eS := hS (382 + 7 * tV tp tz (i + 1)) (by omega) (by omega)
  rw [show (440 + (382 + 7 * tV tp tz (i + 1))) = 822 + 7 * tV tp tz (i + 1) by omega] at eS
  have bT := hT (822 + 7 * tV tp tz (i + 1))
  rw [r2 z, zl_narrow (by omega), zi_lit, zi_lit, zi_mul, zi_add] at e67
  subst e67
  rw [zA_get (by omega), zi_in (by omega), zi_lit, zi_le ⟨bT, by omega⟩, ← eS]
  refine ⟨by omega, fun q => ?_, fun q => ?_⟩
  rotate_left
  · have e : wkK tp tz S i = (3, i + 1) := by rw [wkK, if_neg (fun w => w n1), if_pos (by omega)]
    exact p_wrongR (k := 3) hf hz hN1 (by omega) (b76 3 (i + 1) _ (by omega) e)
  have ek : wkK tp tz S i = wkG tp tz i 6 := by rw [wkK, if_neg (fun w => w n1), if_neg (by omega)]
  rw [wp_X12_readWalker_b76]
  refine p_numR (lo := 0) (hi' := 5) (i := i + 1) hz hf hN1 (by omega) (by omega) (fun _ x89 e89 => ⟨7, ?_⟩) (fun w => absurd n1 w)
  rw [zi_lit, zi_lit, zi_mul, zi_add] at e89
  rw [e89]
  refine wk_G (i := i) (k := 822 + 7 * tV tp tz (i + 1)) hz hf hN hN1 (by omega) 6 0 (by omega) (fun c j hc e a T' s' => xF c j hc (ek.trans e) _ (by omega) a T' s') (fun e le s6 => ?_) (by rw [plW]; omega) sc0
  refine ⟨fun w => absurd rfl w, fun _ => ?_⟩
  rw [zi_in (by omega)]
  refine ⟨by omega, fun tw etw => ?_⟩
  rw [show (1 : Int32) = zi 1 from rfl, zA_upd (by omega)] at etw
  rw [etw]
  exact G (ek.trans e) le (scr_up s6 (by omega) (by omega))
theorem p_walkR (hz : 0 ≤ tz ∧ tz ≤ 1000) (hf : flR tp tz (N + 1) so va pc) (hN : pos tp tz N = tz) (hN1 : N ≤ 1000) {i : Nat} (hi : i < N) {T S : Int → Int} (hT : i32 T) (hS : ∀ j, 0 ≤ j → j < 440 → S j = T (440 + j)) {post : Int32 → Int32 → (Nat → Int32) → Prop}
    (g1 : (wkK tp tz S i).1 ≠ 0 → ∀ a T', scr T T' → post a (zi ((wkK tp tz S i).1 + 16 * pos tp tz (wkK tp tz S i).2)) (zA T'))
    (g0 : (wkK tp tz S i).1 = 0 → post (zi ((wkK tp tz S i).2 : Int)) 0 (zA (upI (wkT tp tz T (822 + 7 * tV tp tz (i + 1)) i 6) (822 + 7 * tV tp tz (i + 1)) 1))) : wp_X12_readWalker (zL va) (zA pc) (zA so) wd_30 (zi i) 0 (zA T) (fun at_ fa towns => wp_X12_takeSign (zA so) (zL va) (zA pc) at_ fa 59 (fun at_ fa => post at_ fa towns)) := by
  refine p_walkR0 hz hf hN hN1 hi hT hS (fun k j hk e a T' sc => p_takeSignF (flt_ne hz hk j) ?_) (fun e le sc => ?_)
  · rw [e] at g1
    exact g1 (show k ≠ 0 by omega) a T' sc
  · rw [e, smK] at g1 g0
    refine p_takeSignR (c := 59) hf hz hN1 le (by omega) (by decide) (fun z => ?_) (fun z => ?_)
    · rw [if_pos (show tK tp tz (plW i 6) = 39 from z)] at g0
      exact g0 rfl
    · rw [if_neg (show ¬ tK tp tz (plW i 6) = 39 from z)] at g1
      exact g1 (show (1 : Int) ≠ 0 by decide) _ _ sc
end WR
