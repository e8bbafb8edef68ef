/-! a line of the sun, the reference: the whole line -/
theorem cmp_gt {a b : Int} (ha : i64 a) (hb : i64 b) : (0 < lg_cmp (zl a) (zl b)) = (b < a) := by
  have e := cmp_le ha hb
  have n : (0 < lg_cmp (zl a) (zl b)) ↔ ¬ (lg_cmp (zl a) (zl b) ≤ 0) := Int32.not_le.symm
  rw [eq_iff_iff, n, e]; omega
section SQ
variable {tp : Int → Int} {tz : Int} {N : Nat} {so va pc : Int → Int}
def suT (T : Int → Int) (n d m to a b : Int) : Int → Int := upI (upI (upI (upI (upI (upI T (702 + 5 * n) d) (702 + 5 * n + 1) m) (702 + 5 * n + 2) to) (702 + 5 * n + 3) a) (702 + 5 * n + 4) b) 701 (n + 1)
def sunU (post : Int32 → Int32 → (Nat → Int32) → Prop) (t_towns : Nat → Int32) (l1 l2 l4 l5 r217 r232 at_ fa : Int32) : Prop := ∀ x244 : Int32, x244 = (702 + (5 * l1)) → (vp_in x244 2640 ∧ (∀ t_towns_253 : Nat → Int32, t_towns_253 = upd t_towns (Int32.toNatClampNeg x244) l2 → (∀ x264 : Int32, x264 = (x244 + 1) → (vp_in x264 2640 ∧ (∀ t_towns_264 : Nat → Int32, t_towns_264 = upd t_towns_253 (Int32.toNatClampNeg x264) l4 → (∀ x275 : Int32, x275 = (x244 + 2) → (vp_in x275 2640 ∧ (∀ t_towns_275 : Nat → Int32, t_towns_275 = upd t_towns_264 (Int32.toNatClampNeg x275) l5 → (∀ x286 : Int32, x286 = (x244 + 3) → (vp_in x286 2640 ∧ (∀ t_towns_286 : Nat → Int32, t_towns_286 = upd t_towns_275 (Int32.toNatClampNeg x286) r217 → (∀ x297 : Int32, x297 = (x244 + 4) → (vp_in x297 2640 ∧ (∀ t_towns_297 : Nat → Int32, t_towns_297 = upd t_towns_286 (Int32.toNatClampNeg x297) r232 → (vp_in 701 2640 ∧ (∀ x309 : Int32, x309 = ((t_towns_297 (Int32.toNatClampNeg 701)) + 1) → (vp_in 701 2640 ∧ (∀ t_towns_309 : Nat → Int32, t_towns_309 = upd t_towns_297 (Int32.toNatClampNeg 701) x309 → (post at_ fa t_towns_309)))))))))))))))))))
theorem suT_scr {T : Int → Int} (hT : i32 T) {n d m to a b : Int} (hn : 0 ≤ n ∧ n < 24) (hb : (0 ≤ d ∧ d < 10000) ∧ (0 ≤ m ∧ m < 10000) ∧ (0 ≤ to ∧ to < 10000) ∧ (0 ≤ a ∧ a < 10000) ∧ 0 ≤ b ∧ b < 10000) : scr T (suT T n d m to a b) := scr_up (scr_up (scr_up (scr_up (scr_up (scr_up ⟨hT, fun _ _ => rfl⟩ (by omega) (by omega)) (by omega) (by omega)) (by omega) (by omega)) (by omega) (by omega)) (by omega) (by omega)) (by omega) (by omega)
theorem p_sunU {P : Int32 → Int32 → (Nat → Int32) → Prop} {T : Int → Int} {n d m to a b : Int} (hn : 0 ≤ n ∧ n < 24) (e701 : T 701 = n) {at_ fa : Int32} (h : P at_ fa (zA (suT T n d m to a b))) : sunU P (zA T) (zi n) (zi d) (zi m) (zi to) (zi a) (zi b) at_ fa := by
  have g : upI (upI (upI (upI (upI T (702 + 5 * n) d) (702 + 5 * n + 1) m) (702 + 5 * n + 2) to) (702 + 5 * n + 3) a) (702 + 5 * n + 4) b 701 = n := by
    rw [upI_n (by omega), upI_n (by omega), upI_n (by omega), upI_n (by omega), upI_n (by omega), e701]
  rw [sunU]
  simp (disch := omega) only [forall_eq, zi_lit, zi_add, zi_sub, zi_mul, zi_neg, zi_lt, zi_le, zi_eq, zi_div, zi_rem, zi_in, zA_get, zA_upd]
  rw [g]
  exact ⟨by omega, by omega, by omega, by omega, by omega, by omega, by omega, h⟩
theorem p_sunR0 (hz : 0 ≤ tz ∧ tz ≤ 1000) (hf : flR tp tz (N + 1) so va pc) (hN : pos tp tz N = tz) (hN1 : N ≤ 1000) {i : Nat} (hi : i < N) {T S : Int → Int} (hT : i32 T) (hS : ∀ j, 0 ≤ j → j < 440 → S j = T (440 + j)) (hs : twR S) {P : Int32 → Int32 → (Nat → Int32) → Prop}
    (F : ∀ (k : Int) (j : Nat), k = 1 ∨ k = 3 ∨ k = 4 ∨ k = 5 → suK tp tz S i = (k, j) → ∀ a T', scr T T' → P a (zi (k + 16 * pos tp tz j)) (zA T'))
    (G : suK tp tz S i = smK tp tz (i + 1 + 1 + 1 + 1 + 1 + 1 + 1 + 1) → S 261 < 24 → i + 1 + 1 + 1 + 1 + 1 + 1 + 1 + 1 ≤ N → scr T (suT T (S 261) (tV tp tz (i + 1)) (tV tp tz (i + 1 + 1 + 1)) (tK tp tz (i + 1 + 1 + 1 + 1) - 22) (tV tp tz (i + 1 + 1 + 1 + 1 + 1)) (tV tp tz (i + 1 + 1 + 1 + 1 + 1 + 1 + 1))) → P (zi ((i + 1 + 1 + 1 + 1 + 1 + 1 + 1 + 1 : Nat) : Int)) 0 (zA (suT T (S 261) (tV tp tz (i + 1)) (tV tp tz (i + 1 + 1 + 1)) (tK tp tz (i + 1 + 1 + 1 + 1) - 22) (tV tp tz (i + 1 + 1 + 1 + 1 + 1)) (tV tp tz (i + 1 + 1 + 1 + 1 + 1 + 1 + 1))))) : wp_X12_readSun (zL va) (zA pc) (zA so) wd_30 (zi i) 0 (zA T) P := by
  have e261 := hS 261 (by omega) (by omega)
  have h24 := hs.2.2.1
  have e701 : zA T (Int32.toNatClampNeg 701) = zi (S 261) := by
    rw [zi_lit, zA_get (by omega), e261]; rfl
  have i701 : vp_in 701 2640 := by rw [zi_lit, zi_in (by omega)]; omega
  have sc0 : scr T T := ⟨hT, fun _ _ => rfl⟩
  have f195 : ∀ (k : Int) (j : Nat) (a l1 l2 l4 l5 : Int32), k = 1 ∨ k = 3 ∨ k = 4 ∨ k = 5 → suK tp tz S i = (k, j) → wp_X12_readSun_b195 (zL va) (zA pc) (zA so) wd_30 P a (zi (k + 16 * pos tp tz j)) (zA T) l1 l2 l4 l5 := fun k j a l1 l2 l4 l5 hk e => ⟨fun z => absurd z (flt_le hz hk j), fun _ => F k j hk e a T sc0⟩
  have f136 : ∀ (k : Int) (j : Nat) (a l1 l2 : Int32), k = 1 ∨ k = 3 ∨ k = 4 ∨ k = 5 → suK tp tz S i = (k, j) → wp_X12_readSun_b136 (zL va) (zA pc) (zA so) wd_30 P a (zi (k + 16 * pos tp tz j)) (zA T) l1 l2 := fun k j a l1 l2 hk e => p_numF (flt_ne hz hk j) (flt_le hz hk j) (p_dirF (flt_ne hz hk j) ⟨fun z => absurd z (by decide), fun _ => p_wrongF (flt_ne hz hk j) (f195 k j _ _ _ _ _ hk e)⟩)
  rw [wp_X12_readSun]
  refine ⟨i701, fun x8 e8 => ?_⟩
  rw [e701] at e8
  subst e8
  refine ⟨fun q => ?_, fun q => ?_⟩
  rotate_left
  · rw [zi_lit, zi_eq (by omega)] at q
    exact p_wrongR (k := 5) hf hz hN1 (by omega) (F 5 i (by omega) (by rw [suK, if_pos q]) _ T sc0)
  rw [zi_lit, zi_eq (by omega)] at q
  rw [suK, if_neg q] at F G f195 f136
  rw [forall_eq, zi_p1]
  refine p_numR (i := i + 1) (lo := 0) (hi' := 3) hz hf hN1 (by omega) (by omega) (fun n1 => ?_) (fun n1 => ?_)
  rotate_left
  · have rg := nS_rng (tp := tp) (tz := tz) (lo := 0) (hi := 3) (i := i + 1)
    rw [if_pos n1] at f136
    have hk : nS tp tz 0 3 (i + 1) = 1 ∨ nS tp tz 0 3 (i + 1) = 3 ∨ nS tp tz 0 3 (i + 1) = 4 ∨ nS tp tz 0 3 (i + 1) = 5 := by omega
    exact p_takeWordF (flt_ne hz hk _) (p_lastSunR (d := 0) hS hs (by omega) ⟨fun _ => f136 _ _ _ _ _ hk rfl, fun z => absurd z (flt_ne hz hk _)⟩)
  have i1 := nS_lt hN (by omega) n1
  have v1 := (nS_0 n1).2
  rw [if_neg (fun z => z n1)] at F G f195 f136
  have cr := cS_rng (tp := tp) (tz := tz) (q := 9) (lo := 0) (hi := 119) (i := i + 1 + 1)
  refine p_takeWordR (w := 8) (i := i + 1 + 1) hf hz hN1 (by omega) (by omega) (fun e2 => ?_) (fun e2 => ?_)
  rotate_left
  · have ec : cS tp tz 9 0 119 (i + 1 + 1) = (1, i + 1 + 1) := by rw [cS, if_pos (show tK tp tz (i + 1 + 1) ≠ 9 from e2)]
    rw [ec, if_pos (show (1 : Int) ≠ 0 by decide)] at f136
    exact p_lastSunR hS hs (by omega) ⟨fun _ => f136 _ _ _ _ _ (by omega) rfl, fun z => absurd z (flt_ne hz (by omega) _)⟩
  have e2' : tK tp tz (i + 1 + 1) = 9 := e2
  have i2 : i + 1 + 1 < N := tK_lt hN (by omega) (by omega)
  have ec : cS tp tz 9 0 119 (i + 1 + 1) = if nS tp tz 0 119 (i + 1 + 1 + 1) ≠ 0 then (nS tp tz 0 119 (i + 1 + 1 + 1), i + 1 + 1 + 1) else (0, i + 1 + 1 + 1 + 1) := by rw [cS, if_neg (fun z => z e2')]
  have lr := lstS_rng hs (d := tV tp tz (i + 1)) (S 261).toNat (by omega)
  have vr3 := tV_rng (tp := tp) (tz := tz) (i := i + 1 + 1 + 1)
  obtain ⟨⟨r1, r2, r3, r4, r5, r6, r7⟩, _⟩ := hf (i + 1 + 1 + 1) (by omega)
  have in3 : vp_in (zi ((i + 1 + 1 + 1 : Nat) : Int)) 1002 := lt_1002 (N := N) (by omega) hN1
  have c136 : nS tp tz 0 119 (i + 1 + 1 + 1) = 0 → lstS S (tV tp tz (i + 1)) (S 261).toNat < tV tp tz (i + 1 + 1 + 1) → wp_X12_readSun_b136 (zL va) (zA pc) (zA so) wd_30 P (zi ((i + 1 + 1 + 1 : Nat) : Int)) 0 (zA T) (zi (S 261)) (zi (tV tp tz (i + 1))) := by
    intro n3 hl
    have v3 := (nS_0 n3).2
    have i3 := nS_lt hN (by omega) n3
    have ec0 : cS tp tz 9 0 119 (i + 1 + 1) = (0, i + 1 + 1 + 1 + 1) := by rw [ec, if_neg (fun z => z n3)]
    rw [ec0, if_neg (fun z => absurd rfl z), if_neg (by omega)] at F G f195
    rw [wp_X12_readSun_b136]
    refine p_numR (i := i + 1 + 1 + 1) (lo := 0) (hi' := 119) hz hf hN1 (by omega) (by omega) (fun _ => ?_) (fun z => absurd n3 z)
    refine p_dirR (i := i + 1 + 1 + 1 + 1) hf hN1 (by omega) ?_
    have tr := tK_rng (tp := tp) (tz := tz) (i := i + 1 + 1 + 1 + 1)
    by_cases hd : tK tp tz (i + 1 + 1 + 1 + 1) < 22 ∨ 29 < tK tp tz (i + 1 + 1 + 1 + 1)
    · rw [if_pos hd] at f195
      rw [drS, if_pos hd]
      exact ⟨fun z => absurd z (by decide), fun _ => p_wrongR (k := 1) hf hz hN1 (by omega) (f195 _ _ _ _ _ _ _ (by omega) rfl)⟩
    rw [if_neg hd] at F G f195
    rw [drS, if_neg hd]
    have i4 : i + 1 + 1 + 1 + 1 < N := tK_lt hN (by omega) (by omega)
    refine ⟨fun _ => ?_, fun z => absurd ((zi_le (by omega)).mpr (by omega : (0 : Int) ≤ tK tp tz (i + 1 + 1 + 1 + 1) - 22)) z⟩
    rw [wp_X12_readSun_b195]
    refine ⟨fun _ => ?_, fun z => absurd (by decide) z⟩
    rw [forall_eq, zi_p1]
    have fin : ∀ (a fa : Int32) (v5 v7 : Int), (0 ≤ v5 ∧ v5 < 10000) → (0 ≤ v7 ∧ v7 < 10000) → P a fa (zA (suT T (S 261) (tV tp tz (i + 1)) (tV tp tz (i + 1 + 1 + 1)) (tK tp tz (i + 1 + 1 + 1 + 1) - 22) v5 v7)) → sunU P (zA T) (zi (S 261)) (zi (tV tp tz (i + 1))) (zi (tV tp tz (i + 1 + 1 + 1))) (zi (tK tp tz (i + 1 + 1 + 1 + 1) - 22)) (zi v5) (zi v7) a fa := fun a fa v5 v7 _ _ h => p_sunU (by omega) e261.symm h
    have sc : ∀ (v5 v7 : Int), (0 ≤ v5 ∧ v5 < 10000) → (0 ≤ v7 ∧ v7 < 10000) → scr T (suT T (S 261) (tV tp tz (i + 1)) (tV tp tz (i + 1 + 1 + 1)) (tK tp tz (i + 1 + 1 + 1 + 1) - 22) v5 v7) := fun v5 v7 h5 h7 => suT_scr hT (by omega) ⟨by omega, by omega, by omega, h5, h7⟩
    refine p_numR (i := i + 1 + 1 + 1 + 1 + 1) (lo := 1) (hi' := 99) hz hf hN1 (by omega) (by omega) (fun n5 => ?_) (fun n5 => ?_)
    rotate_left
    · have rg := nS_rng (tp := tp) (tz := tz) (lo := 1) (hi := 99) (i := i + 1 + 1 + 1 + 1 + 1)
      rw [if_pos n5] at F
      have hk : nS tp tz 1 99 (i + 1 + 1 + 1 + 1 + 1) = 1 ∨ nS tp tz 1 99 (i + 1 + 1 + 1 + 1 + 1) = 3 ∨ nS tp tz 1 99 (i + 1 + 1 + 1 + 1 + 1) = 4 ∨ nS tp tz 1 99 (i + 1 + 1 + 1 + 1 + 1) = 5 := by omega
      exact p_takeWordF (flt_ne hz hk _) (p_numF (flt_ne hz hk _) (flt_le hz hk _) (fin _ _ 0 0 (by omega) (by omega) (F _ _ hk rfl _ _ (sc 0 0 (by omega) (by omega)))))
    have i5 := nS_lt hN (by omega) n5
    have v5 := (nS_0 n5).2
    rw [if_neg (fun z => z n5)] at F G
    have cr := cS_rng (tp := tp) (tz := tz) (q := 10) (lo := 1) (hi := 99) (i := i + 1 + 1 + 1 + 1 + 1 + 1)
    refine p_takeWordR (w := 9) (i := i + 1 + 1 + 1 + 1 + 1 + 1) hf hz hN1 (by omega) (by omega) (fun e6 => ?_) (fun e6 => ?_)
    rotate_left
    · have e6c : cS tp tz 10 1 99 (i + 1 + 1 + 1 + 1 + 1 + 1) = (1, i + 1 + 1 + 1 + 1 + 1 + 1) := by rw [cS, if_pos (show tK tp tz (i + 1 + 1 + 1 + 1 + 1 + 1) ≠ 10 from e6)]
      rw [e6c, if_pos (show (1 : Int) ≠ 0 by decide)] at F
      exact p_numF (flt_ne hz (by omega) _) (flt_le hz (by omega) _) (fin _ _ _ 0 (by omega) (by omega) (F _ _ (by omega) rfl _ _ (sc _ 0 (by omega) (by omega))))
    have e6' : tK tp tz (i + 1 + 1 + 1 + 1 + 1 + 1) = 10 := e6
    have i6 : i + 1 + 1 + 1 + 1 + 1 + 1 < N := tK_lt hN (by omega) (by omega)
    have e6c : cS tp tz 10 1 99 (i + 1 + 1 + 1 + 1 + 1 + 1) = if nS tp tz 1 99 (i + 1 + 1 + 1 + 1 + 1 + 1 + 1) ≠ 0 then (nS tp tz 1 99 (i + 1 + 1 + 1 + 1 + 1 + 1 + 1), i + 1 + 1 + 1 + 1 + 1 + 1 + 1) else (0, i + 1 + 1 + 1 + 1 + 1 + 1 + 1 + 1) := by rw [cS, if_neg (fun z => z e6')]
    refine p_numR (i := i + 1 + 1 + 1 + 1 + 1 + 1 + 1) (lo := 1) (hi' := 99) hz hf hN1 (by omega) (by omega) (fun n7 => ?_) (fun n7 => ?_)
    rotate_left
    · have rg := nS_rng (tp := tp) (tz := tz) (lo := 1) (hi := 99) (i := i + 1 + 1 + 1 + 1 + 1 + 1 + 1)
      have e6d : cS tp tz 10 1 99 (i + 1 + 1 + 1 + 1 + 1 + 1) = (nS tp tz 1 99 (i + 1 + 1 + 1 + 1 + 1 + 1 + 1), i + 1 + 1 + 1 + 1 + 1 + 1 + 1) := by rw [e6c, if_pos n7]
      rw [e6d, if_pos (show (nS tp tz 1 99 (i + 1 + 1 + 1 + 1 + 1 + 1 + 1), i + 1 + 1 + 1 + 1 + 1 + 1 + 1).1 ≠ 0 from n7)] at F
      have hk : nS tp tz 1 99 (i + 1 + 1 + 1 + 1 + 1 + 1 + 1) = 1 ∨ nS tp tz 1 99 (i + 1 + 1 + 1 + 1 + 1 + 1 + 1) = 3 ∨ nS tp tz 1 99 (i + 1 + 1 + 1 + 1 + 1 + 1 + 1) = 4 ∨ nS tp tz 1 99 (i + 1 + 1 + 1 + 1 + 1 + 1 + 1) = 5 := by omega
      exact fin _ _ _ 0 (by omega) (by omega) (F _ _ hk rfl _ _ (sc _ 0 (by omega) (by omega)))
    have i7 := nS_lt hN (by omega) n7
    have v7 := (nS_0 n7).2
    have e6d : cS tp tz 10 1 99 (i + 1 + 1 + 1 + 1 + 1 + 1) = (0, i + 1 + 1 + 1 + 1 + 1 + 1 + 1 + 1) := by rw [e6c, if_neg (fun z => z n7)]
    rw [e6d, if_neg (fun z => absurd rfl z)] at G
    exact fin _ _ _ _ (by omega) (by omega) (G rfl (by omega) (by omega) (sc _ _ (by omega) (by omega)))
  refine p_lastSunR hS hs (by omega) ⟨fun z => absurd rfl z, fun _ => ?_⟩
  rw [zA_get (by omega), zL_get (by omega), zl_wide (by omega)]
  refine ⟨in3, fun z => ?_, fun z => ⟨in3, fun y => ?_, fun y => ?_⟩⟩
  · rw [zi_lit, zi_eq (by omega), r1] at z
    have n3 : nS tp tz 0 119 (i + 1 + 1 + 1) = 1 := by rw [nS, if_neg z]
    have ec1 : cS tp tz 9 0 119 (i + 1 + 1) = (1, i + 1 + 1 + 1) := by rw [ec, n3, if_pos (show (1 : Int) ≠ 0 by decide)]
    rw [ec1, if_pos (show (1 : Int) ≠ 0 by decide)] at f136
    rw [wp_X12_readSun_b136]
    refine p_numR (i := i + 1 + 1 + 1) (lo := 0) (hi' := 119) hz hf hN1 (by omega) (by omega) (fun z => by omega) (fun _ => ?_)
    rw [ec1, if_pos (show (1 : Int) ≠ 0 by decide)] at f195
    rw [n3]
    exact p_dirF (flt_ne hz (by omega) _) ⟨fun z => absurd z (by decide), fun _ => p_wrongF (flt_ne hz (by omega) _) (f195 _ _ _ _ _ _ _ (by omega) rfl)⟩
  · rw [zi_lit, zi_eq (by omega), r1] at z
    rw [r2 z, cmp_gt ⟨by omega, by omega⟩ ⟨by omega, by omega⟩] at y
    by_cases n3 : nS tp tz 0 119 (i + 1 + 1 + 1) = 0
    · exact c136 n3 (by omega)
    · have rg := nS_rng (tp := tp) (tz := tz) (lo := 0) (hi := 119) (i := i + 1 + 1 + 1)
      have hk : nS tp tz 0 119 (i + 1 + 1 + 1) = 1 ∨ nS tp tz 0 119 (i + 1 + 1 + 1) = 3 ∨ nS tp tz 0 119 (i + 1 + 1 + 1) = 4 ∨ nS tp tz 0 119 (i + 1 + 1 + 1) = 5 := by omega
      have ec1 : cS tp tz 9 0 119 (i + 1 + 1) = (nS tp tz 0 119 (i + 1 + 1 + 1), i + 1 + 1 + 1) := by rw [ec, if_pos n3]
      rw [ec1, if_pos (show (nS tp tz 0 119 (i + 1 + 1 + 1), i + 1 + 1 + 1).1 ≠ 0 from n3)] at f195
      rw [wp_X12_readSun_b136]
      refine p_numR (i := i + 1 + 1 + 1) (lo := 0) (hi' := 119) hz hf hN1 (by omega) (by omega) (fun z => absurd z n3) (fun _ => ?_)
      exact p_dirF (flt_ne hz hk _) ⟨fun z => absurd z (by decide), fun _ => p_wrongF (flt_ne hz hk _) (f195 _ _ _ _ _ _ _ hk rfl)⟩
  · rw [zi_lit, zi_eq (by omega), r1] at z
    rw [r2 z, cmp_gt ⟨by omega, by omega⟩ ⟨by omega, by omega⟩] at y
    have n3 : nS tp tz 0 119 (i + 1 + 1 + 1) = 0 := by rw [nS, if_pos z, if_neg (by omega)]
    have ec0 : cS tp tz 9 0 119 (i + 1 + 1) = (0, i + 1 + 1 + 1 + 1) := by rw [ec, if_neg (fun z => z n3)]
    rw [ec0, if_neg (fun z => absurd rfl z), if_pos (by omega)] at f136
    exact p_wrongR (k := 3) hf hz hN1 (by omega) (f136 _ _ _ _ _ (by omega) rfl)
theorem p_sunR (hz : 0 ≤ tz ∧ tz ≤ 1000) (hf : flR tp tz (N + 1) so va pc) (hN : pos tp tz N = tz) (hN1 : N ≤ 1000) {i : Nat} (hi : i < N) {T S : Int → Int} (hT : i32 T) (hS : ∀ j, 0 ≤ j → j < 440 → S j = T (440 + j)) (hs : twR S) {post : Int32 → Int32 → (Nat → Int32) → Prop}
    (g1 : (suK tp tz S i).1 ≠ 0 → ∀ a T', scr T T' → post a (zi ((suK tp tz S i).1 + 16 * pos tp tz (suK tp tz S i).2)) (zA T'))
    (g0 : (suK tp tz S i).1 = 0 → post (zi ((suK tp tz S i).2 : Int)) 0 (zA (suT T (S 261) (tV tp tz (i + 1)) (tV tp tz (i + 1 + 1 + 1)) (tK tp tz (i + 1 + 1 + 1 + 1) - 22) (tV tp tz (i + 1 + 1 + 1 + 1 + 1)) (tV tp tz (i + 1 + 1 + 1 + 1 + 1 + 1 + 1))))) : wp_X12_readSun (zL va) (zA pc) (zA so) wd_30 (zi i) 0 (zA T) (fun at_ fa towns => wp_X12_takeSign (zA so) (zL va) (zA pc) at_ fa 59 (fun at_ fa => post at_ fa towns)) := by
  refine p_sunR0 hz hf hN hN1 hi hT hS hs (fun k j hk e a T' sc => p_takeSignF (flt_ne hz hk j) ?_) (fun e q le sc => ?_)
  · rw [e] at g1
    exact g1 (show k ≠ 0 by omega) a T' sc
  · rw [e, smK] at g1 g0
    refine p_takeSignR (c := 59) hf hz hN1 le (by omega) (by decide) (fun z => ?_) (fun z => ?_)
    · rw [if_pos (show tK tp tz (i + 1 + 1 + 1 + 1 + 1 + 1 + 1 + 1) = 39 from z)] at g0
      exact g0 rfl
    · rw [if_neg (show ¬ tK tp tz (i + 1 + 1 + 1 + 1 + 1 + 1 + 1 + 1) = 39 from z)] at g1
      exact g1 (show (1 : Int) ≠ 0 by decide) _ _ sc
end SQ
