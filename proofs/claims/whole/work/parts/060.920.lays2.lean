/-! the reference's laysDay -/
theorem lnN_neg {tw : Int → Int} {d m m' : Int} (hm : m' ≤ m) : ∀ n : Nat, lnN tw d m n < 0 → lnN tw d m' n < 0
  | 0, _ => by simp [lnN]
  | n + 1, h => by
    simp only [lnN] at h ⊢
    by_cases hc : tw (262 + 5 * n) = d ∧ tw (263 + 5 * n) ≤ m
    · rw [if_pos hc] at h; omega
    · rw [if_neg hc] at h
      rw [if_neg (fun z => hc ⟨z.1, by omega⟩)]
      exact lnN_neg hm n h
section L2
variable {tw : Int → Int} {vf : Int → Int → Int → Int32} {op arg : Nat → Int32}
def lcd (tw : Int → Int) (d m : Int) : Int := if lnT tw d m < 0 then -1 else 262 + 5 * lnT tw d m
/-- the squares for a line -/
def syR (tw : Int → Int) (i : Int) (sy : Int → Int) (n : Int) : Prop := ∀ s, 0 ≤ s → s < n → ((sy s = 0 ∧ ((2 ≤ tw s ∧ tw s ≤ 3) ∨ bhP tw s i)) ∨ (sy s = 1 ∧ ¬ ((2 ≤ tw s ∧ tw s ≤ 3) ∨ bhP tw s i)))
/-- the minutes so far, without cloths -/
def daB (tw : Int → Int) (d : Int) (sn shA : Int → Int) (n : Int) : Prop := ∀ k, 0 ≤ k → k < n → ((sn k = 0 ∧ dimB tw d (k / 100) (k % 100)) ∨ (sn k = 1 ∧ ¬ dimB tw d (k / 100) (k % 100))) ∧ shA k = 0
theorem p_laysDay (h : twR tw) (hc : clR tw op arg vf) {d sd : Int} (hd : 0 ≤ d ∧ d < 4) (hsd : -1 ≤ sd ∧ sd < 4) {sn shA sy : Int → Int} (i1 : i32 sn) (i2 : i32 shA) (hold : 0 ≤ sd → dayR tw vf sd sn shA) {facts pile : Nat → Int32} (i3 : i32 sy) {post : Int32 → (Nat → Int32) → (Nat → Int32) → (Nat → Int32) → (Nat → Int32) → (Nat → Int32) → Prop} (hp : ∀ (sy' : Nat → Int32) (sn' shA' : Int → Int) (f p : Nat → Int32), i32 sn' → i32 shA' → dayR tw vf d sn' shA' → post (zi d) sy' (zA sn') (zA shA') f p) : wp_X12_laysDay (zA tw) op arg (zi sd) (zA sy) (zA sn) (zA shA) facts pile (zi d) post := by
  have h' := h
  obtain ⟨hi, t1, t2, t3, t4, t5⟩ := h'
  have e200 : zA tw (Int32.toNatClampNeg 200) = zi (tw 200) := zA_get (a := 200) (by omega)
  have v200 : vp_in 200 2640 := vp_zi (a := 200) (by omega) (by decide)
  simp only [wp_X12_laysDay]
  rw [zi_eq (by omega)]
  refine ⟨fun hne => ?_, fun he => ?_⟩
  case refine_2 =>
    subst he
    exact hp _ sn shA facts pile i1 i2 (hold hd.1)
  refine lp_inv (fun m st => ∃ (sy' sn' shA' : Int → Int) (l : Int), st = (zi d, zA sy', zA sn', zA shA', facts, pile, zi d, zi l, zi m) ∧ i32 sy' ∧ i32 sn' ∧ i32 shA' ∧ (l = -1 ∨ ∃ i, 0 ≤ i ∧ i < tw 261 ∧ l = 262 + 5 * i ∧ syR tw i sy' 100) ∧ (l ≠ -1 → 0 < (m : Int) ∧ lcd tw d (m - 1) = l) ∧ daB tw d sn' shA' (100 * m)) 120 ?_ ?_ 0 (Nat.zero_le _) ⟨sy, sn, shA, -1, rfl, i3, i1, i2, Or.inl rfl, fun z => absurd rfl z, fun k a b => by omega⟩
  · rintro st ⟨sy', sn', shA', l, rfl, j3, j1, j2, hl, hlm, hB⟩ kb
    simp (disch := omega) only [wp_X12_laysDay_L18, zi_lit, zi_le]
    refine ⟨fun _ => ?_, fun z => absurd (by decide) z⟩
    refine lp_inv (fun n st => ∃ (sn2 shA2 : Int → Int) (f p : Nat → Int32), st = (zi d, zA sy', zA sn2, zA shA2, f, p, zi d, zi n) ∧ i32 sn2 ∧ i32 shA2 ∧ dayQ tw vf d sn2 shA2 n 0) (tw 200).toNat ?_ ?_ 0 (Nat.zero_le _) ⟨sn', shA', facts, pile, rfl, j1, j2, fun k k0 k1 => ?_⟩
    · rintro st ⟨sn2, shA2, f, p, rfl, k1, k2, hQ⟩ kb2
      rw [show (((tw 200).toNat : Nat) : Int) = tw 200 by omega] at hQ ⊢
      simp only [wp_X12_laysDay_L159, zi_lit] at *
      rw [show zA tw (Int32.toNatClampNeg (zi 200)) = zi (tw 200) from e200, zi_le (by omega)]
      refine ⟨v200, fun _ => hp _ sn2 shA2 f p k1 k2 (fun k a b => ?_), fun z => by omega⟩
      have q := hQ k a b
      have e : ∀ what, clQ tw vf what d (k / 100) (k % 100) (tw 200) 0 ↔ clP tw vf what d (k / 100) (k % 100) (tw 200) := fun what => ⟨fun z => by rcases z with z | z; exact z; omega, fun z => Or.inl z⟩
      rw [e 3, e 4] at q
      have ed : (dimB tw d (k / 100) (k % 100) ∨ clP tw vf 3 d (k / 100) (k % 100) (tw 200)) ↔ dimP tw vf d (k / 100) (k % 100) := by
        constructor
        · rintro ((z | z | z) | z)
          · exact Or.inl z
          · exact Or.inr (Or.inl z)
          · exact Or.inr (Or.inr (Or.inr z))
          · exact Or.inr (Or.inr (Or.inl z))
        · rintro (z | z | z | z)
          · exact Or.inl (Or.inl z)
          · exact Or.inl (Or.inr (Or.inl z))
          · exact Or.inr z
          · exact Or.inl (Or.inr (Or.inr z))
      rw [ed] at q
      exact q
    · rintro n hn st ⟨sn2, shA2, f, p, rfl, k1, k2, hQ⟩ kb2 hkb2
      have hni : ((n + 1 : Nat) : Int) = (n : Int) + 1 := by omega
      simp only [wp_X12_laysDay_L159, zi_lit] at *
      rw [show zA tw (Int32.toNatClampNeg (zi 200)) = zi (tw 200) from e200, zi_le (by omega)]
      refine ⟨v200, fun z => by omega, fun _ => ?_⟩
      simp only [zi_mul, zi_add]
      refine p_laysCloth h hc hd (by omega) k1 k2 hQ (fun f' p' sn3 shA3 q1 q2 q3 => ?_)
      simp only [forall_eq]
      refine hkb2 _ ⟨sn3, shA3, f', p', by rw [hni], q1, q2, fun k a b => ?_⟩
      have q := q3 k a b
      rw [clQ_full (by omega) (by omega) (by omega), clQ_full (by omega) (by omega) (by omega)] at q
      rw [hni]
      exact q
    · have q := hB k k0 (by omega)
      have e : ∀ what, ¬ clQ tw vf what d (k / 100) (k % 100) ((0 : Nat) : Int) 0 := fun what z => by
        rcases z with ⟨i, a, b, _⟩ | z
        · omega
        · omega
      refine ⟨?_, Or.inr ⟨q.2, e 4⟩⟩
      rcases q.1 with z | z
      · exact Or.inl ⟨z.1, Or.inl z.2⟩
      · exact Or.inr ⟨z.1, fun y => by rcases y with y | y; exact z.2 y; exact e 3 y⟩
  · rintro m hm st ⟨sy', sn', shA', l, rfl, j3, j1, j2, hl, hlm, hB⟩ kb hkb
    have hni : ((m + 1 : Nat) : Int) = (m : Int) + 1 := by omega
    have lr := lnT_rng (d := d) (m := m) h
    have lrl : -1 ≤ l ∧ l < 500 := by
      rcases hl with z | ⟨i, a, b, c, _⟩
      · omega
      · omega
    simp (disch := omega) only [wp_X12_laysDay_L18, zi_lit, zi_le]
    refine ⟨fun z => by omega, fun _ => ?_⟩
    refine p_sunLine h hd (by omega) ?_
    rw [show (if lnT tw d m < 0 then -1 else 262 + 5 * lnT tw d m) = lcd tw d m from rfl]
    have hnow : lcd tw d m = -1 ∨ (0 ≤ lnT tw d m ∧ lcd tw d m = 262 + 5 * lnT tw d m) := by
      rw [lcd]; split
      · exact Or.inl rfl
      · exact Or.inr ⟨by omega, rfl⟩
    -- behind the squares: the rows of this minute
    have rest : ∀ sy2 : Int → Int, i32 sy2 → (lcd tw d m = -1 ∨ syR tw (lnT tw d m) sy2 100) → ∃ n, lp (wp_X12_laysDay_L98 (fun t_shadeDay t_sunny t_sun t_isShut t_facts t_pile l1 l2 l3 => ∀ y151 : Int32, y151 = l3 + zi 1 → (kb (t_shadeDay, t_sunny, t_sun, t_isShut, t_facts, t_pile, l1, l2, y151))) (zA tw) op arg post) n (zi d, zA sy2, zA sn', zA shA', facts, pile, zi d, zi (lcd tw d m), zi m, zi 0) := by
      intro sy2 js hsy
      refine lp_inv (fun s st => ∃ (sn2 shA2 : Int → Int), st = (zi d, zA sy2, zA sn2, zA shA2, facts, pile, zi d, zi (lcd tw d m), zi m, zi s) ∧ i32 sn2 ∧ i32 shA2 ∧ daB tw d sn2 shA2 (100 * m + s)) 100 ?_ ?_ 0 (Nat.zero_le _) ⟨sn', shA', rfl, j1, j2, by simpa using hB⟩
      · rintro st ⟨sn2, shA2, rfl, k1, k2, hB2⟩ kb2
        simp (disch := omega) only [wp_X12_laysDay_L98, zi_lit, zi_le, forall_eq, zi_add]
        refine ⟨fun _ => hkb _ ⟨sy2, sn2, shA2, lcd tw d m, by rw [hni], js, k1, k2, ?_, fun _ => ⟨by omega, by rw [hni, show (m : Int) + 1 - 1 = m by omega]⟩, ?_⟩, fun z => absurd (by decide) z⟩
        · rcases hnow with z | z
          · exact Or.inl z
          · refine Or.inr ⟨lnT tw d m, z.1, lr.2, z.2, ?_⟩
            rcases hsy with y | y
            · omega
            · exact y
        · rw [hni, show 100 * ((m : Int) + 1) = 100 * m + 100 by omega]; exact hB2
      · rintro s hs st ⟨sn2, shA2, rfl, k1, k2, hB2⟩ kb2 hkb2
        have hsi : ((s + 1 : Nat) : Int) = (s : Int) + 1 := by omega
        have lcr : -1 ≤ lcd tw d m ∧ lcd tw d m < 500 := by rcases hnow with z | z <;> omega
        have fin : ∀ v : Int, ((v = 0 ∧ dimB tw d m s) ∨ (v = 1 ∧ ¬ dimB tw d m s)) → wp_X12_laysDay_b131 (fun t_shadeDay t_sunny t_sun t_isShut t_facts t_pile l1 l2 l3 => ∀ y151 : Int32, y151 = l3 + zi 1 → (kb (t_shadeDay, t_sunny, t_sun, t_isShut, t_facts, t_pile, l1, l2, y151))) kb2 (zA tw) op arg post (zi d) (zA sy2) (zA sn2) (zA shA2) facts pile (zi d) (zi (lcd tw d m)) (zi m) (zi s) (zi v) (zi (100 * m + s)) := by
          intro v hv
          simp (disch := omega) only [wp_X12_laysDay_b131, forall_eq, zi_lit, vpn0, zi_mul, zi_add, zi_in, zA_upd]
          refine ⟨by omega, by omega, hkb2 _ ⟨_, _, by rw [hsi], i32_up k1 (by omega), i32_up k2 (by omega), fun k a b => ?_⟩⟩
          by_cases hk : k = 100 * m + s
          · subst hk
            rw [upI_s, upI_s, show (100 * (m : Int) + s) / 100 = m by omega, show (100 * (m : Int) + s) % 100 = s by omega]
            exact ⟨hv, rfl⟩
          · rw [upI_n hk, upI_n hk]; exact hB2 k a (by omega)
        simp (disch := omega) only [wp_X12_laysDay_L98, zi_lit, zi_le, zi_mul, zi_add, zi_in, zA_get]
        refine ⟨fun z => by omega, fun _ => ⟨fun z => ⟨by omega, fin _ ?_⟩, fun z => fin 0 (Or.inl ⟨rfl, Or.inl ?_⟩)⟩⟩
        · rcases hsy with y | y
          · omega
          · have hln : ¬ lnT tw d m < 0 := by rcases hnow with x | x <;> omega
            rcases y s (by omega) (by omega) with x | x
            · exact Or.inl ⟨x.1, Or.inr x.2⟩
            · exact Or.inr ⟨x.1, fun w => by rcases w with w | w; exact hln w; exact x.2 w⟩
        · rcases hnow with x | x
          · rw [lcd] at x
            by_cases q : lnT tw d m < 0
            · exact q
            · rw [if_neg q] at x; omega
          · omega
    by_cases hnl : lcd tw d m = l
    · -- the same line: nothing to do
      refine ⟨1, ?_⟩
      show wp_X12_laysDay_L35 _ _ _ _ _ _ _
      simp only [wp_X12_laysDay_L35, zi_lit]
      have rr := rest sy' j3 (by
        rcases hl with z | ⟨i, a, b, c, e⟩
        · exact Or.inl (by omega)
        · rcases hnow with y | y
          · exact Or.inl y
          · exact Or.inr (by rw [show lnT tw d m = i by omega]; exact e))
      refine ⟨fun _ => rr, fun _ => ⟨fun _ => rr, fun z => absurd (by rw [hnl]) z⟩⟩
    · have hpos : lcd tw d m ≠ -1 := by
        intro hz
        have hln : lnT tw d m < 0 := by
          rw [lcd] at hz
          by_cases q : lnT tw d m < 0
          · exact q
          · rw [if_neg q] at hz; omega
        have hl1 : l ≠ -1 := by omega
        have q := hlm hl1
        have := lnN_neg (tw := tw) (d := d) (m := (m : Int)) (m' := (m : Int) - 1) (by omega) (tw 261).toNat hln
        have q2 := q.2
        rw [lcd, if_pos (show lnT tw d ((m : Int) - 1) < 0 from this)] at q2
        omega
      have hn2 : 0 ≤ lnT tw d m ∧ lcd tw d m = 262 + 5 * lnT tw d m := hnow.resolve_left hpos
      refine lp_inv (fun s st => ∃ (sy2 : Int → Int), st = (zi d, zA sy2, zA sn', zA shA', facts, pile, zi d, zi l, zi m, zi (lcd tw d m), zi s) ∧ i32 sy2 ∧ syR tw (lnT tw d m) sy2 s) 100 ?_ ?_ 0 (Nat.zero_le _) ⟨sy', rfl, j3, fun s a b => by omega⟩
      · rintro st ⟨sy2, rfl, js, hsy⟩ kb2
        simp (disch := omega) only [wp_X12_laysDay_L35, zi_lit, zi_le]
        exact ⟨fun _ => rest sy2 js (Or.inr hsy), fun z => absurd (by decide) z⟩
      · rintro s hs st ⟨sy2, rfl, js, hsy⟩ kb2 hkb2
        have hsi : ((s + 1 : Nat) : Int) = (s : Int) + 1 := by omega
        have ts := t1 s (by omega) (by omega)
        have fin : ∀ v : Int, ((v = 0 ∧ ((2 ≤ tw s ∧ tw s ≤ 3) ∨ bhP tw s (lnT tw d m))) ∨ (v = 1 ∧ ¬ ((2 ≤ tw s ∧ tw s ≤ 3) ∨ bhP tw s (lnT tw d m)))) → kb2 (zi d, zA (upI sy2 s v), zA sn', zA shA', facts, pile, zi d, zi l, zi m, zi (lcd tw d m), zi ((s : Int) + 1)) := by
          intro v hv
          refine hkb2 _ ⟨_, by rw [hsi], i32_up js (by omega), fun s' a b => ?_⟩
          by_cases hk : s' = s
          · subst hk; rw [upI_s]; exact hv
          · rw [upI_n hk]; exact hsy s' a (by omega)
        simp (disch := omega) only [wp_X12_laysDay_L35, zi_lit, zi_le, zi_eq, zi_in, zA_get]
        refine ⟨fun z => by omega, fun _ => ⟨fun z => absurd z hnl, fun _ => ⟨by omega, ?_⟩⟩⟩
        refine p_within (by omega) (by omega) (by omega) (fun a => ⟨fun _ => ?_, fun z => absurd z (by decide)⟩) (fun a => ⟨fun z => absurd rfl z, fun _ => ?_⟩)
        · simp (disch := omega) only [forall_eq, zi_add, zi_in, zA_upd]
          exact ⟨by omega, fin 0 (Or.inl ⟨rfl, Or.inl a⟩)⟩
        · rw [hn2.2]
          refine p_isBehind h (by omega) (by omega) (fun b => ⟨fun z => absurd z (by decide), fun _ => ?_⟩) (fun b => ⟨fun _ => ?_, fun z => absurd rfl z⟩)
          · rw [← hn2.2]
            simp (disch := omega) only [forall_eq, zi_add, zi_in, zA_upd]
            exact ⟨by omega, fin 0 (Or.inl ⟨rfl, Or.inr b⟩)⟩
          · rw [← hn2.2]
            simp (disch := omega) only [forall_eq, zi_add, zi_in, zA_upd]
            exact ⟨by omega, fin 1 (Or.inr ⟨rfl, fun w => by rcases w with w | w; exact a w; exact b w⟩)⟩
end L2
