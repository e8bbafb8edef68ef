/-! the class's castShadows and build -/
section BU
variable {tw kd hg : Int → Int} {vf : Int → Int → Int → Int32} {pl : Pool} {suns : Nat → Option Nat}
/-- in the shade of something by a sun line -/
def shP (tw : Int → Int) (i s : Int) : Prop := ∃ q, 0 ≤ q ∧ q < 100 ∧ csP (tw (264 + 5 * i)) (tw (265 + 5 * i)) (tw (266 + 5 * i)) q (tw (100 + q)) s
theorem opp {t : Int} (ht : 0 ≤ t ∧ t < 8) : dxF ((t + 4) % 8) = - dxF t ∧ dyF ((t + 4) % 8) = - dyF t := by
  have : t = 0 ∨ t = 1 ∨ t = 2 ∨ t = 3 ∨ t = 4 ∨ t = 5 ∨ t = 6 ∨ t = 7 := by omega
  rcases this with rfl | rfl | rfl | rfl | rfl | rfl | rfl | rfl <;> decide
theorem shP_bhP (hT : twR tw) {i s : Int} (hi : 0 ≤ i ∧ i < tw 261) (hs : 0 ≤ s ∧ s < 100) : shP tw i s ↔ bhP tw s i := by
  have q := hT.2.2.2.1 i hi.1 hi.2
  obtain ⟨o1, o2⟩ := opp q.2.2.1
  obtain ⟨d1, d2⟩ := dxy_rng (tw (264 + 5 * i))
  have mulc : ∀ d k : Int, (d = -1 ∨ d = 0 ∨ d = 1) → -d * k = -(k * d) ∧ d * k = k * d := by
    intro d k hd; rcases hd with rfl | rfl | rfl <;> omega
  constructor
  · rintro ⟨u, u0, u1, k, k1, k2, k3, k4⟩
    refine ⟨k, k1, k2, ?_⟩
    rw [awy, o1, o2] at k4
    have m1 := mulc (dxF (tw (264 + 5 * i))) k d1
    have m2 := mulc (dyF (tw (264 + 5 * i))) k d2
    rw [m1.1, m2.1] at k4
    simp only [bhA]
    generalize k * dxF (tw (264 + 5 * i)) = x at *
    generalize k * dyF (tw (264 + 5 * i)) = y at *
    split at k4
    · have eu : 100 + 10 * (s / 10 + y) + (s % 10 + x) = 100 + u := by omega
      rw [eu]
      exact ⟨by omega, by omega, k3⟩
    · omega
  · rintro ⟨k, k1, k2, b1, b2, b3⟩
    have m1 := mulc (dxF (tw (264 + 5 * i))) k d1
    have m2 := mulc (dyF (tw (264 + 5 * i))) k d2
    refine ⟨10 * (s / 10 + k * dyF (tw (264 + 5 * i))) + (s % 10 + k * dxF (tw (264 + 5 * i))), by omega, by omega, k, k1, k2, ?_, ?_⟩
    · rw [show 100 + (10 * (s / 10 + k * dyF (tw (264 + 5 * i))) + (s % 10 + k * dxF (tw (264 + 5 * i)))) = 100 + 10 * (s / 10 + k * dyF (tw (264 + 5 * i))) + (s % 10 + k * dxF (tw (264 + 5 * i))) by omega]
      exact b3
    · rw [awy, o1, o2, m1.1, m2.1]
      generalize k * dxF (tw (264 + 5 * i)) = x at *
      generalize k * dyF (tw (264 + 5 * i)) = y at *
      rw [if_pos (by omega)]
      omega
theorem csP_pos {t a b q h s : Int} (ha : 1 ≤ a) (hh : ¬ 0 < h) (hb : 1 ≤ b) : ¬ csP t a b q h s := by
  rintro ⟨k, k1, k2, k3, _⟩
  have : h * b ≤ 0 := Int.mul_nonpos_of_nonpos_of_nonneg (by omega) (by omega)
  have : 0 < k * a := Int.mul_pos (by omega) (by omega)
  omega
theorem p_castShadows (hT : twR tw) (hK : kdR tw kd hg) (hs : suR pl tw suns) {cw0 : Nat → Int64} {post : (Nat → Int64) → Prop} (hp : ∀ cw : Nat → Int64, wR 48 cw (fun i s => i < tw 261 ∧ bhP tw s i) → post cw) : wp_X6_castShadows pl (zi (tw 261)) suns (zA hg) cw0 post := by
  have t1 := hT.2.1
  have t2 := hT.2.2.1
  have t3 := hT.2.2.2.1
  simp only [wp_X6_castShadows]
  refine p_empty (by decide) ?_
  refine lp_inv (fun i st => ∃ cw : Nat → Int64, st = (cw, zi i) ∧ ∀ r s, 0 ≤ r → 2 * r + 1 < ((48 : Nat) : Int) → 0 ≤ s → s < 128 → (hb cw r s = true ↔ r < (i : Int) ∧ shP tw r s)) (tw 261).toNat ?_ ?_ 0 (Nat.zero_le _) ⟨_, rfl, fun r s a b c d => ?_⟩
  · rintro st ⟨cw, rfl, hw⟩ kb
    simp only [wp_X6_castShadows_L9]
    rw [zi_le (by omega)]
    refine ⟨fun _ => hp cw (fun r s a b c d => ?_), fun z => by omega⟩
    rw [hw r s a b c d, show (((tw 261).toNat : Nat) : Int) = tw 261 by omega]
    constructor
    · rintro ⟨z1, z2⟩
      have s100 : s < 100 := by
        obtain ⟨u, u0, u1, k, _, _, _, k4⟩ := z2
        have := awy_rng (s := u) (t := (tw (264 + 5 * r) + 4) % 8) (k := k) ⟨u0, u1⟩
        omega
      exact ⟨s100, z1, (shP_bhP hT ⟨a, z1⟩ ⟨c, s100⟩).mp z2⟩
    · rintro ⟨z0, z1, z2⟩
      exact ⟨z1, (shP_bhP hT ⟨a, z1⟩ ⟨c, z0⟩).mpr z2⟩
  · rintro i hi st ⟨cw, rfl, hw⟩ kb hkb
    have hni : ((i + 1 : Nat) : Int) = (i : Int) + 1 := by omega
    have q := t3 i (by omega) (by omega)
    simp only [wp_X6_castShadows_L9]
    rw [zi_le (by omega)]
    refine ⟨fun z => by omega, fun _ => ?_⟩
    refine p_sun hs hT (by omega) (fun c hc => ?_)
    refine lp_inv (fun s st => ∃ cw' : Nat → Int64, st = (cw', zi i, some c, zi s) ∧ ∀ r s', 0 ≤ r → 2 * r + 1 < ((48 : Nat) : Int) → 0 ≤ s' → s' < 128 → (hb cw' r s' = true ↔ hb cw r s' = true ∨ (r = i ∧ ∃ u, 0 ≤ u ∧ u < (s : Int) ∧ csP (tw (264 + 5 * i)) (tw (265 + 5 * i)) (tw (266 + 5 * i)) u (tw (100 + u)) s'))) 100 ?_ ?_ 0 (Nat.zero_le _) ⟨cw, rfl, fun r s' _ _ _ _ => ⟨Or.inl, fun z => by rcases z with z | ⟨_, u, a, b, _⟩; exact z; omega⟩⟩
    · rintro st ⟨cw', rfl, hw'⟩ kb2
      simp (disch := omega) only [wp_X6_castShadows_L31, zi_lit, zi_le, forall_eq, zi_add]
      refine ⟨fun _ => hkb _ ⟨cw', by rw [hni], fun r s' a b c' d => ?_⟩, fun z => absurd (by decide) z⟩
      rw [hw' r s' a b c' d, hw r s' a b c' d, hni]
      constructor
      · rintro (⟨z1, z2⟩ | ⟨z1, u, u0, u1, u2⟩)
        · exact ⟨by omega, z2⟩
        · subst z1; exact ⟨by omega, u, u0, by omega, u2⟩
      · rintro ⟨z1, z2⟩
        by_cases hri : r = i
        · subst hri
          obtain ⟨u, u0, u1, u2⟩ := z2
          exact Or.inr ⟨rfl, u, u0, by omega, u2⟩
        · exact Or.inl ⟨by omega, z2⟩
    · rintro s hs' st ⟨cw', rfl, hw'⟩ kb2 hkb2
      have hsi : ((s + 1 : Nat) : Int) = (s : Int) + 1 := by omega
      have kh := (hK.2.2 s (by omega) (by omega)).2
      have hr := t1 s (by omega) (by omega)
      have fin : ∀ cw2 : Nat → Int64, (∀ r s', 0 ≤ r → 2 * r + 1 < ((48 : Nat) : Int) → 0 ≤ s' → s' < 128 → (hb cw2 r s' = true ↔ hb cw' r s' = true ∨ (r = i ∧ csP (tw (264 + 5 * i)) (tw (265 + 5 * i)) (tw (266 + 5 * i)) s (tw (100 + s)) s'))) → kb2 (cw2, zi i, some c, zi ((s : Int) + 1)) := by
        intro cw2 h2
        refine hkb2 _ ⟨cw2, by rw [hsi], fun r s' a b c' d => ?_⟩
        rw [h2 r s' a b c' d, hw' r s' a b c' d, hsi]
        constructor
        · rintro ((z | ⟨z, u, u0, u1, u2⟩) | ⟨z1, z2⟩)
          · exact Or.inl z
          · exact Or.inr ⟨z, u, u0, by omega, u2⟩
          · exact Or.inr ⟨z1, s, by omega, by omega, z2⟩
        · rintro (z | ⟨z, u, u0, u1, u2⟩)
          · exact Or.inl (Or.inl z)
          · by_cases hu : u = s
            · subst hu; exact Or.inr ⟨z, u2⟩
            · exact Or.inl (Or.inr ⟨z, u, u0, by omega, u2⟩)
      simp (disch := omega) only [wp_X6_castShadows_L31, zi_lit, zi_le, zi_in, zA_get]
      refine ⟨fun z => by omega, fun _ => ⟨fun z => absurd z (by simp), fun c' ec => ?_⟩⟩
      cases ec
      refine ⟨by omega, fun z => ?_, fun z => ⟨by omega, _, _, _, _, _, hc, ?_⟩⟩
      · simp only [forall_eq, zi_add]
        refine fin cw' (fun r s' a b c' d => ⟨Or.inl, fun y => by rcases y with y | ⟨_, y⟩; exact y; exact absurd y (csP_pos q.2.2.2.1.1 (by omega) q.2.2.2.2.1)⟩)
      · refine p_cast (by decide) q.2.2.1 q.2.2.2.1 q.2.2.2.2 (by omega) (by omega) (by omega) (fun w2 h2 => ?_)
        simp only [forall_eq, zi_add]
        rw [kh] at h2
        exact fin w2 h2
  · rw [hb_empty ⟨a, b⟩ ⟨c, d⟩]
    exact ⟨fun z => absurd z (by decide), fun z => by omega⟩
/-- what follows from the town -/
def skR (tw : Int → Int) (vf : Int → Int → Int → Int32) (rw' gw : Nat → Int64) (nt ln : Int → Int) (cw sw : Nat → Int64) : Prop := wR 2 gw (fun _ s => tw s ≠ 1) ∧ ntR nt tw ∧ i32 nt ∧ i32 ln ∧ (∀ d m, 0 ≤ d → d < 4 → 0 ≤ m → m < 120 → ln (120 * d + m) = lnT tw d m) ∧ wR 960 sw (fun r s => dimP tw vf (r / 120) (r % 120) s)
theorem p_build (hT : twR tw) (hK : kdR tw kd hg) (hs : suR pl tw suns) {aw : Nat → Int64} (hA : wR 960 aw (fun r s => clP tw vf 3 (r / 120) (r % 120) s (tw 200))) {rw0 gw0 cw0 sw0 : Nat → Int64} {t1 t2 : Nat → Int32} {post : (Nat → Int64) → (Nat → Int64) → (Nat → Int32) → (Nat → Int32) → (Nat → Int64) → (Nat → Int64) → Prop} (hp : ∀ (rw' gw : Nat → Int64) (nt ln : Int → Int) (cw sw : Nat → Int64), skR tw vf rw' gw nt ln cw sw → post rw' gw (zA nt) (zA ln) cw sw) : wp_X6_build pl (zi (tw 261)) (zA kd) suns (zA hg) aw rw0 gw0 t1 t2 cw0 sw0 post := by
  simp only [wp_X6_build]
  refine p_layGround hT hK (fun rw' gw nt r1 r2 r3 r4 => ?_)
  refine p_findLines hT hs (fun ln l1 l2 => ?_)
  refine p_castShadows hT hK hs (fun cw hcw => ?_)
  refine p_empty (by decide) ?_
  refine lp_inv (fun i st => ∃ sw : Nat → Int64, st = (rw', gw, zA nt, zA ln, cw, sw, zi i) ∧ ∀ r s, 0 ≤ r → 2 * r + 1 < ((960 : Nat) : Int) → 0 ≤ s → s < 128 → (hb sw r s = true ↔ r < (i : Int) ∧ s < 100 ∧ dimP tw vf (r / 120) (r % 120) s)) 480 ?_ ?_ 0 (Nat.zero_le _) ⟨_, rfl, fun r s a b c d => ?_⟩
  · rintro st ⟨sw, rfl, hw⟩ kb
    simp (disch := omega) only [wp_X6_build_L26, zi_lit, zi_le]
    refine ⟨fun _ => hp rw' gw nt ln cw sw ⟨r2, r3, r4, l1, l2, fun r s a b c d => ?_⟩, fun z => absurd (by decide) z⟩
    rw [hw r s a b c d]
    exact ⟨fun z => z.2, fun z => ⟨by omega, z⟩⟩
  · rintro i hi st ⟨sw, rfl, hw⟩ kb hkb
    have hni : ((i + 1 : Nat) : Int) = (i : Int) + 1 := by omega
    have li := l2 ((i : Int) / 120) ((i : Int) % 120) (by omega) (by omega) (by omega) (by omega)
    rw [show 120 * ((i : Int) / 120) + (i : Int) % 120 = i by omega] at li
    have lr := lnT_rng (d := (i : Int) / 120) (m := (i : Int) % 120) hT
    have t2' := hT.2.2.1
    have fin : ∀ sw2 : Nat → Int64, (∀ r s, 0 ≤ r → 2 * r + 1 < ((960 : Nat) : Int) → 0 ≤ s → s < 128 → (hb sw2 r s = true ↔ if r = i then s < 100 ∧ dimP tw vf (r / 120) (r % 120) s else hb sw r s = true)) → kb (rw', gw, zA nt, zA ln, cw, sw2, zi ((i : Int) + 1)) := by
      intro sw2 h2
      refine hkb _ ⟨sw2, by rw [hni], fun r s a b c d => ?_⟩
      rw [h2 r s a b c d, hni]
      by_cases hr : r = i
      · rw [if_pos hr]; exact ⟨fun z => ⟨by omega, z⟩, fun z => z.2⟩
      · rw [if_neg hr, hw r s a b c d]; exact ⟨fun z => ⟨by omega, z.2⟩, fun z => ⟨by omega, z.2⟩⟩
    simp (disch := omega) only [wp_X6_build_L26, zi_lit, zi_neg, zi_le, zi_in, zA_get, zi_eq, li]
    refine ⟨fun z => by omega, fun _ => ⟨by omega, fun z => ⟨by omega, ?_⟩, fun z => ?_⟩⟩
    · refine p_join (by decide) (by decide) (by omega) (by omega) (fun w1 h1 => ?_)
      refine p_join (r2 := 0) (by decide) (by decide) (by omega) (by omega) (fun w2 h2 => ?_)
      refine p_join (by decide) (by decide) (by omega) (by omega) (fun w3 h3 => ?_)
      simp only [forall_eq, zi_add]
      refine fin w3 (fun r s a b c d => ?_)
      rw [h3 r s a c d, h2 r s a c d, h1 r s a c d]
      by_cases hr : r = i
      · have hn0 : hb sw r s = false := by
          cases hx : hb sw r s with
          | false => rfl
          | true => have := (hw r s a b c d).mp hx; omega
        rw [if_pos hr, hn0, decide_eq_true hr, decide_eq_true (show 0 ≤ lnT tw ((i : Int) / 120) ((i : Int) % 120) ∧ 2 * lnT tw ((i : Int) / 120) ((i : Int) % 120) + 1 < ((48 : Nat) : Int) by omega), decide_eq_true (show (0 : Int) ≤ 0 ∧ 2 * (0 : Int) + 1 < ((2 : Nat) : Int) by decide), decide_eq_true (show 0 ≤ (i : Int) ∧ 2 * (i : Int) + 1 < ((960 : Nat) : Int) by omega)]
        simp only [Bool.false_or, Bool.true_and, Bool.or_eq_true]
        rw [hcw _ s (by omega) (by omega) c d, r1 0 s (by omega) (by omega) c d, hA i s (by omega) (by omega) c d, hr]
        constructor
        · rintro ((y | y) | y)
          · exact ⟨y.1, Or.inr (Or.inr (Or.inr y.2.2))⟩
          · exact ⟨y.1, Or.inr (Or.inl y.2)⟩
          · exact ⟨y.1, Or.inr (Or.inr (Or.inl y.2))⟩
        · rintro ⟨y0, y | y | y | y⟩
          · omega
          · exact Or.inl (Or.inr ⟨y0, y⟩)
          · exact Or.inr ⟨y0, y⟩
          · exact Or.inl (Or.inl ⟨y0, lr.2, y⟩)
      · rw [if_neg hr, decide_eq_false hr]
        simp
    · refine p_fillRow (by decide) (by omega) (fun w1 h1 => ?_)
      simp only [forall_eq, zi_add]
      refine fin w1 (fun r s a b c d => ?_)
      rw [h1 r s a c d]
      by_cases hr : r = i
      · rw [if_pos hr, if_pos hr, decide_eq_true_eq]
        exact ⟨fun y => ⟨y, Or.inl (by rw [hr]; omega)⟩, fun y => y.1⟩
      · rw [if_neg hr, if_neg hr]
  · rw [hb_empty ⟨a, b⟩ ⟨c, d⟩]
    exact ⟨fun z => absurd z (by decide), fun z => by omega⟩
end BU
