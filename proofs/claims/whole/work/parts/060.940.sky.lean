/-! the class's sky -/
/-- rows of squares say a property -/
def wR (n : Nat) (w : Nat → Int64) (P : Int → Int → Prop) : Prop := ∀ r s, 0 ≤ r → 2 * r + 1 < (n : Int) → 0 ≤ s → s < 128 → (hb w r s = true ↔ s < 100 ∧ P r s)
/-- squares that something on a square keeps in the shade -/
def csP (t a b q h s : Int) : Prop := ∃ k, 1 ≤ k ∧ k ≤ 9 ∧ k * a < h * b ∧ awy q ((t + 4) % 8) k = s
theorem zi_a7 {t : Int} (h : 0 ≤ t ∧ t < 2147483648) : zi t &&& 7 = zi (t % 8) := by
  rw [zi_nI h.1, pk_andN (by omega) 3 (by decide), nI_zi]
  congr 1
  omega
theorem p_cast {n : Nat} (hn : n < 100000 ∧ n % 2 = 0) {t a b r q h : Int} (ht : 0 ≤ t ∧ t < 8) (ha : 1 ≤ a ∧ a ≤ 99) (hb' : 1 ≤ b ∧ b ≤ 99) (hr : 0 ≤ r ∧ 2 * r + 1 < (n : Int)) (hq : 0 ≤ q ∧ q < 100) (hh : 0 ≤ h ∧ h ≤ 99) {w : Nat → Int64} {post : (Nat → Int64) → Prop} (hp : ∀ w' : Nat → Int64, (∀ r' s', 0 ≤ r' → 2 * r' + 1 < (n : Int) → 0 ≤ s' → s' < 128 → (hb w' r' s' = true ↔ hb w r' s' = true ∨ (r' = r ∧ csP t a b q h s'))) → post w') : wp_X7_cast n (zi t) (zi a) (zi b) w (zi r) (zi q) (zi h) post := by
  have hhb : 0 ≤ h * b ∧ h * b ≤ 99 * 99 := ⟨Int.mul_nonneg (by omega) (by omega), Int.mul_le_mul (by omega) (by omega) (by omega) (by omega)⟩
  simp only [wp_X7_cast, forall_eq, zi_lit, zi_add]
  rw [show zi (t + 4) &&& zi 7 = zi ((t + 4) % 8) from zi_a7 (by omega)]
  obtain ⟨e, he, hle⟩ := pk_least (fun i : Nat => h * b ≤ (1 + (i : Int)) * a ∨ 9 ≤ i) ⟨9, Or.inr (Nat.le_refl _)⟩
  have he9 : e ≤ 9 := Classical.byContradiction (fun z => hle 9 (by omega) (Or.inr (Nat.le_refl _)))
  have mono : ∀ i : Int, 1 + (e : Int) ≤ i → h * b ≤ (1 + (e : Int)) * a → h * b ≤ i * a := by
    intro i hi hx
    have : (1 + (e : Int)) * a ≤ i * a := Int.mul_le_mul_of_nonneg_right hi (by omega)
    omega
  refine lp_inv (fun i st => ∃ w' : Nat → Int64, st = (w', zi r, zi q, zi h, zi ((t + 4) % 8), zi (1 + i)) ∧ ∀ r' s', 0 ≤ r' → 2 * r' + 1 < (n : Int) → 0 ≤ s' → s' < 128 → (hb w' r' s' = true ↔ hb w r' s' = true ∨ (r' = r ∧ ∃ k, 1 ≤ k ∧ k < 1 + (i : Int) ∧ k * a < h * b ∧ awy q ((t + 4) % 8) k = s'))) e ?_ ?_ 0 (Nat.zero_le _) ⟨w, rfl, fun r' s' _ _ _ _ => ⟨Or.inl, fun z => by rcases z with z | ⟨_, k, k1, k2, _⟩; exact z; omega⟩⟩
  · rintro st ⟨w', rfl, hw⟩ kb
    have em : (1 + (e : Int)) * a ≤ 10 * 99 := Int.mul_le_mul (by omega) (by omega) (by omega) (by omega)
    have em0 : 0 ≤ (1 + (e : Int)) * a := Int.mul_nonneg (by omega) (by omega)
    have fin : post w' := by
      refine hp w' (fun r' s' a1 a2 a3 a4 => ?_)
      rw [hw r' s' a1 a2 a3 a4]
      constructor
      · rintro (z | ⟨z, k, k1, k2, k3⟩)
        · exact Or.inl z
        · exact Or.inr ⟨z, k, k1, by omega, k3⟩
      · rintro (z | ⟨z, k, k1, k2, k3⟩)
        · exact Or.inl z
        · refine Or.inr ⟨z, k, k1, ?_, k3⟩
          rcases he with x | x
          · refine Classical.byContradiction (fun y => ?_)
            have := mono k (by omega) x
            have := k3.1
            omega
          · omega
    simp only [wp_X7_cast_L14, zi_lit, zi_mul]
    rw [zi_le (by omega), zi_le (by omega)]
    refine ⟨fun _ => fin, fun z => ⟨fun _ => fin, fun y => ?_⟩⟩
    rcases he with x | x
    · omega
    · omega
  · rintro i hi st ⟨w', rfl, hw⟩ kb hkb
    have hni : 1 + ((i + 1 : Nat) : Int) = 1 + (i : Int) + 1 := by omega
    have nh := hle i hi
    have n1 : ¬ h * b ≤ (1 + (i : Int)) * a := fun z => nh (Or.inl z)
    have n2 : ¬ 9 ≤ i := fun z => nh (Or.inr z)
    have em : (1 + (i : Int)) * a ≤ 10 * 99 := Int.mul_le_mul (by omega) (by omega) (by omega) (by omega)
    have em0 : 0 ≤ (1 + (i : Int)) * a := Int.mul_nonneg (by omega) (by omega)
    simp only [wp_X7_cast_L14, zi_lit, zi_mul]
    rw [zi_le (by omega), zi_le (by omega)]
    refine ⟨fun z => by omega, fun _ => ⟨fun z => absurd z n1, fun _ => ?_⟩⟩
    refine p_away hq (by omega) (by omega) ?_
    have ar := awy_rng (s := q) (t := (t + 4) % 8) (k := 1 + i) hq
    have fin : ∀ w2 : Nat → Int64, (∀ r' s', 0 ≤ r' → 2 * r' + 1 < (n : Int) → 0 ≤ s' → s' < 128 → (hb w2 r' s' = true ↔ hb w' r' s' = true ∨ (r' = r ∧ awy q ((t + 4) % 8) (1 + i) = s'))) → kb (w2, zi r, zi q, zi h, zi ((t + 4) % 8), zi (1 + (i : Int) + 1)) := by
      intro w2 h2
      refine hkb _ ⟨w2, by rw [hni], fun r' s' a1 a2 a3 a4 => ?_⟩
      rw [h2 r' s' a1 a2 a3 a4, hw r' s' a1 a2 a3 a4]
      constructor
      · rintro ((z | ⟨z, k, k1, k2, k3⟩) | ⟨z1, z2⟩)
        · exact Or.inl z
        · exact Or.inr ⟨z, k, k1, by omega, k3⟩
        · exact Or.inr ⟨z1, 1 + i, by omega, by omega, by omega, z2⟩
      · rintro (z | ⟨z, k, k1, k2, k3, k4⟩)
        · exact Or.inl (Or.inl z)
        · by_cases hk : k = 1 + i
          · subst hk; exact Or.inr ⟨z, k4⟩
          · exact Or.inl (Or.inr ⟨z, k, k1, by omega, k3, k4⟩)
    rcases ar with z | z
    · rw [z, show zi (-1) = (-1 : Int32) from rfl]
      refine p_put_no ?_
      simp only [forall_eq, zi_add]
      refine fin w' (fun r' s' a1 a2 a3 a4 => ⟨Or.inl, fun y => by rcases y with y | ⟨_, y⟩; exact y; omega⟩)
    · refine p_put hn hr z ?_
      simp only [forall_eq, zi_add]
      refine fin _ (fun r' s' a1 a2 a3 a4 => ?_)
      rw [hb_p hr.1 (by omega) a1 ⟨a3, a4⟩]
      simp only [Bool.or_eq_true, decide_eq_true_eq]
      constructor
      · rintro (y | ⟨y1, y2⟩)
        · exact Or.inl y
        · exact Or.inr ⟨y1, y2.symm⟩
      · rintro (y | ⟨y1, y2⟩)
        · exact Or.inl y
        · exact Or.inr ⟨y1, y2.symm⟩
section SK
variable {tw kd hg : Int → Int} {vf : Int → Int → Int → Int32} {pl : Pool} {suns : Nat → Option Nat}
/-- the class's rows of a town beside the reference's -/
def kdR (tw kd hg : Int → Int) : Prop := i32 kd ∧ i32 hg ∧ ∀ s, 0 ≤ s → s < 100 → kd s = tw s ∧ hg s = tw (100 + s)
def suR (pl : Pool) (tw : Int → Int) (suns : Nat → Option Nat) : Prop := ∀ i, 0 ≤ i → i < tw 261 → ∃ q, suns i.toNat = some q ∧ (q, ob 7 [.int (zi (tw (262 + 5 * i))), .int (zi (tw (263 + 5 * i))), .int (zi (tw (264 + 5 * i))), .int (zi (tw (265 + 5 * i))), .int (zi (tw (266 + 5 * i)))]) ∈ pl
theorem p_isOpen (h : kdR tw kd hg) {s : Int} (hs : -2147483648 ≤ s ∧ s < 2147483648) {post : Int32 → Prop} (h1 : (0 ≤ s ∧ s < 100) ∧ tw s ≠ 1 → post 1) (h0 : ¬ ((0 ≤ s ∧ s < 100) ∧ tw s ≠ 1) → post 0) : wp_X8_isOpen (zA kd) (zi s) post := by
  simp only [wp_X8_isOpen]
  refine p_isSquare hs (fun a => ⟨fun z => absurd z (by decide), fun _ => ?_⟩) (fun a => ⟨fun _ => h0 (fun z => a z.1), fun z => absurd rfl z⟩)
  have k := (h.2.2 s a.1 a.2).1
  have ki := h.1 s
  simp (disch := omega) only [zi_lit, zi_in, zA_get, zi_eq]
  refine ⟨by omega, fun z => h0 (fun y => y.2 (by omega)), fun z => h1 ⟨a, by omega⟩⟩
theorem p_isBare (h : kdR tw kd hg) {s : Int} (hs : -2147483648 ≤ s ∧ s < 2147483648) {post : Int32 → Prop} (h1 : (0 ≤ s ∧ s < 100) ∧ tw s = 0 → post 1) (h0 : ¬ ((0 ≤ s ∧ s < 100) ∧ tw s = 0) → post 0) : wp_X8_isBare (zA kd) (zi s) post := by
  simp only [wp_X8_isBare]
  refine p_isSquare hs (fun a => ⟨fun z => absurd z (by decide), fun _ => ?_⟩) (fun a => ⟨fun _ => h0 (fun z => a z.1), fun z => absurd rfl z⟩)
  have k := (h.2.2 s a.1 a.2).1
  have ki := h.1 s
  simp (disch := omega) only [zi_lit, zi_in, zA_get, zi_eq]
  refine ⟨by omega, fun z => h0 (fun y => z (by omega)), fun z => h1 ⟨a, by omega⟩⟩
theorem p_layGround (hT : twR tw) (h : kdR tw kd hg) {rw0 gw0 : Nat → Int64} {t1 : Nat → Int32} {post : (Nat → Int64) → (Nat → Int64) → (Nat → Int32) → Prop} (hp : ∀ (rw' gw' : Nat → Int64) (nt : Int → Int), wR 2 rw' (fun _ s => 2 ≤ tw s ∧ tw s ≤ 3) → wR 2 gw' (fun _ s => tw s ≠ 1) → ntR nt tw → i32 nt → post rw' gw' (zA nt)) : wp_X6_layGround (zA kd) rw0 gw0 t1 post := by
  have k1 := hT.2.1
  simp only [wp_X6_layGround]
  refine p_empty (by decide) (p_empty (by decide) ?_)
  obtain ⟨nt0, rfl, in0⟩ := zA_ex t1
  refine lp_inv (fun i st => ∃ (rw' gw' : Nat → Int64) (nt : Int → Int), st = (rw', gw', zA nt, zi i) ∧ i32 nt ∧ (∀ s, 0 ≤ s → s < 128 → (hb rw' 0 s = true ↔ s < (i : Int) ∧ 2 ≤ tw s ∧ tw s ≤ 3)) ∧ (∀ s, 0 ≤ s → s < 128 → (hb gw' 0 s = true ↔ s < (i : Int) ∧ tw s ≠ 1)) ∧ (∀ s w, 0 ≤ s → s < (i : Int) → 0 ≤ w → w < 4 → nt (4 * s + w) = (if stp s w = -1 ∨ tw (stp s w) = 1 then -1 else stp s w))) 100 ?_ ?_ 0 (Nat.zero_le _) ⟨_, _, nt0, rfl, in0, fun s a b => ?_, fun s a b => ?_, fun s w a b => by omega⟩
  · rintro st ⟨rw', gw', nt, rfl, j1, j2, j3, j4⟩ kb
    simp (disch := omega) only [wp_X6_layGround_L16, zi_lit, zi_le]
    refine ⟨fun _ => hp rw' gw' nt (fun r s a b c d => ?_) (fun r s a b c d => ?_) j4 j1, fun z => absurd (by decide) z⟩
    · rw [show r = 0 by omega]; exact j2 s c d
    · rw [show r = 0 by omega]; exact j3 s c d
  · rintro i hi st ⟨rw', gw', nt, rfl, j1, j2, j3, j4⟩ kb hkb
    have hni : ((i + 1 : Nat) : Int) = (i : Int) + 1 := by omega
    have ks := k1 i (by omega) (by omega)
    have inner : ∀ rw2 gw2 : Nat → Int64, (∀ s, 0 ≤ s → s < 128 → (hb rw2 0 s = true ↔ s < (i : Int) + 1 ∧ 2 ≤ tw s ∧ tw s ≤ 3)) → (∀ s, 0 ≤ s → s < 128 → (hb gw2 0 s = true ↔ s < (i : Int) + 1 ∧ tw s ≠ 1)) → ∃ n, lp (wp_X6_layGround_L64 (fun t_roofs_words t_ground_words t_next l1 => ∀ y110 : Int32, y110 = l1 + zi 1 → (kb (t_roofs_words, t_ground_words, t_next, y110))) (zA kd) post) n (rw2, gw2, zA nt, zi i, zi 0) := by
      intro rw2 gw2 q1 q2
      refine lp_inv (fun w st => ∃ (nt' : Int → Int), st = (rw2, gw2, zA nt', zi i, zi w) ∧ i32 nt' ∧ (∀ s w', 0 ≤ s → s < (i : Int) → 0 ≤ w' → w' < 4 → nt' (4 * s + w') = (if stp s w' = -1 ∨ tw (stp s w') = 1 then -1 else stp s w')) ∧ (∀ w', 0 ≤ w' → w' < (w : Int) → nt' (4 * i + w') = (if stp i w' = -1 ∨ tw (stp i w') = 1 then -1 else stp i w'))) 4 ?_ ?_ 0 (Nat.zero_le _) ⟨nt, rfl, j1, j4, fun w' a b => by omega⟩
      · rintro st ⟨nt', rfl, m1, m2, m3⟩ kb2
        simp (disch := omega) only [wp_X6_layGround_L64, zi_lit, zi_le, forall_eq, zi_add]
        refine ⟨fun _ => hkb _ ⟨rw2, gw2, nt', by rw [hni], m1, by rw [hni]; exact q1, by rw [hni]; exact q2, fun s w a b c d => ?_⟩, fun z => absurd (by decide) z⟩
        by_cases hs : s = i
        · subst hs; exact m3 w c (by omega)
        · exact m2 s w a (by omega) c d
      · rintro w hw st ⟨nt', rfl, m1, m2, m3⟩ kb2 hkb2
        have hwi : ((w + 1 : Nat) : Int) = (w : Int) + 1 := by omega
        have sr := stp_rng (s := (i : Int)) (w := w) (by omega)
        simp (disch := omega) only [wp_X6_layGround_L64, zi_lit, zi_le]
        refine ⟨fun z => by omega, fun _ => ?_⟩
        simp only [zi_mul]
        refine p_away (by omega) (by omega) (by omega) ?_
        rw [awy_stp (by omega)]
        have fin : ∀ v : Int, v = (if stp i w = -1 ∨ tw (stp i w) = 1 then -1 else stp i w) → kb2 (rw2, gw2, zA (upI nt' (4 * (i : Int) + w) v), zi i, zi ((w : Int) + 1)) := by
          intro v hv
          refine hkb2 _ ⟨_, by rw [hwi], i32_up m1 (by rw [hv]; split <;> omega), fun s w' a b c d => ?_, fun w' a b => ?_⟩
          · rw [upI_n (by omega)]; exact m2 s w' a b c d
          · by_cases hww : w' = w
            · subst hww; rw [upI_s]; exact hv
            · rw [upI_n (by omega)]; exact m3 w' a (by omega)
        refine p_isOpen h (by omega) (fun a => ⟨fun z => absurd z (by decide), fun _ => ?_⟩) (fun a => ⟨fun _ => ?_, fun z => absurd rfl z⟩)
        · simp (disch := omega) only [forall_eq, zi_mul, zi_add, zi_in, zA_upd]
          refine ⟨by omega, fin _ ?_⟩
          rw [if_neg (by intro y; rcases y with y | y; omega; exact a.2 y)]
        · simp (disch := omega) only [forall_eq, zi_mul, zi_add, zi_neg, zi_in, zA_upd]
          refine ⟨by omega, fin _ ?_⟩
          by_cases y : stp i w = -1 ∨ tw (stp i w) = 1
          · rw [if_pos y]
          · exfalso
            apply a
            refine ⟨?_, fun x => y (Or.inr x)⟩
            rcases sr with x | x
            · exact absurd (Or.inl x) y
            · exact x
    simp (disch := omega) only [wp_X6_layGround_L16, zi_lit, zi_le]
    refine ⟨fun z => by omega, fun _ => ?_⟩
    refine p_isOpen h (by omega) (fun a => ⟨fun z => absurd z (by decide), fun _ => ?_⟩) (fun a => ⟨fun _ => ?_, fun z => absurd rfl z⟩)
    · refine p_put (r := 0) (by decide) (by omega) (by omega) ?_
      have g2 : ∀ s, 0 ≤ s → s < 128 → (hb (hbp gw' 0 i) 0 s = true ↔ s < (i : Int) + 1 ∧ tw s ≠ 1) := by
        intro s c d
        rw [hb_p (by omega) (by omega) (by omega) ⟨c, d⟩]
        simp only [Bool.or_eq_true, decide_eq_true_eq, j3 s c d, true_and]
        constructor
        · rintro (z | z)
          · exact ⟨by omega, z.2⟩
          · subst z; exact ⟨by omega, a.2⟩
        · rintro ⟨z1, z2⟩
          by_cases hs : s = i
          · exact Or.inr hs
          · exact Or.inl ⟨by omega, z2⟩
      refine p_isBare h (by omega) (fun b => ⟨fun _ => ?_, fun z => absurd z (by decide)⟩) (fun b => ⟨fun z => absurd rfl z, fun _ => ?_⟩)
      · refine inner rw' _ (fun s c d => ?_) g2
        rw [j2 s c d]
        constructor
        · rintro ⟨z1, z2⟩; exact ⟨by omega, z2⟩
        · rintro ⟨z1, z2, z3⟩
          refine ⟨Classical.byContradiction (fun y => ?_), z2, z3⟩
          have : s = i := by omega
          subst this
          omega
      · refine p_put (r := 0) (by decide) (by omega) (by omega) ?_
        refine inner _ _ (fun s c d => ?_) g2
        rw [hb_p (by omega) (by omega) (by omega) ⟨c, d⟩]
        simp only [Bool.or_eq_true, decide_eq_true_eq, j2 s c d, true_and]
        have nb : tw i ≠ 0 := fun z => b ⟨a.1, z⟩
        have na := a.2
        constructor
        · rintro (z | z)
          · exact ⟨by omega, z.2⟩
          · subst z; exact ⟨by omega, by omega, by omega⟩
        · rintro ⟨z1, z2⟩
          by_cases hs : s = i
          · exact Or.inr hs
          · exact Or.inl ⟨by omega, z2⟩
    · have k1' : tw i = 1 := Classical.byContradiction (fun y => a ⟨by omega, y⟩)
      refine inner rw' gw' (fun s c d => ?_) (fun s c d => ?_)
      · rw [j2 s c d]
        constructor
        · rintro ⟨z1, z2⟩; exact ⟨by omega, z2⟩
        · rintro ⟨z1, z2, z3⟩
          refine ⟨Classical.byContradiction (fun y => ?_), z2, z3⟩
          have : s = i := by omega
          subst this
          omega
      · rw [j3 s c d]
        constructor
        · rintro ⟨z1, z2⟩; exact ⟨by omega, z2⟩
        · rintro ⟨z1, z2⟩
          refine ⟨Classical.byContradiction (fun y => ?_), z2⟩
          have : s = i := by omega
          subst this
          exact z2 k1'
  · rw [hb_empty (by omega) ⟨a, b⟩]
    exact ⟨fun z => absurd z (by decide), fun z => by omega⟩
  · rw [hb_empty (by omega) ⟨a, b⟩]
    exact ⟨fun z => absurd z (by decide), fun z => by omega⟩
theorem p_sun (hs : suR pl tw suns) (hT : twR tw) {i : Int} (hi : 0 ≤ i ∧ i < tw 261) {post : Option Nat → Prop} (h : ∀ q, (q, ob 7 [.int (zi (tw (262 + 5 * i))), .int (zi (tw (263 + 5 * i))), .int (zi (tw (264 + 5 * i))), .int (zi (tw (265 + 5 * i))), .int (zi (tw (266 + 5 * i)))]) ∈ pl → post (some q)) : wp_X8_sun (zi (tw 261)) suns (zi i) post := by
  have t2 := hT.2.2.1
  obtain ⟨q, e, hq⟩ := hs i hi.1 hi.2
  simp (disch := omega) only [wp_X8_sun, nI_zi 24, zi_lit, zi_lt, zi_le, zi_in, zi_cl, forall_eq]
  refine ⟨fun z => by omega, fun _ => ⟨fun z => by omega, fun _ => ⟨fun _ => ⟨by omega, by rw [e]; exact h q hq⟩, fun z => absurd (show i < ((24 : Nat) : Int) by omega) z⟩⟩⟩
theorem p_isTime {d m : Int} (hd : -2147483648 ≤ d ∧ d < 2147483648) (hm : -2147483648 ≤ m ∧ m < 2147483648) {post : Int32 → Prop} (h1 : (0 ≤ d ∧ d < 4) ∧ (0 ≤ m ∧ m < 120) → post 1) (h0 : ¬ ((0 ≤ d ∧ d < 4) ∧ (0 ≤ m ∧ m < 120)) → post 0) : wp_X11_isTime (zi d) (zi m) post := by
  simp only [wp_X11_isTime, wp_X11_isDay]
  simp (disch := omega) only [zi_lit, zi_lt, zi_le]
  refine ⟨fun z => ⟨fun _ => h0 (by omega), fun y => absurd trivial y⟩, fun z => ⟨fun y => ⟨fun _ => h0 (by omega), fun x => absurd trivial x⟩, fun y => ⟨fun x => absurd x (by decide), fun _ => ?_⟩⟩⟩
  exact p_isMinute hm (fun a => ⟨fun x => absurd x (by decide), fun _ => h1 ⟨by omega, a⟩⟩) (fun a => ⟨fun _ => h0 (fun x => a x.2), fun x => absurd rfl x⟩)
theorem p_findLines (hT : twR tw) (hs : suR pl tw suns) {t1 : Nat → Int32} {post : (Nat → Int32) → Prop} (hp : ∀ ln : Int → Int, i32 ln → (∀ d m, 0 ≤ d → d < 4 → 0 ≤ m → m < 120 → ln (120 * d + m) = lnT tw d m) → post (zA ln)) : wp_X6_findLines pl (zi (tw 261)) suns t1 post := by
  have t2 := hT.2.2.1
  have t3 := hT.2.2.2.1
  obtain ⟨l0, rfl, i0⟩ := zA_ex t1
  simp only [wp_X6_findLines]
  rw [show (-1 : Int32) = zi (-1) from rfl]
  refine p_fillI (by decide) ?_
  have fl : ∀ (f : Int → Int) (a b v : Int), i32 f → (-2147483648 ≤ v ∧ v < 2147483648) → i32 (flA f a b v) := by
    intro f a b v hf hv k
    rw [flA]; split
    · exact hv
    · exact hf k
  refine lp_inv (fun i st => ∃ ln : Int → Int, st = (zA ln, zi i) ∧ i32 ln ∧ (∀ d m, 0 ≤ d → d < 4 → 0 ≤ m → m < 120 → ln (120 * d + m) = lnN tw d m i)) (tw 261).toNat ?_ ?_ 0 (Nat.zero_le _) ⟨_, rfl, fl _ _ _ _ i0 (by omega), fun d m a b c e => ?_⟩
  · rintro st ⟨ln, rfl, j1, j2⟩ kb
    simp only [wp_X6_findLines_L10]
    rw [zi_le (by omega)]
    exact ⟨fun _ => hp ln j1 j2, fun z => by omega⟩
  · rintro i hi st ⟨ln, rfl, j1, j2⟩ kb hkb
    have hni : ((i + 1 : Nat) : Int) = (i : Int) + 1 := by omega
    have q := t3 i (by omega) (by omega)
    simp only [wp_X6_findLines_L10]
    rw [zi_le (by omega)]
    refine ⟨fun z => by omega, fun _ => ?_⟩
    refine p_sun hs hT (by omega) (fun c hc => ⟨fun z => absurd z (by simp), fun c' ec => ?_⟩)
    cases ec
    refine ⟨_, _, _, _, _, hc, ?_⟩
    refine p_isTime (by omega) (by omega) (fun a => ⟨fun z => absurd z (by decide), fun _ => ?_⟩) (fun a => absurd ⟨q.1, q.2.1⟩ a)
    refine p_row ?_
    rw [show (120 : Int32) = zi 120 from rfl]
    refine p_row ?_
    refine p_fill3 (by decide) (by omega) ?_
    simp only [forall_eq, zi_lit, zi_add]
    refine hkb _ ⟨_, by rw [hni], fl _ _ _ _ j1 (by omega), fun d m a b c e => ?_⟩
    simp only [lnN]
    by_cases hc2 : tw (262 + 5 * i) = d ∧ tw (263 + 5 * i) ≤ m
    · rw [if_pos hc2, flA_in (by omega)]
    · rw [if_neg hc2, flA_out (by omega)]; exact j2 d m a b c e
  · rw [flA_in (by omega)]; rfl
end SK
