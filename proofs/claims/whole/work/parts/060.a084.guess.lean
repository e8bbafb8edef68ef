/-! guessed: both sides -/
theorem comb_l (t P R y : Int) : t * (0 * y * (P * 10) + (10 - t) * P * R) + (10 - t) * (1 * y * (P * 10) + (10 - t) * P * R) = (10 - t) * (P * 10) * (R + y) := by
  have h1 : (10 - t) * (y * (P * 10)) = 10 * ((10 - t) * P * y) := by ac_rfl
  have h2 : (10 - t) * (P * 10) * R = 10 * ((10 - t) * P * R) := by ac_rfl
  have h4 : (10 - t) * (P * 10) * y = 10 * ((10 - t) * P * y) := by ac_rfl
  rw [Int.zero_mul, Int.zero_mul, Int.zero_add, Int.one_mul, Int.mul_add, Int.mul_add, h1, h2, h4]
  generalize (10 - t) * P * y = Y
  generalize (10 - t) * P * R = Z
  rw [Int.sub_mul]
  omega
section GT
variable {tw shA sn : Int → Int} {op arg : Nat → Int32} {p to en fi ten : Int}
theorem p_gTab (hp : 1 ≤ p ∧ p ≤ 3) (hi : i32 tw) (hs2 : i32 shA) (hsn : ∀ k, 0 ≤ k → k < 12000 → 0 ≤ sn k ∧ sn k ≤ 1) (hto : 0 ≤ to ∧ to < 100) (hten : 0 ≤ ten ∧ ten ≤ 10) (hen : en ≤ 119 ∧ en ≤ fi + 12) (hfi : 0 ≤ fi ∧ fi ≤ en) {L E : Int → Int} (hL : ∀ k, 0 ≤ k → k < 12000 → Bst (nxT tw shA p) (csT sn p) 5 to en k (L k) (E k)) {wk : Int} (hw : 0 ≤ wk ∧ wk < 6) (hpw : p = tw (383 + 7 * wk)) {th sd l4 l8 : Int32} {sy f pp : Nat → Int32} {lk0 : Nat → Int64} {X : Int32 → Int32 → (Nat → Int32) → (Nat → Int32) → (Nat → Int32) → (Nat → Int32) → (Nat → Int32) → (Nat → Int64) → Int32 → Int32 → Int32 → Int32 → Prop} {post : Int64 → Int32 → Int32 → (Nat → Int32) → (Nat → Int32) → (Nat → Int32) → (Nat → Int32) → (Nat → Int32) → (Nat → Int64) → Prop}
    (h : ∀ lk : Int → Int, (∀ s', 0 ≤ s' → s' < 100 → tw s' ≠ 1 → lk s' = lkV L en ten fi s') → X th sd sy (zA sn) (zA shA) f pp (zL lk) (zi fi) l4 l8 (zi en)) :
    ∃ n, lp (wp_X12_guessed_L105 X (zA tw) op arg post) n (th, sd, sy, zA sn, zA shA, f, pp, lk0, zi wk, zi fi, l4, zi to, zi ten, l8, zi en, zi en) := by
  have hcB : cB sn := fun k a b => by have := hsn k a b; omega
  have G : Gok (nxT tw shA p) (csT sn p) 5 := Gok_T hp hcB
  have Lto : ∀ m, 0 ≤ m → m ≤ en → L (100 * m + to) = 0 := by
    intro m a b
    exact (Bst_uni (hL (100 * m + to) (by omega) (by omega)) (Bst_at G (by omega) (by omega) (by omega) (by omega))).1
  have Len : ∀ s, 0 ≤ s → s < 100 → s ≠ to → ¬ L (100 * en + s) < 1000000 := by
    intro s a b c z
    obtain ⟨ws, k', q1, q2, q3, q4⟩ := (hL (100 * en + s) (by omega) (by omega)).1 z
    have := pt_rng G ws _ k' _ (by omega) (by omega) q1
    omega
  have h1c : ∀ k w, 0 ≤ k → k < 12000 → 0 ≤ w → w < 5 → 0 ≤ nxT tw shA p k w → csT sn p k w ≤ nxT tw shA p k w / 100 - k / 100 := by
    intro k w a b _ _ e
    have o := nxT_ok hp a b e
    have hl := plen_rng (w := w) hp
    have := csm_1 (c := sn) (m := k / 100) (s := k % 100) (by omega) (by omega) hsn (plen w p).toNat (by omega)
    simp only [csT, cst]
    omega
  have Lb : ∀ k, 0 ≤ k → k < 12000 → L k < 1000000 → 0 ≤ L k ∧ L k ≤ en - k / 100 := by
    intro k a b z
    obtain ⟨ws, k', q1, q2, q3, q4⟩ := (hL k a b).1 z
    have := pt_one h1c G ws k k' _ a b q1
    have := pt_rng G ws k k' _ a b q1
    omega
  have Ls : ∀ m s, 0 ≤ m → m < en → 0 ≤ s → s < 100 → s ≠ to → L (100 * m + s) < 1000000 → sn (100 * m + s) ≤ L (100 * m + s) ∧ (m + 1 = en → L (100 * m + s) = sn (100 * m + s)) := by
    intro m s a b c d e z
    obtain ⟨w, w0, w1, w2, w3, w4, w5⟩ := Bst_one (M := E) G (show 0 ≤ 100 * m + s by omega) (by omega) (by omega) (hL _ (by omega) (by omega)) z (fun w _ _ x => hL _ x (nxT_ok hp (by omega) (by omega) x).1)
    have o := nxT_ok hp (show 0 ≤ 100 * m + s by omega) (by omega) w2
    have hl := plen_rng (w := w) hp
    have l := Lb _ w2 o.1 w4
    have ch : csT sn p (100 * m + s) w = sn (100 * m + s) + csm sn (m + 1) s ((plen w p).toNat - 1) := by
      simp only [csT, cst]
      rw [show (100 * m + s) / 100 = m by omega, show (100 * m + s) % 100 = s by omega, show (plen w p).toNat = (plen w p).toNat - 1 + 1 by omega, csm_head]
      rfl
    have cn := csm_rng (c := sn) (m := m + 1) (s := s) hcB (by omega) ⟨c, d⟩ ((plen w p).toNat - 1) (by omega)
    refine ⟨by omega, fun y => ?_⟩
    have e0 : (plen w p).toNat - 1 = 0 := by omega
    rw [e0] at ch
    simp only [csm] at ch
    omega
  obtain ⟨lk, rfl⟩ := zL_ex lk0
  refine lp_inv (fun i st => ∃ lk : Int → Int, st = (th, sd, sy, zA sn, zA shA, f, pp, zL lk, zi wk, zi fi, l4, zi to, zi ten, l8, zi en, zi (en - i)) ∧ ∀ m' s', en - (i : Int) < m' → m' ≤ en → 0 ≤ s' → s' < 100 → tw s' ≠ 1 → lk (100 * (m' - fi) + s') = lkV L en ten m' s') (en - fi + 1).toNat ?_ ?_ 0 (Nat.zero_le _) ⟨lk, by simp, fun m' s' a b => by omega⟩
  · rintro st ⟨lk, rfl, hk⟩ kb
    simp only [wp_X12_guessed_L105]
    rw [zi_lt (by omega)]
    refine ⟨fun _ => h lk (fun s' a b c => ?_), fun z => absurd (by omega) z⟩
    have := hk fi s' (by omega) (by omega) a b c
    rwa [show 100 * (fi - fi) + s' = s' by omega] at this
  · rintro i hi2 st ⟨lk, rfl, hk⟩ kb hkb
    generalize hmg : en - (i : Int) = m at *
    have hm : fi ≤ m ∧ m ≤ en := by omega
    simp only [wp_X12_guessed_L105]
    rw [zi_lt (by omega)]
    refine ⟨fun z => by omega, fun _ => ?_⟩
    refine lp_inv (fun j st => ∃ lk' : Int → Int, st = (th, sd, sy, zA sn, zA shA, f, pp, zL lk', zi wk, zi fi, l4, zi to, zi ten, l8, zi en, zi m, zi j) ∧ (∀ m' s', m < m' → m' ≤ en → 0 ≤ s' → s' < 100 → tw s' ≠ 1 → lk' (100 * (m' - fi) + s') = lkV L en ten m' s') ∧ ∀ s', 0 ≤ s' → s' < (j : Int) → tw s' ≠ 1 → lk' (100 * (m - fi) + s') = lkV L en ten m s') 100 ?_ ?_ 0 (Nat.zero_le _) ⟨lk, rfl, hk, fun s' a b => by omega⟩
    · rintro st ⟨lk', rfl, hk1, hk2⟩ kb2
      simp (disch := omega) only [wp_X12_guessed_L114, zi_lit, zi_le, forall_eq, zi_neg, zi_add]
      refine ⟨fun _ => hkb _ ⟨lk', by rw [show en - ((i + 1 : Nat) : Int) = m + -1 by omega], fun m' s' a b c d e => ?_⟩, fun z => absurd (by decide) z⟩
      by_cases hmm : m' = m
      · rw [hmm]; exact hk2 s' c (by omega) e
      · exact hk1 m' s' (by omega) b c d e
    · rintro s hs st ⟨lk', rfl, hk1, hk2⟩ kb2 hkb2
      have hns : ((s + 1 : Nat) : Int) = (s : Int) + 1 := by omega
      have ts := hi s
      have next : ∀ v, (tw s ≠ 1 → v = lkV L en ten m s) → kb2 (th, sd, sy, zA sn, zA shA, f, pp, zL (upI lk' (100 * (m - fi) + s) v), zi wk, zi fi, l4, zi to, zi ten, l8, zi en, zi m, zi ((s : Int) + 1)) := by
        intro v hv
        refine hkb2 _ ⟨_, by rw [hns], fun m' s' a b c d e => ?_, fun s' a b c => ?_⟩
        · rw [upI_n (by omega)]; exact hk1 m' s' a b c d e
        · by_cases e : s' = s
          · rw [e, upI_s]; exact hv (by rw [← e]; exact c)
          · rw [upI_n (by omega)]; exact hk2 s' a (by omega) c
      have N0 : (1000000000000000 : Int64) = zl 1000000000000000 := rfl
      simp (disch := omega) only [wp_X12_guessed_L114, zi_lit, zi_le, zi_eq, forall_eq, zi_sub, zi_mul, zi_add]
      refine ⟨fun z => by omega, fun _ => ⟨fun hst => ?_, fun hst => ?_⟩⟩
      · simp only [wp_X12_guessed_b153]
        rw [N0, zL_upd (by omega)]
        simp (disch := omega) only [zi_lit, zi_eq, zi_le, forall_eq, zi_add, zi_in, zA_get]
        refine ⟨by omega, fun z => absurd z hst, fun _ => ⟨fun z => ?_, fun z => ⟨by omega, fun y => next _ (fun x => absurd y x), fun y => ?_⟩⟩⟩
        · refine next _ (fun x => ?_)
          rw [lkV, if_neg (by rw [show m = en by omega]; exact Len s (by omega) (by omega) hst)]
        · have hlk2 : ∀ m' s', m < m' → m' ≤ en → 0 ≤ s' → s' < 100 → tw s' ≠ 1 → upI lk' (100 * (m - fi) + s) 1000000000000000 (100 * (m' - fi) + s') = lkV L en ten m' s' := fun m' s' a b c d e => by rw [upI_n (by omega)]; exact hk1 m' s' a b c d e
          refine p_walkerOf (i := 0) hw (by omega) ?_
          rw [show 383 + 7 * wk + 0 = 383 + 7 * wk by omega, ← hpw]
          refine p_likelyBy (c := 1) hp hi hs2 hsn hto hten hen hL (by omega) (by omega) hst hlk2 (by omega) ?_
          refine p_walkerOf (i := 0) hw (by omega) ?_
          rw [show 383 + 7 * wk + 0 = 383 + 7 * wk by omega, ← hpw]
          refine p_likelyBy (c := 0) hp hi hs2 hsn hto hten hen hL (by omega) (by omega) hst hlk2 (by omega) ?_
          have sk := hsn (100 * m + s) (by omega) (by omega)
          by_cases hl : L (100 * m + s) < 1000000
          · have lb := Lb _ (by omega) (by omega) hl
            have ls := Ls m s (by omega) (by omega) (by omega) (by omega) hst hl
            rw [if_pos hl, if_pos hl]
            have hU : 0 ≤ (10 - ten) * p10 (en - m - 2) ∧ (10 - ten) * p10 (en - m - 2) ≤ 10 * 1000000000000 := ⟨Int.mul_nonneg (by omega) (Int.le_of_lt (p10_pos _)), Int.mul_le_mul (by omega) (p10_le (by omega)) (Int.le_of_lt (p10_pos _)) (by omega)⟩
            have hUR : 0 ≤ (10 - ten) * p10 (en - m - 2) * (L (100 * m + s) - sn (100 * m + s)) ∧ (10 - ten) * p10 (en - m - 2) * (L (100 * m + s) - sn (100 * m + s)) ≤ 10 * 1000000000000 * 12 := ⟨Int.mul_nonneg hU.1 (by omega), Int.mul_le_mul hU.2 (by omega) (by omega) (by omega)⟩
            have hA : 0 ≤ 1 * sn (100 * m + s) * p10 (en - m - 1) ∧ 1 * sn (100 * m + s) * p10 (en - m - 1) ≤ 1 * 1000000000000 := ⟨Int.mul_nonneg (by omega) (Int.le_of_lt (p10_pos _)), Int.mul_le_mul (by omega) (p10_le (by omega)) (Int.le_of_lt (p10_pos _)) (by omega)⟩
            rw [cmp_ltz (by simp only [i64]; omega) (by decide)]
            refine ⟨fun _ => ⟨by omega, ?_⟩, fun x => absurd (by omega) x⟩
            rw [zl_wide (by omega), zl_lit, zl_mul, zl_sub, zl_mul, zl_add, zL_upd (by omega), upI_twice]
            refine next _ (fun _ => ?_)
            rw [lkV, if_pos hl]
            by_cases he : m + 1 = en
            · rw [ls.2 he, p10_0 (show en - m - 1 ≤ 0 by omega), p10_0 (show en - m - 2 ≤ 0 by omega)]
              simp
            · have e10 : p10 (en - m - 1) = p10 (en - m - 2) * 10 := by
                rw [show en - m - 1 = en - m - 2 + 1 by omega, p10_s (by omega)]
              rw [e10, comb_l]
              congr 1
              omega
          · rw [if_neg hl, if_neg hl, cmp_ltz (a := 1000000000000000) (b := 1000000000000000) (by decide) (by decide)]
            refine ⟨fun x => absurd x (by decide), fun _ => ⟨by omega, ?_⟩⟩
            rw [zL_upd (by omega), upI_twice]
            refine next _ (fun _ => ?_)
            rw [lkV, if_neg hl]
      · simp only [wp_X12_guessed_b153]
        rw [show (0 : Int64) = zl 0 from rfl, zL_upd (by omega)]
        simp (disch := omega) only [zi_lit, zi_eq, zi_le, forall_eq, zi_add, zi_in, zA_get]
        refine ⟨by omega, fun _ => next _ (fun _ => ?_), fun z => absurd hst z⟩
        rw [lkV, hst, Lto m (by omega) (by omega), if_pos (by decide)]
        simp
end GT
def gsE (m t : Int) : Int := if m + t < 119 then m + t else 119
theorem gsE_rng {m t : Int} (hm : 0 ≤ m ∧ m < 120) (ht : 1 ≤ t ∧ t ≤ 12) : m ≤ gsE m t ∧ gsE m t ≤ 119 ∧ gsE m t ≤ m + 12 := by
  rw [gsE]; split <;> omega
noncomputable def gsG (a : Int) : Int := ((Nat.gcd a.toNat 10 : Nat) : Int)
noncomputable def gsO (tw : Int → Int) (vf : Int → Int → Int → Int32) (wk d m fr to ten t w : Int) : Option Int := @ite (Option Int) (tripP tw wk d m fr to ∧ (0 ≤ ten ∧ ten ≤ 10) ∧ (1 ≤ t ∧ t ≤ 12) ∧ (0 ≤ w ∧ w ≤ 1) ∧ lsC tw vf d (tw (383 + 7 * wk)) to (gsE m t) (100 * m + fr) < 1000000) (Classical.propDecidable _) (some (if w = 0 then (lsC tw vf d (tw (383 + 7 * wk)) to (gsE m t) (100 * m + fr) * (10 - ten)) / gsG (lsC tw vf d (tw (383 + 7 * wk)) to (gsE m t) (100 * m + fr) * (10 - ten)) else 10 / gsG (lsC tw vf d (tw (383 + 7 * wk)) to (gsE m t) (100 * m + fr) * (10 - ten)))) none
section GR
variable {pl : Pool} {tw : Int → Int} {vf : Int → Int → Int → Int32} {sl : Int} {kd hg : Int → Int} {wks suns : Nat → Option Nat} {shw : Nat → Int64} {ex nt : Int → Int} {ww sw gw : Nat → Int64} {op arg : Nat → Int32}
theorem p_gEnd {up dn : Nat} (hu : up < 9223372036854775808) (hd : dn < 9223372036854775808) (hd0 : 0 < dn) {w : Int} (hw : 0 ≤ w ∧ w ≤ 1) {a : Nat} (e1 : up / Nat.gcd up dn = a / Nat.gcd a 10) (e2 : dn / Nat.gcd up dn = 10 / Nat.gcd a 10) {post : Int64 → Prop} (h : post (zl (if w = 0 then (a : Int) / gsG a else 10 / gsG a))) : wp_X12_common (zl up) (zl dn) (fun r => (¬ zi w = 0 → (¬ r = 0 ∧ post (zl dn / r))) ∧ (zi w = 0 → (¬ r = 0 ∧ post (zl up / r)))) := by
  have g0 : 0 < Nat.gcd up dn := Nat.gcd_pos_of_pos_right _ hd0
  have gle : Nat.gcd up dn ≤ dn := Nat.gcd_le_right _ hd0
  refine p_common hu hd ?_
  have ne : ¬ zl ((Nat.gcd up dn : Nat) : Int) = 0 := by
    rw [show (0 : Int64) = zl 0 from rfl, zl_eq (by simp only [i64]; omega) (by decide)]
    omega
  rw [zl_div hu g0 (by omega), zl_div hd g0 (by omega), e1, e2, show (zi w = 0) = (zi w = zi 0) from rfl, zi_eq (by omega)]
  have eg : gsG (a : Int) = ((Nat.gcd a 10 : Nat) : Int) := by rw [gsG, Int.toNat_natCast]
  rw [eg] at h
  refine ⟨fun z => ⟨ne, ?_⟩, fun z => ⟨ne, ?_⟩⟩
  · rw [if_neg z] at h; exact h
  · rw [if_pos z] at h; exact h
theorem p_guessR (hT : twR tw) (hW : wkOk tw) (hC : clR tw op arg vf) {sd : Int} {sy sn shA : Int → Int} (hD : dayI tw vf sd sy sn shA) {wk d m fr to ten t w : Int} (a1 : ir wk) (a2 : ir d) (a3 : ir m) (a4 : ir fr) (a5 : ir to) (a6 : ir ten) (a7 : ir t) (a8 : ir w) {th : Int32} {facts pile : Nat → Int32} {lk0 : Nat → Int64} {post : Int64 → Int32 → Int32 → (Nat → Int32) → (Nat → Int32) → (Nat → Int32) → (Nat → Int32) → (Nat → Int32) → (Nat → Int64) → Prop}
    (h1 : ∀ v, gsO tw vf wk d m fr to ten t w = some v → ∀ (sd' : Int) (sy' sn' shA' : Int → Int) (f p : Nat → Int32) (lk : Nat → Int64), dayI tw vf sd' sy' sn' shA' → post (zl v) 0 (zi sd') (zA sy') (zA sn') (zA shA') f p lk)
    (h0 : gsO tw vf wk d m fr to ten t w = none → ∀ (sd' : Int) (sy' sn' shA' : Int → Int) (f p : Nat → Int32) (lk : Nat → Int64), dayI tw vf sd' sy' sn' shA' → post 0 1 (zi sd') (zA sy') (zA sn') (zA shA') f p lk) :
    wp_X12_guessed (zA tw) op arg th (zi sd) (zA sy) (zA sn) (zA shA) facts pile lk0 (zi wk) (zi d) (zi m) (zi fr) (zi to) (zi ten) (zi t) (zi w) post := by
  have no : gsO tw vf wk d m fr to ten t w = none → wp_X12_guessed_b50 (zA tw) op arg post th (zi sd) (zA sy) (zA sn) (zA shA) facts pile lk0 (zi wk) (zi d) (zi m) (zi fr) (zi to) (zi ten) (zi t) (zi w) := by
    intro z
    simp only [wp_X12_guessed_b50, wp_X12_guessed_b51, wp_X12_guessed_b64]
    exact ⟨fun _ => ⟨fun y => absurd y (by decide), fun _ => h0 z _ _ _ _ _ _ _ hD⟩, fun y => absurd trivial y⟩
  simp only [wp_X12_guessed]
  refine p_isTrip hT.1 a1 a2 a3 a4 a5 (fun tr => ⟨fun z => absurd z (by decide), fun _ => ?_⟩) (fun tr => ⟨fun _ => no (by rw [gsO, if_neg (fun y => tr y.1)]), fun z => absurd rfl z⟩)
  rw [show (10 : Int32) = zi 10 from rfl, show (12 : Int32) = zi 12 from rfl, show (1 : Int32) = zi 1 from rfl, show (0 : Int32) = zi 0 from rfl]
  refine p_within a6 (by omega) (by omega) (fun q1 => ⟨fun z => absurd z (by decide), fun _ => ?_⟩) (fun q1 => ⟨fun _ => no (by rw [gsO, if_neg (fun y => q1 y.2.1)]), fun z => absurd rfl z⟩)
  refine p_within a7 (by omega) (by omega) (fun q2 => ⟨fun z => absurd z (by decide), fun _ => ?_⟩) (fun q2 => ⟨fun _ => no (by rw [gsO, if_neg (fun y => q2 y.2.2.1)]), fun z => absurd rfl z⟩)
  refine p_within a8 (by omega) (by omega) (fun q3 => ⟨fun z => absurd z (by decide), fun _ => ?_⟩) (fun q3 => ⟨fun _ => no (by rw [gsO, if_neg (fun y => q3 y.2.2.2.1)]), fun z => absurd rfl z⟩)
  simp only [wp_X12_guessed_b51, wp_X12_guessed_b64]
  refine ⟨fun z => absurd z (by decide), fun _ => ⟨fun _ => ?_, fun z => absurd (by decide) z⟩⟩
  obtain ⟨t1', t2', t3', t4', t5'⟩ := tr
  have tr : tripP tw wk d m fr to := ⟨t1', t2', t3', t4', t5'⟩
  have wo := hW wk t1'.1.1 t1'.1.2 t1'.2
  have er := gsE_rng t3' q2
  refine p_laysDay hT hC t2' hD.1 hD.2.2.1 hD.2.2.2.1 hD.2.2.2.2 hD.2.1 (fun sy' sn' shA' f p i1 i2 dr => ?_)
  obtain ⟨syf, rfl, i3⟩ := zA_ex sy'
  have hD' : dayI tw vf d syf sn' shA' := ⟨by omega, i3, i1, i2, fun _ => dr⟩
  have hsn : ∀ k, 0 ≤ k → k < 12000 → 0 ≤ sn' k ∧ sn' k ≤ 1 := fun k a b => by
    rw [(dayR_C dr a b).1]
    have := snC_01 tw vf d k
    omega
  have hcB : cB sn' := fun k a b => by have := hsn k a b; omega
  have G : Gok (nxT tw shA' (tw (383 + 7 * wk))) (csT sn' (tw (383 + 7 * wk))) 5 := Gok_T wo.1 hcB
  have hL : ∀ k, 0 ≤ k → k < 12000 → Bst (nxT tw shA' (tw (383 + 7 * wk))) (csT sn' (tw (383 + 7 * wk))) 5 to (gsE m t) k (bC (nxT tw shA' (tw (383 + 7 * wk))) (csT sn' (tw (383 + 7 * wk))) 5 to (gsE m t) k).1 (bC (nxT tw shA' (tw (383 + 7 * wk))) (csT sn' (tw (383 + 7 * wk))) 5 to (gsE m t) k).2 := fun k a b => bC_ok G a b
  have eL := lsC_eq (tw := tw) (vf := vf) (d := d) (to := to) (bym := gsE m t) wo.1 (fun k a b => (dayR_C dr a b).2) hcB (fun k a b => (dayR_C dr a b).1) (k := 100 * m + fr) (by omega) (by omega) (hL _ (by omega) (by omega))
  have tab := p_gTab (op := op) (arg := arg) (sd := zi d) (sy := zA syf) (f := f) (pp := p) (l4 := zi fr) (l8 := zi w) (lk0 := lk0) (th := 0) (ten := ten) (X := fun t_thrown t_shadeDay t_sunny t_sun t_isShut t_facts t_pile t_likely l3 l4 l8 l10 => vp_in l4 1300 ∧ (∀ x281 : Int64, x281 = (t_likely (Int32.toNatClampNeg l4)) → ((0 ≤ (lg_cmp x281 1000000000000000) → (wp_X12_guessed_b298 (zA tw) op arg post t_thrown t_shadeDay t_sunny t_sun t_isShut t_facts t_pile t_likely l3 l8 l10 x281 1)) ∧ (¬ 0 ≤ (lg_cmp x281 1000000000000000) → (wp_X12_guessed_b298 (zA tw) op arg post t_thrown t_shadeDay t_sunny t_sun t_isShut t_facts t_pile t_likely l3 l8 l10 x281 0))))) (post := post) wo.1 hT.1 i2 hsn t5'.1 q1 ⟨er.2.1, er.2.2⟩ ⟨t3'.1, er.1⟩ hL t1'.1 rfl (fun lk hlk => ?_)
  case refine_1 =>
    refine ⟨vp_zi (by omega) (by decide), ?_⟩
    rw [zL_get (by omega), hlk fr t4'.1.1 t4'.1.2 t4'.2]
    simp only [forall_eq]
    have e100 : lkV (fun k => (bC (nxT tw shA' (tw (383 + 7 * wk))) (csT sn' (tw (383 + 7 * wk))) 5 to (gsE m t) k).1) (gsE m t) ten m fr = if lsC tw vf d (tw (383 + 7 * wk)) to (gsE m t) (100 * m + fr) < 1000000 then (10 - ten) * p10 (gsE m t - m - 1) * lsC tw vf d (tw (383 + 7 * wk)) to (gsE m t) (100 * m + fr) else 1000000000000000 := by
      rw [lkV, eL.1]
    rw [e100, zl_lit]
    have hO : ∀ hl : lsC tw vf d (tw (383 + 7 * wk)) to (gsE m t) (100 * m + fr) < 1000000, gsO tw vf wk d m fr to ten t w = some (if w = 0 then (lsC tw vf d (tw (383 + 7 * wk)) to (gsE m t) (100 * m + fr) * (10 - ten)) / gsG (lsC tw vf d (tw (383 + 7 * wk)) to (gsE m t) (100 * m + fr) * (10 - ten)) else 10 / gsG (lsC tw vf d (tw (383 + 7 * wk)) to (gsE m t) (100 * m + fr) * (10 - ten))) := fun hl => by rw [gsO, if_pos ⟨tr, q1, q2, q3, hl⟩]
    have h1' := fun hl => h1 _ (hO hl) d syf sn' shA' f p (zL lk) hD'
    have h0' := fun hl : ¬ lsC tw vf d (tw (383 + 7 * wk)) to (gsE m t) (100 * m + fr) < 1000000 => h0 (by rw [gsO, if_neg (fun y => hl y.2.2.2.2)]) d syf sn' shA' f p (zL lk) hD'
    have Lb : lsC tw vf d (tw (383 + 7 * wk)) to (gsE m t) (100 * m + fr) < 1000000 → 0 ≤ lsC tw vf d (tw (383 + 7 * wk)) to (gsE m t) (100 * m + fr) ∧ lsC tw vf d (tw (383 + 7 * wk)) to (gsE m t) (100 * m + fr) ≤ gsE m t - m := by
      intro z
      obtain ⟨ws, k', x1, x2, x3, x4⟩ := (lsC_ok (tw := tw) (vf := vf) (d := d) (to := to) (bym := gsE m t) (k := 100 * m + fr) wo.1 (by omega) (by omega)).1 z
      have h1c : ∀ k w, 0 ≤ k → k < 12000 → 0 ≤ w → w < 5 → 0 ≤ nxT tw (shC tw vf d) (tw (383 + 7 * wk)) k w → csT (snC tw vf d) (tw (383 + 7 * wk)) k w ≤ nxT tw (shC tw vf d) (tw (383 + 7 * wk)) k w / 100 - k / 100 := by
        intro k w a b _ _ e
        have o := nxT_ok wo.1 a b e
        have hl := plen_rng (w := w) wo.1
        have := csm_1 (c := snC tw vf d) (m := k / 100) (s := k % 100) (by omega) (by omega) (fun k _ _ => by have := snC_01 tw vf d k; omega) (plen w (tw (383 + 7 * wk))).toNat (by omega)
        simp only [csT, cst]
        omega
      have G2 := Gok_T (tw := tw) (sh := shC tw vf d) (nw := 5) wo.1 (snC_cB tw vf d)
      have := pt_one h1c G2 ws _ k' _ (by omega) (by omega) x1
      have := pt_rng G2 ws _ k' _ (by omega) (by omega) x1
      omega
    generalize lsC tw vf d (tw (383 + 7 * wk)) to (gsE m t) (100 * m + fr) = Lv at *
    by_cases hl : Lv < 1000000
    case neg =>
      rw [if_neg hl, cmp_ge (a := 1000000000000000) (b := 1000000000000000) (by decide) (by decide)]
      refine ⟨fun _ => ?_, fun y => absurd (Int.le_refl _) y⟩
      simp only [wp_X12_guessed_b298]
      exact ⟨fun y => absurd y (by decide), fun _ => h0' hl⟩
    have lb := Lb hl
    have q1' : 0 ≤ (10 - ten) * p10 (gsE m t - m - 1) ∧ (10 - ten) * p10 (gsE m t - m - 1) ≤ 10 * 1000000000000 := ⟨Int.mul_nonneg (by omega) (Int.le_of_lt (p10_pos _)), Int.mul_le_mul (by omega) (p10_le (by omega)) (Int.le_of_lt (p10_pos _)) (by omega)⟩
    have q2' : 0 ≤ (10 - ten) * p10 (gsE m t - m - 1) * Lv ∧ (10 - ten) * p10 (gsE m t - m - 1) * Lv ≤ 10 * 1000000000000 * 12 := ⟨Int.mul_nonneg q1'.1 lb.1, Int.mul_le_mul q1'.2 (by omega) lb.1 (by omega)⟩
    rw [if_pos hl, cmp_ge (by simp only [i64]; omega) (by decide)]
    refine ⟨fun y => absurd y (by show ¬ (1000000000000000 : Int) ≤ _; omega), fun _ => ?_⟩
    simp only [wp_X12_guessed_b298]
    refine ⟨fun _ => ?_, fun y => absurd (by decide) y⟩
    rw [zi_sub]
    refine p_tens (by omega) ?_
    obtain ⟨a, ha⟩ : ∃ a : Nat, Lv * (10 - ten) = (a : Int) := ⟨(Lv * (10 - ten)).toNat, by have := Int.mul_nonneg lb.1 (show 0 ≤ 10 - ten by omega); omega⟩
    obtain ⟨up, hup⟩ : ∃ up : Nat, (10 - ten) * p10 (gsE m t - m - 1) * Lv = (up : Int) := ⟨((10 - ten) * p10 (gsE m t - m - 1) * Lv).toNat, by omega⟩
    have dp := p10_pos (gsE m t - m)
    have dl := p10_le (n := gsE m t - m) (by omega)
    obtain ⟨dn, hdn⟩ : ∃ dn : Nat, p10 (gsE m t - m) = (dn : Int) := ⟨(p10 (gsE m t - m)).toNat, by omega⟩
    have key : up / Nat.gcd up dn = a / Nat.gcd a 10 ∧ dn / Nat.gcd up dn = 10 / Nat.gcd a 10 := by
      by_cases hE : gsE m t - m = 0
      · have l0 : Lv = 0 := by omega
        have d1 : dn = 1 := by rw [hE, p10_0 (by decide)] at hdn; omega
        have u0 : up = 0 := by rw [l0] at hup; simp at hup; omega
        have a0 : a = 0 := by rw [l0] at ha; simp at ha; omega
        rw [d1, u0, a0]
        decide
      · obtain ⟨P, hP⟩ : ∃ P : Nat, p10 (gsE m t - m - 1) = (P : Int) := ⟨(p10 (gsE m t - m - 1)).toNat, by have := p10_pos (gsE m t - m - 1); omega⟩
        have Ppos : 0 < P := by have := p10_pos (gsE m t - m - 1); omega
        have ed : dn = P * 10 := by
          have := p10_s (n := gsE m t - m - 1) (by omega)
          rw [show gsE m t - m - 1 + 1 = gsE m t - m by omega, hdn, hP] at this
          omega
        have eu : up = P * a := by
          have : (up : Int) = (P : Int) * (a : Int) := by rw [← hup, hP, ← ha]; ac_rfl
          exact_mod_cast this
        have g : Nat.gcd up dn = P * Nat.gcd a 10 := by rw [eu, ed, Nat.gcd_mul_left]
        rw [g, eu, ed, Nat.mul_div_mul_left _ _ Ppos, Nat.mul_div_mul_left _ _ Ppos]
        exact ⟨rfl, rfl⟩
    rw [hup, hdn]
    refine p_gEnd (a := a) (by omega) (by omega) (by omega) q3 key.1 key.2 (post := fun v => post v 0 (zi d) (zA syf) (zA sn') (zA shA') f p (zL lk)) ?_
    have := h1' hl
    rw [ha] at this
    exact this
  have e119 : (zi m + zi t ≤ 119) = (m + t ≤ 119) := by rw [zi_add, show (119 : Int32) = zi 119 from rfl, zi_le (by omega)]
  rw [e119]
  refine ⟨fun z x99 e99 => ?_, fun z => ?_⟩
  · rw [e99, zi_add]
    have e : gsE m t = m + t := by rw [gsE]; split <;> omega
    rw [e] at tab
    exact tab
  · have e : gsE m t = 119 := by rw [gsE, if_neg (by omega)]
    rw [e] at tab
    exact tab
/-- the greatest of the divisors -/
def cmF (a : Int) : Nat → Int
  | 0 => 1
  | i + 1 => if (10 : Int) % ((i : Int) + 2) = 0 ∧ a % ((i : Int) + 2) = 0 then (i : Int) + 2 else cmF a i
theorem cmF_rng (a : Int) : ∀ i : Nat, 1 ≤ cmF a i ∧ cmF a i ≤ (i : Int) + 1
  | 0 => by simp [cmF]
  | i + 1 => by
    have := cmF_rng a i
    rw [cmF]
    split <;> omega
theorem cmF_gcd {a : Int} (h : 0 ≤ a) : cmF a 9 = gsG a := by
  have e : cmF a 9 = if a % 10 = 0 then 10 else if a % 5 = 0 then 5 else if a % 2 = 0 then 2 else 1 := by
    simp [cmF]
  obtain ⟨n, rfl⟩ := Int.eq_ofNat_of_zero_le h
  have g : gsG (n : Int) = ((Nat.gcd (n % 10) 10 : Nat) : Int) := by
    rw [gsG, Int.toNat_natCast, Nat.gcd_comm n 10, Nat.gcd_rec 10 n]
  rw [e, g]
  have hr : n % 10 = 0 ∨ n % 10 = 1 ∨ n % 10 = 2 ∨ n % 10 = 3 ∨ n % 10 = 4 ∨ n % 10 = 5 ∨ n % 10 = 6 ∨ n % 10 = 7 ∨ n % 10 = 8 ∨ n % 10 = 9 := by omega
  rcases hr with z | z | z | z | z | z | z | z | z | z <;> rw [z]
  · rw [if_pos (by omega)]; decide
  · rw [if_neg (by omega), if_neg (by omega), if_neg (by omega)]; decide
  · rw [if_neg (by omega), if_neg (by omega), if_pos (by omega)]; decide
  · rw [if_neg (by omega), if_neg (by omega), if_neg (by omega)]; decide
  · rw [if_neg (by omega), if_neg (by omega), if_pos (by omega)]; decide
  · rw [if_neg (by omega), if_pos (by omega)]; decide
  · rw [if_neg (by omega), if_neg (by omega), if_pos (by omega)]; decide
  · rw [if_neg (by omega), if_neg (by omega), if_neg (by omega)]; decide
  · rw [if_neg (by omega), if_neg (by omega), if_pos (by omega)]; decide
  · rw [if_neg (by omega), if_neg (by omega), if_neg (by omega)]; decide
theorem p_guessC (C : CS pl tw vf sl kd hg wks shw ex nt ww sw gw) {wk d m fr to ten t w : Int} (a1 : ir wk) (a2 : ir d) (a3 : ir m) (a4 : ir fr) (a5 : ir to) (a6 : ir ten) (a7 : ir t) (a8 : ir w) {o1 : Nat} {o2 o3 o4 o5 o6 o7 o8 o9 o10 o11 o12 : Int32} {dw0 lw0 : Nat → Int64} {t1 : Nat → Int32} {post : Option Int64 → Nat → Int32 → Int32 → Int32 → Int32 → Int32 → Int32 → Int32 → Int32 → Int32 → Int32 → Int32 → (Nat → Int64) → (Nat → Int64) → (Nat → Int32) → Prop}
    (h1 : ∀ v, gsO tw vf wk d m fr to ten t w = some v → ∀ (q1 : Nat) (y2 y3 y4 y5 y6 y7 y8 y9 y10 y11 y12 : Int32) (dw lw : Nat → Int64) (s1 : Nat → Int32), post (some (zl v)) q1 y2 y3 y4 y5 y6 y7 y8 y9 y10 y11 y12 dw lw s1)
    (h0 : gsO tw vf wk d m fr to ten t w = none → ∀ (q1 : Nat) (y2 y3 y4 y5 y6 y7 y8 y9 y10 y11 y12 : Int32) (dw lw : Nat → Int64) (s1 : Nat → Int32), post none q1 y2 y3 y4 y5 y6 y7 y8 y9 y10 y11 y12 dw lw s1) :
    wp_X11_guessed pl (zi sl) (zA kd) wks false shw (zA ex) (zA nt) ww sw o1 o2 o3 o4 o5 o6 o7 o8 o9 o10 o11 o12 dw0 lw0 t1 (zi wk) (zi d) (zi m) (zi fr) (zi to) (zi ten) (zi t) (zi w) post := by
  have b6 := a6
  have b7 := a7
  have b8 := a8
  simp only [ir] at b6 b7 b8
  simp only [wp_X11_guessed, wp_X11_guessed_b69]
  rw [show (zi ten < 0) = (zi ten < zi 0) from rfl, show (10 < zi ten) = (zi 10 < zi ten) from rfl, show (zi t < 1) = (zi t < zi 1) from rfl, show (12 < zi t) = (zi 12 < zi t) from rfl, show (zi w < 0) = (zi w < zi 0) from rfl, show (1 < zi w) = (zi 1 < zi w) from rfl, zi_lt (by omega), zi_lt (by omega), zi_lt (by omega), zi_lt (by omega), zi_lt (by omega), zi_lt (by omega)]
  refine ⟨fun z => h0 (by rw [gsO, if_neg (fun y => by have := y.2.1; omega)]) .., fun z => ⟨fun z2 => h0 (by rw [gsO, if_neg (fun y => by have := y.2.1; omega)]) .., fun z2 => ⟨fun z3 => h0 (by rw [gsO, if_neg (fun y => by have := y.2.2.1; omega)]) .., fun z3 => ⟨fun z4 => h0 (by rw [gsO, if_neg (fun y => by have := y.2.2.1; omega)]) .., fun z4 => ⟨fun z5 => h0 (by rw [gsO, if_neg (fun y => by have := y.2.2.2.1; omega)]) .., fun z5 => ⟨fun z6 => h0 (by rw [gsO, if_neg (fun y => by have := y.2.2.2.1; omega)]) .., fun z6 => ?_⟩⟩⟩⟩⟩⟩
  refine p_ready C.1.1 C.1.2.2.1 C.1.2.2.2 a1 a2 a3 a4 a5 (fun tr q dw hq hdw => ⟨fun z => absurd z (by decide), fun _ => ⟨_, _, _, _, _, _, hq, ?_⟩⟩) (fun tr => ⟨fun _ => h0 (by rw [gsO, if_neg (fun y => tr y.1)]) .., fun z => absurd rfl z⟩)
  have t3' := tr.2.2.1
  have t4' := tr.2.2.2.1.1
  have er := gsE_rng t3' (show 1 ≤ t ∧ t ≤ 12 by omega)
  have eb : (if (zi m + zi t) < 119 then (zi m + zi t) else 119) = zi (gsE m t) := by
    rw [zi_add, gsE]
    by_cases y : m + t < 119
    · rw [if_pos y, if_pos (by rw [show (119 : Int32) = zi 119 from rfl, zi_lt (by omega)]; exact y)]
    · rw [if_neg y, if_neg (by rw [show (119 : Int32) = zi 119 from rfl, zi_lt (by omega)]; exact y)]
      rfl
  rw [eb]
  refine p_seekL (bym := gsE m t) (B := gsE m t) C tr (by omega) (by rw [if_neg (by omega)]) hdw (fun hl hl0 q' lw' hF hL har e1 e2 => ⟨fun _ => ?_, fun z => absurd z (by decide)⟩) (fun hl q' lw' => ⟨fun z => absurd rfl z, fun _ => h0 (by rw [gsO, if_neg (fun y => hl y.2.2.2.2)]) ..⟩)
  rw [e1]
  have lr := lsC_rng (tw := tw) (vf := vf) (d := d) (to := to) (bym := gsE m t) (k := 100 * m + fr) (C.1.2.1 wk tr.1.1.1 tr.1.1.2 tr.1.2).1 (by have := tr.2.2.2.1.1; omega) (by have := tr.2.2.2.1.1; omega) hl
  have hO : gsO tw vf wk d m fr to ten t w = some (if w = 0 then (lsC tw vf d (tw (383 + 7 * wk)) to (gsE m t) (100 * m + fr) * (10 - ten)) / gsG (lsC tw vf d (tw (383 + 7 * wk)) to (gsE m t) (100 * m + fr) * (10 - ten)) else 10 / gsG (lsC tw vf d (tw (383 + 7 * wk)) to (gsE m t) (100 * m + fr) * (10 - ten))) := by rw [gsO, if_pos ⟨tr, by omega, by omega, by omega, hl⟩]
  have h1' := h1 _ hO
  generalize lsC tw vf d (tw (383 + 7 * wk)) to (gsE m t) (100 * m + fr) = Lv at *
  have am : 0 ≤ Lv * (10 - ten) ∧ Lv * (10 - ten) ≤ 119000 * 10 := ⟨Int.mul_nonneg hl0 (by omega), Int.mul_le_mul (by omega) (by omega) (by omega) (by omega)⟩
  simp only [forall_eq]
  rw [show (10 : Int32) = zi 10 from rfl, zi_sub, zi_mul]
  generalize Lv * (10 - ten) = a at *
  refine lp_for0 (fun i => (q, zi d, zi m, zi fr, zi to, 1, 0, 1, 1, zi q'.1, zi Lv, zi q'.2.2.1, dw, lw', zA q'.2.2.2.1, zi w, zi a, zi (cmF a i), zi ((i : Int) + 2))) 9 rfl (fun kb => ?_) (fun i hi2 kb hkb => ?_)
  · have cr := cmF_rng a 9
    have ec := cmF_gcd am.1
    rw [ec] at cr ⊢
    simp (disch := omega) only [wp_X11_guessed_L98, zi_lit, zi_lt, zi_eq, zi_div]
    refine ⟨fun _ => ⟨fun w0 => ⟨by omega, ?_⟩, fun w0 => ⟨by omega, ?_⟩⟩, fun z => absurd (by decide) z⟩
    · rw [if_neg w0] at h1'
      have : 10 / gsG a ≤ 10 := Int.ediv_le_self _ (by decide)
      have : 0 ≤ 10 / gsG a := Int.ediv_nonneg (by decide) (by omega)
      rw [zl_wide (by omega)]
      exact h1' ..
    · rw [if_pos w0] at h1'
      have : a / gsG a ≤ a := Int.ediv_le_self _ am.1
      have : 0 ≤ a / gsG a := Int.ediv_nonneg am.1 (by omega)
      rw [zl_wide (by omega)]
      exact h1' ..
  · have cr := cmF_rng a i
    have hni : ((i + 1 : Nat) : Int) + 2 = (i : Int) + 2 + 1 := by omega
    rw [hni] at hkb
    have r1 : 0 ≤ (10 : Int) % ((i : Int) + 2) ∧ (10 : Int) % ((i : Int) + 2) < (i : Int) + 2 := ⟨Int.emod_nonneg _ (by omega), Int.emod_lt_of_pos _ (by omega)⟩
    have r2 : 0 ≤ a % ((i : Int) + 2) ∧ a % ((i : Int) + 2) < (i : Int) + 2 := ⟨Int.emod_nonneg _ (by omega), Int.emod_lt_of_pos _ (by omega)⟩
    simp (disch := omega) only [wp_X11_guessed_L98, zi_lit, zi_lt, zi_eq, zi_rem, forall_eq, zi_add]
    refine ⟨fun z => by omega, fun _ => ⟨by omega, fun z => ?_, fun z => ⟨by omega, fun y => ?_, fun y => ?_⟩⟩⟩
    · have e : cmF a (i + 1) = cmF a i := by rw [cmF, if_neg (fun x => z x.1)]
      rw [e] at hkb; exact hkb
    · have e : cmF a (i + 1) = cmF a i := by rw [cmF, if_neg (fun x => y x.2)]
      rw [e] at hkb; exact hkb
    · have e : cmF a (i + 1) = (i : Int) + 2 := by rw [cmF, if_pos ⟨z, y⟩]
      rw [e] at hkb; exact hkb
end GR
