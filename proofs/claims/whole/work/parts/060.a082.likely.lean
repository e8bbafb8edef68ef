/-! guessed: the reference's table of likely sun -/
section LK
variable {nx cs : Int → Int → Int} {nw to en : Int}
/-- one step of the least cost -/
theorem Bst_all (G : Gok nx cs nw) {k C E : Int} {L M : Int → Int} (h0 : 0 ≤ k) (h1 : k < 12000) (ht : k % 100 ≠ to) (hB : Bst nx cs nw to en k C E) {w : Int} (w0 : 0 ≤ w) (w1 : w < nw) (w2 : 0 ≤ nx k w) (hn : Bst nx cs nw to en (nx k w) (L (nx k w)) (M (nx k w))) (hl : L (nx k w) < 1000000) : C ≤ cs k w + L (nx k w) := by
  obtain ⟨ws, k', p1, p2, p3, p4⟩ := hn.1 hl
  have := hB.2.1 (w :: ws) k' (cs k w + L (nx k w)) ⟨ht, w0, w1, w2, by rwa [show cs k w + L (nx k w) - cs k w = L (nx k w) by omega]⟩ p2 (by omega)
  omega
theorem Bst_one (G : Gok nx cs nw) {k C E : Int} {L M : Int → Int} (h0 : 0 ≤ k) (h1 : k < 12000) (ht : k % 100 ≠ to) (hB : Bst nx cs nw to en k C E) (hc : C < 1000000) (hn : ∀ w, 0 ≤ w → w < nw → 0 ≤ nx k w → Bst nx cs nw to en (nx k w) (L (nx k w)) (M (nx k w))) : ∃ w, 0 ≤ w ∧ w < nw ∧ 0 ≤ nx k w ∧ nx k w / 100 ≤ en ∧ L (nx k w) < 1000000 ∧ C = cs k w + L (nx k w) := by
  obtain ⟨ws, k', p1, p2, p3, p4⟩ := hB.1 hc
  match ws, p1 with
  | [], p1 => obtain ⟨rfl, rfl⟩ := p1; exact absurd p2 ht
  | w :: ws, p1 =>
    obtain ⟨_, w0, w1, w2, q⟩ := p1
    have g := G k w h0 h1 w0 w1 w2
    have r := pt_rng G ws _ k' _ w2 g.1 q
    have b := (hn w w0 w1 w2).2.1 ws k' _ q p2 (by omega)
    have hl : L (nx k w) < 1000000 := by omega
    have a := Bst_all G h0 h1 ht hB w0 w1 w2 (hn w w0 w1 w2) hl
    exact ⟨w, w0, w1, w2, by omega, hl, by omega⟩
/-- with no more than one a minute -/
theorem pt_one (h1c : ∀ k w, 0 ≤ k → k < 12000 → 0 ≤ w → w < nw → 0 ≤ nx k w → cs k w ≤ nx k w / 100 - k / 100) (G : Gok nx cs nw) : ∀ (ws : List Int) (k k' c : Int), 0 ≤ k → k < 12000 → pt nx cs nw to ws k k' c → c ≤ k' / 100 - k / 100
  | [], k, k', c, _, _, h => by obtain ⟨rfl, rfl⟩ := h; omega
  | w :: ws, k, k', c, a, b, h => by
    obtain ⟨h2, h3, h4, h5, h6⟩ := h
    have g := G k w a b h3 h4 h5
    have := pt_one h1c G ws (nx k w) k' _ h5 g.1 h6
    have := h1c k w a b h3 h4 h5
    omega
end LK
theorem csm_head {c : Int → Int} {m s : Int} : ∀ n : Nat, csm c m s (n + 1) = c (100 * m + s) + csm c (m + 1) s n
  | 0 => by simp [csm]
  | n + 1 => by
    have ih := csm_head (c := c) (m := m) (s := s) n
    have e : csm c m s (n + 1 + 1) = csm c m s (n + 1) + c (100 * (m + ((n + 1 : Nat) : Int)) + s) := rfl
    have e2 : csm c (m + 1) s (n + 1) = csm c (m + 1) s n + c (100 * (m + 1 + (n : Int)) + s) := rfl
    rw [e, ih, e2, show m + ((n + 1 : Nat) : Int) = m + 1 + n by omega]
    omega
theorem csm_1 {c : Int → Int} {m s : Int} (hm : 0 ≤ m) (hs : 0 ≤ s ∧ s < 100) (hc : ∀ k, 0 ≤ k → k < 12000 → 0 ≤ c k ∧ c k ≤ 1) : ∀ n : Nat, m + n ≤ 120 → csm c m s n ≤ n
  | 0, _ => by simp [csm]
  | n + 1, hn => by
    have ih := csm_1 hm hs hc n (by omega)
    have := hc (100 * (m + n) + s) (by omega) (by omega)
    simp only [csm]
    omega
section LT
variable {tw shA sn : Int → Int} {p to en fi ten : Int}
/-- the least sun, as the table has it -/
def lkV (L : Int → Int) (en ten m s : Int) : Int := if L (100 * m + s) < 1000000 then (10 - ten) * p10 (en - m - 1) * L (100 * m + s) else 1000000000000000
/-- the least over the first ways -/
def mnV (P : Int → Prop) (dec : ∀ w, Decidable (P w)) (v : Int → Int) : Nat → Int
  | 0 => 1000000000000000
  | n + 1 => @ite Int (P n ∧ v n < mnV P dec v n) (@instDecidableAnd _ _ (dec n) _) (v n) (mnV P dec v n)
theorem mnV_ok {P : Int → Prop} {dec : ∀ w, Decidable (P w)} {v : Int → Int} : ∀ n : Nat, (mnV P dec v n = 1000000000000000 ∨ ∃ w, 0 ≤ w ∧ w < (n : Int) ∧ P w ∧ mnV P dec v n = v w) ∧ (∀ w, 0 ≤ w → w < (n : Int) → P w → mnV P dec v n ≤ v w) ∧ mnV P dec v n ≤ 1000000000000000
  | 0 => ⟨Or.inl rfl, fun w a b => by omega, Int.le_refl _⟩
  | n + 1 => by
    obtain ⟨i1, i2, i3⟩ := mnV_ok (P := P) (dec := dec) (v := v) n
    by_cases h : P n ∧ v n < mnV P dec v n
    · have e : mnV P dec v (n + 1) = v n := by rw [mnV, if_pos h]
      rw [e]
      refine ⟨Or.inr ⟨n, by omega, by omega, h.1, rfl⟩, fun w a b c => ?_, by omega⟩
      by_cases hw : w = n
      · rw [hw]; exact Int.le_refl _
      · have := i2 w a (by omega) c; omega
    · have e : mnV P dec v (n + 1) = mnV P dec v n := by rw [mnV, if_neg h]
      rw [e]
      refine ⟨?_, fun w a b c => ?_, i3⟩
      · rcases i1 with z | ⟨w, a, b, c, d⟩
        · exact Or.inl z
        · exact Or.inr ⟨w, a, by omega, c, d⟩
      · by_cases hw : w = n
        · subst hw; exact Classical.byContradiction (fun y => h ⟨c, by omega⟩)
        · exact i2 w a (by omega) c
theorem p_likelyBy (hp : 1 ≤ p ∧ p ≤ 3) (hi : i32 tw) (hs2 : i32 shA) (hsn : ∀ k, 0 ≤ k → k < 12000 → 0 ≤ sn k ∧ sn k ≤ 1) (hto : 0 ≤ to ∧ to < 100) (hten : 0 ≤ ten ∧ ten ≤ 10) (hen : en ≤ 119 ∧ en ≤ fi + 12) {L E : Int → Int} (hL : ∀ k, 0 ≤ k → k < 12000 → Bst (nxT tw shA p) (csT sn p) 5 to en k (L k) (E k)) {m s : Int} (hm : 0 ≤ fi ∧ fi ≤ m ∧ m < en) (hs : 0 ≤ s ∧ s < 100) (hst : s ≠ to) {lk : Int → Int} (hlk : ∀ m' s', m < m' → m' ≤ en → 0 ≤ s' → s' < 100 → tw s' ≠ 1 → lk (100 * (m' - fi) + s') = lkV L en ten m' s') {c : Int} (hc : 0 ≤ c ∧ c ≤ 1) {post : Int64 → Prop}
    (h : post (zl (if L (100 * m + s) < 1000000 then c * sn (100 * m + s) * p10 (en - m - 1) + (10 - ten) * p10 (en - m - 2) * (L (100 * m + s) - sn (100 * m + s)) else 1000000000000000))) :
    wp_X12_likelyBy (zA tw) (zA shA) (zL lk) (zA sn) (zi m) (zi s) (zi fi) (zi en) (zi ten) (zi p) (zi c) post := by
  have hcB : cB sn := fun k a b => by have := hsn k a b; omega
  have G : Gok (nxT tw shA p) (csT sn p) 5 := Gok_T hp hcB
  have k0 : 0 ≤ 100 * m + s ∧ 100 * m + s < 12000 := by omega
  have kd : (100 * m + s) / 100 = m ∧ (100 * m + s) % 100 = s := by omega
  have h1c : ∀ k w, 0 ≤ k → k < 12000 → 0 ≤ w → w < 5 → 0 ≤ nxT tw shA p k w → csT sn p k w ≤ nxT tw shA p k w / 100 - k / 100 := by
    intro k w a b _ _ e
    have o := nxT_ok hp a b e
    have hl := plen_rng (w := w) hp
    have := csm_1 (c := sn) (m := k / 100) (s := k % 100) (by omega) (by omega) hsn (plen w p).toNat (by omega)
    simp only [csT, cst]
    omega
  have Lb : ∀ k, 0 ≤ k → k < 12000 → L k < 1000000 → 0 ≤ L k ∧ L k ≤ en - k / 100 := by
    intro k a b z
    obtain ⟨ws, k', q1, q2, q3, q4⟩ := (hL k a b).1 z
    have := pt_one h1c G ws k k' _ a b q1
    have := pt_rng G ws k k' _ a b q1
    omega
  have Le : ∀ k, 0 ≤ k → k < 12000 → en ≤ k / 100 → L k < 1000000 → L k = 0 := by
    intro k a b z y
    have := Lb k a b y
    omega
  -- what a way is worth
  have hdec : ∀ w : Int, Decidable (0 ≤ nxT tw shA p (100 * m + s) w ∧ nxT tw shA p (100 * m + s) w / 100 ≤ en ∧ L (nxT tw shA p (100 * m + s) w) < 1000000) := fun w => inferInstance
  have hsk := hsn (100 * m + s) k0.1 k0.2
  have hU : 0 ≤ (10 - ten) * p10 (en - m - 2) := Int.mul_nonneg (by omega) (Int.le_of_lt (p10_pos _))
  have hU2 : (10 - ten) * p10 (en - m - 2) ≤ 10 * 1000000000000 := Int.mul_le_mul (by omega) (p10_le (by omega)) (Int.le_of_lt (p10_pos _)) (by omega)
  have hA : 0 ≤ c * sn (100 * m + s) * p10 (en - m - 1) ∧ c * sn (100 * m + s) * p10 (en - m - 1) ≤ 1 * 1000000000000 := by
    have q : 0 ≤ c * sn (100 * m + s) ∧ c * sn (100 * m + s) ≤ 1 := by
      have : c = 0 ∨ c = 1 := by omega
      rcases this with rfl | rfl <;> omega
    exact ⟨Int.mul_nonneg q.1 (Int.le_of_lt (p10_pos _)), Int.mul_le_mul q.2 (p10_le (by omega)) (Int.le_of_lt (p10_pos _)) (by omega)⟩
  obtain ⟨v, hv⟩ : ∃ v : Int → Int, ∀ w, v w = c * sn (100 * m + s) * p10 (en - m - 1) + (10 - ten) * p10 (en - m - 2) * (csT sn p (100 * m + s) w - sn (100 * m + s) + L (nxT tw shA p (100 * m + s) w)) := ⟨_, fun w => rfl⟩
  have hR : ∀ w, 0 ≤ w → w < 5 → 0 ≤ nxT tw shA p (100 * m + s) w → nxT tw shA p (100 * m + s) w / 100 ≤ en → L (nxT tw shA p (100 * m + s) w) < 1000000 → 0 ≤ csT sn p (100 * m + s) w - sn (100 * m + s) + L (nxT tw shA p (100 * m + s) w) ∧ csT sn p (100 * m + s) w - sn (100 * m + s) + L (nxT tw shA p (100 * m + s) w) ≤ 12 ∧ 0 ≤ v w ∧ v w ≤ 200000000000000 := by
    intro w w0 w1 a b e
    have o := nxT_ok hp k0.1 k0.2 a
    have hl := plen_rng (w := w) hp
    have l := Lb _ a o.1 e
    have g := h1c _ w k0.1 k0.2 w0 w1 a
    have ch : csT sn p (100 * m + s) w = sn (100 * m + s) + csm sn (m + 1) s ((plen w p).toNat - 1) := by
      simp only [csT, cst, kd.1, kd.2]
      rw [show (plen w p).toNat = (plen w p).toNat - 1 + 1 by omega, csm_head]
      rfl
    have cn := csm_rng (c := sn) (m := m + 1) (s := s) hcB (by omega) hs ((plen w p).toNat - 1) (by omega)
    have r : 0 ≤ csT sn p (100 * m + s) w - sn (100 * m + s) + L (nxT tw shA p (100 * m + s) w) ∧ csT sn p (100 * m + s) w - sn (100 * m + s) + L (nxT tw shA p (100 * m + s) w) ≤ 12 := by omega
    refine ⟨r.1, r.2, ?_, ?_⟩
    · rw [hv]; exact Int.add_nonneg hA.1 (Int.mul_nonneg hU r.1)
    · have : (10 - ten) * p10 (en - m - 2) * (csT sn p (100 * m + s) w - sn (100 * m + s) + L (nxT tw shA p (100 * m + s) w)) ≤ 10 * 1000000000000 * 12 := Int.mul_le_mul hU2 r.2 r.1 (by omega)
      rw [hv]; omega
  have fin : mnV (fun w => 0 ≤ nxT tw shA p (100 * m + s) w ∧ nxT tw shA p (100 * m + s) w / 100 ≤ en ∧ L (nxT tw shA p (100 * m + s) w) < 1000000) hdec v 5 = (if L (100 * m + s) < 1000000 then c * sn (100 * m + s) * p10 (en - m - 1) + (10 - ten) * p10 (en - m - 2) * (L (100 * m + s) - sn (100 * m + s)) else 1000000000000000) := by
    obtain ⟨i1, i2, i3⟩ := mnV_ok (P := fun w => 0 ≤ nxT tw shA p (100 * m + s) w ∧ nxT tw shA p (100 * m + s) w / 100 ≤ en ∧ L (nxT tw shA p (100 * m + s) w) < 1000000) (dec := hdec) (v := v) 5
    have hn : ∀ w, 0 ≤ w → w < 5 → 0 ≤ nxT tw shA p (100 * m + s) w → Bst (nxT tw shA p) (csT sn p) 5 to en (nxT tw shA p (100 * m + s) w) (L (nxT tw shA p (100 * m + s) w)) (E (nxT tw shA p (100 * m + s) w)) := fun w _ _ a => hL _ a (nxT_ok hp k0.1 k0.2 a).1
    have ht : (100 * m + s) % 100 ≠ to := by rw [kd.2]; exact hst
    have hB := hL _ k0.1 k0.2
    have le : ∀ w, 0 ≤ w → w < 5 → 0 ≤ nxT tw shA p (100 * m + s) w → L (nxT tw shA p (100 * m + s) w) < 1000000 → c * sn (100 * m + s) * p10 (en - m - 1) + (10 - ten) * p10 (en - m - 2) * (L (100 * m + s) - sn (100 * m + s)) ≤ v w := by
      intro w a b e f
      have q := Bst_all G k0.1 k0.2 ht hB a b e (hn w a b e) f
      have : (10 - ten) * p10 (en - m - 2) * (L (100 * m + s) - sn (100 * m + s)) ≤ (10 - ten) * p10 (en - m - 2) * (csT sn p (100 * m + s) w - sn (100 * m + s) + L (nxT tw shA p (100 * m + s) w)) := Int.mul_le_mul_of_nonneg_left (by omega) hU
      rw [hv]; omega
    by_cases hl : L (100 * m + s) < 1000000
    · rw [if_pos hl]
      obtain ⟨w, a, b, e, f, g, x⟩ := Bst_one G k0.1 k0.2 ht hB hl hn
      have ev : v w = c * sn (100 * m + s) * p10 (en - m - 1) + (10 - ten) * p10 (en - m - 2) * (L (100 * m + s) - sn (100 * m + s)) := by
        rw [hv, show csT sn p (100 * m + s) w - sn (100 * m + s) + L (nxT tw shA p (100 * m + s) w) = L (100 * m + s) - sn (100 * m + s) by omega]
      have u := i2 w a b ⟨e, f, g⟩
      have rr := hR w a b e f g
      rcases i1 with z | ⟨w', a', b', e', f'⟩
      · omega
      · have := le w' a' b' e'.1 e'.2.2
        omega
    · rw [if_neg hl]
      rcases i1 with z | ⟨w', a', b', e', f'⟩
      · exact z
      · have q := Bst_all G k0.1 k0.2 ht hB a' b' e'.1 (hn w' a' b' e'.1) e'.2.2
        have l := Lb _ e'.1 (nxT_ok hp k0.1 k0.2 e'.1).1 e'.2.2
        have g := h1c _ w' k0.1 k0.2 a' b' e'.1
        have o := nxT_ok hp k0.1 k0.2 e'.1
        have hl' := plen_rng (w := w') hp
        omega
  simp only [wp_X12_likelyBy]
  refine lp_for0 (fun i => (zi m, zi s, zi fi, zi en, zi ten, zi p, zi c, zl (mnV (fun w => 0 ≤ nxT tw shA p (100 * m + s) w ∧ nxT tw shA p (100 * m + s) w / 100 ≤ en ∧ L (nxT tw shA p (100 * m + s) w) < 1000000) hdec v i), zi i)) 5 rfl (fun kb => ?_) (fun i hi2 kb hkb => ?_)
  · simp (disch := omega) only [wp_X12_likelyBy_L8, zi_lit, zi_le]
    refine ⟨fun _ => ?_, fun z => absurd (by decide) z⟩
    rw [fin]; exact h
  · have hni : ((i + 1 : Nat) : Int) = (i : Int) + 1 := by omega
    simp (disch := omega) only [wp_X12_likelyBy_L8, zi_lit, zi_le]
    refine ⟨fun z => by omega, fun _ => ?_⟩
    refine p_behind hi hs2 hp (by omega) hs (by omega) ?_
    have en' : bhd tw shA p m s i = nxT tw shA p (100 * m + s) i := by rw [nxT, kd.1, kd.2]
    rw [en']
    have hno : ¬ (0 ≤ nxT tw shA p (100 * m + s) i ∧ nxT tw shA p (100 * m + s) i / 100 ≤ en ∧ L (nxT tw shA p (100 * m + s) i) < 1000000) → kb (zi m, zi s, zi fi, zi en, zi ten, zi p, zi c, zl (mnV (fun w => 0 ≤ nxT tw shA p (100 * m + s) w ∧ nxT tw shA p (100 * m + s) w / 100 ≤ en ∧ L (nxT tw shA p (100 * m + s) w) < 1000000) hdec v i), zi ((i : Int) + 1)) := by
      intro z
      rw [← hni]
      have e : mnV (fun w => 0 ≤ nxT tw shA p (100 * m + s) w ∧ nxT tw shA p (100 * m + s) w / 100 ≤ en ∧ L (nxT tw shA p (100 * m + s) w) < 1000000) hdec v (i + 1) = mnV (fun w => 0 ≤ nxT tw shA p (100 * m + s) w ∧ nxT tw shA p (100 * m + s) w / 100 ≤ en ∧ L (nxT tw shA p (100 * m + s) w) < 1000000) hdec v i := by rw [mnV, if_neg (fun y => z y.1)]
      rw [← e]
      exact hkb
    have br := bhd_rng (tw := tw) (sh := shA) (w := (i : Int)) hp (show 0 ≤ m ∧ m < 120 by omega) hs
    rw [en'] at br
    by_cases hn0 : 0 ≤ nxT tw shA p (100 * m + s) i
    case neg =>
      rw [zi_lt (by omega)]
      refine ⟨fun _ => ?_, fun z => by omega⟩
      simp only [forall_eq, zi_add]
      exact hno (fun z => hn0 z.1)
    have o := nxT_ok hp k0.1 k0.2 hn0
    rw [kd.1] at o
    have hl := plen_rng (w := (i : Int)) hp
    generalize hN : nxT tw shA p (100 * m + s) i = N at *
    have b' : N / 100 = m + plen i p ∧ tw (N % 100) ≠ 1 := ⟨by omega, o.2.2.1⟩
    rw [zi_lt (by omega)]
    simp (disch := omega) only [zi_div, zi_rem, zi_lt, forall_eq, zi_sub, zi_mul, zi_add]
    refine ⟨fun z => by omega, fun _ => ⟨fun z => hno (fun y => by omega), fun z => ?_⟩⟩
    have ek : lk (100 * (N / 100 - fi) + N % 100) = lkV L en ten (N / 100) (N % 100) := hlk _ _ (by omega) (by omega) (by omega) (by omega) b'.2
    have eN : 100 * (N / 100) + N % 100 = N := by omega
    refine ⟨vp_zi (by omega) (by decide), ?_⟩
    rw [zL_get (by omega), ek]
    have lkr : lkV L en ten (N / 100) (N % 100) = if L N < 1000000 then (10 - ten) * p10 (en - N / 100 - 1) * L N else 1000000000000000 := by rw [lkV, eN]
    rw [lkr]
    by_cases hLN : L N < 1000000
    case neg =>
      rw [if_neg hLN, zl_lit, cmp_gez (a := 1000000000000000) (b := 1000000000000000) (by decide) (by decide)]
      exact ⟨fun _ => hno (fun y => hLN y.2.2), fun y => absurd (Int.le_refl _) y⟩
    have lb := Lb N hn0 o.1 hLN
    have q1 : 0 ≤ (10 - ten) * p10 (en - N / 100 - 1) ∧ (10 - ten) * p10 (en - N / 100 - 1) ≤ 10 * 1000000000000 := ⟨Int.mul_nonneg (by omega) (Int.le_of_lt (p10_pos _)), Int.mul_le_mul (by omega) (p10_le (by omega)) (Int.le_of_lt (p10_pos _)) (by omega)⟩
    have q2 : 0 ≤ (10 - ten) * p10 (en - N / 100 - 1) * L N ∧ (10 - ten) * p10 (en - N / 100 - 1) * L N ≤ 10 * 1000000000000 * 12 := ⟨Int.mul_nonneg q1.1 (by omega), Int.mul_le_mul q1.2 (by omega) (by omega) (by omega)⟩
    rw [if_pos hLN, zl_lit, cmp_gez (b := 1000000000000000) (by simp only [i64]; omega) (by decide)]
    refine ⟨fun y => absurd y (by show ¬ (1000000000000000 : Int) ≤ _; omega), fun _ => ⟨vp_zi (by omega) (by decide), ?_⟩⟩
    refine p_tens (by omega) ?_
    have hcs : -2147483648 ≤ c * sn (100 * m + s) ∧ c * sn (100 * m + s) < 2147483648 := by
      have : c = 0 ∨ c = 1 := by omega
      rcases this with rfl | rfl <;> omega
    rw [zA_get (by omega), zi_mul, zl_wide hcs, zl_mul]
    -- the minutes behind the first
    refine lp_for0 (fun j => (zi m, zi s, zi fi, zi en, zi ten, zi p, zi c, zl (mnV (fun w => 0 ≤ nxT tw shA p (100 * m + s) w ∧ nxT tw shA p (100 * m + s) w / 100 ≤ en ∧ L (nxT tw shA p (100 * m + s) w) < 1000000) hdec v i), zi i, zi N, zi (en - m - 1), zl (c * sn (100 * m + s) * p10 (en - m - 1) + (10 - ten) * p10 (en - m - 2) * csm sn (m + 1) s j), zi (m + 1 + j))) ((plen i p).toNat - 1) (by simp [csm]) (fun kb2 => ?_) (fun j hj kb2 hkb2 => ?_)
    · simp (disch := omega) only [wp_X12_likelyBy_L105, zi_lit, zi_div, zi_rem, zi_le, forall_eq, zi_sub, zi_mul, zi_add]
      refine ⟨fun _ => ⟨vp_zi (by omega) (by decide), ?_⟩, fun y => by omega⟩
      refine p_tens (by omega) ?_
      rw [zL_get (by omega), ek, lkr, if_pos hLN, zl_mul, zl_add]
      have ch : csT sn p (100 * m + s) i = sn (100 * m + s) + csm sn (m + 1) s ((plen i p).toNat - 1) := by
        simp only [csT, cst, kd.1, kd.2]
        rw [show (plen i p).toNat = (plen i p).toNat - 1 + 1 by omega, csm_head]
        rfl
      have ex : (10 - ten) * p10 (en - N / 100 - 1) * L N * p10 (N / 100 - m - 1) = (10 - ten) * p10 (en - m - 2) * L N := by
        by_cases he : N / 100 < en
        · have ea := p10_add (a := en - N / 100 - 1) (b := N / 100 - m - 1) (by omega) (by omega)
          rw [show en - N / 100 - 1 + (N / 100 - m - 1) = en - m - 2 by omega] at ea
          rw [← ea, Int.mul_right_comm ((10 - ten) * p10 (en - N / 100 - 1)), Int.mul_assoc (10 - ten)]
        · rw [Le N hn0 o.1 (by omega) hLN]; simp
      have ev : c * sn (100 * m + s) * p10 (en - m - 1) + (10 - ten) * p10 (en - m - 2) * csm sn (m + 1) s ((plen i p).toNat - 1) + (10 - ten) * p10 (en - N / 100 - 1) * L N * p10 (N / 100 - m - 1) = v i := by
        rw [ex, hv, hN, ch, Int.add_assoc, ← Int.mul_add]
        congr 2
        omega
      rw [ev]
      have rr := hR i (by omega) (by omega) (by rw [hN]; exact hn0) (by rw [hN]; omega) (by rw [hN]; exact hLN)
      have mb := mnV_ok (P := fun w => 0 ≤ nxT tw shA p (100 * m + s) w ∧ nxT tw shA p (100 * m + s) w / 100 ≤ en ∧ L (nxT tw shA p (100 * m + s) w) < 1000000) (dec := hdec) (v := v) i
      have mb0 : 0 ≤ mnV (fun w => 0 ≤ nxT tw shA p (100 * m + s) w ∧ nxT tw shA p (100 * m + s) w / 100 ≤ en ∧ L (nxT tw shA p (100 * m + s) w) < 1000000) hdec v i := by
        rcases mb.1 with y | ⟨w, y1, y2, y3, y4⟩
        · omega
        · have := hR w y1 (by omega) y3.1 y3.2.1 y3.2.2; omega
      have hst2 : mnV (fun w => 0 ≤ nxT tw shA p (100 * m + s) w ∧ nxT tw shA p (100 * m + s) w / 100 ≤ en ∧ L (nxT tw shA p (100 * m + s) w) < 1000000) hdec v (i + 1) = if v i < mnV (fun w => 0 ≤ nxT tw shA p (100 * m + s) w ∧ nxT tw shA p (100 * m + s) w / 100 ≤ en ∧ L (nxT tw shA p (100 * m + s) w) < 1000000) hdec v i then v i else mnV (fun w => 0 ≤ nxT tw shA p (100 * m + s) w ∧ nxT tw shA p (100 * m + s) w / 100 ≤ en ∧ L (nxT tw shA p (100 * m + s) w) < 1000000) hdec v i := by
        rw [mnV]
        by_cases y : v i < mnV (fun w => 0 ≤ nxT tw shA p (100 * m + s) w ∧ nxT tw shA p (100 * m + s) w / 100 ≤ en ∧ L (nxT tw shA p (100 * m + s) w) < 1000000) hdec v i
        · rw [if_pos y, if_pos ⟨⟨by rw [hN]; exact hn0, by rw [hN]; omega, by rw [hN]; exact hLN⟩, y⟩]
        · rw [if_neg y, if_neg (fun x => y x.2)]
      rw [hst2, hni] at hkb
      rw [cmp_gez (by simp only [i64]; omega) (by simp only [i64]; omega)]
      refine ⟨fun y => ?_, fun y => ?_⟩
      · rw [if_neg (by omega)] at hkb; exact hkb
      · rw [if_pos (by omega)] at hkb; exact hkb
    · have hnj : m + 1 + ((j + 1 : Nat) : Int) = m + 1 + (j : Int) + 1 := by omega
      have sj := hsn (100 * (m + 1 + j) + s) (by omega) (by omega)
      simp (disch := omega) only [wp_X12_likelyBy_L105, zi_lit, zi_div, zi_le, forall_eq, zi_sub, zi_mul, zi_add]
      refine ⟨fun y => by omega, fun _ => ⟨vp_zi (by omega) (by decide), ?_⟩⟩
      refine p_tens (by omega) ?_
      rw [zA_get (by omega), zl_wide (by omega), zl_wide (by omega), zl_lit, zl_sub, zl_mul, zl_mul, zl_add]
      rw [hnj] at hkb2
      have e : c * sn (100 * m + s) * p10 (en - m - 1) + (10 - ten) * p10 (en - m - 2) * csm sn (m + 1) s j + sn (100 * (m + 1 + j) + s) * (10 - ten) * p10 (en - m - 1 - 1) = c * sn (100 * m + s) * p10 (en - m - 1) + (10 - ten) * p10 (en - m - 2) * csm sn (m + 1) s (j + 1) := by
        have ec : csm sn (m + 1) s (j + 1) = csm sn (m + 1) s j + sn (100 * (m + 1 + j) + s) := rfl
        rw [ec, show en - m - 1 - 1 = en - m - 2 by omega]
        generalize c * sn (100 * m + s) * p10 (en - m - 1) = A
        generalize sn (100 * (m + 1 + j) + s) = y
        generalize csm sn (m + 1) s j = X
        generalize p10 (en - m - 2) = P
        rw [Int.mul_add, Int.mul_assoc y (10 - ten) P, Int.mul_comm y, Int.add_assoc]
      have hkb3 : kb2 (zi m, zi s, zi fi, zi en, zi ten, zi p, zi c, zl (mnV (fun w => 0 ≤ nxT tw shA p (100 * m + s) w ∧ nxT tw shA p (100 * m + s) w / 100 ≤ en ∧ L (nxT tw shA p (100 * m + s) w) < 1000000) hdec v i), zi i, zi N, zi (en - m - 1), zl (c * sn (100 * m + s) * p10 (en - m - 1) + (10 - ten) * p10 (en - m - 2) * csm sn (m + 1) s (j + 1)), zi (m + 1 + (j : Int) + 1)) := hkb2
      rw [← e] at hkb3
      exact hkb3
end LT
