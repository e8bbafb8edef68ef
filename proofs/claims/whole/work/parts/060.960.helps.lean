/-! new shade: the search that goes on -/
theorem csm_mono {c c' : Int → Int} (h : ∀ k, c' k ≤ c k) {m s : Int} : ∀ n : Nat, csm c' m s n ≤ csm c m s n
  | 0 => Int.le_refl _
  | n + 1 => by
    have ih := csm_mono h (m := m) (s := s) n
    have := h (100 * (m + n) + s)
    simp only [csm]
    omega
theorem csm_same {c c' : Int → Int} {m s : Int} : ∀ n : Nat, (∀ i : Nat, i < n → c' (100 * (m + i) + s) = c (100 * (m + i) + s)) → csm c' m s n = csm c m s n
  | 0, _ => rfl
  | n + 1, h => by
    simp only [csm]
    rw [csm_same n (fun i hi => h i (by omega)), h n (by omega)]
section HE
variable {day to wt : Int} {dw0 dw1 : Nat → Int64} {ex nt tw sh : Int → Int} {sl : Int} {ww sw shw : Nat → Int64} {p bears mends en : Int}
/-- more shade -/
def more (dw0 dw1 : Nat → Int64) : Prop := ∀ m s, 0 ≤ m → m < 120 → 0 ≤ s → s < 100 → hb dw0 m s = true → hb dw1 m s = true
theorem cost_le (hM : more dw0 dw1) (k : Int) : costF false 1 0 dw1 ex k ≤ costF false 1 0 dw0 ex k := by
  simp only [costF]
  have : dkF dw0 k = true → dkF dw1 k = true := by
    simp only [dkF, hbs, Bool.and_eq_true, decide_eq_true_eq]
    rintro ⟨a, b⟩
    exact ⟨a, hM _ _ (by omega) (by omega) (by omega) (by omega) b⟩
  by_cases h0 : dkF dw0 k = true
  · rw [if_pos h0, if_pos (this h0)]; simp
  · rw [if_neg h0]
    split <;> simp
/-- new shade for one who leaves a node -/
def newP (p : Int) (dw0 dw1 : Nat → Int64) (k : Int) : Prop := ∃ l, k / 100 ≤ l ∧ l < k / 100 + p ∧ l < 120 ∧ hb dw1 l (k % 100) = true ∧ hb dw0 l (k % 100) = false
theorem cs_le (hp : 1 ≤ p ∧ p ≤ 3) (hM : more dw0 dw1) (k w : Int) : csT (costF false 1 0 dw1 ex) p k w ≤ csT (costF false 1 0 dw0 ex) p k w := csm_mono (cost_le hM) _
theorem cs_same (hp : 1 ≤ p ∧ p ≤ 3) (hM : more dw0 dw1) {k w : Int} (h0 : 0 ≤ k) (h1 : k < 12000) (hn : ¬ newP p dw0 dw1 k) : csT (costF false 1 0 dw1 ex) p k w = csT (costF false 1 0 dw0 ex) p k w := by
  refine csm_same _ (fun i hi => ?_)
  have hl := plen_rng (w := w) hp
  have hpl : plen w p ≤ p := by rw [plen]; split <;> omega
  simp only [costF]
  have : dkF dw1 (100 * (k / 100 + i) + k % 100) = dkF dw0 (100 * (k / 100 + i) + k % 100) := by
    simp only [dkF, show (100 * (k / 100 + (i : Int)) + k % 100) / 100 = k / 100 + i by omega, show (100 * (k / 100 + (i : Int)) + k % 100) % 100 = k % 100 by omega, hbs]
    by_cases h120 : k / 100 + (i : Int) < 120
    · congr 1
      cases ha : hb dw0 (k / 100 + i) (k % 100) with
      | true => exact hM _ _ (by omega) h120 (by omega) (by omega) ha
      | false =>
        cases hb' : hb dw1 (k / 100 + i) (k % 100) with
        | false => rfl
        | true => exact absurd ⟨k / 100 + i, by omega, by omega, h120, hb', ha⟩ hn
    · rw [decide_eq_false (by omega)]; rfl
  rw [this]
theorem pt_more (hp : 1 ≤ p ∧ p ≤ 3) (hM : more dw0 dw1) {nw : Int} : ∀ (ws : List Int) (k k' c : Int), pt (nxT tw sh p) (csT (costF false 1 0 dw0 ex) p) nw to ws k k' c → ∃ c', c' ≤ c ∧ pt (nxT tw sh p) (csT (costF false 1 0 dw1 ex) p) nw to ws k k' c'
  | [], k, k', c, h => ⟨c, Int.le_refl _, h⟩
  | w :: ws, k, k', c, h => by
    obtain ⟨h1, h2, h3, h4, h5⟩ := h
    obtain ⟨c', hc, hp'⟩ := pt_more hp hM ws _ k' _ h5
    have := cs_le (ex := ex) hp hM k w
    exact ⟨c' + csT (costF false 1 0 dw1 ex) p k w, by omega, h1, h2, h3, h4, by rwa [Int.add_sub_cancel]⟩
/-- the state from which the search goes on -/
theorem garden_J (A : Ask day to 1 0 wt 1 ex nt tw sh sl sw p bears mends 119) (hto : 0 ≤ to ∧ to < 100) {fi fr lim0 : Int} (hf : 0 ≤ fi ∧ fi < 120) (hfr : 0 ≤ fr ∧ fr < 100) (hl0 : lim0 = 268435455) {q : Sst} (hJ : Jall (nxT tw sh p) (fun k w v => valF false 1 0 1 dw0 ex bears mends ww (nxT tw sh p) p k w v) 5 to (100 * fi + fr) lim0 119 1 p 12000 q) (hJl : Jl q) (har : q.2.2.1 ≠ -1) (hM : more dw0 dw1) {B c : Int} (hB : 0 ≤ B ∧ B ≤ q.2.1) {R : Int → Int} (hR : ∀ k, 0 ≤ k → k < 12000 → R k = q.2.2.2.1 k) {Lw : Int → Bool} (hLw : ∀ k, 0 ≤ k → k < 12000 → (Lw k = true ↔ (fi ≤ k / 100 ∧ q.2.2.2.2 k = true ∧ newP p dw0 dw1 k))) :
    Jall (nxT tw sh p) (fun k w v => valF false 1 0 1 dw1 ex bears mends ww (nxT tw sh p) p k w v) 5 to (100 * fi + fr) (B - 1) 119 1 p (100 * fi) (B - 1, c, -1, R, Lw) ∧ Hyp (nxT tw sh p) (fun k w v => valF false 1 0 1 dw1 ex bears mends ww (nxT tw sh p) p k w v) 5 to (100 * fi + fr) (B - 1) 1 p := by
  have hp := A.2.2.2.2.2.2.2.2.2.2.2.1
  have hcB0 : cB (costF false 1 0 dw0 ex) := cB_cost (eb := false) (dw := dw0) A.2.2.1 A.2.2.2.1 A.2.2.2.2.2.2.1
  have hcB1 : cB (costF false 1 0 dw1 ex) := cB_cost (eb := false) (dw := dw1) A.2.2.1 A.2.2.2.1 A.2.2.2.2.2.2.1
  have G0 := Gok_T (tw := tw) (sh := sh) (nw := 5) hp hcB0
  have G1 := Gok_T (tw := tw) (sh := sh) (nw := 5) hp hcB1
  have hv0 : ∀ k w v, valF false 1 0 1 dw0 ex bears mends ww (nxT tw sh p) p k w v = v + csT (costF false 1 0 dw0 ex) p k w := fun k w v => valF_cost (by decide)
  have hv1 : ∀ k w v, valF false 1 0 1 dw1 ex bears mends ww (nxT tw sh p) p k w v = v + csT (costF false 1 0 dw1 ex) p k w := fun k w v => valF_cost (by decide)
  obtain ⟨⟨b1, b2, b3, b4, b5, b6⟩, ja, jr⟩ := hJ
  have hcost : q.1 = q.2.1 - 1 ∧ q.2.1 ≤ lim0 := by
    rcases ja (by decide) with z | z
    · exact absurd z.1 har
    · exact ⟨z.2.2.2.2.1 rfl, z.2.2.2.1⟩
  refine ⟨⟨⟨by show -1 ≤ B - 1 ∧ B - 1 ≤ B - 1; omega, fun j a b => ?_, fun j a b hj => ?_, fun _ m m0 m1 => ?_, ?_, fun z => absurd z (by decide)⟩, fun _ => Or.inl ⟨rfl, rfl⟩, fun j a b hj ht w w0 w1 hn he => ?_⟩, Gv_T hp, Vv_cost (by decide) hp hcB1 hv1, by omega, hp.1, by omega, by omega, by omega, fun _ => hto⟩
  · show 0 ≤ R j ∧ R j ≤ 268435456 ∧ ((1 : Int) = 3 → _)
    rw [hR j a b]
    have := b2 j a b
    exact ⟨this.1, this.2.1, fun z => absurd z (by decide)⟩
  · replace hj : R j ≤ B - 1 := hj
    show ∃ n v, _ ∧ v ≤ R j
    rw [hR j a b] at hj ⊢
    obtain ⟨n, v, h1, h2⟩ := b3 j a b (by omega)
    obtain ⟨ws, h3⟩ := qv_pt hv0 n _ _ h1
    obtain ⟨c', hc, h4⟩ := pt_more hp hM ws _ _ _ h3
    exact ⟨ws.length, c', pt_qv G1 hv1 (by omega) (by omega) ws.length ws j c' rfl h4 (by omega) (by omega), by omega⟩
  · show B - 1 < R (100 * m + to)
    rw [hR _ (by omega) (by omega)]
    have := b4 (by decide) m m0 m1
    omega
  · show R (100 * fi + fr) = 0
    rw [hR _ (by omega) (by omega)]; exact b5
  · show R (nxT tw sh p j w) ≤ valF false 1 0 1 dw1 ex bears mends ww (nxT tw sh p) p j w (R j) ∨ B - 1 < valF false 1 0 1 dw1 ex bears mends ww (nxT tw sh p) p j w (R j)
    have g := G1 j w a b w0 w1 hn
    rw [hv1, hR j a b, hR _ hn g.1]
    have bj := b2 j a b
    by_cases hfar : q.2.2.2.1 j = 268435456
    · exact Or.inr (by omega)
    have hlive : q.2.2.2.2 j = true := by
      cases hx : q.2.2.2.2 j with
      | true => rfl
      | false => exact absurd (hJl j a b hx) hfar
    have hfi : fi ≤ j / 100 := by
      refine Classical.byContradiction (fun z => ?_)
      by_cases hjl : q.2.2.2.1 j ≤ lim0
      · obtain ⟨n, v, h1, h2⟩ := b3 j a b hjl
        have r := qv_rng (Gv_T (nw := 5) (to := to) hp) (Vv_cost (aims := 1) (by decide) hp hcB0 hv0) (show -1 ≤ lim0 ∧ lim0 ≤ 268435455 by omega) (by omega) (by omega) n j v h1
        omega
      · omega
    have hnew : ¬ newP p dw0 dw1 j := by
      intro z
      have := (hLw j a b).mpr ⟨hfi, hlive, z⟩
      rcases hj with y | y
      · replace y : Lw j = false := y
        rw [this] at y; exact absurd y (by decide)
      · omega
    rw [cs_same hp hM a b hnew]
    have o := jr j a b (Or.inr b) ht w w0 w1 hn he
    simp only [hv0] at o
    omega
theorem zA_cpy {f g : Int → Int} {n : Nat} (hn : n < 1000000) : va_cpy (zA f) (zA g) 0 0 n = zA (fun k => if 0 ≤ k ∧ k < (n : Int) then f k else g k) := by
  funext k
  by_cases hk : k < n
  · rw [pk_cpy_in (Nat.zero_le _) (by omega), zA, zA, if_pos (by omega)]
    congr 2
    omega
  · rw [pk_cpy_out (by omega), zA, zA, if_neg (by omega)]
theorem p_wake {lw lw0 : Nat → Int64} (hday : 0 ≤ day ∧ day < 4) {m l : Int} (hm : 0 ≤ m ∧ m < 120) (hl : 0 ≤ l ∧ l < 130) {q : Int} (hq : 0 ≤ q ∧ q < 2) {post : (Nat → Int64) → Prop} (h : ∀ lw' : Nat → Int64, (∀ r' s', 0 ≤ r' → 0 ≤ s' → s' < 128 → (hb lw' r' s' = true ↔ hb lw r' s' = true ∨ (r' = m ∧ s' / 64 = q ∧ l < 120 ∧ hb dw1 l s' = true ∧ hb shw (120 * day + l) s' = false ∧ hb lw0 m s' = true))) → post lw') : wp_X3_wake (zi day) shw dw1 lw0 lw (zi m) (zi l) (zi q) post := by
  simp only [wp_X3_wake]
  refine p_row ?_
  refine p_word (by decide) (by omega) hq ?_
  refine p_word (by decide) (by omega) hq ?_
  refine p_word (by decide) (by omega) hq ?_
  refine p_joinHalf (by decide) (by omega) hq ?_
  refine h _ (fun r' s' a1 a2 a3 => ?_)
  rw [hb_half hm.1 hq a1 ⟨a2, a3⟩]
  simp only [Bool.or_eq_true, Bool.and_eq_true, decide_eq_true_eq, lb_and, lb_xor]
  have hi64 : (s' % 64).toNat < 64 := by omega
  have e64 : s' / 64 = q → 64 * q + (((s' % 64).toNat : Nat) : Int) = s' := by omega
  rw [lb_m1 hi64]
  constructor
  · rintro (z | ⟨⟨z1, z2⟩, ⟨z3, z4⟩, z5⟩)
    · exact Or.inl z
    · by_cases h120 : l < 120
      · rw [lb_wrd hq (by omega) hi64, e64 z2] at z3 z4 z5
        refine Or.inr ⟨z1, z2, h120, z3, by simpa using z4, z5⟩
      · rw [wrd, if_neg (by omega), lb_0] at z3
        exact absurd z3 (by decide)
  · rintro (z | ⟨z1, z2, h120, z3, z4, z5⟩)
    · exact Or.inl z
    · refine Or.inr ⟨⟨z1, z2⟩, ⟨?_, ?_⟩, ?_⟩
      · rw [lb_wrd hq (by omega) hi64, e64 z2]; exact z3
      · rw [lb_wrd hq (by omega) hi64, e64 z2, z4]; rfl
      · rw [lb_wrd hq (by omega) hi64, e64 z2]; exact z5
/-- does the new shade help -/
theorem p_helps (A : Ask day to 1 0 wt 1 ex nt tw sh sl sw p bears mends 119) (hwt : wt ≠ 0) (hto : 0 ≤ to ∧ to < 100) {fi fr : Int} (hf : 0 ≤ fi ∧ fi < 120) (hfr : 0 ≤ fr ∧ fr < 100) {q : Sst} (hJ : Jall (nxT tw sh p) (fun k w v => valF false 1 0 1 dw0 ex bears mends ww (nxT tw sh p) p k w v) 5 to (100 * fi + fr) 268435455 119 1 p 12000 q) (hJl : Jl q) (hQt : ∀ k, 0 ≤ k → k < 12000 → q.2.2.2.2 k = true → tw (k % 100) ≠ 1) (har : q.2.2.1 ≠ -1) {lw0 : Nat → Int64} (hL0 : LR lw0 q.2.2.2.2) (hd0 : ∀ m s, 0 ≤ m → m < 120 → 0 ≤ s → s < 128 → hb dw0 m s = hb shw (120 * day + m) s) (hM : more dw0 dw1) {B c : Int} (hB : 0 ≤ B ∧ B ≤ q.2.1) (hc : -2147483648 ≤ c ∧ c < 2147483648) (hqc : q.2.1 ≤ 268435455) {La : Int → Int} (hLa : ∀ k, 0 ≤ k → k < 12000 → La k = q.2.2.2.1 k) {x1 x2 x3 : Int32} {lw t1w : Nat → Int64} {t1 : Nat → Int32} {post : Int32 → Int32 → Int32 → Int32 → Int32 → (Nat → Int64) → (Nat → Int32) → Prop}
    (h : ∀ (q1 : Sst) (lw1 : Nat → Int64), Chp (nxT tw sh p) (csT (costF false 1 0 dw1 ex) p) 5 to 119 (100 * fi + fr) (B - 1) q1.2.1 q1.2.2.1 → Sok q1 → post (if q1.2.2.1 = -1 then 0 else 1) 1 (zi q1.1) (zi q1.2.1) (zi q1.2.2.1) lw1 (zA q1.2.2.2.1)) :
    wp_X3_helps (zi B) false (zi day) (zi fi) (zi to) 1 0 (zi wt) shw dw1 lw0 (zA La) (zA ex) (zA nt) (zi sl) ww sw (zi p) (zi bears) (zi mends) x1 x2 (zi c) x3 lw t1 post := by
  obtain ⟨f0, rfl, -⟩ := zA_ex t1
  have hday := A.1
  have hp := A.2.2.2.2.2.2.2.2.2.2.2.1
  have hcB1 : cB (costF false 1 0 dw1 ex) := cB_cost (eb := false) (dw := dw1) A.2.2.1 A.2.2.2.1 A.2.2.2.2.2.2.1
  have G1 := Gok_T (tw := tw) (sh := sh) (nw := 5) hp hcB1
  have hv1 : ∀ k w v, valF false 1 0 1 dw1 ex bears mends ww (nxT tw sh p) p k w v = v + csT (costF false 1 0 dw1 ex) p k w := fun k w v => valF_cost (by decide)
  simp only [wp_X3_helps]
  refine p_empty (by decide) ?_
  -- who is woken: so far
  refine lp_inv (fun i st => ∃ lw' : Nat → Int64, st = (x1, x2, zi c, x3, lw', zA f0, zi (fi + i)) ∧ ∀ m s, 0 ≤ m → m < 120 → 0 ≤ s → s < 128 → (hb lw' m s = true ↔ (fi ≤ m ∧ m < fi + i) ∧ hb lw0 m s = true ∧ ∃ l, m ≤ l ∧ l < m + p ∧ l < 120 ∧ hb dw1 l s = true ∧ hb shw (120 * day + l) s = false)) (120 - fi).toNat ?_ ?_ 0 (Nat.zero_le _) ⟨fun k => if k < 240 then 0 else lw k, by simp, fun m s a b c' d => ?_⟩
  · rintro st ⟨lw', rfl, hw⟩ kb
    rw [show fi + (((120 - fi).toNat : Nat) : Int) = 120 by omega] at hw ⊢
    simp (disch := omega) only [wp_X3_helps_L18, zi_lit, zi_le]
    refine ⟨fun _ => ?_, fun z => absurd (by decide) z⟩
    obtain ⟨Lw, hLw⟩ : ∃ Lw : Int → Bool, ∀ k, Lw k = true ↔ (fi ≤ k / 100 ∧ q.2.2.2.2 k = true ∧ newP p dw0 dw1 k) := by
      classical
      exact ⟨fun k => decide (fi ≤ k / 100 ∧ q.2.2.2.2 k = true ∧ newP p dw0 dw1 k), fun k => by simp⟩
    have hLR : LR lw' Lw := by
      intro m s a b c' d
      rw [Bool.eq_iff_iff, hw m s a b c' d]
      simp only [Bool.and_eq_true, decide_eq_true_eq, hLw, hL0 m s a b c' d]
      by_cases h100 : s < 100
      · rw [show (100 * m + s) / 100 = m by omega]
        have en : newP p dw0 dw1 (100 * m + s) ↔ ∃ l, m ≤ l ∧ l < m + p ∧ l < 120 ∧ hb dw1 l s = true ∧ hb shw (120 * day + l) s = false := by
          simp only [newP, show (100 * m + s) / 100 = m by omega, show (100 * m + s) % 100 = s by omega]
          constructor
          · rintro ⟨l, l1, l2, l3, l4, l5⟩; exact ⟨l, l1, l2, l3, l4, by rw [← hd0 l s (by omega) l3 c' d]; exact l5⟩
          · rintro ⟨l, l1, l2, l3, l4, l5⟩; exact ⟨l, l1, l2, l3, l4, by rw [hd0 l s (by omega) l3 c' d]; exact l5⟩
        rw [en]
        constructor
        · rintro ⟨z1, ⟨_, z2⟩, z3⟩; exact ⟨h100, z1.1, z2, z3⟩
        · rintro ⟨_, z1, z2, z3⟩; exact ⟨⟨z1, by omega⟩, ⟨h100, z2⟩, z3⟩
      · constructor
        · rintro ⟨_, ⟨z, _⟩, _⟩; exact absurd z h100
        · rintro ⟨z, _⟩; exact absurd z h100
    have z0 : Int32.toNatClampNeg (zi 0) = 0 := by decide
    have z12 : Int32.toNatClampNeg (zi 12000) = 12000 := by decide
    simp only [wp_X9_seekOn, forall_eq, zi_lit, zi_neg, zi_sub, z0, z12]
    refine ⟨by decide, ?_⟩
    rw [zA_cpy (by decide)]
    obtain ⟨JG, HG⟩ := garden_J (c := c) (R := fun k => if 0 ≤ k ∧ k < ((12000 : Nat) : Int) then La k else f0 k) (Lw := Lw) A hto hf hfr rfl hJ hJl har hM hB (fun k a b => by rw [if_pos (by omega)]; exact hLa k a b) (fun k a b => hLw k)
    have hQ : Qok tw 1 bears (B - 1, c, -1, fun k => if 0 ≤ k ∧ k < ((12000 : Nat) : Int) then La k else f0 k, Lw) := by
      refine ⟨⟨by show -1 ≤ B - 1 ∧ B - 1 ≤ 268435455; omega, fun k a b => ?_, hc, by show -2147483648 ≤ (-1 : Int) ∧ (-1 : Int) < 2147483648; decide⟩, fun z => absurd z (by decide), fun k a b z => hQt k a b ((hLw k).mp z).2.1⟩
      have := JG.1.2.1 k a b
      exact ⟨this.1, this.2.1⟩
    refine p_run (aims := 1) (bym := 119) (st := (B - 1, c, -1, fun k => if 0 ≤ k ∧ k < ((12000 : Nat) : Int) then La k else f0 k, Lw)) A hQ hLR hf (by omega) (by decide) (fun q1 lw1 hq1 hL1 => ?_)
    have hb01 : ∀ x : Int, b01 (if x = -1 then 0 else 1) := fun x => by split; exact Or.inl rfl; exact Or.inr rfl
    refine ⟨hb01 _, hb01 _, h q1 lw1 ?_ ?_⟩
    · obtain ⟨J1, J2, J3⟩ := J_end (wt := wt) HG (by rw [if_neg hwt]) ⟨hf.1, by omega, Int.le_refl _⟩ (by omega) JG hq1
      have hc1 := end_cheap HG (Int.le_refl _) J1 (J2 (by decide)) J3
      have toq : ∀ ws k v, pt (nxT tw sh p) (csT (costF false 1 0 dw1 ex) p) 5 to ws (100 * fi + fr) k v → v ≤ B - 1 → k / 100 ≤ 119 → qv (nxT tw sh p) (fun k w v => valF false 1 0 1 dw1 ex bears mends ww (nxT tw sh p) p k w v) 5 to (100 * fi + fr) (B - 1) 119 ws.length k v := fun ws k v h1 h2 h3 => pt_qv G1 hv1 (by omega) (by omega) ws.length ws k v rfl h1 h2 h3
      rcases hc1 with ⟨z1, z2⟩ | ⟨z1, z2, z3, ⟨n, z4⟩, z5⟩
      · refine Or.inl ⟨z1, fun ws k' c h1 h2 h3 => Classical.byContradiction (fun hn => ?_)⟩
        have r := pt_rng G1 ws _ k' c (by omega) (by omega) h1
        have e : k' = 100 * (k' / 100) + to := by omega
        have := z2 ws.length (k' / 100) c (by omega) h3 (by omega) (by rw [← e]; exact toq ws k' c h1 (by omega) h3)
        omega
      · refine Or.inr ⟨z1, z2, z3, qv_pt hv1 n _ _ z4, fun ws k' c h1 h2 h3 => ?_⟩
        have r := pt_rng G1 ws _ k' c (by omega) (by omega) h1
        have e : k' = 100 * (k' / 100) + to := by omega
        by_cases hcl : c ≤ B - 1
        · exact z5 ws.length (k' / 100) c (by omega) h3 (by omega) (by rw [← e]; exact toq ws k' c h1 hcl h3)
        · omega
    · rw [hq1]; exact (rst_q A hQ (by omega) _ (by omega)).1
  · rintro i hi st ⟨lw', rfl, hw⟩ kb hkb
    have hni : fi + ((i + 1 : Nat) : Int) = fi + (i : Int) + 1 := by omega
    simp (disch := omega) only [wp_X3_helps_L18, zi_lit, zi_le]
    refine ⟨fun z => by omega, fun _ => ?_⟩
    generalize hmg : fi + (i : Int) = m at *
    refine lp_inv (fun j st => ∃ lw2 : Nat → Int64, st = (x1, x2, zi c, x3, lw2, zA f0, zi m, zi (m + j)) ∧ ∀ r s, 0 ≤ r → 0 ≤ s → s < 128 → (hb lw2 r s = true ↔ hb lw' r s = true ∨ (r = m ∧ hb lw0 m s = true ∧ ∃ l, m ≤ l ∧ l < m + (j : Int) ∧ l < 120 ∧ hb dw1 l s = true ∧ hb shw (120 * day + l) s = false))) p.toNat ?_ ?_ 0 (Nat.zero_le _) ⟨lw', by simp, fun r s _ _ _ => ⟨Or.inl, fun z => by rcases z with z | ⟨_, _, l, a, b, _⟩; exact z; omega⟩⟩
    · rintro st ⟨lw2, rfl, h2⟩ kb2
      rw [show m + ((p.toNat : Nat) : Int) = m + p by omega] at h2 ⊢
      simp (disch := omega) only [wp_X3_helps_L26, zi_lit, zi_add, zi_le, forall_eq]
      refine ⟨fun _ => hkb _ ⟨lw2, by rw [hni], fun m' s a b c' d => ?_⟩, fun z => absurd (Int.le_refl _) z⟩
      rw [h2 m' s a c' d, hw m' s a b c' d, hni]
      constructor
      · rintro (⟨z1, z2, z3⟩ | ⟨z1, z2, z3⟩)
        · exact ⟨by omega, z2, z3⟩
        · subst z1; exact ⟨by omega, z2, z3⟩
      · rintro ⟨z1, z2, z3⟩
        by_cases hmm : m' = m
        · subst hmm; exact Or.inr ⟨rfl, z2, z3⟩
        · exact Or.inl ⟨by omega, z2, z3⟩
    · rintro j hj st ⟨lw2, rfl, h2⟩ kb2 hkb2
      have hnj : m + ((j + 1 : Nat) : Int) = m + (j : Int) + 1 := by omega
      simp (disch := omega) only [wp_X3_helps_L26, zi_lit, zi_add, zi_le]
      refine ⟨fun z => by omega, fun _ => ?_⟩
      refine p_wake (q := 0) hday (by omega) (by omega) (by omega) (fun lw3 h3 => ?_)
      refine p_wake (q := 1) hday (by omega) (by omega) (by omega) (fun lw4 h4 => ?_)
      simp only [forall_eq, zi_add]
      refine hkb2 _ ⟨lw4, by rw [hnj], fun r s a b c' => ?_⟩
      rw [h4 r s a b c', h3 r s a b c', h2 r s a b c', hnj]
      constructor
      · rintro (((z | ⟨z1, z2, l, l1, l2, l3⟩) | ⟨z1, z2, z3, z4, z5, z6⟩) | ⟨z1, z2, z3, z4, z5, z6⟩)
        · exact Or.inl z
        · exact Or.inr ⟨z1, z2, l, l1, by omega, l3⟩
        · exact Or.inr ⟨z1, z6, m + j, by omega, by omega, z3, z4, z5⟩
        · exact Or.inr ⟨z1, z6, m + j, by omega, by omega, z3, z4, z5⟩
      · rintro (z | ⟨z1, z2, l, l1, l2, l3, l4, l5⟩)
        · exact Or.inl (Or.inl (Or.inl z))
        · by_cases hl : l = m + j
          · subst hl
            by_cases h0 : s / 64 = 0
            · exact Or.inl (Or.inr ⟨z1, h0, l3, l4, l5, z2⟩)
            · exact Or.inr ⟨z1, by omega, l3, l4, l5, z2⟩
          · exact Or.inl (Or.inl (Or.inr ⟨z1, z2, l, l1, by omega, l3, l4, l5⟩))
  · rw [hb_empty (by omega) ⟨c', d⟩]
    exact ⟨fun z => absurd z (by decide), fun z => by omega⟩
end HE
