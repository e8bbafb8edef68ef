/-! towns that agree in their 440 numbers -/
section SG
variable {pl : Pool} {T T' : Int → Int} {vf : Int → Int → Int → Int32} {kd hg nt ln : Int → Int} {wks suns : Nat → Option Nat} {ww aw : Nat → Int64}
def agS (T T' : Int → Int) : Prop := i32 T' ∧ ∀ j, 0 ≤ j → j < 440 → T' j = T j
theorem twR_S (h : twR T) (a : agS T T') : twR T' := by
  obtain ⟨-, h2, h3, h4, h5, h6⟩ := h
  have e := a.2
  refine ⟨a.1, fun s s0 s1 => ?_, by rw [e 261 (by omega) (by omega)]; exact h3, fun i i0 i1 => ?_, by rw [e 200 (by omega) (by omega)]; exact h5, fun i i0 i1 => ?_⟩
  · rw [e s (by omega) (by omega), e (100 + s) (by omega) (by omega)]; exact h2 s s0 s1
  · rw [e 261 (by omega) (by omega)] at i1
    rw [e (262 + 5 * i) (by omega) (by omega), e (263 + 5 * i) (by omega) (by omega), e (264 + 5 * i) (by omega) (by omega), e (265 + 5 * i) (by omega) (by omega), e (266 + 5 * i) (by omega) (by omega)]
    exact h4 i i0 i1
  · rw [e 200 (by omega) (by omega)] at i1
    rw [e (201 + 3 * i) (by omega) (by omega), e (202 + 3 * i) (by omega) (by omega)]
    exact h6 i i0 i1
theorem wkOk_S (h : wkOk T) (a : agS T T') : wkOk T' := by
  intro w w0 w1 w2
  have e := a.2
  rw [e (382 + 7 * w) (by omega) (by omega)] at w2
  rw [e (383 + 7 * w) (by omega) (by omega), e (384 + 7 * w) (by omega) (by omega), e (385 + 7 * w) (by omega) (by omega), e (386 + 7 * w) (by omega) (by omega), e (387 + 7 * w) (by omega) (by omega), e (388 + 7 * w) (by omega) (by omega)]
  exact h w w0 w1 w2
theorem brR_S (h : brR T) (a : agS T T') : brR T' := fun s s0 s1 q => by
  rw [a.2 s s0 (by omega)] at q
  rw [a.2 (100 + s) (by omega) (by omega)]
  exact h s s0 s1 q
theorem kdR_S (h : kdR T kd hg) (a : agS T T') : kdR T' kd hg := ⟨h.1, h.2.1, fun s s0 s1 => by rw [a.2 s s0 (by omega), a.2 (100 + s) (by omega) (by omega)]; exact h.2.2 s s0 s1⟩
theorem wkR2_S (h : wkR2 pl T wks) (a : agS T T') : wkR2 pl T' wks := by
  intro w w0 w1
  have e := a.2
  rw [e (382 + 7 * w) (by omega) (by omega), e (383 + 7 * w) (by omega) (by omega), e (384 + 7 * w) (by omega) (by omega), e (385 + 7 * w) (by omega) (by omega), e (386 + 7 * w) (by omega) (by omega), e (387 + 7 * w) (by omega) (by omega), e (388 + 7 * w) (by omega) (by omega)]
  exact h w w0 w1
theorem suR_S (h : suR pl T suns) (hT : twR T) (a : agS T T') : suR pl T' suns := by
  intro i i0 i1
  have e := a.2
  have t := hT.2.2.1
  rw [e 261 (by omega) (by omega)] at i1
  rw [e (262 + 5 * i) (by omega) (by omega), e (263 + 5 * i) (by omega) (by omega), e (264 + 5 * i) (by omega) (by omega), e (265 + 5 * i) (by omega) (by omega), e (266 + 5 * i) (by omega) (by omega)]
  exact h i i0 i1
theorem waR_S (h : waR T ww) (a : agS T T') : waR T' ww := by
  have e := a.2
  have h1 := h.1
  refine ⟨by rw [e 424 (by omega) (by omega)]; exact h.1, fun s s0 s1 => ?_⟩
  rw [h.2 s s0 s1, e 424 (by omega) (by omega)]
  exact ⟨fun ⟨i, i0, i1, i2⟩ => ⟨i, i0, i1, by rw [e _ (by omega) (by omega)]; exact i2⟩, fun ⟨i, i0, i1, i2⟩ => ⟨i, i0, i1, by rw [e _ (by omega) (by omega)] at i2; exact i2⟩⟩
theorem clP_S (hT : twR T) (a : agS T T') (what d m s : Int) : clP T' vf what d m s (T' 200) = clP T vf what d m s (T 200) := by
  have e := a.2
  have t := hT.2.2.2.2.1
  rw [e 200 (by omega) (by omega)]
  refine propext ⟨fun ⟨i, i0, i1, i2, i3, i4⟩ => ⟨i, i0, i1, by rw [← e _ (by omega) (by omega)]; exact i2, by rw [← e _ (by omega) (by omega)]; exact i3, i4⟩, fun ⟨i, i0, i1, i2, i3, i4⟩ => ⟨i, i0, i1, by rw [e _ (by omega) (by omega)]; exact i2, by rw [e _ (by omega) (by omega)]; exact i3, i4⟩⟩
theorem lnN_S (a : agS T T') (d m : Int) : ∀ n : Nat, n ≤ 24 → lnN T' d m n = lnN T d m n
  | 0, _ => rfl
  | n + 1, h => by rw [lnN, lnN, lnN_S a d m n (by omega), a.2 _ (by omega) (by omega), a.2 _ (by omega) (by omega)]
theorem lnT_S (hT : twR T) (a : agS T T') (d m : Int) : lnT T' d m = lnT T d m := by
  have t := hT.2.2.1
  rw [lnT, lnT, a.2 261 (by omega) (by omega), lnN_S a d m _ (by omega)]
theorem bhP_S (hT : twR T) (a : agS T T') {s i : Int} (hs : 0 ≤ s ∧ s < 100) (hi : 0 ≤ i ∧ i < T 261) : bhP T' s i ↔ bhP T s i := by
  have t := hT.2.2.1
  have e := a.2
  have key : ∀ k, bhA T' s i k ↔ bhA T s i k := by
    intro k
    simp only [bhA]
    rw [e (264 + 5 * i) (by omega) (by omega), e (265 + 5 * i) (by omega) (by omega), e (266 + 5 * i) (by omega) (by omega)]
    generalize k * dxF (T (264 + 5 * i)) = x
    generalize k * dyF (T (264 + 5 * i)) = y
    constructor
    · rintro ⟨b1, b2, b3⟩
      rw [e _ (by omega) (by omega)] at b3
      exact ⟨b1, b2, b3⟩
    · rintro ⟨b1, b2, b3⟩
      refine ⟨b1, b2, ?_⟩
      rw [e _ (by omega) (by omega)]
      exact b3
  exact ⟨fun ⟨k, k1, k2, k3⟩ => ⟨k, k1, k2, (key k).mp k3⟩, fun ⟨k, k1, k2, k3⟩ => ⟨k, k1, k2, (key k).mpr k3⟩⟩
theorem dimP_S (hT : twR T) (a : agS T T') {d m s : Int} (hs : 0 ≤ s ∧ s < 100) : dimP T' vf d m s ↔ dimP T vf d m s := by
  simp only [dimP]
  rw [lnT_S hT a, clP_S hT a, a.2 s (by omega) (by omega)]
  have lr := lnT_rng (d := d) (m := m) hT
  by_cases l : lnT T d m < 0
  · exact ⟨fun _ => Or.inl l, fun _ => Or.inl l⟩
  · rw [bhP_S hT a hs ⟨by omega, lr.2⟩]
theorem wR_S {n : Nat} {w : Nat → Int64} {P Q : Int → Int → Prop} (h : wR n w P) (e : ∀ r s, 0 ≤ s → s < 100 → (Q r s ↔ P r s)) : wR n w Q := fun r s r0 r1 s0 s1 => by
  rw [h r s r0 r1 s0 s1]
  exact ⟨fun ⟨x, y⟩ => ⟨x, (e r s s0 x).mpr y⟩, fun ⟨x, y⟩ => ⟨x, (e r s s0 x).mp y⟩⟩
theorem skR_S {rw' gw cw sw : Nat → Int64} (h : skR T vf rw' gw nt ln cw sw) (hT : twR T) (a : agS T T') : skR T' vf rw' gw nt ln cw sw := by
  obtain ⟨h1, h2, h3, h4, h5, h6⟩ := h
  refine ⟨wR_S h1 (fun r s s0 s1 => by rw [a.2 s s0 (by omega)]), fun s w s0 s1 w0 w1 => ?_, h3, h4, fun d m d0 d1 m0 m1 => by rw [lnT_S hT a]; exact h5 d m d0 d1 m0 m1, wR_S h6 (fun r s s0 s1 => dimP_S hT a ⟨s0, s1⟩)⟩
  rw [h2 s w s0 s1 w0 w1]
  have r := stp_rng (s := s) (w := w) ⟨s0, s1⟩
  rcases r with r | r
  · rw [if_pos (Or.inl r), if_pos (Or.inl r)]
  · rw [a.2 _ r.1 (by omega)]
theorem dayI_S {sd : Int} {sy sn shA : Int → Int} (h : dayI T vf sd sy sn shA) (hT : twR T) (a : agS T T') : dayI T' vf sd sy sn shA := by
  refine ⟨h.1, h.2.1, h.2.2.1, h.2.2.2.1, fun z k k0 k1 => ?_⟩
  have q := h.2.2.2.2 z k k0 k1
  have e1 := dimP_S (vf := vf) hT a (d := sd) (m := k / 100) (s := k % 100) (by omega)
  have e2 := clP_S (vf := vf) hT a 4 sd (k / 100) (k % 100)
  rw [e1, e2]
  exact q
theorem tcR_S {sl al : Int} {aw sw : Nat → Int64} (h : tcR pl T vf sl al kd hg wks suns aw sw ww) (a : agS T T') : tcR pl T' vf sl al kd hg wks suns aw sw ww := by
  obtain ⟨⟨t1, t2, t3⟩, ⟨t4, t5, t6, t6'⟩, ⟨t7, t8, t9⟩, t10, t11⟩ := h
  have e200 := a.2 200 (by omega) (by omega)
  have t := t1.2.2.2.2.1
  refine ⟨⟨twR_S t1 a, wkOk_S t2 a, brR_S t3 a⟩, ⟨kdR_S t4 a, wkR2_S t5 a, suR_S t6 t1 a, t6'⟩, ⟨wR_S t7 (fun r s _ _ => by rw [clP_S t1 a]), wR_S t8 (fun r s _ _ => by rw [clP_S t1 a]), waR_S t9 a⟩, ?_, ?_⟩
  · rw [t10, e200]
    exact cntC_cong _ (fun i i0 i1 => by rw [a.2 _ (by omega) (by omega)])
  · rw [t11, e200]
    exact cntC_cong _ (fun i i0 i1 => by rw [a.2 _ (by omega) (by omega)])
theorem spO_S {sp : Int → Int} {z : Int} (h : spO T sp z) (a : agS T T') : spO T' sp z := ⟨h.1, fun i i0 i1 => by
  have q := h.2 i i0 i1
  exact ⟨q.1, by rw [a.2 _ q.1.1 (by omega)]; exact q.2.1, q.2.2⟩⟩
theorem twB_S {Z : TS} {ps fo td : Int} {pr fr tr : Int → Int} (h : twB pl T vf Z ps fo td pr fr tr) (a : agS T T') : twB pl T' vf Z ps fo td pr fr tr := by
  obtain ⟨sl, al, kd, hg, pc, fc, tc, ⟨k1, k2, k3, k4, k5, k6⟩, e2, t, c, sp, h6, h7⟩ := h
  exact ⟨sl, al, kd, hg, pc, fc, tc, ⟨k1, k2, k3, k4, by rw [a.2 424 (by omega) (by omega)]; exact k5, by rw [a.2 261 (by omega) (by omega)]; exact k6⟩, e2, tcR_S t a, c, spO_S sp a, h6, h7⟩
theorem twB_ch {Z : TS} {ps fo td : Int} {pr fr tr pr' fr' tr' : Int → Int} (h : twB pl T vf Z ps fo td pr fr tr) (hp : i32 pr' ∧ ∀ j, 0 ≤ j → j < ps → pr' j = pr j) (hf : i32 fr' ∧ ∀ j, 0 ≤ j → j < fo → fr' j = fr j) (ht : i32 tr' ∧ ∀ j, 0 ≤ j → j < td → tr' j = tr j) : twB pl T vf Z ps fo td pr' fr' tr' := by
  obtain ⟨sl, al, kd, hg, pc, fc, tc, e1, e2, t, ⟨c1, c2, c3⟩, sp, h6, h7⟩ := h
  exact ⟨sl, al, kd, hg, pc, fc, tc, e1, e2, t, ⟨⟨c1.1, c1.2.1, hp.1, fun j a b => by rw [hp.2 j a b]; exact c1.2.2.2 j a b⟩, ⟨c2.1, c2.2.1, hf.1, fun j a b => by rw [hf.2 j a b]; exact c2.2.2.2 j a b⟩, ⟨c3.1, c3.2.1, ht.1, fun j a b => by rw [ht.2 j a b]; exact c3.2.2.2 j a b⟩⟩, spO_cong hp.2 sp, fun j a b => by rw [hf.2 j a b]; exact h6 j a b, fun j a b => by rw [ht.2 j a b]; exact h7 j a b⟩
/-- a chain is copied -/
theorem p_chCopy {n : Nat} (hn : n < 1000) {f g : Int → Int} {z : Int} (hz : 0 ≤ z ∧ z ≤ n) (hf : i32 f) (hg : i32 g) {x1 : Int32} {post : Int32 → (Nat → Int32) → Prop} (h : ∀ g' : Int → Int, i32 g' → (∀ j, 0 ≤ j → j < z → g' j = f j) → post (zi z) (zA g')) : wp_X0_copy n n (zi z) (zA f) x1 (zA g) post := by
  simp only [wp_X0_copy]
  refine lp_inv (fun i st => ∃ g' : Int → Int, st = (zi (i : Int), zA g', zi (i : Int)) ∧ i32 g' ∧ ∀ j, 0 ≤ j → j < (i : Int) → g' j = f j) z.toNat ?_ ?_ 0 (Nat.zero_le _) ⟨g, rfl, hg, fun j a b => by omega⟩
  · rintro st ⟨g', rfl, h1, h2⟩ kb
    simp only [wp_X0_copy_L7]
    rw [zi_le (by omega)]
    refine ⟨fun _ => ?_, fun q => by omega⟩
    rw [show ((z.toNat : Nat) : Int) = z by omega] at h2 ⊢
    exact h g' h1 h2
  · rintro i hi st ⟨g', rfl, h1, h2⟩ kb hkb
    have hni : ((i + 1 : Nat) : Int) = (i : Int) + 1 := by omega
    simp only [wp_X0_copy_L7]
    rw [zi_le (by omega)]
    refine ⟨fun q => by omega, fun _ => ?_⟩
    refine p_at (by omega) hz (by omega) (fun _ _ => ?_) (fun q => absurd ⟨by omega, by omega⟩ q)
    refine p_add (by omega) (by omega) (fun _ => ?_) (fun q => by omega)
    simp only [forall_eq, zi_lit, zi_add]
    refine hkb _ ⟨_, by rw [hni], i32_up h1 (hf i), fun j a b => ?_⟩
    by_cases q : j = i
    · rw [q, upI_s]
    · rw [upI_n q]; exact h2 j a (by omega)
theorem hb_cpy {a w : Nat → Int64} {n : Nat} {r s : Int} (hr : 0 ≤ r ∧ 2 * r + 1 < (n : Int)) (hs : 0 ≤ s ∧ s < 128) : hb (va_cpy a w 0 0 n) r s = hb a r s := by
  simp only [hb]
  rw [pk_cpy_in (by omega) (by omega)]
  congr 2
  omega
theorem p_copyT {pl' : Pool} (hp : ∀ z ∈ pl, z ∈ pl') {Z : TS} {ps fo td : Int} {pr fr tr : Int → Int} (hB : twB pl T vf Z ps fo td pr fr tr) {x1 x2 x3 x4 x5 x6 x7 : Int32} {a1 a2 a3 a4 a5 : Nat → Int32} {w1 w2 w3 : Nat → Int64} {o1 o2 : Nat → Option Nat} {post : Int32 → Int32 → Int32 → Int32 → (Nat → Int32) → (Nat → Int32) → (Nat → Int64) → (Nat → Int64) → (Nat → Int64) → (Nat → Option Nat) → (Nat → Option Nat) → Int32 → (Nat → Int32) → Int32 → (Nat → Int32) → Int32 → (Nat → Int32) → Prop}
    (h : ∀ (u0 u1' u2 u3 : Int32) (b4 b5 : Nat → Int32) (c6 c7 c8 : Nat → Int64) (q9 q10 : Nat → Option Nat) (u11 : Int32) (b12 : Nat → Int32) (u13 : Int32) (b14 : Nat → Int32) (u15 : Int32) (b16 : Nat → Int32), (∀ Y : TS, (Y.1 0 = u0 ∧ Y.1 1 = u1' ∧ Y.1 2 = u2 ∧ Y.1 3 = u3 ∧ Y.1 4 = u11 ∧ Y.1 5 = u13 ∧ Y.1 6 = u15) → (Y.2.1 0 = b4 ∧ Y.2.1 1 = b5 ∧ Y.2.1 2 = b12 ∧ Y.2.1 3 = b14 ∧ Y.2.1 4 = b16) → (Y.2.2.1 0 = c6 ∧ Y.2.2.1 1 = c7 ∧ Y.2.2.1 2 = c8) → (Y.2.2.2 0 = q9 ∧ Y.2.2.2 1 = q10) → twB pl T vf Y ps fo td pr fr tr) → post u0 u1' u2 u3 b4 b5 c6 c7 c8 q9 q10 u11 b12 u13 b14 u15 b16) :
    wp_X8_copy pl' (TS.t_awningLines Z) (TS.t_shutLines Z) (TS.t_waterLines Z) (TS.t_sunLines Z) (TS.t_kinds Z) (TS.t_heights Z) (TS.t_awnings_words Z) (TS.t_shuts_words Z) (TS.t_water_words Z) (TS.t_suns Z) (TS.t_walkers Z) (TS.t_places_size Z) (TS.t_places_items Z) (TS.t_procession_size Z) (TS.t_procession_items Z) (TS.t_told_size Z) (TS.t_told_items Z) x1 x2 x3 x4 a1 a2 w1 w2 w3 o1 o2 x5 a3 x6 a4 x7 a5 post := by
  obtain ⟨sl, al, kd, hg, pc, fc, tc, ⟨k1, k2, k3, k4, k5, k6⟩, ⟨m1, m2, m3, m4, m5, m6⟩, ⟨tt, ⟨t4, t5, t6, t6'⟩, ⟨t7, t8, t9⟩, t10⟩, ⟨c1, c2, c3⟩, sp, h6, h7⟩ := hB
  obtain ⟨f1, rfl, j1⟩ := zA_ex a1
  obtain ⟨f2, rfl, j2⟩ := zA_ex a2
  obtain ⟨f3, rfl, j3⟩ := zA_ex a3
  obtain ⟨f4, rfl, j4⟩ := zA_ex a4
  obtain ⟨f5, rfl, j5⟩ := zA_ex a5
  have z0 : Int32.toNatClampNeg 0 = 0 := by decide
  have z100 : Int32.toNatClampNeg 100 = 100 := by decide
  simp only [wp_X8_copy, forall_eq, z0, z100]
  rw [k1, k2, m1, m2, m3, m4, m5, m6]
  refine ⟨by decide, by decide, ?_⟩
  rw [zA_cpy (by decide), zA_cpy (by decide), show (0 : Int32) = zi 0 from rfl]
  refine p_copyW (by decide) (by decide) (by omega) (by decide) ?_
  refine p_copyW (by decide) (by decide) (by omega) (by decide) ?_
  refine p_copyW (by decide) (by decide) (by omega) (by decide) ?_
  rw [show (2 * (0 : Int)).toNat = 0 from rfl]
  generalize hA1 : va_cpy (TS.t_awnings_words Z) w1 0 0 960 = v1
  generalize hA2 : va_cpy (TS.t_shuts_words Z) w2 0 0 960 = v2
  generalize hA3 : va_cpy (TS.t_water_words Z) w3 0 0 2 = v3
  refine lp_inv (fun i st => ∃ o : Nat → Option Nat, st = (x1, x2, x3, x4, zA (fun k => if 0 ≤ k ∧ k < ((100 : Nat) : Int) then kd k else f1 k), zA (fun k => if 0 ≤ k ∧ k < ((100 : Nat) : Int) then hg k else f2 k), v1, v2, v3, o, o2, x5, zA f3, x6, zA f4, x7, zA f5, zi (i : Int)) ∧ ∀ j, j < i → o j = TS.t_suns Z j) 24 ?_ ?_ 0 (Nat.zero_le _) ⟨o1, rfl, fun j hj => absurd hj (Nat.not_lt_zero _)⟩
  · rintro st ⟨o, rfl, ho⟩ kb
    simp (disch := omega) only [wp_X8_copy_L68, zi_lit, zi_le]
    refine ⟨fun _ => ?_, fun q => absurd (by decide) q⟩
    refine lp_inv (fun i st => ∃ o' : Nat → Option Nat, st = (x1, x2, x3, x4, zA (fun k => if 0 ≤ k ∧ k < ((100 : Nat) : Int) then kd k else f1 k), zA (fun k => if 0 ≤ k ∧ k < ((100 : Nat) : Int) then hg k else f2 k), v1, v2, v3, o, o', x5, zA f3, x6, zA f4, x7, zA f5, zi (i : Int)) ∧ ∀ j, j < i → o' j = TS.t_walkers Z j) 6 ?_ ?_ 0 (Nat.zero_le _) ⟨o2, rfl, fun j hj => absurd hj (Nat.not_lt_zero _)⟩
    · rintro st ⟨o', rfl, ho'⟩ kb2
      simp (disch := omega) only [wp_X8_copy_L94, zi_lit, zi_le]
      refine ⟨fun _ => ?_, fun q => absurd (by decide) q⟩
      refine p_chCopy (by decide) c1.1 c1.2.1 j3 (fun g3 i3 e3 => ?_)
      refine p_chCopy (by decide) c2.1 c2.2.1 j4 (fun g4 i4 e4 => ?_)
      refine p_chCopy (by decide) c3.1 c3.2.1 j5 (fun g5 i5 e5 => ?_)
      refine h _ _ _ _ _ _ _ _ _ _ _ _ _ _ _ _ _ (fun Y y1 y2 y3 y4 => ?_)
      obtain ⟨y10, y11, y12, y13, y14, y15, y16⟩ := y1
      obtain ⟨y20, y21, y22, y23, y24⟩ := y2
      obtain ⟨y30, y31, y32⟩ := y3
      obtain ⟨y40, y41⟩ := y4
      refine ⟨sl, al, fun k => if 0 ≤ k ∧ k < ((100 : Nat) : Int) then kd k else f1 k, fun k => if 0 ≤ k ∧ k < ((100 : Nat) : Int) then hg k else f2 k, g3, g4, g5, ⟨y20, y21, y10.trans k3, y11.trans k4, y12.trans k5, y13.trans k6⟩, ⟨y14, y22, y15, y23, y16, y24⟩, ⟨tt, ⟨⟨fun k => ?_, fun k => ?_, fun s s0 s1 => ?_⟩, fun wk a b => ?_, fun i i0 i1 => ?_, fun i hi v hv => ?_⟩, ⟨fun r s r0 r1 s0 s1 => ?_, fun r s r0 r1 s0 s1 => ?_, ⟨t9.1, fun s s0 s1 => ?_⟩⟩, t10⟩, ⟨⟨c1.1, i3, c1.2.2.1, fun j a b => by rw [e3 j a b]; exact c1.2.2.2 j a b⟩, ⟨c2.1, i4, c2.2.2.1, fun j a b => by rw [e4 j a b]; exact c2.2.2.2 j a b⟩, ⟨c3.1, i5, c3.2.2.1, fun j a b => by rw [e5 j a b]; exact c3.2.2.2 j a b⟩⟩, sp, h6, h7⟩
      · show -2147483648 ≤ (if _ then _ else _) ∧ (if _ then _ else _) < _
        split
        · exact t4.1 k
        · exact j1 k
      · show -2147483648 ≤ (if _ then _ else _) ∧ (if _ then _ else _) < _
        split
        · exact t4.2.1 k
        · exact j2 k
      · show (if _ then _ else _) = _ ∧ (if _ then _ else _) = _
        rw [if_pos (by omega), if_pos (by omega)]; exact t4.2.2 s s0 s1
      · show (_ → TS.t_walkers Y wk.toNat = none) ∧ (_ → ∃ q, TS.t_walkers Y wk.toNat = some q ∧ _)
        rw [show TS.t_walkers Y wk.toNat = TS.t_walkers Z wk.toNat from (congrFun y41 _).trans (ho' _ (by omega))]
        exact t5 wk a b
      · have tl := tt.1.2.2.1
        rw [show TS.t_suns Y i.toNat = TS.t_suns Z i.toNat from (congrFun y40 _).trans (ho _ (by omega))]
        exact t6 i i0 i1
      · rw [show TS.t_suns Y i = TS.t_suns Z i from (congrFun y40 _).trans (ho _ hi)] at hv
        exact t6' i hi v hv
      · rw [show TS.t_awnings_words Y = v1 from y30, ← hA1, hb_cpy ⟨r0, r1⟩ ⟨s0, s1⟩]
        exact t7 r s r0 r1 s0 s1
      · rw [show TS.t_shuts_words Y = v2 from y31, ← hA2, hb_cpy ⟨r0, r1⟩ ⟨s0, s1⟩]
        exact t8 r s r0 r1 s0 s1
      · rw [show TS.t_water_words Y = v3 from y32, ← hA3, watF, hbs, hb_cpy (by decide) (by omega)]
        have := t9.2 s s0 s1
        rw [watF, hbs] at this
        exact this
    · rintro i hi st ⟨o', rfl, ho'⟩ kb2 hkb2
      have hni : ((i + 1 : Nat) : Int) = (i : Int) + 1 := by omega
      have w := t5 i (by omega) (by omega)
      rw [Int.toNat_natCast] at w
      simp (disch := omega) only [wp_X8_copy_L94, zi_lit, zi_le, forall_eq, zi_in, zi_add, zi_cl, Int.toNat_natCast]
      refine ⟨fun q => by omega, fun _ => ⟨by omega, fun v hv => ?_, by omega, hkb2 _ ⟨_, by rw [hni], fun j hj => ?_⟩⟩⟩
      · by_cases q : 0 < T (382 + 7 * i)
        · obtain ⟨u, u1', u2⟩ := w.2 q
          rw [u1'] at hv
          cases hv
          exact ⟨_, hp _ u2⟩
        · rw [w.1 q] at hv; exact absurd hv (by simp)
      · by_cases q : j = i
        · rw [q, va_up_self]
        · rw [va_up_ne _ _ q]; exact ho' j (by omega)
  · rintro i hi st ⟨o, rfl, ho⟩ kb hkb
    have hni : ((i + 1 : Nat) : Int) = (i : Int) + 1 := by omega
    simp (disch := omega) only [wp_X8_copy_L68, zi_lit, zi_le, forall_eq, zi_in, zi_add, zi_cl, Int.toNat_natCast]
    refine ⟨fun q => by omega, fun _ => ⟨by omega, fun v hv => ?_, by omega, hkb _ ⟨_, by rw [hni], fun j hj => ?_⟩⟩⟩
    · obtain ⟨vs, h1⟩ := t6' i hi v hv
      exact ⟨vs, hp _ h1⟩
    · by_cases q : j = i
      · rw [q, va_up_self]
      · rw [va_up_ne _ _ q]; exact ho j (by omega)
end SG
