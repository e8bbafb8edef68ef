/-! judged: the reference -/
section JR
variable {tw : Int → Int} {vf : Int → Int → Int → Int32} {ww : Nat → Int64} {op arg : Nat → Int32}
theorem p_whyNotR (hT : twR tw) {sh : Int → Int} (hsh : i32 sh) {p mm s w : Int} (hp : 1 ≤ p ∧ p ≤ 3) (hm : 0 ≤ mm ∧ mm < 120) (hs : 0 ≤ s ∧ s < 100) (hw : 0 ≤ w ∧ w ≤ 4) {post : Int32 → Prop} (h : post (zi (whF tw sh p mm s w))) : wp_X12_whyNot (zA tw) (zA sh) (zi mm) (zi s) (zi w) (zi p) post := by
  have key : ∀ g : Int, (g = if w = 4 then s else stp s w) → wp_X12_whyNot_b14 (zA tw) (zA sh) post (zi mm) (zi w) (zi p) (zi g) := by
    intro g hg'
    have sr := stp_rng (w := w) hs
    have gr : g = -1 ∨ (0 ≤ g ∧ g < 100) := by split at hg' <;> omega
    have tg := hT.1 g
    simp only [whF] at h
    rw [← hg'] at h
    have b28 : ∀ l : Int, l = plen w p → wp_X12_whyNot_b28 (zA tw) (zA sh) post (zi w) (zi g) (zi l) (zi mm) := by
      intro l hl
      have pr := plen_rng (w := w) hp
      rw [← hl] at h pr
      have si := hsh (100 * (mm + l) + g)
      simp (disch := omega) only [wp_X12_whyNot_b28, forall_eq, zi_lit, zi_neg, zi_add, zi_eq]
      refine ⟨fun q => ?_, fun q => ?_⟩
      · rw [if_neg q] at h
        simp (disch := omega) only [zi_in, zA_get, zi_eq, zi_le, zi_mul, zi_add]
        refine ⟨by omega, fun o => ?_, fun o => ?_⟩
        · rw [if_neg o] at h
          refine ⟨fun x => ?_, fun x => ?_⟩
          · rw [if_neg (by omega)] at h
            refine ⟨fun w4 => ?_, fun w4 => ?_⟩
            · rw [if_neg (fun z => z.1 w4)] at h; exact h
            · refine ⟨by omega, fun e => ?_, fun e => ?_⟩
              · rw [if_neg (fun z => z.2 e)] at h; exact h
              · rw [if_pos ⟨w4, e⟩] at h; exact h
          · rw [if_pos (by omega)] at h; exact h
        · rw [if_pos o] at h; exact h
      · rw [if_pos q] at h; exact h
    simp only [wp_X12_whyNot_b14]
    rw [show (4 : Int32) = zi 4 from rfl, zi_eq (by omega)]
    refine ⟨fun w4 => b28 p (by rw [plen, if_neg w4]), fun w4 => b28 1 (by rw [plen, if_pos w4])⟩
  simp only [wp_X12_whyNot]
  rw [show (4 : Int32) = zi 4 from rfl, zi_eq (by omega)]
  refine ⟨fun w4 => ?_, fun w4 => key s (by rw [if_pos w4])⟩
  refine p_stepTo hs (by omega) ?_
  exact key _ (by rw [if_neg w4])
theorem p_judgedR (hT : twR tw) (hW : wkOk tw) (hC : clR tw op arg vf) (hwa : waR tw ww) {sd : Int} {sy sn shA : Int → Int} (hD : dayI tw vf sd sy sn shA) {tl g : Int → Int} {T wk d m fr w : Int} (hT0 : 0 ≤ T ∧ T ≤ 60) (hgl : ∀ j, 0 ≤ j → j < T → g j = tl j ∧ 0 ≤ tl j ∧ tl j ≤ 4) (a1 : ir wk) (a2 : ir d) (a3 : ir m) (a4 : ir fr) (a6 : ir w) {th : Int32} {facts pile : Nat → Int32} {post : Int32 → Int32 → Int32 → (Nat → Int32) → (Nat → Int32) → (Nat → Int32) → (Nat → Int32) → (Nat → Int32) → Prop}
    (h1 : ∀ v, judgedO tw vf ww tl T wk d m fr w = some v → ∀ (sd' : Int) (sy' sn' shA' : Int → Int) (f p : Nat → Int32), dayI tw vf sd' sy' sn' shA' → post (zi v) 0 (zi sd') (zA sy') (zA sn') (zA shA') f p)
    (h0 : judgedO tw vf ww tl T wk d m fr w = none → ∀ (sd' : Int) (sy' sn' shA' : Int → Int) (f p : Nat → Int32), dayI tw vf sd' sy' sn' shA' → post 0 1 (zi sd') (zA sy') (zA sn') (zA shA') f p) :
    wp_X12_judged (zi T) (zA tw) op arg (zA g) th (zi sd) (zA sy) (zA sn) (zA shA) facts pile (zi wk) (zi d) (zi m) (zi fr) (zi w) post := by
  have b6 := a6
  simp only [ir] at b6
  have no : judgedO tw vf ww tl T wk d m fr w = none → wp_X12_judged_b47 (zi T) (zA tw) op arg (zA g) post th (zi sd) (zA sy) (zA sn) (zA shA) facts pile (zi wk) (zi d) (zi m) (zi fr) (zi w) := by
    intro z
    simp only [wp_X12_judged_b47, wp_X12_judged_b48]
    exact ⟨fun y => absurd y (by decide), fun _ => h0 z _ _ _ _ _ _ hD⟩
  simp only [wp_X12_judged]
  refine p_isWalkerR hT.1 a1 (fun q1 => ⟨fun z => absurd z (by decide), fun _ => ?_⟩) (fun q1 => ⟨fun _ => no (by rw [judgedO, if_neg (fun y => q1 y.1.1)]), fun z => absurd rfl z⟩)
  refine p_isDayR a2 (fun q2 => ⟨fun z => absurd z (by decide), fun _ => ?_⟩) (fun q2 => ⟨fun _ => no (by rw [judgedO, if_neg (fun y => q2 y.1.2.1)]), fun z => absurd rfl z⟩)
  refine p_isMinuteR a3 (fun q3 => ⟨fun z => absurd z (by decide), fun _ => ?_⟩) (fun q3 => ⟨fun _ => no (by rw [judgedO, if_neg (fun y => q3 y.1.2.2.1)]), fun z => absurd rfl z⟩)
  refine p_isPlaceR hT.1 a4 (fun q4 => ⟨fun z => absurd z (by decide), fun _ => ?_⟩) (fun q4 => ⟨fun _ => no (by rw [judgedO, if_neg (fun y => q4 y.1.2.2.2.1)]), fun z => absurd rfl z⟩)
  rw [show (0 : Int32) = zi 0 from rfl, show (6 : Int32) = zi 6 from rfl]
  refine p_within a6 (by omega) (by omega) (fun q5 => ⟨fun z => absurd z (by decide), fun _ => ?_⟩) (fun q5 => ⟨fun _ => no (by rw [judgedO, if_neg (fun y => q5 y.2)]), fun z => absurd rfl z⟩)
  have t : tripP tw wk d m fr fr := ⟨q1, q2, q3, q4, q4⟩
  have wo := hW wk q1.1.1 q1.1.2 q1.2
  simp only [wp_X12_judged_b48]
  refine ⟨fun _ => ?_, fun z => absurd (by decide) z⟩
  refine p_laysDay hT hC q2 hD.1 hD.2.2.1 hD.2.2.2.1 hD.2.2.2.2 hD.2.1 (fun sy' sn' shA' fa pi i1 i2 dr => ?_)
  obtain ⟨syf, rfl, i3⟩ := zA_ex sy'
  have hshI : i32 shA' := i2
  have hD' : dayI tw vf d syf sn' shA' := ⟨by omega, i3, i1, i2, fun _ => dr⟩
  have hcs : ∀ k, 0 ≤ k → k < 12000 → sn' k = snC tw vf d k ∧ shA' k = shC tw vf d k := fun k a b => dayR_C dr a b
  rw [show (3 : Int32) = zi 3 from rfl]
  refine p_walkerOf (i := 3) q1.1 (by omega) ?_
  rw [show 383 + 7 * wk + 3 = 386 + 7 * wk by omega]
  have tls : ∀ n : Nat, (n : Int) ≤ T → ∀ j, 0 ≤ j → j < (n : Int) → 0 ≤ tl j ∧ tl j ≤ 4 := fun n hn j a b => (hgl j a (by omega)).2
  have JI := fun (n : Nat) (hn : (n : Int) ≤ T) => jg_I (tw := tw) (sh := shC tw vf d) (tl := tl) wo.1 q3 q4.1 q4.2 n (tls n hn)
  have V : ∀ v, v = judgedV tw vf ww wk d m w (jg tw (shC tw vf d) tl (tw (383 + 7 * wk)) m fr T.toNat) (jp tw (shC tw vf d) tl (tw (383 + 7 * wk)) m fr T.toNat) → judgedO tw vf ww tl T wk d m fr w = some v := fun v hv => by rw [judgedO, if_pos ⟨t, q5⟩, hv]
  have old := fun (n : Nat) (hn : n ≤ T.toNat) (j : Int) (b : j < (jg tw (shC tw vf d) tl (tw (383 + 7 * wk)) m fr n).2.2.1) => jp_old (tw := tw) (sh := shC tw vf d) (tl := tl) wo.1 q3 q4.1 q4.2 hn (tls T.toNat (by omega)) b
  have jat := fun (n : Nat) (hn : n < T.toNat) (q : (jg tw (shC tw vf d) tl (tw (383 + 7 * wk)) m fr n).1 = 0) (q2 : whF tw (shC tw vf d) (tw (383 + 7 * wk)) (jg tw (shC tw vf d) tl (tw (383 + 7 * wk)) m fr n).2.2.1 (jg tw (shC tw vf d) tl (tw (383 + 7 * wk)) m fr n).2.2.2 (tl n) = 0) (j : Int) (a : (jg tw (shC tw vf d) tl (tw (383 + 7 * wk)) m fr n).2.2.1 ≤ j) (b : j < (jg tw (shC tw vf d) tl (tw (383 + 7 * wk)) m fr n).2.2.1 + plen (tl n) (tw (383 + 7 * wk))) => jp_at (tw := tw) (sh := shC tw vf d) (tl := tl) wo.1 q3 q4.1 q4.2 hn (tls T.toNat (by omega)) q q2 a b
  have JT := JI T.toNat (by omega)
  have stable : ∀ k n : Nat, (jg tw (shC tw vf d) tl (tw (383 + 7 * wk)) m fr n).1 ≠ 0 → jg tw (shC tw vf d) tl (tw (383 + 7 * wk)) m fr (n + k) = jg tw (shC tw vf d) tl (tw (383 + 7 * wk)) m fr n := by
    intro k n hq
    induction k with
    | zero => rfl
    | succ k ih => rw [← Nat.add_assoc, jg_stay (by rw [ih]; exact hq)]; exact ih
  generalize jp tw (shC tw vf d) tl (tw (383 + 7 * wk)) m fr T.toNat = P at *
  /- the running values at a minute -/
  have sunR : ∀ n : Nat, 0 ≤ jsun tw vf d P n ∧ jsun tw vf d P n ≤ n := fun n => cntC_rng _ n
  have sun0 : ∀ n : Nat, (n : Int) ≤ m → jsun tw vf d P n = 0 := fun n hn => by
    have := cntC_stop (P := fun j => P j ≠ -1 ∧ snC tw vf d (100 * j + P j) = 1) (a := 0) n (fun j a b z => z.1 (JT.2.2.2.2.2.2.1 j (by omega)))
    rw [Nat.zero_add] at this
    exact this
  have sunS : ∀ n : Nat, jsun tw vf d P (n + 1) = jsun tw vf d P n + @ite Int (P n ≠ -1 ∧ snC tw vf d (100 * n + P n) = 1) (Classical.propDecidable _) 1 0 := fun n => rfl
  have sunB : ∀ k : Nat, jsun tw vf d P (m.toNat + k) ≤ k := fun k => by
    induction k with
    | zero => rw [Nat.add_zero, sun0 _ (by omega)]; omega
    | succ k ih =>
      rw [← Nat.add_assoc, sunS]
      split <;> omega
  have mr := fun (i : Nat) => mF_rng (sn := snC tw vf d) (P := P) (ww := ww) (m := m) (mends := tw (385 + 7 * wk)) (by omega) i
  have fin : ∀ (n : Nat), n ≤ T.toNat → jg tw (shC tw vf d) tl (tw (383 + 7 * wk)) m fr n = jg tw (shC tw vf d) tl (tw (383 + 7 * wk)) m fr T.toNat → wp_X12_judged_b335 (zi T) (zA tw) op arg (zA g) post (zi 0) (zi d) (zA syf) (zA sn') (zA shA') fa pi (zi w) (zi (if (jg tw (shC tw vf d) tl (tw (383 + 7 * wk)) m fr n).1 = 0 then -1 else (jg tw (shC tw vf d) tl (tw (383 + 7 * wk)) m fr n).2.1)) (zi (jg tw (shC tw vf d) tl (tw (383 + 7 * wk)) m fr n).1) (zi (jsun tw vf d P (jg tw (shC tw vf d) tl (tw (383 + 7 * wk)) m fr n).2.2.1.toNat)) (zi (mF (snC tw vf d) P ww (tw (385 + 7 * wk)) m ((jg tw (shC tw vf d) tl (tw (383 + 7 * wk)) m fr n).2.2.1 - m).toNat).2) (zi (tw (386 + 7 * wk) - tw (387 + 7 * wk) * jsun tw vf d P (jg tw (shC tw vf d) tl (tw (383 + 7 * wk)) m fr n).2.2.1.toNat - tw (388 + 7 * wk) * ((jg tw (shC tw vf d) tl (tw (383 + 7 * wk)) m fr n).2.2.1 - m - jsun tw vf d P (jg tw (shC tw vf d) tl (tw (383 + 7 * wk)) m fr n).2.2.1.toNat))) (zi (jg tw (shC tw vf d) tl (tw (383 + 7 * wk)) m fr n).2.2.1) (zi (jg tw (shC tw vf d) tl (tw (383 + 7 * wk)) m fr n).2.2.2) := by
    intro n hn e
    rw [e]
    generalize jg tw (shC tw vf d) tl (tw (383 + 7 * wk)) m fr T.toNat = Q at *
    obtain ⟨j1, j2, j3, j4, j5, j6, j7, j8⟩ := JT
    have e1 : jsun tw vf d P Q.2.2.1.toNat = jsun tw vf d P 120 := by
      have := cntC_stop (P := fun j => P j ≠ -1 ∧ snC tw vf d (100 * j + P j) = 1) (a := Q.2.2.1.toNat) (120 - Q.2.2.1.toNat) (fun j a b z => z.1 (j7 j (by omega)))
      rw [show Q.2.2.1.toNat + (120 - Q.2.2.1.toNat) = 120 by omega] at this
      exact this.symm
    have sB := sunB (Q.2.2.1.toNat - m.toNat)
    rw [show m.toNat + (Q.2.2.1.toNat - m.toNat) = Q.2.2.1.toNat by omega, e1] at sB
    have sR := sunR 120
    have mr1 := mul_rng (a := tw (387 + 7 * wk)) (b := jsun tw vf d P 120) wo.2.2.2.2.1 (by omega)
    have mr2 := mul_rng (a := tw (388 + 7 * wk)) (b := Q.2.2.1 - m - jsun tw vf d P 120) wo.2.2.2.2.2 (by omega)
    have ice := wo.2.2.2.1
    rw [e1]
    simp only [wp_X12_judged_b335, zi_lit]
    rw [zi_eq (by omega), zi_eq (by omega), zi_eq (by omega), zi_eq (by omega), zi_eq (by omega), zi_eq (by omega), zi_le (by omega)]
    refine ⟨fun w0 => h1 _ (V _ (by rw [judgedV, if_pos w0])) _ _ _ _ _ _ hD', fun w1 => h1 _ (V _ (by rw [judgedV, if_neg (by omega), if_pos w1])) _ _ _ _ _ _ hD', fun w2 => h1 _ (V _ (by rw [judgedV, if_neg (by omega), if_neg (by omega), if_pos w2])) _ _ _ _ _ _ hD', fun w3 => h1 _ (V _ (by rw [judgedV, if_neg (by omega), if_neg (by omega), if_neg (by omega), if_pos w3])) _ _ _ _ _ _ hD', fun w4 => ⟨fun y => ?_, fun y => ?_⟩, fun w5 => h1 _ (V _ (by rw [judgedV, if_neg (by omega), if_neg (by omega), if_neg (by omega), if_neg (by omega), if_neg (by omega), if_pos w5])) _ _ _ _ _ _ hD', fun n0 n1 n2 n3 n4 n5 => h1 _ (V _ (by rw [judgedV, if_neg n0, if_neg n1, if_neg n2, if_neg n3, if_neg n4, if_neg n5])) _ _ _ _ _ _ hD'⟩
    · refine h1 _ (V _ ?_) _ _ _ _ _ _ hD'
      rw [judgedV, if_neg (by omega), if_neg (by omega), if_neg (by omega), if_neg (by omega), if_pos w4]
      split <;> omega
    · refine h1 0 (V _ ?_) _ _ _ _ _ _ hD'
      rw [judgedV, if_neg (by omega), if_neg (by omega), if_neg (by omega), if_neg (by omega), if_pos w4, if_neg (by omega)]
  /- a minute -/
  have ice := wo.2.2.2.1
  have r387 := wo.2.2.2.2.1
  have r388 := wo.2.2.2.2.2
  have mend := wo.2.2.1
  have iceR : ∀ k : Nat, k ≤ 120 → 0 ≤ tw (387 + 7 * wk) * jsun tw vf d P (m.toNat + k) ∧ tw (387 + 7 * wk) * jsun tw vf d P (m.toNat + k) ≤ 19800 ∧ 0 ≤ tw (388 + 7 * wk) * (k - jsun tw vf d P (m.toNat + k)) ∧ tw (388 + 7 * wk) * (k - jsun tw vf d P (m.toNat + k)) ≤ 19800 := fun k hk => by
    have sB := sunB k
    have sR := sunR (m.toNat + k)
    have mr1 := mul_rng (a := tw (387 + 7 * wk)) (b := jsun tw vf d P (m.toNat + k)) r387 (by omega)
    have mr2 := mul_rng (a := tw (388 + 7 * wk)) (b := k - jsun tw vf d P (m.toNat + k)) r388 (by omega)
    exact ⟨mr1.1, mr1.2, mr2.1, mr2.2⟩
  have inner : ∀ (x292 : Int32 → Int32 → (Nat → Int32) → (Nat → Int32) → (Nat → Int32) → (Nat → Int32) → (Nat → Int32) → Int32 → Int32 → Int32 → Int32 → Int32 → Int32 → Int32 → Int32 → Int32 → Int32 → Int32 → Int32 → Prop) (k0 L : Nat) (s n' w' : Int), 1 ≤ L → m.toNat + k0 + L ≤ 119 → (0 ≤ s ∧ s < 100) → (∀ k : Nat, k0 ≤ k → k < k0 + L → P (m + k) = s) →
      x292 (zi 0) (zi d) (zA syf) (zA sn') (zA shA') fa pi (zi wk) (zi w) (zi (-1)) (zi 0) (zi (jsun tw vf d P (m.toNat + (k0 + L)))) (zi (mF (snC tw vf d) P ww (tw (385 + 7 * wk)) m (k0 + L)).1) (zi (mF (snC tw vf d) P ww (tw (385 + 7 * wk)) m (k0 + L)).2) (zi (tw (386 + 7 * wk) - tw (387 + 7 * wk) * jsun tw vf d P (m.toNat + (k0 + L)) - tw (388 + 7 * wk) * ((k0 + L : Nat) - jsun tw vf d P (m.toNat + (k0 + L))))) (zi (m + (k0 + L : Nat))) (zi s) (zi n') (zi w') →
      ∃ j, lp (wp_X12_judged_L183 x292 (zi T) (zA tw) op arg (zA g) post) j (zi 0, zi d, zA syf, zA sn', zA shA', fa, pi, zi wk, zi w, zi (-1), zi 0, zi (jsun tw vf d P (m.toNat + k0)), zi (h0F P ww m k0 (mF (snC tw vf d) P ww (tw (385 + 7 * wk)) m k0).1), zi (mF (snC tw vf d) P ww (tw (385 + 7 * wk)) m k0).2, zi (tw (386 + 7 * wk) - tw (387 + 7 * wk) * jsun tw vf d P (m.toNat + k0) - tw (388 + 7 * wk) * (k0 - jsun tw vf d P (m.toNat + k0))), zi (m + k0), zi s, zi n', zi w', zi (m + (k0 + L : Nat))) := by
    intro x292 k0 L s n' w' hL hb hs hP hx
    refine lp_inv (fun i st => ∃ h : Int, st = (zi 0, zi d, zA syf, zA sn', zA shA', fa, pi, zi wk, zi w, zi (-1), zi 0, zi (jsun tw vf d P (m.toNat + (k0 + i))), zi h, zi (mF (snC tw vf d) P ww (tw (385 + 7 * wk)) m (k0 + i)).2, zi (tw (386 + 7 * wk) - tw (387 + 7 * wk) * jsun tw vf d P (m.toNat + (k0 + i)) - tw (388 + 7 * wk) * ((k0 + i : Nat) - jsun tw vf d P (m.toNat + (k0 + i)))), zi (m + (k0 + i : Nat)), zi s, zi n', zi w', zi (m + (k0 + L : Nat))) ∧ (i < L → h = h0F P ww m (k0 + i) (mF (snC tw vf d) P ww (tw (385 + 7 * wk)) m (k0 + i)).1) ∧ (i = L → h = (mF (snC tw vf d) P ww (tw (385 + 7 * wk)) m (k0 + i)).1)) L ?_ ?_ 0 (Nat.zero_le _) ?_
    · rintro st ⟨h, rfl, -, hh⟩ k
      simp only [wp_X12_judged_L183]
      rw [zi_le (by omega)]
      refine ⟨fun _ => ?_, fun z => absurd (Int.le_refl _) z⟩
      rw [hh rfl]
      exact hx
    · rintro i hi st ⟨h, rfl, hh, -⟩ k hk
      have hh := hh hi
      have sr := snC_01 tw vf d (100 * (m + (k0 + i : Nat)) + s)
      have hPi := hP (k0 + i) (by omega) (by omega)
      have mri := mr (k0 + i)
      have hr := h0F_rng (P := P) (ww := ww) (m := m) (i := k0 + i) mri.1.1
      rw [← hh] at hr
      have sR := sunR (m.toNat + (k0 + i))
      have iR := iceR (k0 + i) (by omega)
      have iR' := iceR (k0 + i + 1) (by omega)
      have eS : jsun tw vf d P (m.toNat + (k0 + i + 1)) = jsun tw vf d P (m.toNat + (k0 + i)) + snC tw vf d (100 * (m + (k0 + i : Nat)) + s) := by
        rw [← Nat.add_assoc, sunS, show ((m.toNat + (k0 + i) : Nat) : Int) = m + (k0 + i : Nat) by omega, hPi]
        rcases sr with ⟨y, -⟩ | ⟨y, -⟩
        · rw [if_neg (fun z => by have := z.2; omega), y]
        · rw [if_pos ⟨by omega, y⟩, y]
      have eM := mF_s (snC tw vf d) P ww (tw (385 + 7 * wk)) m (k0 + i)
      rw [hPi, ← hh] at eM
      have nxt : ∀ (w2 : Int), w2 = (mF (snC tw vf d) P ww (tw (385 + 7 * wk)) m (k0 + (i + 1))).1 → ∀ ic : Int, ic = tw (386 + 7 * wk) - tw (387 + 7 * wk) * jsun tw vf d P (m.toNat + (k0 + (i + 1))) - tw (388 + 7 * wk) * ((k0 + (i + 1) : Nat) - jsun tw vf d P (m.toNat + (k0 + (i + 1)))) → k (zi 0, zi d, zA syf, zA sn', zA shA', fa, pi, zi wk, zi w, zi (-1), zi 0, zi (jsun tw vf d P (m.toNat + (k0 + (i + 1)))), zi w2, zi (mF (snC tw vf d) P ww (tw (385 + 7 * wk)) m (k0 + (i + 1))).2, zi ic, zi (m + (k0 + i : Nat) + 1), zi s, zi n', zi w', zi (m + (k0 + L : Nat))) := by
        intro w2 e2 ic e3
        refine hk _ ⟨w2, by rw [e3, show m + ((k0 + i : Nat) : Int) + 1 = m + ((k0 + (i + 1) : Nat) : Int) by omega], fun hl => ?_, fun _ => e2⟩
        rw [e2, h0F, if_neg (fun z => z.2.1 (by rw [hP (k0 + (i + 1)) (by omega) (by omega), show m + ((k0 + (i + 1) : Nat) : Int) - 1 = m + ((k0 + i : Nat) : Int) by omega, hPi]))]
      have b264 : ∀ h' mo : Int, h' = (mF (snC tw vf d) P ww (tw (385 + 7 * wk)) m (k0 + (i + 1))).1 → mo = (mF (snC tw vf d) P ww (tw (385 + 7 * wk)) m (k0 + (i + 1))).2 → wp_X12_judged_b264 x292 k (zi T) (zA tw) op arg (zA g) post (zi 0) (zi d) (zA syf) (zA sn') (zA shA') fa pi (zi wk) (zi w) (zi (-1)) (zi 0) (zi (jsun tw vf d P (m.toNat + (k0 + (i + 1))))) (zi h') (zi (tw (386 + 7 * wk) - tw (387 + 7 * wk) * jsun tw vf d P (m.toNat + (k0 + i)) - tw (388 + 7 * wk) * ((k0 + i : Nat) - jsun tw vf d P (m.toNat + (k0 + i))))) (zi (m + (k0 + i : Nat))) (zi s) (zi n') (zi w') (zi (m + (k0 + L : Nat))) (zi (snC tw vf d (100 * (m + (k0 + i : Nat)) + s))) (zi mo) := by
        intro h' mo e1 e2
        simp only [wp_X12_judged_b264, wp_X12_judged_b280, zi_lit]
        rw [zi_le (by omega)]
        refine ⟨fun z => ?_, fun z => ?_⟩
        · refine p_walkerOf (i := 5) q1.1 (by omega) ?_
          rw [show 383 + 7 * wk + 5 = 388 + 7 * wk by omega]
          simp (disch := omega) only [forall_eq, zi_sub, zi_add]
          subst e2
          refine nxt h' e1 _ ?_
          have x0 : snC tw vf d (100 * (m + (k0 + i : Nat)) + s) = 0 := by omega
          rw [show k0 + (i + 1) = k0 + i + 1 from rfl, eS, x0, Int.add_zero, show ((k0 + i + 1 : Nat) : Int) - jsun tw vf d P (m.toNat + (k0 + i)) = ((k0 + i : Nat) - jsun tw vf d P (m.toNat + (k0 + i))) + 1 by omega, Int.mul_add, Int.mul_one]
          omega
        · refine p_walkerOf (i := 4) q1.1 (by omega) ?_
          rw [show 383 + 7 * wk + 4 = 387 + 7 * wk by omega]
          simp (disch := omega) only [forall_eq, zi_sub, zi_add]
          subst e2
          refine nxt h' e1 _ ?_
          have x1 : snC tw vf d (100 * (m + (k0 + i : Nat)) + s) = 1 := by omega
          rw [show k0 + (i + 1) = k0 + i + 1 from rfl, eS, x1, show ((k0 + i + 1 : Nat) : Int) - (jsun tw vf d P (m.toNat + (k0 + i)) + 1) = ((k0 + i : Nat) - jsun tw vf d P (m.toNat + (k0 + i))) by omega, Int.mul_add, Int.mul_one]
          omega
      have b248 : ∀ h' : Int, h' = (mF (snC tw vf d) P ww (tw (385 + 7 * wk)) m (k0 + (i + 1))).1 → wp_X12_judged_b248 x292 k (zi T) (zA tw) op arg (zA g) post (zi 0) (zi d) (zA syf) (zA sn') (zA shA') fa pi (zi wk) (zi w) (zi (-1)) (zi 0) (zi (jsun tw vf d P (m.toNat + (k0 + (i + 1))))) (zi (mF (snC tw vf d) P ww (tw (385 + 7 * wk)) m (k0 + i)).2) (zi (tw (386 + 7 * wk) - tw (387 + 7 * wk) * jsun tw vf d P (m.toNat + (k0 + i)) - tw (388 + 7 * wk) * ((k0 + i : Nat) - jsun tw vf d P (m.toNat + (k0 + i))))) (zi (m + (k0 + i : Nat))) (zi s) (zi n') (zi w') (zi (m + (k0 + L : Nat))) (zi (snC tw vf d (100 * (m + (k0 + i : Nat)) + s))) (zi h') := by
        intro h' e1
        have mr1 := mr (k0 + (i + 1))
        simp only [wp_X12_judged_b248]
        rw [zi_le (by omega)]
        have e2 : (mF (snC tw vf d) P ww (tw (385 + 7 * wk)) m (k0 + (i + 1))).2 = if (mF (snC tw vf d) P ww (tw (385 + 7 * wk)) m (k0 + i)).2 < h' then h' else (mF (snC tw vf d) P ww (tw (385 + 7 * wk)) m (k0 + i)).2 := by
          rw [e1, ← Nat.add_assoc, eM]
        refine ⟨fun z => b264 h' _ e1 ?_, fun z => b264 h' _ e1 ?_⟩
        · rw [e2, if_neg (by omega)]
        · rw [e2, if_pos (by omega)]
      have eH : (mF (snC tw vf d) P ww (tw (385 + 7 * wk)) m (k0 + (i + 1))).1 = ht1 (snC tw vf d (100 * (m + (k0 + i : Nat)) + s)) (tw (385 + 7 * wk)) h := by rw [← Nat.add_assoc, eM]
      have sv := (hcs (100 * (m + (k0 + i : Nat)) + s) (by omega) (by omega)).1
      simp only [wp_X12_judged_L183, zi_lit]
      rw [zi_le (by omega)]
      refine ⟨fun z => absurd z (by omega), fun _ => ?_⟩
      simp (disch := omega) only [forall_eq, zi_mul, zi_add, zi_in, zA_get]
      rw [sv]
      refine ⟨by omega, ?_⟩
      simp (disch := omega) only [zi_add, zi_le]
      rw [show jsun tw vf d P (m.toNat + (k0 + i)) + snC tw vf d (100 * (m + (k0 + i : Nat)) + s) = jsun tw vf d P (m.toNat + (k0 + (i + 1))) by rw [← Nat.add_assoc k0, eS]]
      refine ⟨fun z => ?_, fun z => ?_⟩
      · refine p_walkerOf (i := 2) q1.1 (by omega) ?_
        rw [show 383 + 7 * wk + 2 = 385 + 7 * wk by omega]
        rw [zi_le (by omega)]
        refine ⟨fun y => b248 0 ?_, fun y => ?_⟩
        · rw [eH, ht1, if_pos (by omega), if_neg (by omega)]
        · refine p_walkerOf (i := 2) q1.1 (by omega) ?_
          rw [show 383 + 7 * wk + 2 = 385 + 7 * wk by omega]
          simp (disch := omega) only [zi_sub]
          refine b248 _ ?_
          rw [eH, ht1, if_pos (by omega), if_pos (by omega)]
      · refine b248 _ ?_
        rw [eH, ht1, if_neg (by omega)]
    · exact ⟨_, rfl, fun _ => rfl, fun z => by omega⟩
  have go : ∀ n : Nat, (jg tw (shC tw vf d) tl (tw (383 + 7 * wk)) m fr (n + 1)).1 = 0 → (jg tw (shC tw vf d) tl (tw (383 + 7 * wk)) m fr n).1 = 0 ∧ whF tw (shC tw vf d) (tw (383 + 7 * wk)) (jg tw (shC tw vf d) tl (tw (383 + 7 * wk)) m fr n).2.2.1 (jg tw (shC tw vf d) tl (tw (383 + 7 * wk)) m fr n).2.2.2 (tl n) = 0 := by
    intro n hq
    have q : (jg tw (shC tw vf d) tl (tw (383 + 7 * wk)) m fr n).1 = 0 := Classical.byContradiction fun z => by rw [jg_stay z] at hq; exact z hq
    exact ⟨q, Classical.byContradiction fun z => by rw [jg_bad q z] at hq; exact z hq⟩
  have heat : ∀ n : Nat, n < T.toNat → (jg tw (shC tw vf d) tl (tw (383 + 7 * wk)) m fr n).1 = 0 → whF tw (shC tw vf d) (tw (383 + 7 * wk)) (jg tw (shC tw vf d) tl (tw (383 + 7 * wk)) m fr n).2.2.1 (jg tw (shC tw vf d) tl (tw (383 + 7 * wk)) m fr n).2.2.2 (tl n) = 0 → ∀ x : Int, h0F P ww m ((jg tw (shC tw vf d) tl (tw (383 + 7 * wk)) m fr n).2.2.1 - m).toNat x = if 0 < n ∧ tl ((n : Int) - 1) ≠ 4 ∧ watF ww (jg tw (shC tw vf d) tl (tw (383 + 7 * wk)) m fr n).2.2.2 = true then 0 else x := by
    intro n hn q qw x
    have Jn := JI n (by omega)
    have pr := plen_rng (w := tl n) wo.1
    have at0 := jat n hn q qw (jg tw (shC tw vf d) tl (tw (383 + 7 * wk)) m fr n).2.2.1 (Int.le_refl _) (by omega)
    rw [h0F, show m + ((((jg tw (shC tw vf d) tl (tw (383 + 7 * wk)) m fr n).2.2.1 - m).toNat : Nat) : Int) = (jg tw (shC tw vf d) tl (tw (383 + 7 * wk)) m fr n).2.2.1 by have := Jn.1.1; omega, at0]
    cases n with
    | zero => rw [if_neg (fun z => by have := z.1; have e : (jg tw (shC tw vf d) tl (tw (383 + 7 * wk)) m fr 0).2.2.1 = m := rfl; omega), if_neg (fun z => absurd z.1 (Nat.lt_irrefl _))]
    | succ k =>
      obtain ⟨g1, g2⟩ := go k q
      have Jk := JI k (by omega)
      have prk := plen_rng (w := tl k) wo.1
      have tk := tls (k + 1) (by omega) k (by omega) (by omega)
      have e := jg_go g1 g2
      have e1 : (jg tw (shC tw vf d) tl (tw (383 + 7 * wk)) m fr (k + 1)).2.2.1 = (jg tw (shC tw vf d) tl (tw (383 + 7 * wk)) m fr k).2.2.1 + plen (tl k) (tw (383 + 7 * wk)) := by rw [e]
      have e2 : (jg tw (shC tw vf d) tl (tw (383 + 7 * wk)) m fr (k + 1)).2.2.2 = if tl k = 4 then (jg tw (shC tw vf d) tl (tw (383 + 7 * wk)) m fr k).2.2.2 else stp (jg tw (shC tw vf d) tl (tw (383 + 7 * wk)) m fr k).2.2.2 (tl k) := by rw [e]
      rw [jat k (by omega) g1 g2 ((jg tw (shC tw vf d) tl (tw (383 + 7 * wk)) m fr (k + 1)).2.2.1 - 1) (by omega) (by omega)]
      have jm := Jk.1.1
      have iff1 : ((jg tw (shC tw vf d) tl (tw (383 + 7 * wk)) m fr (k + 1)).2.2.2 ≠ (jg tw (shC tw vf d) tl (tw (383 + 7 * wk)) m fr k).2.2.2) ↔ tl k ≠ 4 := by
        rw [e2]
        by_cases z : tl k = 4
        · rw [if_pos z]; exact ⟨fun y => absurd rfl y, fun y => absurd z y⟩
        · rw [if_neg z]; exact ⟨fun _ => z, fun _ => stp_ne Jk.2.1 (by omega)⟩
      rw [show ((k + 1 : Nat) : Int) - 1 = k by omega]
      by_cases z : tl k ≠ 4 ∧ watF ww (jg tw (shC tw vf d) tl (tw (383 + 7 * wk)) m fr (k + 1)).2.2.2 = true
      · rw [if_pos ⟨by omega, iff1.mpr z.1, z.2⟩, if_pos ⟨by omega, z.1, z.2⟩]
      · rw [if_neg (fun y => z ⟨iff1.mp y.2.1, y.2.2⟩), if_neg (fun y => z y.2)]
  refine lp_inv (fun n st => ∃ h : Int32, st = (zi 0, zi d, zA syf, zA sn', zA shA', fa, pi, zi wk, zi w, zi (if (jg tw (shC tw vf d) tl (tw (383 + 7 * wk)) m fr n).1 = 0 then -1 else (jg tw (shC tw vf d) tl (tw (383 + 7 * wk)) m fr n).2.1), zi (jg tw (shC tw vf d) tl (tw (383 + 7 * wk)) m fr n).1, zi (jsun tw vf d P (jg tw (shC tw vf d) tl (tw (383 + 7 * wk)) m fr n).2.2.1.toNat), h, zi (mF (snC tw vf d) P ww (tw (385 + 7 * wk)) m ((jg tw (shC tw vf d) tl (tw (383 + 7 * wk)) m fr n).2.2.1 - m).toNat).2, zi (tw (386 + 7 * wk) - tw (387 + 7 * wk) * jsun tw vf d P (jg tw (shC tw vf d) tl (tw (383 + 7 * wk)) m fr n).2.2.1.toNat - tw (388 + 7 * wk) * ((jg tw (shC tw vf d) tl (tw (383 + 7 * wk)) m fr n).2.2.1 - m - jsun tw vf d P (jg tw (shC tw vf d) tl (tw (383 + 7 * wk)) m fr n).2.2.1.toNat)), zi (jg tw (shC tw vf d) tl (tw (383 + 7 * wk)) m fr n).2.2.1, zi (jg tw (shC tw vf d) tl (tw (383 + 7 * wk)) m fr n).2.2.2, zi n) ∧ ((jg tw (shC tw vf d) tl (tw (383 + 7 * wk)) m fr n).1 = 0 → h = zi (if 0 < n ∧ tl ((n : Int) - 1) ≠ 4 ∧ watF ww (jg tw (shC tw vf d) tl (tw (383 + 7 * wk)) m fr n).2.2.2 = true then 0 else (mF (snC tw vf d) P ww (tw (385 + 7 * wk)) m ((jg tw (shC tw vf d) tl (tw (383 + 7 * wk)) m fr n).2.2.1 - m).toNat).1))) T.toNat ?_ ?_ 0 (Nat.zero_le _) ?_
  · rintro st ⟨h, rfl, -⟩ k
    simp only [wp_X12_judged_L98]
    rw [zi_le (by omega)]
    exact ⟨fun _ => fin _ (Nat.le_refl _) rfl, fun z => absurd z (by omega)⟩
  · rintro n hn st ⟨h, rfl, hh⟩ k hk
    have Jn := JI n (by omega)
    obtain ⟨i1, i2, i3, i4, i5, i6, i7, i8⟩ := Jn
    have gl := hgl n (by omega) (by omega)
    have pr := plen_rng (w := tl n) wo.1
    simp only [wp_X12_judged_L98, zi_lit]
    rw [zi_le (by omega)]
    refine ⟨fun z => absurd z (by omega), fun _ => ?_⟩
    rw [zi_le (by split <;> omega)]
    by_cases q : (jg tw (shC tw vf d) tl (tw (383 + 7 * wk)) m fr n).1 = 0
    · have hh := hh q
      refine ⟨fun z => by rw [if_pos q] at z; omega, fun _ => ?_⟩
      simp (disch := omega) only [zi_in, forall_eq, zA_get]
      refine ⟨by omega, ?_⟩
      refine p_walkerOf (i := 0) q1.1 (by omega) ?_
      rw [show 383 + 7 * wk + 0 = 383 + 7 * wk by omega, gl.1]
      refine p_whyNotR hT hshI wo.1 (by omega) i2 gl.2 ?_
      have eW : whF tw shA' (tw (383 + 7 * wk)) (jg tw (shC tw vf d) tl (tw (383 + 7 * wk)) m fr n).2.2.1 (jg tw (shC tw vf d) tl (tw (383 + 7 * wk)) m fr n).2.2.2 (tl n) = whF tw (shC tw vf d) (tw (383 + 7 * wk)) (jg tw (shC tw vf d) tl (tw (383 + 7 * wk)) m fr n).2.2.1 (jg tw (shC tw vf d) tl (tw (383 + 7 * wk)) m fr n).2.2.2 (tl n) := by
        have sr := stp_rng (w := tl n) i2
        simp only [whF]
        by_cases z1 : (if tl n = 4 then (jg tw (shC tw vf d) tl (tw (383 + 7 * wk)) m fr n).2.2.2 else stp (jg tw (shC tw vf d) tl (tw (383 + 7 * wk)) m fr n).2.2.2 (tl n)) = -1
        · rw [if_pos z1, if_pos z1]
        · rw [if_neg z1, if_neg z1]
          by_cases z3 : 119 < (jg tw (shC tw vf d) tl (tw (383 + 7 * wk)) m fr n).2.2.1 + plen (tl n) (tw (383 + 7 * wk))
          · rw [if_pos z3, if_pos z3]
          · rw [(hcs (100 * ((jg tw (shC tw vf d) tl (tw (383 + 7 * wk)) m fr n).2.2.1 + plen (tl n) (tw (383 + 7 * wk))) + (if tl n = 4 then (jg tw (shC tw vf d) tl (tw (383 + 7 * wk)) m fr n).2.2.2 else stp (jg tw (shC tw vf d) tl (tw (383 + 7 * wk)) m fr n).2.2.2 (tl n))) (by split at z1 <;> split <;> omega) (by split at z1 <;> split <;> omega)).2]
      rw [eW]
      have wr := wh_rng (tw := tw) (sh := shC tw vf d) (p := tw (383 + 7 * wk)) (s := (jg tw (shC tw vf d) tl (tw (383 + 7 * wk)) m fr n).2.2.2) (w := tl n) (mm := (jg tw (shC tw vf d) tl (tw (383 + 7 * wk)) m fr n).2.2.1)
      have eN : ∀ y : Int32, y = zi n + zi 1 → y = zi ((n + 1 : Nat) : Int) := fun y e => by rw [e, zi_add]; rfl
      rw [zi_le (by omega)]
      refine ⟨fun z => ?_, fun z => ?_⟩
      · have q2 : whF tw (shC tw vf d) (tw (383 + 7 * wk)) (jg tw (shC tw vf d) tl (tw (383 + 7 * wk)) m fr n).2.2.1 (jg tw (shC tw vf d) tl (tw (383 + 7 * wk)) m fr n).2.2.2 (tl n) = 0 := by omega
        rw [q2]
        have w0 := wh_0 gl.2 i2 q2
        have hx := jg_go q q2
        have at0 := jat n hn q q2
        rw [hh, ← heat n hn q q2]
        obtain ⟨k0, hk0⟩ : ∃ k0 : Nat, (jg tw (shC tw vf d) tl (tw (383 + 7 * wk)) m fr n).2.2.1 = m + k0 := ⟨((jg tw (shC tw vf d) tl (tw (383 + 7 * wk)) m fr n).2.2.1 - m).toNat, by omega⟩
        obtain ⟨L, hL⟩ : ∃ L : Nat, plen (tl n) (tw (383 + 7 * wk)) = L := ⟨(plen (tl n) (tw (383 + 7 * wk))).toNat, by omega⟩
        have kx : ∀ hh' : Int32, hh' = zi (if tl n ≠ 4 ∧ watF ww (if tl n = 4 then (jg tw (shC tw vf d) tl (tw (383 + 7 * wk)) m fr n).2.2.2 else stp (jg tw (shC tw vf d) tl (tw (383 + 7 * wk)) m fr n).2.2.2 (tl n)) = true then 0 else (mF (snC tw vf d) P ww (tw (385 + 7 * wk)) m (k0 + L)).1) → k (zi 0, zi d, zA syf, zA sn', zA shA', fa, pi, zi wk, zi w, zi (-1), zi 0, zi (jsun tw vf d P (m.toNat + (k0 + L))), hh', zi (mF (snC tw vf d) P ww (tw (385 + 7 * wk)) m (k0 + L)).2, zi (tw (386 + 7 * wk) - tw (387 + 7 * wk) * jsun tw vf d P (m.toNat + (k0 + L)) - tw (388 + 7 * wk) * ((k0 + L : Nat) - jsun tw vf d P (m.toNat + (k0 + L)))), zi (m + (k0 + L : Nat)), zi (if tl n = 4 then (jg tw (shC tw vf d) tl (tw (383 + 7 * wk)) m fr n).2.2.2 else stp (jg tw (shC tw vf d) tl (tw (383 + 7 * wk)) m fr n).2.2.2 (tl n)), zi ((n + 1 : Nat) : Int)) := by
          intro hh' eh
          refine hk _ ⟨hh', ?_, fun _ => ?_⟩
          · rw [hx]
            dsimp only
            rw [hk0, hL, if_pos rfl, show m + (k0 : Int) + (L : Int) = m + ((k0 + L : Nat) : Int) by omega, show (m + ((k0 + L : Nat) : Int)).toNat = m.toNat + (k0 + L) by omega, show m + ((k0 + L : Nat) : Int) - m = ((k0 + L : Nat) : Int) by omega, Int.toNat_natCast]
          · rw [hx, eh]
            dsimp only
            rw [hk0, hL, show (m + (k0 : Int) + (L : Int) - m).toNat = k0 + L by omega, show ((n + 1 : Nat) : Int) - 1 = n by omega]
            by_cases z : tl n ≠ 4 ∧ watF ww (if tl n = 4 then (jg tw (shC tw vf d) tl (tw (383 + 7 * wk)) m fr n).2.2.2 else stp (jg tw (shC tw vf d) tl (tw (383 + 7 * wk)) m fr n).2.2.2 (tl n)) = true
            · rw [if_pos z, if_pos ⟨by omega, z⟩]
            · rw [if_neg z, if_neg (fun y => z y.2)]
        have inn := fun X => inner X k0 L (jg tw (shC tw vf d) tl (tw (383 + 7 * wk)) m fr n).2.2.2 n (tl n) (by omega) (by omega) i2 (fun k a b => at0 (m + k) (by omega) (by omega))
        simp only [wp_X12_judged_b150, zi_lit, zi_neg]
        rw [show (jg tw (shC tw vf d) tl (tw (383 + 7 * wk)) m fr n).2.2.1.toNat = m.toNat + k0 by omega, show ((jg tw (shC tw vf d) tl (tw (383 + 7 * wk)) m fr n).2.2.1 - m).toNat = k0 by omega, hk0, show m + (k0 : Int) - m = k0 by omega, zi_eq (by omega), zi_le (by omega)]
        refine ⟨fun _ => ⟨fun t4 => ?_, fun t4 => ?_⟩, fun y => absurd (Int.le_refl _) y⟩
        · refine p_walkerOf (i := 0) q1.1 (by omega) ?_
          rw [show 383 + 7 * wk + 0 = 383 + 7 * wk by omega]
          have eL : tw (383 + 7 * wk) = L := by rw [← hL, plen, if_neg t4]
          rw [zi_add, forall_eq, show m + (k0 : Int) + tw (383 + 7 * wk) = m + ((k0 + L : Nat) : Int) by omega]
          refine inn _ ?_
          refine ⟨fun y => absurd rfl y, fun _ => ⟨fun y => absurd y (by rw [zi_eq (by omega)]; exact t4), fun _ => ?_⟩⟩
          refine p_stepTo i2 (by omega) ?_
          have s1 := w0.2.1
          rw [if_neg t4] at s1
          refine p_hasWater hT.1 hwa s1 ?_
          rw [if_neg t4] at kx
          cases hwt : watF ww (stp (jg tw (shC tw vf d) tl (tw (383 + 7 * wk)) m fr n).2.2.2 (tl n)) with
          | true => exact ⟨fun y => absurd y (by decide), fun _ y e => by rw [eN y e]; exact kx _ (by rw [if_pos ⟨t4, hwt⟩])⟩
          | false => exact ⟨fun _ y e => by rw [eN y e]; exact kx _ (by rw [if_neg (fun z => by rw [hwt] at z; cases z.2)]), fun y => absurd rfl y⟩
        · have eL : (1 : Int) = L := by rw [← hL, plen, if_pos t4]
          rw [zi_add, forall_eq, show m + (k0 : Int) + 1 = m + ((k0 + L : Nat) : Int) by omega]
          refine inn _ ?_
          rw [if_pos t4] at kx
          refine ⟨fun y => absurd rfl y, fun _ => ⟨fun _ y e => by rw [eN y e]; exact kx _ (by rw [if_neg (fun z => z.1 t4)]), fun y => absurd (by rw [t4]) y⟩⟩
      · have q2 : whF tw (shC tw vf d) (tw (383 + 7 * wk)) (jg tw (shC tw vf d) tl (tw (383 + 7 * wk)) m fr n).2.2.1 (jg tw (shC tw vf d) tl (tw (383 + 7 * wk)) m fr n).2.2.2 (tl n) ≠ 0 := by omega
        have hx := jg_bad q q2
        simp only [wp_X12_judged_b150, zi_lit]
        rw [zi_le (by omega)]
        refine ⟨fun y => absurd y z, fun _ => ?_⟩
        refine ⟨1, ?_⟩
        simp only [lp, wp_X12_judged_L183]
        refine ⟨fun _ => ?_, fun y => absurd (by rw [zi_le (by omega)]; exact Int.le_refl _) y⟩
        rw [zi_eq (by omega)]
        refine ⟨fun _ y e => ?_, fun y => absurd y q2⟩
        rw [eN y e]
        refine hk _ ⟨h, ?_, fun y => ?_⟩
        · rw [hx]
          dsimp only
          rw [if_neg q2, i6 q]
        · rw [hx] at y; exact absurd y q2
    · refine ⟨fun _ => ?_, fun z => by rw [if_neg q] at z; omega⟩
      have := stable (T.toNat - n) n q
      rw [show n + (T.toNat - n) = T.toNat by omega] at this
      exact fin n (by omega) this.symm
  · refine ⟨zi 0, ?_, fun _ => ?_⟩
    · have e0 : jg tw (shC tw vf d) tl (tw (383 + 7 * wk)) m fr 0 = (0, 0, m, fr) := rfl
      simp only [e0]
      rw [sun0 m.toNat (by omega), Int.sub_self, Int.toNat_zero, Int.mul_zero, Int.sub_zero, Int.sub_self, Int.mul_zero, Int.sub_zero, if_pos trivial]
      have e1 : (mF (snC tw vf d) P ww (tw (385 + 7 * wk)) m 0).2 = 0 := by simp only [mF]
      rw [e1]
      rfl
    · rw [if_neg (fun z => absurd z.1 (Nat.lt_irrefl _))]
      have e0 : jg tw (shC tw vf d) tl (tw (383 + 7 * wk)) m fr 0 = (0, 0, m, fr) := rfl
      simp only [e0]
      rw [Int.sub_self, Int.toNat_zero]
      simp only [mF]
end JR
