/-! the reference's heat -/
/-- what the reference's rows say of a walker, of the sun and of water -/
def wkR (tw : Int → Int) (wk p bears mends ice hot cool : Int) : Prop := (0 ≤ wk ∧ wk < 6) ∧ tw (383 + 7 * wk) = p ∧ tw (384 + 7 * wk) = bears ∧ tw (385 + 7 * wk) = mends ∧ tw (386 + 7 * wk) = ice ∧ tw (387 + 7 * wk) = hot ∧ tw (388 + 7 * wk) = cool
def snR (sn : Int → Int) (dw : Nat → Int64) : Prop := ∀ k, 0 ≤ k → k < 12000 → (sn k = 0 ∧ dkF dw k = true) ∨ (sn k = 1 ∧ dkF dw k = false)
def waR (tw : Int → Int) (ww : Nat → Int64) : Prop := (0 ≤ tw 424 ∧ tw 424 ≤ 10) ∧ ∀ s, 0 ≤ s → s < 100 → (watF ww s = true ↔ ∃ i, 0 ≤ i ∧ i < tw 424 ∧ tw (425 + i) = s)
section H2
variable {day to hot cool wt : Int} {dw : Nat → Int64} {sn tw sh : Int → Int} {ww sw gw lw : Nat → Int64} {p bears mends ice en nw lim wk : Int}
theorem p_walkerOf {tw : Int → Int} {wk i : Int} (hw : 0 ≤ wk ∧ wk < 6) (hi : 0 ≤ i ∧ i < 6) {post : Int32 → Prop} (h : post (zi (tw (383 + 7 * wk + i)))) : wp_X12_walkerOf (zA tw) (zi wk) (zi i) post := by
  simp (disch := omega) only [wp_X12_walkerOf, forall_eq, zi_lit, zi_mul, zi_add, zi_in, zA_get]
  refine ⟨by omega, ?_⟩
  rw [show 382 + 7 * wk + 1 + i = 383 + 7 * wk + i by omega]
  exact h
theorem p_hasWater (hi : i32 tw) (h : waR tw ww) {s : Int} (hs : 0 ≤ s ∧ s < 100) {post : Int32 → Prop} (hp : post (zi (b2i (watF ww s)))) : wp_X12_hasWater (zA tw) (zi s) post := by
  have e424 : zA tw (Int32.toNatClampNeg 424) = zi (tw 424) := zA_get (a := 424) (by omega)
  have v424 : vp_in 424 2640 := by rw [show (424 : Int32) = zi 424 from rfl, zi_in (by omega)]; omega
  simp only [wp_X12_hasWater]
  refine lp_inv (fun i st => ∃ b : Bool, st = (zi s, zi (b2i b), zi i) ∧ (b = true ↔ ∃ j, 0 ≤ j ∧ j < (i : Int) ∧ tw (425 + j) = s)) (tw 424).toNat ?_ ?_ 0 (Nat.zero_le _) ⟨false, rfl, by constructor; (intro z; exact absurd z (by decide)); (rintro ⟨j, a, b, _⟩; omega)⟩
  · rintro st ⟨b, rfl, hb⟩ kb
    have h1 := h.1
    have eb : b = watF ww s := by
      have w := h.2 s hs.1 hs.2
      rw [show (((tw 424).toNat : Nat) : Int) = tw 424 by omega] at hb
      cases hx : b <;> cases hy : watF ww s
      · rfl
      · have q := hb.mpr (w.mp hy); rw [hx] at q; exact absurd q (by decide)
      · have q := w.mpr (hb.mp hx); rw [hy] at q; exact absurd q (by decide)
      · rfl
    subst eb
    simp only [wp_X12_hasWater_L4, e424]
    rw [zi_le (by omega)]
    refine ⟨v424, fun _ => ⟨?_, hp⟩, fun z => by omega⟩
    cases watF ww s
    · exact Or.inl rfl
    · exact Or.inr rfl
  · rintro i hi2 st ⟨b, rfl, hb⟩ kb hkb
    have h1 := h.1
    have hni : ((i + 1 : Nat) : Int) = (i : Int) + 1 := by omega
    have ht := hi (425 + i)
    simp only [wp_X12_hasWater_L4, e424]
    rw [zi_le (by omega)]
    refine ⟨v424, fun z => by omega, fun _ => ?_⟩
    simp (disch := omega) only [forall_eq, zi_lit, zi_add, zi_in, zA_get, zi_eq, b2i_0]
    refine ⟨fun z => ?_, fun z => ⟨by omega, fun y => ?_, fun y => ?_⟩⟩
    · have hbt : b = true := by simpa using z
      refine hkb _ ⟨true, by rw [hni]; rfl, ⟨fun _ => ?_, fun _ => rfl⟩⟩
      obtain ⟨j, j1, j2, j3⟩ := hb.mp hbt
      exact ⟨j, j1, by omega, j3⟩
    · refine hkb _ ⟨false, by rw [hni]; rfl, ⟨fun x => absurd x (by decide), fun ⟨j, j1, j2, j3⟩ => ?_⟩⟩
      by_cases hj : j = i
      · subst hj; exact absurd j3 y
      · have := hb.mpr ⟨j, j1, by omega, j3⟩
        rw [z] at this; exact this
    · exact hkb _ ⟨true, by rw [hni]; rfl, ⟨fun _ => ⟨i, by omega, by omega, y⟩, fun _ => rfl⟩⟩
theorem p_heatBehind (hi : i32 tw) (hW : wkR tw wk p bears mends ice hot cool) (hS : snR sn dw) (hA : waR tw ww) (hp : 1 ≤ p ∧ p ≤ 3) (hb : 0 ≤ bears ∧ bears ≤ 99) (hm : 0 ≤ mends ∧ mends ≤ 99) {v m s w : Int} (hv : 0 ≤ v ∧ v ≤ bears) (hmm : 0 ≤ m ∧ m + plen w p ≤ 120) (hs : 0 ≤ s ∧ s < 100) (hw : 0 ≤ w ∧ w ≤ 4) (hst : w ≠ 4 → 0 ≤ stp s w) (hns : w ≠ 4 → nxT tw sh p (100 * m + s) w % 100 = stp s w) {post : Int32 → Prop} (h : post (zi (if hV dw bears mends ww (nxT tw sh p) p (100 * m + s) w v ≤ bears then hV dw bears mends ww (nxT tw sh p) p (100 * m + s) w v else 1000000))) : wp_X12_heatBehind (zA tw) (zA sn) (zi v) (zi m) (zi s) (zi w) (zi wk) post := by
  have hl := plen_rng (w := w) hp
  obtain ⟨hwk, w0, w1, w2, _⟩ := hW
  have hr := htN_rng (dw := dw) (k := 100 * m + s) hb hm.1 ⟨hv.1, Or.inl hv.2⟩
  obtain ⟨e, he, hle⟩ := pk_least (fun i : Nat => bears < htN bears mends dw v (100 * m + s) (i + 1) ∨ plen w p ≤ (i : Int)) ⟨3, Or.inr (by omega)⟩
  have he2 : (e : Int) ≤ plen w p := Classical.byContradiction (fun hn => hle (plen w p).toNat (by omega) (Or.inr (by omega)))
  have hprev : ∀ i, i ≤ e → htN bears mends dw v (100 * m + s) i ≤ bears := by
    intro i hi2
    cases i with
    | zero => exact hv.2
    | succ i => exact Classical.byContradiction (fun hn => hle i (by omega) (Or.inl (by omega)))
  simp only [wp_X12_heatBehind]
  -- one minute
  have minute : ∀ (i : Nat) (kb : Int32 × Int32 × Int32 × Int32 × Int32 × Int32 → Prop) (xx : Int32 → Int32 → Int32 → Prop) (xy : Prop), (i : Int) < plen w p → htN bears mends dw v (100 * m + s) i ≤ bears → (htN bears mends dw v (100 * m + s) (i + 1) ≤ bears → kb (zi m, zi s, zi w, zi wk, zi (htN bears mends dw v (100 * m + s) (i + 1)), zi (m + i + 1))) → (bears < htN bears mends dw v (100 * m + s) (i + 1) → xy) → wp_X12_heatBehind_L6 xx xy (zA tw) (zA sn) post kb (zi m, zi s, zi w, zi wk, zi (htN bears mends dw v (100 * m + s) i), zi (m + i)) := by
    intro i kb xx xy hlt hub hk1 hk2
    have hri := hr i
    have hS2 := hS (100 * (m + i) + s) (by omega) (by omega)
    have ekey : htN bears mends dw v (100 * m + s) (i + 1) = heatF bears mends dw (htN bears mends dw v (100 * m + s) i) (100 * (m + i) + s) := by
      simp only [htN]; congr 1; omega
    rw [ekey] at hk1 hk2
    generalize hu : htN bears mends dw v (100 * m + s) i = u at *
    have b75 : ∀ x : Int, 0 ≤ x → x ≤ 200 → heatF bears mends dw u (100 * (m + i) + s) = (if x ≤ bears then x else 268435456) → wp_X12_heatBehind_b75 xx xy kb (zA tw) (zA sn) post (zi m) (zi s) (zi w) (zi wk) (zi (m + i)) (zi x) := by
      intro x x0 x1 hx
      rw [hx] at hk1 hk2
      simp only [wp_X12_heatBehind_b75]
      refine p_walkerOf (i := 1) hwk (by omega) ?_
      rw [show 383 + 7 * wk + 1 = 384 + 7 * wk by omega, w1]
      simp (disch := omega) only [zi_le, forall_eq, zi_lit, zi_add]
      refine ⟨fun z => ?_, fun z => ?_⟩
      · rw [if_pos z] at hk1; exact hk1 z
      · rw [if_neg z] at hk2; exact hk2 (by omega)
    have b26 : wp_X12_heatBehind_b26 xx xy kb (zA tw) (zA sn) post (zi m) (zi s) (zi w) (zi wk) (zi u) (zi (m + i)) (zi (plen w p)) (zi m) (zi (m + i)) := by
      simp (disch := omega) only [wp_X12_heatBehind_b26, forall_eq, zi_lit, zi_mul, zi_add, zi_le, zi_in, zA_get]
      refine ⟨fun z => by omega, fun _ => ⟨by omega, fun z => ?_, fun z => ?_⟩⟩
      · have d : dkF dw (100 * (m + i) + s) = true := by rcases hS2 with q | q; exact q.2; omega
        refine p_walkerOf (i := 2) hwk (by omega) ?_
        rw [show 383 + 7 * wk + 2 = 385 + 7 * wk by omega, w2]
        simp (disch := omega) only [wp_X12_heatBehind_b62, zi_lit, zi_sub, zi_le]
        have hh : heatF bears mends dw u (100 * (m + i) + s) = if (if 0 < u - mends then u - mends else 0) ≤ bears then (if 0 < u - mends then u - mends else 0) else 268435456 := by simp only [heatF, if_pos d]
        refine ⟨fun y => b75 _ y (by omega) ?_, fun y => b75 0 (by omega) (by omega) ?_⟩
        · rw [hh]
          by_cases q : 0 < u - mends
          · rw [if_pos q]
          · rw [if_neg q, show u - mends = 0 by omega]
        · rw [hh, if_neg (show ¬ 0 < u - mends by omega)]
      · have d : dkF dw (100 * (m + i) + s) = false := by rcases hS2 with q | q; omega; exact q.2
        simp (disch := omega) only [wp_X12_heatBehind_b62, zi_lit, zi_le]
        have hh : heatF bears mends dw u (100 * (m + i) + s) = if u + 1 ≤ bears then u + 1 else 268435456 := by simp only [heatF, d]; rfl
        exact ⟨fun y => b75 _ y (by omega) hh, fun y => by omega⟩
    simp (disch := omega) only [wp_X12_heatBehind_L6, zi_lit, zi_eq]
    refine ⟨fun z => ?_, fun z => ?_⟩
    · refine p_walkerOf (i := 0) hwk (by omega) ?_
      rw [show 383 + 7 * wk + 0 = 383 + 7 * wk by omega, w0]
      rw [plen, if_neg z] at b26
      exact b26
    · rw [plen, if_pos z] at b26
      exact b26
  refine lp_for0 (fun i => (zi m, zi s, zi w, zi wk, zi (htN bears mends dw v (100 * m + s) i), zi (m + i))) e (by simp [htN]) (fun kb => ?_) (fun i hi2 kb hkb => ?_)
  · by_cases hq : (e : Int) = plen w p
    · have hub := hprev e (Nat.le_refl _)
      have hre := hr e
      have fin : (zi w = 4 → post (zi (htN bears mends dw v (100 * m + s) e))) ∧ (¬ zi w = 4 → wp_X12_stepTo (zi s) (zi w) (fun r109 => wp_X12_hasWater (zA tw) r109 (fun r112 => (r112 = 0 → (post (zi (htN bears mends dw v (100 * m + s) e)))) ∧ (¬ r112 = 0 → (post 0))))) := by
        rw [zi_lit, zi_eq (by omega)]
        refine ⟨fun z => ?_, fun z => ?_⟩
        · have e1 : e = 1 := by rw [plen, if_pos z] at hq; omega
          have e2 : hV dw bears mends ww (nxT tw sh p) p (100 * m + s) w v = htN bears mends dw v (100 * m + s) e := by
            rw [hV, if_pos z, e1]
            simp only [htN]
            congr 1
            omega
          rw [e2, if_pos hub] at h
          exact h
        · have e1 : e = p.toNat := by rw [plen, if_neg z] at hq; omega
          have st0 := hst z
          have st1 := stp_rng (s := s) (w := w) hs
          refine p_stepTo hs (by omega) ?_
          refine p_hasWater hi hA (by omega) ?_
          rw [hV, if_neg z, hns z, ← e1] at h
          have ez : (0 : Int32) = zi 0 := rfl
          rw [ez]
          simp only [b2i_0]
          refine ⟨fun y => ?_, fun y => ?_⟩
          · rw [if_neg (show ¬ (watF ww (stp s w) = true ∧ htN bears mends dw v (100 * m + s) e ≤ bears) by rw [y]; intro q; exact absurd q.1 (by decide)), if_pos hub] at h
            exact h
          · have y' : watF ww (stp s w) = true := by simpa using y
            rw [if_pos (⟨y', hub⟩ : watF ww (stp s w) = true ∧ htN bears mends dw v (100 * m + s) e ≤ bears), if_pos hb.1] at h
            exact h
      simp (disch := omega) only [wp_X12_heatBehind_L6, zi_lit, zi_eq]
      have b26 : wp_X12_heatBehind_b26 (fun l3 l4 l6 => (l4 = zi 4 → (post l6)) ∧ (¬ l4 = zi 4 → (wp_X12_stepTo l3 l4 (fun r109 => wp_X12_hasWater (zA tw) r109 (fun r112 => (r112 = zi 0 → (post l6)) ∧ (¬ r112 = zi 0 → (post (zi 0)))))))) (post (zi 1000000)) kb (zA tw) (zA sn) post (zi m) (zi s) (zi w) (zi wk) (zi (htN bears mends dw v (100 * m + s) e)) (zi (m + e)) (zi (plen w p)) (zi m) (zi (m + e)) := by
        simp only [wp_X12_heatBehind_b26, zi_add]
        rw [zi_le (by omega)]
        exact ⟨fun _ => fin, fun z => by omega⟩
      refine ⟨fun z => ?_, fun z => ?_⟩
      · refine p_walkerOf (i := 0) hwk (by omega) ?_
        rw [show 383 + 7 * wk + 0 = 383 + 7 * wk by omega, w0]
        rw [plen, if_neg z] at b26
        exact b26
      · rw [plen, if_pos z] at b26
        exact b26
    · have hbig : bears < htN bears mends dw v (100 * m + s) (e + 1) := by
        rcases he with z | z
        · exact z
        · omega
      refine minute e kb _ _ (by omega) (hprev e (Nat.le_refl _)) (fun z => by omega) (fun _ => ?_)
      have efar : htN bears mends dw v (100 * m + s) (e + 1) = 268435456 := by have := hr (e + 1); omega
      have hVbig : ¬ hV dw bears mends ww (nxT tw sh p) p (100 * m + s) w v ≤ bears := by
        rw [hV]
        split
        · next z =>
          have e1 : e = 0 := by rw [plen, if_pos z] at hq he2; omega
          rw [e1] at efar
          simp only [htN] at efar
          rw [show 100 * m + s + 100 * ((0 : Nat) : Int) = 100 * m + s by omega] at efar
          rw [efar]
          omega
        · next z =>
          have : htN bears mends dw v (100 * m + s) p.toNat = 268435456 := htN_far hb hm p.toNat (e + 1) (by rw [plen, if_neg z] at hq he2; omega) efar
          rw [this, if_neg (by omega)]
          omega
      rw [if_neg hVbig] at h
      exact h
  · have hub := hprev (i + 1) (by omega)
    have e3 : m + ((i + 1 : Nat) : Int) = m + i + 1 := by omega
    simp only [e3] at hkb
    exact minute i kb _ _ (by omega) (hprev i (by omega)) (fun _ => hkb) (fun z => by omega)
end H2
