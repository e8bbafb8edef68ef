/-! the reference's isClothed, isDim, laysDay -/
section LD
variable {tw : Int → Int} {vf : Int → Int → Int → Int32} {op arg : Nat → Int32}
theorem upd01 (facts : Nat → Int32) (a b : Int32) : upd (upd facts (Int32.toNatClampNeg 0) a) (Int32.toNatClampNeg 1) b 0 = a ∧ upd (upd facts (Int32.toNatClampNeg 0) a) (Int32.toNatClampNeg 1) b 1 = b := by
  have e0 : Int32.toNatClampNeg 0 = 0 := by decide
  have e1 : Int32.toNatClampNeg 1 = 1 := by decide
  rw [e0, e1]
  exact ⟨by rw [pk_un (by decide), pk_us], by rw [pk_us]⟩
theorem p_isClothed (h : twR tw) (hc : clR tw op arg vf) {d m s what : Int} (hd : 0 ≤ d ∧ d < 4) (hm : 0 ≤ m ∧ m < 120) (hs : 0 ≤ s ∧ s < 100) (hw : what = 3 ∨ what = 4) {facts pile : Nat → Int32} {post : Int32 → (Nat → Int32) → (Nat → Int32) → Prop} (h1 : clP tw vf what d m s (tw 200) → ∀ f p, post 1 f p) (h0 : ¬ clP tw vf what d m s (tw 200) → ∀ f p, post 0 f p) : wp_X12_isClothed (zA tw) op arg facts pile (zi d) (zi m) (zi s) (zi what) post := by
  obtain ⟨hi, t1, t2, t3, t4, t5⟩ := h
  have e200 : zA tw (Int32.toNatClampNeg 200) = zi (tw 200) := zA_get (a := 200) (by omega)
  have v200 : vp_in 200 2640 := vp_zi (a := 200) (by omega) (by decide)
  have v0 : vp_in 0 2 := vp_zi (a := 0) (by omega) (by decide)
  have v1 : vp_in 1 2 := vp_zi (a := 1) (by omega) (by decide)
  simp only [wp_X12_isClothed, forall_eq]
  refine ⟨v0, v1, ?_⟩
  have hf := upd01 facts (zi m) (zi d)
  generalize upd (upd facts (Int32.toNatClampNeg 0) (zi m)) (Int32.toNatClampNeg 1) (zi d) = F at *
  refine lp_inv (fun i st => ∃ (b : Bool) (pi : Nat → Int32), st = (F, pi, zi s, zi what, zi (b2i b), zi i) ∧ (b = true ↔ clP tw vf what d m s i)) (tw 200).toNat ?_ ?_ 0 (Nat.zero_le _) ⟨false, pile, rfl, ⟨fun z => absurd z (by decide), fun ⟨i, a, b, _⟩ => by omega⟩⟩
  · rintro st ⟨b, pi, rfl, hb⟩ kb
    rw [show (((tw 200).toNat : Nat) : Int) = tw 200 by omega] at hb ⊢
    simp only [wp_X12_isClothed_L20, e200]
    rw [zi_le (by omega)]
    refine ⟨v200, fun _ => ?_, fun z => by omega⟩
    cases hbb : b with
    | true => exact ⟨Or.inr rfl, h1 (hb.mp hbb) _ _⟩
    | false => exact ⟨Or.inl rfl, h0 (fun z => by have := hb.mpr z; rw [hbb] at this; exact absurd this (by decide)) _ _⟩
  · rintro i hi2 st ⟨b, pi, rfl, hb⟩ kb hkb
    have hni : ((i + 1 : Nat) : Int) = (i : Int) + 1 := by omega
    have q := t5 i (by omega) (by omega)
    have e1 : 201 + 3 * (i : Int) + 1 = 202 + 3 * i := by omega
    have e2 : 201 + 3 * (i : Int) + 2 = 203 + 3 * i := by omega
    simp only [wp_X12_isClothed_L20, e200]
    rw [zi_le (by omega)]
    refine ⟨v200, fun z => by omega, fun _ => ?_⟩
    have yes : ∀ pi', (b = true ∨ (tw (201 + 3 * i) = s ∧ tw (202 + 3 * i) = what ∧ vf i d m ≠ 0)) → kb (F, pi', zi s, zi what, zi 1, zi ((i : Int) + 1)) := by
      intro pi' hor
      refine hkb _ ⟨true, pi', by rw [hni]; rfl, ⟨fun _ => ?_, fun _ => rfl⟩⟩
      rcases hor with z | z
      · obtain ⟨j, a, c, d⟩ := hb.mp z
        exact ⟨j, a, by omega, d⟩
      · exact ⟨i, by omega, by omega, z⟩
    have no : ∀ pi', b = false → ¬ (tw (201 + 3 * i) = s ∧ tw (202 + 3 * i) = what ∧ vf i d m ≠ 0) → kb (F, pi', zi s, zi what, zi 0, zi ((i : Int) + 1)) := by
      intro pi' hbf hnot
      refine hkb _ ⟨false, pi', by rw [hni]; rfl, ⟨fun z => absurd z (by decide), fun ⟨j, a, c, e⟩ => ?_⟩⟩
      by_cases hj : j = i
      · subst hj; exact absurd e hnot
      · have := hb.mpr ⟨j, a, by omega, e⟩
        rw [hbf] at this; exact this
    simp (disch := omega) only [forall_eq, zi_lit, zi_mul, zi_add, b2i_0, zi_in, zA_get, zi_eq, e1, e2]
    refine ⟨fun z => yes pi (Or.inl (by simpa using z)), fun z => ⟨by omega, fun y => no pi z (fun x => y x.1), fun y => ⟨by omega, fun x => no pi z (fun u => x u.2.1), fun x => ⟨by omega, ?_⟩⟩⟩⟩
    refine hc i d m (by omega) (by omega) hd.1 hd.2 hm.1 hm.2 F pi _ hf.1 hf.2 (fun pi' => ⟨fun u => no pi' z (fun w => w.2.2 u), fun u => yes pi' (Or.inr ⟨y, x, u⟩)⟩)
theorem p_isDim (h : twR tw) (hc : clR tw op arg vf) {d m s : Int} (hd : 0 ≤ d ∧ d < 4) (hm : 0 ≤ m ∧ m < 120) (hs : 0 ≤ s ∧ s < 100) {facts pile : Nat → Int32} {post : Int32 → (Nat → Int32) → (Nat → Int32) → Prop} (h1 : dimP tw vf d m s → ∀ f p, post 1 f p) (h0 : ¬ dimP tw vf d m s → ∀ f p, post 0 f p) : wp_X12_isDim (zA tw) op arg facts pile (zi d) (zi m) (zi s) post := by
  have lr := lnT_rng (d := d) (m := m) h
  have h' := h
  obtain ⟨hi, t1, t2, t3, t4, t5⟩ := h'
  have ts := t1 s hs.1 hs.2
  simp only [wp_X12_isDim]
  refine p_sunLine h hd hm ?_
  by_cases hl : lnT tw d m < 0
  · rw [if_pos hl]
    exact ⟨fun _ => h1 (Or.inl hl) _ _, fun z => absurd (by decide) z⟩
  · rw [if_neg hl, zi_lit, zi_lt (by omega)]
    refine ⟨fun z => by omega, fun _ => ⟨vp_zi (by omega) (by decide), ?_⟩⟩
    rw [zA_get (by omega)]
    refine p_within (a := 2) (b := 3) (by omega) (by omega) (by omega) (fun a => ⟨fun z => absurd z (by decide), fun _ => h1 (Or.inr (Or.inl a)) _ _⟩) (fun a => ⟨fun _ => ?_, fun z => absurd rfl z⟩)
    refine p_isClothed h hc hd hm hs (Or.inl rfl) (fun b f p => ⟨fun _ => h1 (Or.inr (Or.inr (Or.inl b))) _ _, fun z => absurd z (by decide)⟩) (fun b f p => ⟨fun z => absurd rfl z, fun _ => ?_⟩)
    refine p_isBehind h hs (by omega) (fun c => ⟨fun z => absurd z (by decide), fun _ => h1 (Or.inr (Or.inr (Or.inr c))) _ _⟩) (fun c => ⟨fun _ => h0 (fun x => ?_) _ _, fun z => absurd rfl z⟩)
    rcases x with x | x | x | x
    · exact hl x
    · exact a x
    · exact b x
    · exact c x
/-- the sun and the shut squares of a day, as the reference lays them -/
def dayR (tw : Int → Int) (vf : Int → Int → Int → Int32) (d : Int) (sn shA : Int → Int) : Prop := ∀ k, 0 ≤ k → k < 12000 → ((sn k = 0 ∧ dimP tw vf d (k / 100) (k % 100)) ∨ (sn k = 1 ∧ ¬ dimP tw vf d (k / 100) (k % 100))) ∧ ((shA k = 1 ∧ clP tw vf 4 d (k / 100) (k % 100) (tw 200)) ∨ (shA k = 0 ∧ ¬ clP tw vf 4 d (k / 100) (k % 100) (tw 200)))
/-- without cloths -/
def dimB (tw : Int → Int) (d m s : Int) : Prop := lnT tw d m < 0 ∨ (2 ≤ tw s ∧ tw s ≤ 3) ∨ bhP tw s (lnT tw d m)
/-- so many lines of cloth are laid, the last one for some minutes -/
def clQ (tw : Int → Int) (vf : Int → Int → Int → Int32) (what d m s : Int) (n mi : Int) : Prop := clP tw vf what d m s n ∨ (m < mi ∧ tw (201 + 3 * n) = s ∧ tw (202 + 3 * n) = what ∧ vf n d m ≠ 0)
def dayQ (tw : Int → Int) (vf : Int → Int → Int → Int32) (d : Int) (sn shA : Int → Int) (n mi : Int) : Prop := ∀ k, 0 ≤ k → k < 12000 → ((sn k = 0 ∧ (dimB tw d (k / 100) (k % 100) ∨ clQ tw vf 3 d (k / 100) (k % 100) n mi)) ∨ (sn k = 1 ∧ ¬ (dimB tw d (k / 100) (k % 100) ∨ clQ tw vf 3 d (k / 100) (k % 100) n mi))) ∧ ((shA k = 1 ∧ clQ tw vf 4 d (k / 100) (k % 100) n mi) ∨ (shA k = 0 ∧ ¬ clQ tw vf 4 d (k / 100) (k % 100) n mi))
theorem clP_succ {what d m s n : Int} (hn : 0 ≤ n) : clP tw vf what d m s (n + 1) ↔ clP tw vf what d m s n ∨ (tw (201 + 3 * n) = s ∧ tw (202 + 3 * n) = what ∧ vf n d m ≠ 0) := by
  constructor
  · rintro ⟨i, a, b, c⟩
    by_cases hi : i = n
    · subst hi; exact Or.inr c
    · exact Or.inl ⟨i, a, by omega, c⟩
  · rintro (⟨i, a, b, c⟩ | c)
    · exact ⟨i, a, by omega, c⟩
    · exact ⟨n, hn, by omega, c⟩
theorem clQ_full {what d m s n : Int} (hn : 0 ≤ n) (h0 : 0 ≤ m) (hm : m < 120) : clQ tw vf what d m s n 120 ↔ clQ tw vf what d m s (n + 1) 0 := by
  constructor
  · rintro (h | ⟨_, h⟩)
    · exact Or.inl ((clP_succ hn).mpr (Or.inl h))
    · exact Or.inl ((clP_succ hn).mpr (Or.inr h))
  · rintro (h | ⟨h1, h2⟩)
    · rcases (clP_succ hn).mp h with z | z
      · exact Or.inl z
      · exact Or.inr ⟨hm, z⟩
    · omega
theorem vpn0 : vp_nar .boolean (zi 0) = zi 0 := by decide
theorem vpn1 : vp_nar .boolean (zi 1) = zi 1 := by decide
theorem p_laysCloth (h : twR tw) (hc : clR tw op arg vf) {d n : Int} (hd : 0 ≤ d ∧ d < 4) (hn : 0 ≤ n ∧ n < tw 200) {sn shA : Int → Int} (i1 : i32 sn) (i2 : i32 shA) (hQ : dayQ tw vf d sn shA n 0) {facts pile : Nat → Int32} {post : (Nat → Int32) → (Nat → Int32) → (Nat → Int32) → (Nat → Int32) → Prop} (hp : ∀ (f p : Nat → Int32) (sn' shA' : Int → Int), i32 sn' → i32 shA' → dayQ tw vf d sn' shA' n 120 → post f p (zA sn') (zA shA')) : wp_X12_laysCloth (zA tw) op arg facts pile (zA sn) (zA shA) (zi d) (zi (201 + 3 * n)) post := by
  obtain ⟨hi, t1, t2, t3, t4, t5⟩ := h
  have q := t5 n hn.1 hn.2
  have v0 : vp_in 0 2 := vp_zi (a := 0) (by omega) (by decide)
  have v1 : vp_in 1 2 := vp_zi (a := 1) (by omega) (by decide)
  have z0 : Int32.toNatClampNeg 0 = 0 := by decide
  have z1 : Int32.toNatClampNeg 1 = 1 := by decide
  have e1 : 201 + 3 * n + 1 = 202 + 3 * n := by omega
  have e2 : 201 + 3 * n + 2 = 203 + 3 * n := by omega
  simp only [wp_X12_laysCloth, forall_eq]
  refine ⟨v1, ?_⟩
  refine lp_inv (fun m st => ∃ (f p : Nat → Int32) (sn' shA' : Int → Int), st = (f, p, zA sn', zA shA', zi (201 + 3 * n), zi m) ∧ f 1 = zi d ∧ i32 sn' ∧ i32 shA' ∧ dayQ tw vf d sn' shA' n m) 120 ?_ ?_ 0 (Nat.zero_le _) ⟨_, pile, sn, shA, rfl, by rw [z1, pk_us], i1, i2, hQ⟩
  · rintro st ⟨f, p, sn', shA', rfl, hf, j1, j2, hq⟩ kb
    simp (disch := omega) only [wp_X12_laysCloth_L9, zi_lit, zi_le]
    exact ⟨fun _ => hp f p sn' shA' j1 j2 hq, fun z => absurd (by decide) z⟩
  · rintro m hm st ⟨f, p, sn', shA', rfl, hf, j1, j2, hq⟩ kb hkb
    have hni : ((m + 1 : Nat) : Int) = (m : Int) + 1 := by omega
    -- nodes but this one stay
    have same : ∀ what k, 0 ≤ k → k < 12000 → (k ≠ 100 * (m : Int) + tw (201 + 3 * n) ∨ vf n d m = 0 ∨ tw (202 + 3 * n) ≠ what) → (clQ tw vf what d (k / 100) (k % 100) n (m + 1) ↔ clQ tw vf what d (k / 100) (k % 100) n m) := by
      intro what k k0 k1 hor
      constructor
      · rintro (z | ⟨a, b, c, e⟩)
        · exact Or.inl z
        · by_cases hkm : k / 100 = m
          · exfalso
            rcases hor with y | y | y
            · apply y; omega
            · rw [hkm] at e; exact e y
            · exact y c
          · exact Or.inr ⟨by omega, b, c, e⟩
      · rintro (z | ⟨a, b⟩)
        · exact Or.inl z
        · exact Or.inr ⟨by omega, b⟩
    simp (disch := omega) only [wp_X12_laysCloth_L9, forall_eq, zi_lit, zi_le, zi_mul, zi_add, zA_get, zi_in, e1, e2]
    refine ⟨fun z => by omega, fun _ => ⟨by omega, by omega, ?_⟩⟩
    refine ⟨by omega, ?_⟩
    have hF1 : upd f (Int32.toNatClampNeg (zi 0)) (zi m) 1 = zi d := by
      rw [show Int32.toNatClampNeg (zi 0) = 0 by decide, pk_un (by decide)]; exact hf
    refine hc n d m hn.1 hn.2 hd.1 hd.2 (by omega) (by omega) _ p _ (by rw [show Int32.toNatClampNeg (zi 0) = 0 by decide, pk_us]) hF1 (fun p' => ⟨fun u => ?_, fun u => ?_⟩)
    · refine hkb _ ⟨_, p', sn', shA', by rw [hni], hF1, j1, j2, fun k k0 k1 => ?_⟩
      rw [hni, same 3 k k0 k1 (Or.inr (Or.inl u)), same 4 k k0 k1 (Or.inr (Or.inl u))]
      exact hq k k0 k1
    · generalize hK : 100 * (m : Int) + tw (201 + 3 * n) = K at *
      have hKr : 0 ≤ K ∧ K < 12000 := by omega
      have qK := hq K hKr.1 hKr.2
      have here : ∀ what, tw (202 + 3 * n) = what → clQ tw vf what d (K / 100) (K % 100) n (m + 1) := fun what hw => Or.inr ⟨by omega, by omega, hw, by rw [show K / 100 = (m : Int) by omega]; exact u⟩
      have fin : ∀ (a b : Int), (tw (202 + 3 * n) = 3 → a = 0) → (tw (202 + 3 * n) = 4 → a = sn' K) → (tw (202 + 3 * n) = 4 → b = 1) → (tw (202 + 3 * n) = 3 → b = shA' K) → kb (upd f (Int32.toNatClampNeg (zi 0)) (zi m), p', zA (upI sn' K a), zA (upI shA' K b), zi (201 + 3 * n), zi ((m : Int) + 1)) := by
        intro a b a3 a4 b4 b3
        have ar : -2147483648 ≤ a ∧ a < 2147483648 := by
          rcases q.2 with z | z
          · have := a3 z; omega
          · rw [a4 z]; exact j1 K
        have br : -2147483648 ≤ b ∧ b < 2147483648 := by
          rcases q.2 with z | z
          · rw [b3 z]; exact j2 K
          · have := b4 z; omega
        refine hkb _ ⟨_, p', _, _, by rw [hni], hF1, i32_up j1 ar, i32_up j2 br, fun k k0 k1 => ?_⟩
        rw [hni]
        by_cases hk : k = K
        · subst hk
          rw [upI_s, upI_s]
          rcases q.2 with z | z
          · rw [a3 z, b3 z, same 4 k k0 k1 (Or.inr (Or.inr (by omega)))]
            exact ⟨Or.inl ⟨rfl, Or.inr (here 3 z)⟩, qK.2⟩
          · rw [a4 z, b4 z, same 3 k k0 k1 (Or.inr (Or.inr (by omega)))]
            exact ⟨qK.1, Or.inl ⟨rfl, here 4 z⟩⟩
        · rw [upI_n hk, upI_n hk, same 3 k k0 k1 (Or.inl hk), same 4 k k0 k1 (Or.inl hk)]
          exact hq k k0 k1
      have b79 : ∀ a : Int, (tw (202 + 3 * n) = 3 → a = 0) → (tw (202 + 3 * n) = 4 → a = sn' K) → wp_X12_laysCloth_b79 (fun t_facts t_pile t_sun t_isShut => post t_facts t_pile t_sun t_isShut) kb (zA tw) op arg post (upd f (Int32.toNatClampNeg (zi 0)) (zi m)) p' (zA sn') (zA shA') (zi (201 + 3 * n)) (zi m) (zi K) (zi a) (zi K) := by
        intro a a3 a4
        have s1 := j2 K
        simp (disch := omega) only [wp_X12_laysCloth_b79, forall_eq, vpn0, vpn1, zi_lit, zi_add, zi_in, zA_upd, zA_get, zi_eq, e1]
        refine ⟨by omega, by omega, fun z => ⟨by omega, fin a 1 a3 a4 (fun _ => rfl) (fun w => ?_)⟩, fun z => ⟨by omega, fun y => ⟨by omega, fin a 0 a3 a4 (fun w => absurd w y) (fun w => z.symm)⟩, fun y => ⟨by omega, fin a 1 a3 a4 (fun _ => rfl) (fun w => by omega)⟩⟩⟩
        rcases qK.2 with x | x
        · exact x.1.symm
        · exact absurd x.1 z
      simp (disch := omega) only [zi_eq]
      refine ⟨by omega, fun z => ⟨by omega, b79 (sn' K) (fun w => absurd w z) (fun _ => rfl)⟩, fun z => b79 0 (fun _ => rfl) (fun w => by omega)⟩
end LD
