/-! judged: the class -/
section JC
variable {pl : Pool} {tw : Int → Int} {vf : Int → Int → Int → Int32} {sl : Int} {kd hg : Int → Int} {wks : Nat → Option Nat} {shw : Nat → Int64} {ex nt : Int → Int} {ww sw gw : Nat → Int64} {op arg : Nat → Int32}
theorem p_whyNotC (hK : kdR tw kd hg) {day : Int} {sh : Int → Int} {sl : Int} (hS : shR day sl sw sh) (hd : 0 ≤ day ∧ day < 4) {p mm s w : Int} (hp : 1 ≤ p ∧ p ≤ 3) (hm : 0 ≤ mm ∧ mm < 120) (hs : 0 ≤ s ∧ s < 100) (hw : 0 ≤ w ∧ w ≤ 4) {post : Int32 → Prop} (h : post (zi (whF tw sh p mm s w))) : wp_X9_whyNot (zi day) (zi mm) (zi s) (zA kd) sw (zi p) (zi w) post := by
  have key : ∀ g : Int, (g = if w = 4 then s else stp s w) → wp_X9_whyNot_b23 (zi day) (zi mm) (zi s) (zA kd) sw (zi p) post (zi w) (zi g) := by
    intro g hg'
    have sr := stp_rng (w := w) hs
    have gr : g = -1 ∨ (0 ≤ g ∧ g < 100) := by split at hg' <;> omega
    simp only [whF] at h
    rw [← hg'] at h
    simp only [wp_X9_whyNot_b23]
    rw [show (-1 : Int32) = zi (-1) from rfl, zi_eq (by omega)]
    refine ⟨fun q => ?_, fun q => ?_⟩
    · rw [if_neg q] at h
      refine p_isOpen hK (by omega) (fun o => ⟨fun _ => ?_, fun z => absurd z (by decide)⟩) (fun o => ⟨fun z => absurd rfl z, fun _ => ?_⟩)
      · rw [if_neg o.2] at h
        refine p_lengthOf (by omega) ?_
        have pr := plen_rng (w := w) hp
        simp (disch := omega) only [forall_eq, zi_lit, zi_add, zi_le, zi_eq]
        refine ⟨fun l => ?_, fun l => ?_⟩
        · rw [if_neg (by omega)] at h
          refine ⟨fun w4 => ?_, fun w4 => ?_⟩
          · rw [if_neg (fun z => z.1 w4)] at h; exact h
          · refine p_isShut hS hd (by omega) o.1 ?_
            have si := hS.1 (mm + plen w p) g (by omega) (by omega) o.1.1 o.1.2
            simp only [b2i_0]
            refine ⟨fun e => ?_, fun e => ?_⟩
            · rw [if_neg (fun z => by have := si.mpr z.2; rw [e] at this; cases this)] at h; exact h
            · rw [if_pos ⟨w4, si.mp (by cases x : hb sw (120 * day + (mm + plen w p)) g with | true => rfl | false => exact absurd x e)⟩] at h; exact h
        · rw [if_pos (by omega)] at h; exact h
      · rw [if_pos (Classical.byContradiction (fun z => o ⟨by omega, z⟩))] at h; exact h
    · rw [if_pos q] at h; exact h
  simp only [wp_X9_whyNot]
  rw [show (4 : Int32) = zi 4 from rfl, zi_eq (by omega), show (2 : Int32) = zi 2 from rfl, zi_mul]
  refine ⟨fun w4 => ?_, fun w4 => key s (by rw [if_pos w4])⟩
  refine p_away (k := 1) hs (by omega) (by decide) ?_
  rw [awy_stp (by omega)]
  exact key _ (by rw [if_neg w4])
theorem p_goAlong (hK : kdR tw kd hg) {day : Int} {sh : Int → Int} {sl : Int} (hS : shR day sl sw sh) (hd : 0 ≤ day ∧ day < 4) (hN : ntR nt tw) (hi : i32 nt) {p m fr T : Int} (hp : 1 ≤ p ∧ p ≤ 3) (hm : 0 ≤ m ∧ m < 120) (hf : 0 ≤ fr ∧ fr < 100) (hfo : tw fr ≠ 1) (hT : 0 ≤ T ∧ T ≤ 60) {tl f : Int → Int} (hfl : ∀ j, 0 ≤ j → j < T → f j = tl j ∧ 0 ≤ tl j ∧ tl j ≤ 4) {x1 x2 x3 : Int32} {t1 t2 : Nat → Int32} {post : Int32 → Int32 → Int32 → Int32 → (Nat → Int32) → (Nat → Int32) → Prop}
    (h : ∀ (P : Int → Int) (wi : Nat → Int32), (∀ j, 0 ≤ j → j < 120 → P j = jp tw sh tl p m fr T.toNat j) → i32 P → post (zi (jg tw sh tl p m fr T.toNat).1) (zi (jg tw sh tl p m fr T.toNat).2.2.1) (zi (jg tw sh tl p m fr T.toNat).2.2.2) (zi (jg tw sh tl p m fr T.toNat).2.1) (zA P) wi) :
    wp_X9_goAlong 60 (zi day) (zi m) (zi fr) (zi T) (zA f) (zA kd) sw (zA nt) (zi p) x1 x2 x3 t1 t2 post := by
  obtain ⟨f1, rfl, hf1⟩ := zA_ex t1
  simp only [wp_X9_goAlong]
  refine p_beginWay ?_
  obtain ⟨g1, rfl, hg1⟩ := zA_ex t2
  have tls : ∀ n : Nat, (n : Int) ≤ T → ∀ j, 0 ≤ j → j < (n : Int) → 0 ≤ tl j ∧ tl j ≤ 4 := fun n hn j a b => (hfl j a (by omega)).2
  have stable : ∀ k n : Nat, (jg tw sh tl p m fr n).1 ≠ 0 → jg tw sh tl p m fr (n + k) = jg tw sh tl p m fr n ∧ jp tw sh tl p m fr (n + k) = jp tw sh tl p m fr n := by
    intro k n hq
    induction k with
    | zero => exact ⟨rfl, rfl⟩
    | succ k ih =>
      have e : (jg tw sh tl p m fr (n + k)).1 ≠ 0 := by rw [ih.1]; exact hq
      rw [← Nat.add_assoc, jg_stay e, jp, if_neg (fun z => e z.1)]
      exact ih
  refine lp_inv (fun n s' => ∃ (P g : Int → Int), i32 P ∧ (∀ j, 0 ≤ j → j < 120 → P j = jp tw sh tl p m fr n j) ∧ (jg tw sh tl p m fr n).1 = 0 ∧ s' = (zi (jg tw sh tl p m fr n).2.2.1, zi (jg tw sh tl p m fr n).2.2.2, zi (jg tw sh tl p m fr n).2.1, zA P, zA g, zi n)) T.toNat ?_ ?_ 0 (Nat.zero_le _) ⟨flA f1 0 120 (-1), g1, fun j => by simp only [flA]; split; omega; exact hf1 j, fun j a b => by rw [flA, if_pos ⟨a, b⟩]; rfl, rfl, rfl⟩
  · rintro s' ⟨P, g, iP, hP, q0, rfl⟩ kb
    simp (disch := omega) only [wp_X9_goAlong_L6, zi_le]
    refine ⟨fun _ => ?_, fun u => absurd (by omega) u⟩
    have := h P (zA g) hP iP
    rw [q0] at this
    exact this
  · rintro n hn s' ⟨P, g, iP, hP, q0, rfl⟩ kb hkb
    have hni : ((n + 1 : Nat) : Int) = (n : Int) + 1 := by omega
    obtain ⟨i1, i2, i3, i4, i5, i6, i7, i8⟩ := jg_I (sh := sh) hp hm hf hfo n (tls n (by omega))
    have hl := hfl n (by omega) (by omega)
    have c0 := i6 q0
    simp (disch := omega) only [wp_X9_goAlong_L6, zi_le]
    refine ⟨fun u => by omega, fun _ => ?_⟩
    refine p_at (by decide) hT (by omega) (fun _ _ => ?_) (fun z => by omega)
    rw [hl.1]
    refine p_whyNotC hK hS hd hp (by omega) i2 hl.2 ?_
    have wr := wh_rng (tw := tw) (sh := sh) (p := p) (s := (jg tw sh tl p m fr n).2.2.2) (w := tl n) (mm := (jg tw sh tl p m fr n).2.2.1)
    rw [show (0 : Int32) = zi 0 from rfl, zi_eq (by omega)]
    refine ⟨fun q2 => ?_, fun q2 => ?_⟩
    · have w0 := wh_0 hl.2 i2 q2
      refine p_at (by decide) hT (by omega) (fun _ _ => ?_) (fun z => by omega)
      rw [hl.1]
      refine p_goPiece hN hi hp (by omega) i2 hl.2 (by omega) ?_
      simp only [forall_eq, zi_lit, zi_add]
      have sq : (if tl n = 4 then (jg tw sh tl p m fr n).2.2.2 else if stp (jg tw sh tl p m fr n).2.2.2 (tl n) = -1 ∨ tw (stp (jg tw sh tl p m fr n).2.2.2 (tl n)) = 1 then -1 else stp (jg tw sh tl p m fr n).2.2.2 (tl n)) = (if tl n = 4 then (jg tw sh tl p m fr n).2.2.2 else stp (jg tw sh tl p m fr n).2.2.2 (tl n)) := by
        by_cases w4 : tl n = 4
        · rw [if_pos w4, if_pos w4]
        · rw [if_neg w4, if_neg w4] 
          rw [if_neg w4] at w0
          rw [if_neg (fun z => by rcases z with z | z; omega; exact w0.2.2 z)]
      rw [sq]
      refine hkb _ ⟨flA P (jg tw sh tl p m fr n).2.2.1 ((jg tw sh tl p m fr n).2.2.1 + plen (tl n) p) (jg tw sh tl p m fr n).2.2.2, upI g (jg tw sh tl p m fr n).2.1 (tl n), fun j => ?_, fun j a b => ?_, by rw [jg_go q0 q2], by rw [jg_go q0 q2, hni]⟩
      · simp only [flA]
        split
        · omega
        · exact iP j
      · rw [jp, if_pos ⟨q0, q2⟩, flA, flA, hP j a b]
    · have e := jg_bad (n := n) q0 q2
      obtain ⟨k, hk⟩ : ∃ k, T.toNat = n + 1 + k := ⟨T.toNat - (n + 1), by omega⟩
      have st := stable k (n + 1) (by rw [e]; exact q2)
      have ejp : jp tw sh tl p m fr (n + 1) = jp tw sh tl p m fr n := by rw [jp, if_neg (fun z => q2 z.2)]
      have := h P (zA g) (fun j a b => by rw [hk, st.2, ejp]; exact hP j a b) iP
      rw [hk, st.1, e] at this
      exact this
theorem p_sunPath {P sn : Int → Int} {dw : Nat → Int64} (iP : i32 P) (hsn : ∀ k, 0 ≤ k → k < 12000 → (dkF dw k = true ∧ sn k = 0) ∨ (dkF dw k = false ∧ sn k = 1)) (hP : ∀ j, 0 ≤ j → j < 120 → P j = -1 ∨ (0 ≤ P j ∧ P j < 100)) {post : Int32 → Prop} (h : post (zi (cntC (fun j => P j ≠ -1 ∧ sn (100 * j + P j) = 1) 120))) : wp_X9_sunOnPath (zA P) dw post := by
  simp only [wp_X9_sunOnPath]
  refine lp_for0 (fun n => (zi (cntC (fun j => P j ≠ -1 ∧ sn (100 * j + P j) = 1) n), zi n)) 120 rfl (fun kb => ?_) (fun i hi kb hkb => ?_)
  · simp (disch := omega) only [wp_X9_sunOnPath_L4, zi_lit, zi_le]
    exact ⟨fun _ => h, fun u => absurd (by decide) u⟩
  · have hni : ((i + 1 : Nat) : Int) = (i : Int) + 1 := by omega
    have Pi := hP i (by omega) (by omega)
    have ii := iP i
    rw [hni, cntC] at hkb
    simp (disch := omega) only [wp_X9_sunOnPath_L4, forall_eq, zi_lit, zi_neg, zi_le, zi_in, zA_get, zi_eq, zi_add]
    refine ⟨fun u => by omega, fun _ => ⟨by omega, fun u => ?_, fun u => ⟨by omega, ?_⟩⟩⟩
    · rw [if_neg (fun y => y.1 u), Int.add_zero] at hkb; exact hkb
    refine p_has (n := 240) (by decide) (by omega) (by omega) ?_
    have s1 := hsn (100 * i + P i) (by omega) (by omega)
    rw [dkF, show (100 * (i : Int) + P i) / 100 = i by omega, show (100 * (i : Int) + P i) % 100 = P i by omega] at s1
    rcases s1 with ⟨x, y⟩ | ⟨x, y⟩
    · rw [if_pos x]
      refine ⟨fun _ => ?_, fun z => absurd z (by decide)⟩
      rw [if_neg (fun z => by have := z.2; omega), Int.add_zero] at hkb; exact hkb
    · rw [if_neg (by rw [x]; decide)]
      refine ⟨fun z => absurd rfl z, fun _ => ?_⟩
      rw [if_pos ⟨u, y⟩] at hkb; exact hkb
theorem p_greatest {P sn : Int → Int} {dw : Nat → Int64} (iP : i32 P) (hsn : ∀ k, 0 ≤ k → k < 12000 → (dkF dw k = true ∧ sn k = 0) ∨ (dkF dw k = false ∧ sn k = 1)) {m e mends : Int} (hm : 0 ≤ m ∧ m ≤ e) (he : e ≤ 119) (hP : ∀ j, m ≤ j → j < e → 0 ≤ P j ∧ P j < 100) (hme : 0 ≤ mends ∧ mends ≤ 99) {post : Int32 → Prop} (h : post (zi (mF sn P ww mends m (e - m).toNat).2)) : wp_X9_greatestHeat (zi m) (zi e) (zA P) dw ww (zi mends) post := by
  simp only [wp_X9_greatestHeat]
  refine lp_for0 (fun n => (zi (mF sn P ww mends m n).1, zi (mF sn P ww mends m n).2, zi (m + n))) (e - m).toNat (by simp only [mF]; rw [show m + ((0 : Nat) : Int) = m by omega]; rfl) (fun kb => ?_) (fun i hi kb hkb => ?_)
  · simp (disch := omega) only [wp_X9_greatestHeat_L9, zi_le]
    exact ⟨fun _ => h, fun u => absurd (by omega) u⟩
  · have hni : m + ((i + 1 : Nat) : Int) = m + i + 1 := by omega
    have rg := mF_rng (sn := sn) (P := P) (ww := ww) (m := m) hme.1 i
    have Pi := hP (m + i) (by omega) (by omega)
    have ii := iP (m + i)
    have i1 := iP (m + i - 1)
    have s1 := hsn (100 * (m + i) + P (m + i)) (by omega) (by omega)
    rw [hni, mF_s] at hkb
    dsimp only at hkb
    have b85 : ∀ v : Int, 0 ≤ v → v ≤ 200 → v = h0F P ww m i (mF sn P ww mends m i).1 → wp_X9_greatestHeat_b85 (fun l2 => post l2) kb (zi m) (zi e) (zA P) dw ww (zi mends) post (zi v) (zi (mF sn P ww mends m i).2) (zi (m + i)) := by
      intro v v0 v1 hv
      rw [← hv] at hkb
      have b121 : ∀ z : Int, 0 ≤ z → z ≤ 300 → z = ht1 (sn (100 * (m + i) + P (m + i))) mends v → wp_X9_greatestHeat_b121 (fun l2 => post l2) kb (zi m) (zi e) (zA P) dw ww (zi mends) post (zi (mF sn P ww mends m i).2) (zi (m + i)) (zi z) := by
        intro z z0 z1 hz
        rw [← hz] at hkb
        simp only [wp_X9_greatestHeat_b121, forall_eq]
        rw [show zi (m + (i : Int)) + 1 = zi (m + i + 1) from zi_add _ 1]
        by_cases y : (mF sn P ww mends m i).2 < z
        · rw [if_pos (by rw [zi_lt (by omega)]; exact y)]
          rw [if_pos y] at hkb; exact hkb
        · rw [if_neg (by rw [zi_lt (by omega)]; exact y)]
          rw [if_neg y] at hkb; exact hkb
      simp (disch := omega) only [wp_X9_greatestHeat_b85, zi_in, zA_get]
      refine ⟨by omega, ?_⟩
      refine p_has (n := 240) (by decide) (by omega) (by omega) ?_
      rw [dkF, show (100 * (m + (i : Int)) + P (m + i)) / 100 = m + i by omega, show (100 * (m + (i : Int)) + P (m + i)) % 100 = P (m + i) by omega] at s1
      rcases s1 with ⟨x, y⟩ | ⟨x, y⟩
      · rw [if_pos x]
        refine ⟨fun z => absurd z (by decide), fun _ => ?_⟩
        rw [zi_sub]
        by_cases z : 0 < v - mends
        · rw [if_pos (by rw [show (0 : Int32) = zi 0 from rfl, zi_lt (by omega)]; exact z)]
          exact b121 _ (by omega) (by omega) (by rw [ht1, if_pos y, if_pos z])
        · rw [if_neg (by rw [show (0 : Int32) = zi 0 from rfl, zi_lt (by omega)]; exact z)]
          exact b121 0 (by omega) (by omega) (by rw [ht1, if_pos y, if_neg z])
      · rw [if_neg (by rw [x]; decide)]
        refine ⟨fun _ => ?_, fun z => absurd rfl z⟩
        rw [show zi v + 1 = zi (v + 1) from zi_add _ 1]
        exact b121 _ (by omega) (by omega) (by rw [ht1, if_neg (by omega)])
    simp (disch := omega) only [wp_X9_greatestHeat_L9, zi_lit, zi_le]
    refine ⟨fun u => by omega, fun _ => ⟨fun u => by omega, fun _ => ⟨fun u => ?_, fun u => ?_⟩⟩⟩
    · simp only [wp_X9_greatestHeat_b52, wp_X9_greatestHeat_b53]
      exact ⟨fun _ => b85 _ rg.1.1 (by omega) (by rw [h0F, if_neg (fun z => by omega)]), fun z => absurd trivial z⟩
    · simp (disch := omega) only [forall_eq, zi_sub, zi_in, zA_get, zi_eq]
      refine ⟨by omega, by omega, fun q => ?_, fun q => ?_⟩
      · simp only [wp_X9_greatestHeat_b52, wp_X9_greatestHeat_b53]
        exact ⟨fun _ => b85 _ rg.1.1 (by omega) (by rw [h0F, if_neg (fun z => z.2.1 q)]), fun z => absurd trivial z⟩
      · simp (disch := omega) only [wp_X9_greatestHeat_b53, zi_in, zA_get]
        refine ⟨fun z => absurd z (by decide), fun _ => ⟨by omega, ?_⟩⟩
        rw [show (0 : Int32) = zi 0 from rfl]
        refine p_has (n := 2) (by decide) (by omega) (by omega) ?_
        have ew : watF ww (P (m + i)) = hbs 2 ww 0 (P (m + i)) := rfl
        cases x : hbs 2 ww 0 (P (m + i)) with
        | true =>
          rw [if_pos rfl]
          refine ⟨fun z => absurd z (by decide), fun _ => b85 0 (by omega) (by omega) (by rw [h0F, if_pos ⟨by omega, q, by rw [ew]; exact x⟩])⟩
        | false =>
          rw [if_neg (by decide)]
          refine ⟨fun _ => b85 _ rg.1.1 (by omega) (by rw [h0F, if_neg (fun z => by have := z.2.2; rw [ew, x] at this; cases this)]), fun z => absurd rfl z⟩
end JC
