/-! crowd and price: the reference -/
theorem smN_early {c f : Int → Int} {mn : Int} (hf : okF mn f) : ∀ M : Nat, (M : Int) ≤ mn → M ≤ 120 → smN c f M = 0
  | 0, _, _ => rfl
  | M + 1, h, h2 => by
    have q := (hf M (by omega) (by omega)).2 (by omega)
    rw [smN, smN_early hf M (by omega) (by omega), q]
    rfl
section CR
variable {tw : Int → Int} {vf : Int → Int → Int → Int32} {op arg : Nat → Int32}
theorem p_costOfOne {ca sn' sn : Int → Int} {Q : Int → Int → Int} {N i : Nat} {mn e : Int} (hN : N ≤ 8) (hi : i < N) (hmn : 0 ≤ mn ∧ mn < 120) (hca : ∀ j : Nat, j < N → ∀ m, 0 ≤ m → m < 120 → ca (120 * j + m) = Q j m) (hQ : okP mn N Q) (hs : ∀ k, 0 ≤ k → k < 12000 → sn' k = sn k) {post : Int32 → Prop} (h : post (zi (sm (cK sn e Q N i) (Q i)))) : wp_X12_costOfOne (zA ca) (zA sn') (zi i) (zi mn) (zi N) (zi e) post := by
  simp only [wp_X12_costOfOne]
  have key := lp_for (body := wp_X12_costOfOne_L6 (fun l5 => post l5) (zA ca) (zA sn') post) (fun m : Nat => (zi i, zi N, zi e, zi (smN (cK sn e Q N i) (Q i) m), zi (m : Int))) 120 (fun kb => ?_) (fun m hm kb hkb => ?_) mn.toNat (by omega)
  · have e0 : smN (cK sn e Q N i) (Q i) mn.toNat = 0 := smN_early (hQ i hi) _ (by omega) (by omega)
    rw [e0, show ((mn.toNat : Nat) : Int) = mn by omega] at key
    exact key
  · simp (disch := omega) only [wp_X12_costOfOne_L6, zi_lit, zi_le]
    exact ⟨fun _ => h, fun z => absurd (by decide) z⟩
  · have hnm : ((m + 1 : Nat) : Int) = (m : Int) + 1 := by omega
    have fm := (hQ i hi m (by omega) (by omega)).1
    rw [hnm, smN] at hkb
    simp (disch := omega) only [wp_X12_costOfOne_L6, zi_lit, zi_le, forall_eq, zi_mul, zi_add, zi_in, zA_get, zi_lt]
    refine ⟨fun z => by omega, fun _ => ⟨by omega, ?_⟩⟩
    rw [hca i hi m (by omega) (by omega), zi_lt (by omega)]
    refine ⟨fun z => ?_, fun z => ?_⟩
    · rw [if_neg (by omega), Int.add_zero] at hkb
      exact hkb
    · have f0 : 0 ≤ Q i m ∧ Q i m < 100 := by omega
      rw [if_pos f0.1, cK, show (100 * (m : Int) + Q i m) / 100 = m by omega, show (100 * (m : Int) + Q i m) % 100 = Q i m by omega] at hkb
      rw [zi_in (by omega), zA_get (by omega), hs _ (by omega) (by omega)]
      refine ⟨by omega, ?_⟩
      refine lp_for0 (fun j : Nat => (zi i, zi N, zi e, zi (smN (cK sn e Q N i) (Q i) m + sn (100 * m + Q i m) + e * cnO Q i m (Q i m) j), zi (m : Int), zi (Q i m), zi (j : Int))) N (by rw [zi_add]; simp [cnO]) (fun kb2 => ?_) (fun j hj kb2 hkb2 => ?_)
      · simp only [wp_X12_costOfOne_L53]
        rw [zi_le (by omega)]
        refine ⟨fun _ => ?_, fun y => absurd (Int.le_refl _) y⟩
        simp only [forall_eq, zi_lit, zi_add]
        rw [Int.add_assoc]
        exact hkb
      · have hnj : ((j + 1 : Nat) : Int) = (j : Int) + 1 := by omega
        have qj := (hQ j hj m (by omega) (by omega)).1
        rw [hnj, cnO, Int.mul_add] at hkb2
        simp only [wp_X12_costOfOne_L53]
        rw [zi_le (by omega), zi_eq (by omega)]
        refine ⟨fun y => by omega, fun _ => ⟨fun y => ?_, fun y => ?_⟩⟩
        · simp only [forall_eq, zi_lit, zi_add]
          rw [if_neg (fun x => x.1 y), Int.mul_zero, ← Int.add_assoc] at hkb2
          exact hkb2
        · simp (disch := omega) only [forall_eq, zi_lit, zi_mul, zi_add, zi_in, zA_get]
          rw [hca j hj m (by omega) (by omega), zi_eq (by omega)]
          refine ⟨by omega, fun x => ?_, fun x => ?_⟩
          · rw [if_neg (fun u => x u.2), Int.mul_zero, ← Int.add_assoc] at hkb2
            exact hkb2
          · rw [if_pos ⟨y, x⟩, Int.mul_one, ← Int.add_assoc] at hkb2
            exact hkb2
theorem p_sunOfOne {ca sn' sn : Int → Int} {Q : Int → Int → Int} {N i : Nat} {mn : Int} (hN : N ≤ 8) (hi : i < N) (hmn : 0 ≤ mn ∧ mn < 120) (hca : ∀ j : Nat, j < N → ∀ m, 0 ≤ m → m < 120 → ca (120 * j + m) = Q j m) (hQ : okP mn N Q) (hs : ∀ k, 0 ≤ k → k < 12000 → sn' k = sn k) {post : Int32 → Prop} (h : post (zi (sm sn (Q i)))) : wp_X12_sunOfOne (zA ca) (zA sn') (zi i) (zi mn) post := by
  simp only [wp_X12_sunOfOne]
  have key := lp_for (body := wp_X12_sunOfOne_L5 (fun l5 => post l5) (zA ca) (zA sn') post) (fun m : Nat => (zi i, zi (smN sn (Q i) m), zi (m : Int))) 120 (fun kb => ?_) (fun m hm kb hkb => ?_) mn.toNat (by omega)
  · have e0 : smN sn (Q i) mn.toNat = 0 := smN_early (hQ i hi) _ (by omega) (by omega)
    rw [e0, show ((mn.toNat : Nat) : Int) = mn by omega] at key
    exact key
  · simp (disch := omega) only [wp_X12_sunOfOne_L5, zi_lit, zi_le]
    exact ⟨fun _ => h, fun z => absurd (by decide) z⟩
  · have hnm : ((m + 1 : Nat) : Int) = (m : Int) + 1 := by omega
    have fm := (hQ i hi m (by omega) (by omega)).1
    rw [hnm, smN] at hkb
    simp (disch := omega) only [wp_X12_sunOfOne_L5, zi_lit, zi_le, forall_eq, zi_mul, zi_add, zi_in, zA_get, zi_lt]
    refine ⟨fun z => by omega, fun _ => ⟨by omega, ?_⟩⟩
    rw [hca i hi m (by omega) (by omega), zi_lt (by omega)]
    refine ⟨fun z => ?_, fun z => ?_⟩
    · rw [if_neg (by omega)] at hkb
      exact hkb
    · rw [if_pos (by omega)] at hkb
      rw [zi_in (by omega), zA_get (by omega), hs _ (by omega) (by omega)]
      rw [zi_add]
      exact ⟨by omega, hkb⟩
/-- one chooses -/
theorem p_choosesR (hi32 : i32 tw) {sn' shA c0 ca : Int → Int} (hc0 : i32 c0) (hsA : i32 shA) {d wk m fr to by' e less : Int} (hW : wkOk tw) (t : tripP tw wk d m fr to) (hby : 0 ≤ by' ∧ by' < 120) (he : 0 ≤ e ∧ e ≤ 9) (hs : ∀ k, 0 ≤ k → k < 12000 → sn' k = snC tw vf d k ∧ shA k = shC tw vf d k) {N i : Nat} (hN : N ≤ 8) (hi : i < 8) {Q : Int → Int → Int} (hca : ∀ j : Nat, j < N → ∀ m, 0 ≤ m → m < 120 → ca (120 * j + m) = Q j m) (hQ : okP m N Q) (hless : 0 ≤ less ∧ less ≤ 1000000) {wm : Int32} {l1 l2 wa wo : Nat → Int32} {post : Int32 → Int32 → (Nat → Int32) → (Nat → Int32) → (Nat → Int32) → (Nat → Int32) → (Nat → Int32) → (Nat → Int32) → Prop}
    (h1 : lfK tw vf d (tw (383 + 7 * wk)) to by' (100 * m + fr) e N Q i < less → ∀ (c' ca' : Int → Int), i32 c' → (∀ j, 0 ≤ j → j < 120 → ca' (120 * i + j) = wfK tw vf d (tw (383 + 7 * wk)) to by' (100 * m + fr) e N Q i j) → (∀ j, 0 ≤ j → ¬ (120 * (i : Int) ≤ j ∧ j < 120 * (i : Int) + 120) → ca' j = ca j) → ∀ (y1 : Int32) (s1 s2 s3 s4 : Nat → Int32), post 1 y1 (zA c') (zA ca') s1 s2 s3 s4)
    (h0 : ¬ lfK tw vf d (tw (383 + 7 * wk)) to by' (100 * m + fr) e N Q i < less → ∀ (c' : Int → Int), i32 c' → ∀ (y1 : Int32) (s1 s2 s3 s4 : Nat → Int32), post 0 y1 (zA c') (zA ca) s1 s2 s3 s4) :
    wp_X12_chooses (zA sn') (zA tw) (zA shA) wm (zA c0) (zA ca) l1 l2 wa wo (zi i) (zi wk) (zi m) (zi fr) (zi to) (zi by') (zi N) (zi e) (zi less) post := by
  obtain ⟨t1', t2', t3', t4', t5'⟩ := t
  have wo' := hW wk t1'.1.1 t1'.1.2 t1'.2
  have hk : ndT tw (100 * m + fr) := ⟨by omega, by omega, by rw [show (100 * m + fr) % 100 = fr by omega]; exact t4'.2⟩
  have hkr : ∀ j, j ≤ N → ∀ k, 0 ≤ k → k < 12000 → 0 ≤ cK (snC tw vf d) e Q j i k ∧ cK (snC tw vf d) e Q j i k ≤ 73 := fun j hj k a b => cK_rng (P := Q) (i := i) (show j ≤ 8 by omega) he (snC_01' (tw := tw) (vf := vf) d) k a b
  simp only [wp_X12_chooses]
  refine lp_inv (fun j st => ∃ c : Int → Int, st = (wm, zA c, zA ca, l1, l2, wa, wo, zi i, zi wk, zi m, zi fr, zi to, zi by', zi N, zi e, zi less, zi (j : Int)) ∧ (∀ k, ¬ (0 ≤ k ∧ k < 12000) → c k = c0 k) ∧ ∀ k, 0 ≤ k → k < (j : Int) → c k = snC tw vf d k) 12000 ?_ ?_ 0 (Nat.zero_le _) ⟨c0, rfl, fun _ _ => rfl, fun k a b => by omega⟩
  · rintro st ⟨c, rfl, hc1, hc2⟩ kb
    simp (disch := omega) only [wp_X12_chooses_L3, zi_lit, zi_le]
    refine ⟨fun _ => ?_, fun z => absurd (by decide) z⟩
    -- what the others cost
    refine lp_inv (fun j st => ∃ c : Int → Int, st = (wm, zA c, zA ca, l1, l2, wa, wo, zi i, zi wk, zi m, zi fr, zi to, zi by', zi N, zi e, zi less, zi (j : Int)) ∧ (∀ k, ¬ (0 ≤ k ∧ k < 12000) → c k = c0 k) ∧ ∀ k, 0 ≤ k → k < 12000 → c k = cK (snC tw vf d) e Q j i k) N ?_ ?_ 0 (Nat.zero_le _) ⟨c, rfl, hc1, fun k a b => by rw [hc2 k a (by omega)]; simp [cK, cnO]⟩
    · rintro st ⟨c, rfl, hc1, hc3⟩ kb2
      have hcB : cB c := fun k a b => by have := hkr N (Nat.le_refl _) k a b; rw [hc3 k a b]; omega
      have hci : i32 c := fun k => by
        by_cases q : 0 ≤ k ∧ k < 12000
        · have := hcB k q.1 q.2; omega
        · rw [hc1 k q]; exact hc0 k
      simp only [wp_X12_chooses_L34]
      rw [zi_le (by omega)]
      refine ⟨fun _ => ?_, fun z => absurd (Int.le_refl _) z⟩
      refine p_walkerOf (i := 0) t1'.1 (by omega) ?_
      rw [show 383 + 7 * wk + 0 = 383 + 7 * wk by omega]
      refine p_findLeast (wt := 1) (bym := by') (nw := 5) wo'.1 t5'.1 (by omega) hi32 hsA hcB (Or.inr rfl) (by decide) (fun lc le j1 j2 _ jB => ?_)
      have hb := jB (100 * m + fr) hk.1 hk.2.1 hk.2.2
      have eg := bG_eq (sh' := shC tw vf d) (c' := cK (snC tw vf d) e Q N i) wo'.1 (fun k a b => (hs k a b).2) hcB (cK_cB hN he) hc3 hk.1 hk.2.1 hb
      have el : lc (100 * m + fr) = lfK tw vf d (tw (383 + 7 * wk)) to by' (100 * m + fr) e N Q i := eg.1
      have lr := j1 (100 * m + fr)
      simp (disch := omega) only [forall_eq, zi_lit, zi_mul, zi_add, zi_in, zA_get, zi_lt]
      refine ⟨by omega, fun hl => ?_, fun hl => h0 (by rw [← el]; exact hl) c hci ..⟩
      refine p_walkerOf (i := 0) t1'.1 (by omega) ?_
      rw [show 383 + 7 * wk + 0 = 383 + 7 * wk by omega]
      refine p_findWay wo'.1 t5'.1 hi32 hsA hcB j1 j2 jB t3' t4'.1 t4'.2 (by omega) (fun ws fa ga hw hlen i3 i4 h5 h6 => ?_)
      have ew := wG_eq (sh' := shC tw vf d) (c' := cK (snC tw vf d) e Q N i) wo'.1 (fun k a b => (hs k a b).2) hcB (cK_cB hN he) hc3 jB hk (by omega) hw
      refine lp_inv (fun j st => ∃ ca' : Int → Int, st = (zi ws.length, zA c, zA ca', zA lc, zA le, zA fa, zA ga, zi i, zi (j : Int)) ∧ (∀ j', 0 ≤ j' → j' < (j : Int) → ca' (120 * i + j') = fa j') ∧ (∀ j', 0 ≤ j' → ¬ (120 * (i : Int) ≤ j' ∧ j' < 120 * (i : Int) + 120) → ca' j' = ca j')) 120 ?_ ?_ 0 (Nat.zero_le _) ⟨ca, rfl, fun j' a b => by omega, fun _ _ _ => rfl⟩
      · rintro st ⟨ca', rfl, q1, q2⟩ kb3
        simp (disch := omega) only [wp_X12_chooses_L159, zi_lit, zi_le]
        refine ⟨fun _ => h1 (by rw [← el]; exact hl) c ca' hci (fun j' a b => ?_) q2 .., fun z => absurd (by decide) z⟩
        rw [q1 j' a (by omega), h5 j' a b, ew.2 j', wfK, ew.1]
      · rintro j hj st ⟨ca', rfl, q1, q2⟩ kb3 hkb3
        have hnj : ((j + 1 : Nat) : Int) = (j : Int) + 1 := by omega
        simp (disch := omega) only [wp_X12_chooses_L159, zi_lit, zi_le, forall_eq, zi_mul, zi_add, zi_in, zA_get, zA_upd]
        refine ⟨fun z => by omega, fun _ => ⟨by omega, by omega, hkb3 _ ⟨_, by rw [hnj], fun j' a b => ?_, fun j' a b => ?_⟩⟩⟩
        · by_cases q : j' = j
          · rw [q, upI_s]
          · rw [upI_n (by omega)]; exact q1 j' a (by omega)
        · rw [upI_n (by omega)]; exact q2 j' a b
    · rintro j hj st ⟨c, rfl, hc1, hc3⟩ kb2 hkb2
      have hnj : ((j + 1 : Nat) : Int) = (j : Int) + 1 := by omega
      simp only [wp_X12_chooses_L34]
      rw [zi_le (by omega)]
      refine ⟨fun z => by omega, fun _ => ?_⟩
      have nextk : ∀ k, cK (snC tw vf d) e Q (j + 1) i k = cK (snC tw vf d) e Q j i k + (if (j : Int) ≠ i ∧ Q j (k / 100) = k % 100 then e else 0) := by
        intro k
        rw [cK, cK, cnO, Int.mul_add]
        by_cases q : (j : Int) ≠ i ∧ Q j (k / 100) = k % 100
        · rw [if_pos q, if_pos q]; omega
        · rw [if_neg q, if_neg q]; omega
      by_cases hji : (j : Int) = i
      · refine ⟨1, ?_⟩
        show wp_X12_chooses_L44 _ _ _ _ _ _ _
        simp only [wp_X12_chooses_L44]
        have fin : ∀ y101 : Int32, y101 = zi (j : Int) + 1 → kb2 (wm, zA c, zA ca, l1, l2, wa, wo, zi i, zi wk, zi m, zi fr, zi to, zi by', zi N, zi e, zi less, y101) := by
          intro y ey
          rw [ey, show (1 : Int32) = zi 1 from rfl, zi_add]
          refine hkb2 _ ⟨c, by rw [hnj], hc1, fun k a b => ?_⟩
          rw [hc3 k a b, nextk k, if_neg (fun z => z.1 hji), Int.add_zero]
        rw [hji] at fin ⊢
        exact ⟨fun _ => fin, fun _ => ⟨fun _ => fin, fun z => absurd rfl z⟩⟩
      · have key := lp_inv (body := wp_X12_chooses_L44 (fun t_wayMany t_cost t_crowdAt t_leastCost t_leastEnd t_whereAt t_wayOf l1 l2 l3 l4 l5 l6 l7 l8 l9 l10 => ∀ y101 : Int32, y101 = l10 + 1 → (kb2 (t_wayMany, t_cost, t_crowdAt, t_leastCost, t_leastEnd, t_whereAt, t_wayOf, l1, l2, l3, l4, l5, l6, l7, l8, l9, y101))) (zA sn') (zA tw) (zA shA) post) (fun mm st => ∃ c : Int → Int, st = (wm, zA c, zA ca, l1, l2, wa, wo, zi i, zi wk, zi m, zi fr, zi to, zi by', zi N, zi e, zi less, zi (j : Int), zi (mm : Int)) ∧ (∀ k, ¬ (0 ≤ k ∧ k < 12000) → c k = c0 k) ∧ ∀ k, 0 ≤ k → k < 12000 → c k = cK (snC tw vf d) e Q j i k + (if k / 100 < (mm : Int) ∧ Q j (k / 100) = k % 100 then e else 0)) 120 ?_ ?_ (s := (wm, zA c, zA ca, l1, l2, wa, wo, zi i, zi wk, zi m, zi fr, zi to, zi by', zi N, zi e, zi less, zi (j : Int), zi m)) m.toNat (by omega) ⟨c, by rw [show ((m.toNat : Nat) : Int) = m by omega], hc1, fun k a b => ?_⟩
        · exact key
        · rintro st ⟨c, rfl, hc1, hc4⟩ kb3
          simp (disch := omega) only [wp_X12_chooses_L44, zi_lit, zi_le, forall_eq, zi_add]
          refine ⟨fun _ => hkb2 _ ⟨c, by rw [hnj], hc1, fun k a b => ?_⟩, fun z => absurd (by decide) z⟩
          rw [hc4 k a b, nextk k]
          congr 1
          by_cases q : Q j (k / 100) = k % 100
          · rw [if_pos ⟨by omega, q⟩, if_pos ⟨hji, q⟩]
          · rw [if_neg (fun z => q z.2), if_neg (fun z => q z.2)]
        · rintro mm hmm st ⟨c, rfl, hc1, hc4⟩ kb3 hkb3
          have hnm : ((mm + 1 : Nat) : Int) = (mm : Int) + 1 := by omega
          have fm := (hQ j hj mm (by omega) (by omega)).1
          simp (disch := omega) only [wp_X12_chooses_L44, zi_lit, zi_le, zi_eq, forall_eq, zi_mul, zi_add, zi_in, zA_get]
          refine ⟨fun z => by omega, fun _ => ⟨fun z => absurd z hji, fun _ => ⟨by omega, ?_⟩⟩⟩
          rw [hca j hj mm (by omega) (by omega), zi_lt (by omega)]
          refine ⟨fun z => hkb3 _ ⟨c, by rw [hnm], hc1, fun k a b => ?_⟩, fun z => ?_⟩
          · rw [hc4 k a b]
            congr 1
            by_cases q : k / 100 < (mm : Int) ∧ Q j (k / 100) = k % 100
            · rw [if_pos q, if_pos ⟨by omega, q.2⟩]
            · rw [if_neg q, if_neg (fun y => ?_)]
              by_cases q3 : k / 100 = mm
              · have := y.2; rw [q3] at this; omega
              · exact q ⟨by omega, y.2⟩
          · rw [zi_in (by omega), zA_get (by omega), zi_add, zA_upd (by omega)]
            refine ⟨by omega, by omega, hkb3 _ ⟨_, by rw [hnm], fun k q => ?_, fun k a b => ?_⟩⟩
            · rw [upI_n (by omega)]; exact hc1 k q
            · by_cases e1 : k = 100 * mm + Q j mm
              · rw [← e1, upI_s, hc4 k a b, if_neg (fun y => by omega), if_pos ⟨by omega, by rw [show k / 100 = mm by omega]; omega⟩]; omega
              · rw [upI_n e1, hc4 k a b]
                congr 1
                by_cases q : k / 100 < (mm : Int) ∧ Q j (k / 100) = k % 100
                · rw [if_pos q, if_pos ⟨by omega, q.2⟩]
                · rw [if_neg q, if_neg (fun y => ?_)]
                  by_cases q3 : k / 100 = mm
                  · have := y.2; rw [q3] at this; omega
                  · exact q ⟨by omega, y.2⟩
        · rw [hc3 k a b, if_neg (fun y => ?_), Int.add_zero]
          have := (hQ j hj (k / 100) (by omega) (by omega)).2 (by omega)
          omega
  · rintro j hj st ⟨c, rfl, hc1, hc2⟩ kb hkb
    have hnj : ((j + 1 : Nat) : Int) = (j : Int) + 1 := by omega
    simp (disch := omega) only [wp_X12_chooses_L3, zi_lit, zi_le, forall_eq, zi_add, zi_in, zA_get, zA_upd]
    refine ⟨fun z => by omega, fun _ => ⟨by omega, by omega, hkb _ ⟨_, by rw [hnj], fun k q => ?_, fun k a b => ?_⟩⟩⟩
    · rw [upI_n (by omega)]; exact hc1 k q
    · by_cases q : k = j
      · rw [q, upI_s, (hs j (by omega) (by omega)).1]
      · rw [upI_n q]; exact hc2 k a (by omega)
end CR
