/-! crowd and price: the reference's calls -/
section CZ
variable {tw : Int → Int} {vf : Int → Int → Int → Int32} {op arg : Nat → Int32}
theorem ca_up {ca ca' : Int → Int} {Q : Int → Int → Int} {f : Int → Int} {N i : Nat} (h : ∀ j : Nat, j < N → j ≠ i → ∀ m, 0 ≤ m → m < 120 → ca (120 * j + m) = Q j m) (h1 : ∀ m, 0 ≤ m → m < 120 → ca' (120 * i + m) = f m) (h2 : ∀ j, 0 ≤ j → ¬ (120 * (i : Int) ≤ j ∧ j < 120 * (i : Int) + 120) → ca' j = ca j) : ∀ j : Nat, j < N → ∀ m, 0 ≤ m → m < 120 → ca' (120 * j + m) = upP Q i f j m := by
  intro j hj m a b
  by_cases q : j = i
  · subst q; rw [upP_s]; exact h1 m a b
  · rw [upP_n (by omega), h2 _ (by omega) (by omega)]; exact h j hj q m a b
theorem p_findCrowd (hT : twR tw) (hW : wkOk tw) (hC : clR tw op arg vf) {sd : Int} {sy sn shA c0 : Int → Int} (hD : dayI tw vf sd sy sn shA) (hc0 : i32 c0) {wk d m fr to by' e n' : Int} (t : tripP tw wk d m fr to) (hby : 0 ≤ by' ∧ by' < 120) (hn' : 1 ≤ n' ∧ n' ≤ 8) (he : 0 ≤ e ∧ e ≤ 9) {wm x1 : Int32} {facts pile ca0 l1 l2 wa wo : Nat → Int32} {post : Int32 → Int32 → Int32 → Int32 → (Nat → Int32) → (Nat → Int32) → (Nat → Int32) → (Nat → Int32) → (Nat → Int32) → (Nat → Int32) → (Nat → Int32) → (Nat → Int32) → (Nat → Int32) → (Nat → Int32) → (Nat → Int32) → Prop}
    (h1 : ∀ Q R, fsN (lfK tw vf d (tw (383 + 7 * wk)) to by' (100 * m + fr) e) (wfK tw vf d (tw (383 + 7 * wk)) to by' (100 * m + fr) e) n'.toNat = some Q → isR (lfK tw vf d (tw (383 + 7 * wk)) to by' (100 * m + fr) e n'.toNat) (wfK tw vf d (tw (383 + 7 * wk)) to by' (100 * m + fr) e n'.toNat) (snC tw vf d) e n'.toNat Q R → ∀ (sy' sn' shA' c' ca : Int → Int), dayI tw vf d sy' sn' shA' → (∀ k, 0 ≤ k → k < 12000 → sn' k = snC tw vf d k ∧ shA' k = shC tw vf d k) → i32 c' → okP m n'.toNat (sqP (lfK tw vf d (tw (383 + 7 * wk)) to by' (100 * m + fr) e n'.toNat) (wfK tw vf d (tw (383 + 7 * wk)) to by' (100 * m + fr) e n'.toNat) (snC tw vf d) e n'.toNat Q (R + 1)) → (∀ j : Nat, j < n'.toNat → ∀ m', 0 ≤ m' → m' < 120 → ca (120 * j + m') = sqP (lfK tw vf d (tw (383 + 7 * wk)) to by' (100 * m + fr) e n'.toNat) (wfK tw vf d (tw (383 + 7 * wk)) to by' (100 * m + fr) e n'.toNat) (snC tw vf d) e n'.toNat Q (R + 1) j m') → ∀ (y1 : Int32) (f p s1 s2 s3 s4 : Nat → Int32), post 1 (zi d) y1 (zi (R + 1)) (zA sy') (zA sn') (zA shA') f p (zA ca) (zA c') s1 s2 s3 s4)
    (h0 : fsN (lfK tw vf d (tw (383 + 7 * wk)) to by' (100 * m + fr) e) (wfK tw vf d (tw (383 + 7 * wk)) to by' (100 * m + fr) e) n'.toNat = none → ∀ (sy' sn' shA' c' : Int → Int), dayI tw vf d sy' sn' shA' → i32 c' → ∀ (y1 y2 : Int32) (f p ca s1 s2 s3 s4 : Nat → Int32), post 0 (zi d) y1 y2 (zA sy') (zA sn') (zA shA') f p ca (zA c') s1 s2 s3 s4) :
    wp_X12_findCrowd (zA tw) op arg (zi sd) wm x1 (zA sy) (zA sn) (zA shA) facts pile ca0 (zA c0) l1 l2 wa wo (zi wk) (zi d) (zi m) (zi fr) (zi to) (zi by') (zi n') (zi e) post := by
  have t' := t
  obtain ⟨t1', t2', t3', t4', t5'⟩ := t'
  have wo' := hW wk t1'.1.1 t1'.1.2 t1'.2
  obtain ⟨n, rfl⟩ := Int.eq_ofNat_of_zero_le (show 0 ≤ n' by omega)
  simp only [Int.toNat_natCast] at h1 h0
  have hk : ndT tw (100 * m + fr) := ⟨by omega, by omega, by rw [show (100 * m + fr) % 100 = fr by omega]; exact t4'.2⟩
  have km : (100 * m + fr) / 100 = m := by omega
  have hn8 : n ≤ 8 := by omega
  have hsn := snC_01' (tw := tw) (vf := vf) d
  have hfs : ∀ i Q, i ≤ 8 → fsN (lfK tw vf d (tw (383 + 7 * wk)) to by' (100 * m + fr) e) (wfK tw vf d (tw (383 + 7 * wk)) to by' (100 * m + fr) e) i = some Q → okP m i Q := fun i Q hi hq => by have := fsN_ok he wo'.1 hk i Q hi hq; rwa [km] at this
  have hWn : ∀ (N : Nat) (Q : Int → Int → Int) (i : Int), N ≤ 8 → lfK tw vf d (tw (383 + 7 * wk)) to by' (100 * m + fr) e N Q i < 1000000 → okF m (wfK tw vf d (tw (383 + 7 * wk)) to by' (100 * m + fr) e N Q i) ∧ sm (cK (snC tw vf d) e Q N i) (wfK tw vf d (tw (383 + 7 * wk)) to by' (100 * m + fr) e N Q i) = lfK tw vf d (tw (383 + 7 * wk)) to by' (100 * m + fr) e N Q i := fun N Q i hN hl => by have := wfK_ok hN he wo'.1 hk Q i hl; rwa [km] at this
  obtain ⟨caf, rfl, -⟩ := zA_ex ca0
  simp only [wp_X12_findCrowd]
  refine p_laysDay hT hC t2' hD.1 hD.2.2.1 hD.2.2.2.1 hD.2.2.2.2 hD.2.1 (fun sy' sn' shA' f p i1 i2 dr => ?_)
  obtain ⟨syf, rfl, i3⟩ := zA_ex sy'
  have hD' : dayI tw vf d syf sn' shA' := ⟨by omega, i3, i1, i2, fun _ => dr⟩
  have hs : ∀ k, 0 ≤ k → k < 12000 → sn' k = snC tw vf d k ∧ shA' k = shC tw vf d k := fun k a b => dayR_C dr a b
  refine lp_inv (fun j st => ∃ ca : Int → Int, st = (zi d, wm, x1, zA syf, zA sn', zA shA', f, p, zA ca, zA c0, l1, l2, wa, wo, zi wk, zi m, zi fr, zi to, zi by', zi (n : Int), zi e, zi (j : Int))) 960 ?_ ?_ 0 (Nat.zero_le _) ⟨caf, rfl⟩
  · rintro st ⟨ca, rfl⟩ kb
    simp (disch := omega) only [wp_X12_findCrowd_L8, zi_lit, zi_le]
    refine ⟨fun _ => ?_, fun z => absurd (by decide) z⟩
    -- one after the other
    refine lp_inv (fun i st => ∃ (ca c Q : _) (y1 : Int32) (s1 s2 s3 s4 : Nat → Int32), i32 c ∧ fsN (lfK tw vf d (tw (383 + 7 * wk)) to by' (100 * m + fr) e) (wfK tw vf d (tw (383 + 7 * wk)) to by' (100 * m + fr) e) i = some Q ∧ (∀ j : Nat, j < i → ∀ m, 0 ≤ m → m < 120 → ca (120 * j + m) = Q j m) ∧ st = (zi d, y1, x1, zA syf, zA sn', zA shA', f, p, zA ca, zA c, s1, s2, s3, s4, zi wk, zi m, zi fr, zi to, zi by', zi (n : Int), zi e, zi (i : Int))) n ?_ ?_ 0 (Nat.zero_le _) ⟨ca, c0, fun _ _ => -1, wm, l1, l2, wa, wo, hc0, rfl, fun j hj => absurd hj (Nat.not_lt_zero _), rfl⟩
    · rintro st ⟨ca, c, Q, y1, s1, s2, s3, s4, hc, hQ, hca, rfl⟩ kb2
      simp only [wp_X12_findCrowd_L33]
      rw [zi_le (by omega)]
      refine ⟨fun _ => ?_, fun z => absurd (Int.le_refl _) z⟩
      have hP := hfs n Q hn8 hQ
      obtain ⟨R, hR, hRb⟩ := isR_ex (mn := m) hn8 he hsn (fun Q i => hWn n Q i hn8) hP
      refine lp_inv (fun r st => ∃ (ca c : Int → Int) (y1 : Int32) (s1 s2 s3 s4 : Nat → Int32), i32 c ∧ (∀ j : Nat, j < n → ∀ m', 0 ≤ m' → m' < 120 → ca (120 * j + m') = sqP (lfK tw vf d (tw (383 + 7 * wk)) to by' (100 * m + fr) e n) (wfK tw vf d (tw (383 + 7 * wk)) to by' (100 * m + fr) e n) (snC tw vf d) e n Q r j m') ∧ st = (zi d, y1, zi (r : Int), zA syf, zA sn', zA shA', f, p, zA ca, zA c, s1, s2, s3, s4, zi wk, zi m, zi fr, zi to, zi by', zi (n : Int), zi e, (if r ≤ R then 1 else 0))) (R + 1) ?_ ?_ 0 (Nat.zero_le _) ⟨ca, c, y1, s1, s2, s3, s4, hc, hca, by rw [if_pos (Nat.zero_le _)]; rfl⟩
      · rintro st ⟨ca, c, y1, s1, s2, s3, s4, hc, hca, rfl⟩ kb3
        have oF := (sqP_ok (mn := m) hn8 he hsn (fun Q i => hWn n Q i hn8) hP (R + 1)).1
        rw [if_neg (by omega)]
        simp only [wp_X12_findCrowd_L80]
        refine ⟨fun _ => ?_, fun z => absurd trivial z⟩
        have := h1 Q R hQ hR syf sn' shA' c ca hD' hs hc oF hca y1 f p s1 s2 s3 s4
        exact this
      · rintro r hr2 st ⟨ca, c, y1, s1, s2, s3, s4, hc, hca, rfl⟩ kb3 hkb3
        have hnr : ((r + 1 : Nat) : Int) = (r : Int) + 1 := by omega
        have oS := (sqP_ok (mn := m) hn8 he hsn (fun Q i => hWn n Q i hn8) hP r).1
        rw [if_pos (by omega)]
        simp only [wp_X12_findCrowd_L80]
        refine ⟨fun z => absurd z (by decide), fun _ => ?_⟩
        simp only [forall_eq, zi_lit, zi_add]
        generalize hS : sqP (lfK tw vf d (tw (383 + 7 * wk)) to by' (100 * m + fr) e n) (wfK tw vf d (tw (383 + 7 * wk)) to by' (100 * m + fr) e n) (snC tw vf d) e n Q r = S at *
        refine lp_inv (fun j st => ∃ (ca c : Int → Int) (y1 : Int32) (s1 s2 s3 s4 : Nat → Int32), i32 c ∧ (∀ i : Nat, i < n → ∀ m', 0 ≤ m' → m' < 120 → ca (120 * i + m') = (rdN (lfK tw vf d (tw (383 + 7 * wk)) to by' (100 * m + fr) e n) (wfK tw vf d (tw (383 + 7 * wk)) to by' (100 * m + fr) e n) (snC tw vf d) e n S j).2 i m') ∧ st = (zi d, y1, zi ((r : Int) + 1), zA syf, zA sn', zA shA', f, p, zA ca, zA c, s1, s2, s3, s4, zi wk, zi m, zi fr, zi to, zi by', zi (n : Int), zi e, (if (rdN (lfK tw vf d (tw (383 + 7 * wk)) to by' (100 * m + fr) e n) (wfK tw vf d (tw (383 + 7 * wk)) to by' (100 * m + fr) e n) (snC tw vf d) e n S j).1 = true then 1 else 0), zi (j : Int))) n ?_ ?_ 0 (Nat.zero_le _) ⟨ca, c, y1, s1, s2, s3, s4, hc, hca, rfl⟩
        · rintro st ⟨ca, c, y1, s1, s2, s3, s4, hc, hca, rfl⟩ kb4
          simp only [wp_X12_findCrowd_L101]
          rw [zi_le (by omega)]
          refine ⟨fun _ => ?_, fun z => absurd (Int.le_refl _) z⟩
          have es : sqP (lfK tw vf d (tw (383 + 7 * wk)) to by' (100 * m + fr) e n) (wfK tw vf d (tw (383 + 7 * wk)) to by' (100 * m + fr) e n) (snC tw vf d) e n Q (r + 1) = (rdN (lfK tw vf d (tw (383 + 7 * wk)) to by' (100 * m + fr) e n) (wfK tw vf d (tw (383 + 7 * wk)) to by' (100 * m + fr) e n) (snC tw vf d) e n S n).2 := by rw [sqP, hS]
          refine hkb3 _ ⟨ca, c, y1, s1, s2, s3, s4, hc, by rw [es]; exact hca, ?_⟩
          rw [hnr]
          by_cases q : r < R
          · have cc := hR.2 r q
            rw [hS] at cc
            rw [if_pos cc, if_pos (by omega)]
          · have cc := hR.1
            rw [show R = r by omega, hS] at cc
            rw [cc, if_neg (by decide), if_neg (by omega)]
        · rintro j hj st ⟨ca, c, y1, s1, s2, s3, s4, hc, hca, rfl⟩ kb4 hkb4
          have hnj : ((j + 1 : Nat) : Int) = (j : Int) + 1 := by omega
          have oj := (rdN_ok (mn := m) hn8 he hsn (fun Q i => hWn n Q i hn8) oS j (by omega)).1
          have hrd : rdN (lfK tw vf d (tw (383 + 7 * wk)) to by' (100 * m + fr) e n) (wfK tw vf d (tw (383 + 7 * wk)) to by' (100 * m + fr) e n) (snC tw vf d) e n S (j + 1) = if lfK tw vf d (tw (383 + 7 * wk)) to by' (100 * m + fr) e n (rdN (lfK tw vf d (tw (383 + 7 * wk)) to by' (100 * m + fr) e n) (wfK tw vf d (tw (383 + 7 * wk)) to by' (100 * m + fr) e n) (snC tw vf d) e n S j).2 j < sm (cK (snC tw vf d) e (rdN (lfK tw vf d (tw (383 + 7 * wk)) to by' (100 * m + fr) e n) (wfK tw vf d (tw (383 + 7 * wk)) to by' (100 * m + fr) e n) (snC tw vf d) e n S j).2 n j) ((rdN (lfK tw vf d (tw (383 + 7 * wk)) to by' (100 * m + fr) e n) (wfK tw vf d (tw (383 + 7 * wk)) to by' (100 * m + fr) e n) (snC tw vf d) e n S j).2 j) then (true, upP (rdN (lfK tw vf d (tw (383 + 7 * wk)) to by' (100 * m + fr) e n) (wfK tw vf d (tw (383 + 7 * wk)) to by' (100 * m + fr) e n) (snC tw vf d) e n S j).2 j (wfK tw vf d (tw (383 + 7 * wk)) to by' (100 * m + fr) e n (rdN (lfK tw vf d (tw (383 + 7 * wk)) to by' (100 * m + fr) e n) (wfK tw vf d (tw (383 + 7 * wk)) to by' (100 * m + fr) e n) (snC tw vf d) e n S j).2 j)) else rdN (lfK tw vf d (tw (383 + 7 * wk)) to by' (100 * m + fr) e n) (wfK tw vf d (tw (383 + 7 * wk)) to by' (100 * m + fr) e n) (snC tw vf d) e n S j := by rw [rdN]
          generalize rdN (lfK tw vf d (tw (383 + 7 * wk)) to by' (100 * m + fr) e n) (wfK tw vf d (tw (383 + 7 * wk)) to by' (100 * m + fr) e n) (snC tw vf d) e n S (j + 1) = J1 at *
          generalize rdN (lfK tw vf d (tw (383 + 7 * wk)) to by' (100 * m + fr) e n) (wfK tw vf d (tw (383 + 7 * wk)) to by' (100 * m + fr) e n) (snC tw vf d) e n S j = J0 at *
          have hkr := sm_rng (oj j hj) (by decide) (cK_rng (P := J0.2) (N := n) (i := j) hn8 he hsn)
          simp only [wp_X12_findCrowd_L101]
          rw [zi_le (by omega)]
          refine ⟨fun z => by omega, fun _ => ?_⟩
          refine p_costOfOne (sn := snC tw vf d) hn8 hj t3' hca oj (fun k a b => (hs k a b).1) ?_
          refine p_choosesR hT.1 hc i2 hW t hby he hs hn8 (by omega) hca oj (by omega) (fun hl c2 ca2 hc2 hw hwo z1 r1 r2 r3 r4 => ⟨fun _ => ?_, fun z => absurd z (by decide)⟩) (fun hl c2 hc2 z1 r1 r2 r3 r4 => ⟨fun z => absurd rfl z, fun _ => ?_⟩)
          · rw [if_pos hl] at hrd
            simp only [forall_eq, zi_lit, zi_add]
            refine hkb4 _ ⟨ca2, c2, z1, r1, r2, r3, r4, hc2, by rw [hrd]; exact ca_up (fun i hi _ => hca i hi) hw hwo, ?_⟩
            rw [hrd, hnj]
            rfl
          · rw [if_neg hl] at hrd
            simp only [forall_eq, zi_lit, zi_add]
            have hfin := hkb4 _ ⟨ca, c2, z1, r1, r2, r3, r4, hc2, by rw [hrd]; exact hca, rfl⟩
            rw [hrd, hnj] at hfin
            cases hb : J0.1 with
            | true =>
              rw [hb, if_pos rfl] at hfin
              exact ⟨fun z => absurd z (by decide), fun _ => hfin⟩
            | false =>
              rw [hb, if_neg (by decide)] at hfin
              exact ⟨fun _ => hfin, fun z => absurd rfl z⟩
    · rintro i hi st ⟨ca, c, Q, y1, s1, s2, s3, s4, hc, hQ, hca, rfl⟩ kb2 hkb2
      have hni : ((i + 1 : Nat) : Int) = (i : Int) + 1 := by omega
      have hP := hfs i Q (by omega) hQ
      have hst : fsN (lfK tw vf d (tw (383 + 7 * wk)) to by' (100 * m + fr) e) (wfK tw vf d (tw (383 + 7 * wk)) to by' (100 * m + fr) e) (i + 1) = if lfK tw vf d (tw (383 + 7 * wk)) to by' (100 * m + fr) e i Q i < 1000000 then some (upP Q i (wfK tw vf d (tw (383 + 7 * wk)) to by' (100 * m + fr) e i Q i)) else none := by rw [fsN, hQ]
      simp only [wp_X12_findCrowd_L33]
      rw [zi_le (by omega), show (1000000 : Int32) = zi 1000000 from rfl]
      refine ⟨fun z => by omega, fun _ => ?_⟩
      refine p_choosesR hT.1 hc i2 hW t hby he hs (by omega) (by omega) hca hP (by omega) (fun hl c2 ca2 hc2 hw hwo z1 r1 r2 r3 r4 => ⟨fun _ => ?_, fun z => absurd z (by decide)⟩) (fun hl c2 hc2 z1 r1 r2 r3 r4 => ⟨fun z => absurd rfl z, fun _ => ?_⟩)
      · rw [if_pos hl] at hst
        simp only [forall_eq, zi_lit, zi_add]
        refine hkb2 _ ⟨ca2, c2, _, z1, r1, r2, r3, r4, hc2, hst, ca_up (N := i + 1) (fun j hj hne => hca j (by omega)) hw hwo, by rw [hni]⟩
      · rw [if_neg hl] at hst
        have hno := fsN_none hst (n - (i + 1))
        rw [show i + 1 + (n - (i + 1)) = n by omega] at hno
        exact h0 hno syf sn' shA' c2 hD' hc2 ..
  · rintro j hj st ⟨ca, rfl⟩ kb hkb
    have hnj : ((j + 1 : Nat) : Int) = (j : Int) + 1 := by omega
    simp (disch := omega) only [wp_X12_findCrowd_L8, zi_lit, zi_neg, zi_le, forall_eq, zi_add, zi_in, zA_upd]
    exact ⟨fun z => by omega, fun _ => ⟨by omega, hkb _ ⟨_, by rw [hnj]⟩⟩⟩
theorem p_isCrowd (hi : i32 tw) {wk d m fr to by' n e : Int} (a1 : ir wk) (a2 : ir d) (a3 : ir m) (a4 : ir fr) (a5 : ir to) (a6 : ir by') (a7 : ir n) (a8 : ir e) {post : Int32 → Prop} (h1 : tripP tw wk d m fr to → grpP by' n e → post 1) (h0 : ¬ (tripP tw wk d m fr to ∧ grpP by' n e) → post 0) : wp_X12_isCrowd (zA tw) (zi wk) (zi d) (zi m) (zi fr) (zi to) (zi by') (zi n) (zi e) post := by
  simp only [wp_X12_isCrowd]
  refine p_isTrip hi a1 a2 a3 a4 a5 (fun t => ⟨fun z => absurd z (by decide), fun _ => ?_⟩) (fun t => ⟨fun _ => h0 (fun y => t y.1), fun z => absurd rfl z⟩)
  refine p_isMinuteR a6 (fun q => ⟨fun z => absurd z (by decide), fun _ => ?_⟩) (fun q => ⟨fun _ => h0 (fun y => q y.2.1), fun z => absurd rfl z⟩)
  rw [show (1 : Int32) = zi 1 from rfl, show (8 : Int32) = zi 8 from rfl, show (9 : Int32) = zi 9 from rfl, show (0 : Int32) = zi 0 from rfl]
  refine p_within a7 (by omega) (by omega) (fun q2 => ⟨fun z => absurd z (by decide), fun _ => ?_⟩) (fun q2 => ⟨fun _ => h0 (fun y => q2 y.2.2.1), fun z => absurd rfl z⟩)
  exact p_within a8 (by omega) (by omega) (fun q3 => ⟨fun z => absurd z (by decide), fun _ => h1 t ⟨q, q2, q3⟩⟩) (fun q3 => ⟨fun _ => h0 (fun y => q3 y.2.2.2), fun z => absurd rfl z⟩)
theorem p_crowdR (hT : twR tw) (hW : wkOk tw) (hC : clR tw op arg vf) {sd : Int} {sy sn shA c0 : Int → Int} (hD : dayI tw vf sd sy sn shA) (hc0 : i32 c0) {wk d m fr to by' n e w : Int} (a1 : ir wk) (a2 : ir d) (a3 : ir m) (a4 : ir fr) (a5 : ir to) (a6 : ir by') (a7 : ir n) (a8 : ir e) (a9 : ir w) {th wm x1 : Int32} {facts pile ca0 l1 l2 wa wo : Nat → Int32} {post : Int32 → Int32 → Int32 → Int32 → Int32 → (Nat → Int32) → (Nat → Int32) → (Nat → Int32) → (Nat → Int32) → (Nat → Int32) → (Nat → Int32) → (Nat → Int32) → (Nat → Int32) → (Nat → Int32) → (Nat → Int32) → (Nat → Int32) → Prop}
    (h1 : ∀ v, crowdO tw vf wk d m fr to by' n e w = some v → ∀ (sd' : Int) (sy' sn' shA' c' : Int → Int), dayI tw vf sd' sy' sn' shA' → i32 c' → ∀ (y1 y2 : Int32) (f p ca s1 s2 s3 s4 : Nat → Int32), post (zi v) 0 (zi sd') y1 y2 ca (zA sn') (zA sy') (zA shA') f p (zA c') s1 s2 s3 s4)
    (h0 : crowdO tw vf wk d m fr to by' n e w = none → ∀ (sd' : Int) (sy' sn' shA' c' : Int → Int), dayI tw vf sd' sy' sn' shA' → i32 c' → ∀ (y1 y2 : Int32) (f p ca s1 s2 s3 s4 : Nat → Int32), post 0 1 (zi sd') y1 y2 ca (zA sn') (zA sy') (zA shA') f p (zA c') s1 s2 s3 s4) :
    wp_X12_crowd (zA tw) op arg th (zi sd) wm x1 ca0 (zA sn) (zA sy) (zA shA) facts pile (zA c0) l1 l2 wa wo (zi wk) (zi d) (zi m) (zi fr) (zi to) (zi by') (zi n) (zi e) (zi w) post := by
  have b9 := a9
  simp only [ir] at b9
  simp only [wp_X12_crowd, wp_X12_crowd_b55, wp_X12_crowd_b56]
  refine p_isCrowd hT.1 a1 a2 a3 a4 a5 a6 a7 a8 (fun t g => ⟨fun z => absurd z (by decide), fun _ => ?_⟩) (fun q => ⟨fun _ => ⟨fun z => absurd z (by decide), fun _ => h0 (by rw [crowdO, if_neg (fun y => q ⟨y.1, y.2.1⟩)]) sd sy sn shA c0 hD hc0 ..⟩, fun z => absurd rfl z⟩)
  rw [show (3 : Int32) = zi 3 from rfl]
  refine p_within (a := 0) a9 (by omega) (by omega) (fun q3 => ⟨fun z => absurd z (by decide), fun _ => ?_⟩) (fun q3 => ⟨fun _ => ⟨fun z => absurd z (by decide), fun _ => h0 (by rw [crowdO, if_neg (fun y => q3 y.2.2)]) sd sy sn shA c0 hD hc0 ..⟩, fun z => absurd rfl z⟩)
  have gn := g.2.1
  refine p_findCrowd hT hW hC hD hc0 t g.1 g.2.1 g.2.2 (fun Q R hQ hR sy' sn' shA' c' ca hD' hs hc' oF hca y1 f p s1 s2 s3 s4 => ⟨fun z => absurd z (by decide), fun _ => ⟨fun _ => ?_, fun z => absurd (by decide) z⟩⟩) (fun hQ sy' sn' shA' c' hD' hc' y1 y2 f p ca s1 s2 s3 s4 => ⟨fun _ => ⟨fun z => absurd z (by decide), fun _ => h0 (by rw [crowdO, if_pos ⟨t, g, q3⟩, crS_none hQ]; rfl) d sy' sn' shA' c' hD' hc' ..⟩, fun z => absurd rfl z⟩)
  have hO : crowdO tw vf wk d m fr to by' n e w = (crS tw vf d (tw (383 + 7 * wk)) to by' (100 * m + fr) e n.toNat).map (fun r => if w = 0 then r.1 else if w = 1 then r.2.1 else if w = 2 then r.2.2.1 else r.2.2.2) := by rw [crowdO, if_pos ⟨t, g, q3⟩]
  rw [crS_some hQ hR, Option.map_some] at hO
  have t3' := t.2.2.1
  have hsn := snC_01' (tw := tw) (vf := vf) d
  obtain ⟨N, hN⟩ : ∃ N : Nat, n.toNat = N := ⟨_, rfl⟩
  have hnN : zi n = zi (N : Int) := by congr 1; omega
  rw [hN] at hO oF hca
  rw [hnN]
  generalize sqP (lfK tw vf d (tw (383 + 7 * wk)) to by' (100 * m + fr) e N) (wfK tw vf d (tw (383 + 7 * wk)) to by' (100 * m + fr) e N) (snC tw vf d) e N Q (R + 1) = F at *
  refine lp_for0 (fun i : Nat => (0, zi d, y1, zi (R + 1), zA ca, zA sn', zA sy', zA shA', f, p, zA c', s1, s2, s3, s4, zi m, zi (N : Int), zi e, zi w, zi (csN (snC tw vf d) e N F i), zi (suN (snC tw vf d) F i), zi (gtN (snC tw vf d) e N F i), zi (i : Int))) N rfl (fun kb => ?_) (fun i hi kb hkb => ?_)
  · simp only [wp_X12_crowd_L80]
    rw [zi_le (by omega), show (zi w = 0) = (zi w = zi 0) from rfl, show (zi w = 1) = (zi w = zi 1) from rfl, show (zi w = 2) = (zi w = zi 2) from rfl, zi_eq (by omega), zi_eq (by omega), zi_eq (by omega)]
    refine ⟨fun _ => ⟨fun w0 => ⟨fun w1 => ⟨fun w2' => ?_, fun w2' => ?_⟩, fun w1 => ?_⟩, fun w0 => ?_⟩, fun z => absurd (Int.le_refl _) z⟩
    · exact h1 _ (by rw [hO]; simp only [if_neg w0, if_neg w1, if_neg w2']) d sy' sn' shA' c' hD' hc' ..
    · exact h1 _ (by rw [hO]; simp only [if_neg w0, if_neg w1, if_pos w2']) d sy' sn' shA' c' hD' hc' ..
    · exact h1 _ (by rw [hO]; simp only [if_neg w0, if_pos w1]) d sy' sn' shA' c' hD' hc' ..
    · exact h1 _ (by rw [hO]; simp only [if_pos w0]) d sy' sn' shA' c' hD' hc' ..
  · have hni : ((i + 1 : Nat) : Int) = (i : Int) + 1 := by omega
    have rg := gtN_rng (show N ≤ 8 by omega) g.2.2 hsn oF i (by omega)
    have hk := sm_rng (oF i hi) (by decide) (cK_rng (P := F) (N := N) (i := i) (show N ≤ 8 by omega) g.2.2 hsn)
    rw [hni, csN, suN, gtN] at hkb
    simp only [wp_X12_crowd_L80]
    rw [zi_le (by omega)]
    refine ⟨fun z => by omega, fun _ => ?_⟩
    refine p_costOfOne (sn := snC tw vf d) (by omega) hi t3' hca oF (fun k a b => (hs k a b).1) ?_
    simp only [forall_eq]
    refine p_sunOfOne (sn := snC tw vf d) (by omega) hi t3' hca oF (fun k a b => (hs k a b).1) ?_
    rw [zi_le (by omega)]
    simp only [zi_lit, zi_add]
    refine ⟨fun z => ?_, fun z => ?_⟩
    · rw [if_neg (by omega)] at hkb; exact hkb
    · rw [if_pos (by omega)] at hkb; exact hkb
theorem p_priceR (hT : twR tw) (hW : wkOk tw) (hC : clR tw op arg vf) {sd : Int} {sy sn shA c0 : Int → Int} (hD : dayI tw vf sd sy sn shA) (hc0 : i32 c0) {wk d m fr to by' n e : Int} (a1 : ir wk) (a2 : ir d) (a3 : ir m) (a4 : ir fr) (a5 : ir to) (a6 : ir by') (a7 : ir n) (a8 : ir e) {th wm x1 : Int32} {facts pile ca0 l1 l2 wa wo : Nat → Int32} {post : Int32 → Int32 → Int32 → Int32 → Int32 → (Nat → Int32) → (Nat → Int32) → (Nat → Int32) → (Nat → Int32) → (Nat → Int32) → (Nat → Int32) → (Nat → Int32) → (Nat → Int32) → (Nat → Int32) → (Nat → Int32) → (Nat → Int32) → Prop}
    (h1 : ∀ v, priceO tw vf wk d m fr to by' n e = some v → ∀ (sd' : Int) (sy' sn' shA' c' : Int → Int), dayI tw vf sd' sy' sn' shA' → i32 c' → ∀ (y1 y2 : Int32) (f p ca s1 s2 s3 s4 : Nat → Int32), post (zi v) 0 (zi sd') y1 y2 ca (zA sn') (zA c') s1 s2 (zA shA') (zA sy') f p s3 s4)
    (h0 : priceO tw vf wk d m fr to by' n e = none → ∀ (sd' : Int) (sy' sn' shA' c' : Int → Int), dayI tw vf sd' sy' sn' shA' → i32 c' → ∀ (y1 y2 : Int32) (f p ca s1 s2 s3 s4 : Nat → Int32), post 0 1 (zi sd') y1 y2 ca (zA sn') (zA c') s1 s2 (zA shA') (zA sy') f p s3 s4) :
    wp_X12_price (zA tw) op arg th (zi sd) wm x1 ca0 (zA sn) (zA c0) l1 l2 (zA shA) (zA sy) facts pile wa wo (zi wk) (zi d) (zi m) (zi fr) (zi to) (zi by') (zi n) (zi e) post := by
  simp only [wp_X12_price, wp_X12_price_b45, wp_X12_price_b46]
  refine p_isCrowd hT.1 a1 a2 a3 a4 a5 a6 a7 a8 (fun t g => ⟨fun z => absurd z (by decide), fun _ => ?_⟩) (fun q => ⟨fun _ => ⟨fun z => absurd z (by decide), fun _ => h0 (by rw [priceO, if_neg q]) sd sy sn shA c0 hD hc0 ..⟩, fun z => absurd rfl z⟩)
  have gn := g.2.1
  have gb := g.1
  refine p_findCrowd hT hW hC hD hc0 t g.1 g.2.1 g.2.2 (fun Q R hQ hR sy' sn' shA' c' ca hD' hs hc' oF hca y1 f p s1 s2 s3 s4 => ⟨fun z => absurd z (by decide), fun _ => ⟨fun _ => ?_, fun z => absurd (by decide) z⟩⟩) (fun hQ sy' sn' shA' c' hD' hc' y1 y2 f p ca s1 s2 s3 s4 => ⟨fun _ => ⟨fun z => absurd z (by decide), fun _ => h0 (by rw [priceO, if_pos ⟨t, g⟩, crS_none hQ]; rfl) d sy' sn' shA' c' hD' hc' ..⟩, fun z => absurd rfl z⟩)
  have hO : priceO tw vf wk d m fr to by' n e = (crS tw vf d (tw (383 + 7 * wk)) to by' (100 * m + fr) e n.toNat).map (fun r => r.1 - n * lsC tw vf d (tw (383 + 7 * wk)) to by' (100 * m + fr)) := by rw [priceO, if_pos ⟨t, g⟩]
  rw [crS_some hQ hR, Option.map_some] at hO
  obtain ⟨t1', t2', t3', t4', t5'⟩ := t
  have wo' := hW wk t1'.1.1 t1'.1.2 t1'.2
  have hsn := snC_01' (tw := tw) (vf := vf) d
  obtain ⟨N, hN⟩ : ∃ N : Nat, n.toNat = N := ⟨_, rfl⟩
  have hnN : zi n = zi (N : Int) := by congr 1; omega
  have hnN2 : n = (N : Int) := by omega
  rw [hN] at hO oF hca
  rw [hnN]
  generalize sqP (lfK tw vf d (tw (383 + 7 * wk)) to by' (100 * m + fr) e N) (wfK tw vf d (tw (383 + 7 * wk)) to by' (100 * m + fr) e N) (snC tw vf d) e N Q (R + 1) = F at *
  refine lp_for0 (fun i : Nat => (0, zi d, y1, zi (R + 1), zA ca, zA sn', zA c', s1, s2, zA shA', zA sy', f, p, s3, s4, zi wk, zi m, zi fr, zi to, zi by', zi (N : Int), zi e, zi (csN (snC tw vf d) e N F i), zi (i : Int))) N rfl (fun kb => ?_) (fun i hi kb hkb => ?_)
  · simp only [wp_X12_price_L64]
    rw [zi_le (by omega)]
    refine ⟨fun _ => ?_, fun z => absurd (Int.le_refl _) z⟩
    refine p_costsSun hD'.2.2.1 hc' (fun c2 hc2 hcs => ?_)
    rw [show (0 : Int32) = zi 0 from rfl]
    refine p_walkerOf (i := 0) t1'.1 (by omega) ?_
    rw [show 383 + 7 * wk + 0 = 383 + 7 * wk by omega]
    have hcs2 : ∀ k, 0 ≤ k → k < 12000 → c2 k = snC tw vf d k := fun k a b => by rw [hcs k a b]; exact (hs k a b).1
    have hcB : cB c2 := fun k a b => by have := hsn k a b; rw [hcs2 k a b]; omega
    refine p_findLeast (wt := 1) (bym := by') (nw := 5) wo'.1 t5'.1 (by omega) hT.1 hD'.2.2.2.1 hcB (Or.inr rfl) (by decide) (fun lc le j1 j2 _ jB => ?_)
    have el := (lsC_eq (tw := tw) (vf := vf) (d := d) (to := to) (bym := by') wo'.1 (fun k a b => (hs k a b).2) hcB hcs2 (k := 100 * m + fr) (by omega) (by omega) (jB _ (by omega) (by omega) (by rw [show (100 * m + fr) % 100 = fr by omega]; exact t4'.2))).1
    simp (disch := omega) only [forall_eq, zi_lit, zi_mul, zi_add, zi_in, zA_get, zi_sub]
    rw [el, ← hnN2]
    exact ⟨by omega, h1 _ hO d sy' sn' shA' c2 hD' hc2 ..⟩
  · have hni : ((i + 1 : Nat) : Int) = (i : Int) + 1 := by omega
    rw [hni, csN] at hkb
    simp only [wp_X12_price_L64]
    rw [zi_le (by omega)]
    refine ⟨fun z => by omega, fun _ => ?_⟩
    refine p_costOfOne (sn := snC tw vf d) (by omega) hi t3' hca oF (fun k a b => (hs k a b).1) ?_
    simp only [forall_eq, zi_lit, zi_add]
    exact hkb
end CZ
