/-! spots: the class's sets, both calls -/
section SD
variable {pl : Pool} {tw sp : Int → Int} {vf : Int → Int → Int → Int32} {sl : Int} {kd hg : Int → Int} {wks suns : Nat → Option Nat} {shw : Nat → Int64} {ex nt : Int → Int} {ww sw gw : Nat → Int64} {op arg : Nat → Int32}
/-- sets seen so far, by how many they have, then as numbers -/
def seenS (bt : Int → Int) (q s T : Int) : Prop := bt T < q ∨ (bt T = q ∧ T < s)
theorem seen_opt {v bt : Int → Int} {q s b N many : Int} (hb0 : 0 ≤ b ∧ b < N) (hbm : bt b ≤ many) (hs : seenS bt q s b) (h : ∀ T, 0 ≤ T → T < N → seenS bt q s T → cnd v bt b T) (hg : ∀ T, 0 ≤ T → T < N → v b ≤ v T) : optS v bt many N b := by
  refine ⟨hb0, hbm, fun T t0 t1 _ => ?_⟩
  have g := hg T t0 t1
  have hh := h T t0 t1
  simp only [cnd, seenS] at hh hs ⊢
  by_cases z : bt T < q ∨ (bt T = q ∧ T < s)
  · exact hh z
  · omega
theorem p_trySets (C : CS pl tw vf sl kd hg wks shw ex nt ww sw gw) (hb' : brR tw) (hs : suR pl tw suns) {ln : Int → Int} (hl : ∀ d m, 0 ≤ d → d < 4 → 0 ≤ m → m < 120 → ln (120 * d + m) = lnT tw d m) {z : Int} (hz : spO tw sp z) {wk d m fr to h many : Int} (hh : 1 ≤ h ∧ h ≤ 99) (hmy : 1 ≤ many ∧ many ≤ 8) (t : tripP tw wk d m fr to) {dw0 lw0 : Nat → Int64} (hdw : dwR shw dw0 d) {q : Sst} (hF : Fnd tw (nxT tw (shC tw vf d) (tw (383 + 7 * wk))) (csT (costF false 1 0 dw0 ex) (tw (383 + 7 * wk))) 5 to 119 (100 * m + fr) 268435455 (tw (383 + 7 * wk)) q) (hJ : Jall (nxT tw (shC tw vf d) (tw (383 + 7 * wk))) (fun k w v => valF false 1 0 1 dw0 ex (tw (384 + 7 * wk)) (tw (385 + 7 * wk)) ww (nxT tw (shC tw vf d) (tw (383 + 7 * wk))) (tw (383 + 7 * wk)) k w v) 5 to (100 * m + fr) 268435455 119 1 (tw (383 + 7 * wk)) 12000 q) (hL : LR lw0 q.2.2.2.2) (har : q.2.2.1 ≠ -1) (hq1 : q.2.1 = lsC tw vf d (tw (383 + 7 * wk)) to 119 (100 * m + fr)) (hls : lsC tw vf d (tw (383 + 7 * wk)) to 119 (100 * m + fr) < 1000000)
    {c1 c2 c3 x1 x2 x4 : Int32} {t1 : Nat → Int32} {nw0 sh0 : Nat → Int64} {post : Int32 → Int32 → Int32 → Int32 → Int32 → Int32 → Int32 → (Nat → Int32) → (Nat → Int32) → (Nat → Int64) → (Nat → Int64) → (Nat → Int64) → (Nat → Int64) → Prop}
    (hp : ∀ b, optS (lsS tw sp vf d (tw (383 + 7 * wk)) to (100 * m + fr) h z) (fun S => cnt8 S 8) many (p2 z) b → ∀ (z3 z4 z5 z6 z7 : Int32) (s1 s2 : Nat → Int32) (v1 v2 v3 v4 : Nat → Int64), post (zi b) (zi (lsS tw sp vf d (tw (383 + 7 * wk)) to (100 * m + fr) h z b)) z3 z4 z5 z6 z7 s1 s2 v1 v2 v3 v4) :
    wp_X3_trySets pl false (zi d) (zi m) (zi to) 1 0 1 (zi sl) (zi (tw 261)) (zi z) shw (zA sp) suns (zA ln) (zA ex) (zA nt) ww sw (zi (tw (383 + 7 * wk))) (zi (tw (384 + 7 * wk))) (zi (tw (385 + 7 * wk))) c1 c2 c3 x1 x2 (zi q.2.1) x4 (zA q.2.2.2.1) t1 nw0 lw0 dw0 sh0 (zi h) (zi many) post := by
  have t' := t
  obtain ⟨t1', t2', t3', t4', t5'⟩ := t'
  have w := C.1.2.1 wk t1'.1.1 t1'.1.2 t1'.2
  have hT := C.1.1
  have zr := hz.1
  have pr := p2_rng zr
  obtain ⟨La0, rfl, -⟩ := zA_ex t1
  obtain ⟨e0, lok⟩ := lsS_ok (vf := vf) (d := d) (to := to) (k0 := 100 * m + fr) hT hb' w.1 hz hh (by omega) (by omega)
  obtain ⟨V, hV⟩ : ∃ V : Int → Int, V = lsS tw sp vf d (tw (383 + 7 * wk)) to (100 * m + fr) h z := ⟨_, rfl⟩
  rw [← hV] at hp e0 lok
  have b8 : ∀ S, 0 ≤ cnt8 S 8 ∧ cnt8 S 8 ≤ 8 := fun S => cnt8_rng S 8
  -- one set tried
  have tryS : ∀ (S B : Int) (La : Int → Int) (nw : Nat → Int64) (g1 g2 g3 g4 : Int32) (lv dk sh : Nat → Int64) (rc : Nat → Int32) (post' : Int32 → Int32 → Int32 → Int32 → Int32 → (Nat → Int64) → (Nat → Int32) → (Nat → Int64) → (Nat → Int64) → Prop), 0 ≤ S → S < p2 z → 0 ≤ B ∧ B ≤ q.2.1 → (∀ k, 0 ≤ k → k < 12000 → La k = q.2.2.2.1 k) → LR nw q.2.2.2.2 → (V S < B → ∀ (u2 u4 : Int32) (lw1 : Nat → Int64) (s1 : Nat → Int32) (dk1 sh1 : Nat → Int64), post' 1 1 u2 (zi (V S)) u4 lw1 s1 dk1 sh1) → (¬ V S < B → ∀ (u2 u3 u4 : Int32) (lw1 : Nat → Int64) (s1 : Nat → Int32) (dk1 sh1 : Nat → Int64), post' 0 1 u2 u3 u4 lw1 s1 dk1 sh1) → wp_X3_addTrees pl (zi d) shw (zi (tw 261)) (zi z) (zA sp) suns (zA ln) dk sh (zi S) (zi h) (fun dk1 sh1 => wp_X3_helps (zi B) false (zi d) (zi m) (zi to) 1 0 1 shw dk1 nw (zA La) (zA ex) (zA nt) (zi sl) ww sw (zi (tw (383 + 7 * wk))) (zi (tw (384 + 7 * wk))) (zi (tw (385 + 7 * wk))) g1 g2 g3 g4 lv rc (fun r a1 a2 a3 a4 a5 a6 => post' r a1 a2 a3 a4 a5 a6 dk1 sh1)) := by
    intro S B La nw g1 g2 g3 g4 lv dk sh rc post' s0 s1 hB hLa hnw k1 k0
    refine p_addTrees C hb' hs hl hz t2' hh ⟨s0, s1⟩ (fun dk1 sh1 hd1 => ?_)
    have eV : V S = lsC (trG tw sp S 2 h z.toNat) vf d (tw (383 + 7 * wk)) to 119 (100 * m + fr) := by rw [hV]; rfl
    rw [eV] at k1 k0
    refine p_helpsT C t hdw hF hJ hnw har hq1 hls (tv := trG tw sp S 2 h z.toNat) (trG_ag hz _ (by omega)) (trG_same hz (by omega) (by omega)) hd1 (fun m' s' a b c e y => ?_) hB hLa (fun y u2 u4 lw1 r1 => k1 y u2 u4 lw1 r1 dk1 sh1) (fun y u2 u3 u4 lw1 r1 => k0 y u2 u3 u4 lw1 r1 dk1 sh1)
    refine dim_sub hT hb' hz hh (S := 0) (fun i x => ?_) z.toNat (by omega) m' s' c e ?_
    · rw [btS] at x; simp at x
    · rw [trG_0]; exact y
  simp only [wp_X3_trySets]
  refine p_beginG hL (fun La nw hLa hnw => ?_)
  have now0 := (lok 0 (by omega) (by omega))
  rw [e0] at now0
  -- the loops, behind the goal
  have loops : ∀ (G : Int) (y1 y2 y3 y4 y5 : Int32) (r1 : Nat → Int32) (lv dk sh : Nat → Int64), G = V (p2 z - 1) → ∃ n, lp (wp_X3_trySets_L58 pl (fun t_chosen t_best t_gain t_walk_aims t_walk_most t_walk_cost t_walk_arrival t_walk_reach t_walk_labels t_near_words t_walk_live_words t_walk_dark_words t_shadows_words => post t_chosen t_best t_gain t_walk_aims t_walk_most t_walk_cost t_walk_arrival t_walk_reach t_walk_labels t_near_words t_walk_live_words t_walk_dark_words t_shadows_words) false (zi d) (zi m) (zi to) 1 0 1 (zi sl) (zi (tw 261)) (zi z) shw (zA sp) suns (zA ln) (zA ex) (zA nt) ww sw (zi (tw (383 + 7 * wk))) (zi (tw (384 + 7 * wk))) (zi (tw (385 + 7 * wk))) post) n (0, zi q.2.1, y1, y2, y3, y4, y5, r1, zA La, nw, lv, dk, sh, zi h, zi many, zi (p2 z - 1), zi G, 1) := by
    intro G y1 y2 y3 y4 y5 r1 lv dk sh hG
    have gr := (lok (p2 z - 1) (by omega) (by omega))
    have Vr : ∀ b, 0 ≤ b → b < p2 z → 0 ≤ V b ∧ V b < 1000000 := fun b a c => by have := lok b a c; omega
    have gmin : ∀ b, V b ≤ G → ∀ T, 0 ≤ T → T < p2 z → V b ≤ V T := fun b y T t0 t1 => by have := (lok T t0 t1).2.2; omega
    have ex0 : q.2.1 = V 0 := by rw [hq1, e0]
    rw [ex0]
    refine lp_inv (fun i st => ∃ (b : Int) (y1 y2 y3 y4 y5 : Int32) (r1 : Nat → Int32) (lv dk sh : Nat → Int64), st = (zi b, zi (V b), y1, y2, y3, y4, y5, r1, zA La, nw, lv, dk, sh, zi h, zi many, zi (p2 z - 1), zi G, zi (1 + i)) ∧ (0 ≤ b ∧ b < p2 z) ∧ cnt8 b 8 < 1 + i ∧ ∀ T, 0 ≤ T → T < p2 z → cnt8 T 8 < 1 + i → cnd V (fun S => cnt8 S 8) b T) many.toNat ?_ ?_ 0 (Nat.zero_le _) ⟨0, y1, y2, y3, y4, y5, r1, lv, dk, sh, rfl, by omega, by decide, fun T t0 t1 t2 => ?_⟩
    · rintro st ⟨b, y1, y2, y3, y4, y5, r1, lv, dk, sh, rfl, hb0, hbt, hc⟩ kb
      simp only [wp_X3_trySets_L58]
      rw [zi_lt (by omega)]
      refine ⟨fun _ => hp b ⟨hb0, ?_, fun T t0 t1 t2 => hc T t0 t1 ?_⟩ .., fun y => absurd (by omega) y⟩
      · show cnt8 b 8 ≤ many; omega
      · have : cnt8 T 8 ≤ many := t2
        omega
    · rintro i hi st ⟨b, y1, y2, y3, y4, y5, r1, lv, dk, sh, rfl, hb0, hbt, hc⟩ kb hkb
      have hni : 1 + ((i + 1 : Nat) : Int) = 1 + (i : Int) + 1 := by omega
      have vb := Vr b hb0.1 hb0.2
      have vg := Vr (p2 z - 1) (by omega) (by omega)
      simp only [wp_X3_trySets_L58]
      rw [zi_lt (by omega), zi_le (by omega)]
      refine ⟨fun y => by omega, fun _ => ⟨fun y => ?_, fun y => ?_⟩⟩
      · refine hp b (seen_opt (q := 1 + i) (s := 0) hb0 ?_ (Or.inl hbt) (fun T t0 t1 t2 => hc T t0 t1 ?_) (gmin b y)) ..
        · show cnt8 b 8 ≤ many; omega
        · have : cnt8 T 8 < 1 + (i : Int) ∨ (cnt8 T 8 = 1 + (i : Int) ∧ T < 0) := t2
          omega
      · refine lp_inv (fun j st => ∃ (b : Int) (y1 y2 y3 y4 y5 : Int32) (r1 : Nat → Int32) (lv dk sh : Nat → Int64), st = (zi b, zi (V b), y1, y2, y3, y4, y5, r1, zA La, nw, lv, dk, sh, zi h, zi many, zi (p2 z - 1), zi G, zi (1 + i), zi (1 + j)) ∧ (0 ≤ b ∧ b < p2 z) ∧ seenS (fun S => cnt8 S 8) (1 + i) (1 + j) b ∧ ∀ T, 0 ≤ T → T < p2 z → seenS (fun S => cnt8 S 8) (1 + i) (1 + j) T → cnd V (fun S => cnt8 S 8) b T) (p2 z - 1).toNat ?_ ?_ 0 (Nat.zero_le _) ⟨b, y1, y2, y3, y4, y5, r1, lv, dk, sh, rfl, hb0, Or.inl hbt, fun T t0 t1 t2 => ?_⟩
        · rintro st ⟨b, y1, y2, y3, y4, y5, r1, lv, dk, sh, rfl, hb0, hbt, hc⟩ kb2
          simp only [wp_X3_trySets_L76]
          rw [zi_lt (by omega)]
          refine ⟨fun _ => ?_, fun y => absurd (by omega) y⟩
          simp only [forall_eq, zi_lit, zi_add]
          have hbt' : cnt8 b 8 < 1 + (i : Int) ∨ (cnt8 b 8 = 1 + (i : Int) ∧ b < 1 + ((p2 z - 1).toNat : Int)) := hbt
          refine hkb _ ⟨b, y1, y2, y3, y4, y5, r1, lv, dk, sh, by rw [hni], hb0, by omega, fun T t0 t1 t2 => hc T t0 t1 ?_⟩
          show cnt8 T 8 < 1 + (i : Int) ∨ (cnt8 T 8 = 1 + (i : Int) ∧ T < 1 + ((p2 z - 1).toNat : Int))
          omega
        · rintro j hj st ⟨b, y1, y2, y3, y4, y5, r1, lv, dk, sh, rfl, hb0, hbt, hc⟩ kb2 hkb2
          have hnj : 1 + ((j + 1 : Nat) : Int) = 1 + (j : Int) + 1 := by omega
          have vb := Vr b hb0.1 hb0.2
          have vj := Vr (1 + j) (by omega) (by omega)
          have bj := b8 (1 + j)
          have hbt' : cnt8 b 8 < 1 + (i : Int) ∨ (cnt8 b 8 = 1 + (i : Int) ∧ b < 1 + (j : Int)) := hbt
          simp only [wp_X3_trySets_L76]
          rw [zi_lt (by omega), zi_le (by omega)]
          refine ⟨fun x => by omega, fun _ => ⟨fun x => ?_, fun x => ?_⟩⟩
          · simp only [forall_eq, zi_lit, zi_add]
            have o := seen_opt (many := many) hb0 (by show cnt8 b 8 ≤ many; omega) hbt hc (gmin b x)
            have hc2 : ∀ T, 0 ≤ T → T < p2 z → cnt8 T 8 < 1 + (i : Int) + 1 → cnd V (fun S => cnt8 S 8) b T := by
              intro T t0 t1 t2
              by_cases tm : cnt8 T 8 ≤ many
              · exact o.2.2 T t0 t1 tm
              · omega
            exact hkb _ ⟨b, y1, y2, y3, y4, y5, r1, lv, dk, sh, by rw [hni], hb0, by omega, fun T t0 t1 t2 => hc2 T t0 t1 (by omega)⟩
          · refine p_bitC (by omega) ?_
            rw [zi_eq (by omega)]
            refine ⟨fun u => ?_, fun u => ?_⟩
            · simp only [forall_eq, zi_lit, zi_add]
              refine hkb2 _ ⟨b, y1, y2, y3, y4, y5, r1, lv, dk, sh, by rw [hnj], hb0, ?_, fun T t0 t1 t2 => hc T t0 t1 ?_⟩
              · show cnt8 b 8 < 1 + (i : Int) ∨ (cnt8 b 8 = 1 + (i : Int) ∧ b < 1 + ((j + 1 : Nat) : Int)); omega
              · have t2' : cnt8 T 8 < 1 + (i : Int) ∨ (cnt8 T 8 = 1 + (i : Int) ∧ T < 1 + ((j + 1 : Nat) : Int)) := t2
                show cnt8 T 8 < 1 + (i : Int) ∨ (cnt8 T 8 = 1 + (i : Int) ∧ T < 1 + (j : Int))
                by_cases te : T = 1 + j
                · rw [te] at t2' ⊢; omega
                · omega
            · refine tryS (1 + j) (V b) La nw _ _ _ _ _ _ _ _ (fun r a1 a2 a3 a4 a5 a6 dk1 sh1 => (r = 0 → (∀ y121 : Int32, y121 = zi (1 + j) + 1 → (kb2 (zi b, zi (V b), y1, a1, a2, a3, a4, a6, zA La, nw, a5, dk1, sh1, zi h, zi many, zi (p2 z - 1), zi G, zi (1 + i), y121)))) ∧ (¬ r = 0 → (wp_X3_choose a3 (zi b) (zi (V b)) y1 (zi (1 + j)) (fun c1 c2 c3 => ∀ y121 : Int32, y121 = zi (1 + j) + 1 → (kb2 (c1, c2, c3, a1, a2, a3, a4, a6, zA La, nw, a5, dk1, sh1, zi h, zi many, zi (p2 z - 1), zi G, zi (1 + i), y121)))))) (by omega) (by omega) (by have := lok b hb0.1 hb0.2; omega) hLa hnw (fun y u2 u4 lw1 s1 dk1 sh1 => ⟨fun x => absurd x (by decide), fun _ => ?_⟩) (fun y u2 u3 u4 lw1 s1 dk1 sh1 => ⟨fun _ => ?_, fun x => absurd rfl x⟩)
              · simp only [wp_X3_choose, forall_eq, zi_lit, zi_sub, zi_add]
                refine hkb2 _ ⟨1 + j, _, _, _, _, _, _, _, _, _, by rw [hnj], by omega, ?_, fun T t0 t1 t2 => ?_⟩
                · show cnt8 (1 + (j : Int)) 8 < 1 + (i : Int) ∨ (cnt8 (1 + (j : Int)) 8 = 1 + (i : Int) ∧ 1 + (j : Int) < 1 + ((j + 1 : Nat) : Int)); omega
                · have t2' : cnt8 T 8 < 1 + (i : Int) ∨ (cnt8 T 8 = 1 + (i : Int) ∧ T < 1 + ((j + 1 : Nat) : Int)) := t2
                  show V (1 + j) < V T ∨ (V (1 + j) = V T ∧ (cnt8 (1 + (j : Int)) 8 < cnt8 T 8 ∨ (cnt8 (1 + (j : Int)) 8 = cnt8 T 8 ∧ 1 + (j : Int) ≤ T)))
                  by_cases te : T = 1 + j
                  · rw [te]; omega
                  · have c := hc T t0 t1 (by show cnt8 T 8 < 1 + (i : Int) ∨ (cnt8 T 8 = 1 + (i : Int) ∧ T < 1 + (j : Int)); omega)
                    have c' : V b < V T ∨ (V b = V T ∧ (cnt8 b 8 < cnt8 T 8 ∨ (cnt8 b 8 = cnt8 T 8 ∧ b ≤ T))) := c
                    omega
              · simp only [forall_eq, zi_lit, zi_add]
                refine hkb2 _ ⟨b, _, _, _, _, _, _, _, _, _, by rw [hnj], hb0, ?_, fun T t0 t1 t2 => ?_⟩
                · show cnt8 b 8 < 1 + (i : Int) ∨ (cnt8 b 8 = 1 + (i : Int) ∧ b < 1 + ((j + 1 : Nat) : Int)); omega
                · have t2' : cnt8 T 8 < 1 + (i : Int) ∨ (cnt8 T 8 = 1 + (i : Int) ∧ T < 1 + ((j + 1 : Nat) : Int)) := t2
                  by_cases te : T = 1 + j
                  · rw [te]
                    show V b < V (1 + j) ∨ (V b = V (1 + j) ∧ (cnt8 b 8 < cnt8 (1 + (j : Int)) 8 ∨ (cnt8 b 8 = cnt8 (1 + (j : Int)) 8 ∧ b ≤ 1 + j)))
                    omega
                  · exact hc T t0 t1 (by show cnt8 T 8 < 1 + (i : Int) ∨ (cnt8 T 8 = 1 + (i : Int) ∧ T < 1 + (j : Int)); omega)
        · have t2' : cnt8 T 8 < 1 + (i : Int) ∨ (cnt8 T 8 = 1 + (i : Int) ∧ T < 1 + ((0 : Nat) : Int)) := t2
          refine hc T t0 t1 ?_
          by_cases te : T = 0
          · rw [te, show cnt8 0 8 = 0 by decide]; omega
          · omega
    · have : cnt8 T 8 = 0 := by have := b8 T; omega
      have T0 : T = 0 := by
        have key : ∀ s : Fin 256, cnt8 (s.val : Int) 8 = 0 → s.val = 0 := by decide +kernel
        obtain ⟨n, rfl⟩ := Int.eq_ofNat_of_zero_le t0
        have := key ⟨n, by omega⟩ this
        have : n = 0 := this
        omega
      rw [T0]
      exact Or.inr ⟨rfl, Or.inr ⟨rfl, Int.le_refl _⟩⟩
  have e2 : (((1 : Int32) <<< (zi z &&& 31)) - 1) = zi (p2 z - 1) := by rw [p2_shl zr, show (1 : Int32) = zi 1 from rfl, zi_sub]
  rw [e2]
  simp only [forall_eq]
  have la := lok (p2 z - 1) (by omega) (by omega)
  refine tryS (p2 z - 1) q.2.1 La nw _ _ _ _ _ _ _ _ (fun r33 t_walk_aims_33 t_walk_most_33 t_walk_cost_33 t_walk_arrival_33 t_walk_live_words_33 t_walk_reach_33 dk1 sh1 => (r33 = 0 → (∃ n, lp (wp_X3_trySets_L58 pl (fun t_chosen t_best t_gain t_walk_aims t_walk_most t_walk_cost t_walk_arrival t_walk_reach t_walk_labels t_near_words t_walk_live_words t_walk_dark_words t_shadows_words => post t_chosen t_best t_gain t_walk_aims t_walk_most t_walk_cost t_walk_arrival t_walk_reach t_walk_labels t_near_words t_walk_live_words t_walk_dark_words t_shadows_words) false (zi d) (zi m) (zi to) 1 0 1 (zi sl) (zi (tw 261)) (zi z) shw (zA sp) suns (zA ln) (zA ex) (zA nt) ww sw (zi (tw (383 + 7 * wk))) (zi (tw (384 + 7 * wk))) (zi (tw (385 + 7 * wk))) post) n (0, zi q.2.1, 0, t_walk_aims_33, t_walk_most_33, t_walk_cost_33, t_walk_arrival_33, t_walk_reach_33, zA La, nw, t_walk_live_words_33, dk1, sh1, zi h, zi many, zi (p2 z - 1), zi q.2.1, 1))) ∧ (¬ r33 = 0 → (∃ n, lp (wp_X3_trySets_L58 pl (fun t_chosen t_best t_gain t_walk_aims t_walk_most t_walk_cost t_walk_arrival t_walk_reach t_walk_labels t_near_words t_walk_live_words t_walk_dark_words t_shadows_words => post t_chosen t_best t_gain t_walk_aims t_walk_most t_walk_cost t_walk_arrival t_walk_reach t_walk_labels t_near_words t_walk_live_words t_walk_dark_words t_shadows_words) false (zi d) (zi m) (zi to) 1 0 1 (zi sl) (zi (tw 261)) (zi z) shw (zA sp) suns (zA ln) (zA ex) (zA nt) ww sw (zi (tw (383 + 7 * wk))) (zi (tw (384 + 7 * wk))) (zi (tw (385 + 7 * wk))) post) n (0, zi q.2.1, 0, t_walk_aims_33, t_walk_most_33, t_walk_cost_33, t_walk_arrival_33, t_walk_reach_33, zA La, nw, t_walk_live_words_33, dk1, sh1, zi h, zi many, zi (p2 z - 1), t_walk_cost_33, 1)))) (by omega) (by omega) (by omega) hLa hnw (fun y u2 u4 lw1 s1 dk1 sh1 => ⟨fun x => absurd x (by decide), fun _ => loops _ _ _ _ _ _ _ _ _ _ rfl⟩) (fun y u2 u3 u4 lw1 s1 dk1 sh1 => ⟨fun _ => loops _ _ _ _ _ _ _ _ _ _ (by omega), fun x => absurd rfl x⟩)
noncomputable def spotsO (tw sp : Int → Int) (vf : Int → Int → Int → Int32) (z wk d m fr to h many w : Int) : Option Int := @ite (Option Int) (tripP tw wk d m fr to ∧ (1 ≤ h ∧ h ≤ 99) ∧ (1 ≤ many ∧ many ≤ 8) ∧ (0 ≤ w ∧ w ≤ 1) ∧ lsC tw vf d (tw (383 + 7 * wk)) to 119 (100 * m + fr) < 1000000) (Classical.propDecidable _) (some (if w = 0 then spC (lsS tw sp vf d (tw (383 + 7 * wk)) to (100 * m + fr) h z) (fun S => cnt8 S 8) many (p2 z) else lsS tw sp vf d (tw (383 + 7 * wk)) to (100 * m + fr) h z (spC (lsS tw sp vf d (tw (383 + 7 * wk)) to (100 * m + fr) h z) (fun S => cnt8 S 8) many (p2 z)))) none
theorem p_spotsC (C : CS pl tw vf sl kd hg wks shw ex nt ww sw gw) (hb' : brR tw) (hs : suR pl tw suns) {ln : Int → Int} (hl : ∀ d m, 0 ≤ d → d < 4 → 0 ≤ m → m < 120 → ln (120 * d + m) = lnT tw d m) {z : Int} (hz : spO tw sp z) {wk d m fr to h many w : Int} (a1 : ir wk) (a2 : ir d) (a3 : ir m) (a4 : ir fr) (a5 : ir to) (a6 : ir h) (a7 : ir many) (a8 : ir w) {o1 : Nat} {o2 o3 o4 o5 o6 o7 o8 o9 o10 o11 o12 o13 o14 o15 : Int32} {dw0 lw0 nw0 sh0 : Nat → Int64} {t1 t2 : Nat → Int32} {post : Option Int32 → Nat → Int32 → Int32 → Int32 → Int32 → Int32 → Int32 → Int32 → Int32 → Int32 → Int32 → Int32 → (Nat → Int64) → (Nat → Int64) → (Nat → Int32) → Int32 → Int32 → Int32 → (Nat → Int32) → (Nat → Int64) → (Nat → Int64) → Prop}
    (h1 : ∀ v, spotsO tw sp vf z wk d m fr to h many w = some v → ∀ (q1 : Nat) (y2 y3 y4 y5 y6 y7 y8 y9 y10 y11 y12 y13 y14 y15 : Int32) (dw lw nw sh : Nat → Int64) (s1 s2 : Nat → Int32), post (some (zi v)) q1 y2 y3 y4 y5 y6 y7 y8 y9 y10 y11 y12 dw lw s1 y13 y14 y15 s2 nw sh)
    (h0 : spotsO tw sp vf z wk d m fr to h many w = none → ∀ (q1 : Nat) (y2 y3 y4 y5 y6 y7 y8 y9 y10 y11 y12 y13 y14 y15 : Int32) (dw lw nw sh : Nat → Int64) (s1 s2 : Nat → Int32), post none q1 y2 y3 y4 y5 y6 y7 y8 y9 y10 y11 y12 dw lw s1 y13 y14 y15 s2 nw sh) :
    wp_X11_spots pl (zi sl) (zi (tw 261)) (zA kd) wks false shw (zA ex) (zA nt) ww sw (zi z) (zA sp) suns (zA ln) o1 o2 o3 o4 o5 o6 o7 o8 o9 o10 o11 o12 dw0 lw0 t1 o13 o14 o15 t2 nw0 sh0 (zi wk) (zi d) (zi m) (zi fr) (zi to) (zi h) (zi many) (zi w) post := by
  have b6 := a6
  have b7 := a7
  have b8 := a8
  simp only [ir] at b6 b7 b8
  simp only [wp_X11_spots, wp_X11_spots_b63]
  rw [show (zi w < 0) = (zi w < zi 0) from rfl, show (1 < zi w) = (zi 1 < zi w) from rfl, show (zi h < 1) = (zi h < zi 1) from rfl, show (99 < zi h) = (zi 99 < zi h) from rfl, show (zi many < 1) = (zi many < zi 1) from rfl, show (8 < zi many) = (zi 8 < zi many) from rfl, zi_lt (by omega), zi_lt (by omega), zi_lt (by omega), zi_lt (by omega), zi_lt (by omega), zi_lt (by omega)]
  refine ⟨fun z => h0 (by rw [spotsO, if_neg (fun y => by have := y.2.2.2.1; omega)]) .., fun z => ⟨fun z2 => h0 (by rw [spotsO, if_neg (fun y => by have := y.2.2.2.1; omega)]) .., fun z2 => ⟨fun z3 => h0 (by rw [spotsO, if_neg (fun y => by have := y.2.1; omega)]) .., fun z3 => ⟨fun z4 => h0 (by rw [spotsO, if_neg (fun y => by have := y.2.1; omega)]) .., fun z4 => ⟨fun z5 => h0 (by rw [spotsO, if_neg (fun y => by have := y.2.2.1; omega)]) .., fun z5 => ⟨fun z6 => h0 (by rw [spotsO, if_neg (fun y => by have := y.2.2.1; omega)]) .., fun z6 => ?_⟩⟩⟩⟩⟩⟩
  refine p_ready C.1.1 C.1.2.2.1 C.1.2.2.2 a1 a2 a3 a4 a5 (fun t q dw hq hdw => ⟨fun z => absurd z (by decide), fun _ => ⟨_, _, _, _, _, _, hq, ?_⟩⟩) (fun t => ⟨fun _ => h0 (by rw [spotsO, if_neg (fun y => t y.1)]) .., fun z => absurd rfl z⟩)
  refine p_seekJ C t hdw (fun hls _ q' lw' hF hJ hL har e1 => ⟨fun _ => ?_, fun z => absurd z (by decide)⟩) (fun hls q' lw' => ⟨fun z => absurd rfl z, fun _ => h0 (by rw [spotsO, if_neg (fun y => hls y.2.2.2.2)]) ..⟩)
  refine p_trySets C hb' hs hl hz (by omega) (by omega) t hdw hF hJ hL har e1 hls (fun b ob u3 u4 u5 u6 u7 s1 s2 v1 v2 v3 v4 => ?_)
  have eb := spC_eq ob
  rw [show (zi w = 0) = (zi w = zi 0) from rfl, zi_eq (by omega)]
  refine ⟨fun w0 => h1 _ (by rw [spotsO, if_pos ⟨t, by omega, by omega, by omega, hls⟩, if_neg w0, eb]) .., fun w0 => h1 _ (by rw [spotsO, if_pos ⟨t, by omega, by omega, by omega, hls⟩, if_pos w0, eb]) ..⟩
end SD
