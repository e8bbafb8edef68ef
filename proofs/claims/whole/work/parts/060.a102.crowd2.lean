/-! the crowd: the class's pieces -/
section CP
variable {tw : Int → Int} {vf : Int → Int → Int → Int32} {p to bym : Int}
theorem bG_eq {sh c sh' c' : Int → Int} (hp : 1 ≤ p ∧ p ≤ 3) (hs : ∀ k, 0 ≤ k → k < 12000 → sh k = sh' k) (hcB : cB c) (hcB' : cB c') (hc : ∀ k, 0 ≤ k → k < 12000 → c k = c' k) {k C E : Int} (h0 : 0 ≤ k) (h1 : k < 12000) (hB : Bst (nxT tw sh p) (csT c p) 5 to bym k C E) : C = (bC (nxT tw sh' p) (csT c' p) 5 to bym k).1 ∧ (C < 1000000 → E = (bC (nxT tw sh' p) (csT c' p) 5 to bym k).2) :=
  Bst_uni (Bst_agr (Agr_T hp hs hc) (Gok_T hp hcB) h0 h1 hB) (bC_ok (Gok_T hp hcB') h0 h1)
theorem wG_eq {sh c sh' c' lc le : Int → Int} (hp : 1 ≤ p ∧ p ≤ 3) (hs : ∀ k, 0 ≤ k → k < 12000 → sh k = sh' k) (hcB : cB c) (hcB' : cB c') (hc : ∀ k, 0 ≤ k → k < 12000 → c k = c' k) (hB : ∀ k, 0 ≤ k → k < 12000 → tw (k % 100) ≠ 1 → Bst (nxT tw sh p) (csT c p) 5 to bym k (lc k) (le k)) {k : Int} {ws : List Int} (hk : ndT tw k) (hl : lc k < 1000000) (hw : fwy (nxT tw sh p) (csT c p) 5 to lc le ws k) : wC (nxT tw sh' p) (csT c' p) 5 to bym k = ws ∧ ∀ m, pth (nxT tw sh p) ws k m = pth (nxT tw sh' p) ws k m := by
  have key := fwy_agr (nd := ndT tw) (lc' := fun k => (bC (nxT tw sh' p) (csT c' p) 5 to bym k).1) (le' := fun k => (bC (nxT tw sh' p) (csT c' p) 5 to bym k).2) (Agr_T hp hs hc) (Gok_T hp hcB) (fun k h => ⟨h.1, h.2.1⟩) (fun k h => bG_eq hp hs hcB hcB' hc h.1 h.2.1 (hB k h.1 h.2.1 h.2.2)) (fun k w h _ _ hn => ⟨hn, (nxT_ok hp h.1 h.2.1 hn).1, (nxT_ok hp h.1 h.2.1 hn).2.2.1⟩) ws k hk hl hw
  exact ⟨wC_eq key.1, key.2⟩
/-- a member's least cost beside the others, and its way -/
noncomputable def lfK (tw : Int → Int) (vf : Int → Int → Int → Int32) (d p to bym k0 e : Int) (N : Nat) (Q : Int → Int → Int) (i : Int) : Int := (bC (nxT tw (shC tw vf d) p) (csT (cK (snC tw vf d) e Q N i) p) 5 to bym k0).1
noncomputable def wfK (tw : Int → Int) (vf : Int → Int → Int → Int32) (d p to bym k0 e : Int) (N : Nat) (Q : Int → Int → Int) (i : Int) : Int → Int := pth (nxT tw (shC tw vf d) p) (wC (nxT tw (shC tw vf d) p) (csT (cK (snC tw vf d) e Q N i) p) 5 to bym k0) k0
theorem snC_01' (d : Int) : ∀ k, 0 ≤ k → k < 12000 → 0 ≤ snC tw vf d k ∧ snC tw vf d k ≤ 1 := fun k _ _ => by have := snC_01 tw vf d k; omega
theorem cK_cB {d e i : Int} {N : Nat} {Q : Int → Int → Int} (hN : N ≤ 8) (he : 0 ≤ e ∧ e ≤ 9) : cB (cK (snC tw vf d) e Q N i) := fun k a b => by have := cK_rng (P := Q) (i := i) hN he (snC_01' (tw := tw) (vf := vf) d) k a b; omega
theorem wfK_ok {d k0 e : Int} {N : Nat} (hN : N ≤ 8) (he : 0 ≤ e ∧ e ≤ 9) (hp : 1 ≤ p ∧ p ≤ 3) (hk : ndT tw k0) (Q : Int → Int → Int) (i : Int) (hl : lfK tw vf d p to bym k0 e N Q i < 1000000) : okF (k0 / 100) (wfK tw vf d p to bym k0 e N Q i) ∧ sm (cK (snC tw vf d) e Q N i) (wfK tw vf d p to bym k0 e N Q i) = lfK tw vf d p to bym k0 e N Q i := by
  have hcB : cB (cK (snC tw vf d) e Q N i) := cK_cB hN he
  have G := Gok_T (tw := tw) (sh := shC tw vf d) (nw := 5) hp hcB
  have hB : ∀ k, 0 ≤ k → k < 12000 → tw (k % 100) ≠ 1 → Bst (nxT tw (shC tw vf d) p) (csT (cK (snC tw vf d) e Q N i) p) 5 to bym k (bC (nxT tw (shC tw vf d) p) (csT (cK (snC tw vf d) e Q N i) p) 5 to bym k).1 (bC (nxT tw (shC tw vf d) p) (csT (cK (snC tw vf d) e Q N i) p) 5 to bym k).2 := fun k a b _ => bC_ok G a b
  obtain ⟨ws, hw, -⟩ := fwy_ex (nd := ndT tw) (lc := fun k => (bC (nxT tw (shC tw vf d) p) (csT (cK (snC tw vf d) e Q N i) p) 5 to bym k).1) (le := fun k => (bC (nxT tw (shC tw vf d) p) (csT (cK (snC tw vf d) e Q N i) p) 5 to bym k).2) G ⟨fun k hk => ⟨hk.1, hk.2.1, hB k hk.1 hk.2.1 hk.2.2⟩, fun k w hk _ _ hn => ⟨hn, (nxT_ok hp hk.1 hk.2.1 hn).1, (nxT_ok hp hk.1 hk.2.1 hn).2.2.1⟩⟩ 120 k0 hk hl (by have := hk.1; omega)
  have e1 := wC_eq hw
  have s := sm_pth (lc := fun k => (bC (nxT tw (shC tw vf d) p) (csT (cK (snC tw vf d) e Q N i) p) 5 to bym k).1) (le := fun k => (bC (nxT tw (shC tw vf d) p) (csT (cK (snC tw vf d) e Q N i) p) 5 to bym k).2) hp hcB hB ws k0 hk hl hw
  rw [wfK, e1]
  exact ⟨s.2, s.1⟩
end CP
theorem cnO_ge {P : Int → Int → Int} {i m s : Int} : ∀ N : Nat, (i < 0 ∨ (N : Int) ≤ i) → cnO P i m s N = cnO P (-1) m s N
  | 0, _ => rfl
  | N + 1, h => by
    rw [cnO, cnO, cnO_ge N (by omega)]
    congr 1
    by_cases q : P N m = s
    · rw [if_pos ⟨by omega, q⟩, if_pos ⟨by omega, q⟩]
    · rw [if_neg (fun z => q z.2), if_neg (fun z => q z.2)]
theorem cnO_one {P : Int → Int → Int} {m s : Int} {i : Nat} : ∀ N : Nat, cnO P (-1) m s N = cnO P i m s N + (if i < N ∧ P i m = s then 1 else 0)
  | 0 => by simp [cnO]
  | N + 1 => by
    have ih := cnO_one (P := P) (m := m) (s := s) (i := i) N
    rw [cnO, cnO, ih]
    have eB : (if (N : Int) ≠ -1 ∧ P N m = s then (1 : Int) else 0) = (if P N m = s then 1 else 0) := by
      by_cases q : P N m = s
      · rw [if_pos q, if_pos ⟨by omega, q⟩]
      · rw [if_neg q, if_neg (fun z => q z.2)]
    rw [eB]
    by_cases e : i = N
    · subst e
      have eA : (if i < i ∧ P i m = s then (1 : Int) else 0) = 0 := if_neg (fun z => absurd z.1 (Nat.lt_irrefl _))
      have eD : (if (i : Int) ≠ i ∧ P i m = s then (1 : Int) else 0) = 0 := if_neg (fun z => z.1 rfl)
      have eF : (if i < i + 1 ∧ P i m = s then (1 : Int) else 0) = (if P i m = s then 1 else 0) := by
        by_cases q : P i m = s
        · rw [if_pos q, if_pos ⟨by omega, q⟩]
        · rw [if_neg q, if_neg (fun z => q z.2)]
      rw [eA, eD, eF]
    · have eD : (if (N : Int) ≠ i ∧ P N m = s then (1 : Int) else 0) = (if P N m = s then 1 else 0) := by
        by_cases q : P N m = s
        · rw [if_pos q, if_pos ⟨by omega, q⟩]
        · rw [if_neg q, if_neg (fun z => q z.2)]
      have eF : (if i < N + 1 ∧ P i m = s then (1 : Int) else 0) = (if i < N ∧ P i m = s then 1 else 0) := by
        by_cases q : i < N ∧ P i m = s
        · rw [if_pos q, if_pos ⟨by omega, q.2⟩]
        · rw [if_neg q, if_neg (fun z => q ⟨by omega, z.2⟩)]
      rw [eD, eF]
      omega
theorem cnO_up {P : Int → Int → Int} {m s : Int} {i : Nat} {B : Int → Int} : ∀ N : Nat, cnO (upP P i B) i m s N = cnO P i m s N
  | 0 => rfl
  | N + 1 => by
    rw [cnO, cnO, cnO_up N]
    congr 1
    by_cases e : (N : Int) = i
    · rw [if_neg (fun z => z.1 e), if_neg (fun z => z.1 e)]
    · rw [upP_n e]
section CC
variable {pl : Pool} {tw : Int → Int} {vf : Int → Int → Int → Int32} {sl : Int} {kd hg : Int → Int} {wks suns : Nat → Option Nat} {shw : Nat → Int64} {ex nt : Int → Int} {ww sw gw : Nat → Int64} {op arg : Nat → Int32}
theorem CS_ex {ex' : Int → Int} (C : CS pl tw vf sl kd hg wks shw ex nt ww sw gw) (h : ∀ k, 0 ≤ k → k < 12000 → 0 ≤ ex' k ∧ ex' k ≤ 900) : CS pl tw vf sl kd hg wks shw ex' nt ww sw gw := ⟨C.1, C.2.1, h, C.2.2.2⟩
theorem p_whereIs {wh : Int → Int} {i m : Int} (hi : 0 ≤ i ∧ i < 8) (hm : 0 ≤ m ∧ m < 120) {post : Int32 → Prop} (h : post (zi (wh (120 * i + m)))) : wp_X1_whereIs (zA wh) (zi i) (zi m) post := by
  simp (disch := omega) only [wp_X1_whereIs, forall_eq, zi_lit, zi_mul, zi_add, zi_lt, nI_zi 960, zi_in]
  rw [show i * 120 + m = 120 * i + m by omega, zA_get (by omega)]
  exact ⟨fun z => by omega, fun _ => ⟨fun _ => ⟨by omega, h⟩, fun z => absurd (show 120 * i + m < ((960 : Nat) : Int) by omega) z⟩⟩
theorem p_crowdOut {wh ex f : Int → Int} {i a mn : Int} (hi : 0 ≤ i ∧ i < 8) (hw : ∀ m, 0 ≤ m → m < 120 → wh (120 * i + m) = f m) (hf : okF mn f) {post : (Nat → Int32) → Prop} (h : ∀ ex' : Int → Int, (∀ k, 0 ≤ k → k < 12000 → ex' k = ex k + (if f (k / 100) = k % 100 then a else 0)) → post (zA ex')) : wp_X1_crowdOut (zA wh) (zA ex) (zi i) (zi a) post := by
  simp only [wp_X1_crowdOut]
  refine lp_inv (fun m st => ∃ ex' : Int → Int, st = (zA ex', zi i, zi a, zi m) ∧ ∀ k, 0 ≤ k → k < 12000 → ex' k = ex k + (if k / 100 < (m : Int) ∧ f (k / 100) = k % 100 then a else 0)) 120 ?_ ?_ 0 (Nat.zero_le _) ⟨ex, rfl, fun k a b => by rw [if_neg (fun z => by omega), Int.add_zero]⟩
  · rintro st ⟨ex', rfl, hx⟩ kb
    simp (disch := omega) only [wp_X1_crowdOut_L2, zi_lit, zi_le]
    refine ⟨fun _ => h ex' (fun k a' b => ?_), fun z => absurd (by decide) z⟩
    rw [hx k a' b]
    congr 1
    by_cases q : f (k / 100) = k % 100
    · rw [if_pos q, if_pos ⟨by omega, q⟩]
    · rw [if_neg q, if_neg (fun z => q z.2)]
  · rintro m hm st ⟨ex', rfl, hx⟩ kb hkb
    have hnm : ((m + 1 : Nat) : Int) = (m : Int) + 1 := by omega
    have fm := (hf m (by omega) (by omega)).1
    simp (disch := omega) only [wp_X1_crowdOut_L2, zi_lit, zi_le]
    refine ⟨fun z => by omega, fun _ => ?_⟩
    refine p_whereIs hi (by omega) ?_
    rw [hw m (by omega) (by omega)]
    refine p_isSquare (by omega) (fun q => ⟨fun z => absurd z (by decide), fun _ => ?_⟩) (fun q => ⟨fun _ => ?_, fun z => absurd rfl z⟩)
    · simp (disch := omega) only [forall_eq, zi_mul, zi_add, zi_in, zA_get, zA_upd]
      refine ⟨by omega, by omega, hkb _ ⟨_, by rw [hnm], fun k a' b => ?_⟩⟩
      by_cases e : k = m * 100 + f m
      · rw [← e, upI_s, hx k a' b, if_neg (fun z => by omega), if_pos ⟨by omega, by rw [show k / 100 = m by omega]; omega⟩]; omega
      · rw [upI_n e, hx k a' b]
        congr 1
        by_cases q2 : k / 100 < (m : Int) ∧ f (k / 100) = k % 100
        · rw [if_pos q2, if_pos ⟨by omega, q2.2⟩]
        · rw [if_neg q2, if_neg (fun z => ?_)]
          by_cases q3 : k / 100 = m
          · have := z.2; rw [q3] at this; omega
          · exact q2 ⟨by omega, z.2⟩
    · simp only [forall_eq, zi_add]
      refine hkb _ ⟨ex', by rw [hnm], fun k a' b => ?_⟩
      rw [hx k a' b]
      congr 1
      by_cases q2 : k / 100 < (m : Int) ∧ f (k / 100) = k % 100
      · rw [if_pos q2, if_pos ⟨by omega, q2.2⟩]
      · rw [if_neg q2, if_neg (fun z => ?_)]
        by_cases q3 : k / 100 = m
        · have := z.2; rw [q3] at this; omega
        · exact q2 ⟨by omega, z.2⟩
theorem p_costOfX {wh ex f : Int → Int} {dw : Nat → Int64} {i mn : Int} {eb : Bool} {b : Int} (hb : b = if eb = true then 0 else 1) (hi : 0 ≤ i ∧ i < 8) (hw : ∀ m, 0 ≤ m → m < 120 → wh (120 * i + m) = f m) (hf : okF mn f) {post : Int32 → Prop} (h : post (zi (sm (costF eb 1 0 dw ex) f))) : wp_X1_costOf (zA wh) dw (zA ex) (zi i) (zi b) post := by
  simp only [wp_X1_costOf]
  refine lp_for0 (fun m => (zi i, zi b, zi (smN (costF eb 1 0 dw ex) f m), zi m)) 120 rfl (fun kb => ?_) (fun m hm kb hkb => ?_)
  · simp (disch := omega) only [wp_X1_costOf_L5, zi_lit, zi_le]
    exact ⟨fun _ => h, fun z => absurd (by decide) z⟩
  · have hnm : ((m + 1 : Nat) : Int) = (m : Int) + 1 := by omega
    have fm := (hf m (by omega) (by omega)).1
    rw [hnm, smN] at hkb
    simp (disch := omega) only [wp_X1_costOf_L5, zi_lit, zi_le]
    refine ⟨fun z => by omega, fun _ => ?_⟩
    refine p_whereIs hi (by omega) ?_
    rw [hw m (by omega) (by omega)]
    refine p_isSquare (by omega) (fun q => ⟨fun z => absurd z (by decide), fun _ => ?_⟩) (fun q => ⟨fun _ => ?_, fun z => absurd rfl z⟩)
    · rw [if_pos q.1] at hkb
      have hd : dkF dw (100 * m + f m) = hbs 240 dw m (f m) := by rw [dkF, show (100 * (m : Int) + f m) / 100 = m by omega, show (100 * (m : Int) + f m) % 100 = f m by omega]
      have fin : ∀ v : Int, v = (if dkF dw (100 * m + f m) = true then 0 else 1) → wp_X1_costOf_b52 (fun l3 => post l3) kb (zA wh) dw (zA ex) post (zi i) (zi b) (zi m) (zi (f m)) (zi v) (zi (smN (costF eb 1 0 dw ex) f m)) := by
        intro v hv
        simp only [wp_X1_costOf_b52]
        rw [show (zi b = 0) = (zi b = zi 0) from rfl, zi_eq (by rw [hb]; split <;> omega)]
        simp (disch := omega) only [forall_eq, zi_lit, zi_mul, zi_add, zi_in, zA_get]
        rw [show (m : Int) * 100 + f m = 100 * m + f m by omega]
        have ce : costF eb 1 0 dw ex (100 * m + f m) = v + (if eb = true then ex (100 * m + f m) else 0) := by
          rw [costF, hv]
          congr 1
          by_cases q2 : eb = true
          · rw [if_pos q2, if_pos ⟨q2, by omega, by omega⟩]
          · rw [if_neg q2, if_neg (fun z => q2 z.1)]
        rw [ce] at hkb
        refine ⟨fun z => ⟨by omega, ?_⟩, fun z => ?_⟩
        · have : eb = true := by
            refine Classical.byContradiction (fun y => ?_)
            rw [hb, if_neg y] at z; omega
          rw [if_pos this, ← Int.add_assoc] at hkb
          exact hkb
        · have : ¬ eb = true := fun y => z (by rw [hb, if_pos y])
          rw [if_neg this, ← Int.add_assoc] at hkb
          exact hkb
      refine p_has (by decide) (by omega) (by omega) ?_
      rw [← hd]
      by_cases q3 : dkF dw (100 * m + f m) = true
      · rw [if_pos q3]
        exact ⟨fun z => absurd z (by decide), fun _ => fin 0 (by rw [if_pos q3])⟩
      · rw [if_neg q3]
        exact ⟨fun _ => fin 1 (by rw [if_neg q3]), fun z => absurd rfl z⟩
    · rw [if_neg (by omega), Int.add_zero] at hkb
      simp only [forall_eq, zi_add]
      exact hkb
/-- one chooses -/
theorem p_chooseX (C : CS pl tw vf sl kd hg wks shw ex nt ww sw gw) {wk d m fr to by' : Int} (t : tripP tw wk d m fr to) (hby : 0 ≤ by' ∧ by' < 120) {dw : Nat → Int64} (hdw : dwR shw dw d) {i e lim : Int} (hi : 0 ≤ i ∧ i < 8) (hlim : 0 ≤ lim ∧ lim ≤ 268435456) {wh : Int → Int} {x1 x2 x3 x4 x5 x6 : Int32} {lw : Nat → Int64} {r1 l1 p1 w1 : Nat → Int32} {post : Int32 → Int32 → Int32 → Int32 → Int32 → Int32 → (Nat → Int64) → (Nat → Int32) → (Nat → Int32) → (Nat → Int32) → Int32 → (Nat → Int32) → (Nat → Int32) → (Nat → Int32) → Prop}
    (h1 : (bC (nxT tw (shC tw vf d) (tw (383 + 7 * wk))) (csT (costF true 1 0 dw ex) (tw (383 + 7 * wk))) 5 to by' (100 * m + fr)).1 < 1000000 → (bC (nxT tw (shC tw vf d) (tw (383 + 7 * wk))) (csT (costF true 1 0 dw ex) (tw (383 + 7 * wk))) 5 to by' (100 * m + fr)).1 < lim → ∀ (f wh' ex' : Int → Int), (∀ j, 0 ≤ j → j < 120 → f j = pth (nxT tw (shC tw vf d) (tw (383 + 7 * wk))) (wC (nxT tw (shC tw vf d) (tw (383 + 7 * wk))) (csT (costF true 1 0 dw ex) (tw (383 + 7 * wk))) 5 to by' (100 * m + fr)) (100 * m + fr) j) → (∀ j, 0 ≤ j → j < 120 → wh' (120 * i + j) = f j) → (∀ j, 0 ≤ j → ¬ (120 * i ≤ j ∧ j < 120 * i + 120) → wh' j = wh j) → (∀ k, 0 ≤ k → k < 12000 → ex' k = ex k + (if f (k / 100) = k % 100 then e else 0)) → ∀ (y1 y2 y3 y4 y5 y6 : Int32) (lw' : Nat → Int64) (r2 l2 p2 w2 : Nat → Int32), post 1 y1 y2 y3 y4 y5 lw' r2 (zA ex') l2 y6 p2 w2 (zA wh'))
    (h0 : ¬ ((bC (nxT tw (shC tw vf d) (tw (383 + 7 * wk))) (csT (costF true 1 0 dw ex) (tw (383 + 7 * wk))) 5 to by' (100 * m + fr)).1 < 1000000 ∧ (bC (nxT tw (shC tw vf d) (tw (383 + 7 * wk))) (csT (costF true 1 0 dw ex) (tw (383 + 7 * wk))) 5 to by' (100 * m + fr)).1 < lim) → ∀ (y1 y2 y3 y4 y5 y6 : Int32) (lw' : Nat → Int64) (r2 l2 p2 w2 : Nat → Int32), post 0 y1 y2 y3 y4 y5 lw' r2 (zA ex) l2 y6 p2 w2 (zA wh)) :
    wp_X1_choose (zi e) (zi by') true (zi d) (zi m) (zi fr) (zi to) 1 0 1 dw (zA nt) (zi sl) ww sw gw (zi (tw (383 + 7 * wk))) (zi (tw (384 + 7 * wk))) (zi (tw (385 + 7 * wk))) x1 x2 x3 x4 x5 lw r1 (zA ex) l1 x6 p1 w1 (zA wh) (zi i) (zi lim) post := by
  obtain ⟨c0, rfl, hc0⟩ := zi_ex x3
  obtain ⟨La0, rfl, -⟩ := zA_ex l1
  have t' := t
  obtain ⟨t1', t2', t3', t4', t5'⟩ := t'
  have A := CS_ask C (wk := wk) (to := to) (aims := 1) (hot := 1) (cool := 0) (wt := 1) (en := by') t2' (by omega) (by omega) t1' (by omega) (by omega) (by omega) (by omega)
  have hp := A.2.2.2.2.2.2.2.2.2.2.2.1
  have hcB : cB (costF true 1 0 dw ex) := cB_cost A.2.2.1 A.2.2.2.1 A.2.2.2.2.2.2.1
  have G := Gok_T (tw := tw) (sh := shC tw vf d) (nw := 5) hp hcB
  have hB : ∀ k, 0 ≤ k → k < 12000 → tw (k % 100) ≠ 1 → Bst (nxT tw (shC tw vf d) (tw (383 + 7 * wk))) (csT (costF true 1 0 dw ex) (tw (383 + 7 * wk))) 5 to by' k (bC (nxT tw (shC tw vf d) (tw (383 + 7 * wk))) (csT (costF true 1 0 dw ex) (tw (383 + 7 * wk))) 5 to by' k).1 (bC (nxT tw (shC tw vf d) (tw (383 + 7 * wk))) (csT (costF true 1 0 dw ex) (tw (383 + 7 * wk))) 5 to by' k).2 := fun k a b _ => bC_ok G a b
  have hk : tw ((100 * m + fr) % 100) ≠ 1 := by rw [show (100 * m + fr) % 100 = fr by omega]; exact t4'.2
  have hB0 := hB (100 * m + fr) (by omega) (by omega) hk
  simp only [wp_X1_choose, wp_X9_seekBelow]
  rw [show (1 : Int32) = zi 1 from rfl, zi_sub]
  refine p_cheap (eb := true) (nw := 5) (lim := lim - 1) A t5'.1 (by omega) hc0 t3' t4'.1 t4'.2 (by omega) (by rw [if_neg (by omega)]) rfl (fun q lw' hF _ hL => ?_)
  have cb := Chp_Bst G (by omega) (by omega) t5'.1 hF.1 hB0
  by_cases har : q.2.2.1 = -1
  · have cb1 := cb.1 har
    rw [if_pos har]
    refine ⟨fun z => absurd rfl z, fun _ => h0 (fun y => by have := cb1 y.1; omega) ..⟩
  · have cb2 := cb.2 har
    have rg := Bst_nn G (show 0 ≤ 100 * m + fr by omega) (by omega) hB0 (by omega)
    rw [if_neg har]
    refine ⟨fun _ => ?_, fun z => absurd z (by decide)⟩
    refine p_labelBack (fo := 1) (D := q.2.2.2.2) A (by decide) (by decide) ⟨fun z => absurd z (by decide), fun _ => hL⟩ hF.2.2.2.1 (lo := m) (hi := q.2.2.1) (by omega) (by omega) (by omega) (fun La hLa hO _ => ?_)
    refine p_traceWay A (by decide) t5'.1 t3' t4'.1 t4'.2 (by omega) hB (by omega) hF har hLa hO (fun ws f g hw hlen i1 i2 h5 h6 => ?_)
    have ew := wC_eq hw
    have h5' : ∀ j, 0 ≤ j → j < 120 → f j = pth (nxT tw (shC tw vf d) (tw (383 + 7 * wk))) (wC (nxT tw (shC tw vf d) (tw (383 + 7 * wk))) (csT (costF true 1 0 dw ex) (tw (383 + 7 * wk))) 5 to by' (100 * m + fr)) (100 * m + fr) j := by rw [ew]; exact h5
    have of := (sm_pth (lc := fun k => (bC (nxT tw (shC tw vf d) (tw (383 + 7 * wk))) (csT (costF true 1 0 dw ex) (tw (383 + 7 * wk))) 5 to by' k).1) (le := fun k => (bC (nxT tw (shC tw vf d) (tw (383 + 7 * wk))) (csT (costF true 1 0 dw ex) (tw (383 + 7 * wk))) 5 to by' k).2) hp hcB hB ws (100 * m + fr) ⟨by omega, by omega, hk⟩ (by omega) hw).2
    have z0 : Int32.toNatClampNeg 0 = 0 := by decide
    have z12 : Int32.toNatClampNeg 120 = 120 := by decide
    have zi120 : Int32.toNatClampNeg (zi i * 120) = (120 * i).toNat := by
      rw [show (120 : Int32) = zi 120 from rfl, zi_mul, zi_cl (by omega)]; omega
    have nlt : ¬ zi i * 120 < 0 := by
      rw [show (120 : Int32) = zi 120 from rfl, show (0 : Int32) = zi 0 from rfl, zi_mul, zi_lt (by omega)]; omega
    simp only [forall_eq, z0, z12, zi120]
    refine ⟨⟨by decide, nlt, by decide, by decide, by omega⟩, ?_⟩
    have ec : va_cpy (zA f) (zA wh) 0 (120 * i).toNat 120 = zA (fun k => if 120 * i ≤ k ∧ k < 120 * i + 120 then f (k - 120 * i) else wh k) := by
      funext k
      by_cases hk2 : (120 * i).toNat ≤ k ∧ k < (120 * i).toNat + 120
      · rw [pk_cpy_in hk2.1 hk2.2, zA, zA, if_pos (by omega)]
        congr 2
        omega
      · rw [pk_cpy_out (by omega), zA, zA, if_neg (by omega)]
    rw [ec]
    refine p_crowdOut (f := f) (mn := m) hi (fun j a b => by rw [if_pos (by omega), show 120 * i + j - 120 * i = j by omega]) (fun j a b => ?_) (fun ex' hx => ?_)
    · rw [h5 j a b]
      have := of j a b
      rwa [show (100 * m + fr) / 100 = m by omega] at this
    · exact h1 (by omega) (by omega) f _ ex' h5' (fun j a b => by show (if _ then _ else _) = _; rw [if_pos (by omega), show 120 * i + j - 120 * i = j by omega]) (fun j a b => if_neg b) hx ..
end CC
