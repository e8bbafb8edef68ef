/-! soon, ice, pays: both sides -/
theorem bC_eq {nx cs nx' cs' : Int → Int → Int} {nw to bym k C E : Int} (h : Agr nx cs nx' cs' nw) (G : Gok nx cs nw) (h0 : 0 ≤ k) (h1 : k < 12000) (hB : Bst nx cs nw to bym k C E) : C = (bC nx' cs' nw to bym k).1 ∧ (C < 1000000 → E = (bC nx' cs' nw to bym k).2) := Bst_uni (Bst_agr h G h0 h1 hB) (bC_ok (Gok_agr h G) h0 h1)
section IC
variable {pl : Pool} {tw : Int → Int} {vf : Int → Int → Int → Int32} {sl : Int} {kd hg : Int → Int} {wks : Nat → Option Nat} {shw : Nat → Int64} {ex nt : Int → Int} {ww sw gw : Nat → Int64} {op arg : Nat → Int32}
/-- the class's search of the least, whatever a minute costs -/
theorem p_seekG (C : CS pl tw vf sl kd hg wks shw ex nt ww sw gw) {wk d m fr to bym : Int} (t : tripP tw wk d m fr to) (hby : 0 ≤ bym ∧ bym < 2147483648) {dw : Nat → Int64} {hot cool wt nw : Int} (hh : 0 ≤ hot ∧ hot ≤ 99) (hco : 0 ≤ cool ∧ cool ≤ 99) (hwt : 0 ≤ wt ∧ wt ≤ 1) (hnw : nw = if wt = 0 then 4 else 5) {c : Int → Int} (hcc : ∀ k, 0 ≤ k → k < 12000 → costF false hot cool dw ex k = c k) {en : Int} (hen : en = if 119 < bym then 119 else bym) {cost : Int} (hc : -2147483648 ≤ cost ∧ cost < 2147483648) {x1 x2 x3 : Int32} {lw : Nat → Int64} {t1 : Nat → Int32} {post : Int32 → Int32 → Int32 → Int32 → Int32 → (Nat → Int64) → (Nat → Int32) → Prop}
    (h : ∀ (q : Sst) (lw' : Nat → Int64), Fnd tw (nxT tw (shC tw vf d) (tw (383 + 7 * wk))) (csT (costF false hot cool dw ex) (tw (383 + 7 * wk))) nw to en (100 * m + fr) 268435455 (tw (383 + 7 * wk)) q → LR lw' q.2.2.2.2 → (q.2.2.1 = -1 → ¬ (bC (nxT tw (shC tw vf d) (tw (383 + 7 * wk))) (csT c (tw (383 + 7 * wk))) nw to en (100 * m + fr)).1 < 1000000) → (q.2.2.1 ≠ -1 → (bC (nxT tw (shC tw vf d) (tw (383 + 7 * wk))) (csT c (tw (383 + 7 * wk))) nw to en (100 * m + fr)).1 = q.2.1 ∧ (bC (nxT tw (shC tw vf d) (tw (383 + 7 * wk))) (csT c (tw (383 + 7 * wk))) nw to en (100 * m + fr)).2 = q.2.2.1 ∧ (0 ≤ q.2.1 ∧ q.2.1 < 1000000) ∧ m ≤ q.2.2.1 ∧ q.2.2.1 ≤ 119) → post (if q.2.2.1 = -1 then 0 else 1) 1 (zi q.1) (zi q.2.1) (zi q.2.2.1) lw' (zA q.2.2.2.1)) :
    wp_X9_seekLeast false (zi d) (zi m) (zi fr) (zi to) (zi hot) (zi cool) (zi wt) dw (zA ex) (zA nt) (zi sl) ww sw (zi (tw (383 + 7 * wk))) (zi (tw (384 + 7 * wk))) (zi (tw (385 + 7 * wk))) x1 x2 (zi cost) x3 lw t1 (zi bym) post := by
  obtain ⟨t1', t2', t3', t4', t5'⟩ := t
  have A := CS_ask C (wk := wk) (to := to) (aims := 1) (hot := hot) (cool := cool) (wt := wt) (en := en) t2' (by omega) (by omega) t1' hh hco hwt (by rw [hen]; split <;> omega)
  have hp := A.2.2.2.2.2.2.2.2.2.2.2.1
  have hcB : cB (costF false hot cool dw ex) := cB_cost A.2.2.1 A.2.2.2.1 A.2.2.2.2.2.2.1
  have AG := Agr_T (tw := tw) (sh := shC tw vf d) (sh' := shC tw vf d) (nw := nw) hp (fun _ _ _ => rfl) hcc
  have G := Gok_T (tw := tw) (sh := shC tw vf d) (nw := nw) hp hcB
  simp only [wp_X9_seekLeast]
  refine p_cheap (nw := nw) (lim := 268435455) A t5'.1 (by omega) hc t3' t4'.1 t4'.2 hby hen hnw (fun q lw' h1 _ h3 => ?_)
  obtain ⟨ce, hB⟩ := Bst_ex (to := to) (bym := en) (k := 100 * m + fr) G (by omega) (by omega)
  have e := bC_eq AG G (by omega) (by omega) hB
  have cb := Chp_Bst G (by omega) (by omega) t5'.1 h1.1 hB
  refine h q lw' h1 h3 (fun z hl => ?_) (fun z => ?_)
  · have := cb.1 z (by omega); omega
  · have c2 := cb.2 z
    have nn := Bst_nn G (by omega) (by omega) hB (by omega)
    have := e.2 (by omega)
    omega
/-- who comes first with so much sun at most -/
def soonA (nx cs : Int → Int → Int) (to k0 lim T : Int) : Prop :=
  (T = -1 ∧ ∀ ws m c, 0 ≤ m → m < 120 → pt nx cs 5 to ws k0 (100 * m + to) c → lim < c) ∨ (0 ≤ T ∧ T < 120 ∧ (∃ ws c, pt nx cs 5 to ws k0 (100 * T + to) c ∧ c ≤ lim) ∧ ∀ ws m c, 0 ≤ m → m < T → pt nx cs 5 to ws k0 (100 * m + to) c → lim < c)
theorem soonA_uni {nx cs : Int → Int → Int} {to k0 lim T T' : Int} (h : soonA nx cs to k0 lim T) (h' : soonA nx cs to k0 lim T') : T = T' := by
  rcases h with h | ⟨h1, h2, ⟨ws, c, h3, h4⟩, h5⟩
  · rcases h' with h' | ⟨g1, g2, ⟨ws', c', g3, g4⟩, g5⟩
    · omega
    · have := h.2 ws' T' c' g1 g2 g3; omega
  · rcases h' with h' | ⟨g1, g2, ⟨ws', c', g3, g4⟩, g5⟩
    · have := h'.2 ws T c h1 h2 h3; omega
    · by_cases a : T < T'
      · have := g5 ws T c h1 a h3; omega
      · by_cases b : T' < T
        · have := h5 ws' T' c' g1 b g3; omega
        · omega
theorem soonA_agr {nx cs nx' cs' : Int → Int → Int} {to k0 lim lim' T : Int} (h : Agr nx cs nx' cs' 5) (G : Gok nx cs 5) (h0 : 0 ≤ k0) (h1 : k0 < 12000) (hl : ∀ c : Int, 0 ≤ c → c ≤ 119000 → (lim < c ↔ lim' < c)) (hA : soonA nx cs to k0 lim T) : soonA nx' cs' to k0 lim' T := by
  have f := fun ws k c q => pt_agr (to := to) h G ws k0 k c h0 h1 q
  have g := fun ws k c q => pt_agr (to := to) (Agr_symm h) (Gok_agr h G) ws k0 k c h0 h1 q
  have r : ∀ ws k c, pt nx cs 5 to ws k0 k c → 0 ≤ c ∧ c ≤ 119000 := fun ws k c q => by have := pt_rng G ws k0 k c h0 h1 q; omega
  rcases hA with z | ⟨z1, z2, ⟨ws, c, z3, z4⟩, z5⟩
  · exact Or.inl ⟨z.1, fun ws m c a b q => by have q' := g _ _ _ q; have := r _ _ _ q'; exact (hl c this.1 this.2).mp (z.2 ws m c a b q')⟩
  · refine Or.inr ⟨z1, z2, ⟨ws, c, f _ _ _ z3, ?_⟩, fun ws m c a b q => by have q' := g _ _ _ q; have := r _ _ _ q'; exact (hl c this.1 this.2).mp (z5 ws m c a b q')⟩
    have rr := r _ _ _ z3
    have := hl c rr.1 rr.2
    omega
noncomputable def soonC (tw : Int → Int) (vf : Int → Int → Int → Int32) (d p to k lim : Int) : Int := @dite _ (∃ T, soonA (nxT tw (shC tw vf d) p) (csT (snC tw vf d) p) to k lim T) (Classical.propDecidable _) (fun h => Classical.choose h) (fun _ => -1)
theorem soonC_eq {d p to k lim T : Int} (h : soonA (nxT tw (shC tw vf d) p) (csT (snC tw vf d) p) to k lim T) : T = soonC tw vf d p to k lim := by
  have e : ∃ T, soonA (nxT tw (shC tw vf d) p) (csT (snC tw vf d) p) to k lim T := ⟨T, h⟩
  rw [soonC, dif_pos e]
  exact soonA_uni h (Classical.choose_spec e)
noncomputable def soonV (tw : Int → Int) (vf : Int → Int → Int → Int32) (wk d m fr to sun : Int) : Int := @ite Int (tripP tw wk d m fr to ∧ 0 ≤ sun) (Classical.propDecidable _) (soonC tw vf d (tw (383 + 7 * wk)) to (100 * m + fr) sun) (-1)
theorem p_soonC (C : CS pl tw vf sl kd hg wks shw ex nt ww sw gw) {wk d m fr to sun : Int} (a1 : ir wk) (a2 : ir d) (a3 : ir m) (a4 : ir fr) (a5 : ir to) (a6 : ir sun) {o1 : Nat} {o2 o3 o4 o5 o6 o7 o8 o9 o10 o11 o12 : Int32} {dw0 lw0 : Nat → Int64} {t1 : Nat → Int32} {post : Int32 → Nat → Int32 → Int32 → Int32 → Int32 → Int32 → Int32 → Int32 → Int32 → Int32 → Int32 → Int32 → (Nat → Int64) → (Nat → Int64) → (Nat → Int32) → Prop}
    (h : ∀ (q1 : Nat) (y2 y3 y4 y5 y6 y7 y8 y9 y10 y11 y12 : Int32) (dw lw : Nat → Int64) (s1 : Nat → Int32), post (zi (soonV tw vf wk d m fr to sun)) q1 y2 y3 y4 y5 y6 y7 y8 y9 y10 y11 y12 dw lw s1) :
    wp_X11_soon pl (zi sl) (zA kd) wks false shw (zA ex) (zA nt) ww sw o1 o2 o3 o4 o5 o6 o7 o8 o9 o10 o11 o12 dw0 lw0 t1 (zi wk) (zi d) (zi m) (zi fr) (zi to) (zi sun) post := by
  have b6 := a6
  simp only [ir] at b6
  simp only [wp_X11_soon]
  rw [show (zi sun < 0) = (zi sun < zi 0) from rfl, zi_lt (by omega)]
  refine ⟨fun z => ?_, fun z => ?_⟩
  · rw [soonV, if_neg (fun y => by have := y.2; omega)] at h
    exact h _ _ _ _ _ _ _ _ _ _ _ _ _ _ _
  have e1 : (if (268435455 : Int32) < zi sun then (268435455 : Int32) else zi sun) = zi (if 268435455 < sun then 268435455 else sun) := by
    rw [show (268435455 : Int32) = zi 268435455 from rfl]
    by_cases q : 268435455 < sun
    · rw [if_pos q, if_pos (by rw [zi_lt (by omega)]; exact q)]
    · rw [if_neg q, if_neg (by rw [zi_lt (by omega)]; exact q)]
  rw [e1]
  refine p_ready C.1.1 C.1.2.2.1 C.1.2.2.2 a1 a2 a3 a4 a5 (fun t q dw hq hdw => ⟨fun _ => ⟨_, _, _, _, _, _, hq, ?_⟩, fun z => absurd z (by decide)⟩) (fun t => ⟨fun z => absurd rfl z, fun _ => ?_⟩)
  · rw [soonV, if_pos ⟨t, by omega⟩] at h
    obtain ⟨t1', t2', t3', t4', t5'⟩ := t
    have w := C.1.2.1 wk t1'.1.1 t1'.1.2 t1'.2
    have A := CS_ask C (wk := wk) (to := to) (aims := 2) (hot := 1) (cool := 0) (wt := 1) (en := 119) t2' (by omega) (by omega) t1' (by omega) (by omega) (by omega) (by omega)
    have hcB : cB (costF false 1 0 dw ex) := cB_cost A.2.2.1 A.2.2.2.1 A.2.2.2.2.2.2.1
    obtain ⟨c0, rfl, hc0⟩ := zi_ex o11
    refine p_first (eb := false) (dw := dw) (ww := ww) A t5'.1 (by decide) (by split <;> omega) hc0 t3' t4'.1 t4'.2 rfl (fun q' lw' hB hS => ?_)
    have e := soonC_eq (soonA_agr (lim' := sun) (Agr_symm (CS_agr C (nw := 5) w.1 t2' hdw)) (Gok_T w.1 hcB) (by omega) (by omega) (fun c c0 c1 => by split <;> omega) hB)
    rw [e]
    exact h _ _ _ _ _ _ _ _ _ _ _ _ _ _ _
  · rw [soonV, if_neg (fun y => t y.1)] at h
    exact h _ _ _ _ _ _ _ _ _ _ _ _ _ _ _
end IC
