/-! gardens: a town with one thing more; what the class adds to the shade -/
section GA
variable {pl : Pool} {tw : Int → Int} {vf : Int → Int → Int → Int32} {sl : Int} {kd hg : Int → Int} {wks suns : Nat → Option Nat} {shw : Nat → Int64} {ex nt : Int → Int} {ww sw gw : Nat → Int64} {op arg : Nat → Int32}
/-- nothing is high where nothing stands -/
def brR (tw : Int → Int) : Prop := ∀ s, 0 ≤ s → s < 100 → tw s = 0 → tw (100 + s) = 0
theorem lnN_day {d m : Int} : ∀ n : Nat, 0 ≤ lnN tw d m n → tw (262 + 5 * lnN tw d m n) = d
  | 0, h => by simp [lnN] at h
  | n + 1, h => by
    simp only [lnN] at h ⊢
    by_cases q : tw (262 + 5 * n) = d ∧ tw (263 + 5 * n) ≤ m
    · rw [if_pos q]; exact q.1
    · rw [if_neg q] at h ⊢; exact lnN_day n h
theorem lnT_day {d m : Int} (h : 0 ≤ lnT tw d m) : tw (262 + 5 * lnT tw d m) = d := lnN_day _ h
/-- the shade of one thing more by the line of a minute -/
def tsP (tw : Int → Int) (d m s h s' : Int) : Prop := 0 ≤ lnT tw d m ∧ (s' = s ∨ csP (tw (264 + 5 * lnT tw d m)) (tw (265 + 5 * lnT tw d m)) (tw (266 + 5 * lnT tw d m)) s h s')
theorem dim_put (hT : twR tw) (hb : brR tw) {s k h : Int} (hs : 0 ≤ s ∧ s < 100) (h0 : tw s = 0) (hk : 2 ≤ k ∧ k ≤ 3) (hh : 0 ≤ h ∧ h ≤ 99) {d m s' : Int} (hs' : 0 ≤ s' ∧ s' < 100) : dimP (putT tw s k h) vf d m s' ↔ dimP tw vf d m s' ∨ tsP tw d m s h s' := by
  have ag : agT tw (putT tw s k h) := putT_ag hs
  have hTv : twR (putT tw s k h) := putT_R hT hs (by omega) hh
  simp only [dimP]
  rw [lnT_ag ag, clP_ag ag]
  by_cases hl : lnT tw d m < 0
  · exact ⟨fun _ => Or.inl (Or.inl hl), fun _ => Or.inl hl⟩
  · have lr := lnT_rng (d := d) (m := m) hT
    have q := hT.2.2.2.1 (lnT tw d m) (by omega) lr.2
    have eb : bhP (putT tw s k h) s' (lnT tw d m) ↔ bhP tw s' (lnT tw d m) ∨ csP (tw (264 + 5 * lnT tw d m)) (tw (265 + 5 * lnT tw d m)) (tw (266 + 5 * lnT tw d m)) s h s' := by
      rw [← shP_bhP hTv ⟨by omega, by rw [ag 261 (by omega)]; exact lr.2⟩ hs', ← shP_bhP hT ⟨by omega, lr.2⟩ hs']
      simp only [shP]
      rw [ag (264 + 5 * lnT tw d m) (by omega), ag (265 + 5 * lnT tw d m) (by omega), ag (266 + 5 * lnT tw d m) (by omega)]
      constructor
      · rintro ⟨u, u0, u1, u2⟩
        rw [putT_h hs u u0] at u2
        by_cases e : u = s
        · rw [if_pos e, e] at u2; exact Or.inr u2
        · rw [if_neg e] at u2; exact Or.inl ⟨u, u0, u1, u2⟩
      · rintro (⟨u, u0, u1, u2⟩ | z)
        · by_cases e : u = s
          · rw [e, hb s hs.1 hs.2 h0] at u2
            exact absurd u2 (csP_pos q.2.2.2.1.1 (by omega) q.2.2.2.2.1)
          · exact ⟨u, u0, u1, by rw [putT_h hs u u0, if_neg e]; exact u2⟩
        · exact ⟨s, hs.1, hs.2, by rw [putT_h hs s hs.1, if_pos rfl]; exact z⟩
    rw [eb, putT_k hs s' hs'.2]
    by_cases e : s' = s
    · rw [if_pos e]
      exact ⟨fun _ => Or.inr ⟨by omega, Or.inl e⟩, fun _ => Or.inr (Or.inl hk)⟩
    · rw [if_neg e]
      constructor
      · rintro (z | z | z | z | z)
        · exact Or.inl (Or.inl z)
        · exact Or.inl (Or.inr (Or.inl z))
        · exact Or.inl (Or.inr (Or.inr (Or.inl z)))
        · exact Or.inl (Or.inr (Or.inr (Or.inr z)))
        · exact Or.inr ⟨by omega, Or.inr z⟩
      · rintro ((z | z | z | z) | ⟨_, z | z⟩)
        · exact Or.inl z
        · exact Or.inr (Or.inl z)
        · exact Or.inr (Or.inr (Or.inl z))
        · exact Or.inr (Or.inr (Or.inr (Or.inl z)))
        · exact absurd z e
        · exact Or.inr (Or.inr (Or.inr (Or.inr z)))
/-- the line of a minute -/
theorem p_lineAt {ln : Int → Int} (hl : ∀ d m, 0 ≤ d → d < 4 → 0 ≤ m → m < 120 → ln (120 * d + m) = lnT tw d m) {d m : Int} (hd : 0 ≤ d ∧ d < 4) (hm : 0 ≤ m ∧ m < 120) {post : Int32 → Prop} (h : post (zi (lnT tw d m))) : wp_X6_lineAt (zA ln) (zi d) (zi m) post := by
  simp only [wp_X6_lineAt]
  refine p_isTime (by omega) (by omega) (fun _ => ⟨fun z => absurd z (by decide), fun _ => ?_⟩) (fun z => absurd ⟨hd, hm⟩ z)
  refine p_row ⟨vp_zi (by omega) (by decide), ?_⟩
  rw [zA_get (by omega), hl d m hd.1 hd.2 hm.1 hm.2]
  exact h
theorem p_addTree (hT : twR tw) (hs : suR pl tw suns) {ln : Int → Int} (hl : ∀ d m, 0 ≤ d → d < 4 → 0 ≤ m → m < 120 → ln (120 * d + m) = lnT tw d m) {d s h : Int} (hd : 0 ≤ d ∧ d < 4) (hsq : 0 ≤ s ∧ s < 100) (hh : 0 ≤ h ∧ h ≤ 99) {sw0 dw : Nat → Int64} {post : (Nat → Int64) → (Nat → Int64) → Prop}
    (hp : ∀ sw' dw' : Nat → Int64, (∀ m s', 0 ≤ m → m < 120 → 0 ≤ s' → s' < 128 → (hb dw' m s' = true ↔ hb dw m s' = true ∨ tsP tw d m s h s')) → post sw' dw') : wp_X3_addTree pl (zi d) (zi (tw 261)) suns (zA ln) sw0 dw (zi s) (zi h) post := by
  have t2 := hT.2.2.1
  have t3 := hT.2.2.2.1
  simp only [wp_X3_addTree]
  refine lp_inv (fun i st => ∃ sw' : Nat → Int64, st = (sw', dw, zi s, zi h, zi i) ∧ ∀ r s', 0 ≤ r → r < (i : Int) → tw (262 + 5 * r) = d → 0 ≤ s' → s' < 128 → (hb sw' r s' = true ↔ s' = s ∨ csP (tw (264 + 5 * r)) (tw (265 + 5 * r)) (tw (266 + 5 * r)) s h s')) (tw 261).toNat ?_ ?_ 0 (Nat.zero_le _) ⟨sw0, rfl, fun r s' a b => by omega⟩
  · rintro st ⟨sw', rfl, hw⟩ kb
    simp only [wp_X3_addTree_L2]
    rw [zi_le (by omega)]
    refine ⟨fun _ => ?_, fun z => by omega⟩
    refine lp_inv (fun i st => ∃ dw' : Nat → Int64, st = (sw', dw', zi i) ∧ ∀ m s', 0 ≤ m → m < 120 → 0 ≤ s' → s' < 128 → (hb dw' m s' = true ↔ hb dw m s' = true ∨ (m < (i : Int) ∧ tsP tw d m s h s'))) 120 ?_ ?_ 0 (Nat.zero_le _) ⟨dw, rfl, fun m s' a b c e => ⟨Or.inl, fun z => by rcases z with z | z; exact z; omega⟩⟩
    · rintro st ⟨dw', rfl, hw2⟩ kb2
      simp (disch := omega) only [wp_X3_addTree_L92, zi_lit, zi_le]
      refine ⟨fun _ => hp sw' dw' (fun m s' a b c e => ?_), fun z => absurd (by decide) z⟩
      rw [hw2 m s' a b c e]
      exact ⟨fun z => by rcases z with z | z; exact Or.inl z; exact Or.inr z.2, fun z => by rcases z with z | z; exact Or.inl z; exact Or.inr ⟨by omega, z⟩⟩
    · rintro i hi st ⟨dw', rfl, hw2⟩ kb2 hkb2
      have hni : ((i + 1 : Nat) : Int) = (i : Int) + 1 := by omega
      have lr := lnT_rng (d := d) (m := (i : Int)) hT
      simp (disch := omega) only [wp_X3_addTree_L92, zi_lit, zi_le]
      refine ⟨fun z => by omega, fun _ => ?_⟩
      refine p_lineAt hl hd (by omega) ?_
      refine p_join (by decide) (by decide) (by omega) (by omega) (fun w1 h1 => ?_)
      simp only [forall_eq, zi_add]
      refine hkb2 _ ⟨w1, by rw [hni], fun m s' a b c e => ?_⟩
      rw [h1 m s' a c e, Bool.or_eq_true, hw2 m s' a b c e, hni]
      by_cases hm : m = i
      · subst hm
        rw [decide_eq_true rfl, Bool.true_and]
        by_cases h0 : 0 ≤ lnT tw d (i : Int)
        · rw [decide_eq_true (by omega), Bool.true_and, hw _ s' h0 (by omega) (lnT_day h0) c e]
          exact ⟨fun z => by rcases z with (z | z) | z; exact Or.inl z; omega; exact Or.inr ⟨by omega, h0, z⟩, fun z => by rcases z with z | ⟨_, _, z⟩; exact Or.inl (Or.inl z); exact Or.inr z⟩
        · rw [decide_eq_false (by omega), Bool.false_and]
          exact ⟨fun z => by rcases z with (z | z) | z; exact Or.inl z; omega; exact absurd z (by decide), fun z => by rcases z with z | ⟨_, z, _⟩; exact Or.inl (Or.inl z); exact absurd z h0⟩
      · rw [decide_eq_false hm, Bool.false_and]
        exact ⟨fun z => by rcases z with (z | z) | z; exact Or.inl z; exact Or.inr ⟨by omega, z.2⟩; exact absurd z (by decide), fun z => by rcases z with z | z; exact Or.inl (Or.inl z); exact Or.inl (Or.inr ⟨by omega, z.2⟩)⟩
  · rintro i hi st ⟨sw', rfl, hw⟩ kb hkb
    have hni : ((i + 1 : Nat) : Int) = (i : Int) + 1 := by omega
    have q := t3 i (by omega) (by omega)
    simp only [wp_X3_addTree_L2]
    rw [zi_le (by omega)]
    refine ⟨fun z => by omega, fun _ => ?_⟩
    refine p_sun hs hT (by omega) (fun c hc => ⟨fun z => absurd z (by simp), fun c' ec => ?_⟩)
    cases ec
    refine ⟨_, _, _, _, _, hc, ?_⟩
    rw [zi_eq (by omega)]
    simp only [forall_eq, zi_lit, zi_add]
    refine ⟨fun z => hkb _ ⟨sw', by rw [hni], fun r s' a b c' => ?_⟩, fun z => ?_⟩
    · by_cases e : r = i
      · subst e; exact absurd c' z
      · exact hw r s' a (by omega) c'
    · refine p_emptyRow (by decide) (by omega) (fun w1 h1 => ?_)
      refine p_put (by decide) (by omega) hsq ?_
      refine p_cast (by decide) q.2.2.1 q.2.2.2.1 q.2.2.2.2 (by omega) hsq hh (fun w2 h2 => ?_)
      refine hkb _ ⟨w2, by rw [hni], fun r s' a b c' e f => ?_⟩
      rw [h2 r s' a (by omega) e f, hb_p (by omega) (by omega) a ⟨e, f⟩, h1 r s' a e f, Bool.or_eq_true, decide_eq_true_eq]
      by_cases er : r = i
      · subst er
        rw [if_pos rfl]
        exact ⟨fun z => by rcases z with (z | z) | z; exact absurd z (by decide); exact Or.inl z.2; exact Or.inr z.2, fun z => by rcases z with z | z; exact Or.inl (Or.inr ⟨rfl, z⟩); exact Or.inr ⟨rfl, z⟩⟩
      · rw [if_neg er, hw r s' a (by omega) c' e f]
        exact ⟨fun z => by rcases z with (z | z) | z; exact z; exact absurd z.1 er; exact absurd z.1 er, fun z => Or.inl (Or.inl z)⟩
/-- the graph of a town with the same houses -/
theorem nxT_open {tv sh : Int → Int} {p : Int} (hp : 1 ≤ p ∧ p ≤ 3) (ho : ∀ s, 0 ≤ s → s < 100 → (tv s = 1 ↔ tw s = 1)) {k w : Int} : nxT tv sh p k w = nxT tw sh p k w := by
  simp only [nxT, bhd]
  have hs := stp_rng (s := k % 100) (w := w) (show 0 ≤ k % 100 ∧ k % 100 < 100 by omega)
  by_cases hc : (if w = 4 then k % 100 else stp (k % 100) w) = -1
  · rw [if_pos (Or.inr (Or.inl hc)), if_pos (Or.inr (Or.inl hc))]
  · have hr : 0 ≤ (if w = 4 then k % 100 else stp (k % 100) w) ∧ (if w = 4 then k % 100 else stp (k % 100) w) < 100 := by
      split
      · omega
      · next z =>
        rw [if_neg z] at hc
        rcases hs with y | y
        · exact absurd y hc
        · exact y
    generalize (if w = 4 then k % 100 else stp (k % 100) w) = r at *
    have e := ho r hr.1 hr.2
    simp only [e]
/-- the search of the least sun, with all that it leaves -/
theorem p_seekJ (C : CS pl tw vf sl kd hg wks shw ex nt ww sw gw) {wk d m fr to : Int} (t : tripP tw wk d m fr to) {dw : Nat → Int64} (hdw : dwR shw dw d) {x1 x2 x3 x4 : Int32} {lw : Nat → Int64} {t1 : Nat → Int32} {post : Int32 → Int32 → Int32 → Int32 → Int32 → (Nat → Int64) → (Nat → Int32) → Prop}
    (h1 : lsC tw vf d (tw (383 + 7 * wk)) to 119 (100 * m + fr) < 1000000 → 0 ≤ lsC tw vf d (tw (383 + 7 * wk)) to 119 (100 * m + fr) → ∀ (q : Sst) (lw' : Nat → Int64), Fnd tw (nxT tw (shC tw vf d) (tw (383 + 7 * wk))) (csT (costF false 1 0 dw ex) (tw (383 + 7 * wk))) 5 to 119 (100 * m + fr) 268435455 (tw (383 + 7 * wk)) q → Jall (nxT tw (shC tw vf d) (tw (383 + 7 * wk))) (fun k w v => valF false 1 0 1 dw ex (tw (384 + 7 * wk)) (tw (385 + 7 * wk)) ww (nxT tw (shC tw vf d) (tw (383 + 7 * wk))) (tw (383 + 7 * wk)) k w v) 5 to (100 * m + fr) 268435455 119 1 (tw (383 + 7 * wk)) 12000 q → LR lw' q.2.2.2.2 → q.2.2.1 ≠ -1 → q.2.1 = lsC tw vf d (tw (383 + 7 * wk)) to 119 (100 * m + fr) → post 1 1 (zi q.1) (zi q.2.1) (zi q.2.2.1) lw' (zA q.2.2.2.1))
    (h0 : ¬ lsC tw vf d (tw (383 + 7 * wk)) to 119 (100 * m + fr) < 1000000 → ∀ (q : Sst) (lw' : Nat → Int64), post 0 1 (zi q.1) (zi q.2.1) (zi q.2.2.1) lw' (zA q.2.2.2.1)) :
    wp_X9_seekLeast false (zi d) (zi m) (zi fr) (zi to) 1 0 1 dw (zA ex) (zA nt) (zi sl) ww sw (zi (tw (383 + 7 * wk))) (zi (tw (384 + 7 * wk))) (zi (tw (385 + 7 * wk))) x1 x2 x4 x3 lw t1 (zi 119) post := by
  obtain ⟨c0, rfl, hc0⟩ := zi_ex x4
  have t' := t
  obtain ⟨t1', t2', t3', t4', t5'⟩ := t'
  have w := C.1.2.1 wk t1'.1.1 t1'.1.2 t1'.2
  have A := CS_ask C (wk := wk) (to := to) (aims := 1) (hot := 1) (cool := 0) (wt := 1) (en := 119) t2' (by omega) (by omega) t1' (by omega) (by omega) (by omega) (by omega)
  simp only [wp_X9_seekLeast]
  refine p_cheap (nw := 5) (lim := 268435455) A t5'.1 (by omega) hc0 t3' t4'.1 t4'.2 (by omega) rfl rfl (fun q' lw' hF hJ hL => ?_)
  have hcB : cB (costF false 1 0 dw ex) := cB_cost A.2.2.1 A.2.2.2.1 A.2.2.2.2.2.2.1
  have hB := Bst_agr (CS_agr C (nw := 5) w.1 t2' hdw) (Gok_T w.1 (snC_cB tw vf d)) (k := 100 * m + fr) (by omega) (by omega) (lsC_ok (to := to) (bym := 119) w.1 (by omega) (by omega))
  have cb := Chp_Bst (Gok_T w.1 hcB) (by omega) (by omega) t5'.1 hF.1 hB
  by_cases har : q'.2.2.1 = -1
  · have cb1 := cb.1 har
    rw [if_pos har]
    exact h0 (fun y => by have := cb1 y; omega) q' lw'
  · have cb2 := cb.2 har
    have rg := lsC_rng (tw := tw) (vf := vf) (d := d) (to := to) (bym := 119) (k := 100 * m + fr) w.1 (by omega) (by omega) (by omega)
    rw [if_neg har]
    exact h1 (by omega) rg.1 q' lw' hF (hJ har) hL har cb2.1.symm
/-- does it help -/
theorem p_helpsT (C : CS pl tw vf sl kd hg wks shw ex nt ww sw gw) {wk d m fr to : Int} (t : tripP tw wk d m fr to) {dw0 dw1 lw0 : Nat → Int64} (hdw : dwR shw dw0 d) {q : Sst} (hF : Fnd tw (nxT tw (shC tw vf d) (tw (383 + 7 * wk))) (csT (costF false 1 0 dw0 ex) (tw (383 + 7 * wk))) 5 to 119 (100 * m + fr) 268435455 (tw (383 + 7 * wk)) q) (hJ : Jall (nxT tw (shC tw vf d) (tw (383 + 7 * wk))) (fun k w v => valF false 1 0 1 dw0 ex (tw (384 + 7 * wk)) (tw (385 + 7 * wk)) ww (nxT tw (shC tw vf d) (tw (383 + 7 * wk))) (tw (383 + 7 * wk)) k w v) 5 to (100 * m + fr) 268435455 119 1 (tw (383 + 7 * wk)) 12000 q) (hL : LR lw0 q.2.2.2.2) (har : q.2.2.1 ≠ -1) (hq1 : q.2.1 = lsC tw vf d (tw (383 + 7 * wk)) to 119 (100 * m + fr)) (hls : lsC tw vf d (tw (383 + 7 * wk)) to 119 (100 * m + fr) < 1000000)
    {tv : Int → Int} (ag : agT tw tv) (ho : ∀ s, 0 ≤ s → s < 100 → (tv s = 1 ↔ tw s = 1)) (hdv : ∀ m s, 0 ≤ m → m < 120 → 0 ≤ s → s < 100 → (hb dw1 m s = true ↔ dimP tv vf d m s)) (hsub : ∀ m s, 0 ≤ m → m < 120 → 0 ≤ s → s < 100 → dimP tw vf d m s → dimP tv vf d m s) {B : Int} (hB : 0 ≤ B ∧ B ≤ q.2.1) {La : Int → Int} (hLa : ∀ k, 0 ≤ k → k < 12000 → La k = q.2.2.2.1 k) {x1 x2 x3 x4 : Int32} {lw : Nat → Int64} {t1 : Nat → Int32} {post : Int32 → Int32 → Int32 → Int32 → Int32 → (Nat → Int64) → (Nat → Int32) → Prop}
    (h1 : lsC tv vf d (tw (383 + 7 * wk)) to 119 (100 * m + fr) < B → ∀ (z2 z4 : Int32) (lw1 : Nat → Int64) (s1 : Nat → Int32), post 1 1 z2 (zi (lsC tv vf d (tw (383 + 7 * wk)) to 119 (100 * m + fr))) z4 lw1 s1)
    (h0 : ¬ lsC tv vf d (tw (383 + 7 * wk)) to 119 (100 * m + fr) < B → ∀ (z2 z3 z4 : Int32) (lw1 : Nat → Int64) (s1 : Nat → Int32), post 0 1 z2 z3 z4 lw1 s1) :
    wp_X3_helps (zi B) false (zi d) (zi m) (zi to) 1 0 1 shw dw1 lw0 (zA La) (zA ex) (zA nt) (zi sl) ww sw (zi (tw (383 + 7 * wk))) (zi (tw (384 + 7 * wk))) (zi (tw (385 + 7 * wk))) x1 x2 x4 x3 lw t1 post := by
  obtain ⟨c0, rfl, hc0⟩ := zi_ex x4
  have t' := t
  obtain ⟨t1', t2', t3', t4', t5'⟩ := t'
  have w := C.1.2.1 wk t1'.1.1 t1'.1.2 t1'.2
  have A := CS_ask C (wk := wk) (to := to) (aims := 1) (hot := 1) (cool := 0) (wt := 1) (en := 119) t2' (by omega) (by omega) t1' (by omega) (by omega) (by omega) (by omega)
  have hM : more dw0 dw1 := by
    intro m' s' a b c e z
    rw [hdv m' s' a b c e]
    refine hsub m' s' a b c e ?_
    rw [hdw m' s' a b c (by omega), C.2.1 _ _ (by omega) (by omega) c (by omega)] at z
    have z2 : dimP tw vf ((120 * d + m') / 120) ((120 * d + m') % 120) s' := z.2
    rwa [show (120 * d + m') / 120 = d by omega, show (120 * d + m') % 120 = m' by omega] at z2
  have hcs : ∀ k, 0 ≤ k → k < 12000 → costF false 1 0 dw1 ex k = snC tv vf d k := by
    intro k a b
    have e : dkF dw1 k = true ↔ dimP tv vf d (k / 100) (k % 100) := by
      rw [dkF, hbs, decide_eq_true (by omega), Bool.true_and, hdv _ _ (by omega) (by omega) (by omega) (by omega)]
    simp only [costF]
    rcases snC_01 tv vf d k with ⟨x, y⟩ | ⟨x, y⟩
    · rw [x, if_pos (e.mpr y)]; simp
    · rw [x, if_neg (fun z => y (e.mp z))]; simp
  have AG : Agr (nxT tv (shC tv vf d) (tw (383 + 7 * wk))) (csT (snC tv vf d) (tw (383 + 7 * wk))) (nxT tw (shC tw vf d) (tw (383 + 7 * wk))) (csT (costF false 1 0 dw1 ex) (tw (383 + 7 * wk))) 5 := by
    intro k v a b c e
    have en : nxT tv (shC tv vf d) (tw (383 + 7 * wk)) k v = nxT tw (shC tw vf d) (tw (383 + 7 * wk)) k v := by
      rw [shC_ag ag]; exact nxT_open w.1 ho
    refine ⟨en, fun z => ?_⟩
    rw [en] at z
    exact csT_agr (tw := tw) (sh := shC tw vf d) w.1 (fun k a b => (hcs k a b).symm) a b z
  have hcB1 : cB (costF false 1 0 dw1 ex) := cB_cost (eb := false) (dw := dw1) A.2.2.1 A.2.2.2.1 A.2.2.2.2.2.2.1
  have hBv := Bst_agr AG (Gok_T w.1 (snC_cB tv vf d)) (k := 100 * m + fr) (by omega) (by omega) (lsC_ok (to := to) (bym := 119) w.1 (by omega) (by omega))
  refine p_helps (t1w := shw) A (by decide) t5'.1 t3' t4'.1 hJ hF.2.1 hF.2.2.2.1 har hL hdw hM hB hc0 (by omega) hLa (fun q1 lw1 hc hS => ?_)
  have cb := Chp_Bst (Gok_T w.1 hcB1) (by omega) (by omega) t5'.1 hc hBv
  by_cases ha : q1.2.2.1 = -1
  · have cb1 := cb.1 ha
    rw [if_pos ha]
    exact h0 (fun y => by have := cb1 (by omega); omega) ..
  · have cb2 := cb.2 ha
    rw [if_neg ha, ← cb2.1]
    exact h1 (by omega) ..
/-- the best of all squares so far: which, and by how much -/
def hpN (f : Int → Int) (tw : Int → Int) (now : Int) : Nat → Int × Int
  | 0 => (-1, 0)
  | n + 1 => if tw n = 0 ∧ (hpN f tw now n).2 < now - f n then ((n : Int), now - f n) else hpN f tw now n
theorem hpN_rng {f : Int → Int} {now : Int} (hf : ∀ s, 0 ≤ f s) (h0 : 0 ≤ now) : ∀ n : Nat, (-1 ≤ (hpN f tw now n).1 ∧ (hpN f tw now n).1 < n) ∧ 0 ≤ (hpN f tw now n).2 ∧ (hpN f tw now n).2 ≤ now
  | 0 => by simp only [hpN]; omega
  | n + 1 => by
    have ih := hpN_rng hf h0 n
    have := hf n
    simp only [hpN]
    split
    · show (-1 ≤ (n : Int) ∧ (n : Int) < ((n + 1 : Nat) : Int)) ∧ 0 ≤ now - f n ∧ now - f n ≤ now
      omega
    · omega
theorem hpN_stop {f : Int → Int} {now : Int} (hf : ∀ s, 0 ≤ f s) {n : Nat} (h : now ≤ (hpN f tw now n).2) : ∀ j, hpN f tw now (n + j) = hpN f tw now n
  | 0 => rfl
  | j + 1 => by
    have ih := hpN_stop hf h j
    have := hf ((n + j : Nat) : Int)
    show (if tw ((n + j : Nat) : Int) = 0 ∧ (hpN f tw now (n + j)).2 < now - f ((n + j : Nat) : Int) then ((((n + j : Nat) : Int)), now - f ((n + j : Nat) : Int)) else hpN f tw now (n + j)) = _
    rw [ih, if_neg (fun z => by omega)]
theorem lsC_nn {tv : Int → Int} {d p to k : Int} (hp : 1 ≤ p ∧ p ≤ 3) (h0 : 0 ≤ k) (h1 : k < 12000) : 0 ≤ lsC tv vf d p to 119 k := by
  by_cases h : lsC tv vf d p to 119 k < 1000000
  · exact (lsC_rng hp h0 h1 h).1
  · omega
end GA
