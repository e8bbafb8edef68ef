/-! plant and cover: the class -/
section PC
variable {pl : Pool} {tw : Int → Int} {vf : Int → Int → Int → Int32} {sl : Int} {kd hg : Int → Int} {wks suns : Nat → Option Nat} {shw : Nat → Int64} {ex nt : Int → Int} {ww sw gw : Nat → Int64} {op arg : Nat → Int32}
/-- the least sun with one thing more -/
noncomputable def gdF (tw : Int → Int) (vf : Int → Int → Int → Int32) (d p to k0 kind h s : Int) : Int := lsC (putT tw s kind h) vf d p to 119 k0
noncomputable def gdB (tw : Int → Int) (vf : Int → Int → Int → Int32) (d p to k0 kind h : Int) (n : Nat) : Int × Int := hpN (gdF tw vf d p to k0 kind h) tw (lsC tw vf d p to 119 k0) n
theorem p_beginG {cost : Int} {R La0 : Int → Int} {lw nw0 : Nat → Int64} {L : Int → Bool} (hL : LR lw L) {c1 c2 c3 p1 : Int32} {post : Int32 → Int32 → Int32 → (Nat → Int32) → (Nat → Int64) → Prop} (h : ∀ (La : Int → Int) (nw : Nat → Int64), (∀ k, 0 ≤ k → k < 12000 → La k = R k) → LR nw L → post p1 (zi cost) 0 (zA La) nw) : wp_X3_begin (zi cost) (zA R) lw c1 c2 c3 (zA La0) nw0 p1 post := by
  have z0 : Int32.toNatClampNeg 0 = 0 := by decide
  have z12 : Int32.toNatClampNeg 12000 = 12000 := by decide
  simp only [wp_X3_begin, wp_X9_keepReached, forall_eq, z0, z12]
  refine ⟨by decide, ?_⟩
  rw [zA_cpy (by decide), show (0 : Int32) = zi 0 from rfl]
  refine p_copyW (by decide) (by decide) (by omega) (by decide) ?_
  refine h _ _ (fun k a b => by rw [if_pos (by omega)]) (fun m s a b c e => ?_)
  rw [← hL m s a b c e]
  simp only [hb]
  rw [pk_cpy_in (by omega) (by omega)]
  congr 2
  omega
theorem put_same {s k h : Int} (hs : 0 ≤ s ∧ s < 100) (h0 : tw s = 0) (hk : 2 ≤ k ∧ k ≤ 3) : ∀ j, 0 ≤ j → j < 100 → (putT tw s k h j = 1 ↔ tw j = 1) := by
  intro j j0 j1
  rw [putT_k hs j j1]
  by_cases e : j = s
  · rw [if_pos e, e, h0]; omega
  · rw [if_neg e]
theorem dwR_dim (C : CS pl tw vf sl kd hg wks shw ex nt ww sw gw) {d : Int} (hd : 0 ≤ d ∧ d < 4) {dw : Nat → Int64} (hdw : dwR shw dw d) {m s : Int} (a : 0 ≤ m) (b : m < 120) (c : 0 ≤ s) (e : s < 100) : hb dw m s = true ↔ dimP tw vf d m s := by
  rw [hdw m s a b c (by omega), C.2.1 _ _ (by omega) (by omega) c (by omega)]
  show s < 100 ∧ dimP tw vf ((120 * d + m) / 120) ((120 * d + m) % 120) s ↔ _
  rw [show (120 * d + m) / 120 = d by omega, show (120 * d + m) % 120 = m by omega]
  exact ⟨fun z => z.2, fun z => ⟨e, z⟩⟩
theorem p_tryTrees (C : CS pl tw vf sl kd hg wks shw ex nt ww sw gw) (hb' : brR tw) (hs : suR pl tw suns) {ln : Int → Int} (hl : ∀ d m, 0 ≤ d → d < 4 → 0 ≤ m → m < 120 → ln (120 * d + m) = lnT tw d m) {wk d m fr to h : Int} (hh : 1 ≤ h ∧ h ≤ 99) (t : tripP tw wk d m fr to) {dw0 lw0 : Nat → Int64} (hdw : dwR shw dw0 d) {q : Sst} (hF : Fnd tw (nxT tw (shC tw vf d) (tw (383 + 7 * wk))) (csT (costF false 1 0 dw0 ex) (tw (383 + 7 * wk))) 5 to 119 (100 * m + fr) 268435455 (tw (383 + 7 * wk)) q) (hJ : Jall (nxT tw (shC tw vf d) (tw (383 + 7 * wk))) (fun k w v => valF false 1 0 1 dw0 ex (tw (384 + 7 * wk)) (tw (385 + 7 * wk)) ww (nxT tw (shC tw vf d) (tw (383 + 7 * wk))) (tw (383 + 7 * wk)) k w v) 5 to (100 * m + fr) 268435455 119 1 (tw (383 + 7 * wk)) 12000 q) (hL : LR lw0 q.2.2.2.2) (har : q.2.2.1 ≠ -1) (hq1 : q.2.1 = lsC tw vf d (tw (383 + 7 * wk)) to 119 (100 * m + fr)) (hls : lsC tw vf d (tw (383 + 7 * wk)) to 119 (100 * m + fr) < 1000000)
    {c1 c2 c3 x1 x2 x4 : Int32} {t1 : Nat → Int32} {nw0 sh0 : Nat → Int64} {post : Int32 → Int32 → Int32 → Int32 → Int32 → Int32 → Int32 → (Nat → Int32) → (Nat → Int32) → (Nat → Int64) → (Nat → Int64) → (Nat → Int64) → (Nat → Int64) → Prop}
    (hp : ∀ (z2 z4 z5 z6 z7 : Int32) (s1 s2 : Nat → Int32) (v1 v2 v3 v4 : Nat → Int64), post (zi (gdB tw vf d (tw (383 + 7 * wk)) to (100 * m + fr) 2 h 100).1) z2 (zi (gdB tw vf d (tw (383 + 7 * wk)) to (100 * m + fr) 2 h 100).2) z4 z5 z6 z7 s1 s2 v1 v2 v3 v4) :
    wp_X3_tryTrees pl false (zi d) (zi m) (zi to) 1 0 1 (zi sl) (zi (tw 261)) (zA kd) shw suns (zA ln) (zA ex) (zA nt) ww sw (zi (tw (383 + 7 * wk))) (zi (tw (384 + 7 * wk))) (zi (tw (385 + 7 * wk))) c1 c2 c3 x1 x2 (zi q.2.1) x4 (zA q.2.2.2.1) t1 nw0 lw0 dw0 sh0 (zi h) post := by
  have t' := t
  obtain ⟨t1', t2', t3', t4', t5'⟩ := t'
  have w := C.1.2.1 wk t1'.1.1 t1'.1.2 t1'.2
  have hT := C.1.1
  obtain ⟨La0, rfl, -⟩ := zA_ex t1
  have gf : ∀ s, 0 ≤ gdF tw vf d (tw (383 + 7 * wk)) to (100 * m + fr) 2 h s := fun s => lsC_nn w.1 (by omega) (by omega)
  have n0 : 0 ≤ lsC tw vf d (tw (383 + 7 * wk)) to 119 (100 * m + fr) := lsC_nn w.1 (by omega) (by omega)
  have rg : ∀ n, (-1 ≤ (gdB tw vf d (tw (383 + 7 * wk)) to (100 * m + fr) 2 h n).1 ∧ (gdB tw vf d (tw (383 + 7 * wk)) to (100 * m + fr) 2 h n).1 < n) ∧ 0 ≤ (gdB tw vf d (tw (383 + 7 * wk)) to (100 * m + fr) 2 h n).2 ∧ (gdB tw vf d (tw (383 + 7 * wk)) to (100 * m + fr) 2 h n).2 ≤ lsC tw vf d (tw (383 + 7 * wk)) to 119 (100 * m + fr) := fun n => hpN_rng gf n0 n
  simp only [wp_X3_tryTrees]
  refine p_beginG hL (fun La nw hLa hnw => ?_)
  rw [hq1]
  generalize hnow : lsC tw vf d (tw (383 + 7 * wk)) to 119 (100 * m + fr) = now at *
  refine lp_inv (fun i st => ∃ (z4 z5 z6 z7 : Int32) (s1 : Nat → Int32) (v2 v3 v4 : Nat → Int64), st = (zi (gdB tw vf d (tw (383 + 7 * wk)) to (100 * m + fr) 2 h i).1, zi (now - (gdB tw vf d (tw (383 + 7 * wk)) to (100 * m + fr) 2 h i).2), zi (gdB tw vf d (tw (383 + 7 * wk)) to (100 * m + fr) 2 h i).2, z4, z5, z6, z7, s1, zA La, nw, v2, v3, v4, zi h, zi i)) 100 ?_ ?_ 0 (Nat.zero_le _) ⟨x1, x2, zi now, x4, zA q.2.2.2.1, lw0, dw0, sh0, by simp only [gdB, hpN, Int.sub_zero]; rfl⟩
  · rintro st ⟨z4, z5, z6, z7, s1, v2, v3, v4, rfl⟩ kb
    simp (disch := omega) only [wp_X3_tryTrees_L7, zi_lit, zi_le]
    exact ⟨fun _ => hp .., fun z => absurd (by decide) z⟩
  · rintro i hi st ⟨z4, z5, z6, z7, s1, v2, v3, v4, rfl⟩ kb hkb
    have hni : ((i + 1 : Nat) : Int) = (i : Int) + 1 := by omega
    have ri := rg i
    have hstep : gdB tw vf d (tw (383 + 7 * wk)) to (100 * m + fr) 2 h (i + 1) = if tw i = 0 ∧ (gdB tw vf d (tw (383 + 7 * wk)) to (100 * m + fr) 2 h i).2 < now - gdF tw vf d (tw (383 + 7 * wk)) to (100 * m + fr) 2 h i then ((i : Int), now - gdF tw vf d (tw (383 + 7 * wk)) to (100 * m + fr) 2 h i) else gdB tw vf d (tw (383 + 7 * wk)) to (100 * m + fr) 2 h i := by
      rw [← hnow]; rfl
    simp (disch := omega) only [wp_X3_tryTrees_L7, zi_lit, zi_le]
    refine ⟨fun z => by omega, fun _ => ⟨fun z => ?_, fun z => ?_⟩⟩
    · have e : gdB tw vf d (tw (383 + 7 * wk)) to (100 * m + fr) 2 h 100 = gdB tw vf d (tw (383 + 7 * wk)) to (100 * m + fr) 2 h i := by
        have := hpN_stop (tw := tw) gf (n := i) (now := now) (by rw [← hnow]; show _ ≤ (gdB tw vf d (tw (383 + 7 * wk)) to (100 * m + fr) 2 h i).2; rw [hnow]; omega) (100 - i)
        rw [show i + (100 - i) = 100 by omega, ← hnow] at this
        exact this
      have hp' := hp (zi (now - (gdB tw vf d (tw (383 + 7 * wk)) to (100 * m + fr) 2 h i).2)) z4 z5 z6 z7 s1 (zA La) nw v2 v3 v4
      rw [e] at hp'
      exact hp'
    refine p_isBare C.1.2.2.1 (by omega) (fun b => ⟨fun y => absurd y (by decide), fun _ => ?_⟩) (fun b => ⟨fun _ => ?_, fun y => absurd rfl y⟩)
    case refine_2 =>
      simp only [forall_eq, zi_add]
      refine hkb _ ⟨z4, z5, z6, z7, s1, v2, v3, v4, ?_⟩
      rw [hstep, if_neg (fun y => b ⟨by omega, y.1⟩), hni]
    refine p_takeShade t2' (fun dw1 hdw1 => ?_)
    refine p_addTree hT hs hl t2' b.1 (by omega) (fun sh1 dw2 hd2 => ?_)
    refine p_helpsT C t hdw hF hJ hnw har (by rw [hnow]; exact hq1) (by rw [hnow]; exact hls) (tv := putT tw i 2 h) (putT_ag b.1) (put_same b.1 b.2 (by omega)) (fun m' s' e1 e2 e3 e4 => ?_) (fun m' s' e1 e2 e3 e4 y => (dim_put hT hb' b.1 b.2 (by omega) (by omega) ⟨e3, e4⟩).mpr (Or.inl y)) (B := now - (gdB tw vf d (tw (383 + 7 * wk)) to (100 * m + fr) 2 h i).2) (by omega) hLa (fun y u2 u4 lw1 r1 => ⟨fun x => absurd x (by decide), fun _ => ?_⟩) (fun y u2 u3 u4 lw1 r1 => ⟨fun _ => ?_, fun x => absurd rfl x⟩)
    · rw [hd2 m' s' e1 e2 e3 (by omega), dwR_dim C t2' hdw1 e1 e2 e3 e4, dim_put hT hb' b.1 b.2 (by omega) (by omega) ⟨e3, e4⟩]
    · have g : gdF tw vf d (tw (383 + 7 * wk)) to (100 * m + fr) 2 h i = lsC (putT tw i 2 h) vf d (tw (383 + 7 * wk)) to 119 (100 * m + fr) := rfl
      rw [← g] at y ⊢
      simp only [wp_X3_choose, forall_eq, zi_sub, zi_add]
      refine hkb _ ⟨1, u2, zi (gdF tw vf d (tw (383 + 7 * wk)) to (100 * m + fr) 2 h i), u4, r1, lw1, dw2, sh1, ?_⟩
      rw [hstep, if_pos ⟨b.2, by omega⟩, hni]
      dsimp only
      rw [show now - (now - gdF tw vf d (tw (383 + 7 * wk)) to (100 * m + fr) 2 h i) = gdF tw vf d (tw (383 + 7 * wk)) to (100 * m + fr) 2 h i by omega, show (gdB tw vf d (tw (383 + 7 * wk)) to (100 * m + fr) 2 h i).2 + (now - (gdB tw vf d (tw (383 + 7 * wk)) to (100 * m + fr) 2 h i).2 - gdF tw vf d (tw (383 + 7 * wk)) to (100 * m + fr) 2 h i) = now - gdF tw vf d (tw (383 + 7 * wk)) to (100 * m + fr) 2 h i by omega]
    · simp only [forall_eq, zi_add]
      refine hkb _ ⟨1, u2, u3, u4, r1, lw1, dw2, sh1, ?_⟩
      have g : gdF tw vf d (tw (383 + 7 * wk)) to (100 * m + fr) 2 h i = lsC (putT tw i 2 h) vf d (tw (383 + 7 * wk)) to 119 (100 * m + fr) := rfl
      rw [hstep, if_neg (fun x => y (by rw [← g]; omega)), hni]
theorem p_tryAwnings (C : CS pl tw vf sl kd hg wks shw ex nt ww sw gw) (hb' : brR tw) {wk d m fr to : Int} (t : tripP tw wk d m fr to) {dw0 lw0 : Nat → Int64} (hdw : dwR shw dw0 d) {q : Sst} (hF : Fnd tw (nxT tw (shC tw vf d) (tw (383 + 7 * wk))) (csT (costF false 1 0 dw0 ex) (tw (383 + 7 * wk))) 5 to 119 (100 * m + fr) 268435455 (tw (383 + 7 * wk)) q) (hJ : Jall (nxT tw (shC tw vf d) (tw (383 + 7 * wk))) (fun k w v => valF false 1 0 1 dw0 ex (tw (384 + 7 * wk)) (tw (385 + 7 * wk)) ww (nxT tw (shC tw vf d) (tw (383 + 7 * wk))) (tw (383 + 7 * wk)) k w v) 5 to (100 * m + fr) 268435455 119 1 (tw (383 + 7 * wk)) 12000 q) (hL : LR lw0 q.2.2.2.2) (har : q.2.2.1 ≠ -1) (hq1 : q.2.1 = lsC tw vf d (tw (383 + 7 * wk)) to 119 (100 * m + fr)) (hls : lsC tw vf d (tw (383 + 7 * wk)) to 119 (100 * m + fr) < 1000000)
    {c1 c2 c3 x1 x2 x4 : Int32} {t1 : Nat → Int32} {nw0 : Nat → Int64} {post : Int32 → Int32 → Int32 → Int32 → Int32 → Int32 → Int32 → (Nat → Int32) → (Nat → Int32) → (Nat → Int64) → (Nat → Int64) → (Nat → Int64) → Prop}
    (hp : ∀ (z2 z4 z5 z6 z7 : Int32) (s1 s2 : Nat → Int32) (v1 v2 v3 : Nat → Int64), post (zi (gdB tw vf d (tw (383 + 7 * wk)) to (100 * m + fr) 3 0 100).1) z2 (zi (gdB tw vf d (tw (383 + 7 * wk)) to (100 * m + fr) 3 0 100).2) z4 z5 z6 z7 s1 s2 v1 v2 v3) :
    wp_X3_tryAwnings false (zi d) (zi m) (zi to) 1 0 1 (zi sl) (zA kd) shw (zA ex) (zA nt) ww sw (zi (tw (383 + 7 * wk))) (zi (tw (384 + 7 * wk))) (zi (tw (385 + 7 * wk))) c1 c2 c3 x1 x2 (zi q.2.1) x4 (zA q.2.2.2.1) t1 nw0 lw0 dw0 post := by
  have t' := t
  obtain ⟨t1', t2', t3', t4', t5'⟩ := t'
  have w := C.1.2.1 wk t1'.1.1 t1'.1.2 t1'.2
  have hT := C.1.1
  obtain ⟨La0, rfl, -⟩ := zA_ex t1
  have gf : ∀ s, 0 ≤ gdF tw vf d (tw (383 + 7 * wk)) to (100 * m + fr) 3 0 s := fun s => lsC_nn w.1 (by omega) (by omega)
  have n0 : 0 ≤ lsC tw vf d (tw (383 + 7 * wk)) to 119 (100 * m + fr) := lsC_nn w.1 (by omega) (by omega)
  have rg : ∀ n, (-1 ≤ (gdB tw vf d (tw (383 + 7 * wk)) to (100 * m + fr) 3 0 n).1 ∧ (gdB tw vf d (tw (383 + 7 * wk)) to (100 * m + fr) 3 0 n).1 < n) ∧ 0 ≤ (gdB tw vf d (tw (383 + 7 * wk)) to (100 * m + fr) 3 0 n).2 ∧ (gdB tw vf d (tw (383 + 7 * wk)) to (100 * m + fr) 3 0 n).2 ≤ lsC tw vf d (tw (383 + 7 * wk)) to 119 (100 * m + fr) := fun n => hpN_rng gf n0 n
  simp only [wp_X3_tryAwnings]
  refine p_beginG hL (fun La nw hLa hnw => ?_)
  rw [hq1]
  generalize hnow : lsC tw vf d (tw (383 + 7 * wk)) to 119 (100 * m + fr) = now at *
  refine lp_inv (fun i st => ∃ (z4 z5 z6 z7 : Int32) (s1 : Nat → Int32) (v2 v3 : Nat → Int64), st = (zi (gdB tw vf d (tw (383 + 7 * wk)) to (100 * m + fr) 3 0 i).1, zi (now - (gdB tw vf d (tw (383 + 7 * wk)) to (100 * m + fr) 3 0 i).2), zi (gdB tw vf d (tw (383 + 7 * wk)) to (100 * m + fr) 3 0 i).2, z4, z5, z6, z7, s1, zA La, nw, v2, v3, zi i)) 100 ?_ ?_ 0 (Nat.zero_le _) ⟨x1, x2, zi now, x4, zA q.2.2.2.1, lw0, dw0, by simp only [gdB, hpN, Int.sub_zero]; rfl⟩
  · rintro st ⟨z4, z5, z6, z7, s1, v2, v3, rfl⟩ kb
    simp (disch := omega) only [wp_X3_tryAwnings_L7, zi_lit, zi_le]
    exact ⟨fun _ => hp .., fun z => absurd (by decide) z⟩
  · rintro i hi st ⟨z4, z5, z6, z7, s1, v2, v3, rfl⟩ kb hkb
    have hni : ((i + 1 : Nat) : Int) = (i : Int) + 1 := by omega
    have ri := rg i
    have hstep : gdB tw vf d (tw (383 + 7 * wk)) to (100 * m + fr) 3 0 (i + 1) = if tw i = 0 ∧ (gdB tw vf d (tw (383 + 7 * wk)) to (100 * m + fr) 3 0 i).2 < now - gdF tw vf d (tw (383 + 7 * wk)) to (100 * m + fr) 3 0 i then ((i : Int), now - gdF tw vf d (tw (383 + 7 * wk)) to (100 * m + fr) 3 0 i) else gdB tw vf d (tw (383 + 7 * wk)) to (100 * m + fr) 3 0 i := by
      rw [← hnow]; rfl
    simp (disch := omega) only [wp_X3_tryAwnings_L7, zi_lit, zi_le]
    refine ⟨fun z => by omega, fun _ => ⟨fun z => ?_, fun z => ?_⟩⟩
    · have e : gdB tw vf d (tw (383 + 7 * wk)) to (100 * m + fr) 3 0 100 = gdB tw vf d (tw (383 + 7 * wk)) to (100 * m + fr) 3 0 i := by
        have := hpN_stop (tw := tw) gf (n := i) (now := now) (by rw [← hnow]; show _ ≤ (gdB tw vf d (tw (383 + 7 * wk)) to (100 * m + fr) 3 0 i).2; rw [hnow]; omega) (100 - i)
        rw [show i + (100 - i) = 100 by omega, ← hnow] at this
        exact this
      have hp' := hp (zi (now - (gdB tw vf d (tw (383 + 7 * wk)) to (100 * m + fr) 3 0 i).2)) z4 z5 z6 z7 s1 (zA La) nw v2 v3
      rw [e] at hp'
      exact hp'
    refine p_isBare C.1.2.2.1 (by omega) (fun b => ⟨fun y => absurd y (by decide), fun _ => ?_⟩) (fun b => ⟨fun _ => ?_, fun y => absurd rfl y⟩)
    case refine_2 =>
      simp only [forall_eq, zi_add]
      refine hkb _ ⟨z4, z5, z6, z7, s1, v2, v3, ?_⟩
      rw [hstep, if_neg (fun y => b ⟨by omega, y.1⟩), hni]
    refine p_takeShade t2' (fun dw1 hdw1 => ?_)
    refine lp_inv (fun j st => ∃ dw2 : Nat → Int64, st = (zi (gdB tw vf d (tw (383 + 7 * wk)) to (100 * m + fr) 3 0 i).1, zi (now - (gdB tw vf d (tw (383 + 7 * wk)) to (100 * m + fr) 3 0 i).2), zi (gdB tw vf d (tw (383 + 7 * wk)) to (100 * m + fr) 3 0 i).2, z4, z5, z6, z7, s1, zA La, nw, v2, dw2, zi i, zi j) ∧ ∀ m' s', 0 ≤ m' → m' < 120 → 0 ≤ s' → s' < 128 → (hb dw2 m' s' = true ↔ hb dw1 m' s' = true ∨ (m' < (j : Int) ∧ s' = i))) 120 ?_ ?_ 0 (Nat.zero_le _) ⟨dw1, rfl, fun m' s' e1 e2 e3 e4 => ⟨Or.inl, fun y => by rcases y with y | y; exact y; omega⟩⟩
    · rintro st ⟨dw2, rfl, hd2⟩ kb2
      simp (disch := omega) only [wp_X3_tryAwnings_L46, zi_lit, zi_le]
      refine ⟨fun _ => ?_, fun y => absurd (by decide) y⟩
      refine p_helpsT C t hdw hF hJ hnw har (by rw [hnow]; exact hq1) (by rw [hnow]; exact hls) (tv := putT tw i 3 0) (putT_ag b.1) (put_same b.1 b.2 (by omega)) (fun m' s' e1 e2 e3 e4 => ?_) (fun m' s' e1 e2 e3 e4 y => (dim_put hT hb' b.1 b.2 (by omega) (by omega) ⟨e3, e4⟩).mpr (Or.inl y)) (B := now - (gdB tw vf d (tw (383 + 7 * wk)) to (100 * m + fr) 3 0 i).2) (by omega) hLa (fun y u2 u4 lw1 r1 => ⟨fun x => absurd x (by decide), fun _ => ?_⟩) (fun y u2 u3 u4 lw1 r1 => ⟨fun _ => ?_, fun x => absurd rfl x⟩)
      · rw [hd2 m' s' e1 e2 e3 (by omega), dwR_dim C t2' hdw1 e1 e2 e3 e4, dim_put hT hb' b.1 b.2 (by omega) (by omega) ⟨e3, e4⟩]
        constructor
        · rintro (x | x)
          · exact Or.inl x
          · by_cases hln : lnT tw d m' < 0
            · exact Or.inl (Or.inl hln)
            · exact Or.inr ⟨by omega, Or.inl x.2⟩
        · rintro (x | ⟨x0, x | x⟩)
          · exact Or.inl x
          · exact Or.inr ⟨by omega, x⟩
          · have lr := lnT_rng (d := d) (m := m') hT
            have qq := hT.2.2.2.1 (lnT tw d m') (by omega) lr.2
            exact absurd x (csP_pos qq.2.2.2.1.1 (by omega) qq.2.2.2.2.1)
      · have g : gdF tw vf d (tw (383 + 7 * wk)) to (100 * m + fr) 3 0 i = lsC (putT tw i 3 0) vf d (tw (383 + 7 * wk)) to 119 (100 * m + fr) := rfl
        rw [← g] at y ⊢
        simp only [wp_X3_choose, forall_eq, zi_sub, zi_add]
        refine hkb _ ⟨1, u2, zi (gdF tw vf d (tw (383 + 7 * wk)) to (100 * m + fr) 3 0 i), u4, r1, lw1, dw2, ?_⟩
        rw [hstep, if_pos ⟨b.2, by omega⟩, hni]
        dsimp only
        rw [show now - (now - gdF tw vf d (tw (383 + 7 * wk)) to (100 * m + fr) 3 0 i) = gdF tw vf d (tw (383 + 7 * wk)) to (100 * m + fr) 3 0 i by omega, show (gdB tw vf d (tw (383 + 7 * wk)) to (100 * m + fr) 3 0 i).2 + (now - (gdB tw vf d (tw (383 + 7 * wk)) to (100 * m + fr) 3 0 i).2 - gdF tw vf d (tw (383 + 7 * wk)) to (100 * m + fr) 3 0 i) = now - gdF tw vf d (tw (383 + 7 * wk)) to (100 * m + fr) 3 0 i by omega]
      · simp only [forall_eq, zi_add]
        refine hkb _ ⟨1, u2, u3, u4, r1, lw1, dw2, ?_⟩
        have g : gdF tw vf d (tw (383 + 7 * wk)) to (100 * m + fr) 3 0 i = lsC (putT tw i 3 0) vf d (tw (383 + 7 * wk)) to 119 (100 * m + fr) := rfl
        rw [hstep, if_neg (fun x => y (by rw [← g]; omega)), hni]
    · rintro j hj st ⟨dw2, rfl, hd2⟩ kb2 hkb2
      have hnj : ((j + 1 : Nat) : Int) = (j : Int) + 1 := by omega
      simp (disch := omega) only [wp_X3_tryAwnings_L46, zi_lit, zi_le]
      refine ⟨fun y => by omega, fun _ => ?_⟩
      refine p_put (by decide) (by omega) b.1 ?_
      simp only [forall_eq, zi_add]
      refine hkb2 _ ⟨_, by rw [hnj], fun m' s' e1 e2 e3 e4 => ?_⟩
      rw [hb_p (by omega) (by omega) e1 ⟨e3, e4⟩, Bool.or_eq_true, hd2 m' s' e1 e2 e3 e4, decide_eq_true_eq, hnj]
      constructor
      · rintro ((x | x) | x)
        · exact Or.inl x
        · exact Or.inr ⟨by omega, x.2⟩
        · exact Or.inr ⟨by omega, x.2⟩
      · rintro (x | x)
        · exact Or.inl (Or.inl x)
        · by_cases e : m' = j
          · exact Or.inr ⟨e, x.2⟩
          · exact Or.inl (Or.inr ⟨by omega, x.2⟩)
noncomputable def plantO (tw : Int → Int) (vf : Int → Int → Int → Int32) (wk d m fr to h w : Int) : Option Int := @ite (Option Int) (tripP tw wk d m fr to ∧ (1 ≤ h ∧ h ≤ 99) ∧ (0 ≤ w ∧ w ≤ 1) ∧ lsC tw vf d (tw (383 + 7 * wk)) to 119 (100 * m + fr) < 1000000) (Classical.propDecidable _) (some (if w = 0 then (gdB tw vf d (tw (383 + 7 * wk)) to (100 * m + fr) 2 h 100).1 else (gdB tw vf d (tw (383 + 7 * wk)) to (100 * m + fr) 2 h 100).2)) none
theorem p_plantC (C : CS pl tw vf sl kd hg wks shw ex nt ww sw gw) (hb' : brR tw) (hs : suR pl tw suns) {ln : Int → Int} (hl : ∀ d m, 0 ≤ d → d < 4 → 0 ≤ m → m < 120 → ln (120 * d + m) = lnT tw d m) {wk d m fr to h w : Int} (a1 : ir wk) (a2 : ir d) (a3 : ir m) (a4 : ir fr) (a5 : ir to) (a6 : ir h) (a7 : ir w) {o1 : Nat} {o2 o3 o4 o5 o6 o7 o8 o9 o10 o11 o12 o13 o14 o15 : Int32} {dw0 lw0 nw0 sh0 : Nat → Int64} {t1 t2 : Nat → Int32} {post : Option Int32 → Nat → Int32 → Int32 → Int32 → Int32 → Int32 → Int32 → Int32 → Int32 → Int32 → Int32 → Int32 → (Nat → Int64) → (Nat → Int64) → (Nat → Int32) → Int32 → Int32 → Int32 → (Nat → Int32) → (Nat → Int64) → (Nat → Int64) → Prop}
    (h1 : ∀ v, plantO tw vf wk d m fr to h w = some v → ∀ (q1 : Nat) (y2 y3 y4 y5 y6 y7 y8 y9 y10 y11 y12 y13 y14 y15 : Int32) (dw lw nw sh : Nat → Int64) (s1 s2 : Nat → Int32), post (some (zi v)) q1 y2 y3 y4 y5 y6 y7 y8 y9 y10 y11 y12 dw lw s1 y13 y14 y15 s2 nw sh)
    (h0 : plantO tw vf wk d m fr to h w = none → ∀ (q1 : Nat) (y2 y3 y4 y5 y6 y7 y8 y9 y10 y11 y12 y13 y14 y15 : Int32) (dw lw nw sh : Nat → Int64) (s1 s2 : Nat → Int32), post none q1 y2 y3 y4 y5 y6 y7 y8 y9 y10 y11 y12 dw lw s1 y13 y14 y15 s2 nw sh) :
    wp_X11_plant pl (zi sl) (zi (tw 261)) (zA kd) wks false shw (zA ex) (zA nt) ww sw suns (zA ln) o1 o2 o3 o4 o5 o6 o7 o8 o9 o10 o11 o12 dw0 lw0 t1 o13 o14 o15 t2 nw0 sh0 (zi wk) (zi d) (zi m) (zi fr) (zi to) (zi h) (zi w) post := by
  have b6 := a6
  have b7 := a7
  simp only [ir] at b6 b7
  simp only [wp_X11_plant, wp_X11_plant_b50]
  rw [show (zi w < 0) = (zi w < zi 0) from rfl, show (1 < zi w) = (zi 1 < zi w) from rfl, show (zi h < 1) = (zi h < zi 1) from rfl, show (99 < zi h) = (zi 99 < zi h) from rfl, zi_lt (by omega), zi_lt (by omega), zi_lt (by omega), zi_lt (by omega)]
  refine ⟨fun z => h0 (by rw [plantO, if_neg (fun y => by have := y.2.2.1; omega)]) .., fun z => ⟨fun z2 => h0 (by rw [plantO, if_neg (fun y => by have := y.2.2.1; omega)]) .., fun z2 => ⟨fun z3 => h0 (by rw [plantO, if_neg (fun y => by have := y.2.1; omega)]) .., fun z3 => ⟨fun z4 => h0 (by rw [plantO, if_neg (fun y => by have := y.2.1; omega)]) .., fun z4 => ?_⟩⟩⟩⟩
  refine p_ready C.1.1 C.1.2.2.1 C.1.2.2.2 a1 a2 a3 a4 a5 (fun t q dw hq hdw => ⟨fun z => absurd z (by decide), fun _ => ⟨_, _, _, _, _, _, hq, ?_⟩⟩) (fun t => ⟨fun _ => h0 (by rw [plantO, if_neg (fun y => t y.1)]) .., fun z => absurd rfl z⟩)
  refine p_seekJ C t hdw (fun hls _ q' lw' hF hJ hL har e1 => ⟨fun _ => ?_, fun z => absurd z (by decide)⟩) (fun hls q' lw' => ⟨fun z => absurd rfl z, fun _ => h0 (by rw [plantO, if_neg (fun y => hls y.2.2.2)]) ..⟩)
  refine p_tryTrees C hb' hs hl (by omega) t hdw hF hJ hL har e1 hls (fun u2 u4 u5 u6 u7 s1 s2 v1 v2 v3 v4 => ?_)
  rw [show (zi w = 0) = (zi w = zi 0) from rfl, zi_eq (by omega)]
  refine ⟨fun w0 => h1 _ (by rw [plantO, if_pos ⟨t, by omega, by omega, hls⟩, if_neg w0]) .., fun w0 => h1 _ (by rw [plantO, if_pos ⟨t, by omega, by omega, hls⟩, if_pos w0]) ..⟩
noncomputable def coverO (tw : Int → Int) (vf : Int → Int → Int → Int32) (wk d m fr to w : Int) : Option Int := @ite (Option Int) (tripP tw wk d m fr to ∧ (0 ≤ w ∧ w ≤ 1) ∧ lsC tw vf d (tw (383 + 7 * wk)) to 119 (100 * m + fr) < 1000000) (Classical.propDecidable _) (some (if w = 0 then (gdB tw vf d (tw (383 + 7 * wk)) to (100 * m + fr) 3 0 100).1 else (gdB tw vf d (tw (383 + 7 * wk)) to (100 * m + fr) 3 0 100).2)) none
theorem p_coverC (C : CS pl tw vf sl kd hg wks shw ex nt ww sw gw) (hb' : brR tw) {wk d m fr to w : Int} (a1 : ir wk) (a2 : ir d) (a3 : ir m) (a4 : ir fr) (a5 : ir to) (a7 : ir w) {o1 : Nat} {o2 o3 o4 o5 o6 o7 o8 o9 o10 o11 o12 o13 o14 o15 : Int32} {dw0 lw0 nw0 : Nat → Int64} {t1 t2 : Nat → Int32} {post : Option Int32 → Nat → Int32 → Int32 → Int32 → Int32 → Int32 → Int32 → Int32 → Int32 → Int32 → Int32 → Int32 → (Nat → Int64) → (Nat → Int64) → (Nat → Int32) → Int32 → Int32 → Int32 → (Nat → Int32) → (Nat → Int64) → Prop}
    (h1 : ∀ v, coverO tw vf wk d m fr to w = some v → ∀ (q1 : Nat) (y2 y3 y4 y5 y6 y7 y8 y9 y10 y11 y12 y13 y14 y15 : Int32) (dw lw nw : Nat → Int64) (s1 s2 : Nat → Int32), post (some (zi v)) q1 y2 y3 y4 y5 y6 y7 y8 y9 y10 y11 y12 dw lw s1 y13 y14 y15 s2 nw)
    (h0 : coverO tw vf wk d m fr to w = none → ∀ (q1 : Nat) (y2 y3 y4 y5 y6 y7 y8 y9 y10 y11 y12 y13 y14 y15 : Int32) (dw lw nw : Nat → Int64) (s1 s2 : Nat → Int32), post none q1 y2 y3 y4 y5 y6 y7 y8 y9 y10 y11 y12 dw lw s1 y13 y14 y15 s2 nw) :
    wp_X11_cover pl (zi sl) (zA kd) wks false shw (zA ex) (zA nt) ww sw o1 o2 o3 o4 o5 o6 o7 o8 o9 o10 o11 o12 dw0 lw0 t1 o13 o14 o15 t2 nw0 (zi wk) (zi d) (zi m) (zi fr) (zi to) (zi w) post := by
  have b7 := a7
  simp only [ir] at b7
  simp only [wp_X11_cover, wp_X11_cover_b37]
  rw [show (zi w < 0) = (zi w < zi 0) from rfl, show (1 < zi w) = (zi 1 < zi w) from rfl, zi_lt (by omega), zi_lt (by omega)]
  refine ⟨fun z => h0 (by rw [coverO, if_neg (fun y => by have := y.2.1; omega)]) .., fun z => ⟨fun z2 => h0 (by rw [coverO, if_neg (fun y => by have := y.2.1; omega)]) .., fun z2 => ?_⟩⟩
  refine p_ready C.1.1 C.1.2.2.1 C.1.2.2.2 a1 a2 a3 a4 a5 (fun t q dw hq hdw => ⟨fun z => absurd z (by decide), fun _ => ⟨_, _, _, _, _, _, hq, ?_⟩⟩) (fun t => ⟨fun _ => h0 (by rw [coverO, if_neg (fun y => t y.1)]) .., fun z => absurd rfl z⟩)
  refine p_seekJ C t hdw (fun hls _ q' lw' hF hJ hL har e1 => ⟨fun _ => ?_, fun z => absurd z (by decide)⟩) (fun hls q' lw' => ⟨fun z => absurd rfl z, fun _ => h0 (by rw [coverO, if_neg (fun y => hls y.2.2)]) ..⟩)
  refine p_tryAwnings C hb' t hdw hF hJ hL har e1 hls (fun u2 u4 u5 u6 u7 s1 s2 v1 v2 v3 => ?_)
  rw [show (zi w = 0) = (zi w = zi 0) from rfl, zi_eq (by omega)]
  refine ⟨fun w0 => h1 _ (by rw [coverO, if_pos ⟨t, by omega, hls⟩, if_neg w0]) .., fun w0 => h1 _ (by rw [coverO, if_pos ⟨t, by omega, hls⟩, if_pos w0]) ..⟩
end PC
