/-! both: the calls -/
section B3
variable {pl : Pool} {tw : Int → Int} {vf : Int → Int → Int → Int32} {sl : Int} {kd hg : Int → Int} {wks : Nat → Option Nat} {shw : Nat → Int64} {ex nt : Int → Int} {ww sw gw : Nat → Int64} {op arg : Nat → Int32}
noncomputable def bothV (tw : Int → Int) (vf : Int → Int → Int → Int32) (wk d m fr to i what : Int) : Int := @ite Int (tripP tw wk d m fr to ∧ 0 ≤ i ∧ 0 ≤ what ∧ what ≤ 1) (Classical.propDecidable _) (if nthC (impP (nxT tw (shC tw vf d) (tw (383 + 7 * wk))) (csT (snC tw vf d) (tw (383 + 7 * wk))) to (100 * m + fr)) i = -1 ∨ what = 0 then nthC (impP (nxT tw (shC tw vf d) (tw (383 + 7 * wk))) (csT (snC tw vf d) (tw (383 + 7 * wk))) to (100 * m + fr)) i else rcC (nxT tw (shC tw vf d) (tw (383 + 7 * wk))) (csT (snC tw vf d) (tw (383 + 7 * wk))) to (100 * m + fr) (100 * nthC (impP (nxT tw (shC tw vf d) (tw (383 + 7 * wk))) (csT (snC tw vf d) (tw (383 + 7 * wk))) to (100 * m + fr)) i + to)) (-1)
/-- before the first minute there is nothing to be counted -/
theorem cnt_imp {nx cs : Int → Int → Int} {to m fr : Int} (G : Gok nx cs 5) (hm : 0 ≤ m ∧ m < 120) (hfr : 0 ≤ fr ∧ fr < 100) (hto : 0 ≤ to ∧ to < 100) : ∀ n : Nat, (n : Int) ≤ m → cntC (impP nx cs to (100 * m + fr)) n = 0
  | 0, _ => rfl
  | n + 1, h => by
    rw [cntC, cnt_imp G hm hfr hto n (by omega), if_neg]
    · rfl
    · rintro ⟨ws, c, x, -⟩
      have := pt_rng G ws _ _ c (by omega) (by omega) x
      omega
theorem p_arrivalNumber {fi to i : Int} {lw : Nat → Int64} {L : Int → Bool} {P : Int → Prop} (hL : LR lw L) (hto : 0 ≤ to ∧ to < 100) (hf : 0 ≤ fi ∧ fi < 120) (hi : 0 ≤ i ∧ i < 2147483648) (hP : ∀ m', 0 ≤ m' → m' < 120 → (L (100 * m' + to) = true ↔ P m')) (h0 : cntC P fi.toNat = 0) (hlow : ∀ m : Nat, (m : Int) < fi → ¬ P m) {post : Int32 → Prop} (h : ∀ T, nthA P i T → post (zi T)) : wp_X9_arrivalNumber (zi fi) (zi to) lw (zi i) post := by
  simp only [wp_X9_arrivalNumber]
  refine lp_inv (fun j s' => s' = (zi (i - cntC P (fi.toNat + j)), zi (fi + j)) ∧ cntC P (fi.toNat + j) ≤ i ∧ ∀ m : Nat, (m : Int) < fi + j → P m → cntC P m ≠ i) (120 - fi).toNat ?_ ?_ 0 (Nat.zero_le _) ⟨by simp [h0], by simp [h0]; exact hi.1, fun m hm hp => absurd hp (hlow m (by omega))⟩
  · rintro s' ⟨rfl, hc, hno⟩ kb
    simp (disch := omega) only [wp_X9_arrivalNumber_L7, zi_lit, zi_lt]
    exact ⟨fun _ => h (-1) (Or.inl ⟨rfl, fun m hm hp => hno m (by omega) hp⟩), fun z => by omega⟩
  · rintro j hj s' ⟨rfl, hc, hno⟩ kb hkb
    have cr := cntC_rng P (fi.toNat + j)
    have ej : ((fi.toNat + j : Nat) : Int) = fi + j := by omega
    have ec : cntC P (fi.toNat + (j + 1)) = cntC P (fi.toNat + j) + @ite Int (P ((fi.toNat + j : Nat) : Int)) (Classical.propDecidable _) 1 0 := rfl
    rw [ej] at ec
    have hk := hP (fi + j) (by omega) (by omega)
    have hr : hbs 240 lw (fi + j) to = L (100 * (fi + j) + to) := by
      rw [hbs, decide_eq_true (by omega), Bool.true_and, hL _ _ (by omega) (by omega) hto.1 (by omega), decide_eq_true hto.2, Bool.true_and]
    simp (disch := omega) only [wp_X9_arrivalNumber_L7, zi_lit, zi_lt]
    refine ⟨fun z => by omega, fun _ => ?_⟩
    refine p_has (by decide) (by omega) (by omega) ?_
    rw [hr]
    simp (disch := omega) only [forall_eq, zi_lit, zi_neg, zi_add, zi_eq]
    refine ⟨fun z => ?_, fun z => ⟨fun y => ?_, fun y => ?_⟩⟩
    · have np : ¬ P (fi + j) := fun y => by rw [hk.mpr y] at z; exact absurd z (by decide)
      rw [if_neg np] at ec
      refine hkb _ ⟨by rw [ec, show fi + ((j + 1 : Nat) : Int) = fi + j + 1 by omega, Int.add_zero], by omega, fun m hm hp => ?_⟩
      by_cases q : (m : Int) = fi + j
      · rw [q] at hp; exact absurd hp np
      · exact hno m (by omega) hp
    · have pp : P (fi + j) := hk.mp (by cases e : L (100 * (fi + j) + to) with | true => rfl | false => rw [e] at z; exact absurd rfl z)
      rw [if_pos pp] at ec
      refine hkb _ ⟨by rw [ec, show fi + ((j + 1 : Nat) : Int) = fi + j + 1 by omega, show i - (cntC P (fi.toNat + j) + 1) = i - cntC P (fi.toNat + j) + -1 by omega], by omega, fun m hm hp => ?_⟩
      by_cases q : (m : Int) = fi + j
      · have em : m = fi.toNat + j := by omega
        rw [em]; omega
      · exact hno m (by omega) hp
    · have pp : P (fi + j) := hk.mp (by cases e : L (100 * (fi + j) + to) with | true => rfl | false => rw [e] at z; exact absurd rfl z)
      refine h (fi + j) (Or.inr ⟨by omega, by omega, pp, ?_⟩)
      rw [show (fi + (j : Int)).toNat = fi.toNat + j by omega]
      omega
theorem p_reached {R : Int → Int} {m s : Int} (hm : 0 ≤ m ∧ m < 120) (hs : 0 ≤ s ∧ s < 100) {post : Int32 → Prop} (h : post (zi (R (100 * m + s)))) : wp_X9_reached (zA R) (zi m) (zi s) post := by
  have hk : m * 100 + s = 100 * m + s := by omega
  simp (disch := omega) only [wp_X9_reached, forall_eq, zi_lit, zi_mul, zi_add, hk, zi_lt, nI_zi 12000, zi_in, zA_get]
  exact ⟨fun z => by omega, fun _ => ⟨fun z => by omega, fun _ => ⟨fun _ => ⟨by omega, h⟩, fun z => by omega⟩⟩⟩
theorem p_bothC (C : CS pl tw vf sl kd hg wks shw ex nt ww sw gw) {wk d m fr to i what : Int} (a1 : ir wk) (a2 : ir d) (a3 : ir m) (a4 : ir fr) (a5 : ir to) (a6 : ir i) (a7 : ir what) {o1 : Nat} {o2 o3 o4 o5 o6 o7 o8 o9 o10 o11 o12 : Int32} {dw0 lw0 : Nat → Int64} {t1 : Nat → Int32} {post : Int32 → Nat → Int32 → Int32 → Int32 → Int32 → Int32 → Int32 → Int32 → Int32 → Int32 → Int32 → Int32 → (Nat → Int64) → (Nat → Int64) → (Nat → Int32) → Prop}
    (h : ∀ (q1 : Nat) (y2 y3 y4 y5 y6 y7 y8 y9 y10 y11 y12 : Int32) (dw lw : Nat → Int64) (s1 : Nat → Int32), post (zi (bothV tw vf wk d m fr to i what)) q1 y2 y3 y4 y5 y6 y7 y8 y9 y10 y11 y12 dw lw s1) :
    wp_X11_both pl (zi sl) (zA kd) wks false shw (zA ex) (zA nt) ww sw o1 o2 o3 o4 o5 o6 o7 o8 o9 o10 o11 o12 dw0 lw0 t1 (zi wk) (zi d) (zi m) (zi fr) (zi to) (zi i) (zi what) post := by
  have b6 := a6
  have b7 := a7
  simp only [ir] at b6 b7
  simp only [wp_X11_both]
  have e0 : ∀ x : Int32, (x < 0) = (x < zi 0) := fun x => rfl
  rw [e0, e0, zi_lt (by omega), zi_lt (by omega), show ((1 : Int32) < zi what) = (zi 1 < zi what) from rfl, zi_lt (by omega)]
  refine ⟨fun z => ?_, fun z => ⟨fun z2 => ?_, fun z2 => ⟨fun z3 => ?_, fun z3 => ?_⟩⟩⟩
  · rw [bothV, if_neg (fun y => by have := y.2.1; omega)] at h; exact h _ _ _ _ _ _ _ _ _ _ _ _ _ _ _
  · rw [bothV, if_neg (fun y => by have := y.2.2.1; omega)] at h; exact h _ _ _ _ _ _ _ _ _ _ _ _ _ _ _
  · rw [bothV, if_neg (fun y => by have := y.2.2.2; omega)] at h; exact h _ _ _ _ _ _ _ _ _ _ _ _ _ _ _
  refine p_ready C.1.1 C.1.2.2.1 C.1.2.2.2 a1 a2 a3 a4 a5 (fun t q dw hq hdw => ⟨fun z => absurd z (by decide), fun _ => ⟨_, _, _, _, _, _, hq, ?_⟩⟩) (fun t => ⟨fun _ => ?_, fun z => absurd rfl z⟩)
  case refine_2 =>
    rw [bothV, if_neg (fun y => t y.1)] at h
    exact h _ _ _ _ _ _ _ _ _ _ _ _ _ _ _
  rw [bothV, if_pos ⟨t, by omega, by omega, by omega⟩] at h
  have t' := t
  obtain ⟨t1', t2', t3', t4', t5'⟩ := t'
  have w := C.1.2.1 wk t1'.1.1 t1'.1.2 t1'.2
  have G := Gok_T (tw := tw) (sh := shC tw vf d) (c := snC tw vf d) (nw := 5) w.1 (snC_cB tw vf d)
  obtain ⟨c0, rfl, hc0⟩ := zi_ex o11
  refine p_seek6 C t hdw hc0 (fun a R L lw' y1 y2 y3 g1 g2 hL => ?_)
  have low : ∀ m' : Nat, (m' : Int) < m → ¬ impP (nxT tw (shC tw vf d) (tw (383 + 7 * wk))) (csT (snC tw vf d) (tw (383 + 7 * wk))) to (100 * m + fr) m' := by
    rintro m' hm' ⟨ws, c, x, -⟩
    have := pt_rng G ws _ _ c (by omega) (by omega) x
    omega
  have cnt0 := cnt_imp (to := to) G t3' t4'.1 t5'.1 m.toNat (by omega)
  refine ⟨fun z => ?_, fun z => ?_⟩
  · have har : a ≠ -1 := fun y => z (by rw [if_pos y])
    obtain ⟨g3, g4⟩ := g2 har
    refine p_arrivalNumber hL t5'.1 t3' (by omega) g3 cnt0 low (fun T hT => ?_)
    have eT := nthC_eq hT
    rw [← eT] at h
    have Tr : -1 ≤ T ∧ T < 120 := by rcases hT with z | z <;> omega
    simp (disch := omega) only [zi_lit, zi_neg, zi_eq]
    refine ⟨fun z => ?_, fun z => ⟨fun y => ?_, fun y => ?_⟩⟩
    · rw [if_pos (Or.inl z)] at h; exact h _ _ _ _ _ _ _ _ _ _ _ _ _ _ _
    · have T0 : 0 ≤ T := by omega
      refine p_reached ⟨T0, Tr.2⟩ t5'.1 ?_
      have hl : L (100 * T + to) = true := by
        rcases hT with x | x
        · exact absurd x.1 z
        · exact (g3 T T0 Tr.2).mpr x.2.2.1
      rw [g4 T T0 Tr.2 hl]
      rw [if_neg (by omega)] at h
      exact h _ _ _ _ _ _ _ _ _ _ _ _ _ _ _
    · rw [if_pos (Or.inr y)] at h; exact h _ _ _ _ _ _ _ _ _ _ _ _ _ _ _
  · have har : a = -1 := Classical.byContradiction (fun y => absurd z (by rw [if_neg y]; decide))
    have g3 := g1 har
    have eT := nthC_eq (P := impP (nxT tw (shC tw vf d) (tw (383 + 7 * wk))) (csT (snC tw vf d) (tw (383 + 7 * wk))) to (100 * m + fr)) (i := i) (T := -1) (Or.inl ⟨rfl, fun m' hm' hp' => absurd hp' (g3 m' (by omega) (by omega))⟩)
    rw [← eT, if_pos (Or.inl rfl)] at h
    exact h _ _ _ _ _ _ _ _ _ _ _ _ _ _ _
/-- the least so far -/
def lsE (R : Int → Int) (to m b l : Int) : Prop := l = 1000000 ∨ ∃ m'', m ≤ m'' ∧ m'' < b ∧ R (100 * m'' + to) = l
theorem p_bothR (hT : twR tw) (hW : wkOk tw) (hC : clR tw op arg vf) {sd : Int} {sy sn shA c0 : Int → Int} (hD : dayI tw vf sd sy sn shA) (hc0 : i32 c0) {wk d m fr to i what : Int} (a1 : ir wk) (a2 : ir d) (a3 : ir m) (a4 : ir fr) (a5 : ir to) (a6 : ir i) (a7 : ir what) {th : Int32} {facts pile t1 : Nat → Int32} {post : Int32 → Int32 → Int32 → (Nat → Int32) → (Nat → Int32) → (Nat → Int32) → (Nat → Int32) → (Nat → Int32) → (Nat → Int32) → (Nat → Int32) → Prop}
    (h : ∀ (sd' : Int) (sy' sn' shA' c' : Int → Int) (f p r : Nat → Int32), dayI tw vf sd' sy' sn' shA' → i32 c' → post (zi (bothV tw vf wk d m fr to i what)) 0 (zi sd') (zA sy') (zA sn') (zA shA') f p (zA c') r) :
    wp_X12_both_ (zA tw) op arg th (zi sd) (zA sy) (zA sn) (zA shA) facts pile (zA c0) t1 (zi wk) (zi d) (zi m) (zi fr) (zi to) (zi i) (zi what) post := by
  have b6 := a6
  have b7 := a7
  simp only [ir] at b6 b7
  simp only [wp_X12_both_]
  refine p_isTrip hT.1 a1 a2 a3 a4 a5 (fun t => ⟨fun z => absurd z (by decide), fun _ => ?_⟩) (fun t => ⟨fun _ => ?_, fun z => absurd rfl z⟩)
  case refine_2 =>
    rw [bothV, if_neg (fun y => t y.1)] at h
    exact h _ _ _ _ _ _ _ _ hD hc0
  rw [show (zi i < 0) = (zi i < zi 0) from rfl, zi_lt (by omega)]
  refine ⟨fun z => ?_, fun hi0 => ?_⟩
  · rw [bothV, if_neg (fun y => by have := y.2.1; omega)] at h
    exact h _ _ _ _ _ _ _ _ hD hc0
  rw [show (0 : Int32) = zi 0 from rfl, show (1 : Int32) = zi 1 from rfl]
  refine p_within a7 (by omega) (by omega) (fun hw => ⟨fun _ => ?_, fun z => absurd z (by decide)⟩) (fun hw => ⟨fun z => absurd rfl z, fun _ => ?_⟩)
  case refine_2 =>
    rw [bothV, if_neg (fun y => hw y.2.2)] at h
    exact h _ _ _ _ _ _ _ _ hD hc0
  rw [bothV, if_pos ⟨t, by omega, by omega, by omega⟩] at h
  have t' := t
  obtain ⟨t1', t2', t3', t4', t5'⟩ := t'
  have w := hW wk t1'.1.1 t1'.1.2 t1'.2
  refine p_reachesSun hT hW hC hD hc0 t1' t2' t3' t4'.1 (by omega) (fun sy' sn' shA' c R f p hD' hc hR hRc => ?_)
  replace h := fun T (hA : nthA (impP (nxT tw (shC tw vf d) (tw (383 + 7 * wk))) (csT (snC tw vf d) (tw (383 + 7 * wk))) to (100 * m + fr)) i T) => nthC_eq hA ▸ h d sy' sn' shA' c f p (zA R) hD' hc
  have G := Gok_T (tw := tw) (sh := shC tw vf d) (c := snC tw vf d) (nw := 5) w.1 (snC_cB tw vf d)
  have early : ∀ ws m' c, pt (nxT tw (shC tw vf d) (tw (383 + 7 * wk))) (csT (snC tw vf d) (tw (383 + 7 * wk))) 5 to ws (100 * m + fr) (100 * m' + to) c → m ≤ m' ∧ 0 ≤ c ∧ c ≤ 119000 := fun ws m' c q => by have := pt_rng G ws _ _ _ (by omega) (by omega) q; omega
  have cnt0 := cnt_imp (to := to) G t3' t4'.1 t5'.1 m.toNat (by omega)
  generalize hnx : nxT tw (shC tw vf d) (tw (383 + 7 * wk)) = nx at *
  generalize hcs : csT (snC tw vf d) (tw (383 + 7 * wk)) = cs at *
  have low : ∀ m' : Nat, (m' : Int) < m → ¬ impP nx cs to (100 * m + fr) m' := by
    rintro m' hm' ⟨ws, c, x, -⟩
    have := early ws m' c x
    omega
  have Rn : ∀ m', 0 ≤ m' → m' < 120 → 0 ≤ R (100 * m' + to) ∧ R (100 * m' + to) ≤ 1000000 := by
    intro m' a b
    have q := hRc (100 * m' + to) (by omega) (by omega)
    refine ⟨?_, q.2.2⟩
    by_cases z : R (100 * m' + to) < 1000000
    · obtain ⟨ws, x⟩ := q.1 z; have := early ws m' _ x; omega
    · omega
  have imp : ∀ m' l, m ≤ m' → m' < 120 → (l ≤ 1000000 ∧ lsE R to m m' l ∧ ∀ m'', m ≤ m'' → m'' < m' → l ≤ R (100 * m'' + to)) → (R (100 * m' + to) < l ↔ impP nx cs to (100 * m + fr) m') := by
    intro m' l x y ⟨z1, z2, z3⟩
    have q := hRc (100 * m' + to) (by omega) (by omega)
    constructor
    · intro lt
      obtain ⟨ws, u⟩ := q.1 (by omega)
      refine ⟨ws, _, u, fun ws' m'' c' a b v => ?_⟩
      have e := early ws' m'' c' v
      have := z3 m'' e.1 b
      have := (hRc (100 * m'' + to) (by omega) (by omega)).2.1 ws' c' v
      omega
    · rintro ⟨ws, c', u, v⟩
      have := q.2.1 ws c' u
      have e := early ws m' c' u
      rcases z2 with z2 | ⟨m'', k1, k2, k3⟩
      · omega
      · by_cases zz : R (100 * m'' + to) < 1000000
        · obtain ⟨ws', u'⟩ := (hRc (100 * m'' + to) (by omega) (by omega)).1 zz
          have := v ws' m'' _ (by omega) k2 u'
          omega
        · omega
  refine lp_inv (fun j s' => ∃ l : Int, s' = (zi 0, zi d, zA sy', zA sn', zA shA', f, p, zA c, zA R, zi to, zi i, zi what, zi l, zi (cntC (impP nx cs to (100 * m + fr)) (m.toNat + j)), zi (m + j)) ∧ (0 ≤ l ∧ l ≤ 1000000) ∧ lsE R to m (m + j) l ∧ (∀ m'', m ≤ m'' → m'' < m + j → l ≤ R (100 * m'' + to)) ∧ cntC (impP nx cs to (100 * m + fr)) (m.toNat + j) ≤ i ∧ ∀ m' : Nat, (m' : Int) < m + j → impP nx cs to (100 * m + fr) m' → cntC (impP nx cs to (100 * m + fr)) m' ≠ i) (120 - m).toNat ?_ ?_ 0 (Nat.zero_le _) ⟨1000000, by simp [cnt0]; rfl, by omega, Or.inl rfl, fun m'' x y => by omega, by simp [cnt0]; omega, fun m' hm' hp' => absurd hp' (low m' (by omega))⟩
  · rintro s' ⟨l, rfl, h1, h2, h3, h4, h5⟩ kb
    simp (disch := omega) only [wp_X12_both__L58, zi_lit, zi_le]
    refine ⟨fun _ => ?_, fun z => by omega⟩
    have := h (-1) (Or.inl ⟨rfl, fun m' hm' hp' => h5 m' (by omega) hp'⟩)
    rw [if_pos (Or.inl rfl)] at this
    exact this
  · rintro j hj s' ⟨l, rfl, h1, h2, h3, h4, h5⟩ kb hkb
    have cr := cntC_rng (impP nx cs to (100 * m + fr)) (m.toNat + j)
    have ej : ((m.toNat + j : Nat) : Int) = m + j := by omega
    have ec : cntC (impP nx cs to (100 * m + fr)) (m.toNat + (j + 1)) = cntC (impP nx cs to (100 * m + fr)) (m.toNat + j) + @ite Int (impP nx cs to (100 * m + fr) ((m.toNat + j : Nat) : Int)) (Classical.propDecidable _) 1 0 := rfl
    rw [ej] at ec
    have hni : m + ((j + 1 : Nat) : Int) = m + j + 1 := by omega
    have hk := imp (m + j) l (by omega) (by omega) ⟨h1.2, h2, h3⟩
    have rr := Rn (m + j) (by omega) (by omega)
    simp (disch := omega) only [wp_X12_both__L58, forall_eq, zi_lit, zi_mul, zi_add, zi_le, zi_eq, zi_in, zA_get]
    refine ⟨fun z => by omega, fun _ => ⟨by omega, fun z => ?_, fun z => ⟨by omega, fun y => ?_, fun y => ?_⟩⟩⟩
    · have np : ¬ impP nx cs to (100 * m + fr) (m + j) := fun x => by have := hk.mpr x; omega
      rw [if_neg np] at ec
      refine hkb _ ⟨l, by rw [ec, hni, Int.add_zero], h1, ?_, fun m'' x y => ?_, by omega, fun m' hm' hp' => ?_⟩
      · rcases h2 with x | ⟨m'', x1, x2, x3⟩
        · exact Or.inl x
        · exact Or.inr ⟨m'', x1, by omega, x3⟩
      · by_cases q : m'' = m + j
        · rw [q]; exact z
        · exact h3 m'' x (by omega)
      · by_cases q : (m' : Int) = m + j
        · rw [q] at hp'; exact absurd hp' np
        · exact h5 m' (by omega) hp'
    · have pp := hk.mp (by omega)
      rw [if_pos pp] at ec
      refine hkb _ ⟨R (100 * (m + j) + to), by rw [ec, hni], by omega, Or.inr ⟨m + j, by omega, by omega, rfl⟩, fun m'' x y => ?_, by omega, fun m' hm' hp' => ?_⟩
      · by_cases q : m'' = m + j
        · rw [q]; exact Int.le_refl _
        · have := h3 m'' x (by omega); omega
      · by_cases q : (m' : Int) = m + j
        · have em : m' = m.toNat + j := by omega
          rw [em]; omega
        · exact h5 m' (by omega) hp'
    · have pp := hk.mp (by omega)
      have hA : nthA (impP nx cs to (100 * m + fr)) i (m + j) := Or.inr ⟨by omega, by omega, pp, by rw [show (m + (j : Int)).toNat = m.toNat + j by omega]; omega⟩
      have fin := h (m + j) hA
      rw [← rcC_eq (hRc (100 * (m + j) + to) (by omega) (by omega))] at fin
      refine ⟨fun x => ?_, fun x => ?_⟩
      · rw [if_neg (by omega)] at fin; exact fin
      · rw [if_pos (Or.inr x)] at fin; exact fin
end B3
