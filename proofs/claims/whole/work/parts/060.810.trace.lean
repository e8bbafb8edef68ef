/-! the class's traceWay -/
theorem p_add {n : Nat} (hn : n < 1000000) {f : Int → Int} {z x : Int} (hz : 0 ≤ z ∧ z ≤ n) {post : Int32 → Int32 → (Nat → Int32) → Prop} (h1 : z < n → post 1 (zi (z + 1)) (zA (upI f z x))) (h0 : z = n → post 0 (zi z) (zA f)) : wp_X0_add n (zi z) (zA f) (zi x) post := by
  simp (disch := omega) only [wp_X0_add, nI_zi n, forall_eq, zi_lit, zi_lt, zi_add]
  refine ⟨fun q => by omega, fun _ => ⟨fun q => ?_, fun q => h0 (by omega)⟩⟩
  rw [zi_in (by omega), zA_upd (by omega)]
  exact ⟨by omega, h1 q⟩
theorem p_at {n : Nat} (hn : n < 1000000) {f : Int → Int} {z i : Int} (hz : 0 ≤ z ∧ z ≤ n) (hi : -2147483648 ≤ i ∧ i < 2147483648) {post : Int32 → Prop} (h1 : 0 ≤ i → i < z → post (zi (f i))) (h0 : ¬ (0 ≤ i ∧ i < z) → post (-1)) : wp_X0_at n (zi z) (zA f) (zi i) post := by
  simp (disch := omega) only [wp_X0_at, nI_zi n, zi_lit, zi_neg, zi_lt, zi_le]
  refine ⟨fun q => h0 (by omega), fun q => ⟨fun r => h0 (by omega), fun r => ⟨fun s => ?_, fun s => by omega⟩⟩⟩
  rw [zi_in (by omega), zA_get (by omega)]
  exact ⟨by omega, h1 (by omega) (by omega)⟩
section TR
variable {eb : Bool} {day to hot cool wt aims : Int} {dw : Nat → Int64} {ex nt tw sh : Int → Int} {sl : Int} {ww sw gw lw : Nat → Int64} {p bears mends en nw lim : Int}
theorem p_lengthOf {w : Int} (hw : -2147483648 ≤ w ∧ w < 2147483648) {post : Int32 → Prop} (h : post (zi (plen w p))) : wp_X9_lengthOf (zi p) (zi w) post := by
  simp (disch := omega) only [wp_X9_lengthOf, zi_lit, zi_eq]
  refine ⟨fun q => ?_, fun q => ?_⟩
  · rw [plen, if_neg q] at h; exact h
  · rw [plen, if_pos q] at h; exact h
theorem p_goPiece {nt tw : Int → Int} (hnt : ntR nt tw) (hnti : i32 nt) (hp : 1 ≤ p ∧ p ≤ 3) {m s w z : Int} {f g : Int → Int} (hm : 0 ≤ m ∧ m + plen w p ≤ 120) (hs : 0 ≤ s ∧ s < 100) (hw : 0 ≤ w ∧ w ≤ 4) (hz : 0 ≤ z ∧ z < 120) {post : Int32 → Int32 → (Nat → Int32) → Int32 → (Nat → Int32) → Prop} (h : post (zi (m + plen w p)) (zi (if w = 4 then s else if stp s w = -1 ∨ tw (stp s w) = 1 then -1 else stp s w)) (zA (flA f m (m + plen w p) s)) (zi (z + 1)) (zA (upI g z w))) : wp_X9_goPiece (zA nt) (zi p) (zi m) (zi s) (zA f) (zi z) (zA g) (zi w) post := by
  have hl := plen_rng (w := w) hp
  simp only [wp_X9_goPiece]
  refine p_lengthOf (by omega) ?_
  have e : (if (0 : Int32) < zi m then zi m else 0) = zi m := by
    by_cases q : 0 < m
    · rw [if_pos (by rw [zi_lit, zi_lt (by omega)]; exact q)]
    · rw [if_neg (by rw [zi_lit, zi_lt (by omega)]; exact q), show m = 0 by omega]; rfl
  simp only [forall_eq, e, zi_add]
  refine lp_for0 (fun i => (zi m, zi s, zA (flA f m (m + i) s), zi z, zA g, zi w, zi (m + plen w p), zi (m + i))) (plen w p).toNat (by simp [flA_0]) (fun kb => ?_) (fun i hi kb hkb => ?_)
  · have e2 : m + (((plen w p).toNat : Nat) : Int) = m + plen w p := by omega
    simp only [e2]
    simp (disch := omega) only [wp_X9_goPiece_L20, zi_le]
    refine ⟨fun _ => ?_, fun q => absurd (Int.le_refl _) q⟩
    simp (disch := omega) only [wp_X9_goPiece_b47, wp_X9_goPiece_b77, zi_lit, zi_eq]
    refine ⟨fun q => ?_, fun q => ?_⟩
    · rw [if_neg q] at h
      refine p_nextTo hnt hnti hs (by omega) ?_
      exact p_add (by decide) (by omega) (fun _ => h) (fun r => by omega)
    · rw [if_pos q] at h
      exact p_add (by decide) (by omega) (fun _ => h) (fun r => by omega)
  · have e3 : m + ((i + 1 : Nat) : Int) = m + i + 1 := by omega
    simp only [e3] at hkb
    simp (disch := omega) only [wp_X9_goPiece_L20, forall_eq, zi_lit, zi_add, zi_sub, zi_mul, zi_neg, zi_lt, zi_le, zi_eq, zi_div, zi_rem, zi_in, zA_get, zA_upd]
    refine ⟨fun q => by omega, fun _ => ⟨fun q => by omega, fun _ => ⟨by omega, ?_⟩⟩⟩
    rw [flA_up (by omega)]
    exact hkb
theorem p_beginWay {fi fr : Int} {x1 x2 x3 : Int32} {f : Int → Int} {post : Int32 → Int32 → Int32 → (Nat → Int32) → Prop} (h : post (zi fi) (zi fr) (zi 0) (zA (flA f 0 120 (-1)))) : wp_X9_beginWay (zi fi) (zi fr) x1 x2 x3 (zA f) post := by
  simp only [wp_X9_beginWay, wp_X0_empty]
  rw [show (-1 : Int32) = zi (-1) from rfl]
  exact p_fillI (by decide) h
/-- the first piece that fits -/
theorem p_firstPiece (A : Ask day to hot cool wt aims ex nt tw sh sl sw p bears mends en) (ha : aims ≠ 3) {La : Int → Int} {m s T w lo : Int} (hL : laR lo T La) (hlo : lo ≤ m) (hmT : m ≤ T) (hm : 0 ≤ m ∧ m < 120) (hs : 0 ≤ s ∧ s < 100) (hT : 0 ≤ T ∧ T ≤ 119) (hw : 0 ≤ w ∧ w ≤ 4)
    (hf : ∀ v, 0 ≤ v → v < w → ¬ (lbh (nxT tw sh p) T La (100 * m + s) v < 268435456 ∧ lbh (nxT tw sh p) T La (100 * m + s) v + 128 * csm (costF eb hot cool dw ex) m s p.toNat = La (100 * m + s))) (hg : w < 4 → lbh (nxT tw sh p) T La (100 * m + s) w < 268435456 ∧ lbh (nxT tw sh p) T La (100 * m + s) w + 128 * csm (costF eb hot cool dw ex) m s p.toNat = La (100 * m + s)) {post : Int32 → Prop} (h : post (zi w)) : wp_X9_firstPiece eb (zi day) (zi hot) (zi cool) (zi aims) (zi m) (zi s) (zA La) dw (zA ex) (zA nt) (zi sl) sw (zi p) (zi bears) (zi mends) (zi T) post := by
  have hp := A.2.2.2.2.2.2.2.2.2.2.2.1
  have hnk : ∀ w, 0 ≤ nxT tw sh p (100 * m + s) w → nxT tw sh p (100 * m + s) w < 12000 := fun w z => (nxT_ok hp (by omega) (by omega) z).1
  have hnl : ∀ w, 0 ≤ nxT tw sh p (100 * m + s) w → 100 * lo ≤ nxT tw sh p (100 * m + s) w := fun w z => by have := nxT_ok hp (show 0 ≤ 100 * m + s by omega) (show 100 * m + s < 12000 by omega) z; omega
  have hLk := hL (100 * m + s) (by omega) (by omega)
  have hcs := csm_all (cost_all (eb := eb) (dw := dw) A.2.2.1 A.2.2.2.1 A.2.2.2.2.2.2.1) (m := m) (s := s) p.toNat
  simp only [wp_X9_firstPiece]
  refine p_labelled (by omega) (by omega) ?_
  rw [if_pos (by omega)]
  refine p_spent A ha (by omega) (by omega) hs ?_
  simp only [forall_eq, zi_lit, zi_mul]
  have bi : ∀ i, 0 ≤ lbh (nxT tw sh p) T La (100 * m + s) i ∧ lbh (nxT tw sh p) T La (100 * m + s) i ≤ 268435456 := by
    intro i
    rw [lbh]
    split
    · next q => have := hL _ (hnl _ q.1) (by omega); omega
    · omega
  refine lp_for0 (fun i => (zi T, zi (La (100 * m + s)), zi (128 * csm (costF eb hot cool dw ex) m s p.toNat), zi i)) w.toNat rfl (fun kb => ?_) (fun i hi kb hkb => ?_)
  · have ew : ((w.toNat : Nat) : Int) = w := by omega
    simp only [ew]
    simp (disch := omega) only [wp_X9_firstPiece_L40, zi_lit, zi_le]
    refine ⟨fun q => ?_, fun q => ?_⟩
    · rw [show (4 : Int) = w by omega]; exact h
    · refine p_labelBehind A (by omega) hs (by omega) (by omega) ?_
      have b := bi w
      have g := hg (by omega)
      simp (disch := omega) only [zi_le, zi_add, zi_eq]
      exact ⟨fun z => by omega, fun _ => ⟨fun z => absurd g.2 z, fun _ => h⟩⟩
  · simp (disch := omega) only [wp_X9_firstPiece_L40, zi_lit, zi_le]
    refine ⟨fun q => by omega, fun _ => ?_⟩
    refine p_labelBehind A (by omega) hs (by omega) (by omega) ?_
    have b := bi i
    have nf := hf i (by omega) (by omega)
    simp (disch := omega) only [zi_le, zi_add, zi_eq, forall_eq]
    refine ⟨fun z => hkb, fun z => ⟨fun y => hkb, fun y => absurd ⟨by omega, y⟩ nf⟩⟩
theorem p_traceWay (A : Ask day to hot cool wt aims ex nt tw sh sl sw p bears mends en) (ha : aims ≠ 3) (hto : 0 ≤ to ∧ to < 100) {fi fr bym : Int} (hf : 0 ≤ fi ∧ fi < 120) (hfr : 0 ≤ fr ∧ fr < 100) (ht : tw fr ≠ 1) (hb : bym ≤ 119) {lc le : Int → Int} (hB : ∀ k, 0 ≤ k → k < 12000 → tw (k % 100) ≠ 1 → Bst (nxT tw sh p) (csT (costF eb hot cool dw ex) p) 5 to bym k (lc k) (le k)) {q : Sst} (hl : lim ≤ 268435455) (hF : Fnd tw (nxT tw sh p) (csT (costF eb hot cool dw ex) p) 5 to bym (100 * fi + fr) lim p q) (har : q.2.2.1 ≠ -1) {La : Int → Int} (hL : laR fi q.2.2.1 La)
    (hLa : ∀ j, 0 ≤ j → j < 12000 → fi ≤ j / 100 → j / 100 ≤ q.2.2.1 → (q.2.2.2.2 j = true → laO (nxT tw sh p) (csT (costF eb hot cool dw ex) p) q.2.2.2.2 to q.2.2.1 La j) ∧ (q.2.2.2.2 j = false → La j = 268435456)) {x2 x3 : Int32} {t1 t2 : Nat → Int32} {post : Int32 → Int32 → Int32 → (Nat → Int32) → (Nat → Int32) → Prop}
    (h : ∀ (ws : List Int) (f g : Int → Int), fwy (nxT tw sh p) (csT (costF eb hot cool dw ex) p) 5 to lc le ws (100 * fi + fr) → (ws.length : Int) ≤ 119 - fi → i32 f → i32 g → (∀ j, 0 ≤ j → j < 120 → f j = pth (nxT tw sh p) ws (100 * fi + fr) j) → (∀ j, 0 ≤ j → j < (ws.length : Int) → g j = ws.getD j.toNat 0) → post (zi q.2.2.1) (zi to) (zi ws.length) (zA f) (zA g)) :
    wp_X9_traceWay eb (zi day) (zi fi) (zi fr) (zi to) (zi hot) (zi cool) (zi aims) (zA La) dw (zA ex) (zA nt) (zi sl) sw (zi p) (zi bears) (zi mends) (zi q.2.2.1) x2 x3 t1 t2 post := by
  have hp := A.2.2.2.2.2.2.2.2.2.2.2.1
  have hcB : cB (costF eb hot cool dw ex) := cB_cost A.2.2.1 A.2.2.2.1 A.2.2.2.2.2.2.1
  have G := Gok_T (tw := tw) (sh := sh) (nw := 5) hp hcB
  have Gt : Gv (nxT tw sh p) 5 to p := Gv_T hp
  have O := okN_T (to := to) (bym := bym) (nw := 5) (sh := sh) (c := costF eb hot cool dw ex) (lc := lc) (le := le) hp hB
  have hnd : ndT tw (100 * fi + fr) := ⟨by omega, by omega, by rwa [show (100 * fi + fr) % 100 = fr by omega]⟩
  obtain ⟨c1, c2, c3, hT, hop⟩ := opt_label hp G Gt hto hf hfr hb O hnd hF hl har hLa
  obtain ⟨ws, hws, hlen⟩ := fwy_ex G O 120 (100 * fi + fr) hnd c3 (by omega)
  rw [show (100 * fi + fr) / 100 = fi by omega] at hlen
  replace h := fun f g => h ws f g hws hlen
  obtain ⟨f0, rfl, i0⟩ := zA_ex t1
  obtain ⟨g0, rfl, ig0⟩ := zA_ex t2
  simp only [wp_X9_traceWay]
  refine p_beginWay ?_
  generalize hTg : q.2.2.1 = T at *
  generalize hk0 : 100 * fi + fr = k0 at *
  have hopt : ∀ i : Nat, i ≤ ws.length → Opt (nxT tw sh p) (csT (costF eb hot cool dw ex) p) to k0 q.2.1 T lc le (ndT tw) (nod (nxT tw sh p) ws k0 i) := by
    intro i
    induction i with
    | zero => intro _; rw [nod_0]; exact ⟨hnd, c3, c2, [], 0, ⟨rfl, rfl⟩, by omega⟩
    | succ i ih =>
      intro hi
      obtain ⟨a1, a2, a3, a4, a5⟩ := fwy_at O ws k0 i hnd hws (by omega)
      rw [a5]
      exact Opt_next G O (ih (by omega)) a2 a3
  refine lp_inv (fun i s' => ∃ f g : Int → Int, s' = (zi (nod (nxT tw sh p) ws k0 i / 100), zi (nod (nxT tw sh p) ws k0 i % 100), zi i, zA f, zA g, zi T, zi i) ∧ i32 f ∧ i32 g ∧ (∀ j, 0 ≤ j → j < 120 → f j = if j < nod (nxT tw sh p) ws k0 i / 100 then pth (nxT tw sh p) ws k0 j else -1) ∧ (∀ j, 0 ≤ j → j < (i : Int) → g j = ws.getD j.toNat 0)) ws.length ?_ ?_ 0 (Nat.zero_le _) ?_
  · rintro s' ⟨f, g, rfl, j1, j2, j3, j4⟩ kb
    have he := fwy_end ws k0 hws
    have ol := hopt ws.length (Nat.le_refl _)
    have ob := O.1 _ ol.1
    have nn := Bst_nn G ob.1 ob.2.1 ob.2.2 ol.2.1
    have bb := ob.2.2.2.1 [] _ 0 ⟨rfl, rfl⟩ he (by have := hop _ ol; omega)
    have oT := ol.2.2.1
    have hme : nod (nxT tw sh p) ws k0 ws.length / 100 = T := by omega
    have fin := h f g j1 j2 (fun j a1 a2 => by
      rw [j3 j a1 a2]
      split
      · rfl
      · exact ((pth_late G O ws k0 j hnd hws (by omega)).1).symm) j4
    simp (disch := omega) only [wp_X9_traceWay_L11, zi_lit, zi_le, zi_eq]
    rw [hme, he]
    exact ⟨fun z => by omega, fun _ => ⟨fun _ => fin, fun z => absurd rfl z⟩⟩
  · rintro i hi s' ⟨f, g, rfl, j1, j2, j3, j4⟩ kb hkb
    have hni : ((i + 1 : Nat) : Int) = (i : Int) + 1 := by omega
    obtain ⟨a1, a2, a3, a4, a5⟩ := fwy_at O ws k0 i hnd hws hi
    have oi := hopt i (by omega)
    have o2 := hopt (i + 1) (by omega)
    have hpa := fun r => pth_at G O ws k0 r i hnd hws hi
    rw [a5] at hpa o2
    generalize hk : nod (nxT tw sh p) ws k0 i = k at *
    generalize hw : ws.getD i 0 = w at *
    have k1 := a1.1
    have k2 := a1.2.1
    have g1 := G k w k1 k2 a3.1 a3.2.1 a3.2.2.1
    have n2 := hop _ o2
    have n1 := hop _ oi
    have nk := nxT_ok hp k1 k2 a3.2.2.1
    have ek : 100 * (k / 100) + k % 100 = k := by omega
    have w0 := a3.1
    have w5 := a3.2.1
    have piece := fun v v0 v1 => opt_piece (fi := fi) (D := q.2.2.2.2) (w := v) G O ⟨hT.1, hT.2, hb⟩ hop hLa oi a2 v0 v1
    have hcsv : ∀ v, v ≠ 4 → csT (costF eb hot cool dw ex) p k v = csm (costF eb hot cool dw ex) (k / 100) (k % 100) p.toNat := fun v hv => by rw [csT, cst, plen, if_neg hv]
    simp (disch := omega) only [wp_X9_traceWay_L11, zi_lit, zi_le, zi_eq]
    refine ⟨fun z => by omega, fun _ => ⟨fun z => absurd z a2, fun _ => ⟨fun z => by omega, fun _ => ?_⟩⟩⟩
    refine p_firstPiece (w := w) A ha hL (by omega) (by omega) (by omega) (by omega) (by omega) (by omega) (fun v v0 v1 z => ?_) (fun w4 => ?_) ?_
    · rw [ek, ← hcsv v (by omega)] at z
      exact a4 v v0 v1 ((piece v v0 (by omega)).mpr z)
    · rw [ek, ← hcsv w (by omega)]
      exact (piece w w0 w5).mp a3
    · refine p_goPiece A.2.2.2.2.2.2.2.2.1 A.2.2.2.2.2.2.2.1 hp (by omega) (by omega) (by omega) (by omega) ?_
      have em : k / 100 + plen w p = nxT tw sh p k w / 100 := by omega
      have es : (if w = 4 then k % 100 else if stp (k % 100) w = -1 ∨ tw (stp (k % 100) w) = 1 then -1 else stp (k % 100) w) = nxT tw sh p k w % 100 := by
        have hb2 := bhd_rng (tw := tw) (sh := sh) (w := w) hp (show 0 ≤ k / 100 ∧ k / 100 < 120 by omega) (show 0 ≤ k % 100 ∧ k % 100 < 100 by omega)
        have h3 := a3.2.2.1
        have e3 : nxT tw sh p k w = bhd tw sh p (k / 100) (k % 100) w := rfl
        rw [e3] at h3 ⊢
        rcases hb2 with z | ⟨z1, z2, z3, z4, z5⟩
        · omega
        · rw [z4] at z5 ⊢
          by_cases q4 : w = 4
          · rw [if_pos q4, if_pos q4]
          · rw [if_neg q4] at z4 z5 ⊢
            rw [if_neg q4, if_neg]
            intro r
            rcases r with r | r
            · omega
            · exact z5 r
      rw [em, es]
      simp only [forall_eq, zi_lit, zi_add]
      refine hkb _ ⟨_, _, by rw [a5, hni], ?_, i32_up j2 (by omega), fun j b1 b2 => ?_, fun j b1 b2 => ?_⟩
      · intro j
        by_cases hc : k / 100 ≤ j ∧ j < nxT tw sh p k w / 100
        · rw [flA_in hc]; omega
        · rw [flA_out hc]; exact j1 j
      · rw [a5]
        by_cases hc : k / 100 ≤ j ∧ j < nxT tw sh p k w / 100
        · rw [flA_in hc, if_pos hc.2, hpa j hc.1 hc.2]
        · rw [flA_out hc, j3 j b1 b2]
          by_cases hlt : j < k / 100
          · rw [if_pos hlt, if_pos (by omega)]
          · rw [if_neg hlt, if_neg (by omega)]
      · by_cases hj : j = i
        · subst hj; rw [upI_s, ← hw]; simp
        · rw [upI_n hj]; exact j4 j b1 (by omega)
  · refine ⟨flA f0 0 120 (-1), g0, by rw [nod_0, show k0 / 100 = fi by omega, show k0 % 100 = fr by omega]; rfl, ?_, ig0, fun j a1 a2 => ?_, fun j a1 a2 => by omega⟩
    · intro j
      by_cases hc : 0 ≤ j ∧ j < 120
      · rw [flA_in hc]; decide
      · rw [flA_out hc]; exact i0 j
    · rw [flA_in ⟨a1, a2⟩, nod_0]
      split
      · exact (pth_early G O ws k0 j hnd hws (by omega)).symm
      · rfl
end TR
