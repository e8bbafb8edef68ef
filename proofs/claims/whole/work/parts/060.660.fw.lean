/-! the reference's findWay -/
section FW
variable {tw sh c : Int → Int} {p to bym : Int}
def ndT (tw : Int → Int) (k : Int) : Prop := 0 ≤ k ∧ k < 12000 ∧ tw (k % 100) ≠ 1
theorem okN_T (hp : 1 ≤ p ∧ p ≤ 3) {nw : Int} {lc le : Int → Int} (hB : ∀ k, 0 ≤ k → k < 12000 → tw (k % 100) ≠ 1 → Bst (nxT tw sh p) (csT c p) nw to bym k (lc k) (le k)) : okN (nxT tw sh p) (csT c p) nw to bym lc le (ndT tw) := by
  refine ⟨fun k hk => ⟨hk.1, hk.2.1, hB k hk.1 hk.2.1 hk.2.2⟩, fun k w hk w0 w1 w2 => ?_⟩
  have hk1 := hk.1
  have hk2 := hk.2.1
  have := bhd_rng (tw := tw) (sh := sh) (w := w) hp (show 0 ≤ k / 100 ∧ k / 100 < 120 by omega) (show 0 ≤ k % 100 ∧ k % 100 < 100 by omega)
  simp only [nxT] at w2 ⊢
  rcases this with h | h
  · omega
  · exact ⟨h.1, h.2.1, h.2.2.2.2⟩
theorem p_findWay (hp : 1 ≤ p ∧ p ≤ 3) (hto : 0 ≤ to ∧ to < 100) (htw : i32 tw) (hsh : i32 sh) (hc : cB c) {lc le : Int → Int} (hlc : i32 lc) (hle : i32 le) (hB : ∀ k, 0 ≤ k → k < 12000 → tw (k % 100) ≠ 1 → Bst (nxT tw sh p) (csT c p) 5 to bym k (lc k) (le k)) {m s : Int} (hm : 0 ≤ m ∧ m < 120) (hs : 0 ≤ s ∧ s < 100) (hst : tw s ≠ 1) (hl : lc (100 * m + s) < 1000000) {w1 : Int32} {t1 t2 : Nat → Int32} {post : Int32 → (Nat → Int32) → (Nat → Int32) → Prop}
    (h : ∀ (ws : List Int) (f g : Int → Int), fwy (nxT tw sh p) (csT c p) 5 to lc le ws (100 * m + s) → (ws.length : Int) ≤ 119 - m → i32 f → i32 g → (∀ j, 0 ≤ j → j < 120 → f j = pth (nxT tw sh p) ws (100 * m + s) j) → (∀ j, 0 ≤ j → j < (ws.length : Int) → g j = ws.getD j.toNat 0) → post (zi ws.length) (zA f) (zA g)) :
    wp_X12_findWay (zA tw) (zA sh) (zA le) (zA c) (zA lc) w1 t1 t2 (zi m) (zi s) (zi to) (zi p) post := by
  have G : Gok (nxT tw sh p) (csT c p) 5 := Gok_T hp hc
  have O := okN_T (to := to) (bym := bym) (nw := 5) (sh := sh) (c := c) (lc := lc) (le := le) hp hB
  have hnd : ndT tw (100 * m + s) := ⟨by omega, by omega, by rwa [show (100 * m + s) % 100 = s by omega]⟩
  obtain ⟨ws, hws, hlen⟩ := fwy_ex G O 120 (100 * m + s) hnd hl (by omega)
  rw [show (100 * m + s) / 100 = m by omega] at hlen
  replace h := fun f g => h ws f g hws hlen
  simp only [wp_X12_findWay]
  refine lp_inv (fun i s' => ∃ f g : Int → Int, s' = (0, zA f, zA g, zi m, zi s, zi to, zi p, zi i) ∧ i32 f ∧ i32 g ∧ ∀ j, 0 ≤ j → j < (i : Int) → f j = -1) 120 ?_ ?_ 0 (Nat.zero_le _) ?_
  · rintro s' ⟨f, g, rfl, j1, j2, j3⟩ kk
    simp (disch := omega) only [wp_X12_findWay_L8, forall_eq, zi_lit, zi_add, zi_sub, zi_mul, zi_neg, zi_lt, zi_le, zi_eq, zi_div, zi_rem, zi_in, zA_get, zA_upd]
    refine ⟨fun _ => ?_, fun z => absurd (by decide) z⟩
    generalize hk0 : 100 * m + s = k0 at *
    have hd : k0 / 100 = m := by omega
    refine lp_inv (fun i s' => ∃ f g : Int → Int, s' = (zi i, zA f, zA g, zi to, zi p, zi (nod (nxT tw sh p) ws k0 i)) ∧ i32 f ∧ i32 g ∧ (∀ j, 0 ≤ j → j < 120 → f j = if j < nod (nxT tw sh p) ws k0 i / 100 then pth (nxT tw sh p) ws k0 j else -1) ∧ (∀ j, 0 ≤ j → j < (i : Int) → g j = ws.getD j.toNat 0)) ws.length ?_ ?_ 0 (Nat.zero_le _) ?_
    · rintro s' ⟨f, g, rfl, j1, j2, j3, j4⟩ kk
      have he := fwy_end ws k0 hws
      have hnn : 0 ≤ nod (nxT tw sh p) ws k0 ws.length ∧ nod (nxT tw sh p) ws k0 ws.length < 12000 := by
        match ws, hws, hlen with
        | [], _, _ => simp only [nod]; omega
        | w :: ws, hws, _ =>
          have a := fwy_at O (w :: ws) k0 ws.length hnd hws (by simp)
          have a2 := O.2 _ _ a.1 a.2.2.1.1 a.2.2.1.2.1 a.2.2.1.2.2.1
          rw [← a.2.2.2.2] at a2
          exact ⟨a2.1, a2.2.1⟩
      simp (disch := omega) only [wp_X12_findWay_L37, zi_lit, zi_add, zi_sub, zi_mul, zi_neg, zi_lt, zi_le, zi_eq, zi_div, zi_rem, zi_in, zA_get, zA_upd]
      refine ⟨fun _ => h f g j1 j2 (fun j a1 a2 => ?_) j4, fun z => absurd he z⟩
      rw [j3 j a1 a2]
      split
      · rfl
      · exact ((pth_late G O ws k0 j hnd hws (by omega)).1).symm
    · rintro i hi s' ⟨f, g, rfl, j1, j2, j3, j4⟩ kk hkk
      have hni : ((i + 1 : Nat) : Int) = (i : Int) + 1 := by omega
      obtain ⟨a1, a2, a3, a4, a5⟩ := fwy_at O ws k0 i hnd hws hi
      have hpa := fun q => pth_at G O ws k0 q i hnd hws hi
      rw [a5] at hpa
      generalize hk : nod (nxT tw sh p) ws k0 i = k at *
      generalize hw : ws.getD i 0 = w at *
      have k1 := a1.1
      have k2 := a1.2.1
      have g1 := G k w k1 k2 a3.1 a3.2.1 a3.2.2.1
      have w0 := a3.1
      have w5 := a3.2.1
      simp (disch := omega) only [wp_X12_findWay_L37, zi_lit, zi_eq, zi_rem, zi_div]
      refine ⟨fun z => absurd z a2, fun _ => ?_⟩
      refine p_behind htw hsh hp (by omega) (by omega) (by omega) ?_
      rw [show bhd tw sh p (k / 100) (k % 100) 0 = nxT tw sh p k 0 from rfl]
      refine lp_for0 (fun q => (zi i, zA f, zA g, zi to, zi p, zi k, zi q, zi (nxT tw sh p k q))) w.toNat rfl (fun kb => ?_) (fun q hq kb hkb => ?_)
      · have hwn : ((w.toNat : Nat) : Int) = w := by omega
        simp only [hwn]
        have lr1 := hlc (nxT tw sh p k w)
        have lr2 := hlc k
        have lr3 := hle (nxT tw sh p k w)
        have lr4 := hle k
        have hcs : csT c p k w = cst c p (k / 100) (k % 100) w := rfl
        have hpl : k / 100 + plen w p ≤ 120 := by
          have := bhd_rng (tw := tw) (sh := sh) (w := w) hp (show 0 ≤ k / 100 ∧ k / 100 < 120 by omega) (show 0 ≤ k % 100 ∧ k % 100 < 100 by omega)
          have h3 := a3.2.2.1
          simp only [nxT] at h3
          omega
        have a34 := a3.2.2.2.1
        have a35 := a3.2.2.2.2
        have a33 := a3.2.2.1
        simp (disch := omega) only [wp_X12_findWay_L69, zi_lit, zi_lt, zi_in, zA_get, zi_eq, zi_div, zi_rem]
        refine ⟨fun z => by omega, fun _ => ⟨by omega, by omega, fun z => absurd a34 z, fun _ => ?_⟩⟩
        refine p_costOf hc hp (by omega) (by omega) (by omega) ?_
        rw [← hcs]
        simp (disch := omega) only [zi_add, zi_eq, forall_eq]
        refine ⟨by omega, by omega, fun _ => ?_, fun z => absurd a35 z⟩
        generalize hn : nxT tw sh p k w = n at *
        refine lp_inv (fun q s' => ∃ f' : Int → Int, s' = (zi i, zA f', zA g, zi to, zi p, zi k, zi w, zi n, zi (k / 100 + q)) ∧ i32 f' ∧ (∀ j, 0 ≤ j → j < 120 → f' j = if j < k / 100 + q then pth (nxT tw sh p) ws k0 j else -1)) (n / 100 - k / 100).toNat ?_ ?_ 0 (Nat.zero_le _) ?_
        · rintro s' ⟨f', rfl, q1, q2⟩ kb
          have hq : k / 100 + (((n / 100 - k / 100).toNat : Nat) : Int) = n / 100 := by omega
          rw [hq] at q2 ⊢
          simp (disch := omega) only [wp_X12_findWay_L160, forall_eq, zi_lit, zi_add, zi_sub, zi_mul, zi_neg, zi_lt, zi_le, zi_eq, zi_div, zi_rem, zi_in, zA_get, zA_upd]
          refine ⟨fun _ => ⟨by omega, ?_⟩, fun z => absurd (Int.le_refl _) z⟩
          refine hkk _ ⟨f', upI g i w, by rw [hni, a5], q1, i32_up j2 (by omega), ?_, ?_⟩
          · rw [a5]; exact q2
          · intro j b1 b2
            by_cases hj : j = i
            · subst hj; rw [upI_s, ← hw]; simp
            · rw [upI_n hj]; exact j4 j b1 (by omega)
        · rintro q hq s' ⟨f', rfl, q1, q2⟩ kb hkb
          have hq2 : k / 100 + ((q + 1 : Nat) : Int) = k / 100 + (q : Int) + 1 := by omega
          simp (disch := omega) only [wp_X12_findWay_L160, forall_eq, zi_lit, zi_add, zi_sub, zi_mul, zi_neg, zi_lt, zi_le, zi_eq, zi_div, zi_rem, zi_in, zA_get, zA_upd]
          refine ⟨fun z => by omega, fun _ => ⟨by omega, hkb _ ⟨upI f' (k / 100 + q) (k % 100), by rw [hq2], i32_up q1 (by omega), fun j b1 b2 => ?_⟩⟩⟩
          by_cases hj : j = k / 100 + q
          · subst hj
            rw [upI_s, if_pos (by omega), hpa _ (by omega) (by omega)]
          · rw [upI_n hj, q2 j b1 b2]
            by_cases hlt : j < k / 100 + q
            · rw [if_pos hlt, if_pos (by omega)]
            · rw [if_neg hlt, if_neg (by omega)]
        · exact ⟨f, by simp, j1, by simpa using j3⟩
      · have hq1 : ((q + 1 : Nat) : Int) = (q : Int) + 1 := by omega
        simp only [hq1] at hkb
        have hng := a4 q (by omega) (by omega)
        have hnr : nxT tw sh p k q = -1 ∨ (0 ≤ nxT tw sh p k q ∧ nxT tw sh p k q < 12000 ∧ nxT tw sh p k q / 100 = k / 100 + plen q p) := by
          have := bhd_rng (tw := tw) (sh := sh) (w := q) hp (show 0 ≤ k / 100 ∧ k / 100 < 120 by omega) (show 0 ≤ k % 100 ∧ k % 100 < 100 by omega)
          simp only [nxT]
          omega
        have lr1 := hlc (nxT tw sh p k q)
        have lr2 := hlc k
        have lr3 := hle (nxT tw sh p k q)
        have lr4 := hle k
        have hcs : csT c p k q = cst c p (k / 100) (k % 100) q := rfl
        have hnext : wp_X12_findWay_b127 (fun t_wayMany t_whereAt t_wayOf l3 l4 l5 l6 l7 => ∀ x158 : Int32, x158 = (l5 / zi 100) → (∃ n, lp (wp_X12_findWay_L160 (fun t_wayMany t_whereAt t_wayOf l3 l4 l6 l7 => vp_in t_wayMany 120 ∧ (∀ t_wayOf_198 : Nat → Int32, t_wayOf_198 = upd t_wayOf (Int32.toNatClampNeg t_wayMany) l6 → (∀ x206 : Int32, x206 = (t_wayMany + zi 1) → (kk (x206, t_whereAt, t_wayOf_198, l3, l4, l7))))) (zA tw) (zA sh) (zA le) (zA c) (zA lc) post) n (t_wayMany, t_whereAt, t_wayOf, l3, l4, l5, l6, l7, x158))) kb (zA tw) (zA sh) (zA le) (zA c) (zA lc) post (zi i) (zA f) (zA g) (zi to) (zi p) (zi k) (zi q) := by
          simp (disch := omega) only [wp_X12_findWay_b127, zi_lit, zi_add, forall_eq, zi_div, zi_rem]
          exact p_behind htw hsh hp (by omega) (by omega) (by omega) hkb
        have hlcr : 0 ≤ nxT tw sh p k q → k / 100 + plen q p ≤ 120 := by omega
        generalize hn : nxT tw sh p k q = n at *
        rcases hnr with rfl | ⟨n0, n1, n2⟩
        · simp (disch := omega) only [wp_X12_findWay_L69, zi_lit, zi_lt]
          exact ⟨fun _ => hnext, fun z => absurd (by decide) z⟩
        · simp (disch := omega) only [wp_X12_findWay_L69, zi_lit, zi_lt, zi_in, zA_get, zi_eq, zi_div, zi_rem]
          refine ⟨fun z => by omega, fun _ => ⟨by omega, by omega, fun z => hnext, fun z => ?_⟩⟩
          refine p_costOf hc hp (by omega) (by omega) (by omega) ?_
          have hcr := G k q k1 k2 (by omega) (by omega) (by omega)
          have hb1 := Bst_nn G (k := n) (e := le n) (c := lc n) (to := to) (bym := bym) n0 n1
          have hb0 := (O.1 n (hn ▸ O.2 k q a1 (by omega) (by omega) (by omega))).2.2
          have hlk := (O.1 k a1).2.2.2.2
          have hln := hb0.2.2
          have hnn : 0 ≤ lc n := by
            by_cases hx : lc n < 1000000
            · exact (hb1 hb0 hx).1
            · omega
          rw [← hcs]
          rw [hn] at hcr
          simp (disch := omega) only [zi_add, zi_eq]
          refine ⟨by omega, by omega, fun y => ?_, fun y => hnext⟩
          refine absurd ⟨by omega, by omega, by omega, ?_, ?_⟩ hng
          · rw [hn]; exact z
          · rw [hn]; exact y
    · refine ⟨f, g, by simp only [nod_0]; rfl, j1, j2, fun j a1 a2 => ?_, fun j a1 a2 => by omega⟩
      rw [nod_0, j3 j a1 (by omega)]
      split
      · exact (pth_early G O ws k0 j hnd hws (by omega)).symm
      · rfl
  · rintro i hi s' ⟨f, g, rfl, j1, j2, j3⟩ kk hkk
    have hni : ((i + 1 : Nat) : Int) = (i : Int) + 1 := by omega
    simp (disch := omega) only [wp_X12_findWay_L8, forall_eq, zi_lit, zi_add, zi_sub, zi_mul, zi_neg, zi_lt, zi_le, zi_eq, zi_div, zi_rem, zi_in, zA_get, zA_upd]
    refine ⟨fun z => by omega, fun _ => ⟨by omega, hkk _ ⟨upI f i (-1), g, by rw [hni]; rfl, i32_up j1 (by omega), j2, fun j a1 a2 => ?_⟩⟩⟩
    by_cases hj : j = i
    · subst hj; rw [upI_s]
    · rw [upI_n hj]; exact j3 j a1 (by omega)
  · obtain ⟨f1, e1, r1⟩ := zA_ex t1
    obtain ⟨f2, e2, r2⟩ := zA_ex t2
    exact ⟨f1, f2, by rw [e1, e2]; rfl, r1, r2, fun j a1 a2 => by omega⟩
end FW
