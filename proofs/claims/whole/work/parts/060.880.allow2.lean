/-! the class's allowHeat: loops -/
section A2
variable {eb : Bool} {day to hot cool wt aims : Int} {dw : Nat → Int64} {ex nt tw sh : Int → Int} {sl : Int} {ww sw gw lw : Nat → Int64} {p bears mends en nw lim k0 : Int}
theorem p_allowedAt (A : Ask day to hot cool wt aims ex nt tw sh sl sw p bears mends en) (hG : gR gw tw) {La : Int → Int} {m s : Int} (hmm : 0 ≤ m ∧ m < 120) (hs : 0 ≤ s ∧ s < 100) (hL : ∀ j, 0 ≤ j → j < 12000 → m < j / 100 → -1 ≤ La j ∧ La j ≤ bears) {post : Int32 → Prop} (h1 : tw s ≠ 1 → post (zi (alV dw ww (nxT tw sh p) p bears mends La (100 * m + s)))) (h0 : tw s = 1 → post (-1)) : wp_X9_allowedAt (zi day) gw (zA La) dw (zA nt) sw ww (zi p) (zi bears) (zi mends) (zi m) (zi s) post := by
  have A' := A
  obtain ⟨hd, hto, hh, hc, hwt, ha2, hex, hnti, hnt, hsl, hsh, hp, hb, hm, hen⟩ := A'
  have hkd : (100 * m + s) / 100 = m := by omega
  have hkm : (100 * m + s) % 100 = s := by omega
  simp only [wp_X9_allowedAt]
  refine p_has (r := 0) (by decide) (by omega) (by omega) ?_
  rw [hbs_in (by omega), hG s hs.1 (by omega), decide_eq_true hs.2, Bool.true_and, b2i_zi, zi_lit 0]
  simp only [b2i_0]
  refine ⟨fun z => ?_, fun z => h0 (by simpa using z)⟩
  have ht : tw s ≠ 1 := by simpa using z
  replace h1 := h1 ht
  have hLk : ∀ j, 0 ≤ j → j < 12000 → (100 * m + s) / 100 < j / 100 → -1 ≤ La j ∧ La j ≤ bears := fun j a b c => hL j a b (by omega)
  have hn : ∀ w, 0 ≤ nxT tw sh p (100 * m + s) w → nxT tw sh p (100 * m + s) w < 12000 ∧ (100 * m + s) / 100 < nxT tw sh p (100 * m + s) w / 100 := fun w z => by have := nxT_ok hp (by omega) (by omega) z; exact ⟨this.1, this.2.1⟩
  have r4 := al4_rng (ww := ww) hb hLk hn
  -- behind the steps: the wait
  have b100 : ∀ b : Int, -1 ≤ b ∧ b ≤ bears → b = (if m + p ≤ 119 then bkN dw bears mends (al4 ww (nxT tw sh p) bears La (100 * m + s) 4) (100 * m + s) p.toNat else -1) → wp_X9_allowedAt_b100 (zi day) gw (zA La) dw (zA nt) sw ww (zi p) (zi bears) (zi mends) post (zi m) (zi s) (zi b) := by
    intro b hbr hbe
    have ev : alV dw ww (nxT tw sh p) p bears mends La (100 * m + s) = if m < 119 then (if b < ahd dw bears mends (La (100 * m + s + 100)) (100 * m + s) then ahd dw bears mends (La (100 * m + s + 100)) (100 * m + s) else b) else b := by
      simp only [alV, hkd, ← hbe]
    rw [ev] at h1
    simp only [wp_X9_allowedAt_b100, zi_lit, zi_add]
    rw [zi_le (by omega)]
    refine ⟨fun z => by rw [if_neg (by omega)] at h1; exact h1, fun z => ?_⟩
    rw [if_pos (by omega)] at h1
    have lr := hL (100 * m + s + 100) (by omega) (by omega) (by omega)
    refine p_labelled (by omega) (by omega) ?_
    rw [if_pos (by omega), show 100 * (m + 1) + s = 100 * m + s + 100 by omega]
    refine p_allowedAhead hb hm lr (by omega) hs ?_
    have ar := ahd_rng (dw := dw) (k := 100 * m + s) hb hm lr
    simp only [forall_eq]
    by_cases q : b < ahd dw bears mends (La (100 * m + s + 100)) (100 * m + s)
    · rw [if_pos q] at h1; rw [if_pos (by rw [zi_lt (by omega)]; exact q)]; exact h1
    · rw [if_neg q] at h1; rw [if_neg (by rw [zi_lt (by omega)]; exact q)]; exact h1
  simp only [forall_eq, zi_lit, zi_neg, zi_add]
  rw [zi_lt (by omega)]
  refine ⟨fun y => b100 (-1) (by omega) (by rw [if_neg (by omega)]), fun y => ?_⟩
  refine lp_for0 (fun i => (zi m, zi s, zi (al4 ww (nxT tw sh p) bears La (100 * m + s) i), zi (m + p), zi i)) 4 rfl (fun kb => ?_) (fun i hi kb hkb => ?_)
  · simp (disch := omega) only [wp_X9_allowedAt_L40, zi_lit, zi_le, forall_eq, zi_sub]
    refine ⟨fun _ => ?_, fun x => absurd (by decide) x⟩
    -- back over the minutes of the step
    have back : ∀ (n : Nat) (a : Int), -1 ≤ a ∧ a ≤ bears → (n : Int) ≤ p → bkN dw bears mends a (100 * m + s) n = bkN dw bears mends (al4 ww (nxT tw sh p) bears La (100 * m + s) 4) (100 * m + s) p.toNat → lp (wp_X9_allowedAt_L79 (fun l1 l2 l3 => wp_X9_allowedAt_b100 (zi day) gw (zA La) dw (zA nt) sw ww (zi p) (zi bears) (zi mends) post l1 l2 l3) (zi day) gw (zA La) dw (zA nt) sw ww (zi p) (zi bears) (zi mends) post) (n + 1) (zi m, zi s, zi a, zi (m + n - 1)) := by
      intro n
      induction n with
      | zero =>
        intro a ha _ he
        show wp_X9_allowedAt_L79 _ _ _ _ _ _ _ _ _ _ _ _ _ _
        simp (disch := omega) only [wp_X9_allowedAt_L79, zi_lt]
        refine ⟨fun _ => b100 a ha ?_, fun x => by omega⟩
        rw [if_pos (by omega)]
        exact he
      | succ n ih =>
        intro a ha hn' he
        show wp_X9_allowedAt_L79 _ _ _ _ _ _ _ _ _ _ _ _ _ _
        rw [show m + ((n + 1 : Nat) : Int) - 1 = m + n by omega]
        simp (disch := omega) only [wp_X9_allowedAt_L79, zi_lt]
        refine ⟨fun x => by omega, fun _ => ?_⟩
        refine p_allowedAhead hb hm ha (by omega) hs ?_
        simp only [forall_eq, zi_lit, zi_neg, zi_add]
        have ar := ahd_rng (dw := dw) (k := 100 * (m + n) + s) hb hm ha
        have := ih (ahd dw bears mends a (100 * (m + n) + s)) ar (by omega) (by
          rw [show 100 * (m + (n : Int)) + s = 100 * m + s + 100 * n by omega]
          simpa only [bkN] using he)
        rw [show m + (n : Int) + -1 = m + n - 1 by omega]
        exact this
    have := back p.toNat (al4 ww (nxT tw sh p) bears La (100 * m + s) 4) (r4 4) (by omega) rfl
    rw [show m + ((p.toNat : Nat) : Int) - 1 = m + p - 1 by omega] at this
    exact ⟨_, this⟩
  · have ri := r4 i
    have rb := alB_rng (ww := ww) (w := i) hb hLk (hn i)
    simp (disch := omega) only [wp_X9_allowedAt_L40, zi_lit, zi_le]
    refine ⟨fun x => by omega, fun _ => ?_⟩
    refine p_nextTo hnt hnti hs (by omega) ?_
    refine p_allowedBehind A rfl (by omega) hs (by omega) hLk ?_
    simp only [forall_eq, zi_add]
    have e : (if zi (al4 ww (nxT tw sh p) bears La (100 * m + s) i) < zi (alB ww (nxT tw sh p) bears La (100 * m + s) i) then zi (alB ww (nxT tw sh p) bears La (100 * m + s) i) else zi (al4 ww (nxT tw sh p) bears La (100 * m + s) i)) = zi (al4 ww (nxT tw sh p) bears La (100 * m + s) (i + 1)) := by
      simp only [al4]
      by_cases q : al4 ww (nxT tw sh p) bears La (100 * m + s) i < alB ww (nxT tw sh p) bears La (100 * m + s) i
      · rw [if_pos q, if_pos (by rw [zi_lt (by omega)]; exact q)]
      · rw [if_neg q, if_neg (by rw [zi_lt (by omega)]; exact q)]
    rw [e]
    exact hkb
/-- done from a node on -/
def alI (nx : Int → Int → Int) (val : Int → Int → Int → Int) (tw : Int → Int) (to bears : Int) (La : Int → Int) (m t : Int) : Prop := ∀ j, 0 ≤ j → j < 12000 → (m < j / 100 ∨ (j / 100 = m ∧ j % 100 < t)) → (-1 ≤ La j ∧ La j ≤ bears) ∧ (tw (j % 100) ≠ 1 → aOk nx val to bears La j)
theorem p_allowHeat (A : Ask day to hot cool wt aims ex nt tw sh sl sw p bears mends en) (hto : 0 ≤ to ∧ to < 100) (hG : gR gw tw) {t1 : Nat → Int32} {post : (Nat → Int32) → Prop} (h : ∀ La : Int → Int, (∀ j, 0 ≤ j → j < 12000 → (-1 ≤ La j ∧ La j ≤ bears) ∧ (tw (j % 100) ≠ 1 → aOk (nxT tw sh p) (fun k w v => hV dw bears mends ww (nxT tw sh p) p k w v) to bears La j)) → post (zA La)) : wp_X9_allowHeat (zi day) (zi to) gw dw (zA nt) sw ww (zi p) (zi bears) (zi mends) t1 post := by
  have A' := A
  obtain ⟨hd, _, hh, hc, hwt, ha2, hex, hnti, hnt, hsl, hsh, hp, hb, hm, hen⟩ := A'
  have up : ∀ (La : Int → Int) (m t v : Int), 0 ≤ m → m < 120 → 0 ≤ t → t < 100 → alI (nxT tw sh p) (fun k w v => hV dw bears mends ww (nxT tw sh p) p k w v) tw to bears La m t → (-1 ≤ v ∧ v ≤ bears) → (tw t ≠ 1 → ∀ h, 0 ≤ h → h ≤ bears → (h ≤ v ↔ ∃ ws k' h', hq (nxT tw sh p) (fun k w v => hV dw bears mends ww (nxT tw sh p) p k w v) to bears ws (100 * m + t) h k' h' ∧ k' % 100 = to)) → alI (nxT tw sh p) (fun k w v => hV dw bears mends ww (nxT tw sh p) p k w v) tw to bears (upI La (100 * m + t) v) m (t + 1) := by
    intro La m t v m0 m1 t0 t1' hI hv hx j a b c
    by_cases hj : j = 100 * m + t
    · subst hj
      rw [upI_s]
      refine ⟨hv, fun y => ?_⟩
      rw [show (100 * m + t) % 100 = t by omega] at y
      exact ⟨by rw [upI_s]; exact hv, by rw [upI_s]; exact hx y⟩
    · have q := hI j a b (by omega)
      rw [upI_n hj]
      refine ⟨q.1, fun y => ?_⟩
      have := q.2 y
      exact ⟨by rw [upI_n hj]; exact this.1, by rw [upI_n hj]; exact this.2⟩
  simp only [wp_X9_allowHeat]
  refine lp_inv (fun i s' => ∃ La : Int → Int, s' = (zA La, zi (119 - i)) ∧ alI (nxT tw sh p) (fun k w v => hV dw bears mends ww (nxT tw sh p) p k w v) tw to bears La (119 - i) 0) 120 ?_ ?_ 0 (Nat.zero_le _) ?_
  · rintro s' ⟨La, rfl, hI⟩ kb
    simp (disch := omega) only [wp_X9_allowHeat_L3, zi_lit, zi_lt]
    refine ⟨fun _ => h La (fun j a b => hI j a b (by omega)), fun z => absurd (by decide) z⟩
  · rintro i hi s' ⟨La, rfl, hI⟩ kb hkb
    have em : (119 : Int) - ((i + 1 : Nat) : Int) = 119 - i + -1 := by omega
    have hmr : (0 : Int) ≤ 119 - i ∧ (119 : Int) - i < 120 := by omega
    generalize hmg : (119 : Int) - i = m at *
    simp (disch := omega) only [wp_X9_allowHeat_L3, zi_lit, zi_lt]
    refine ⟨fun z => by omega, fun _ => ?_⟩
    refine lp_inv (fun t s' => ∃ La : Int → Int, s' = (zA La, zi m, zi t) ∧ alI (nxT tw sh p) (fun k w v => hV dw bears mends ww (nxT tw sh p) p k w v) tw to bears La m t) 100 ?_ ?_ 0 (Nat.zero_le _) ⟨La, rfl, hI⟩
    · rintro s' ⟨La2, rfl, hI2⟩ kb2
      simp (disch := omega) only [wp_X9_allowHeat_L9, zi_lit, zi_neg, zi_le, forall_eq, zi_add]
      refine ⟨fun _ => hkb _ ⟨La2, by rw [em], fun j a b c => hI2 j a b (by omega)⟩, fun z => absurd (by decide) z⟩
    · rintro t ht s' ⟨La2, rfl, hI2⟩ kb2 hkb2
      have hni : ((t + 1 : Nat) : Int) = (t : Int) + 1 := by omega
      have hk : m * 100 + (t : Int) = 100 * m + t := by omega
      have hL2 : ∀ j, 0 ≤ j → j < 12000 → m < j / 100 → -1 ≤ La2 j ∧ La2 j ≤ bears := fun j a b c => (hI2 j a b (Or.inl c)).1
      simp (disch := omega) only [wp_X9_allowHeat_L9, zi_lit, zi_le, zi_eq]
      refine ⟨fun z => by omega, fun _ => ⟨fun hne => ?_, fun he => ?_⟩⟩
      · refine p_allowedAt A hG hmr (by omega) hL2 (fun hk1 => ?_) (fun hk1 => ?_)
        · simp (disch := omega) only [forall_eq, zi_lit, zi_mul, zi_add, hk, zi_in, zA_upd]
          have ok := alV_ok (to := to) (dw := dw) (ww := ww) (sh := sh) (La := La2) (k := 100 * m + t) hp hb hm (by omega) (by omega) (by omega) (by rwa [show (100 * m + (t : Int)) % 100 = t by omega]) (fun j a b c => hL2 j a b (by omega)) (fun j a b c d => (hI2 j a b (Or.inl (by omega))).2 d) rfl
          refine ⟨by omega, hkb2 _ ⟨_, by rw [hni], ?_⟩⟩
          rw [hni]
          exact up La2 m t _ hmr.1 hmr.2 (by omega) (by omega) hI2 ok.1 (fun _ => ok.2)
        · rw [show (-1 : Int32) = zi (-1) from rfl]
          simp (disch := omega) only [forall_eq, zi_lit, zi_mul, zi_add, hk, zi_in, zA_upd]
          refine ⟨by omega, hkb2 _ ⟨_, by rw [hni], ?_⟩⟩
          rw [hni]
          exact up La2 m t (-1) hmr.1 hmr.2 (by omega) (by omega) hI2 (by omega) (fun y => absurd hk1 y)
      · simp (disch := omega) only [forall_eq, zi_lit, zi_mul, zi_add, hk, zi_in, zA_upd]
        refine ⟨by omega, hkb2 _ ⟨_, by rw [hni], ?_⟩⟩
        rw [hni]
        refine up La2 m t bears hmr.1 hmr.2 (by omega) (by omega) hI2 (by omega) (fun _ h0 h1 h2 => ⟨fun _ => ⟨[], 100 * m + t, h0, ⟨rfl, rfl⟩, by omega⟩, fun _ => h2⟩)
  · obtain ⟨f1, rfl, r1⟩ := zA_ex t1
    exact ⟨f1, rfl, fun j a b c => by omega⟩
/-- hours: a heat of 0 is allowed just where it can be borne -/
theorem allow_brs (hp : 1 ≤ p ∧ p ≤ 3) (hb : 0 ≤ bears ∧ bears ≤ 99) (hm : 0 ≤ mends ∧ mends ≤ 99) (hto : 0 ≤ to ∧ to < 100) {La : Int → Int} {k T : Int} (h0 : 0 ≤ k) (h1 : k < 12000) (h : aOk (nxT tw sh p) (fun k w v => hV dw bears mends ww (nxT tw sh p) p k w v) to bears La k) (hT : Brs (nxT tw sh p) (fun k w v => hV dw bears mends ww (nxT tw sh p) p k w v) to k bears T) : 0 ≤ La k ↔ 0 ≤ T := by
  have G : Gv (nxT tw sh p) 5 to p := Gv_T hp
  rw [h.2 0 (Int.le_refl _) hb.1]
  constructor
  · rintro ⟨ws, k', h', q1, q2⟩
    have q := hq_qv G h0 h1 ws.length ws k' h' rfl q1
    rcases hT with z | z
    · refine absurd ?_ (z.2 ws.length (k' / 100) h' (by omega) (by omega))
      rw [show 100 * (k' / 100) + to = k' by omega]
      exact q.1
    · exact z.1
  · intro z
    rcases hT with y | ⟨y1, y2, ⟨n, v, y3⟩, _⟩
    · omega
    · obtain ⟨ws, hw⟩ := qv_hq n _ _ y3
      exact ⟨ws, _, v, hw, by omega⟩
end A2
