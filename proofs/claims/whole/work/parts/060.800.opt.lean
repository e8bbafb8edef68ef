/-! nodes on the best ways: they are live, and their labels are true -/
section OP
variable {eb : Bool} {day to hot cool wt aims : Int} {dw : Nat → Int64} {ex nt tw sh : Int → Int} {sl : Int} {ww sw gw lw : Nat → Int64} {p bears mends en nw lim : Int}
def Opt (nx cs : Int → Int → Int) (to k0 C0 T : Int) (lc le : Int → Int) (nd : Int → Prop) (k : Int) : Prop := nd k ∧ lc k < 1000000 ∧ le k = T ∧ ∃ ws a, pt nx cs 5 to ws k0 k a ∧ a + lc k = C0
theorem pt_D {nx cs : Int → Int → Int} {D : Int → Bool} {hi : Int} : ∀ (ws : List Int) (k k' c : Int), pt (nxD nx D hi) cs 5 to ws k k' c → pt nx cs 5 to ws k k' c ∧ (ws ≠ [] → k' / 100 ≤ hi)
  | [], k, k', c, h => ⟨h, fun z => absurd rfl z⟩
  | w :: ws, k, k', c, h => by
    obtain ⟨h1, h2, h3, h4, h5⟩ := h
    have e : nxD nx D hi k w = nx k w ∧ 0 ≤ nx k w ∧ nx k w / 100 ≤ hi := by
      simp only [nxD] at h4 ⊢
      by_cases hc : D (nx k w) = true ∧ 0 ≤ nx k w ∧ nx k w / 100 ≤ hi
      · rw [if_pos hc]; exact ⟨rfl, hc.2⟩
      · rw [if_neg hc] at h4; omega
    rw [e.1] at h5
    have ih := pt_D ws _ k' _ h5
    refine ⟨⟨h1, h2, h3, e.2.1, ih.1⟩, fun _ => ?_⟩
    by_cases hw : ws = []
    · subst hw
      have := h5.1
      rw [← this]; exact e.2.2
    · exact ih.2 hw
theorem Opt_next {nx cs : Int → Int → Int} {lc le : Int → Int} {nd : Int → Prop} {k0 C0 T bym k w : Int} (G : Gok nx cs 5) (O : okN nx cs 5 to bym lc le nd) (h : Opt nx cs to k0 C0 T lc le nd k) (ht : k % 100 ≠ to) (hg : gdp nx cs 5 lc le k w) : Opt nx cs to k0 C0 T lc le nd (nx k w) := by
  obtain ⟨h1, h2, h3, ws, a, h4, h5⟩ := h
  have k0' := O.1 k h1
  have g := G k w k0'.1 k0'.2.1 hg.1 hg.2.1 hg.2.2.1
  have e := hg.2.2.2.2
  exact ⟨O.2 k w h1 hg.1 hg.2.1 hg.2.2.1, by omega, by rw [hg.2.2.2.1]; exact h3, ws ++ [w], a + cs k w, (pt_snoc ws w k0 _ _).mpr ⟨k, a, h4, ht, hg.1, hg.2.1, hg.2.2.1, rfl, rfl⟩, by omega⟩
/-- a best way goes by good pieces -/
theorem way_good {nx cs : Int → Int → Int} {lc le : Int → Int} {nd : Int → Prop} {bym k k' w : Int} {ws : List Int} (G : Gok nx cs 5) (O : okN nx cs 5 to bym lc le nd) (hk : nd k) (hl : lc k < 1000000) (hp : pt nx cs 5 to (w :: ws) k k' (lc k)) (ht : k' % 100 = to) (he : k' / 100 = le k) (hb : le k ≤ bym) : gdp nx cs 5 lc le k w ∧ pt nx cs 5 to ws (nx k w) k' (lc (nx k w)) := by
  obtain ⟨h1, h2, h3, h4, h5⟩ := hp
  have B := (O.1 k hk).2.2
  have hn := O.2 k w hk h2 h3 h4
  have Bn := (O.1 _ hn).2.2
  have a := Bn.2.1 ws k' _ h5 ht (by omega)
  have g := G k w (O.1 k hk).1 (O.1 k hk).2.1 h2 h3 h4
  have hln : lc (nx k w) < 1000000 := by omega
  obtain ⟨vs, k'', q1, q2, q3, q4⟩ := Bn.1 hln
  have b := B.2.1 (w :: vs) k'' (cs k w + lc (nx k w)) ⟨h1, h2, h3, h4, by rwa [show cs k w + lc (nx k w) - cs k w = lc (nx k w) by omega]⟩ q2 (by omega)
  have e : lc k - cs k w = lc (nx k w) := by omega
  rw [e] at h5
  exact ⟨⟨h2, h3, h4, by omega, by omega⟩, h5⟩
theorem last_p {nx cs : Int → Int → Int} (G : Gok nx cs 5) (Gt : Gv nx 5 to p) (hp1 : 1 ≤ p) : ∀ (ws : List Int) (k k' c : Int), 0 ≤ k → k < 12000 → pt nx cs 5 to ws k k' c → k % 100 ≠ to → k' % 100 = to → k / 100 + p ≤ k' / 100
  | [], k, k', c, _, _, h, h1, h2 => by obtain ⟨rfl, _⟩ := h; exact absurd h2 h1
  | w :: ws, k, k', c, a, b, h, h1, h2 => by
    obtain ⟨h3, h4, h5, h6, h7⟩ := h
    have g := Gt k w a b h4 h5 h6
    have r := pt_rng G ws _ k' _ h6 g.1 h7
    by_cases hn : nx k w % 100 = to
    · have := g.2.2.2 hn h1; omega
    · have := last_p G Gt hp1 ws _ k' _ h6 g.1 h7 hn h2; omega
/-- all that is known of a finished search and its labels -/
theorem opt_label {nx : Int → Int → Int} {c lc le : Int → Int} {nd : Int → Prop} {fi fr bym : Int} {q : Sst} {La : Int → Int} (hp : 1 ≤ p ∧ p ≤ 3) (G : Gok nx (csT c p) 5) (Gt : Gv nx 5 to p) (hto : 0 ≤ to ∧ to < 100) (hf : 0 ≤ fi ∧ fi < 120) (hfr : 0 ≤ fr ∧ fr < 100) (hb : bym ≤ 119) (O : okN nx (csT c p) 5 to bym lc le nd) (hnd : nd (100 * fi + fr)) (hF : Fnd tw nx (csT c p) 5 to bym (100 * fi + fr) lim p q) (hl : lim ≤ 268435455) (ha : q.2.2.1 ≠ -1)
    (hLa : ∀ j, 0 ≤ j → j < 12000 → fi ≤ j / 100 → j / 100 ≤ q.2.2.1 → (q.2.2.2.2 j = true → laO nx (csT c p) q.2.2.2.2 to q.2.2.1 La j) ∧ (q.2.2.2.2 j = false → La j = 268435456)) :
    lc (100 * fi + fr) = q.2.1 ∧ le (100 * fi + fr) = q.2.2.1 ∧ lc (100 * fi + fr) < 1000000 ∧ (0 ≤ q.2.2.1 ∧ q.2.2.1 ≤ bym) ∧ ∀ k, Opt nx (csT c p) to (100 * fi + fr) q.2.1 q.2.2.1 lc le nd k → fi ≤ k / 100 ∧ k / 100 ≤ q.2.2.1 ∧ q.2.2.2.2 k = true ∧ La k = 128 * lc k + q.2.2.1 := by
  obtain ⟨F1, F2, F3, F4, F5, F6, F7⟩ := hF
  have B0 := (O.1 _ hnd).2.2
  have cb := (Chp_Bst G (by omega) (by omega) hto F1 B0).2 ha
  have hT : 0 ≤ q.2.2.1 ∧ q.2.2.1 ≤ bym := by
    rcases F1 with z | z
    · exact absurd z.1 ha
    · exact ⟨z.1, z.2.1⟩
  generalize hTg : q.2.2.1 = T at *
  generalize hCg : q.2.1 = C0 at *
  have live : ∀ k, Opt nx (csT c p) to (100 * fi + fr) C0 T lc le nd k → fi ≤ k / 100 ∧ k / 100 ≤ T ∧ q.2.2.2.2 k = true ∧ ∃ ws, pt nx (csT c p) 5 to ws k (100 * T + to) (lc k) := by
    intro k hk
    obtain ⟨o1, o2, o3, ws, a, o4, o5⟩ := hk
    have Bk := O.1 k o1
    obtain ⟨vs, k', v1, v2, v3, v4⟩ := Bk.2.2.1 o2
    have r := pt_rng G ws _ k a (by omega) (by omega) o4
    have r2 := pt_rng G vs k k' _ Bk.1 Bk.2.1 v1
    have ek : k' = 100 * T + to := by omega
    rw [ek] at v1 r2
    refine ⟨by omega, by omega, ?_, vs, v1⟩
    have nf : q.2.2.2.1 k ≠ 268435456 := by
      by_cases hkt : k % 100 = to
      · have b := Bk.2.2.2.1 [] k 0 ⟨rfl, rfl⟩ hkt (by omega)
        have nn := Bst_nn G Bk.1 Bk.2.1 Bk.2.2 o2
        have e0 : k = 100 * T + to := by omega
        rw [e0, F7 ha]
        omega
      · have lp := last_p G Gt hp.1 vs k _ _ Bk.1 Bk.2.1 v1 hkt (by omega)
        have nn := Bst_nn G Bk.1 Bk.2.1 Bk.2.2 o2
        have := F6 ha ws k a o4 (by omega) (by omega)
        omega
    cases hL : q.2.2.2.2 k with
    | true => rfl
    | false => exact absurd (F2 k Bk.1 Bk.2.1 hL) nf
  refine ⟨cb.1, cb.2.1, by omega, hT, fun k hk => ?_⟩
  obtain ⟨l1, l2, l3, ws, l4⟩ := live k hk
  have Bk := O.1 k hk.1
  refine ⟨l1, l2, l3, ?_⟩
  -- the way stays among live nodes
  have stay : ∀ (ws : List Int) (k : Int), Opt nx (csT c p) to (100 * fi + fr) C0 T lc le nd k → pt nx (csT c p) 5 to ws k (100 * T + to) (lc k) → pt (nxD nx q.2.2.2.2 T) (csT c p) 5 to ws k (100 * T + to) (lc k) := by
    intro ws
    induction ws with
    | nil => intro k _ h; exact h
    | cons w ws ih =>
      intro k hk h
      have gd := way_good G O hk.1 hk.2.1 h (by omega) (by have := hk.2.2.1; omega) (by have := hk.2.2.1; omega)
      have ok2 := Opt_next G O hk h.1 gd.1
      have lv := live _ ok2
      have e : nxD nx q.2.2.2.2 T k w = nx k w := by rw [nxD, if_pos ⟨lv.2.2.1, gd.1.2.2.1, lv.2.1⟩]
      refine ⟨h.1, h.2.1, h.2.2.1, by rw [e]; exact gd.1.2.2.1, ?_⟩
      rw [e, show lc k - csT c p k w = lc (nx k w) by have := gd.1.2.2.2.2; omega]
      exact ih _ ok2 gd.2
  have sw := stay ws k hk l4
  have BD : Bst (nxD nx q.2.2.2.2 T) (csT c p) 5 to T k (lc k) T := by
    refine ⟨fun _ => ⟨ws, _, sw, by omega, by omega, Int.le_refl _⟩, fun vs k' c' h1 h2 h3 => ?_, Bk.2.2.2.2⟩
    have d := (pt_D vs k k' c' h1).1
    have b := Bk.2.2.2.1 vs k' c' d h2 (by omega)
    have := hk.2.2.1
    omega
  have la := (hLa k Bk.1 Bk.2.1 l1 l2).1 l3
  rcases la with ⟨z1, z2⟩ | ⟨C, E, z1, z2, z3⟩
  · have := Bst_uni BD z2
    have := hk.2.1
    omega
  · have u := Bst_uni BD z3
    have := u.2 hk.2.1
    omega
/-- a piece is good if its label fits -/
theorem opt_piece {nx : Int → Int → Int} {c lc le : Int → Int} {nd : Int → Prop} {k0 C0 T fi bym k w : Int} {D : Int → Bool} {La : Int → Int} (G : Gok nx (csT c p) 5) (O : okN nx (csT c p) 5 to bym lc le nd) (hT : 0 ≤ T ∧ T ≤ bym ∧ bym ≤ 119) (hop : ∀ k, Opt nx (csT c p) to k0 C0 T lc le nd k → fi ≤ k / 100 ∧ k / 100 ≤ T ∧ D k = true ∧ La k = 128 * lc k + T) (hLa : ∀ j, 0 ≤ j → j < 12000 → fi ≤ j / 100 → j / 100 ≤ T → (D j = true → laO nx (csT c p) D to T La j) ∧ (D j = false → La j = 268435456)) (hk : Opt nx (csT c p) to k0 C0 T lc le nd k) (ht : k % 100 ≠ to) (w0 : 0 ≤ w) (w1 : w < 5) : gdp nx (csT c p) 5 lc le k w ↔ (lbh nx T La k w < 268435456 ∧ lbh nx T La k w + 128 * csT c p k w = La k) := by
  have Bk := O.1 k hk.1
  have lk := hop k hk
  constructor
  · intro hg
    have o2 := Opt_next G O hk ht hg
    have l2 := hop _ o2
    have Bn := O.1 _ o2.1
    have nn := Bst_nn G Bn.1 Bn.2.1 Bn.2.2 o2.2.1
    rw [lbh, if_pos ⟨hg.2.2.1, l2.2.1⟩, l2.2.2.2, lk.2.2.2]
    have := hg.2.2.2.2
    omega
  · rintro ⟨h1, h2⟩
    rw [lbh] at h1 h2
    by_cases hc : 0 ≤ nx k w ∧ nx k w / 100 ≤ T
    case neg => rw [if_neg hc] at h1; omega
    rw [if_pos hc] at h1 h2
    have g := G k w Bk.1 Bk.2.1 w0 w1 hc.1
    have hn := O.2 k w hk.1 w0 w1 hc.1
    have Bn := (O.1 _ hn).2.2
    have la := hLa (nx k w) hc.1 g.1 (by omega) hc.2
    have hD : D (nx k w) = true := by
      cases hx : D (nx k w) with
      | true => rfl
      | false => have := la.2 hx; omega
    rcases la.1 hD with ⟨z1, z2⟩ | ⟨C, E, z1, z2, z3⟩
    · omega
    · have nD := Bst_nn (Gok_D (D := D) (hi := T) G) hc.1 g.1 z3 z2
      obtain ⟨ws, k', q1, q2, q3, q4⟩ := z3.1 z2
      have d := (pt_D ws _ k' C q1).1
      have b := Bn.2.1 ws k' C d q2 (by omega)
      have e1 : lc k = csT c p k w + C ∧ E = T := by omega
      have hln : lc (nx k w) < 1000000 := by omega
      obtain ⟨vs, k'', y1, y2, y3, y4⟩ := Bn.1 hln
      have b2 := Bk.2.2.2.1 (w :: vs) k'' (csT c p k w + lc (nx k w)) ⟨ht, w0, w1, hc.1, by rwa [show csT c p k w + lc (nx k w) - csT c p k w = lc (nx k w) by omega]⟩ y2 (by omega)
      have := hk.2.2.1
      exact ⟨w0, w1, hc.1, by omega, by omega⟩
end OP
