/-! dark: the reference's rows, all of them -/
section D3
variable {tw sn sh : Int → Int} {p to wk fr what : Int}
theorem p_darkRows (hi : i32 tw) (hsh : i32 sh) (hwk : 0 ≤ wk ∧ wk < 6) (hpw : tw (383 + 7 * wk) = p) (hp : 1 ≤ p ∧ p ≤ 3) (hsn : cB sn) (hto : 0 ≤ to ∧ to < 100) {op arg : Nat → Int32} {X : Int32 → Int32 → (Nat → Int32) → (Nat → Int32) → (Nat → Int32) → (Nat → Int32) → (Nat → Int32) → (Nat → Int32) → Int32 → Int32 → Prop} {post : Int32 → Int32 → Int32 → (Nat → Int32) → (Nat → Int32) → (Nat → Int32) → (Nat → Int32) → (Nat → Int32) → (Nat → Int32) → Prop} {x1 x2 y2 y4 : Int32} {z1 z3 z4 t1 : Nat → Int32}
    (h : ∀ R : Int → Int, i32 R → (∀ k, 0 ≤ k → k < 12000 → tw (k % 100) ≠ 1 → Dk (nxT tw sh p) (csT sn p) to k (R k)) → X x1 x2 z1 (zA sn) (zA sh) z3 z4 (zA R) y2 y4) :
    ∃ n, lp (wp_X12_dark_L40 X (zA tw) op arg post) n (x1, x2, z1, zA sn, zA sh, z3, z4, t1, zi wk, y2, zi to, y4, 11999) := by
  have G : Gok (nxT tw sh p) (csT sn p) 5 := Gok_T hp hsn
  refine lp_inv (fun i s => ∃ R : Int → Int, s = (x1, x2, z1, zA sn, zA sh, z3, z4, zA R, zi wk, y2, zi to, y4, zi (11999 - i)) ∧ i32 R ∧ (∀ k, 12000 - (i : Int) ≤ k → k < 12000 → 0 ≤ R k ∧ R k ≤ 1000000) ∧ (∀ k, 12000 - (i : Int) ≤ k → k < 12000 → tw (k % 100) ≠ 1 → Dk (nxT tw sh p) (csT sn p) to k (R k))) 12000 ?_ ?_ 0 (Nat.zero_le _) ?_
  · rintro s ⟨R, rfl, j1, jr, j2⟩ kk
    simp (disch := omega) only [wp_X12_dark_L40, zi_lit, zi_lt]
    exact ⟨fun _ => h R j1 (fun k a b c => j2 k (by omega) b c), fun z => by omega⟩
  · rintro i hi' s ⟨R, rfl, j1, jr, j2⟩ kk hkk
    generalize hk : (11999 : Int) - i = k at *
    have hk1 : (12000 : Int) - i = k + 1 := by omega
    have hk2 : (12000 : Int) - ((i + 1 : Nat) : Int) = k := by omega
    have hk3 : (11999 : Int) - ((i + 1 : Nat) : Int) = k + -1 := by omega
    rw [hk1] at j2 jr
    have htk := hi (k % 100)
    have hnext : ∀ r : Int, (0 ≤ r ∧ r ≤ 1000000) → (tw (k % 100) ≠ 1 → Dk (nxT tw sh p) (csT sn p) to k r) → kk (x1, x2, z1, zA sn, zA sh, z3, z4, zA (upI R k r), zi wk, y2, zi to, y4, zi (k + -1)) := by
      intro r hr hd
      refine hkk _ ⟨upI R k r, by rw [hk3], i32_up j1 (by omega), fun j a b => ?_, fun j a b c => ?_⟩
      · by_cases q : j = k
        · subst q; rw [upI_s]; exact hr
        · rw [upI_n q]; exact jr j (by omega) b
      · by_cases q : j = k
        · subst q; rw [upI_s]; exact hd c
        · rw [upI_n q]; exact j2 j (by omega) b c
    by_cases hkt : k % 100 = to
    · simp (disch := omega) only [wp_X12_dark_L40, forall_eq, zi_lit, zi_neg, zi_lt, zi_rem, zi_eq, zi_div, zi_in, zA_upd]
      refine ⟨fun z => by omega, fun _ => ⟨fun z => absurd hkt z, fun _ => ⟨by omega, ?_⟩⟩⟩
      refine ⟨1, ?_⟩
      simp (disch := omega) only [lp, wp_X12_dark_L76, forall_eq, zi_lit, zi_le, zi_rem, zi_eq, zi_add]
      exact ⟨fun z => absurd z (by decide), fun _ => ⟨fun _ => hnext (k / 100) (by omega) (fun _ => Dk_at (by omega) (by omega) hkt), fun z => absurd hkt z⟩⟩
    · simp (disch := omega) only [wp_X12_dark_L40, forall_eq, zi_lit, zi_neg, zi_lt, zi_rem, zi_eq, zi_div, zi_in, zA_upd]
      refine ⟨fun z => by omega, fun _ => ⟨fun _ => ⟨by omega, ?_⟩, fun z => absurd z hkt⟩⟩
      by_cases hw1 : tw (k % 100) = 1
      · refine ⟨1, ?_⟩
        simp (disch := omega) only [lp, wp_X12_dark_L76, forall_eq, zi_lit, zi_le, zi_rem, zi_eq, zi_add, zi_in, zA_get]
        exact ⟨fun z => absurd z (by decide), fun _ => ⟨fun z => absurd z hkt, fun _ => ⟨by omega, fun _ => hnext 1000000 (by omega) (fun z => absurd hw1 z), fun z => absurd hw1 z⟩⟩⟩
      · refine lp_inv (fun n s => ∃ r : Int, s = (x1, x2, z1, zA sn, zA sh, z3, z4, zA (upI R k r), zi wk, y2, zi to, y4, zi k, zi n) ∧ dkW (nxT tw sh p) (csT sn p) R k n r) 5 ?_ ?_ 0 (Nat.zero_le _) ⟨1000000, rfl, dkW_0⟩
        · rintro s ⟨r, rfl, hd⟩ kb
          simp (disch := omega) only [wp_X12_dark_L76, forall_eq, zi_lit, zi_le, zi_add]
          refine ⟨fun _ => hnext r hd.2.2 (fun _ => Dk_back G (by omega) (by omega) hkt (fun w a b c => ?_) hd), fun z => absurd (by decide) z⟩
          have nk := nxT_ok hp (show 0 ≤ k by omega) (by omega) c
          exact j2 _ (by omega) nk.1 nk.2.2.1
        · rintro n hn5 s ⟨r, rfl, hd⟩ kb hkb
          have hni : ((n + 1 : Nat) : Int) = (n : Int) + 1 := by omega
          have hr := hd.2.2
          have Rk : 0 ≤ nxT tw sh p k n → nxT tw sh p k n ≠ k ∧ (0 ≤ R (nxT tw sh p k n) ∧ R (nxT tw sh p k n) ≤ 1000000) ∧ nxT tw sh p k n < 12000 := by
            intro c
            have nk := nxT_ok hp (show 0 ≤ k by omega) (by omega) c
            exact ⟨by omega, jr _ (by omega) nk.1, nk.1⟩
          have nxt : ∀ r' : Int, (0 ≤ nxT tw sh p k n → csT sn p k n = 0 → r' = if R (nxT tw sh p k n) < r then R (nxT tw sh p k n) else r) → (¬ (0 ≤ nxT tw sh p k n ∧ csT sn p k n = 0) → r' = r) → kb (x1, x2, z1, zA sn, zA sh, z3, z4, zA (upI R k r'), zi wk, y2, zi to, y4, zi k, zi ((n : Int) + 1)) := fun r' g1 g2 => hkb _ ⟨r', by rw [hni], by rw [hni]; exact dkW_step (by omega) hd (fun c => (Rk c).2.1) g1 g2⟩
          have keep : (0 ≤ nxT tw sh p k n → csT sn p k n = 0 → ¬ R (nxT tw sh p k n) < r) → wp_X12_dark_b234 (fun t_thrown t_shadeDay t_sunny t_sun t_isShut t_facts t_pile t_reach l1 l3 l4 l5 l6 => kk (t_thrown, t_shadeDay, t_sunny, t_sun, t_isShut, t_facts, t_pile, t_reach, l1, l3, l4, l5, l6 + zi (-1))) kb (zA tw) op arg post x1 x2 z1 (zA sn) (zA sh) z3 z4 (zA (upI R k r)) (zi wk) y2 (zi to) y4 (zi k) (zi n) (zi k) := by
            intro g
            simp (disch := omega) only [wp_X12_dark_b234, forall_eq, zi_lit, zi_in, zA_get, zA_upd, upI_s, upI_twice, zi_add]
            exact ⟨by omega, by omega, nxt r (fun a b => by rw [if_neg (g a b)]) (fun _ => rfl)⟩
          simp (disch := omega) only [wp_X12_dark_L76, forall_eq, zi_lit, zi_le, zi_rem, zi_eq, zi_in, zA_get, zi_div]
          refine ⟨fun z => by omega, fun _ => ⟨fun z => absurd z hkt, fun _ => ⟨by omega, fun z => absurd z hw1, fun _ => ?_⟩⟩⟩
          refine p_walkerOf (i := 0) hwk (by omega) ?_
          rw [show 383 + 7 * wk + 0 = 383 + 7 * wk by omega, hpw]
          refine p_behind hi hsh hp (by omega) (by omega) (by omega) ?_
          have eb : bhd tw sh p (k / 100) (k % 100) n = nxT tw sh p k n := rfl
          rw [eb]
          have hr0 : nxT tw sh p k n = -1 ∨ 0 ≤ nxT tw sh p k n := by
            have := bhd_rng (tw := tw) (sh := sh) (w := n) hp (show 0 ≤ k / 100 ∧ k / 100 < 120 by omega) (show 0 ≤ k % 100 ∧ k % 100 < 100 by omega)
            rw [eb] at this
            omega
          have hlt : 0 ≤ nxT tw sh p k n → nxT tw sh p k n < 12000 := fun c => (Rk c).2.2
          rw [zi_lt (by omega)]
          refine ⟨fun z => ⟨1, ?_⟩, fun z => ?_⟩
          · simp only [lp, wp_X12_dark_L149]
            refine ⟨fun _ => ?_, fun z => absurd rfl z⟩
            simp only [wp_X12_dark_b196]
            exact ⟨fun _ => keep (fun a => by omega), fun z => absurd rfl z⟩
          · have c : 0 ≤ nxT tw sh p k n := by omega
            obtain ⟨rk1, rk2, rk3⟩ := Rk c
            have ert : upI R k r (nxT tw sh p k n) = R (nxT tw sh p k n) := upI_n rk1
            refine p_dkin hp hsn (by omega) (by omega) c (fun e => ?_) (fun e => ?_)
            · simp (disch := omega) only [wp_X12_dark_b196, forall_eq, zi_in, zA_get, zA_upd, ert, upI_s, upI_twice, zi_le, zi_add]
              refine ⟨fun z => absurd z (by decide), fun _ => ⟨by omega, by omega, fun y => ?_, fun y => ⟨by omega, by omega, ?_⟩⟩⟩
              · exact keep (fun _ _ => by omega)
              · have q9 := nxt _ (fun _ _ => by rw [if_pos (show R (nxT tw sh p k n) < r by omega)]) (fun q => absurd ⟨c, e⟩ q)
                rw [← zi_add] at q9
                exact q9
            · simp only [wp_X12_dark_b196]
              exact ⟨fun _ => keep (fun _ a => absurd a e), fun z => absurd trivial z⟩
  · obtain ⟨f1, e1, r1⟩ := zA_ex t1
    exact ⟨f1, by rw [e1]; rfl, r1, fun k a b => by omega, fun k a b => by omega⟩
end D3
