/-! the reference's findReach and findWay -/
def Rch (nx cs : Int → Int → Int) (nw to k0 k r : Int) : Prop := (r < 1000000 → ∃ ws, pt nx cs nw to ws k0 k r) ∧ (∀ ws c, pt nx cs nw to ws k0 k c → r ≤ c) ∧ r ≤ 1000000
theorem Rch_uni {nx cs : Int → Int → Int} {nw to k0 k r r' : Int} (h : Rch nx cs nw to k0 k r) (h' : Rch nx cs nw to k0 k r') : r = r' := by
  by_cases hr : r < 1000000
  · obtain ⟨ws, p⟩ := h.1 hr
    have a := h'.2.1 ws _ p
    by_cases hr' : r' < 1000000
    · obtain ⟨ws', p'⟩ := h'.1 hr'
      have b := h.2.1 ws' _ p'
      omega
    · omega
  · by_cases hr' : r' < 1000000
    · obtain ⟨ws', p'⟩ := h'.1 hr'
      have b := h.2.1 ws' _ p'
      have := h.2.2
      omega
    · have := h.2.2
      have := h'.2.2
      omega
/-- found so far -/
def rSo (nx cs : Int → Int → Int) (nw to k0 : Int) (R : Int → Int) : Prop := ∀ j, 0 ≤ j → j < 12000 → 0 ≤ R j ∧ R j ≤ 1000000 ∧ (R j < 1000000 → R j ≤ 1000 * (j / 100 - k0 / 100) ∧ ∃ ws, pt nx cs nw to ws k0 j (R j))
/-- offered -/
def rOf (nx cs : Int → Int → Int) (nw to : Int) (R : Int → Int) (j n : Int) : Prop := R j < 1000000 → j % 100 ≠ to → ∀ w, 0 ≤ w → w < n → 0 ≤ nx j w → R (nx j w) ≤ R j + cs j w
theorem Rch_of {nx cs : Int → Int → Int} {nw to k0 : Int} (G : Gok nx cs nw) (h0 : 0 ≤ k0) (h1 : k0 < 12000) {R : Int → Int} (hS : rSo nx cs nw to k0 R) (hz : R k0 = 0) (hO : ∀ j, 0 ≤ j → j < 12000 → k0 / 100 ≤ j / 100 → rOf nx cs nw to R j nw) : ∀ k, 0 ≤ k → k < 12000 → Rch nx cs nw to k0 k (R k) := by
  intro k k0' k1
  refine ⟨fun hr => ((hS k k0' k1).2.2 hr).2, fun ws c hp => ?_, (hS k k0' k1).2.1⟩
  have key : ∀ (n : Nat) (ws : List Int) (k c : Int), ws.length = n → pt nx cs nw to ws k0 k c → R k ≤ c := by
    intro n
    induction n with
    | zero =>
      intro ws k c hl hp
      have : ws = [] := List.length_eq_zero_iff.mp hl
      subst this
      obtain ⟨rfl, rfl⟩ := hp
      omega
    | succ n ih =>
      intro ws k c hl hp
      have hne : ws ≠ [] := by intro z; subst z; simp at hl
      obtain ⟨a, w, rfl⟩ : ∃ a w, ws = a ++ [w] := ⟨ws.dropLast, ws.getLast hne, (List.dropLast_concat_getLast hne).symm⟩
      obtain ⟨j, c1, p1, p2, p3, p4, p5, p6, p7⟩ := (pt_snoc a w k0 k c).mp hp
      have r := pt_rng G a k0 j c1 h0 h1 p1
      have i1 := ih a j c1 (by simpa using hl) p1
      have o := hO j r.1 r.2.1 r.2.2.1 (by omega) p2 w p3 p4 p5
      subst p6
      omega
  exact key ws.length ws k c rfl hp
section FR
variable {tw sh c : Int → Int} {p to k0 : Int}
theorem p_fr_in (hp : 1 ≤ p ∧ p ≤ 3) (hto : -1 ≤ to ∧ to < 100) (htw : i32 tw) (hsh : i32 sh) (hc : cB c) {k : Int} (h0 : 0 ≤ k) (h1 : k < 12000) (hk0 : 0 ≤ k0 ∧ k0 / 100 ≤ k / 100) {R0 : Int → Int} (i1 : i32 R0) (hS : rSo (nxT tw sh p) (csT c p) 5 to k0 R0) (hz : R0 k0 = 0) (hkl : R0 k < 1000000) (hkt : k % 100 ≠ to) {xx : (Nat → Int32) → Int32 → Int32 → Int32 → Prop} {post : (Nat → Int32) → Prop}
    (hO : ∀ j, 0 ≤ j → j < k → k0 / 100 ≤ j / 100 → rOf (nxT tw sh p) (csT c p) 5 to R0 j 5)
    (hx : ∀ R : Int → Int, i32 R → rSo (nxT tw sh p) (csT c p) 5 to k0 R → R k0 = 0 → (∀ j, 0 ≤ j → j < k + 1 → k0 / 100 ≤ j / 100 → rOf (nxT tw sh p) (csT c p) 5 to R j 5) → xx (zA R) (zi to) (zi p) (zi k)) :
    ∃ n, lp (wp_X12_findReach_L78 xx (zA tw) (zA sh) (zA c) post) n (zA R0, zi to, zi p, zi k, 0) := by
  have G : Gok (nxT tw sh p) (csT c p) 5 := Gok_T hp hc
  refine lp_inv (fun i s => ∃ R : Int → Int, s = (zA R, zi to, zi p, zi k, zi i) ∧ i32 R ∧ rSo (nxT tw sh p) (csT c p) 5 to k0 R ∧ R k0 = 0 ∧ R k = R0 k ∧ (∀ j, 0 ≤ j → j < k → k0 / 100 ≤ j / 100 → rOf (nxT tw sh p) (csT c p) 5 to R j 5) ∧ rOf (nxT tw sh p) (csT c p) 5 to R k i) 5 ?_ ?_ 0 (Nat.zero_le _) ?_
  · rintro s ⟨R, rfl, j1, j2, j3, j4, j5, j6⟩ kk
    have := hx R j1 j2 j3 (fun j a1 a2 a3 => if hj : j = k then by rw [hj]; exact j6 else j5 j a1 (by omega) a3)
    simp (disch := omega) only [wp_X12_findReach_L78, zi_lit, zi_add, zi_sub, zi_mul, zi_neg, zi_lt, zi_le, zi_eq, zi_div, zi_rem, zi_in, zA_get, zA_upd]
    exact ⟨fun _ => this, fun z => absurd (by decide) z⟩
  · rintro i hi s ⟨R, rfl, j1, j2, j3, j4, j5, j6⟩ kk hkk
    have hni : ((i + 1 : Nat) : Int) = (i : Int) + 1 := by omega
    simp (disch := omega) only [wp_X12_findReach_L78, zi_lit, zi_le, zi_div, zi_rem]
    refine ⟨fun z => by omega, fun _ => ?_⟩
    refine p_behind htw hsh hp (by omega) (by omega) (by omega) ?_
    have hbr := bhd_rng (tw := tw) (sh := sh) (w := i) hp (show 0 ≤ k / 100 ∧ k / 100 < 120 by omega) (show 0 ≤ k % 100 ∧ k % 100 < 100 by omega)
    have hl := plen_rng (w := i) hp
    have hnx : nxT tw sh p k i = bhd tw sh p (k / 100) (k % 100) i := rfl
    have hcx : csT c p k i = cst c p (k / 100) (k % 100) i := rfl
    have gG := G k i h0 h1 (by omega) (by omega)
    rw [← hnx] at hbr ⊢
    generalize hng : nxT tw sh p k i = n at *
    rcases hbr with rfl | ⟨n0, n1, n2, n3, n4⟩
    · refine ⟨fun _ => ?_, fun h => ?_⟩
      · simp only [forall_eq, zi_add]
        refine hkk _ ⟨R, by rw [hni], j1, j2, j3, j4, j5, fun a1 a2 v v0 v1 v2 => ?_⟩
        by_cases hv : v = i
        · subst hv; omega
        · exact j6 a1 a2 v v0 (by omega) v2
      · exact absurd (show zi (-1) < zi 0 by decide) h
    · have b1 := j2 n n0 n1
      have b2 := j2 k h0 h1
      have g2 := gG n0
      rw [hcx] at g2
      simp (disch := omega) only [zi_lit, zi_add, zi_sub, zi_mul, zi_neg, zi_lt, zi_le, zi_eq, zi_div, zi_rem, zi_in, zA_get, zA_upd]
      refine ⟨fun h => by omega, fun _ => ⟨by omega, ?_⟩⟩
      refine p_costOf hc hp (by omega) (by omega) (by omega) ?_
      have hnk : n ≠ k := by omega
      have hnk0 : n ≠ k0 := by omega
      have hold : ∀ (R' : Int → Int), (∀ j, R' j ≤ R j) → (∀ j, j < n → R' j = R j) → R' n ≤ R k + csT c p k i → (∀ j, 0 ≤ j → j < k → k0 / 100 ≤ j / 100 → rOf (nxT tw sh p) (csT c p) 5 to R' j 5) ∧ rOf (nxT tw sh p) (csT c p) 5 to R' k (i + 1) := by
        intro R' q1 q2 q3
        refine ⟨fun j a1 a2 a3 a4 a5 v v0 v1 v2 => ?_, fun a4 a5 v v0 v1 v2 => ?_⟩
        · rw [q2 j (by omega)] at a4 ⊢
          have := j5 j a1 a2 a3 a4 a5 v v0 v1 v2
          have := q1 (nxT tw sh p j v)
          omega
        · rw [q2 k (by omega)] at a4 ⊢
          by_cases hv : v = i
          · subst hv; rw [hng]; exact q3
          · have := j6 a4 a5 v v0 (by omega) v2
            have := q1 (nxT tw sh p k v)
            omega
      rw [hcx] at hold
      generalize hC : cst c p (k / 100) (k % 100) i = C at *
      simp (disch := omega) only [forall_eq, zi_lit, zi_add, zi_sub, zi_mul, zi_neg, zi_lt, zi_le, zi_eq, zi_div, zi_rem, zi_in, zA_get, zA_upd]
      refine ⟨by omega, fun a1 => ⟨by omega, by omega, ?_⟩, fun a1 => ⟨by omega, ?_⟩⟩
      · rw [upI_same]
        have := hold R (fun _ => Int.le_refl _) (fun _ _ => rfl) a1
        exact hkk _ ⟨R, by rw [hni], j1, j2, j3, j4, this.1, by rw [hni]; exact this.2⟩
      · have := hold (upI R n (R k + C)) (fun j => upI_le (by omega) j) (fun j hj => upI_n (by omega)) (by rw [upI_s]; exact Int.le_refl _)
        refine hkk _ ⟨upI R n (R k + C), by rw [hni], i32_up j1 (by omega), ?_, by rw [upI_n hnk0.symm]; exact j3, by rw [upI_n hnk.symm]; exact j4, this.1, by rw [hni]; exact this.2⟩
        intro j a2 a3
        by_cases hj : j = n
        · subst hj
          rw [upI_s]
          refine ⟨by omega, by omega, fun _ => ⟨by omega, ?_⟩⟩
          obtain ⟨ws, hw⟩ := (b2.2.2 (by omega)).2
          exact ⟨ws ++ [(i : Int)], (pt_snoc ws i k0 j _).mpr ⟨k, R k, hw, hkt, by omega, by omega, by omega, hng.symm, by rw [hcx]⟩⟩
        · rw [upI_n hj]; exact j2 j a2 a3
  · exact ⟨R0, rfl, i1, hS, hz, rfl, hO, fun _ _ v v0 v1 => by omega⟩
theorem p_findReach (hp : 1 ≤ p ∧ p ≤ 3) (hto : -1 ≤ to ∧ to < 100) (htw : i32 tw) (hsh : i32 sh) (hc : cB c) {m s : Int} (hm : 0 ≤ m ∧ m < 120) (hs : 0 ≤ s ∧ s < 100) {t1 : Nat → Int32} {post : (Nat → Int32) → Prop} (h : ∀ R : Int → Int, i32 R → (∀ k, 0 ≤ k → k < 12000 → Rch (nxT tw sh p) (csT c p) 5 to (100 * m + s) k (R k)) → post (zA R)) :
    wp_X12_findReach (zA tw) (zA sh) (zA c) t1 (zi m) (zi s) (zi to) (zi p) post := by
  have G : Gok (nxT tw sh p) (csT c p) 5 := Gok_T hp hc
  simp only [wp_X12_findReach]
  refine lp_inv (fun i s' => ∃ R : Int → Int, s' = (zA R, zi m, zi s, zi to, zi p, zi i) ∧ i32 R ∧ ∀ j, 0 ≤ j → j < (i : Int) → R j = 1000000) 12000 ?_ ?_ 0 (Nat.zero_le _) ?_
  · rintro s' ⟨R, rfl, j1, j2⟩ kk
    simp (disch := omega) only [wp_X12_findReach_L3, forall_eq, zi_lit, zi_add, zi_sub, zi_mul, zi_neg, zi_lt, zi_le, zi_eq, zi_div, zi_rem, zi_in, zA_get, zA_upd]
    refine ⟨fun _ => ⟨by omega, ?_⟩, fun z => absurd (by decide) z⟩
    generalize hk0 : 100 * m + s = k0 at *
    have hd : k0 / 100 = m := by omega
    refine lp_inv (fun i s' => ∃ R : Int → Int, s' = (zA R, zi to, zi p, zi (100 * m + i)) ∧ i32 R ∧ rSo (nxT tw sh p) (csT c p) 5 to k0 R ∧ R k0 = 0 ∧ (∀ j, 0 ≤ j → j < 100 * m + i → k0 / 100 ≤ j / 100 → rOf (nxT tw sh p) (csT c p) 5 to R j 5)) (12000 - 100 * m).toNat ?_ ?_ 0 (Nat.zero_le _) ?_
    · rintro s' ⟨R, rfl, j1, j2, j3, j4⟩ kk
      have hi : 100 * m + (((12000 - 100 * m).toNat : Nat) : Int) = 12000 := by omega
      rw [hi] at j4 ⊢
      simp (disch := omega) only [wp_X12_findReach_L45, zi_lit, zi_add, zi_sub, zi_mul, zi_neg, zi_lt, zi_le, zi_eq, zi_div, zi_rem, zi_in, zA_get, zA_upd]
      exact ⟨fun _ => h R j1 (Rch_of G (by omega) (by omega) j2 j3 (fun j a1 a2 a3 => j4 j a1 a2 a3)), fun z => absurd (by decide) z⟩
    · rintro i hi s' ⟨R, rfl, j1, j2, j3, j4⟩ kk hkk
      have hni : (100 : Int) * m + ((i + 1 : Nat) : Int) = 100 * m + (i : Int) + 1 := by omega
      have hkr : (0 : Int) ≤ 100 * m + i ∧ 100 * m + (i : Int) < 12000 := by omega
      generalize hk : (100 : Int) * m + i = k at *
      have b := j2 k hkr.1 hkr.2
      simp (disch := omega) only [wp_X12_findReach_L45, forall_eq, zi_lit, zi_add, zi_sub, zi_mul, zi_neg, zi_lt, zi_le, zi_eq, zi_div, zi_rem, zi_in, zA_get, zA_upd]
      have hsk : (¬ R k < 1000000 ∨ k % 100 = to) → kk (zA R, zi to, zi p, zi (k + 1)) := by
        intro hor
        refine hkk _ ⟨R, by rw [hni], j1, j2, j3, fun j a1 a2 a3 => ?_⟩
        by_cases hj : j = k
        · subst hj; intro q1 q2; omega
        · exact j4 j a1 (by omega) a3
      refine ⟨fun z => by omega, fun _ => ⟨by omega, fun a1 => hsk (by omega), fun a1 => ⟨fun a2 => hsk (by omega), fun a2 => ?_⟩⟩⟩
      refine p_fr_in hp hto htw hsh hc hkr.1 hkr.2 (by omega) j1 j2 j3 (by omega) a2 j4 (fun R' q1 q2 q3 q4 => ?_)
      simp only [zi_add]
      exact hkk _ ⟨R', by rw [hni], q1, q2, q3, fun j a1 a2 a3 => q4 j a1 (by omega) a3⟩
    · refine ⟨upI R k0 0, by simp, i32_up j1 (by omega), ?_, upI_s _ _ _, ?_⟩
      · intro j a1 a2
        by_cases hj : j = k0
        · subst hj; rw [upI_s]; exact ⟨by omega, by omega, fun _ => ⟨by omega, [], rfl, rfl⟩⟩
        · rw [upI_n hj, j2 j a1 (by omega)]; exact ⟨by omega, by omega, fun z => by omega⟩
      · intro j a1 a2 a3; omega
  · rintro i hi s' ⟨R, rfl, j1, j2⟩ kk hkk
    have hni : ((i + 1 : Nat) : Int) = (i : Int) + 1 := by omega
    simp (disch := omega) only [wp_X12_findReach_L3, forall_eq, zi_lit, zi_add, zi_sub, zi_mul, zi_neg, zi_lt, zi_le, zi_eq, zi_div, zi_rem, zi_in, zA_get, zA_upd]
    refine ⟨fun z => by omega, fun _ => ⟨by omega, hkk _ ⟨upI R i 1000000, by rw [hni], i32_up j1 (by omega), fun j a1 a2 => ?_⟩⟩⟩
    by_cases hj : j = i
    · subst hj; rw [upI_s]
    · rw [upI_n hj]; exact j2 j a1 (by omega)
  · obtain ⟨f1, e1, r1⟩ := zA_ex t1
    exact ⟨f1, by rw [e1]; rfl, r1, fun j a1 a2 => by omega⟩
end FR
