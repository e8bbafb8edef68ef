/-! the reference's findLeast -/
def i32 (f : Int → Int) : Prop := ∀ k, -2147483648 ≤ f k ∧ f k < 2147483648
theorem i32_up {f : Int → Int} (h : i32 f) {i v : Int} (hv : -2147483648 ≤ v ∧ v < 2147483648) : i32 (upI f i v) := by
  intro k
  by_cases hk : k = i
  · subst hk; rw [upI_s]; exact hv
  · rw [upI_n hk]; exact h k
/-- rows of least costs and ends from a node on -/
def lcB (lc le : Int → Int) (a : Int) : Prop := ∀ j, a ≤ j → j < 12000 → 0 ≤ lc j ∧ (lc j = 1000000 ∨ lc j ≤ 1000 * (119 - j / 100)) ∧ 0 ≤ le j ∧ le j ≤ 1000000
def hasV (nx cs : Int → Int → Int) (lc le : Int → Int) (nw k : Int) : Prop := lc k < 1000000 → ∃ v, 0 ≤ v ∧ v < nw ∧ 0 ≤ nx k v ∧ lc (nx k v) < 1000000 ∧ lc k = cs k v + lc (nx k v) ∧ le k = le (nx k v)
def allV (nx cs : Int → Int → Int) (lc le : Int → Int) (nw k : Int) : Prop := ∀ v, 0 ≤ v → v < nw → 0 ≤ nx k v → lc (nx k v) < 1000000 → lc k < cs k v + lc (nx k v) ∨ (lc k = cs k v + lc (nx k v) ∧ le k ≤ le (nx k v))
section FL
variable {tw sh c : Int → Int} {p wt to bym : Int}
theorem p_fl_in (hp : 1 ≤ p ∧ p ≤ 3) (hto : 0 ≤ to ∧ to < 100) (hb : 0 ≤ bym ∧ bym ≤ 119) (htw : i32 tw) (hsh : i32 sh) (hc : cB c) (hwt : wt = 0 ∨ wt = 1) {nw : Int} (hnw : nw = if wt = 0 then 4 else 5) {k : Int} (h0 : 0 ≤ k) (h1 : k < 12000) {lc0 le0 : Int → Int} (i1 : i32 lc0) (i2 : i32 le0) (hB : lcB lc0 le0 (k + 1)) {xx : (Nat → Int32) → (Nat → Int32) → Int32 → Int32 → Int32 → Int32 → Int32 → Prop} {post : (Nat → Int32) → (Nat → Int32) → Prop}
    (hx : ∀ lc le : Int → Int, i32 lc → i32 le → lcB lc le k → (∀ j, j ≠ k → lc j = lc0 j ∧ le j = le0 j) → hasV (nxT tw sh p) (csT c p) lc le nw k → allV (nxT tw sh p) (csT c p) lc le nw k → xx (zA lc) (zA le) (zi to) (zi p) (zi wt) (zi bym) (zi k)) :
    ∃ n, lp (wp_X12_findLeast_L98 xx (zA tw) (zA sh) (zA c) post) n (zA (upI lc0 k 1000000), zA (upI le0 k 1000000), zi to, zi p, zi wt, zi bym, zi k, zi (k / 100), zi (k % 100), 0) := by
  have hnw2 : nw = 4 ∨ nw = 5 := by rw [hnw]; split <;> omega
  have hwt2 : 0 ≤ wt ∧ wt ≤ 1 := by omega
  have hL : ∀ (kk : (Nat → Int32) × (Nat → Int32) × Int32 × Int32 × Int32 × Int32 × Int32 × Int32 × Int32 × Int32 → Prop) (a b : Nat → Int32) (i : Int32), wp_X12_findLeast_b109 xx kk (zA tw) (zA sh) (zA c) post a b (zi to) (zi p) (zi wt) (zi bym) (zi k) (zi (k / 100)) (zi (k % 100)) i (zi nw) i → wp_X12_findLeast_L98 xx (zA tw) (zA sh) (zA c) post kk (a, b, zi to, zi p, zi wt, zi bym, zi k, zi (k / 100), zi (k % 100), i) := by
    intro kk a b i hh
    simp (disch := omega) only [wp_X12_findLeast_L98, zi_lit, zi_eq]
    refine ⟨fun z => ?_, fun z => ?_⟩
    · rw [if_pos z] at hnw; rw [hnw] at hh; exact hh
    · rw [if_neg z] at hnw; rw [hnw] at hh; exact hh
  refine lp_inv (fun i s => ∃ lc le : Int → Int, s = (zA lc, zA le, zi to, zi p, zi wt, zi bym, zi k, zi (k / 100), zi (k % 100), zi i) ∧ i32 lc ∧ i32 le ∧ lcB lc le k ∧ (∀ j, j ≠ k → lc j = lc0 j ∧ le j = le0 j) ∧ hasV (nxT tw sh p) (csT c p) lc le i k ∧ allV (nxT tw sh p) (csT c p) lc le i k) nw.toNat ?_ ?_ 0 (Nat.zero_le _) ?_
  · rintro s ⟨lc, le, rfl, j1, j2, jB, jr, je, ja⟩ kk
    have hni : ((nw.toNat : Nat) : Int) = nw := by omega
    rw [hni] at je ja
    have := hx lc le j1 j2 jB jr je ja
    refine hL _ _ _ _ ?_
    simp only [wp_X12_findLeast_b109]
    refine ⟨fun _ => this, fun z => ?_⟩
    rw [zi_le (by omega)] at z; omega
  · rintro i hi s ⟨lc, le, rfl, j1, j2, jB, jr, je, ja⟩ kk hkk
    have hi5 : (i : Int) < nw := by omega
    have hni : ((i + 1 : Nat) : Int) = (i : Int) + 1 := by omega
    have key : wp_X12_findLeast_b109 xx kk (zA tw) (zA sh) (zA c) post (zA lc) (zA le) (zi to) (zi p) (zi wt) (zi bym) (zi k) (zi (k / 100)) (zi (k % 100)) (zi i) (zi nw) (zi i) := by
      simp only [wp_X12_findLeast_b109]
      refine ⟨fun z => ?_, fun _ => ?_⟩
      · rw [zi_le (by omega)] at z; omega
      refine p_behind htw hsh hp (by omega) (by omega) (by omega) ?_
      have hbr := bhd_rng (tw := tw) (sh := sh) (w := i) hp (show 0 ≤ k / 100 ∧ k / 100 < 120 by omega) (show 0 ≤ k % 100 ∧ k % 100 < 100 by omega)
      have hl := plen_rng (w := i) hp
      have hnx : nxT tw sh p k i = bhd tw sh p (k / 100) (k % 100) i := rfl
      have hcx : csT c p k i = cst c p (k / 100) (k % 100) i := rfl
      rw [← hnx] at hbr ⊢
      have hskip : (0 ≤ nxT tw sh p k i → ¬ lc (nxT tw sh p k i) < 1000000) → kk (zA lc, zA le, zi to, zi p, zi wt, zi bym, zi k, zi (k / 100), zi (k % 100), zi (i + 1)) := by
        intro hno
        refine hkk _ ⟨lc, le, by rw [hni], j1, j2, jB, jr, fun hlt => ?_, fun v v0 v1 v2 v3 => ?_⟩
        · obtain ⟨v, v0, v1, v2⟩ := je hlt
          exact ⟨v, v0, by omega, v2⟩
        · by_cases hv : v = i
          · subst hv; exact absurd v3 (hno v2)
          · exact ja v v0 (by omega) v2 v3
      generalize hng : nxT tw sh p k i = n at *
      rcases hbr with rfl | ⟨n0, n1, n2, n3, n4⟩
      · refine ⟨fun _ => ?_, fun h => ?_⟩
        · simp only [forall_eq, zi_lit, zi_add]
          exact hskip (by omega)
        · exact absurd (show zi (-1) < 0 by decide) h
      · have hcs : 0 ≤ cst c p (k / 100) (k % 100) i ∧ cst c p (k / 100) (k % 100) i ≤ 1000 * plen i p := by
          have := csm_rng (c := c) (m := k / 100) (s := k % 100) hc (by omega) (by omega) (plen i p).toNat (by omega)
          simp only [cst]
          omega
        have b1 := jB n (by omega) n1
        have b2 := jB k (by omega) h1
        simp (disch := omega) only [zi_lit, zi_add, zi_sub, zi_mul, zi_neg, zi_lt, zi_le, zi_eq, zi_div, zi_rem, zi_in, zA_get, zA_upd]
        refine ⟨fun h => by omega, fun _ => ⟨by omega, fun h2 => ?_, fun h2 => ?_⟩⟩
        · simp only [forall_eq, zi_lit, zi_add]
          exact hskip (by omega)
        · refine p_costOf hc hp (by omega) (by omega) (by omega) ?_
          have hdo : (csT c p k i + lc n < lc k ∨ (csT c p k i + lc n = lc k ∧ le n < le k)) → kk (zA (upI lc k (csT c p k i + lc n)), zA (upI le k (le n)), zi to, zi p, zi wt, zi bym, zi k, zi (k / 100), zi (k % 100), zi (i + 1)) := by
            intro hless
            have hnk : n ≠ k := by omega
            refine hkk _ ⟨upI lc k (csT c p k i + lc n), upI le k (le n), by rw [hni], i32_up j1 (by omega), i32_up j2 (by omega), ?_, ?_, fun _ => ?_, ?_⟩
            · intro j ja1 ja2
              by_cases hj : j = k
              · subst hj; rw [upI_s, upI_s]; omega
              · rw [upI_n hj, upI_n hj]; exact jB j ja1 ja2
            · intro j hj
              rw [upI_n hj, upI_n hj]; exact jr j hj
            · refine ⟨i, by omega, by omega, by omega, ?_⟩
              rw [hng, upI_n hnk, upI_n hnk, upI_s, upI_s]
              exact ⟨by omega, rfl, rfl⟩
            · intro v v0 v1 v2 v3
              have hvk : nxT tw sh p k v ≠ k := by
                have := bhd_rng (tw := tw) (sh := sh) (w := v) hp (show 0 ≤ k / 100 ∧ k / 100 < 120 by omega) (show 0 ≤ k % 100 ∧ k % 100 < 100 by omega)
                have hl2 := plen_rng (w := v) hp
                simp only [nxT] at v2 ⊢
                omega
              rw [upI_n hvk] at v3
              rw [upI_n hvk, upI_n hvk, upI_s, upI_s]
              by_cases hv : v = i
              · subst hv; rw [hng]; exact Or.inr ⟨rfl, Int.le_refl _⟩
              · have := ja v v0 (by omega) v2 v3
                omega
          have hno : ¬ (csT c p k i + lc n < lc k ∨ (csT c p k i + lc n = lc k ∧ le n < le k)) → kk (zA (upI lc k (lc k)), zA (upI le k (le k)), zi to, zi p, zi wt, zi bym, zi k, zi (k / 100), zi (k % 100), zi (i + 1)) := by
            intro hless
            rw [upI_same, upI_same]
            refine hkk _ ⟨lc, le, by rw [hni], j1, j2, jB, jr, fun hlt => ?_, fun v v0 v1 v2 v3 => ?_⟩
            · obtain ⟨v, v0, v1, v2⟩ := je hlt
              exact ⟨v, v0, by omega, v2⟩
            · by_cases hv : v = i
              · subst hv; rw [hng] at v3 ⊢; omega
              · exact ja v v0 (by omega) v2 v3
          rw [hcx] at hdo hno
          generalize cst c p (k / 100) (k % 100) i = C at *
          simp (disch := omega) only [wp_X12_findLeast_b205, wp_X12_findLeast_b209, wp_X12_findLeast_b210, wp_X12_findLeast_b240, forall_eq, zi_lit, zi_add, zi_sub, zi_mul, zi_neg, zi_lt, zi_le, zi_eq, zi_div, zi_rem, zi_in, zA_get, zA_upd]
          refine ⟨by omega, by omega, fun a1 => ?_, fun a1 => ⟨by omega, fun a2 => ?_, fun a2 => ⟨by omega, by omega, fun a3 => ?_, fun a3 => ?_⟩⟩⟩
          · exact ⟨fun z => (by first | omega | exact absurd trivial z | exact absurd rfl z), fun _ => ⟨by omega, by omega, fun z => (by first | omega | exact absurd trivial z | exact absurd rfl z), fun _ => ⟨by omega, hdo (by omega)⟩⟩⟩
          · exact ⟨fun _ => ⟨by omega, by omega, fun z => ⟨by omega, by omega, hno (by omega)⟩, fun z => (by first | omega | exact absurd trivial z | exact absurd rfl z)⟩, fun z => (by first | omega | exact absurd trivial z | exact absurd rfl z)⟩
          · exact ⟨fun _ => ⟨by omega, by omega, fun z => ⟨by omega, by omega, hno (by omega)⟩, fun z => (by first | omega | exact absurd trivial z | exact absurd rfl z)⟩, fun z => (by first | omega | exact absurd trivial z | exact absurd rfl z)⟩
          · exact ⟨fun z => (by first | omega | exact absurd trivial z | exact absurd rfl z), fun _ => ⟨by omega, by omega, fun z => (by first | omega | exact absurd trivial z | exact absurd rfl z), fun _ => ⟨by omega, hdo (by omega)⟩⟩⟩
    exact hL _ _ _ _ key
  · refine ⟨_, _, rfl, i32_up i1 (by omega), i32_up i2 (by omega), ?_, ?_, ?_, ?_⟩
    · intro j ja1 ja2
      by_cases hj : j = k
      · subst hj; rw [upI_s, upI_s]; omega
      · rw [upI_n hj, upI_n hj]; exact hB j (by omega) ja2
    · intro j hj
      exact ⟨upI_n hj, upI_n hj⟩
    · intro h; rw [upI_s] at h; omega
    · intro v v0 v1; omega
theorem p_findLeast (hp : 1 ≤ p ∧ p ≤ 3) (hto : 0 ≤ to ∧ to < 100) (hb : 0 ≤ bym ∧ bym ≤ 119) (htw : i32 tw) (hsh : i32 sh) (hc : cB c) (hwt : wt = 0 ∨ wt = 1) {nw : Int} (hnw : nw = if wt = 0 then 4 else 5) {t1 t2 : Nat → Int32} {post : (Nat → Int32) → (Nat → Int32) → Prop}
    (h : ∀ lc le : Int → Int, i32 lc → i32 le → lcB lc le 0 → (∀ k, 0 ≤ k → k < 12000 → tw (k % 100) ≠ 1 → Bst (nxT tw sh p) (csT c p) nw to bym k (lc k) (le k)) → post (zA lc) (zA le)) :
    wp_X12_findLeast (zA tw) (zA sh) (zA c) t1 t2 (zi to) (zi p) (zi wt) (zi bym) post := by
  have G : Gok (nxT tw sh p) (csT c p) nw := Gok_T hp hc
  simp only [wp_X12_findLeast]
  refine lp_inv (fun i s => ∃ lc le : Int → Int, s = (zA lc, zA le, zi to, zi p, zi wt, zi bym, zi (11999 - i)) ∧ i32 lc ∧ i32 le ∧ lcB lc le (12000 - i) ∧ (∀ k, 12000 - (i : Int) ≤ k → k < 12000 → tw (k % 100) ≠ 1 → Bst (nxT tw sh p) (csT c p) nw to bym k (lc k) (le k))) 12000 ?_ ?_ 0 (Nat.zero_le _) ?_
  · rintro s ⟨lc, le, rfl, j1, j2, jB, jb⟩ kk
    have := h lc le j1 j2 (by simpa using jB) (fun k h0 h1 h2 => jb k (by omega) h1 h2)
    simp (disch := omega) only [wp_X12_findLeast_L5, forall_eq, zi_lit, zi_add, zi_sub, zi_mul, zi_neg, zi_lt, zi_le, zi_eq, zi_div, zi_rem, zi_in, zA_get, zA_upd]
    exact ⟨fun _ => this, fun z => by omega⟩
  · rintro i hi s ⟨lc, le, rfl, j1, j2, jB, jb⟩ kk hkk
    have hni : ((i + 1 : Nat) : Int) = (i : Int) + 1 := by omega
    generalize hk : (11999 : Int) - i = k at *
    have hk1 : (12000 : Int) - i = k + 1 := by omega
    have hk2 : (12000 : Int) - ((i + 1 : Nat) : Int) = k := by omega
    have hk3 : (11999 : Int) - ((i + 1 : Nat) : Int) = k + -1 := by omega
    rw [hk1] at jB jb
    have htk := htw (k % 100)
    have hnext : ∀ lc' le' : Int → Int, i32 lc' → i32 le' → lcB lc' le' k → (∀ j, j ≠ k → lc' j = lc j ∧ le' j = le j) → (tw (k % 100) ≠ 1 → Bst (nxT tw sh p) (csT c p) nw to bym k (lc' k) (le' k)) → kk (zA lc', zA le', zi to, zi p, zi wt, zi bym, zi (k + -1)) := by
      intro lc' le' k1 k2 k3 k4 k5
      refine hkk _ ⟨lc', le', by rw [hk3], k1, k2, by rw [hk2]; exact k3, fun j a1 a2 a3 => ?_⟩
      by_cases hj : j = k
      · subst hj; exact k5 a3
      · rw [(k4 j hj).1, (k4 j hj).2]; exact jb j (by omega) a2 a3
    have hfar : (k / 100 ≤ bym → False) ∨ tw (k % 100) = 1 ∨ (bym ≤ k / 100 ∧ k % 100 ≠ to) → kk (zA (upI lc k 1000000), zA (upI le k 1000000), zi to, zi p, zi wt, zi bym, zi (k + -1)) := by
      intro hor
      refine hnext _ _ (i32_up j1 (by omega)) (i32_up j2 (by omega)) ?_ (fun j hj => ⟨upI_n hj, upI_n hj⟩) (fun ht => ?_)
      · intro j a1 a2
        by_cases hj : j = k
        · subst hj; rw [upI_s, upI_s]; omega
        · rw [upI_n hj, upI_n hj]; exact jB j (by omega) a2
      · rw [upI_s, upI_s]
        rcases hor with h1 | h1 | h1
        · exact Bst_late G (by omega) (by omega) h1
        · exact absurd h1 ht
        · refine ⟨fun z => by omega, fun ws k' c' hpt ht' hb' => ?_, by omega⟩
          have := pt_rng G ws k k' c' (by omega) (by omega) hpt
          omega
    have hin : tw (k % 100) ≠ 1 → k % 100 ≠ to → ∃ n, lp (wp_X12_findLeast_L98 (fun t_leastCost t_leastEnd l1 l2 l3 l4 l5 => ∀ y271 : Int32, y271 = l5 + (-1) → (kk (t_leastCost, t_leastEnd, l1, l2, l3, l4, y271))) (zA tw) (zA sh) (zA c) post) n (zA (upI lc k 1000000), zA (upI le k 1000000), zi to, zi p, zi wt, zi bym, zi k, zi (k / 100), zi (k % 100), 0) := by
      intro ht hne
      refine p_fl_in hp hto hb htw hsh hc hwt hnw (by omega) (by omega) j1 j2 jB ?_
      intro lc' le' k1 k2 k3 k4 k5 k6
      simp only [forall_eq, zi_lit, zi_neg, zi_add]
      refine hnext lc' le' k1 k2 k3 k4 (fun _ => ?_)
      refine Bst_back G (lc := lc') (le := le') (by omega) (by omega) hne (fun w w0 w1 wn => ?_) (by have := k3 k (by omega) (by omega); omega) k5 k6
      have g := G k w (by omega) (by omega) w0 w1 wn
      have hne2 : nxT tw sh p k w ≠ k := by omega
      have hth : tw (nxT tw sh p k w % 100) ≠ 1 := by
        have := bhd_rng (tw := tw) (sh := sh) (w := w) hp (show 0 ≤ k / 100 ∧ k / 100 < 120 by omega) (show 0 ≤ k % 100 ∧ k % 100 < 100 by omega)
        simp only [nxT] at wn ⊢
        omega
      rw [(k4 _ hne2).1, (k4 _ hne2).2]
      exact jb _ (by omega) g.1 hth
    simp (disch := omega) only [wp_X12_findLeast_L5, wp_X12_findLeast_b77, forall_eq, zi_lit, zi_neg, zi_add, zi_lt, zi_in, zi_div, zi_rem, zA_upd, zi_le, zi_eq, zA_get, upI_twice]
    simp only [zi_lit, zi_neg, forall_eq] at hin
    refine ⟨fun z => by omega, fun _ => ⟨by omega, by omega, fun a1 => ⟨fun a2 => hfar (by omega), fun a2 => by omega⟩, fun a1 => ⟨fun a2 => ⟨fun a3 => hfar (by omega), fun a3 => ⟨by omega, fun a4 => hfar (by omega), fun a4 => ?_⟩⟩, fun a2 => ⟨by omega, by omega, ?_⟩⟩⟩⟩
    · exact hin a4 a2
    · refine hnext _ _ (i32_up j1 (by omega)) (i32_up j2 (by omega)) ?_ (fun j hj => ⟨upI_n hj, upI_n hj⟩) (fun ht => ?_)
      · intro j a1 a2
        by_cases hj : j = k
        · subst hj; rw [upI_s, upI_s]; omega
        · rw [upI_n hj, upI_n hj]; exact jB j (by omega) a2
      · rw [upI_s, upI_s]; exact Bst_at G (by omega) (by omega) a2 (by omega)
  · obtain ⟨f1, e1, r1⟩ := zA_ex t1
    obtain ⟨f2, e2, r2⟩ := zA_ex t2
    refine ⟨f1, f2, by rw [e1, e2]; rfl, r1, r2, fun j a1 a2 => by omega, fun j a1 a2 => by omega⟩
end FL
