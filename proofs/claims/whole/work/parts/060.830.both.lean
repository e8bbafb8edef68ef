/-! all that nothing is better than -/
section BO
variable {nx : Int → Int → Int} {val : Int → Int → Int → Int} {nw to k0 lim en wt p : Int}
def J6 (nx : Int → Int → Int) (val : Int → Int → Int → Int) (nw to k0 lim en p ka : Int) (st : Sst) : Prop :=
  (∀ m, 0 ≤ m → m < 120 → st.2.2.2.1 (100 * m + to) ≤ lim → ∀ n m' v, m' < m → qv nx val nw to k0 lim en n (100 * m' + to) v → st.2.2.2.1 (100 * m + to) < v) ∧
  (∀ m, 0 ≤ m → m < 120 → 100 * (m - p + 1) ≤ ka → (st.2.2.2.1 (100 * m + to) ≤ lim → ∀ n v, qv nx val nw to k0 lim en n (100 * m + to) v → st.2.2.2.1 (100 * m + to) ≤ v) ∧ (lim < st.2.2.2.1 (100 * m + to) → ∀ n v, qv nx val nw to k0 lim en n (100 * m + to) v → ∃ m', 0 ≤ m' ∧ m' < m ∧ st.2.2.2.1 (100 * m' + to) ≤ v)) ∧
  (∀ m, 0 ≤ m → m < 120 → st.2.2.1 < m → lim < st.2.2.2.1 (100 * m + to)) ∧ st.2.2.1 ≤ ka / 100 + p
/-- an offer of a node changes only what is due later -/
theorem J6_ofr (H : Hyp nx val nw to k0 lim 1 p) {st : Sst} {ka w v0 : Int} (k0' : 0 ≤ ka) (k1' : ka < 12000) (hA' : Ja nx val nw to k0 lim en 1 p (ofr 1 to st (nx ka w) (val ka w v0))) (ht : ka % 100 ≠ to) (w0 : 0 ≤ w) (w1 : w < nw) (hn : 0 ≤ nx ka w) (h6 : J6 nx val nw to k0 lim en p ka st) (hm : st.1 ≤ lim) : J6 nx val nw to k0 lim en p ka (ofr 1 to st (nx ka w) (val ka w v0)) := by
  obtain ⟨G, V, hlim, hp, h0, h1, ha, hto⟩ := H
  have g := G ka w k0' k1' w0 w1 hn
  have ht2 := hto (by decide)
  by_cases hc : val ka w v0 ≤ st.1 ∧ val ka w v0 < st.2.2.2.1 (nx ka w)
  case neg =>
    have e : ofr 1 to st (nx ka w) (val ka w v0) = st := by rw [ofr, if_neg hc]
    rw [e]; exact h6
  have e : ofr 1 to st (nx ka w) (val ka w v0) = (if nx ka w % 100 = to then (if (1 : Int) = 0 then st.1 else if (1 : Int) = 1 then val ka w v0 - 1 else -1) else st.1, if nx ka w % 100 = to then val ka w v0 else st.2.1, if nx ka w % 100 = to then nx ka w / 100 else st.2.2.1, upI st.2.2.2.1 (nx ka w) (val ka w v0), upI st.2.2.2.2 (nx ka w) true) := by rw [ofr, if_pos hc]
  rw [e] at hA' ⊢
  generalize hng : nx ka w = n at *
  generalize hvg : val ka w v0 = v at *
  obtain ⟨b1, b2, b3, b4⟩ := h6
  by_cases htn : n % 100 = to
  · -- the target: at minute ka / 100 + p
    have hT := g.2.2.2 htn ht
    have en' : n = 100 * (n / 100) + to := by omega
    simp only [if_pos htn] at hA' ⊢
    have hR : ∀ m, m ≠ n / 100 → upI st.2.2.2.1 n v (100 * m + to) = st.2.2.2.1 (100 * m + to) := fun m hm => upI_n (by omega)
    refine ⟨fun m m0 m1 hle n' m' u hm' hq => ?_, fun m m0 m1 hka => ?_, fun m m0 m1 hmm => ?_, ?_⟩
    · replace hle : upI st.2.2.2.1 n v (100 * m + to) ≤ lim := hle
      show upI st.2.2.2.1 n v (100 * m + to) < u
      by_cases hmn : m = n / 100
      · subst hmn
        rw [← en', upI_s]
        rcases hA' with z | z
        · have : n / 100 = -1 := z.1
          omega
        · exact (z.2.2.2.2.2.2.1 n' m' u hq hm').1 rfl
      · rw [hR m hmn] at hle ⊢
        exact b1 m m0 m1 hle n' m' u hm' hq
    · have hmn : m ≠ n / 100 := by omega
      have q := b2 m m0 m1 hka
      show (upI st.2.2.2.1 n v (100 * m + to) ≤ lim → _) ∧ (lim < upI st.2.2.2.1 n v (100 * m + to) → _)
      rw [hR m hmn]
      refine ⟨fun z n' u hq => ?_, fun z n' u hq => ?_⟩
      · show upI st.2.2.2.1 n v (100 * m + to) ≤ u
        rw [hR m hmn]; exact q.1 z n' u hq
      · obtain ⟨m', y1, y2, y3⟩ := q.2 z n' u hq
        refine ⟨m', y1, y2, ?_⟩
        have := upI_le (f := st.2.2.2.1) (i := n) (v := v) (by omega) (100 * m' + to)
        show upI st.2.2.2.1 n v (100 * m' + to) ≤ u
        omega
    · replace hmm : n / 100 < m := hmm
      show lim < upI st.2.2.2.1 n v (100 * m + to)
      rw [hR m (by omega)]
      exact b3 m m0 m1 (by omega)
    · show n / 100 ≤ ka / 100 + p
      omega
  · simp only [if_neg htn]
    have hR : ∀ m, upI st.2.2.2.1 n v (100 * m + to) = st.2.2.2.1 (100 * m + to) := fun m => upI_n (by omega)
    refine ⟨fun m m0 m1 hle => ?_, fun m m0 m1 hka => ?_, fun m m0 m1 hmm => ?_, b4⟩
    · replace hle : upI st.2.2.2.1 n v (100 * m + to) ≤ lim := hle
      show ∀ n' m' u, m' < m → _ → upI st.2.2.2.1 n v (100 * m + to) < u
      rw [hR m] at hle ⊢
      exact b1 m m0 m1 hle
    · have q := b2 m m0 m1 hka
      show (upI st.2.2.2.1 n v (100 * m + to) ≤ lim → ∀ n' u, _ → upI st.2.2.2.1 n v (100 * m + to) ≤ u) ∧ (lim < upI st.2.2.2.1 n v (100 * m + to) → ∀ n' u, _ → ∃ m', 0 ≤ m' ∧ m' < m ∧ upI st.2.2.2.1 n v (100 * m' + to) ≤ u)
      rw [hR m]
      refine ⟨q.1, fun z n' u hq => ?_⟩
      obtain ⟨m', y1, y2, y3⟩ := q.2 z n' u hq
      exact ⟨m', y1, y2, by rw [hR m']; exact y3⟩
    · show lim < upI st.2.2.2.1 n v (100 * m + to)
      rw [hR m]; exact b3 m m0 m1 hmm
theorem J6_ofp (H : Hyp nx val nw to k0 lim 1 p) {st : Sst} {ka w v0 : Int} (k0' : 0 ≤ ka) (k1' : ka < 12000) (hk0 : k0 / 100 ≤ ka / 100) (hJ : Jall nx val nw to k0 lim en 1 p ka st) (hv0 : st.2.2.2.1 ka = v0) (hl : v0 ≤ lim) (ht : ka % 100 ≠ to) (w0 : 0 ≤ w) (w1 : w < nw) (h6 : J6 nx val nw to k0 lim en p ka st) : J6 nx val nw to k0 lim en p ka (ofp 1 to en nx (fun w => val ka w v0) ka st w) := by
  have jo := (J_ofp (w := w) H k0' k1' hk0 hJ hv0 hl ht w0 w1).1.2.1 (by decide)
  by_cases hc : 0 ≤ nx ka w ∧ nx ka w / 100 ≤ en
  · have e : ofp 1 to en nx (fun w => val ka w v0) ka st w = ofr 1 to st (nx ka w) (val ka w v0) := by rw [ofp, if_pos hc]
    rw [e] at jo ⊢
    exact J6_ofr H k0' k1' jo ht w0 w1 hc.1 h6 hJ.1.1.2
  · have e : ofp 1 to en nx (fun w => val ka w v0) ka st w = st := by rw [ofp, if_neg hc]
    rw [e]; exact h6
theorem J6_of4 (H : Hyp nx val nw to k0 lim 1 p) {st : Sst} {ka v0 : Int} (hnw : 4 ≤ nw) (k0' : 0 ≤ ka) (k1' : ka < 12000) (hk0 : k0 / 100 ≤ ka / 100) (hJ : Jall nx val nw to k0 lim en 1 p ka st) (hv0 : st.2.2.2.1 ka = v0) (hl : v0 ≤ lim) (ht : ka % 100 ≠ to) (h6 : J6 nx val nw to k0 lim en p ka st) : ∀ n : Nat, n ≤ 4 → J6 nx val nw to k0 lim en p ka (of4 1 to en nx (fun w => val ka w v0) ka st n)
  | 0, _ => h6
  | n + 1, hn => by
    obtain ⟨i1, i2, i3, i4, i5⟩ := J_of4 H hnw k0' k1' hk0 hJ hv0 hl ht n (by omega)
    exact J6_ofp (w := n) H k0' k1' hk0 i1 i5 hl ht (by omega) (by omega) (J6_of4 H hnw k0' k1' hk0 hJ hv0 hl ht h6 n (by omega))
theorem J6_gon (H : Hyp nx val nw to k0 lim 1 p) (hnw : nw = if wt = 0 then 4 else 5) {st : Sst} {ka : Int} (k0' : 0 ≤ ka) (k1' : ka < 12000) (hk0 : k0 / 100 ≤ ka / 100) (hJ : Jall nx val nw to k0 lim en 1 p ka st) (h6 : J6 nx val nw to k0 lim en p ka st) : J6 nx val nw to k0 lim en p ka (gon 1 to en wt nx val ka st) := by
  have hJ1 := hJ.1.1
  by_cases hc : st.1 < st.2.2.2.1 ka ∨ ka % 100 = to
  · have e : gon 1 to en wt nx val ka st = st := by rw [gon, if_pos hc]
    rw [e]; exact h6
  · have hc1 : ¬ st.1 < st.2.2.2.1 ka := fun z => hc (Or.inl z)
    have ht : ka % 100 ≠ to := fun z => hc (Or.inr z)
    have hl : st.2.2.2.1 ka ≤ lim := by omega
    have e : gon 1 to en wt nx val ka st = of4 1 to en nx (fun w => val ka w (st.2.2.2.1 ka)) ka (if wt = 0 then st else ofp 1 to en nx (fun w => val ka w (st.2.2.2.1 ka)) ka st 4) 4 := by rw [gon, if_neg hc]
    rw [e]
    by_cases hw : wt = 0
    · rw [if_pos hw] at hnw ⊢
      exact J6_of4 H (by omega) k0' k1' hk0 hJ rfl hl ht h6 4 (Nat.le_refl _)
    · rw [if_neg hw] at hnw ⊢
      obtain ⟨i1, i2, i3, i4, i5⟩ := J_ofp (w := 4) H k0' k1' hk0 hJ rfl hl ht (by omega) (by omega)
      have j6 := J6_ofp (w := 4) H k0' k1' hk0 hJ rfl hl ht (by omega) (by omega) h6
      exact J6_of4 H (by omega) k0' k1' hk0 i1 i5 hl ht j6 4 (Nat.le_refl _)
/-- the next node: a minute may be through -/
theorem J6_step (H : Hyp nx val nw to k0 lim 1 p) {st : Sst} {ka : Int} (k0' : 0 ≤ ka) (k1' : ka < 12000) (hJ : Jall nx val nw to k0 lim en 1 p (ka + 1) st) (h6 : J6 nx val nw to k0 lim en p ka st) (hen : en = 119) (hl : 0 ≤ lim) : J6 nx val nw to k0 lim en p (ka + 1) st := by
  obtain ⟨G, V, hlim, hp, h0, h1, ha, hto⟩ := H
  have ht := hto (by decide)
  obtain ⟨b1, b2, b3, b4⟩ := h6
  refine ⟨b1, fun m m0 m1 hka => ?_, b3, by omega⟩
  by_cases hold : 100 * (m - p + 1) ≤ ka
  · exact b2 m m0 m1 hold
  have hmk : ka / 100 = m - p := by omega
  have hgt : ∀ n v, qv nx val nw to k0 lim en n (100 * m + to) v → st.1 < v := by
    intro n v hq
    refine Classical.byContradiction (fun hn => ?_)
    have f := found G V hlim hp h0 h1 hJ.1 hJ.2.2 n _ v hq (by omega) (Or.inr ⟨by omega, by omega⟩)
    have := hJ.1.2.2.2.1 (by decide) m m0 m1
    omega
  have hA := hJ.2.1 (by decide)
  refine ⟨fun hle n v hq => ?_, fun hgt2 n v hq => ?_⟩
  · have g := hgt n v hq
    rcases hA with z | z
    · have := b3 m m0 m1 (by omega)
      omega
    · have z5 := z.2.2.2.2.1 rfl
      have hm : ¬ st.2.2.1 < m := fun y => by have := b3 m m0 m1 y; omega
      have e : st.2.2.1 = m := by omega
      have z3 := z.2.2.1
      rw [e] at z3
      omega
  · have g := hgt n v hq
    rcases hA with z | z
    · have r := qv_rng G V hlim h0 h1 n _ v hq
      by_cases hn : n = 0
      · subst hn
        have e0 := hq.1
        have e1 := hJ.1.2.2.2.2.1
        rw [← e0] at e1
        omega
      · have := r.2.2.2.2.1 hn
        omega
    · have z5 := z.2.2.2.2.1 rfl
      have z3 := z.2.2.1
      have z4 := z.2.2.2.1
      refine ⟨st.2.2.1, z.1, ?_, by omega⟩
      refine Classical.byContradiction (fun y => ?_)
      by_cases e : st.2.2.1 = m
      · rw [e] at z3; omega
      · omega
theorem J6_rst (H : Hyp nx val nw to k0 lim 1 p) (hnw : nw = if wt = 0 then 4 else 5) {st : Sst} {a : Int} (h0 : 0 ≤ a) (hk0 : k0 / 100 ≤ a / 100) (hJ : Jall nx val nw to k0 lim en 1 p a st) (h6 : J6 nx val nw to k0 lim en p a st) (hen : en = 119) (hl : 0 ≤ lim) : ∀ n : Nat, a + n ≤ 12000 → J6 nx val nw to k0 lim en p (a + n) (rst (fun k st => gon 1 to en wt nx val k st) st a n)
  | 0, _ => by simpa [rst] using h6
  | n + 1, hn => by
    have ih := J6_rst H hnw h0 hk0 hJ h6 hen hl n (by omega)
    have jn := J_rst H hnw h0 hk0 hJ n (by omega)
    have jn1 := J_rst H hnw h0 hk0 hJ (n + 1) (by omega)
    have e : a + ((n + 1 : Nat) : Int) = a + n + 1 := by omega
    rw [e] at jn1 ⊢
    refine J6_step H (by omega) (by omega) jn1 ?_ hen hl
    simp only [rst]
    split
    · exact J6_gon H hnw (by omega) (by omega) (by omega) jn ih
    · exact ih
end BO
