/-! what a search finds -/
/-- nodes that can be come to in so many pieces, and with what -/
def qv (nx : Int → Int → Int) (val : Int → Int → Int → Int) (nw to k0 lim en : Int) : Nat → Int → Int → Prop
  | 0, k, v => k = k0 ∧ v = 0
  | n + 1, k, v => ∃ j u w, qv nx val nw to k0 lim en n j u ∧ j % 100 ≠ to ∧ 0 ≤ w ∧ w < nw ∧ 0 ≤ nx j w ∧ k = nx j w ∧ v = val j w u ∧ v ≤ lim ∧ k / 100 ≤ en
def Gv (nx : Int → Int → Int) (nw to p : Int) : Prop := ∀ k w, 0 ≤ k → k < 12000 → 0 ≤ w → w < nw → 0 ≤ nx k w → nx k w < 12000 ∧ k / 100 < nx k w / 100 ∧ nx k w ≠ -1 ∧ (nx k w % 100 = to → k % 100 ≠ to → nx k w / 100 = k / 100 + p)
def Vv (nx : Int → Int → Int) (val : Int → Int → Int → Int) (nw lim aims : Int) : Prop := (∀ k w u u', 0 ≤ k → k < 12000 → 0 ≤ w → w < nw → 0 ≤ nx k w → 0 ≤ u → u ≤ u' → u' ≤ 268435456 → 0 ≤ val k w u ∧ val k w u ≤ val k w u') ∧ (∀ k w u ms, 0 ≤ k → k < 12000 → 0 ≤ w → w < nw → 0 ≤ nx k w → 0 ≤ u → u ≤ 268435456 → (aims = 3 → (u ≤ lim ∨ u = 268435456) ∧ (ms = lim ∨ ms = -1)) → val k w u ≤ ms → u ≤ ms)
section SE
variable {nx : Int → Int → Int} {val : Int → Int → Int → Int} {nw to k0 lim en aims wt p : Int}
theorem qv_rng (G : Gv nx nw to p) (V : Vv nx val nw lim aims) (hlim : -1 ≤ lim ∧ lim ≤ 268435455) (h0 : 0 ≤ k0) (h1 : k0 < 12000) : ∀ (n : Nat) (k v : Int), qv nx val nw to k0 lim en n k v → 0 ≤ k ∧ k < 12000 ∧ k0 / 100 ≤ k / 100 ∧ 0 ≤ v ∧ (n ≠ 0 → v ≤ lim) ∧ (k = k0 ∨ k0 / 100 < k / 100) ∧ v ≤ 268435455
  | 0, k, v, h => by obtain ⟨rfl, rfl⟩ := h; omega
  | n + 1, k, v, h => by
    obtain ⟨j, u, w, hj, ht, w0, w1, hn, rfl, rfl, hl, he⟩ := h
    have r := qv_rng G V hlim h0 h1 n j u hj
    have g := G j w r.1 r.2.1 w0 w1 hn
    have v1 := V.1 j w u u r.1 r.2.1 w0 w1 hn r.2.2.2.1 (Int.le_refl _) (by omega)
    exact ⟨hn, g.1, by omega, v1.1, fun _ => hl, by omega, by omega⟩
/-- all offers of a node so far -/
def rel (nx : Int → Int → Int) (val : Int → Int → Int → Int) (to en : Int) (st : Sst) (j n : Int) : Prop := j % 100 ≠ to → ∀ w, 0 ≤ w → w < n → 0 ≤ nx j w → nx j w / 100 ≤ en → st.2.2.2.1 (nx j w) ≤ val j w (st.2.2.2.1 j) ∨ st.1 < val j w (st.2.2.2.1 j)
def Jb (nx : Int → Int → Int) (val : Int → Int → Int → Int) (nw to k0 lim en aims : Int) (st : Sst) : Prop :=
  (-1 ≤ st.1 ∧ st.1 ≤ lim) ∧ (∀ j, 0 ≤ j → j < 12000 → 0 ≤ st.2.2.2.1 j ∧ st.2.2.2.1 j ≤ 268435456 ∧ (aims = 3 → st.2.2.2.1 j ≤ lim ∨ st.2.2.2.1 j = 268435456)) ∧ (∀ j, 0 ≤ j → j < 12000 → st.2.2.2.1 j ≤ lim → ∃ n v, qv nx val nw to k0 lim en n j v ∧ v ≤ st.2.2.2.1 j) ∧ (aims ≠ 0 → ∀ m, 0 ≤ m → m < 120 → st.1 < st.2.2.2.1 (100 * m + to)) ∧ st.2.2.2.1 k0 = 0 ∧ (aims = 3 → st.1 = lim ∨ st.1 = -1)
/-- who has come first -/
def Ja (nx : Int → Int → Int) (val : Int → Int → Int → Int) (nw to k0 lim en aims p : Int) (st : Sst) : Prop :=
  (st.2.2.1 = -1 ∧ st.1 = lim) ∨ (0 ≤ st.2.2.1 ∧ st.2.2.1 ≤ en ∧ st.2.2.2.1 (100 * st.2.2.1 + to) = st.2.1 ∧ st.2.1 ≤ lim ∧ (aims = 1 → st.1 = st.2.1 - 1) ∧ (aims ≠ 1 → st.1 = -1) ∧ (∀ n m v, qv nx val nw to k0 lim en n (100 * m + to) v → m < st.2.2.1 → (aims = 1 → st.2.1 < v) ∧ (aims ≠ 1 → lim < v)) ∧ (∀ n k v, qv nx val nw to k0 lim en n k v → v ≤ st.2.1 → k / 100 ≤ st.2.2.1 - p → st.2.2.2.1 k ≤ v))
def Jr (nx : Int → Int → Int) (val : Int → Int → Int → Int) (nw to en : Int) (ka : Int) (st : Sst) : Prop := ∀ j, 0 ≤ j → j < 12000 → (st.2.2.2.2 j = false ∨ j < ka) → rel nx val to en st j nw
/-- a way that costs no more than the most has been found, if it came from ahead of the minute -/
theorem found (G : Gv nx nw to p) (V : Vv nx val nw lim aims) (hlim : -1 ≤ lim ∧ lim ≤ 268435455) (hp : 1 ≤ p) (h0 : 0 ≤ k0) (h1 : k0 < 12000) {st : Sst} {ka : Int} (hJ : Jb nx val nw to k0 lim en aims st) (hR : Jr nx val nw to en ka st) : ∀ (n : Nat) (k v : Int), qv nx val nw to k0 lim en n k v → v ≤ st.1 → (k / 100 ≤ ka / 100 ∨ (k % 100 = to ∧ k / 100 < ka / 100 + p)) → st.2.2.2.1 k ≤ v
  | 0, k, v, h, hv, _ => by obtain ⟨rfl, rfl⟩ := h; have := hJ.2.2.2.2.1; omega
  | n + 1, k, v, h, hv, hk => by
    obtain ⟨j, u, w, hj, ht, w0, w1, hn, rfl, rfl, hl, he⟩ := h
    have r := qv_rng G V hlim h0 h1 n j u hj
    have hJ1 := hJ.1
    have hu : u ≤ 268435456 := by omega
    have hul : u ≤ lim ∨ u = 0 := by
      by_cases hz : n = 0
      · subst hz; exact Or.inr hj.2
      · exact Or.inl (r.2.2.2.2.1 hz)
    have g := G j w r.1 r.2.1 w0 w1 hn
    have hjk : j / 100 < ka / 100 := by
      rcases hk with z | z
      · omega
      · have := g.2.2.2 z.1 ht; omega
    have v1 := V.1 j w u u r.1 r.2.1 w0 w1 hn r.2.2.2.1 (Int.le_refl _) hu
    have um := V.2 j w u st.1 r.1 r.2.1 w0 w1 hn r.2.2.2.1 hu (fun q => ⟨by have := hJ.2.2.2.2.2 q; omega, hJ.2.2.2.2.2 q⟩) hv
    have ih := found G V hlim hp h0 h1 hJ hR n j u hj um (Or.inl (by omega))
    have b := (hJ.2.1 j r.1 r.2.1)
    have v2 := V.1 j w (st.2.2.2.1 j) u r.1 r.2.1 w0 w1 hn b.1 ih hu
    have q := hR j r.1 r.2.1 (Or.inr (by omega)) ht w w0 w1 hn he
    omega
theorem Jr_mono {st st' : Sst} {ka n : Int} (hR : Jr nx val nw to en ka st) (hn : ka < n) (h1 : ∀ j, j ≠ n → st'.2.2.2.1 j = st.2.2.2.1 j ∧ st'.2.2.2.2 j = st.2.2.2.2 j) (h2 : st'.2.2.2.1 n ≤ st.2.2.2.1 n) (h3 : st'.1 ≤ st.1) (h4 : st'.2.2.2.2 n = true) : Jr nx val nw to en ka st' := by
  intro j j0 j1 hj ht w w0 w1 hw he
  have hjn : j ≠ n := by
    intro z
    subst z
    rcases hj with z | z
    · rw [h4] at z; exact absurd z (by decide)
    · omega
  rw [(h1 j hjn).2] at hj
  have q := hR j j0 j1 hj ht w w0 w1 hw he
  rw [(h1 j hjn).1]
  by_cases hz : nx j w = n
  · rw [hz] at q ⊢; omega
  · rw [(h1 _ hz).1]; omega
/-- an offer -/
theorem J_ofr (G : Gv nx nw to p) (V : Vv nx val nw lim aims) (hlim : -1 ≤ lim ∧ lim ≤ 268435455) (hp : 1 ≤ p) (h0 : 0 ≤ k0) (h1 : k0 < 12000) (ha : 0 ≤ aims ∧ aims ≤ 3) (hto : aims ≠ 0 → 0 ≤ to ∧ to < 100) {st : Sst} {ka w v0 : Int} (k0' : 0 ≤ ka) (k1' : ka < 12000) (hk0 : k0 / 100 ≤ ka / 100) (hJ : Jb nx val nw to k0 lim en aims st) (hA : aims ≠ 0 → Ja nx val nw to k0 lim en aims p st) (hR : Jr nx val nw to en ka st) (hv0 : st.2.2.2.1 ka = v0) (hl : v0 ≤ lim) (ht : ka % 100 ≠ to) (w0 : 0 ≤ w) (w1 : w < nw) (hn : 0 ≤ nx ka w) (he : nx ka w / 100 ≤ en) :
    Jb nx val nw to k0 lim en aims (ofr aims to st (nx ka w) (val ka w v0)) ∧ (aims ≠ 0 → Ja nx val nw to k0 lim en aims p (ofr aims to st (nx ka w) (val ka w v0))) ∧ Jr nx val nw to en ka (ofr aims to st (nx ka w) (val ka w v0)) ∧ ((ofr aims to st (nx ka w) (val ka w v0)).2.2.2.1 (nx ka w) ≤ val ka w v0 ∨ (ofr aims to st (nx ka w) (val ka w v0)).1 < val ka w v0) ∧ (∀ j, (ofr aims to st (nx ka w) (val ka w v0)).2.2.2.1 j ≤ st.2.2.2.1 j) ∧ (ofr aims to st (nx ka w) (val ka w v0)).1 ≤ st.1 ∧ (ofr aims to st (nx ka w) (val ka w v0)).2.2.2.1 ka = v0 := by
  have g := G ka w k0' k1' w0 w1 hn
  have bk := hJ.2.1 ka k0' k1'
  have vb := V.1 ka w v0 v0 k0' k1' w0 w1 hn (by omega) (Int.le_refl _) (by omega)
  have hJ1 := hJ.1
  by_cases hc : val ka w v0 ≤ st.1 ∧ val ka w v0 < st.2.2.2.1 (nx ka w)
  case neg =>
    have e : ofr aims to st (nx ka w) (val ka w v0) = st := by rw [ofr, if_neg hc]
    rw [e]
    exact ⟨hJ, hA, hR, by omega, fun _ => Int.le_refl _, Int.le_refl _, hv0⟩
  have e : ofr aims to st (nx ka w) (val ka w v0) = (if nx ka w % 100 = to then (if aims = 0 then st.1 else if aims = 1 then val ka w v0 - 1 else -1) else st.1, if nx ka w % 100 = to then val ka w v0 else st.2.1, if nx ka w % 100 = to then nx ka w / 100 else st.2.2.1, upI st.2.2.2.1 (nx ka w) (val ka w v0), upI st.2.2.2.2 (nx ka w) true) := by rw [ofr, if_pos hc]
  have hm : -1 ≤ (if nx ka w % 100 = to then (if aims = 0 then st.1 else if aims = 1 then val ka w v0 - 1 else -1) else st.1) ∧ (if nx ka w % 100 = to then (if aims = 0 then st.1 else if aims = 1 then val ka w v0 - 1 else -1) else st.1) ≤ st.1 := by
    repeat' split
    all_goals omega
  have hfnd := found (en := en) G V hlim hp h0 h1 hJ hR
  generalize hng : nx ka w = n at *
  generalize hvg : val ka w v0 = v at *
  rw [e]
  refine ⟨⟨⟨hm.1, by show _ ≤ lim; omega⟩, fun j j0 j1 => ?_, fun j j0 j1 hj => ?_, fun q m m0 m1 => ?_, ?_, fun q => ?_⟩, fun q => ?_, ?_, ?_, ?_, hm.2, ?_⟩
  · show 0 ≤ upI st.2.2.2.1 n v j ∧ upI st.2.2.2.1 n v j ≤ 268435456 ∧ (aims = 3 → upI st.2.2.2.1 n v j ≤ lim ∨ upI st.2.2.2.1 n v j = 268435456)
    by_cases hj : j = n
    · subst hj; rw [upI_s]; omega
    · rw [upI_n hj]; exact hJ.2.1 j j0 j1
  · replace hj : upI st.2.2.2.1 n v j ≤ lim := hj
    show ∃ n' v', qv nx val nw to k0 lim en n' j v' ∧ v' ≤ upI st.2.2.2.1 n v j
    by_cases hjn : j = n
    · subst hjn
      rw [upI_s] at hj ⊢
      obtain ⟨n', u, hq, hu⟩ := hJ.2.2.1 ka k0' k1' (by omega)
      have r := qv_rng G V hlim h0 h1 n' ka u hq
      have v2 := V.1 ka w u v0 k0' k1' w0 w1 (by omega) r.2.2.2.1 (by omega) (by omega)
      rw [hvg] at v2
      exact ⟨n' + 1, val ka w u, ⟨ka, u, w, hq, ht, w0, w1, by omega, hng.symm, rfl, by omega, he⟩, v2.2⟩
    · rw [upI_n hjn] at hj ⊢
      exact hJ.2.2.1 j j0 j1 hj
  · show (if n % 100 = to then (if aims = 0 then st.1 else if aims = 1 then v - 1 else -1) else st.1) < upI st.2.2.2.1 n v (100 * m + to)
    have h3 := hJ.2.2.2.1 q m m0 m1
    by_cases hj : 100 * m + to = n
    · rw [hj, upI_s]
      have : n % 100 = to := by have := hto q; omega
      rw [if_pos this, if_neg q]
      split <;> omega
    · rw [upI_n hj]; omega
  · show upI st.2.2.2.1 n v k0 = 0
    rw [upI_n (by omega)]
    exact hJ.2.2.2.2.1
  · show (if n % 100 = to then (if aims = 0 then st.1 else if aims = 1 then v - 1 else -1) else st.1) = lim ∨ (if n % 100 = to then (if aims = 0 then st.1 else if aims = 1 then v - 1 else -1) else st.1) = -1
    split
    · rw [if_neg (by omega), if_neg (by omega)]; exact Or.inr rfl
    · exact hJ.2.2.2.2.2 q
  · by_cases htn : n % 100 = to
    · refine Or.inr ?_
      simp only [if_pos htn, if_neg q]
      have hnt : 100 * (n / 100) + to = n := by omega
      refine ⟨by omega, he, ?_, by omega, fun a1 => by rw [if_pos a1], fun a1 => by rw [if_neg a1], fun n' m u hq hmn => ?_, fun n' k u hq hu hk => ?_⟩
      · rw [hnt, upI_s]
      · have r := qv_rng G V hlim h0 h1 n' _ u hq
        have hgt : ¬ u ≤ st.1 := by
          intro hu
          have f := hfnd n' _ u hq hu (Or.inr ⟨by omega, by have := g.2.2.2 htn ht; omega⟩)
          have h3 := hJ.2.2.2.1 q m (by omega) (by omega)
          omega
        refine ⟨fun a1 => by omega, fun a1 => ?_⟩
        rcases hA q with z | z
        · omega
        · have := z.2.2.2.2.2.1 a1; omega
      · have f := hfnd n' k u hq (by omega) (Or.inl (by have := g.2.2.2 htn ht; omega))
        have := upI_le (f := st.2.2.2.1) (i := n) (v := v) (by omega) k
        show upI st.2.2.2.1 n v k ≤ u
        omega
    · have hA' := hA q
      simp only [Ja, if_neg htn]
      rcases hA' with z | z
      · exact Or.inl z
      · refine Or.inr ⟨z.1, z.2.1, ?_, z.2.2.2.1, z.2.2.2.2.1, z.2.2.2.2.2.1, z.2.2.2.2.2.2.1, fun n' k u hq hu hk => ?_⟩
        · rw [upI_n]
          · exact z.2.2.1
          · intro h; have := hto q; omega
        · have := z.2.2.2.2.2.2.2 n' k u hq hu hk
          have := upI_le (f := st.2.2.2.1) (i := n) (v := v) (by omega) k
          omega
  · refine Jr_mono (n := n) hR (by omega) (fun j hj => ⟨upI_n hj, upI_n hj⟩) ?_ hm.2 (upI_s _ _ _)
    show upI st.2.2.2.1 n v n ≤ _
    rw [upI_s]; omega
  · exact Or.inl (by show upI st.2.2.2.1 n v n ≤ v; rw [upI_s]; exact Int.le_refl _)
  · intro j
    exact upI_le (by omega) j
  · show upI st.2.2.2.1 n v ka = v0
    rw [upI_n (by omega)]
    exact hv0
end SE
