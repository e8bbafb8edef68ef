/-! searches for all, and for who comes first -/
section AL
variable {eb : Bool} {day to hot cool wt aims : Int} {dw : Nat → Int64} {ex nt tw sh : Int → Int} {sl : Int} {ww sw gw lw : Nat → Int64} {p bears mends en nw lim : Int}
theorem ofr_0 {k v : Int} {st : Sst} : (ofr 0 to st k v).1 = st.1 := by
  simp only [ofr]
  split
  · show (if k % 100 = to then (if (0 : Int) = 0 then st.1 else if (0 : Int) = 1 then v - 1 else -1) else st.1) = st.1
    split <;> simp
  · rfl
theorem ofp_0 {nx : Int → Int → Int} {f : Int → Int} {k w : Int} {st : Sst} : (ofp 0 to en nx f k st w).1 = st.1 := by
  simp only [ofp]
  split
  · exact ofr_0
  · rfl
theorem of4_0 {nx : Int → Int → Int} {f : Int → Int} {k : Int} {st : Sst} : ∀ n, (of4 0 to en nx f k st n).1 = st.1
  | 0 => rfl
  | n + 1 => by simp only [of4]; rw [ofp_0, of4_0 n]
theorem gon_0 {nx : Int → Int → Int} {val : Int → Int → Int → Int} {k : Int} {st : Sst} : (gon 0 to en wt nx val k st).1 = st.1 := by
  simp only [gon]
  split
  · rfl
  · rw [of4_0]
    split
    · rfl
    · exact ofp_0
theorem rst_0 {nx : Int → Int → Int} {val : Int → Int → Int → Int} {a : Int} {st : Sst} : ∀ n, (rst (fun k st => gon 0 to en wt nx val k st) st a n).1 = st.1
  | 0 => rfl
  | n + 1 => by
    simp only [rst]
    split
    · rw [gon_0, rst_0 n]
    · exact rst_0 n
/-- a search by costs, as it ends -/
theorem p_seekC (A : Ask day to hot cool wt aims ex nt tw sh sl sw p bears mends en) (ha3 : aims ≠ 3) (hto : aims ≠ 0 → 0 ≤ to ∧ to < 100) (hl : 0 ≤ lim ∧ lim ≤ 268435455) {cost fi fr : Int} (hc : -2147483648 ≤ cost ∧ cost < 2147483648) (hf : 0 ≤ fi ∧ fi < 120) (hfr : 0 ≤ fr ∧ fr < 100) (ht : tw fr ≠ 1) (hen : en = 119) (hnw : nw = if wt = 0 then 4 else 5) {x1 x2 x3 : Int32} {lw : Nat → Int64} {t1 : Nat → Int32} {post : Int32 → Int32 → Int32 → Int32 → Int32 → (Nat → Int64) → (Nat → Int32) → Prop}
    (h : ∀ (q : Sst) (lw' : Nat → Int64), Jb (nxT tw sh p) (fun k w v => valF eb hot cool aims dw ex bears mends ww (nxT tw sh p) p k w v) nw to (100 * fi + fr) lim en aims q → (aims ≠ 0 → Ja (nxT tw sh p) (fun k w v => valF eb hot cool aims dw ex bears mends ww (nxT tw sh p) p k w v) nw to (100 * fi + fr) lim en aims p q) → (∀ n k v, qv (nxT tw sh p) (fun k w v => valF eb hot cool aims dw ex bears mends ww (nxT tw sh p) p k w v) nw to (100 * fi + fr) lim en n k v → v ≤ q.1 → k / 100 ≤ en → q.2.2.2.1 k ≤ v) → Qok tw aims bears q → (aims = 0 → q.1 = lim) → LR lw' q.2.2.2.2 → post (if q.2.2.1 = -1 then 0 else 1) (zi aims) (zi q.1) (zi q.2.1) (zi q.2.2.1) lw' (zA q.2.2.2.1)) :
    wp_X9_begin (zi fi) (zi fr) (zi to) x1 x2 (zi cost) x3 lw t1 (zi aims) (zi lim) 119 (fun t_aims_5 t_most_5 t_cost_5 t_arrival_5 t_live_words_5 t_reach_5 => wp_X9_run eb (zi day) (zi fi) (zi to) (zi hot) (zi cool) (zi wt) t_aims_5 dw (zA ex) (zA nt) (zi sl) ww sw (zi p) (zi bears) (zi mends) t_most_5 t_cost_5 t_arrival_5 t_live_words_5 t_reach_5 119 (fun r10 t_most_10 t_cost_10 t_arrival_10 t_live_words_10 t_reach_10 => post r10 t_aims_5 t_most_10 t_cost_10 t_arrival_10 t_live_words_10 t_reach_10)) := by
  obtain ⟨f0, rfl, -⟩ := zA_ex t1
  have hp := A.2.2.2.2.2.2.2.2.2.2.2.1
  have haim := A.2.2.2.2.2.1
  have hto2 := A.2.1
  have hcB : cB (costF eb hot cool dw ex) := cB_cost A.2.2.1 A.2.2.2.1 A.2.2.2.2.2.2.1
  refine p_begin (bym := 119) (by omega) (by omega) (by omega) hc hf hfr (by omega) (fun lw' hL => ?_)
  have hQ : Qok tw aims bears (stB f0 aims to lim cost fi fr 119) := stB_q (by omega) (by omega) hc hf hfr (fun z => absurd z ha3) ht
  refine p_run (bym := 119) A hQ hL hf (by omega) (by rw [hen]; rfl) (fun q lw2 hq hL2 => ?_)
  have hv : ∀ k w v, valF eb hot cool aims dw ex bears mends ww (nxT tw sh p) p k w v = v + csT (costF eb hot cool dw ex) p k w := fun k w v => valF_cost ha3
  have hQ2 : Qok tw aims bears q := by rw [hq]; exact rst_q A hQ (by omega) _ (by omega)
  have H : Hyp (nxT tw sh p) (fun k w v => valF eb hot cool aims dw ex bears mends ww (nxT tw sh p) p k w v) nw to (100 * fi + fr) lim aims p := ⟨Gv_T hp, Vv_cost ha3 hp hcB hv, by omega, hp.1, by omega, by omega, by omega, hto⟩
  obtain ⟨J0, L0⟩ := stB_J (f0 := f0) (cost := cost) (en := en) (bym := 119) hf hfr H (by omega) (by omega) hl.1
  obtain ⟨J1, J2, J3⟩ := J_end (en := en) (wt := wt) H hnw ⟨hf.1, by omega, by omega⟩ (by omega) J0 hq
  refine h q lw2 J1 J2 J3 hQ2 (fun z => ?_) hL2
  subst z
  rw [hq, gonC_eq, rst_0]
  rw [stB]
  split
  · exact ofr_0
  · rfl
/-- a row of the least costs to come to each node, beside the reference's numbers -/
def rAll (nx cs : Int → Int → Int) (to k0 : Int) (R : Int → Int) : Prop := ∀ k, 0 ≤ k → k < 12000 → (R k < 1000000 ∧ 0 ≤ R k ∧ Rch nx cs 5 to k0 k (R k)) ∨ (R k = 268435456 ∧ Rch nx cs 5 to k0 k 1000000)
theorem p_all (A : Ask day to hot cool wt 0 ex nt tw sh sl sw p bears mends en) (hwt : wt ≠ 0) {cost fi fr : Int} (hc : -2147483648 ≤ cost ∧ cost < 2147483648) (hf : 0 ≤ fi ∧ fi < 120) (hfr : 0 ≤ fr ∧ fr < 100) (ht : tw fr ≠ 1) (hen : en = 119) {x1 x2 x3 : Int32} {lw : Nat → Int64} {t1 : Nat → Int32} {post : Int32 → Int32 → Int32 → Int32 → (Nat → Int64) → (Nat → Int32) → Prop}
    (h : ∀ (q : Sst) (lw' : Nat → Int64), rAll (nxT tw sh p) (csT (costF eb hot cool dw ex) p) to (100 * fi + fr) q.2.2.2.1 → Sok q → post 0 (zi q.1) (zi q.2.1) (zi q.2.2.1) lw' (zA q.2.2.2.1)) :
    wp_X9_seekAll eb (zi day) (zi fi) (zi fr) (zi to) (zi hot) (zi cool) (zi wt) dw (zA ex) (zA nt) (zi sl) ww sw (zi p) (zi bears) (zi mends) x1 x2 (zi cost) x3 lw t1 post := by
  have hp := A.2.2.2.2.2.2.2.2.2.2.2.1
  have hcB : cB (costF eb hot cool dw ex) := cB_cost A.2.2.1 A.2.2.2.1 A.2.2.2.2.2.2.1
  have G := Gok_T (tw := tw) (sh := sh) (nw := 5) hp hcB
  have hv : ∀ k w v, valF eb hot cool 0 dw ex bears mends ww (nxT tw sh p) p k w v = v + csT (costF eb hot cool dw ex) p k w := fun k w v => valF_cost (by decide)
  simp only [wp_X9_seekAll]
  refine p_seekC (nw := 5) (lim := 268435455) A (by decide) (fun z => absurd rfl z) (by omega) hc hf hfr ht hen (by rw [if_neg hwt]) (post := fun _ a b c d e f => post a b c d e f) (fun q lw' J1 J2 J3 hQ h0 hL => ?_)
  have hfin : ∀ ws k v, 0 ≤ k → k < 12000 → pt (nxT tw sh p) (csT (costF eb hot cool dw ex) p) 5 to ws (100 * fi + fr) k v → q.2.2.2.1 k ≤ v := by
    intro ws k v a b hpt
    have hq := h0 rfl
    have r := pt_rng G ws _ k v (by omega) (by omega) hpt
    exact J3 ws.length k v (pt_qv G hv (by omega) (by omega) ws.length ws k v rfl hpt (by omega) (by omega)) (by omega) (by omega)
  refine h q lw' (fun k a b => ?_) hQ.1
  have rb := J1.2.1 k a b
  by_cases hk : q.2.2.2.1 k ≤ 268435455
  · obtain ⟨n, v, h1, h2⟩ := J1.2.2.1 k a b hk
    obtain ⟨ws, h3⟩ := qv_pt hv n _ _ h1
    have r := pt_rng G ws _ k v (by omega) (by omega) h3
    have h4 := hfin ws k v a b h3
    have e : q.2.2.2.1 k = v := by omega
    exact Or.inl ⟨by omega, by omega, fun _ => ⟨ws, by rw [e]; exact h3⟩, fun vs c hc => hfin vs k c a b hc, by omega⟩
  · refine Or.inr ⟨by omega, fun z => by omega, fun vs c hc => ?_, Int.le_refl _⟩
    have := hfin vs k c a b hc
    have r := pt_rng G vs _ k c (by omega) (by omega) hc
    omega
/-- who comes first with so much at most -/
theorem p_first (A : Ask day to hot cool wt 2 ex nt tw sh sl sw p bears mends en) (hto : 0 ≤ to ∧ to < 100) (hwt : wt ≠ 0) (hl : 0 ≤ lim ∧ lim ≤ 268435455) {cost fi fr : Int} (hc : -2147483648 ≤ cost ∧ cost < 2147483648) (hf : 0 ≤ fi ∧ fi < 120) (hfr : 0 ≤ fr ∧ fr < 100) (ht : tw fr ≠ 1) (hen : en = 119) {x1 x2 x3 : Int32} {lw : Nat → Int64} {t1 : Nat → Int32} {post : Int32 → Int32 → Int32 → Int32 → (Nat → Int64) → (Nat → Int32) → Prop}
    (h : ∀ (q : Sst) (lw' : Nat → Int64), ((q.2.2.1 = -1 ∧ ∀ ws m c, 0 ≤ m → m < 120 → pt (nxT tw sh p) (csT (costF eb hot cool dw ex) p) 5 to ws (100 * fi + fr) (100 * m + to) c → lim < c) ∨ (0 ≤ q.2.2.1 ∧ q.2.2.1 < 120 ∧ (∃ ws c, pt (nxT tw sh p) (csT (costF eb hot cool dw ex) p) 5 to ws (100 * fi + fr) (100 * q.2.2.1 + to) c ∧ c ≤ lim) ∧ ∀ ws m c, 0 ≤ m → m < q.2.2.1 → pt (nxT tw sh p) (csT (costF eb hot cool dw ex) p) 5 to ws (100 * fi + fr) (100 * m + to) c → lim < c)) → Sok q → post 2 (zi q.1) (zi q.2.1) (zi q.2.2.1) lw' (zA q.2.2.2.1)) :
    wp_X9_seekFirst eb (zi day) (zi fi) (zi fr) (zi to) (zi hot) (zi cool) (zi wt) dw (zA ex) (zA nt) (zi sl) ww sw (zi p) (zi bears) (zi mends) x1 x2 (zi cost) x3 lw t1 (zi lim) post := by
  have hp := A.2.2.2.2.2.2.2.2.2.2.2.1
  have hcB : cB (costF eb hot cool dw ex) := cB_cost A.2.2.1 A.2.2.2.1 A.2.2.2.2.2.2.1
  have G := Gok_T (tw := tw) (sh := sh) (nw := 5) hp hcB
  have hv : ∀ k w v, valF eb hot cool 2 dw ex bears mends ww (nxT tw sh p) p k w v = v + csT (costF eb hot cool dw ex) p k w := fun k w v => valF_cost (by decide)
  simp only [wp_X9_seekFirst]
  refine p_seekC (nw := 5) (lim := lim) A (by decide) (fun _ => hto) (by omega) hc hf hfr ht hen (by rw [if_neg hwt]) (post := fun _ a b c d e f => post a b c d e f) (fun q lw' J1 J2 J3 hQ h0 hL => ?_)
  refine h q lw' ?_ hQ.1
  have toq : ∀ ws k v, pt (nxT tw sh p) (csT (costF eb hot cool dw ex) p) 5 to ws (100 * fi + fr) k v → v ≤ lim → k / 100 ≤ en → qv (nxT tw sh p) (fun k w v => valF eb hot cool 2 dw ex bears mends ww (nxT tw sh p) p k w v) 5 to (100 * fi + fr) lim en ws.length k v := fun ws k v h1 h2 h3 => pt_qv G hv (by omega) (by omega) ws.length ws k v rfl h1 h2 h3
  rcases J2 (by decide) with z | ⟨z1, z2, z3, z4, z5, z6, z7, z8⟩
  · refine Or.inl ⟨z.1, fun ws m c m0 m1 hpt => Classical.byContradiction (fun hn => ?_)⟩
    have f := J3 ws.length _ c (toq ws _ c hpt (by omega) (by omega)) (by omega) (by omega)
    have := J1.2.2.2.1 (by decide) m m0 m1
    omega
  · refine Or.inr ⟨z1, by omega, ?_, fun ws m c m0 m1 hpt => Classical.byContradiction (fun hn => ?_)⟩
    · obtain ⟨n, v, h1, h2⟩ := J1.2.2.1 (100 * q.2.2.1 + to) (by omega) (by omega) (by rw [z3]; exact z4)
      obtain ⟨ws, h3⟩ := qv_pt hv n _ _ h1
      exact ⟨ws, v, h3, by omega⟩
    · have := (z7 ws.length m c (toq ws _ c hpt (by omega) (by omega)) m1).2 (by decide)
      omega
end AL
