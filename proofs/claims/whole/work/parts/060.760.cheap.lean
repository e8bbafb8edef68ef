/-! the cheapest way: begin and run -/
def Fnd (tw : Int → Int) (nx cs : Int → Int → Int) (nw to en k0 lim p : Int) (q : Sst) : Prop :=
  Chp nx cs nw to en k0 lim q.2.1 q.2.2.1 ∧ Jl q ∧ Sok q ∧ (∀ k, 0 ≤ k → k < 12000 → q.2.2.2.2 k = true → tw (k % 100) ≠ 1) ∧ (∀ j, 0 ≤ j → j < 12000 → q.2.2.2.1 j ≤ lim → ∃ ws v, pt nx cs nw to ws k0 j v ∧ v ≤ q.2.2.2.1 j) ∧ (q.2.2.1 ≠ -1 → ∀ ws k v, pt nx cs nw to ws k0 k v → v ≤ q.2.1 → k / 100 ≤ q.2.2.1 - p → q.2.2.2.1 k ≤ v) ∧ (q.2.2.1 ≠ -1 → q.2.2.2.1 (100 * q.2.2.1 + to) = q.2.1)
section CH
variable {eb : Bool} {day to hot cool wt : Int} {dw : Nat → Int64} {ex nt tw sh : Int → Int} {sl : Int} {ww sw : Nat → Int64} {p bears mends en nw lim : Int}
theorem gonC_eq {aims : Int} : gonC eb to hot cool wt aims dw ex tw sh ww p bears mends en = fun k st => gon aims to en wt (nxT tw sh p) (fun k w v => valF eb hot cool aims dw ex bears mends ww (nxT tw sh p) p k w v) k st := rfl
/-- a search that could not begin -/
theorem rst_st0 {g : Int → Sst → Sst} {f0 : Int → Int} {cost a : Int} (n : Nat) : rst g (st0 f0 lim cost) a n = st0 f0 lim cost := by
  have := rst_skip (g := g) (st := st0 f0 lim cost) (a := a) (n := 0) n (fun i _ => rfl)
  simpa [rst] using this
theorem p_cheap (A : Ask day to hot cool wt 1 ex nt tw sh sl sw p bears mends en) (hto : 0 ≤ to ∧ to < 100) (hl : -1 ≤ lim ∧ lim ≤ 268435455) {cost fi fr bym : Int} (hc : -2147483648 ≤ cost ∧ cost < 2147483648) (hf : 0 ≤ fi ∧ fi < 120) (hfr : 0 ≤ fr ∧ fr < 100) (ht : tw fr ≠ 1) (hby : 0 ≤ bym ∧ bym < 2147483648) (hen : en = if 119 < bym then 119 else bym) (hnw : nw = if wt = 0 then 4 else 5) {x1 x2 x3 : Int32} {lw : Nat → Int64} {t1 : Nat → Int32} {post : Int32 → Int32 → Int32 → Int32 → Int32 → (Nat → Int64) → (Nat → Int32) → Prop}
    (h : ∀ (q : Sst) (lw' : Nat → Int64), Fnd tw (nxT tw sh p) (csT (costF eb hot cool dw ex) p) nw to en (100 * fi + fr) lim p q → (q.2.2.1 ≠ -1 → Jall (nxT tw sh p) (fun k w v => valF eb hot cool 1 dw ex bears mends ww (nxT tw sh p) p k w v) nw to (100 * fi + fr) lim en 1 p (100 * (en + 1)) q) → LR lw' q.2.2.2.2 → post (if q.2.2.1 = -1 then 0 else 1) 1 (zi q.1) (zi q.2.1) (zi q.2.2.1) lw' (zA q.2.2.2.1)) :
    wp_X9_begin (zi fi) (zi fr) (zi to) x1 x2 (zi cost) x3 lw t1 1 (zi lim) (zi bym) (fun t_aims_5 t_most_5 t_cost_5 t_arrival_5 t_live_words_5 t_reach_5 => wp_X9_run eb (zi day) (zi fi) (zi to) (zi hot) (zi cool) (zi wt) t_aims_5 dw (zA ex) (zA nt) (zi sl) ww sw (zi p) (zi bears) (zi mends) t_most_5 t_cost_5 t_arrival_5 t_live_words_5 t_reach_5 (zi bym) (fun r10 t_most_10 t_cost_10 t_arrival_10 t_live_words_10 t_reach_10 => b01 r10 ∧ (post r10 t_aims_5 t_most_10 t_cost_10 t_arrival_10 t_live_words_10 t_reach_10))) := by
  obtain ⟨f0, rfl, -⟩ := zA_ex t1
  have hp := A.2.2.2.2.2.2.2.2.2.2.2.1
  have hen2 := A.2.2.2.2.2.2.2.2.2.2.2.2.2.2
  have hcB : cB (costF eb hot cool dw ex) := cB_cost A.2.2.1 A.2.2.2.1 A.2.2.2.2.2.2.1
  refine p_begin (aim := 1) (by omega) (by omega) hl hc hf hfr hby (fun lw' hL => ?_)
  have hQ : Qok tw 1 bears (stB f0 1 to lim cost fi fr bym) := stB_q (by omega) hl hc hf hfr (fun z => by omega) ht
  refine p_run A hQ hL hf hby hen (fun q lw2 hq hL2 => ?_)
  have hb01 : ∀ x : Int, b01 (if x = -1 then 0 else 1) := fun x => by split; exact Or.inl rfl; exact Or.inr rfl
  suffices hs : Fnd tw (nxT tw sh p) (csT (costF eb hot cool dw ex) p) nw to en (100 * fi + fr) lim p q ∧ (q.2.2.1 ≠ -1 → Jall (nxT tw sh p) (fun k w v => valF eb hot cool 1 dw ex bears mends ww (nxT tw sh p) p k w v) nw to (100 * fi + fr) lim en 1 p (100 * (en + 1)) q) from ⟨hb01 _, h q lw2 hs.1 hs.2 hL2⟩
  have hv : ∀ k w v, valF eb hot cool 1 dw ex bears mends ww (nxT tw sh p) p k w v = v + csT (costF eb hot cool dw ex) p k w := fun k w v => valF_cost (by decide)
  have G := Gok_T (tw := tw) (sh := sh) (nw := nw) hp hcB
  have hQ2 : Qok tw 1 bears q := by
    by_cases hfe : fi ≤ en
    · rw [hq]; exact rst_q A hQ (by omega) _ (by omega)
    · rw [hq, show (100 * (en + 1 - fi)).toNat = 0 by omega]; exact hQ
  have none : q = st0 f0 lim cost → (lim = -1 ∨ en < fi) → Fnd tw (nxT tw sh p) (csT (costF eb hot cool dw ex) p) nw to en (100 * fi + fr) lim p q ∧ (q.2.2.1 ≠ -1 → Jall (nxT tw sh p) (fun k w v => valF eb hot cool 1 dw ex bears mends ww (nxT tw sh p) p k w v) nw to (100 * fi + fr) lim en 1 p (100 * (en + 1)) q) := by
    intro e hor
    rw [e]
    refine ⟨?_, fun z => absurd rfl z⟩
    refine ⟨Or.inl ⟨rfl, fun ws k' c hp' h1 h2 => ?_⟩, fun j a b _ => flA_in (by omega), st0_ok hl hc, fun k a b z => absurd (show false = true from z) (by decide), fun j a b z => ?_, fun z => absurd rfl z, fun z => absurd rfl z⟩
    · have r := pt_rng G ws _ k' c (by omega) (by omega) hp'
      omega
    · replace z : flA f0 0 12000 268435456 j ≤ lim := z
      rw [flA_in (by omega)] at z
      omega
  by_cases hfe : fi ≤ en
  case neg =>
    refine none ?_ (Or.inr (by omega))
    rw [hq, show (100 * (en + 1 - fi)).toNat = 0 by omega]
    show stB f0 1 to lim cost fi fr bym = _
    rw [stB, if_neg (by rw [hen] at hfe; split at hfe <;> omega)]
  by_cases hl0 : 0 ≤ lim
  case neg =>
    refine none ?_ (Or.inl (by omega))
    have e : stB f0 1 to lim cost fi fr bym = st0 f0 lim cost := by
      rw [stB]
      split
      · rw [ofr, if_neg]
        intro z
        have : (0 : Int) ≤ lim := z.1
        omega
      · rfl
    rw [hq, e]
    exact rst_st0 _
  have H : Hyp (nxT tw sh p) (fun k w v => valF eb hot cool 1 dw ex bears mends ww (nxT tw sh p) p k w v) nw to (100 * fi + fr) lim 1 p := ⟨Gv_T hp, Vv_cost (by decide) hp hcB hv, hl, hp.1, by omega, by omega, by omega, fun _ => hto⟩
  have hbf : fi ≤ bym := by rw [hen] at hfe; split at hfe <;> omega
  obtain ⟨J0, L0⟩ := stB_J (f0 := f0) (cost := cost) (en := en) (bym := bym) hf hfr H hbf hfe hl0
  obtain ⟨J1, J2, J3⟩ := J_end (en := en) (wt := wt) H hnw ⟨hf.1, hfe, hen2.2⟩ (by omega) J0 hq
  have hc1 := end_cheap H hen2.2 J1 (J2 (by decide)) J3
  have toq : ∀ ws k v, pt (nxT tw sh p) (csT (costF eb hot cool dw ex) p) nw to ws (100 * fi + fr) k v → v ≤ lim → k / 100 ≤ en → qv (nxT tw sh p) (fun k w v => valF eb hot cool 1 dw ex bears mends ww (nxT tw sh p) p k w v) nw to (100 * fi + fr) lim en ws.length k v := fun ws k v h1 h2 h3 => pt_qv G hv (by omega) (by omega) ws.length ws k v rfl h1 h2 h3
  have JJ : Jall (nxT tw sh p) (fun k w v => valF eb hot cool 1 dw ex bears mends ww (nxT tw sh p) p k w v) nw to (100 * fi + fr) lim en 1 p (100 * (en + 1)) q := by
    have := J_rst (wt := wt) H hnw (by omega) (by omega) J0 (100 * (en + 1 - fi)).toNat (by omega)
    rw [show 100 * fi + (((100 * (en + 1 - fi)).toNat : Nat) : Int) = 100 * (en + 1) by omega] at this
    rw [hq]
    exact this
  refine ⟨?_, fun _ => JJ⟩
  refine ⟨?_, by rw [hq]; exact Jl_rst L0 _, hQ2.1, hQ2.2.2, fun j a b z => ?_, fun ha ws k v h1 h2 h3 => ?_, fun ha => ?_⟩
  · rcases hc1 with ⟨z1, z2⟩ | ⟨z1, z2, z3, ⟨n, z4⟩, z5⟩
    · refine Or.inl ⟨z1, fun ws k' c h1 h2 h3 => Classical.byContradiction (fun hn => ?_)⟩
      have r := pt_rng G ws _ k' c (by omega) (by omega) h1
      have e : k' = 100 * (k' / 100) + to := by omega
      have := z2 ws.length (k' / 100) c (by omega) h3 (by omega) (by rw [← e]; exact toq ws k' c h1 (by omega) h3)
      omega
    · refine Or.inr ⟨z1, z2, z3, qv_pt hv n _ _ z4, fun ws k' c h1 h2 h3 => ?_⟩
      have r := pt_rng G ws _ k' c (by omega) (by omega) h1
      have e : k' = 100 * (k' / 100) + to := by omega
      by_cases hcl : c ≤ lim
      · exact z5 ws.length (k' / 100) c (by omega) h3 (by omega) (by rw [← e]; exact toq ws k' c h1 hcl h3)
      · omega
  · obtain ⟨n, v, h1, h2⟩ := J1.2.2.1 j a b z
    obtain ⟨ws, h3⟩ := qv_pt hv n _ _ h1
    exact ⟨ws, v, h3, h2⟩
  · rcases J2 (by decide) with z | z
    · exact absurd z.1 ha
    · exact z.2.2.2.2.2.2.2 ws.length k v (toq ws k v h1 (by have := z.2.2.2.1; omega) (by have := z.2.1; omega)) h2 h3
  · rcases J2 (by decide) with z | z
    · exact absurd z.1 ha
    · exact z.2.2.1
end CH
