/-! fills; the beginning of a search; searches by costs -/
def flA (f : Int → Int) (a b v : Int) : Int → Int := fun j => if a ≤ j ∧ j < b then v else f j
theorem flA_up {f : Int → Int} {a b v : Int} (h : a ≤ b) : upI (flA f a b v) b v = flA f a (b + 1) v := by
  funext j
  by_cases hj : j = b
  · subst hj; rw [upI_s, flA, if_pos (by omega)]
  · rw [upI_n hj, flA, flA]
    by_cases hc : a ≤ j ∧ j < b
    · rw [if_pos hc, if_pos (by omega)]
    · rw [if_neg hc, if_neg (by omega)]
theorem flA_0 {f : Int → Int} {a v : Int} : flA f a a v = f := by
  funext j
  rw [flA, if_neg (by omega)]
theorem flA_in {f : Int → Int} {a b v j : Int} (h : a ≤ j ∧ j < b) : flA f a b v j = v := if_pos h
theorem flA_out {f : Int → Int} {a b v j : Int} (h : ¬ (a ≤ j ∧ j < b)) : flA f a b v j = f j := if_neg h
theorem p_fillI {n : Nat} (hn : n < 1000000) {f : Int → Int} {v : Int} {post : (Nat → Int32) → Prop} (h : post (zA (flA f 0 n v))) : wp_J7_fill_53178 n (zA f) (zi v) post := by
  simp only [wp_J7_fill_53178, forall_eq]
  refine lp_for0 (fun i => (zA (flA f 0 i v), zi v, zi i, nI n)) n (by simp [flA_0]; rfl) (fun kb => ?_) (fun i hi kb hkb => ?_)
  · simp (disch := omega) only [wp_J7_fill_53178_L5, nI_zi n, zi_le]
    exact ⟨fun _ => h, fun z => absurd (Int.le_refl _) z⟩
  · simp (disch := omega) only [wp_J7_fill_53178_L5, nI_zi n, forall_eq, zi_lit, zi_add, zi_sub, zi_mul, zi_neg, zi_lt, zi_le, zi_eq, zi_div, zi_rem, zi_in, zA_get, zA_upd]
    refine ⟨fun z => by omega, fun _ => ⟨by omega, ?_⟩⟩
    rw [flA_up (by omega), nI_zi n] at *
    exact hkb
theorem p_fillL {n : Nat} (hn : n < 1000000) {w : Nat → Int64} {v : Int64} {post : (Nat → Int64) → Prop} (h : post (fun k => if k < n then v else w k)) : wp_J7_fill_d0a16 n w v post := by
  simp only [wp_J7_fill_d0a16, forall_eq]
  refine lp_for0 (fun i => ((fun k => if k < i then v else w k), v, zi i, nI n)) n (by simp; rfl) (fun kb => ?_) (fun i hi kb hkb => ?_)
  · simp (disch := omega) only [wp_J7_fill_d0a16_L6, nI_zi n, zi_le]
    exact ⟨fun _ => h, fun z => absurd (Int.le_refl _) z⟩
  · simp (disch := omega) only [wp_J7_fill_d0a16_L6, nI_zi n, forall_eq, zi_lit, zi_add, zi_le, zi_in, zi_cl]
    refine ⟨fun z => by omega, fun _ => ⟨by omega, ?_⟩⟩
    have e : vp_updL (fun k => if k < i then v else w k) ((i : Int).toNat) v = fun k => if k < i + 1 then v else w k := by
      funext k
      by_cases hk : k = i
      · subst hk
        rw [Int.toNat_natCast, pk_uLs, if_pos (by omega)]
      · rw [Int.toNat_natCast, pk_uLn hk]
        by_cases hc : k < i
        · simp only [if_pos hc, if_pos (show k < i + 1 by omega)]
        · simp only [if_neg hc, if_neg (show ¬ k < i + 1 by omega)]
    rw [e]
    rw [nI_zi n] at hkb
    exact hkb
theorem p_fill3 {n : Nat} (hn : n < 1000000) {f : Int → Int} {a b v : Int} (hab : 0 ≤ a ∧ a ≤ b ∧ b ≤ n) {post : (Nat → Int32) → Prop} (h : post (zA (flA f a b v))) : wp_J7_fill_fda19 n (zA f) (zi a) (zi b) (zi v) post := by
  simp only [wp_J7_fill_fda19, wp_J7_rangeCheck_23922]
  simp (disch := omega) only [nI_zi n, zi_lit, zi_le]
  refine ⟨fun _ => ⟨fun _ => ⟨fun _ => ?_, fun z => by omega⟩, fun z => by omega⟩, fun z => by omega⟩
  refine lp_for0 (fun i => (zA (flA f a (a + i) v), zi b, zi v, zi (a + i))) (b - a).toNat (by simp [flA_0]) (fun kb => ?_) (fun i hi kb hkb => ?_)
  · have e : a + (((b - a).toNat : Nat) : Int) = b := by omega
    simp only [e]
    simp (disch := omega) only [wp_J7_fill_fda19_L10, zi_le]
    exact ⟨fun _ => h, fun z => absurd (Int.le_refl _) z⟩
  · have e : a + ((i + 1 : Nat) : Int) = a + i + 1 := by omega
    simp only [e] at hkb
    simp (disch := omega) only [wp_J7_fill_fda19_L10, forall_eq, zi_lit, zi_add, zi_sub, zi_mul, zi_neg, zi_lt, zi_le, zi_eq, zi_div, zi_rem, zi_in, zA_get, zA_upd]
    refine ⟨fun z => by omega, fun _ => ⟨by omega, ?_⟩⟩
    rw [flA_up (by omega)]
    exact hkb
theorem p_empty {n : Nat} (hn : n < 1000000) {w : Nat → Int64} {post : (Nat → Int64) → Prop} (h : post (fun k => if k < n then 0 else w k)) : wp_X5_empty n w post := p_fillL hn h
theorem LR_empty (lw : Nat → Int64) : LR (fun k => if k < 240 then 0 else lw k) (fun _ => false) := by
  intro m s a1 a2 a3 a4
  rw [hb, if_pos (by omega), lb_0]
  simp
/-- the state as a search begins -/
def st0 (f0 : Int → Int) (lim cost : Int) : Sst := (lim, cost, -1, flA f0 0 12000 268435456, fun _ => false)
def stB (f0 : Int → Int) (aim to lim cost fi from_ bym : Int) : Sst := if fi ≤ bym then ofr aim to (st0 f0 lim cost) (100 * fi + from_) 0 else st0 f0 lim cost
theorem st0_ok {f0 : Int → Int} {lim cost : Int} (hl : -1 ≤ lim ∧ lim ≤ 268435455) (hc : -2147483648 ≤ cost ∧ cost < 2147483648) : Sok (st0 f0 lim cost) := by
  refine ⟨hl, fun k a b => ?_, hc, by show -2147483648 ≤ (-1 : Int) ∧ (-1 : Int) < 2147483648; decide⟩
  show 0 ≤ flA f0 0 12000 268435456 k ∧ flA f0 0 12000 268435456 k ≤ 268435456
  rw [flA_in (by omega)]
  omega
theorem p_begin {aim to lim cost fi fr bym : Int} (ha : 0 ≤ aim ∧ aim ≤ 3) (hto : -1 ≤ to ∧ to < 100) (hl : -1 ≤ lim ∧ lim ≤ 268435455) (hc : -2147483648 ≤ cost ∧ cost < 2147483648) (hf : 0 ≤ fi ∧ fi < 120) (hfr : 0 ≤ fr ∧ fr < 100) (hby : 0 ≤ bym ∧ bym < 2147483648) {x1 x2 x3 : Int32} {lw : Nat → Int64} {f0 : Int → Int} {post : Int32 → Int32 → Int32 → Int32 → (Nat → Int64) → (Nat → Int32) → Prop} (h : ∀ lw', LR lw' (stB f0 aim to lim cost fi fr bym).2.2.2.2 → post (zi aim) (zi (stB f0 aim to lim cost fi fr bym).1) (zi (stB f0 aim to lim cost fi fr bym).2.1) (zi (stB f0 aim to lim cost fi fr bym).2.2.1) lw' (zA (stB f0 aim to lim cost fi fr bym).2.2.2.1)) : wp_X9_begin (zi fi) (zi fr) (zi to) x1 x2 (zi cost) x3 lw (zA f0) (zi aim) (zi lim) (zi bym) post := by
  simp only [wp_X9_begin]
  refine p_empty (by decide) ?_
  rw [zi_lit 268435456]
  refine p_fillI (by decide) ?_
  have S0 := st0_ok (f0 := f0) hl hc
  simp (disch := omega) only [zi_lit, zi_neg, zi_lt]
  refine ⟨fun z => ?_, fun z => ?_⟩
  · have e : stB f0 aim to lim cost fi fr bym = st0 f0 lim cost := by rw [stB, if_neg (by omega)]
    rw [e] at h
    exact h _ (LR_empty lw)
  · have e : stB f0 aim to lim cost fi fr bym = ofr aim to (st0 f0 lim cost) (100 * fi + fr) 0 := by rw [stB, if_pos (by omega)]
    rw [e] at h
    have := p_offer (v := 0) (post := fun a b c d l => post (zi aim) a b c l d) ha hto S0 (LR_empty lw) hf hfr (by omega) (fun lw' hl' => h lw' hl')
    exact this
theorem stB_q {tw : Int → Int} {aim to lim cost fi fr bym bears : Int} (ha : 0 ≤ aim ∧ aim ≤ 3) (hl : -1 ≤ lim ∧ lim ≤ 268435455) (hc : -2147483648 ≤ cost ∧ cost < 2147483648) (hf : 0 ≤ fi ∧ fi < 120) (hfr : 0 ≤ fr ∧ fr < 100) (h3 : aim = 3 → lim = bears) (ht : tw fr ≠ 1) {f0 : Int → Int} : Qok tw aim bears (stB f0 aim to lim cost fi fr bym) := by
  have S0 : Qok tw aim bears (st0 f0 lim cost) := ⟨st0_ok hl hc, fun q => Or.inl (h3 q), fun k a b z => absurd (show false = true from z) (by decide)⟩
  rw [stB]
  split
  · refine (ofr_q (k := 100 * fi + fr - 100) S0 (by omega) (by omega) ?_ (by omega)).1
    rwa [show (100 * fi + fr) % 100 = fr by omega]
  · exact S0
section SK
variable {nx : Int → Int → Int} {val : Int → Int → Int → Int} {nw to lim en aims wt p : Int}
/-- at the beginning -/
theorem stB_J {f0 : Int → Int} {cost fi fr bym : Int} (hf : 0 ≤ fi ∧ fi < 120) (hfr : 0 ≤ fr ∧ fr < 100) (H : Hyp nx val nw to (100 * fi + fr) lim aims p) (hb : fi ≤ bym) (he : fi ≤ en) (hl : 0 ≤ lim) : Jall nx val nw to (100 * fi + fr) lim en aims p (100 * fi) (stB f0 aims to lim cost fi fr bym) ∧ Jl (stB f0 aims to lim cost fi fr bym) := by
  obtain ⟨G, V, hlim, hp, h0, h1, ha, hto⟩ := H
  have e : stB f0 aims to lim cost fi fr bym = (if fr = to then (if aims = 0 then lim else -1) else lim, if fr = to then 0 else cost, if fr = to then fi else -1, upI (flA f0 0 12000 268435456) (100 * fi + fr) 0, upI (fun _ => false) (100 * fi + fr) true) := by
    rw [stB, if_pos hb, ofr, if_pos]
    · simp only [st0, show (100 * fi + fr) % 100 = fr by omega, show (100 * fi + fr) / 100 = fi by omega]
      congr 1
      by_cases q : aims = 1 <;> simp [q]
    · show 0 ≤ lim ∧ 0 < flA f0 0 12000 268435456 (100 * fi + fr)
      rw [flA_in (by omega)]
      omega
  rw [e]
  have hm : -1 ≤ (if fr = to then (if aims = 0 then lim else -1) else lim) ∧ (if fr = to then (if aims = 0 then lim else -1) else lim) ≤ lim := by
    repeat' split
    all_goals omega
  have hR : ∀ j, 0 ≤ j → j < 12000 → j ≠ 100 * fi + fr → upI (flA f0 0 12000 268435456) (100 * fi + fr) 0 j = 268435456 := by
    intro j a b hj
    rw [upI_n hj, flA_in (by omega)]
  refine ⟨⟨⟨hm, fun j a b => ?_, fun j a b hj => ?_, fun q m m0 m1 => ?_, upI_s _ _ _, fun q => ?_⟩, fun q => ?_, fun j a b hj ht w w0 w1 hn hen => ?_⟩, fun j a b hj => ?_⟩
  · show 0 ≤ upI (flA f0 0 12000 268435456) (100 * fi + fr) 0 j ∧ upI (flA f0 0 12000 268435456) (100 * fi + fr) 0 j ≤ 268435456 ∧ (aims = 3 → upI (flA f0 0 12000 268435456) (100 * fi + fr) 0 j ≤ lim ∨ upI (flA f0 0 12000 268435456) (100 * fi + fr) 0 j = 268435456)
    by_cases hj : j = 100 * fi + fr
    · subst hj; rw [upI_s]; omega
    · rw [hR j a b hj]; omega
  · replace hj : upI (flA f0 0 12000 268435456) (100 * fi + fr) 0 j ≤ lim := hj
    by_cases hjk : j = 100 * fi + fr
    · subst hjk
      refine ⟨0, 0, ⟨rfl, rfl⟩, ?_⟩
      show 0 ≤ upI (flA f0 0 12000 268435456) (100 * fi + fr) 0 (100 * fi + fr)
      rw [upI_s]; exact Int.le_refl _
    · rw [hR j a b hjk] at hj; omega
  · show (if fr = to then (if aims = 0 then lim else -1) else lim) < upI (flA f0 0 12000 268435456) (100 * fi + fr) 0 (100 * m + to)
    have ht := hto q
    by_cases hj : 100 * m + to = 100 * fi + fr
    · have : fr = to := by omega
      rw [if_pos this, if_neg q, hj, upI_s]
      decide
    · rw [hR _ (by omega) (by omega) hj]; omega
  · show (if fr = to then (if aims = 0 then lim else -1) else lim) = lim ∨ (if fr = to then (if aims = 0 then lim else -1) else lim) = -1
    split
    · rw [if_neg (by omega)]; exact Or.inr rfl
    · exact Or.inl rfl
  · by_cases ht : fr = to
    · refine Or.inr ?_
      simp only [if_pos ht, if_neg q]
      subst ht
      refine ⟨hf.1, he, upI_s _ _ _, hl, fun _ => by omega, fun _ => by trivial, fun n m v hq hm => ?_, fun n k v hq hv hk => ?_⟩
      · have r := qv_rng G V hlim h0 h1 n _ v hq
        omega
      · have r := qv_rng G V hlim h0 h1 n _ v hq
        omega
    · refine Or.inl ?_
      simp [if_neg ht]
  · have hjk : j ≠ 100 * fi + fr := by
      intro z
      rcases hj with y | y
      · replace y : upI (fun _ => false) (100 * fi + fr) true j = false := y
        rw [z, upI_s] at y
        exact absurd y (by decide)
      · omega
    refine Or.inr (Classical.byContradiction (fun z => ?_))
    have e2 : upI (flA f0 0 12000 268435456) (100 * fi + fr) 0 j = 268435456 := hR j a b hjk
    replace z : ¬ (if fr = to then (if aims = 0 then lim else -1) else lim) < val j w (upI (flA f0 0 12000 268435456) (100 * fi + fr) 0 j) := z
    rw [e2] at z
    have := V.2 j w 268435456 (if fr = to then (if aims = 0 then lim else -1) else lim) a b w0 w1 hn (by omega) (Int.le_refl _) (fun q => ⟨Or.inr rfl, by split; (· rw [if_neg (by omega)]; exact Or.inr rfl); exact Or.inl rfl⟩) (by omega)
    omega
  · replace hj : upI (fun _ => false) (100 * fi + fr) true j = false := hj
    show upI (flA f0 0 12000 268435456) (100 * fi + fr) 0 j = _
    by_cases hjk : j = 100 * fi + fr
    · rw [hjk, upI_s] at hj; exact absurd hj (by decide)
    · exact hR j a b hjk
end SK
