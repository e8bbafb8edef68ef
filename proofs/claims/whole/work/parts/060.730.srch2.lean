/-! what a search finds: node by node -/
section SF
variable {nx : Int → Int → Int} {val : Int → Int → Int → Int} {nw to k0 lim en aims wt p : Int}
/-- all at once -/
def Jall (nx : Int → Int → Int) (val : Int → Int → Int → Int) (nw to k0 lim en aims p ka : Int) (st : Sst) : Prop := Jb nx val nw to k0 lim en aims st ∧ (aims ≠ 0 → Ja nx val nw to k0 lim en aims p st) ∧ Jr nx val nw to en ka st
def relw (nx : Int → Int → Int) (val : Int → Int → Int → Int) (en ka v0 : Int) (st : Sst) (w : Int) : Prop := 0 ≤ nx ka w → nx ka w / 100 ≤ en → st.2.2.2.1 (nx ka w) ≤ val ka w v0 ∨ st.1 < val ka w v0
def Hyp (nx : Int → Int → Int) (val : Int → Int → Int → Int) (nw to k0 lim aims p : Int) : Prop := Gv nx nw to p ∧ Vv nx val nw lim aims ∧ (-1 ≤ lim ∧ lim ≤ 268435455) ∧ 1 ≤ p ∧ 0 ≤ k0 ∧ k0 < 12000 ∧ (0 ≤ aims ∧ aims ≤ 3) ∧ (aims ≠ 0 → 0 ≤ to ∧ to < 100)
theorem J_ofp (H : Hyp nx val nw to k0 lim aims p) {st : Sst} {ka w v0 : Int} (k0' : 0 ≤ ka) (k1' : ka < 12000) (hk0 : k0 / 100 ≤ ka / 100) (hJ : Jall nx val nw to k0 lim en aims p ka st) (hv0 : st.2.2.2.1 ka = v0) (hl : v0 ≤ lim) (ht : ka % 100 ≠ to) (w0 : 0 ≤ w) (w1 : w < nw) :
    Jall nx val nw to k0 lim en aims p ka (ofp aims to en nx (fun w => val ka w v0) ka st w) ∧ relw nx val en ka v0 (ofp aims to en nx (fun w => val ka w v0) ka st w) w ∧ (∀ j, (ofp aims to en nx (fun w => val ka w v0) ka st w).2.2.2.1 j ≤ st.2.2.2.1 j) ∧ (ofp aims to en nx (fun w => val ka w v0) ka st w).1 ≤ st.1 ∧ (ofp aims to en nx (fun w => val ka w v0) ka st w).2.2.2.1 ka = v0 := by
  obtain ⟨G, V, hlim, hp, h0, h1, ha, hto⟩ := H
  by_cases hc : 0 ≤ nx ka w ∧ nx ka w / 100 ≤ en
  · have e : ofp aims to en nx (fun w => val ka w v0) ka st w = ofr aims to st (nx ka w) (val ka w v0) := by rw [ofp, if_pos hc]
    rw [e]
    have := J_ofr G V hlim hp h0 h1 ha hto k0' k1' hk0 hJ.1 hJ.2.1 hJ.2.2 hv0 hl ht w0 w1 hc.1 hc.2
    exact ⟨⟨this.1, this.2.1, this.2.2.1⟩, fun _ _ => this.2.2.2.1, this.2.2.2.2.1, this.2.2.2.2.2.1, this.2.2.2.2.2.2⟩
  · have e : ofp aims to en nx (fun w => val ka w v0) ka st w = st := by rw [ofp, if_neg hc]
    rw [e]
    exact ⟨hJ, fun a b => absurd ⟨a, b⟩ hc, fun _ => Int.le_refl _, Int.le_refl _, hv0⟩
theorem relw_mono {ka v0 w : Int} {st st' : Sst} (h : relw nx val en ka v0 st w) (h1 : ∀ j, st'.2.2.2.1 j ≤ st.2.2.2.1 j) (h2 : st'.1 ≤ st.1) : relw nx val en ka v0 st' w := by
  intro a b
  have := h a b
  have := h1 (nx ka w)
  omega
theorem J_of4 (H : Hyp nx val nw to k0 lim aims p) {st : Sst} {ka v0 : Int} (hnw : 4 ≤ nw) (k0' : 0 ≤ ka) (k1' : ka < 12000) (hk0 : k0 / 100 ≤ ka / 100) (hJ : Jall nx val nw to k0 lim en aims p ka st) (hv0 : st.2.2.2.1 ka = v0) (hl : v0 ≤ lim) (ht : ka % 100 ≠ to) : ∀ n : Nat, n ≤ 4 →
    Jall nx val nw to k0 lim en aims p ka (of4 aims to en nx (fun w => val ka w v0) ka st n) ∧ (∀ w, 0 ≤ w → w < (n : Int) → relw nx val en ka v0 (of4 aims to en nx (fun w => val ka w v0) ka st n) w) ∧ (∀ j, (of4 aims to en nx (fun w => val ka w v0) ka st n).2.2.2.1 j ≤ st.2.2.2.1 j) ∧ (of4 aims to en nx (fun w => val ka w v0) ka st n).1 ≤ st.1 ∧ (of4 aims to en nx (fun w => val ka w v0) ka st n).2.2.2.1 ka = v0
  | 0, _ => ⟨hJ, fun w a b => by omega, fun _ => Int.le_refl _, Int.le_refl _, hv0⟩
  | n + 1, hn => by
    obtain ⟨i1, i2, i3, i4, i5⟩ := J_of4 H hnw k0' k1' hk0 hJ hv0 hl ht n (by omega)
    obtain ⟨o1, o2, o3, o4, o5⟩ := J_ofp (w := n) H k0' k1' hk0 i1 i5 hl ht (by omega) (by omega)
    refine ⟨o1, fun w a b => ?_, fun j => Int.le_trans (o3 j) (i3 j), Int.le_trans o4 i4, o5⟩
    by_cases hw : w = n
    · subst hw; exact o2
    · exact relw_mono (i2 w a (by omega)) o3 o4
theorem J_gon (H : Hyp nx val nw to k0 lim aims p) (hnw : nw = if wt = 0 then 4 else 5) {st : Sst} {ka : Int} (k0' : 0 ≤ ka) (k1' : ka < 12000) (hk0 : k0 / 100 ≤ ka / 100) (hJ : Jall nx val nw to k0 lim en aims p ka st) : Jall nx val nw to k0 lim en aims p (ka + 1) (gon aims to en wt nx val ka st) := by
  have hJ1 := hJ.1.1
  have ext : ∀ st' : Sst, Jall nx val nw to k0 lim en aims p ka st' → rel nx val to en st' ka nw → Jall nx val nw to k0 lim en aims p (ka + 1) st' := by
    intro st' q1 q2
    refine ⟨q1.1, q1.2.1, fun j j0 j1 hj => ?_⟩
    by_cases hjk : j = ka
    · subst hjk; exact q2
    · exact q1.2.2 j j0 j1 (hj.imp id (fun z => by omega))
  by_cases hc : st.1 < st.2.2.2.1 ka ∨ ka % 100 = to
  · have e : gon aims to en wt nx val ka st = st := by rw [gon, if_pos hc]
    rw [e]
    refine ext st hJ (fun ht w w0 w1 hn he => ?_)
    have hlt : st.1 < st.2.2.2.1 ka := hc.resolve_right ht
    have b := hJ.1.2.1 ka k0' k1'
    refine Or.inr (Classical.byContradiction (fun z => ?_))
    have := H.2.1.2 ka w (st.2.2.2.1 ka) st.1 k0' k1' w0 w1 hn b.1 b.2.1 (fun q => ⟨b.2.2 q, hJ.1.2.2.2.2.2 q⟩) (by omega)
    omega
  · have hc1 : ¬ st.1 < st.2.2.2.1 ka := fun z => hc (Or.inl z)
    have ht : ka % 100 ≠ to := fun z => hc (Or.inr z)
    have hl : st.2.2.2.1 ka ≤ lim := by omega
    have e : gon aims to en wt nx val ka st = of4 aims to en nx (fun w => val ka w (st.2.2.2.1 ka)) ka (if wt = 0 then st else ofp aims to en nx (fun w => val ka w (st.2.2.2.1 ka)) ka st 4) 4 := by rw [gon, if_neg hc]
    rw [e]
    by_cases hw : wt = 0
    · rw [if_pos hw] at hnw ⊢
      obtain ⟨o1, o2, o3, o4, o5⟩ := J_of4 H (by omega) k0' k1' hk0 hJ rfl hl ht 4 (Nat.le_refl _)
      refine ext _ o1 (fun _ w w0 w1 hn he => ?_)
      rw [o5]
      exact o2 w w0 (by omega) hn he
    · rw [if_neg hw] at hnw ⊢
      obtain ⟨i1, i2, i3, i4, i5⟩ := J_ofp (w := 4) H k0' k1' hk0 hJ rfl hl ht (by omega) (by omega)
      obtain ⟨o1, o2, o3, o4, o5⟩ := J_of4 H (by omega) k0' k1' hk0 i1 i5 hl ht 4 (Nat.le_refl _)
      refine ext _ o1 (fun _ w w0 w1 hn he => ?_)
      rw [o5]
      by_cases h4 : w = 4
      · subst h4; exact relw_mono i2 o3 o4 hn he
      · exact o2 w w0 (by omega) hn he
theorem J_rst (H : Hyp nx val nw to k0 lim aims p) (hnw : nw = if wt = 0 then 4 else 5) {st : Sst} {a : Int} (h0 : 0 ≤ a) (hk0 : k0 / 100 ≤ a / 100) (hJ : Jall nx val nw to k0 lim en aims p a st) : ∀ n : Nat, a + n ≤ 12000 → Jall nx val nw to k0 lim en aims p (a + n) (rst (fun k st => gon aims to en wt nx val k st) st a n)
  | 0, _ => by simpa [rst] using hJ
  | n + 1, hn => by
    have ih := J_rst H hnw h0 hk0 hJ n (by omega)
    have e : a + ((n + 1 : Nat) : Int) = a + n + 1 := by omega
    simp only [rst]
    rw [e]
    split
    · exact J_gon H hnw (by omega) (by omega) (by omega) ih
    · next hf =>
      refine ⟨ih.1, ih.2.1, fun j j0 j1 hj => ?_⟩
      by_cases hjk : j = a + n
      · subst hjk; exact ih.2.2 _ j0 j1 (Or.inl (by simpa using hf))
      · exact ih.2.2 j j0 j1 (hj.imp id (fun z => by omega))
/-- what is found at the end -/
theorem J_end (H : Hyp nx val nw to k0 lim aims p) (hnw : nw = if wt = 0 then 4 else 5) {st : Sst} {fi : Int} (hf : 0 ≤ fi ∧ fi ≤ en ∧ en ≤ 119) (hk0 : k0 / 100 ≤ fi) (hJ : Jall nx val nw to k0 lim en aims p (100 * fi) st) {q : Sst} (hq : q = rst (fun k st => gon aims to en wt nx val k st) st (100 * fi) (100 * (en + 1 - fi)).toNat) :
    Jb nx val nw to k0 lim en aims q ∧ (aims ≠ 0 → Ja nx val nw to k0 lim en aims p q) ∧ (∀ n k v, qv nx val nw to k0 lim en n k v → v ≤ q.1 → k / 100 ≤ en → q.2.2.2.1 k ≤ v) := by
  have J := J_rst H hnw (by omega) (by omega) hJ (100 * (en + 1 - fi)).toNat (by omega)
  rw [← hq] at J
  have e : (100 * fi + (((100 * (en + 1 - fi)).toNat : Nat) : Int)) / 100 = en + 1 := by omega
  refine ⟨J.1, J.2.1, fun n k v h1 h2 h3 => ?_⟩
  obtain ⟨G, V, hlim, hp, h0, h1', ha, hto⟩ := H
  exact found G V hlim hp h0 h1' J.1 J.2.2 n k v h1 h2 (Or.inl (by rw [e]; omega))
/-- the cheapest and soonest -/
theorem end_cheap (H : Hyp nx val nw to k0 lim 1 p) (hen : en ≤ 119) {q : Sst} (hb : Jb nx val nw to k0 lim en 1 q) (hA : Ja nx val nw to k0 lim en 1 p q) (hF : ∀ n k v, qv nx val nw to k0 lim en n k v → v ≤ q.1 → k / 100 ≤ en → q.2.2.2.1 k ≤ v) :
    (q.2.2.1 = -1 ∧ ∀ n m v, 0 ≤ m → m ≤ en → m < 120 → qv nx val nw to k0 lim en n (100 * m + to) v → lim < v) ∨ (0 ≤ q.2.2.1 ∧ q.2.2.1 ≤ en ∧ q.2.1 ≤ lim ∧ (∃ n, qv nx val nw to k0 lim en n (100 * q.2.2.1 + to) q.2.1) ∧ (∀ n m v, 0 ≤ m → m ≤ en → m < 120 → qv nx val nw to k0 lim en n (100 * m + to) v → q.2.1 < v ∨ (q.2.1 = v ∧ q.2.2.1 ≤ m))) := by
  obtain ⟨G, V, hlim, hp, h0, h1', ha, hto⟩ := H
  have ht := hto (by decide)
  rcases hA with z | z
  · refine Or.inl ⟨z.1, fun n m v m0 m1 m2 h => Classical.byContradiction (fun hn => ?_)⟩
    have f := hF n _ v h (by omega) (by omega)
    have := hb.2.2.2.1 (by decide) m m0 m2
    omega
  · obtain ⟨a0, a1, a2, a3, a4, _, a6, _⟩ := z
    have a4' := a4 rfl
    have low : ∀ n m v, 0 ≤ m → m ≤ en → m < 120 → qv nx val nw to k0 lim en n (100 * m + to) v → q.2.1 ≤ v := by
      intro n m v m0 m1 m2 h
      refine Classical.byContradiction (fun hn => ?_)
      have f := hF n _ v h (by omega) (by omega)
      have := hb.2.2.2.1 (by decide) m m0 m2
      omega
    have hr := hb.2.1 (100 * q.2.2.1 + to)
    refine Or.inr ⟨a0, a1, a3, ?_, fun n m v m0 m1 m2 h => ?_⟩
    · have h120 : q.2.2.1 < 120 := by omega
      · obtain ⟨n, v, hv, hle⟩ := hb.2.2.1 (100 * q.2.2.1 + to) (by omega) (by omega) (by rw [a2]; exact a3)
        have := low n q.2.2.1 v a0 a1 h120 hv
        rw [a2] at hle
        have e : v = q.2.1 := by omega
        subst e
        exact ⟨n, hv⟩
    · have l := low n m v m0 m1 m2 h
      by_cases hm : m < q.2.2.1
      · have := (a6 n m v h hm).1 rfl; omega
      · omega
/-- what isn't live has not been come to -/
def Jl (st : Sst) : Prop := ∀ j, 0 ≤ j → j < 12000 → st.2.2.2.2 j = false → st.2.2.2.1 j = 268435456
theorem Jl_ofr {st : Sst} {k v : Int} (h : Jl st) : Jl (ofr aims to st k v) := by
  intro j j0 j1 hj
  simp only [ofr] at hj ⊢
  split at hj
  · next hc =>
    rw [if_pos hc]
    replace hj : upI st.2.2.2.2 k true j = false := hj
    show upI st.2.2.2.1 k v j = _
    by_cases hk : j = k
    · subst hk; rw [upI_s] at hj; exact absurd hj (by decide)
    · rw [upI_n hk] at hj ⊢; exact h j j0 j1 hj
  · next hc => rw [if_neg hc]; exact h j j0 j1 hj
theorem Jl_ofp {st : Sst} {k w : Int} {f : Int → Int} (h : Jl st) : Jl (ofp aims to en nx f k st w) := by
  simp only [ofp]
  split
  · exact Jl_ofr h
  · exact h
theorem Jl_of4 {st : Sst} {k : Int} {f : Int → Int} (h : Jl st) : ∀ n, Jl (of4 aims to en nx f k st n)
  | 0 => h
  | n + 1 => Jl_ofp (Jl_of4 h n)
theorem Jl_gon {st : Sst} {k : Int} (h : Jl st) : Jl (gon aims to en wt nx val k st) := by
  simp only [gon]
  split
  · exact h
  · refine Jl_of4 ?_ 4
    split
    · exact h
    · exact Jl_ofp h
theorem Jl_rst {st : Sst} {a : Int} (h : Jl st) : ∀ n, Jl (rst (fun k st => gon aims to en wt nx val k st) st a n)
  | 0 => h
  | n + 1 => by
    simp only [rst]
    split
    · exact Jl_gon (Jl_rst h n)
    · exact Jl_rst h n
end SF
